/-! Trays, tape, marks, compositions, ways. -/
def t7 (f : Nat) : Bool := tQ f || f == 7
def t57 (f : Nat) : Bool := tY f || f == 7
def t8 (f : Nat) : Bool := [8, 10].contains f
section GV
variable {x m q q2 c t a len p ls wl b : Nat} {z am ow tq ta sa : Nat → Nat} {w : Nat → Nat → Nat} {V T : Nat → Bool} {S S1 S2 : St} {im : Nat → Prop} {M : Mk} {Ms : Nat → Mk} {Y : Nat → Yt} {F F' G : FI} {J J' : FJ} {R : FR}
theorem gB.h2 (h : gB x am S im M) (ht : Tn x m am V T ow S S2) (hi : gIm ow S im) (hv : V 11 = false) (h0 : ∀ k, k < 2420 → gI S2 (am 0) k = gI S (am 0) k) (h1 : ∀ k, k < 12 → gJ S2 (am 1) k = gJ S (am 1) k) (h7 : gR S2 x 7 = gR S x 7) (h8 : gR S2 x 8 = gR S x 8) (h9 : gR S2 x 9 = gR S x 9) : gB x am S2 im M := by
  obtain ⟨u1, u2⟩ := h
  refine ⟨?_, u2.all u1.1 u1.pw.1 u1.pw.2 h0 h1⟩
  rw [h7, h8, h9]; exact u1.sm (ht.sim hv hi)
theorem GO.ty {s : Int32} {Y' : Nat → Yt} (h : GO x m z w S q len p ls ow im M c Ms tq ta Y t a sa wl) (hk : Kp tQ m (w 0) (upI (gI S) x 0 s) F') (h2 : F' m 2 = s) (hJ : ∀ a, a ≠ w 0 7 → (∀ i, i < 4 → Y i ≠ none → a ≠ ta i) → J' a = gJ S a) (hY : TrX (wA S F' J' (gR S)) x (z 13) tq ta (w 0) Y') (hYY : ∀ i, Y' i = none ↔ Y i = none) : GO x m z w (wA S F' J' (gR S)) q len p ls ow im M c Ms tq ta Y' t a sa wl := by
  obtain ⟨hx, ox, gm, gq, gb, gk, gt, gp, gr, gd, gs, ge, gc, gi⟩ := h
  have oo : ∀ e, kd S e ≠ 0 → ow e = ow e := fun _ _ => rfl
  have kx := nz hx (by decide)
  have jo : ∀ e, e ≠ w 0 7 → ow e ≠ 3 → J' e = gJ S e := fun e e7 e3 => hJ e e7 (fun i hi hy h => e3 (by rw [h]; exact (gt.2.2.2 i hi hy).2))
  have hk7 : Kp t7 m (w 0) (upI (gI S) x 0 s) F' := hk.mono (fun f hf => by unfold t7; rw [hf]; rfl)
  have ht : Tn x m (w 0) (v1 3) t7 ow S (wA S F' J' (gR S)) := Tn.mk2 (S1 := wA S (upI (gI S) x 0 s) (fun e => if ow e = 3 then J' e else gJ S e) (gR S)) (W := fun e => e = x ∨ ow e = 3) ox gm.1 gm.2.1 gm.2.2.1 (fun e he => ⟨rfl, rfl, fun hw => ⟨up_ne (fun y => hw (Or.inl y)), if_neg (fun y => hw (Or.inr y)), rfl⟩⟩) rfl rfl (fun e _ he => by
    rcases he with e1 | e1
    · rw [e1, ox]; exact ⟨rfl, by decide⟩
    · rw [e1]; exact ⟨rfl, by decide⟩) (fun _ _ _ _ => rfl) hk7 (fun e he em hne => by
    show J' e = if ow e = 3 then J' e else gJ S e
    by_cases e3 : ow e = 3
    · rw [if_pos e3]
    · rw [if_neg e3]; exact jo e (hne 7 (by decide) rfl) e3)
  have fx : F' x = upI (gI S) x 0 s x := hk.o gm (Or.inl (n2 ox (by decide)))
  have a0 := (ht.2.2.2.1 0 (by decide) rfl).1
  have a1 := (ht.2.2.2.1 1 (by decide) rfl).2
  have lab : ∀ {e : Nat}, ow e ≠ 2 → e ≠ w 0 7 := fun h2 e => h2 (by rw [e]; exact gm.2.2.1 7 (by decide))
  have jm : J' m = gJ S m := jo m (Ne.symm (gm.1.o 7)) (by rw [gm.2.1]; decide)
  have jx : J' x = gJ S x := jo x (lab (n2 ox (by decide))) (by rw [ox]; decide)
  refine ⟨hx, ox, gm.ht ht oo (gm.2.2.2.ht ht rfl rfl), ⟨?_, ?_, ?_⟩, gb.ht ht gi rfl a0 a1 rfl rfl rfl, gk.ht gm ht oo gi rfl rfl rfl ?_ (fun k _ _ => by rw [a0]) (fun k _ _ => by rw [a1]), ⟨hY, ⟨fun i j hi hj hij y1 y2 => gt.2.1.1 i j hi hj hij (fun z => y1 ((hYY i).mpr z)) (fun z => y2 ((hYY j).mpr z)), fun i f hi y1 hf => gt.2.1.2 i f hi (fun z => y1 ((hYY i).mpr z)) hf⟩, gt.2.2.1, fun i hi hy => gt.2.2.2 i hi (fun z => hy ((hYY i).mpr z))⟩, gp.ht ht oo rfl rfl rfl rfl rfl, gr.ht ht oo (fun e he h5 => rfl), gd.ht ht oo rfl, gs.ht ht oo rfl, ge.ht ht oo gi rfl rfl rfl rfl, gc.ht ht oo rfl rfl rfl, gi.ht ht oo⟩
  · show F' m 2 = F' x 0
    rw [h2, fx, up_at]
  · show J' m 3 = J' x 1
    rw [jm, jx]; exact gq.2.1
  · show J' m 4 = J' x 2
    rw [jm, jx]; exact gq.2.2
  · show F' x 13 = _
    rw [fx, up_no (by decide)]
theorem GO.tn {tq' ta' : Nat → Nat} {Y' : Nat → Yt} (h : GO x m z w S q len p ls ow im M c Ms tq ta Y t a sa wl) (fr : Fr (fun e => e = x ∨ e = z 13) S S1) (xk : Xk S S1 x) (hD : TrD Y' ta' (w 0)) (hn : ∀ k, k < 4 → Y' k ≠ none → (Y k ≠ none ∧ tq' k = tq k ∧ ta' k = ta k) ∨ (kd S (tq' k) = 0 ∧ kd S (ta' k) = 0)) (hk : Kp tY m (w 0) (gI S1) F') (h2 : F' m 2 = gI S1 x 0) (hJ : ∀ a, a ≠ w 0 7 → J' a = gJ S1 a) (hY : TrX (wA S1 F' J' (gR S1)) x (z 13) tq' ta' (w 0) Y') : GO x m z w (wA S1 F' J' (gR S1)) q len p ls (nl S 3 ow) im M c Ms tq' ta' Y' t a sa wl := by
  obtain ⟨hx, ox, gm, gq, gb, gk, gt, gp, gr, gd, gs, ge, gc, gi⟩ := h
  have ho : ∀ e, kd S e ≠ 0 → nl S 3 ow e = ow e := fun e he => nl_o he
  have kx := nz hx (by decide)
  have km := nz gm.1.z (by decide)
  have hk7 : Kp t57 m (w 0) (gI S1) F' := hk.mono (fun f hf => by unfold t57; rw [hf]; rfl)
  have ht : Tn x m (w 0) (v1 3) t57 ow S (wA S1 F' J' (gR S1)) := Tn.mk2 (S1 := S1) ox gm.1 gm.2.1 gm.2.2.1 fr rfl rfl (fun e _ he => by
    rcases he with e1 | e1
    · rw [e1, ox]; exact ⟨rfl, by decide⟩
    · rw [e1, gt.2.2.1]; exact ⟨rfl, by decide⟩) (fun j _ _ _ => by rw [xk.2.1]) hk7 (fun e _ _ hne => hJ e (hne 7 (by decide) rfl))
  have fx : F' x = gI S1 x := hk.o gm (Or.inl (n2 ox (by decide)))
  have a0 := (ht.2.2.2.1 0 (by decide) rfl).1
  have a1 := (ht.2.2.2.1 1 (by decide) rfl).2
  have jm : J' m = gJ S m := by
    rw [hJ m (Ne.symm (gm.1.o 7))]
    refine ((fr m km).2.2 (fun e => ?_)).2.1
    rcases e with e | e
    · exact x_m hx gm.1 e
    · exact (n2 gt.2.2.1 (by decide)) (by rw [← e]; exact gm.2.1)
  have jx : J' x = gJ S x := by
    rw [hJ x (fun e => n2 ox (by decide) (by rw [e]; exact gm.2.2.1 7 (by decide)))]; exact xk.1
  have xR : gR (wA S1 F' J' (gR S1)) x = gR S x := xk.2.1
  refine ⟨(ht.1 x kx).1.trans hx, (ho x kx).trans ox, gm.ht ht ho (gm.2.2.2.ht ht rfl rfl), ⟨?_, ?_, ?_⟩, gb.ht ht gi rfl a0 a1 (by rw [xR]) (by rw [xR]) (by rw [xR]), gk.ht gm ht ho gi rfl rfl rfl ?_ (fun k _ _ => by rw [a0]) (fun k _ _ => by rw [a1]), ⟨hY, hD, (ho _ (nz gt.1.2.1 (by decide))).trans gt.2.2.1, fun i hi hy => ?_⟩, gp.ht ht ho rfl rfl rfl rfl rfl, gr.ht ht ho (fun e he h5 => (ht.2.1 e he (by rw [h5]; rfl)).2.2), gd.ht ht ho ((ht.2.1 _ (nz gd.2.1.1 (by decide)) (by rw [gd.2.2.1]; rfl)).2.2), gs.ht ht ho rfl, ge.ht ht ho gi rfl rfl rfl rfl, gc.ht ht ho rfl rfl rfl, gi.ht ht ho⟩
  · show F' m 2 = F' x 0
    rw [h2, fx]
  · show J' m 3 = J' x 1
    rw [jm, jx]; exact gq.2.1
  · show J' m 4 = J' x 2
    rw [jm, jx]; exact gq.2.2
  · show F' x 13 = _
    rw [fx, xk.2.2 13 (by decide)]
  · rcases hn i hi hy with ⟨y0, y1, y2⟩ | ⟨y1, y2⟩
    · have hl := gt.2.2.2 i hi y0
      have hkk := (gt.1.2.2.2 i hi).k y0
      rw [y1, y2]
      exact ⟨(ho _ (nz hkk.1 (by decide))).trans hl.1, (ho _ (nz hkk.2 (by decide))).trans hl.2⟩
    · exact ⟨nl_n y1, nl_n y2⟩
theorem GO.fd {t' : Nat} (h : GO x m z w S q len p ls ow im M c Ms tq ta Y t a sa wl) (hF : ∀ a, a ≠ z 2 → a ≠ z 3 → a ≠ m → a ≠ w 0 8 → F' a = gI S a) (hkj : ∀ j, j ≠ 1 → F' (z 2) j = gI S (z 2) j) (hm : ∀ j, j ≠ 10 → F' m j = gI S m j) (hT : TpX (wI S F') x (z 2) (z 3) m (w 0) t') : GO x m z w (wI S F') q len p ls ow im M c Ms tq ta Y t' a sa wl := by
  obtain ⟨hx, ox, gm, gq, gb, gk, gt, gp, gr, gd, gs, ge, gc, gi⟩ := h
  have oo : ∀ e, kd S e ≠ 0 → ow e = ow e := fun _ _ => rfl
  have kx := nz hx (by decide)
  obtain ⟨p1, p2, ⟨p3, p4⟩, l1, l2, l3⟩ := gp
  have ht : Tn x m (w 0) (v1 4) t8 ow S (wI S F') := Tn.mk2 (S1 := wI S (fun e => if ow e = 4 then F' e else gI S e)) (W := fun e => ow e = 4) (J' := gJ S) ox gm.1 gm.2.1 gm.2.2.1 (fun e he => ⟨rfl, rfl, fun hw => ⟨if_neg hw, rfl, rfl⟩⟩) rfl rfl (fun e _ he => by rw [he]; exact ⟨rfl, by decide⟩) (fun _ _ _ _ => rfl) ⟨fun e em hne => by
    show F' e = if ow e = 4 then F' e else gI S e
    by_cases e4 : ow e = 4
    · rw [if_pos e4]
    · rw [if_neg e4]
      exact hF e (fun y => e4 (by rw [y]; exact l1)) (fun y => e4 (by rw [y]; exact l2)) em (hne 8 (by decide) rfl), fun j hj => by
    show F' m j = (if ow m = 4 then F' m else gI S m) j
    rw [if_neg (by rw [gm.2.1]; decide)]
    exact hm j (fun y => by rw [y] at hj; cases hj)⟩ (fun _ _ _ _ => rfl)
  have lab : ∀ {e : Nat}, ow e ≠ 2 → ow e ≠ 4 → F' e = gI S e := fun h2 h4 => hF _ (fun y => h4 (by rw [y]; exact l1)) (fun y => h4 (by rw [y]; exact l2)) (fun y => h2 (by rw [y]; exact gm.2.1)) (fun y => h2 (by rw [y]; exact gm.2.2.1 8 (by decide)))
  have fx : F' x = gI S x := lab (n2 ox (by decide)) (by rw [ox]; decide)
  have a0 := (ht.2.2.2.1 0 (by decide) rfl).1
  refine ⟨hx, ox, gm.ht ht oo (gm.2.2.2.ht ht rfl rfl), ⟨?_, gq.2.1, gq.2.2⟩, gb.ht ht gi rfl a0 rfl rfl rfl rfl, gk.ht gm ht oo gi rfl rfl rfl ?_ (fun k _ _ => by rw [a0]) (fun _ _ _ => rfl), gt.ht ht oo rfl rfl rfl rfl, ⟨hT, p2, ⟨?_, ?_⟩, l1, l2, l3⟩, gr.ht ht oo (fun _ _ _ => rfl), gd.ht ht oo rfl, gs.ht ht oo rfl, ge.ht ht oo gi rfl rfl rfl rfl, gc.ht ht oo rfl rfl rfl, gi.ht ht oo⟩
  · show F' m 2 = F' x 0
    rw [hm 2 (by decide), fx]; exact gq.1
  · show F' x 13 = _
    rw [fx]
  · show F' m 16 = F' (z 2) 9
    rw [hm 16 (by decide), hkj 9 (by decide)]; exact p3
  · show F' m 17 = F' (z 2) 10
    rw [hm 17 (by decide), hkj 10 (by decide)]; exact p4
theorem GO.mr {c' : Nat} {Ms' : Nat → Mk} (h : GO x m z w S q len p ls ow im M c Ms tq ta Y t a sa wl) (hF : ∀ a, a ≠ x → F a = gI S a) (hxj : ∀ j, j ≠ 0 → j ≠ 13 → F x j = gI S x j) (hR : ∀ a, a ≠ z 7 → a ≠ z 8 → a ≠ z 9 → R a = gR S a) (hk : Kp t50 m (w 0) F F') (h2 : F' m 2 = F x 0) (h0 : ∀ k, (k < 2420 ∨ 9680 ≤ k) → F' (w 0 0) k = gI S (w 0 0) k) (hJ : ∀ a, a ≠ w 0 1 → J' a = gJ S a) (h1 : ∀ k, (k < 12 ∨ 48 ≤ k) → J' (w 0 1) k = gJ S (w 0 1) k) (hM : MKx (wA S F' J' R) x (z 7) (z 8) (z 9) m (w 0) im c' Ms') : GO x m z w (wA S F' J' R) q len p ls ow im M c' Ms' tq ta Y t a sa wl := by
  obtain ⟨hx, ox, gm, gq, gb, gk, gt, gp, gr, gd, gs, ge, gc, gi⟩ := h
  have oo : ∀ e, kd S e ≠ 0 → ow e = ow e := fun _ _ => rfl
  have kx := nz hx (by decide)
  obtain ⟨g1, l7, l8, l9⟩ := gk
  have r7 : ∀ {e : Nat}, ow e ≠ 7 → R e = gR S e := fun h => hR _ (fun y => h (by rw [y]; exact l7)) (fun y => h (by rw [y]; exact l8)) (fun y => h (by rw [y]; exact l9))
  have ht : Tn x m (w 0) (v1 7) t50 ow S (wA S F' J' R) := Tn.mk2 (S1 := wA S F (gJ S) R) (W := fun e => e = x ∨ ow e = 7) ox gm.1 gm.2.1 gm.2.2.1 (fun e he => ⟨rfl, rfl, fun hw => ⟨hF e (fun y => hw (Or.inl y)), rfl, r7 (fun y => hw (Or.inr y))⟩⟩) rfl rfl (fun e _ he => by
    rcases he with e1 | e1
    · rw [e1, ox]; exact ⟨rfl, by decide⟩
    · rw [e1]; exact ⟨rfl, by decide⟩) (fun j _ _ _ => by show R x j = _; rw [r7 (by rw [ox]; decide)]) hk (fun e _ _ hne => hJ e (hne 1 (by decide) rfl))
  have fx : F' x = F x := hk.o gm (Or.inl (n2 ox (by decide)))
  have xR : R x = gR S x := r7 (by rw [ox]; decide)
  have xa : x ≠ w 0 1 := fun e => n2 ox (by decide) (by rw [e]; exact gm.2.2.1 1 (by decide))
  refine ⟨hx, ox, gm.ht ht oo (gm.2.2.2.ht ht rfl rfl), ⟨?_, ?_, ?_⟩, gb.h2 ht gi rfl (fun k hk' => h0 k (Or.inl hk')) (fun k hk' => h1 k (Or.inl hk')) (by show R x 7 = _; rw [xR]) (by show R x 8 = _; rw [xR]) (by show R x 9 = _; rw [xR]), ⟨hM, l7, l8, l9⟩, gt.ht ht oo rfl rfl rfl rfl, gp.ht ht oo rfl rfl rfl rfl rfl, gr.ht ht oo (fun e he h5 => r7 (by rw [h5]; decide)), gd.ht ht oo (r7 (by rw [gd.2.2.1]; decide)), gs.ht ht oo rfl, ge.ht ht oo gi rfl rfl rfl rfl, gc.ht ht oo rfl rfl rfl, gi.ht ht oo⟩
  · show F' m 2 = F' x 0
    rw [h2, fx]
  · show J' m 3 = J' x 1
    rw [hJ m (Ne.symm (gm.1.o 1)), hJ x xa]; exact gq.2.1
  · show J' m 4 = J' x 2
    rw [hJ m (Ne.symm (gm.1.o 1)), hJ x xa]; exact gq.2.2
theorem GO.bk {c' b' : Nat} {B' : Bk} {ot' : Option (Tc × Pg)} {o' : Option Tc} (h : GO x m z w S q len p ls ow im M c Ms tq ta Y t a sa wl) (hF : ∀ a, a ≠ x → F a = gI S a) (hxj : ∀ j, j ≠ 0 → j ≠ 13 → F x j = gI S x j) (hR : ∀ a, a ≠ x → R a = gR S a) (hRx : ∀ j, j ≠ 7 → j ≠ 8 → j ≠ 9 → R x j = gR S x j) (hk : Kp t50 m (w 0) F F') (h2 : F' m 2 = F x 0) (hJ : ∀ a, a ≠ w 0 1 → J' a = gJ S a) (hM : MKx (wA S F' J' R) x (z 7) (z 8) (z 9) m (w 0) im c' Ms) (hC : CB (wA S F' J' R) x b' m (w 0) im B') (hT : TC (wA S F' J' R) x (w 0) im B' ot') (hr : RC (wA S F' J' R) x (w 0) im (bn B') o') (hN : ∀ i, i < bM B' → nmq (bnm B' i) (J' (w 0 1) i)) : GO x m z w (wA S F' J' R) q len p ls ow im (b', B', ot', o') c' Ms tq ta Y t a sa wl := by
  obtain ⟨hx, ox, gm, gq, gb, gk, gt, gp, gr, gd, gs, ge, gc, gi⟩ := h
  have oo : ∀ e, kd S e ≠ 0 → ow e = ow e := fun _ _ => rfl
  obtain ⟨g1, l7, l8, l9⟩ := gk
  have ht : Tn x m (w 0) v0 t50 ow S (wA S F' J' R) := Tn.mk2 (S1 := wA S F (gJ S) R) (W := fun e => e = x) ox gm.1 gm.2.1 gm.2.2.1 (fun e he => ⟨rfl, rfl, fun hw => ⟨hF e hw, rfl, hR e hw⟩⟩) rfl rfl (fun e _ he => by rw [he, ox]; exact ⟨rfl, by decide⟩) hRx hk (fun e _ _ hne => hJ e (hne 1 (by decide) rfl))
  have fx : F' x = F x := hk.o gm (Or.inl (n2 ox (by decide)))
  have xa : x ≠ w 0 1 := fun e => n2 ox (by decide) (by rw [e]; exact gm.2.2.1 1 (by decide))
  have nx' : ∀ {e L : Nat}, ow e = L → L ≠ 1 → e ≠ x := fun h1 h2 e => h2 (by rw [← h1, e]; exact ox)
  obtain ⟨cl, sl⟩ := mk_run hC hT hr (N := J' (w 0 1)) hN
  refine ⟨hx, ox, gm.ht ht oo (gm.2.2.2.ht ht rfl rfl), ⟨?_, ?_, ?_⟩, ⟨cl, sl⟩, ⟨hM, l7, l8, l9⟩, gt.ht ht oo rfl rfl rfl rfl, gp.ht ht oo rfl rfl rfl rfl rfl, gr.ht ht oo (fun e he h5 => hR e (nx' h5 (by decide))), gd.ht ht oo (hR _ (nx' gd.2.2.1 (by decide))), gs.ht ht oo rfl, ge.ht ht oo gi rfl rfl rfl rfl, gc.ht ht oo rfl rfl rfl, gi.ht ht oo⟩
  · show F' m 2 = F' x 0
    rw [h2, fx]
  · show J' m 3 = J' x 1
    rw [hJ m (Ne.symm (gm.1.o 1)), hJ x xa]; exact gq.2.1
  · show J' m 4 = J' x 2
    rw [hJ m (Ne.symm (gm.1.o 1)), hJ x xa]; exact gq.2.2
theorem GO.cp {a' len' p' : Nat} (h : GO x m z w S q len p ls ow im M c Ms tq ta Y t a sa wl) (fr : Fr (WC x (z 10) a (z 12) (w 4)) S S1) (xk : Xk S S1 x) (hc : (a' = a ∧ len' = len) ∨ gz S a' len len') (sx : SX S1 (z 10) a' len' p') (hC : CoX S1 (z 12) (w 4)) (hk : Kp tC m (w 0) (gI S1) F') (h2 : F' m 2 = gI S1 x 0) (hO : COr (wI S1 F') (z 12) m (w 4) (w 0)) : GO x m z w (wI S1 F') q len' p' ls (nl S 8 ow) im M c Ms tq ta Y t a' sa wl := by
  obtain ⟨hx, ox, gm, gq, gb, gk, gt, gp, gr, gd, gs, ge, gc, gi⟩ := h
  obtain ⟨s0, sX, l1, l2⟩ := gs
  obtain ⟨c0, cX, -, k1, k2⟩ := gc
  have kx := nz hx (by decide)
  have km := nz gm.1.z (by decide)
  have ks := nz sX.1 (by decide)
  have ka := nz sX.2.2.1 (by decide)
  have ho : ∀ e, kd S e ≠ 0 → nl S 8 ow e = ow e := fun e he => nl_o he
  have wl' : ∀ e, WC x (z 10) a (z 12) (w 4) e → v2 8 10 (ow e) = true ∧ ow e ≠ 2 := fun e he => by
    rcases he with e1 | e1 | e1 | e1 | ⟨f, hf, e1⟩
    · rw [e1, ox]; exact ⟨rfl, by decide⟩
    · rw [e1, l1]; exact ⟨rfl, by decide⟩
    · rw [e1, l2]; exact ⟨rfl, by decide⟩
    · rw [e1, k1]; exact ⟨rfl, by decide⟩
    · rw [e1, k2 f hf]; exact ⟨rfl, by decide⟩
  have ht : Tn x m (w 0) (v2 8 10) tC ow S (wI S1 F') := Tn.mk2 (S1 := S1) (J' := gJ S1) ox gm.1 gm.2.1 gm.2.2.1 fr rfl rfl (fun e _ he => wl' e he) (fun j _ _ _ => by rw [xk.2.1]) hk (fun _ _ _ _ => rfl)
  have fx : F' x = gI S1 x := hk.o gm (Or.inl (n2 ox (by decide)))
  have fs : F' (z 10) = gI S1 (z 10) := hk.o gm (Or.inl (n2 l1 (by decide)))
  have a8 : nl S 8 ow a' = 8 := by
    rcases hc with ⟨y, -⟩ | y
    · rw [y, nl_o ka]; exact l2
    · exact nl_n y.1
  have fa : F' a' = gI S1 a' := hk.o gm (by
    rcases hc with ⟨y, -⟩ | y
    · exact Or.inl (by rw [y]; exact n2 l2 (by decide))
    · exact Or.inr y.1)
  have a0 := (ht.2.2.2.1 0 (by decide) rfl).1
  have a1 := (ht.2.2.2.1 1 (by decide) rfl).2
  have mj : gJ S1 m = gJ S m := ((fr m km).2.2 (fun e => (wl' m e).2 gm.2.1)).2.1
  have xR : gR (wI S1 F') x = gR S x := xk.2.1
  obtain ⟨y1, y2, y3, y4, y5, y6, y7⟩ := sx
  refine ⟨(ht.1 x kx).1.trans hx, (ho x kx).trans ox, gm.ht ht ho (gm.2.2.2.ht ht rfl rfl), ⟨?_, ?_, ?_⟩, gb.ht ht gi rfl a0 a1 (by rw [xR]) (by rw [xR]) (by rw [xR]), gk.ht gm ht ho gi rfl rfl rfl ?_ (fun k _ _ => by rw [a0]) (fun k _ _ => by rw [a1]), gt.ht ht ho rfl rfl rfl rfl, gp.ht ht ho rfl rfl rfl rfl rfl, gr.ht ht ho (fun e he h5 => (ht.2.1 e he (by rw [h5]; rfl)).2.2), gd.ht ht ho ((ht.2.1 _ (nz gd.2.1.1 (by decide)) (by rw [gd.2.2.1]; rfl)).2.2), ⟨by rw [xR]; exact s0, ⟨y1, y2, y3, y4, ?_, y6, ?_⟩, (ho _ ks).trans l1, a8⟩, ge.ht ht ho gi rfl rfl rfl rfl, ⟨by rw [xR]; exact c0, hC, hO, (ho _ (nz cX.1 (by decide))).trans k1, fun f hf => (ho _ (nz (cX.k f hf) (by decide))).trans (k2 f hf)⟩, gi.ht ht ho⟩
  · show F' m 2 = F' x 0
    rw [h2, fx]
  · show gJ S1 m 3 = gJ S1 x 1
    rw [mj, xk.1]; exact gq.2.1
  · show gJ S1 m 4 = gJ S1 x 2
    rw [mj, xk.1]; exact gq.2.2
  · show F' x 13 = _
    rw [fx, xk.2.2 13 (by decide)]
  · show F' (z 10) 1 = _
    rw [fs]; exact y5
  · show M0 (F' a') _ _
    rw [fa]; exact y7
theorem GO.wy {sa1 : Nat → Nat} {len1 wl1 q' : Nat} (h : GO x m z w S q len p ls ow im M c Ms tq ta Y t a sa wl) (fr : Fr (WW x (z 11) sa) S S1) (xk : Xk S S1 x) (fs : ∀ f, seF f = true → sa1 f = sa f ∨ kd S (sa1 f) = 0) (hX : SeX S1 (z 11) sa1 len1 wl1) (hO : SeO S1 (z 11) sa1 im len1) (hk : Kp tF m (w 0) (gI S1) F') (h2 : F' m 2 = gI S1 x 0) (hs : SM F' m (w 0) q') (hW : WyR (wI S1 F') (z 11) m sa1 (w 0) wl1) : GO x m z w (wI S1 F') q' len p len1 (nl S 9 ow) im M c Ms tq ta Y t a sa1 wl1 := by
  obtain ⟨hx, ox, gm, gq, gb, gk, gt, gp, gr, gd, gs, ge, gc, gi⟩ := h
  obtain ⟨s0, sX, -, -, l1, l2⟩ := ge
  have kx := nz hx (by decide)
  have km := nz gm.1.z (by decide)
  have ks := nz sX.1 (by decide)
  have ka : ∀ f, seF f = true → kd S (sa f) ≠ 0 := fun f hf => nz (sX.k f hf) (by decide)
  have ho : ∀ e, kd S e ≠ 0 → nl S 9 ow e = ow e := fun e he => nl_o he
  have wl' : ∀ e, WW x (z 11) sa e → v1 9 (ow e) = true ∧ ow e ≠ 2 := fun e he => by
    rcases he with e1 | e1 | ⟨f, hf, e1⟩
    · rw [e1, ox]; exact ⟨rfl, by decide⟩
    · rw [e1, l1]; exact ⟨rfl, by decide⟩
    · rw [e1, l2 f hf]; exact ⟨rfl, by decide⟩
  have ht : Tn x m (w 0) (v1 9) tF ow S (wI S1 F') := Tn.mk2 (S1 := S1) (J' := gJ S1) ox gm.1 gm.2.1 gm.2.2.1 fr rfl rfl (fun e _ he => wl' e he) (fun j _ _ _ => by rw [xk.2.1]) hk (fun _ _ _ _ => rfl)
  have fx : F' x = gI S1 x := hk.o gm (Or.inl (n2 ox (by decide)))
  have fse : F' (z 11) = gI S1 (z 11) := hk.o gm (Or.inl (n2 l1 (by decide)))
  have fsa : ∀ f, seF f = true → F' (sa1 f) = gI S1 (sa1 f) := fun f hf => hk.o gm (by
    rcases fs f hf with y | y
    · exact Or.inl (by rw [y]; exact n2 (l2 f hf) (by decide))
    · exact Or.inr y)
  have lsa : ∀ f, seF f = true → nl S 9 ow (sa1 f) = 9 := fun f hf => by
    rcases fs f hf with y | y
    · rw [y, nl_o (ka f hf)]; exact l2 f hf
    · exact nl_n y
  have a0 := (ht.2.2.2.1 0 (by decide) rfl).1
  have a1 := (ht.2.2.2.1 1 (by decide) rfl).2
  have mj : gJ S1 m = gJ S m := ((fr m km).2.2 (fun e => (wl' m e).2 gm.2.1)).2.1
  have xR : gR (wI S1 F') x = gR S x := xk.2.1
  refine ⟨(ht.1 x kx).1.trans hx, (ho x kx).trans ox, gm.ht ht ho hs, ⟨?_, ?_, ?_⟩, gb.ht ht gi rfl a0 a1 (by rw [xR]) (by rw [xR]) (by rw [xR]), gk.ht gm ht ho gi rfl rfl rfl ?_ (fun k _ _ => by rw [a0]) (fun k _ _ => by rw [a1]), gt.ht ht ho rfl rfl rfl rfl, gp.ht ht ho rfl rfl rfl rfl rfl, gr.ht ht ho (fun e he h5 => (ht.2.1 e he (by rw [h5]; rfl)).2.2), gd.ht ht ho ((ht.2.1 _ (nz gd.2.1.1 (by decide)) (by rw [gd.2.2.1]; rfl)).2.2), gs.ht ht ho rfl, ⟨by rw [xR]; exact s0, hX, fun b0 hb0 => ?_, hW, (ho _ ks).trans l1, lsa⟩, gc.ht ht ho rfl rfl rfl, gi.ht ht ho⟩
  · show F' m 2 = F' x 0
    rw [h2, fx]
  · show gJ S1 m 3 = gJ S1 x 1
    rw [mj, xk.1]; exact gq.2.1
  · show gJ S1 m 4 = gJ S1 x 2
    rw [mj, xk.1]; exact gq.2.2
  · show F' x 13 = _
    rw [fx, xk.2.2 13 (by decide)]
  · obtain ⟨B0, u1, u2, v1', v2', v3, v4, v5⟩ := hO b0 hb0
    have f2 := fsa 2 (by decide)
    refine ⟨B0, u1, u2.sm (fun e he => ⟨rfl, rfl, hk.o gm (Or.inl (n2 (gi e he).2 (by decide))), rfl, rfl⟩), v1', ?_, ?_, ?_, ?_⟩
    · show F' (z 11) 6 = _
      rw [fse]; exact v2'
    · show ∀ j, 1 ≤ j → j < bC (bfi B0) → F' (sa1 2) _ = _
      rw [f2]; exact v3
    · show F' (sa1 2) 0 = _
      rw [f2]; exact v4
    · show ∀ r, r < fac (bn B0) → us (bF (bfi B0)) (bC (bfi B0)) r = false → F' (sa1 2) r = 0
      rw [f2]; exact v5
end GV
