/-! What the other calls leave of the relation. -/
def v2 (K L l : Nat) : Bool := l == 1 || l == 2 || l == K || l == L
theorem BM.n6 {B : Bk} {A A2 : Nat → Int32} (hb : bok B) (h : BM B A) (ha : ∀ k, k < 410 → k ≠ 6 → A2 k = A k) : BM B A2 := by
  obtain ⟨h1, h2, h3, h4⟩ := h.lo (A2 := fun k => if k = 6 then A 6 else A2 k) hb (fun k hk => by
    by_cases c : k = 6
    · rw [if_pos c, c]
    · rw [if_neg c]; exact ha k hk c)
  have e : ∀ j, j ≠ 6 → A2 j = (if j = 6 then A 6 else A2 j) := fun j hj => (if_neg hj).symm
  refine ⟨(e 0 (by decide)).trans h1, (e 1 (by decide)).trans h2, (e 3 (by decide)).trans h3, fun m hm => ?_⟩
  obtain ⟨u1, u2, u3, u4⟩ := h4 m hm
  exact ⟨(e _ (by omega)).trans u1, fun k hk => (e _ (by omega)).trans (u2 k hk), (e _ (by omega)).trans u3, (e _ (by omega)).trans u4⟩
section GU
variable {x m q q2 c t a len p ls wl b : Nat} {z am ow tq ta sa : Nat → Nat} {w : Nat → Nat → Nat} {V T : Nat → Bool} {S S1 S2 : St} {im : Nat → Prop} {M : Mk} {Ms : Nat → Mk} {Y : Nat → Yt} {F F' G : FI} {J J' : FJ} {R : FR}
theorem GO.gr (h : GO x m z w S q len p ls ow im M c Ms tq ta Y t a sa wl) : GR x m z w S q len p ls := ⟨ow, im, M, c, Ms, tq, ta, Y, t, a, sa, wl, h⟩
theorem Kp.o (hk : Kp T m am G F') (gm : gM m am ow S q) {e : Nat} (he : ow e ≠ 2 ∨ kd S e = 0) : F' e = G e := by
  have hm : e ≠ m := fun h => by
    rcases he with y | y
    · exact y (by rw [h]; exact gm.2.1)
    · rw [h, gm.1.z] at y; cases y
  have ha : ∀ f, mk f ≠ 0 → T f = true → e ≠ am f := fun f hf _ h => by
    rcases he with y | y
    · exact y (by rw [h]; exact gm.2.2.1 f hf)
    · rw [h, gm.1.k f hf] at y; exact hf y
  exact hk.1 e hm ha
theorem n2 {L : Nat} {e : Nat} (h : ow e = L) (hL : L ≠ 2) : ow e ≠ 2 := by rw [h]; exact hL
/-- the stamps, perhaps in a longer array -/
theorem GO.zs {a' len' p' q' : Nat} (h : GO x m z w S q len p ls ow im M c Ms tq ta Y t a sa wl) (E : EndS S x (z 10) a len p S1 a' len' p') (hk : Kp tZ m (w 0) (gI S1) F') (h2 : F' m 2 = gI S1 x 0) (hs : SM F' m (w 0) q') : GO x m z w (wI S1 F') q' len' p' ls (nl S 8 ow) im M c Ms tq ta Y t a' sa wl := by
  obtain ⟨hx, ox, gm, gq, gb, gk, gt, gp, gr, gd, gs, ge, gc, gi⟩ := h
  obtain ⟨fr, xk, hc, sx, hp⟩ := E
  obtain ⟨s0, sX, l1, l2⟩ := gs
  have kx := nz hx (by decide)
  have ks := nz sX.1 (by decide)
  have ka := nz sX.2.2.1 (by decide)
  have ho : ∀ e, kd S e ≠ 0 → nl S 8 ow e = ow e := fun e he => nl_o he
  have ht : Tn x m (w 0) (v1 8) tZ ow S (wI S1 F') := Tn.mk2 (S1 := S1) (J' := gJ S1) ox gm.1 gm.2.1 gm.2.2.1 fr rfl rfl (fun e _ he => by
    rcases he with e1 | e1 | e1
    · rw [e1, ox]; exact ⟨rfl, by decide⟩
    · rw [e1, l1]; exact ⟨rfl, by decide⟩
    · rw [e1, l2]; exact ⟨rfl, by decide⟩) (fun j _ _ _ => by rw [xk.2.1]) hk (fun _ _ _ _ => rfl)
  have fx : F' x = gI S1 x := hk.o gm (Or.inl (n2 ox (by decide)))
  have fs : F' (z 10) = gI S1 (z 10) := hk.o gm (Or.inl (n2 l1 (by decide)))
  have a8 : nl S 8 ow a' = 8 := by
    rcases hc with ⟨y, -⟩ | y
    · rw [y, nl_o ka]; exact l2
    · exact nl_n y.1
  have fa : F' a' = gI S1 a' := hk.o gm (by
    rcases hc with ⟨y, -⟩ | y
    · exact Or.inl (by rw [y]; exact n2 l2 (by decide))
    · exact Or.inr y.1)
  have a0 := (ht.2.2.2.1 0 (by decide) rfl).1
  have a1 := (ht.2.2.2.1 1 (by decide) rfl).2
  have mj : gJ S1 m = gJ S m := by
    have km := nz gm.1.z (by decide)
    refine ((fr m km).2.2 (fun e => ?_)).2.1
    rcases e with e | e | e
    · exact x_m hx gm.1 e
    · exact (n2 l1 (by decide)) (by rw [← e]; exact gm.2.1)
    · exact (n2 l2 (by decide)) (by rw [← e]; exact gm.2.1)
  have xR : gR (wI S1 F') x = gR S x := xk.2.1
  obtain ⟨y1, y2, y3, y4, y5, y6, y7⟩ := sx
  refine ⟨(ht.1 x kx).1.trans hx, (ho x kx).trans ox, gm.ht ht ho hs, ⟨?_, ?_, ?_⟩, gb.ht ht gi rfl a0 a1 (by rw [xR]) (by rw [xR]) (by rw [xR]), gk.ht gm ht ho gi rfl rfl rfl ?_ (fun k _ _ => by rw [a0]) (fun k _ _ => by rw [a1]), gt.ht ht ho rfl rfl rfl rfl, gp.ht ht ho rfl rfl rfl rfl rfl, gr.ht ht ho (fun e he h5 => (ht.2.1 e he (by rw [h5]; rfl)).2.2), gd.ht ht ho ((ht.2.1 _ (nz gd.2.1.1 (by decide)) (by rw [gd.2.2.1]; rfl)).2.2), ⟨by rw [xR]; exact s0, ⟨y1, y2, y3, y4, ?_, y6, ?_⟩, (ho _ ks).trans l1, a8⟩, ge.ht ht ho gi rfl rfl rfl rfl, gc.ht ht ho rfl rfl rfl, gi.ht ht ho⟩
  · show F' m 2 = F' x 0
    rw [h2, fx]
  · show gJ S1 m 3 = gJ S1 x 1
    rw [mj, xk.1]; exact gq.2.1
  · show gJ S1 m 4 = gJ S1 x 2
    rw [mj, xk.1]; exact gq.2.2
  · show F' x 13 = _
    rw [fx, xk.2.2 13 (by decide)]
  · show F' (z 10) 1 = _
    rw [fs]; exact y5
  · show M0 (F' a') _ _
    rw [fa]; exact y7
theorem GO.z0 {q' : Nat} {s : Int32} (h : GO x m z w S q len p ls ow im M c Ms tq ta Y t a sa wl) (hk : Kp tZ m (w 0) (upI (gI S) x 0 s) F') (h2 : F' m 2 = s) (hs : SM F' m (w 0) q') : GO x m z w (wI S F') q' len p ls ow im M c Ms tq ta Y t a sa wl := by
  have h' := h
  obtain ⟨hx, ox, gm, gq, gb, gk, gt, gp, gr, gd, gs, ge, gc, gi⟩ := h'
  have ht : Tn x m (w 0) v0 tZ ow S (wI S F') := Tn.mk2 (S1 := wI S (upI (gI S) x 0 s)) (J' := gJ S) ox gm.1 gm.2.1 gm.2.2.1 Fr.x0 rfl rfl (fun e _ he => by rw [he, ox]; exact ⟨rfl, by decide⟩) (fun _ _ _ _ => rfl) hk (fun _ _ _ _ => rfl)
  have fx : F' x = upI (gI S) x 0 s x := hk.o gm (Or.inl (n2 ox (by decide)))
  refine h.st ht rfl ?_ (ht.2.2.2.1 0 (by decide) rfl).1 rfl ⟨?_, gq.2.1, gq.2.2⟩ hs (by decide)
  · show F' x 13 = _
    rw [fx, up_no (by decide)]
  · show F' m 2 = F' x 0
    rw [h2, fx, up_at]
/-- a touch rung -/
theorem GO.rg {TT : Tc} {P : Pg} {tt : Nat} (h : GO x m z w S q len p ls ow im M c Ms tq ta Y t a sa wl) (ho : M.2.2.1 = some (TT, P)) (htx : TX TT (bn M.2.1) im S tt) (hk : Kp tT m (w 0) (upI (gI S) x 0 0) F') (h2 : F' m 2 = 0) (hlo : ∀ k, (k < 410 ∧ k ≠ 6) ∨ 2410 < k → F' (w 0 0) k = gI S (w 0 0) k) (hT : TM TT (bn M.2.1) (F' (w 0 0))) : GO x m z w (wA S F' (gJ S) (upR (gR S) x 9 (some tt))) q len p ls ow im (M.1, M.2.1, M.2.2.1, some TT) c Ms tq ta Y t a sa wl := by
  obtain ⟨hx, ox, gm, gq, gb, gk, gt, gp, gr, gd, gs, ge, gc, gi⟩ := h
  have oo : ∀ e, kd S e ≠ 0 → ow e = ow e := fun _ _ => rfl
  have kx := nz hx (by decide)
  have ht : Tn x m (w 0) v0 tT ow S (wA S F' (gJ S) (upR (gR S) x 9 (some tt))) := Tn.mk2 (S1 := wA S (upI (gI S) x 0 0) (gJ S) (upR (gR S) x 9 (some tt))) (W := fun e => e = x) (J' := gJ S) ox gm.1 gm.2.1 gm.2.2.1 (fun e he => ⟨rfl, rfl, fun hw => ⟨up_ne hw, rfl, upR_ne hw⟩⟩) rfl rfl (fun e _ he => by rw [he, ox]; exact ⟨rfl, by decide⟩) (fun j _ _ j9 => upR_no j9) hk (fun _ _ _ _ => rfl)
  have fx : F' x = upI (gI S) x 0 0 x := hk.o gm (Or.inl (n2 ox (by decide)))
  have sim := ht.sim rfl gi
  obtain ⟨⟨b1, b2, b3, b4, b5⟩, ⟨s1, s2, s3, s4⟩⟩ := gb
  obtain ⟨mb, B, ot, o⟩ := M
  have ho' : ot = some (TT, P) := ho
  subst ho'
  have b4' := b4
  obtain ⟨u1, u2, u3, -⟩ := b4'
  have tk' : tok (bn B) TT := by rw [u2]; exact pgT_ok b1 u1 _
  refine ⟨hx, ox, gm.ht ht oo (gm.2.2.2.ht ht rfl rfl), ⟨?_, gq.2.1, gq.2.2⟩, ⟨⟨b1, ?_, b3.sm sim, ?_, ?_⟩, ⟨s1.n6 b1 (fun k hk' k6 => hlo k (Or.inl ⟨hk', k6⟩)), ?_, hT, s4⟩⟩, gk.ht gm ht oo gi rfl rfl rfl ?_ (fun k k1 k2 => hlo k (by omega)) (fun _ _ _ => rfl), gt.ht ht oo rfl rfl rfl rfl, gp.ht ht oo rfl rfl rfl rfl rfl, gr.ht ht oo (fun e he h5 => (ht.2.1 e he (by rw [h5]; rfl)).2.2), gd.ht ht oo ((ht.2.1 _ (nz gd.2.1.1 (by decide)) (by rw [gd.2.2.1]; rfl)).2.2), gs.ht ht oo rfl, ge.ht ht oo gi rfl rfl rfl rfl, gc.ht ht oo rfl rfl rfl, gi.ht ht oo⟩
  · show F' m 2 = F' x 0
    rw [h2, fx, up_at]
  · show upR (gR S) x 9 (some tt) x 7 = _
    rw [upR_no (by decide)]; exact b2
  · show ClT B im _ (some (TT, P)) (upR (gR S) x 9 (some tt) x 8)
    rw [upR_no (by decide)]; exact b4.sm sim
  · show ClR (bn B) im _ (some TT) (upR (gR S) x 9 (some tt) x 9)
    rw [upR_at]; exact ⟨tk', tt, rfl, htx.sm sim⟩
  · exact ⟨PMd.c u1.1 s2.1 (fun k hk' => hlo k (Or.inl (by omega))), (hlo 5 (Or.inl (by decide))).trans s2.2⟩
  · show F' x 13 = _
    rw [fx, up_no (by decide)]
end GU
