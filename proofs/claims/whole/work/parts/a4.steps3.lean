/-! Books and touches keep the relation. -/
theorem TX.mono {TT : Tc} {n : Nat} {im im2 : Nat → Prop} {S : St} {t : Nat} (h : TX TT n im S t) (hi : ∀ e, im e → im2 e) : TX TT n im2 S t := by
  obtain ⟨h1, h2, h3, h4, ⟨a5, r5, i5, h5⟩, a6, r6, i6, h6⟩ := h
  exact ⟨hi _ h1, h2, h3, h4, ⟨a5, r5, hi _ i5, h5⟩, a6, r6, hi _ i6, h6⟩
theorem Cl.mono {im im2 : Nat → Prop} {S : St} {M : Mk} {rb rt rr : Option Nat} (h : Cl im S M rb rt rr) (hi : ∀ e, im e → im2 e) : Cl im2 S M rb rt rr := by
  obtain ⟨b, B, ot, o⟩ := M
  obtain ⟨h1, h2, h3, h4, h5⟩ := h
  refine ⟨h1, h2, h3.mono hi, ?_, ?_⟩
  · cases ot with
    | none => exact h4
    | some TP =>
      obtain ⟨TT, P⟩ := TP
      obtain ⟨u1, u2, u3, t, u4, u5⟩ := h4
      exact ⟨u1, u2, u3, t, u4, u5.mono hi⟩
  · cases o with
    | none => exact h5
    | some TT =>
      obtain ⟨u1, t, u4, u5⟩ := h5
      exact ⟨u1, t, u4, u5.mono hi⟩
theorem gK.mono {x m : Nat} {z am ow : Nat → Nat} {S : St} {im im2 : Nat → Prop} {c : Nat} {Ms : Nat → Mk} (h : gK x m z am ow S im c Ms) (hi : ∀ e, im e → im2 e) : gK x m z am ow S im2 c Ms := by
  obtain ⟨⟨m1, m2, m3, m4, m5, m6, m7, m8, m9, m10, m11, m12, m13, m14⟩, l⟩ := h
  exact ⟨⟨m1, m2, m3, m4, m5, m6, m7, m8, m9, m10, m11, m12, m13, fun i hi' => ⟨(m14 i hi').1.mono hi, (m14 i hi').2⟩⟩, l⟩
theorem gE.mono {x m : Nat} {z am ow : Nat → Nat} {S : St} {im im2 : Nat → Prop} {sa : Nat → Nat} {ls wl : Nat} (h : gE x m z am ow S im sa ls wl) (hi : ∀ e, im e → im2 e) : gE x m z am ow S im2 sa ls wl := by
  obtain ⟨h1, h2, h3, h4⟩ := h
  refine ⟨h1, h2, fun b0 hb0 => ?_, h4⟩
  obtain ⟨B0, u1, u2, u3⟩ := h3 b0 hb0
  exact ⟨B0, u1, u2.mono hi, u3⟩
theorem BM.n4 {B : Bk} {A A2 : Nat → Int32} (hb : bok B) (h : BM B A) (ha : ∀ k, k ≠ 4 → k ≠ 5 → k ≠ 6 → k < 170 → A2 k = A k) : BM B A2 := by
  have hM := hb.2.2.1
  have key : ∀ k, k < 410 → (if k < 170 ∧ k ≠ 4 ∧ k ≠ 5 ∧ k ≠ 6 then A2 k else A k) = A k := fun k hk => by
    by_cases c : k < 170 ∧ k ≠ 4 ∧ k ≠ 5 ∧ k ≠ 6
    · rw [if_pos c]; exact ha k c.2.1 c.2.2.1 c.2.2.2 c.1
    · rw [if_neg c]
  obtain ⟨h1, h2, h3, h4⟩ := h.lo (A2 := fun k => if k < 170 ∧ k ≠ 4 ∧ k ≠ 5 ∧ k ≠ 6 then A2 k else A k) hb key
  have e : ∀ j, j < 170 → j ≠ 4 → j ≠ 5 → j ≠ 6 → A2 j = (if j < 170 ∧ j ≠ 4 ∧ j ≠ 5 ∧ j ≠ 6 then A2 j else A j) := fun j y1 y2 y3 y4 => (if_pos ⟨y1, y2, y3, y4⟩).symm
  refine ⟨(e 0 (by decide) (by decide) (by decide) (by decide)).trans h1, (e 1 (by decide) (by decide) (by decide) (by decide)).trans h2, (e 3 (by decide) (by decide) (by decide) (by decide)).trans h3, fun m hm => ?_⟩
  obtain ⟨u1, u2, u3, u4⟩ := h4 m hm
  have b32 := (bl_32 hb hm).2
  exact ⟨(e _ (by omega) (by omega) (by omega) (by omega)).trans u1, fun k hk => (e _ (by omega) (by omega) (by omega) (by omega)).trans (u2 k hk), (e _ (by omega) (by omega) (by omega) (by omega)).trans u3, (e _ (by omega) (by omega) (by omega) (by omega)).trans u4⟩
def tB (f : Nat) : Bool := [0, 1, 2, 9, 10, 11, 12, 13, 14, 15, 16, 17, 18, 19].contains f
def tU (f : Nat) : Bool := [0, 2, 9, 10, 11, 12, 13, 14, 15, 16, 17, 18, 19, 20, 21, 22].contains f
theorem tB_n : ∀ j, tB j = false → j ≠ 2 ∧ (j < 10 ∨ 20 ≤ j) := fun j h => by
  refine ⟨(fun e => by rw [e] at h; cases h), ?_⟩
  rcases Nat.lt_or_ge j 10 with y | y
  · exact Or.inl y
  · rcases Nat.lt_or_ge j 20 with y2 | y2
    · have : ∀ j, j < 20 → 10 ≤ j → tB j = true := by decide
      rw [this j y2 y] at h; cases h
    · exact Or.inr y2
theorem tU_n : ∀ j, tU j = false → j ≠ 2 ∧ (j < 10 ∨ 23 ≤ j) := fun j h => by
  refine ⟨(fun e => by rw [e] at h; cases h), ?_⟩
  rcases Nat.lt_or_ge j 10 with y | y
  · exact Or.inl y
  · rcases Nat.lt_or_ge j 23 with y2 | y2
    · have : ∀ j, j < 23 → 10 ≤ j → tU j = true := by decide
      rw [this j y2 y] at h; cases h
    · exact Or.inr y2
section GW
variable {x m q c t a len p ls wl : Nat} {z ow tq ta sa : Nat → Nat} {w : Nat → Nat → Nat} {S S1 : St} {im : Nat → Prop} {M : Mk} {Ms : Nat → Mk} {Y : Nat → Yt} {F' : FI} {J' : FJ}
theorem gRd.wb (h : gRd x z w ow S) (l4 : ow (z 2) = 4) {e : Nat} (he : WBr (z 2) (z 5) (w 1) (w 2) e) : ow e = 4 ∨ ow e = 5 := by
  obtain ⟨-, -, h1, h2, h3⟩ := h
  rcases he with e1 | e1 | e1 | e1 | e1 | e1 | e1 | ⟨i, hi, e1⟩ <;> rw [e1]
  · exact Or.inl l4
  · exact Or.inr h1
  · exact Or.inr (h2 6 (by decide) (by decide))
  · exact Or.inr (h2 7 (by decide) (by decide))
  · exact Or.inr (h2 9 (by decide) (by decide))
  · exact Or.inr (h2 10 (by decide) (by decide))
  · exact Or.inr (h2 11 (by decide) (by decide))
  · exact Or.inr (h3 i hi)
theorem gDd.wt (h : gDd x z w ow S) (l4 : ow (z 2) = 4) {e : Nat} (he : WTr (z 2) (z 6) (w 3) e) : ow e = 4 ∨ ow e = 6 := by
  obtain ⟨-, -, h1, h2⟩ := h
  rcases he with e1 | e1 | e1 | e1 | e1 | e1 | e1 | e1 <;> rw [e1]
  · exact Or.inl l4
  · exact Or.inr h1
  · exact Or.inr (h2 4 (by decide) (by decide))
  · exact Or.inr (h2 5 (by decide) (by decide))
  · exact Or.inr (h2 6 (by decide) (by decide))
  · exact Or.inr (h2 7 (by decide) (by decide))
  · exact Or.inr (h2 8 (by decide) (by decide))
  · exact Or.inr (h2 9 (by decide) (by decide))
theorem GO.nb {t' : Nat} (h : GO x m z w S q len p ls ow im M c Ms tq ta Y t a sa wl) (fr : Fr (fun e => e = x ∨ WBr (z 2) (z 5) (w 1) (w 2) e) S S1) (hR : ∀ a, kd S a ≠ 0 → a ≠ x → gR S1 a = gR S a) (xJ : gJ S1 x = gJ S x) (xI : ∀ j, j ≠ 0 → gI S1 x j = gI S x j) (xR : ∀ j, j ≠ 7 → j ≠ 8 → j ≠ 9 → gR S1 x j = gR S x j) (ma : MaF m (w 0) (gI S1) F' (gJ S1) J') (h2 : F' m 2 = gI S1 x 0) (hf : F' m 16 = gI S1 (z 2) 9 ∧ F' m 17 = gI S1 (z 2) 10) (hT : TpX (wA S1 F' J' (gR S1)) x (z 2) (z 3) m (w 0) t') (hB : BkN S S1 x (w 0) F' J') : GR x m z w (wA S1 F' J' (gR S1)) q len p ls := by
  obtain ⟨hx, ox, gm, gq, gb, gk, gt, gp, gr, gd, gs, ge, gc, gi⟩ := h
  have ho : ∀ e, kd S e ≠ 0 → nl S 11 ow e = ow e := fun e he => nl_o he
  have kx := nz hx (by decide)
  have km := nz gm.1.z (by decide)
  obtain ⟨-, p2, -, l1, l2, l3⟩ := gp
  have k7 := p2.1
  have wl' : ∀ e, (e = x ∨ WBr (z 2) (z 5) (w 1) (w 2) e) → v2 4 5 (ow e) = true ∧ ow e ≠ 2 := fun e he => by
    rcases he with e1 | e1
    · rw [e1, ox]; exact ⟨rfl, by decide⟩
    · rcases gr.wb l1 e1 with y | y
      · rw [y]; exact ⟨rfl, by decide⟩
      · rw [y]; exact ⟨rfl, by decide⟩
  have hk : Kp tB m (w 0) (gI S1) F' := ⟨fun e em hne => ma.1 e em (hne 0 (by decide) rfl) (hne 9 (by decide) rfl), fun j hj => ma.2.1 j (tB_n j hj).1 (tB_n j hj).2⟩
  have ht : Tn x m (w 0) (v2 4 5) tB ow S (wA S1 F' J' (gR S1)) := Tn.mk2 (S1 := S1) ox gm.1 gm.2.1 gm.2.2.1 fr rfl rfl (fun e _ he => wl' e he) xR hk (fun e _ _ hne => ma.2.2.2.1 e (hne 1 (by decide) rfl))
  have na : ∀ {e : Nat}, (ow e ≠ 2 ∨ kd S e = 0) → e ≠ w 0 1 := fun he e1 => by
    rcases he with y | y
    · exact y (by rw [e1]; exact gm.2.2.1 1 (by decide))
    · rw [e1, gm.1.k 1] at y; cases y
  have jo : ∀ {e : Nat}, (ow e ≠ 2 ∨ kd S e = 0) → J' e = gJ S1 e := fun he => ma.2.2.2.1 _ (na he)
  have fx : F' x = gI S1 x := hk.o gm (Or.inl (n2 ox (by decide)))
  have fk : F' (z 2) = gI S1 (z 2) := hk.o gm (Or.inl (n2 l1 (by decide)))
  have sm0 : gI S1 (w 0 0) = gI S (w 0 0) ∧ gJ S1 (w 0 0) = gJ S (w 0 0) ∧ gR S1 (w 0 0) = gR S (w 0 0) := (fr (w 0 0) (by rw [gm.1.k 0]; decide)).2.2 (fun e => (wl' _ e).2 (gm.2.2.1 0 (by decide)))
  have sm1 : gI S1 (w 0 1) = gI S (w 0 1) ∧ gJ S1 (w 0 1) = gJ S (w 0 1) ∧ gR S1 (w 0 1) = gR S (w 0 1) := (fr (w 0 1) (by rw [gm.1.k 1]; decide)).2.2 (fun e => (wl' _ e).2 (gm.2.2.1 1 (by decide)))
  have jm : J' m = gJ S m := by
    rw [ma.2.2.2.1 m (Ne.symm (gm.1.o 1))]
    exact ((fr m km).2.2 (fun e => (wl' m e).2 gm.2.1)).2.1
  have jx : J' x = gJ S x := (jo (Or.inl (n2 ox (by decide)))).trans xJ
  have gq' : gQ x m (wA S1 F' J' (gR S1)) := by
    refine ⟨?_, ?_, ?_⟩
    · show F' m 2 = F' x 0
      rw [h2, fx]
    · show J' m 3 = J' x 1
      rw [jm, jx]; exact gq.2.1
    · show J' m 4 = J' x 2
      rw [jm, jx]; exact gq.2.2
  have nx' : ∀ {e L : Nat}, ow e = L → L ≠ 1 → e ≠ x := fun h1 h2 e => h2 (by rw [← h1, e]; exact ox)
  have gk' := gk.ht gm ht ho gi rfl rfl rfl (by show F' x 13 = _; rw [fx, xI 13 (by decide)]) (fun k k1 k2 => by show F' (w 0 0) k = _; rw [ma.2.2.1 k k1 k2, sm0.1]) (fun k k1 k2 => by show J' (w 0 1) k = _; rw [ma.2.2.2.2 k k1 k2, sm1.2.1])
  have ge' := ge.ht ht ho gi rfl rfl rfl rfl
  have rvW : ¬ (z 4 = x ∨ WBr (z 2) (z 5) (w 1) (w 2) (z 4)) := fun e => by
    have kr := p2.2.2.2.2.2.1
    rcases e with e | e
    · exact nx' l3 (by decide) e
    · obtain ⟨-, hBr, -⟩ := gr
      obtain ⟨h1, -, ⟨-, h6, -⟩, ⟨-, h7, -⟩, -, ⟨-, h9, -⟩, ⟨-, h10, -⟩, ⟨-, h11, -⟩, hm, -, -, -, -, -, -, r6, r7⟩ := hBr
      rcases e with e | e | e | e | e | e | e | ⟨i, hi, e⟩
      · exact kd_ne kr k7 (by decide) e
      · exact kd_ne kr h1 (by decide) e
      · exact r6 e
      · exact r7 e
      · exact kd_ne kr h9 (by decide) e
      · exact kd_ne kr h10 (by decide) e
      · exact kd_ne kr h11 (by decide) e
      · exact kd_ne kr (hm i hi).2.1 (by decide) e
  have gp' : gP x m z (w 0) (nl S 11 ow) (wA S1 F' J' (gR S1)) t' := by
    obtain ⟨u1, u2, u3, u4, u5, u6, u7, u8⟩ := p2
    have kr := nz u6 (by decide)
    have kk := nz u1 (by decide)
    have kt := nz u3 (by decide)
    refine ⟨hT, ⟨(ht.1 _ kk).1.trans u1, ?_, (ht.1 _ kt).1.trans u3, (ht.1 _ kt).2.trans u4, ?_, (ht.1 _ kr).1.trans u6, (ht.1 _ kr).2.trans u7, fun i hi => ?_⟩, ⟨?_, ?_⟩, (ho _ kk).trans l1, (ho _ kt).trans l2, (ho _ kr).trans l3⟩
    · show gR S1 (z 2) 0 = _
      rw [hR _ kk (nx' l1 (by decide))]; exact u2
    · show gR S1 (z 2) 2 = _
      rw [hR _ kk (nx' l1 (by decide))]; exact u5
    · show J' (z 4) i = _
      rw [jo (Or.inl (n2 l3 (by decide))), ((fr _ kr).2.2 rvW).2.1]; exact u8 i hi
    · show F' m 16 = F' (z 2) 9
      rw [fk]; exact hf.1
    · show F' m 17 = F' (z 2) 10
      rw [fk]; exact hf.2
  have gr' := gr.ht ht ho (fun e he h5 => hR e he (nx' h5 (by decide)))
  have gd' := gd.ht ht ho (hR _ (nz gd.2.1.1 (by decide)) (nx' gd.2.2.1 (by decide)))
  have gt' := gt.ht ht ho rfl rfl rfl rfl
  have gs' := gs.ht ht ho rfl
  have gc' := gc.ht ht ho rfl rfl rfl
  have gi' := gi.ht ht ho
  have gm' := gm.ht ht ho (gm.2.2.2.ht ht rfl rfl)
  rcases hB with ⟨b1, b2, b3⟩ | ⟨b', B', nw, b1, b2, b3, b4, b5, b6, b7, b8, b9, b10⟩
  · have gb' : gB x (w 0) (wA S1 F' J' (gR S1)) im M := gb.h2 ht gi rfl (fun k hk' => by show F' (w 0 0) k = _; rw [b2 k (by omega), sm0.1]) (fun k hk' => by show J' (w 0 1) k = _; rw [b3 k (by omega), sm1.2.1]) (by show gR S1 x 7 = _; rw [b1]) (by show gR S1 x 8 = _; rw [b1]) (by show gR S1 x 9 = _; rw [b1])
    exact ⟨nl S 11 ow, im, M, c, Ms, tq, ta, Y, t', a, sa, wl, (ht.1 x kx).1.trans hx, (ho x kx).trans ox, gm', gq', gb', gk', gt', gp', gr', gd', gs', ge', gc', gi'⟩
  · have im2 : ∀ e, im e → im e ∨ nw e := fun e he => Or.inl he
    have bx : BX B' (fun e => im e ∨ nw e) (wA S1 F' J' (gR S1)) b' := (BX.sm (S' := wA S1 F' J' (gR S1)) b5 (fun e he => ⟨rfl, rfl, hk.o gm (Or.inr (b6 e he).1), jo (Or.inr (b6 e he).1), rfl⟩)).mono (fun e he => Or.inr he)
    refine ⟨nl S 11 ow, fun e => im e ∨ nw e, (b', B', none, none), c, Ms, tq, ta, Y, t', a, sa, wl, (ht.1 x kx).1.trans hx, (ho x kx).trans ox, gm', gq', ⟨⟨b1, b2, bx, b3, b4⟩, ⟨b7, b8, b9, b10⟩⟩, gk'.mono im2, gt', gp', gr', gd', gs', ge'.mono im2, gc', fun e he => ?_⟩
    rcases he with y | y
    · exact gi' e y
    · exact ⟨(b6 e y).2, nl_n (b6 e y).1⟩
theorem GO.un {t' : Nat} (h : GO x m z w S q len p ls ow im M c Ms tq ta Y t a sa wl) (fr : Fr (fun e => e = x ∨ WTr (z 2) (z 6) (w 3) e) S S1) (hR : ∀ a, kd S a ≠ 0 → a ≠ x → a ≠ w 3 6 → gR S1 a = gR S a) (xJ : gJ S1 x = gJ S x) (xI : ∀ j, j ≠ 0 → gI S1 x j = gI S x j) (xR : ∀ j, j ≠ 8 → j ≠ 9 → gR S1 x j = gR S x j) (ma : MuF m (w 0) (gI S1) F') (h2 : F' m 2 = gI S1 x 0) (hf : F' m 16 = gI S1 (z 2) 9 ∧ F' m 17 = gI S1 (z 2) 10) (hT : TpX (wI S1 F') x (z 2) (z 3) m (w 0) t') (hB : TcN S S1 x (w 0) M.2.1 F') : GR x m z w (wI S1 F') q len p ls := by
  obtain ⟨hx, ox, gm, gq, gb, gk, gt, gp, gr, gd, gs, ge, gc, gi⟩ := h
  have ho : ∀ e, kd S e ≠ 0 → nl S 11 ow e = ow e := fun e he => nl_o he
  have kx := nz hx (by decide)
  have km := nz gm.1.z (by decide)
  obtain ⟨-, p2, -, l1, l2, l3⟩ := gp
  have k7 := p2.1
  have wl' : ∀ e, (e = x ∨ WTr (z 2) (z 6) (w 3) e) → v2 4 6 (ow e) = true ∧ ow e ≠ 2 := fun e he => by
    rcases he with e1 | e1
    · rw [e1, ox]; exact ⟨rfl, by decide⟩
    · rcases gd.wt l1 e1 with y | y
      · rw [y]; exact ⟨rfl, by decide⟩
      · rw [y]; exact ⟨rfl, by decide⟩
  have hk : Kp tU m (w 0) (gI S1) F' := ⟨fun e em hne => ma.1 e em (hne 0 (by decide) rfl) (hne 9 (by decide) rfl) (hne 20 (by decide) rfl), fun j hj => ma.2 j (tU_n j hj).1 (tU_n j hj).2⟩
  have ht : Tn x m (w 0) (v2 4 6) tU ow S (wI S1 F') := Tn.mk2 (S1 := S1) (J' := gJ S1) ox gm.1 gm.2.1 gm.2.2.1 fr rfl rfl (fun e _ he => wl' e he) (fun j _ j8 j9 => xR j j8 j9) hk (fun _ _ _ _ => rfl)
  have fx : F' x = gI S1 x := hk.o gm (Or.inl (n2 ox (by decide)))
  have fk : F' (z 2) = gI S1 (z 2) := hk.o gm (Or.inl (n2 l1 (by decide)))
  have sm0 : gI S1 (w 0 0) = gI S (w 0 0) ∧ gJ S1 (w 0 0) = gJ S (w 0 0) ∧ gR S1 (w 0 0) = gR S (w 0 0) := (fr (w 0 0) (by rw [gm.1.k 0]; decide)).2.2 (fun e => (wl' _ e).2 (gm.2.2.1 0 (by decide)))
  have sm1 : gI S1 (w 0 1) = gI S (w 0 1) ∧ gJ S1 (w 0 1) = gJ S (w 0 1) ∧ gR S1 (w 0 1) = gR S (w 0 1) := (fr (w 0 1) (by rw [gm.1.k 1]; decide)).2.2 (fun e => (wl' _ e).2 (gm.2.2.1 1 (by decide)))
  have jm : gJ S1 m = gJ S m := ((fr m km).2.2 (fun e => (wl' m e).2 gm.2.1)).2.1
  have gq' : gQ x m (wI S1 F') := by
    refine ⟨?_, ?_, ?_⟩
    · show F' m 2 = F' x 0
      rw [h2, fx]
    · show gJ S1 m 3 = gJ S1 x 1
      rw [jm, xJ]; exact gq.2.1
    · show gJ S1 m 4 = gJ S1 x 2
      rw [jm, xJ]; exact gq.2.2
  have nx' : ∀ {e L : Nat}, ow e = L → L ≠ 1 → e ≠ x := fun h1 h2 e => h2 (by rw [← h1, e]; exact ox)
  have n6 : ∀ {e L : Nat}, ow e = L → L ≠ 6 → e ≠ w 3 6 := fun h1 h2 e => h2 (by rw [← h1, e]; exact gd.2.2.2 6 (by decide) (by decide))
  have lo9 : ∀ k, 410 ≤ k → k < 9680 → F' (w 0 0) k = gI S (w 0 0) k := fun k k1 k2 => by
    rcases hB with ⟨-, b2⟩ | ⟨P, st, t', nw, -, -, -, -, -, -, -, -, -, b10⟩
    · rw [b2 k k2, sm0.1]
    · rw [b10 k (by omega) (by omega) (by omega) (by omega) k2, sm0.1]
  have gk' := gk.ht gm ht ho gi rfl rfl rfl (by show F' x 13 = _; rw [fx, xI 13 (by decide)]) (fun k k1 k2 => lo9 k (by omega) k2) (fun k _ _ => by show gJ S1 (w 0 1) k = _; rw [sm1.2.1])
  have ge' := ge.ht ht ho gi rfl rfl rfl rfl
  have rvW : ¬ (z 4 = x ∨ WTr (z 2) (z 6) (w 3) (z 4)) := fun e => by
    have kr := p2.2.2.2.2.2.1
    rcases e with e | e
    · exact nx' l3 (by decide) e
    · exact WTr.n gd.2.1 k7 (by rw [kr]; decide) (by rw [kr]; decide) (by rw [kr]; decide) (by rw [kr]; decide) e
  have gp' : gP x m z (w 0) (nl S 11 ow) (wI S1 F') t' := by
    obtain ⟨u1, u2, u3, u4, u5, u6, u7, u8⟩ := p2
    have kr := nz u6 (by decide)
    have kk := nz u1 (by decide)
    have kt := nz u3 (by decide)
    refine ⟨hT, ⟨(ht.1 _ kk).1.trans u1, ?_, (ht.1 _ kt).1.trans u3, (ht.1 _ kt).2.trans u4, ?_, (ht.1 _ kr).1.trans u6, (ht.1 _ kr).2.trans u7, fun i hi => ?_⟩, ⟨?_, ?_⟩, (ho _ kk).trans l1, (ho _ kt).trans l2, (ho _ kr).trans l3⟩
    · show gR S1 (z 2) 0 = _
      rw [hR _ kk (nx' l1 (by decide)) (n6 l1 (by decide))]; exact u2
    · show gR S1 (z 2) 2 = _
      rw [hR _ kk (nx' l1 (by decide)) (n6 l1 (by decide))]; exact u5
    · show gJ S1 (z 4) i = _
      rw [((fr _ kr).2.2 rvW).2.1]; exact u8 i hi
    · show F' m 16 = F' (z 2) 9
      rw [fk]; exact hf.1
    · show F' m 17 = F' (z 2) 10
      rw [fk]; exact hf.2
  have gr' := gr.ht ht ho (fun e he h5 => hR e he (nx' h5 (by decide)) (n6 h5 (by decide)))
  have gd' := gd.ht ht ho (hR _ (nz gd.2.1.1 (by decide)) (nx' gd.2.2.1 (by decide)) (kd_ne gd.2.1.1 gd.2.1.2.2.2.2.1.2.1 (by decide)))
  have gt' := gt.ht ht ho rfl rfl rfl rfl
  have gs' := gs.ht ht ho rfl
  have gc' := gc.ht ht ho rfl rfl rfl
  have gi' := gi.ht ht ho
  have gm' := gm.ht ht ho (gm.2.2.2.ht ht rfl rfl)
  rcases hB with ⟨b1, b2⟩ | ⟨P, st, t1, nw, b1, b2, b3, b4, b5, b6, b7, b8, b9, b10⟩
  · have gb' : gB x (w 0) (wI S1 F') im M := gb.h2 ht gi rfl (fun k hk' => by show F' (w 0 0) k = _; rw [b2 k (by omega), sm0.1]) (fun k hk' => by show gJ S1 (w 0 1) k = _; rw [sm1.2.1]) (by show gR S1 x 7 = _; rw [b1]) (by show gR S1 x 8 = _; rw [b1]) (by show gR S1 x 9 = _; rw [b1])
    exact ⟨nl S 11 ow, im, M, c, Ms, tq, ta, Y, t', a, sa, wl, (ht.1 x kx).1.trans hx, (ho x kx).trans ox, gm', gq', gb', gk', gt', gp', gr', gd', gs', ge', gc', gi'⟩
  · have im2 : ∀ e, im e → im e ∨ nw e := fun e he => Or.inl he
    have tx' : TX (pgT M.2.1 P st) (bn M.2.1) (fun e => im e ∨ nw e) (wI S1 F') t1 := (TX.sm (S' := wI S1 F') b5 (fun e he => ⟨rfl, rfl, hk.o gm (Or.inr (b6 e he).1), rfl, rfl⟩)).mono (fun e he => Or.inr he)
    obtain ⟨⟨c1, c2, c3, c4, c5⟩, ⟨d1, d2, d3, d4⟩⟩ := gb
    refine ⟨nl S 11 ow, fun e => im e ∨ nw e, (M.1, M.2.1, some (pgT M.2.1 P st, P), none), c, Ms, tq, ta, Y, t', a, sa, wl, (ht.1 x kx).1.trans hx, (ho x kx).trans ox, gm', gq', ⟨⟨c1, ?_, (c3.sm (ht.sim rfl gi)).mono im2, ⟨b1, rfl, b2, t1, b3, tx'⟩, b4⟩, ⟨d1.n4 c1 (fun k k4 k5 k6 k7 => ?_), ⟨b7, b8⟩, b9, fun i hi => ?_⟩⟩, gk'.mono im2, gt', gp', gr', gd', gs', ge'.mono im2, gc', fun e he => ?_⟩
    · show gR S1 x 7 = _
      rw [xR 7 (by decide) (by decide)]; exact c2
    · show F' (w 0 0) k = _
      rw [b10 k k4 k5 k6 (Or.inl k7) (by omega), sm0.1]
    · show nmq _ (gJ S1 (w 0 1) i)
      rw [sm1.2.1]; exact d4 i hi
    · rcases he with y | y
      · exact gi' e y
      · exact ⟨(b6 e y).2, nl_n (b6 e y).1⟩
end GW
