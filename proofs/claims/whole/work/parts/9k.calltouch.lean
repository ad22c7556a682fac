/-! touch, on both sides. -/
def TcN (S S1 : St) (x : Nat) (am : Nat → Nat) (B : Bk) (F' : FI) : Prop := (gR S1 x = gR S x ∧ ∀ k, k < 9680 → F' (am 0) k = gI S1 (am 0) k) ∨ ∃ P st t, ∃ nw : Nat → Prop, PW B P ∧ st ≤ 30 ∧ gR S1 x 8 = some t ∧ gR S1 x 9 = none ∧ TX (pgT B P st) (bn B) nw S1 t ∧ (∀ e, nw e → kd S e = 0 ∧ kd S1 e ≠ 0) ∧ PMd P (F' (am 0)) ∧ F' (am 0) 5 = nI st ∧ F' (am 0) 6 = -1 ∧ ∀ k, k ≠ 4 → k ≠ 5 → k ≠ 6 → (k < 170 ∨ 410 ≤ k) → k < 9680 → F' (am 0) k = gI S1 (am 0) k
section KT
variable {S : St} {x b m k tt rv tr t : Nat} {am ta : Nat → Nat} {im : Nat → Prop} {B : Bk}
theorem call_touch {c d : Nat} {Q : Int32 → St → Prop} (h : CB S x b m am im B) (hN : ∀ i, i < bM B → nmq (bnm B i) (gJ S (am 1) i)) (hT : TpX S x k tt m am t) (hk : TkX S k tt rv) (h6 : gR S x 6 = some tr) (hR : TrdX S tr k ta) (hmw : ∀ f, mk f ≠ 0 → ¬ WTr k tr ta (am f)) (hi : ∀ e, im e → ¬ WTr k tr ta e) (hF : gI S m 16 = gI S k 9 ∧ gI S m 17 = gI S k 10) (hc : 3 ≤ c) (hd : 4005 ≤ d) (p0 : Int32)
    (hq : ∀ v S1, Fr (fun e => e = x ∨ WTr k tr ta e) S S1 → (∀ a, kd S a ≠ 0 → a ≠ x → a ≠ ta 6 → gR S1 a = gR S a) → gJ S1 x = gJ S x → (∀ j, j ≠ 0 → gI S1 x j = gI S x j) → (∀ j, j ≠ 8 → j ≠ 9 → gR S1 x j = gR S x j) → (∀ Q2 : Int32 → FI → Prop, (∀ F' t', MuF m am (gI S1) F' → F' m 2 = gI S1 x 0 → (F' m 16 = gI S1 k 9 ∧ F' m 17 = gI S1 k 10) → TpX (wI S1 F') x k tt m am t' → TcN S S1 x am B F' → Q2 v F') → P_X12_touch m p0 S1 Q2) → Q v S1) : P_X11_touch x p0 S c d Q := by
  obtain ⟨hx, h7, hb, hB, hL, hBM⟩ := h
  have hT' := hT
  obtain ⟨r4, k7, rt, kt, lt, t8, t9, h1, h10, hby⟩ := hT'
  have xW : ¬ WTr k tr ta x := WTr.n hR k7 (by rw [hx]; decide) (by rw [hx]; decide) (by rw [hx]; decide) (by rw [hx]; decide)
  have mW : ¬ WTr k tr ta m := WTr.n hR k7 (by rw [hL.z]; decide) (by rw [hL.z]; decide) (by rw [hL.z]; decide) (by rw [hL.z]; decide)
  have mx : m ≠ x := x_m hx hL
  have kx : k ≠ x := kd_ne k7 hx (by decide)
  have km : k ≠ m := kd_ne k7 hL.z (by decide)
  have k0 : k ≠ am 0 := kd_ne k7 (hL.k 0) (by decide)
  have k9 : k ≠ am 9 := kd_ne k7 (hL.k 9) (by decide)
  have k20 : k ≠ am 20 := kd_ne k7 (hL.k 20) (by decide)
  have tx' : tt ≠ x := kd_ne kt hx (by decide)
  have a8x := x_am hx hL 8
  have x6 : x ≠ ta 6 := kd_ne hx hR.2.2.2.2.1.2.1 (by decide)
  rcases nr_case (min t 300 + 1) (by omega) p0 with ⟨L, hLt, rfl⟩ | hbad
  case inr =>
    have bad : P_X11_refuse x 1 S (fun r F => Q r (wI S F)) := by
      refine rf hx (hq _ (wI S (upI (gI S) x 0 1)) (Fr.on On.up (Or.inl rfl)) (fun _ _ _ _ => rfl) rfl (fun j hj => up_no hj) (fun _ _ _ => rfl) (fun Q2 h2 => ?_))
      have fin : P_X12_refuse m 1 (wI (wI S (upI (gI S) x 0 1)) (upI (gI S) x 0 1)) (fun r F => Q2 r F) := by
        refine ⟨hL.z, fun F e => ?_⟩
        have e' : F = upI (upI (gI S) x 0 1) m 2 1 := e
        have om : ∀ a, a ≠ m → F a = upI (gI S) x 0 1 a := fun a ha => by rw [e', up_ne ha]
        have mj : ∀ j, j ≠ 2 → F m j = gI S m j := fun j hj => by rw [e', up_no hj, up_ne mx]
        refine h2 F t ⟨fun a y1 _ _ _ => om a y1, fun j y1 _ => by rw [mj j y1]; exact (congrFun (up_ne mx) j).symm⟩ (by rw [e', up_at]; exact up_at.symm) ⟨?_, ?_⟩ ⟨r4, k7, rt, kt, lt, t8, t9, ?_, ?_, fun j hj => ?_⟩ (Or.inl ⟨rfl, fun k _ => by rw [om _ (hL.o 0)]; rfl⟩)
        · rw [mj 16 (by decide)]
          show _ = upI (gI S) x 0 1 k 9
          rw [up_ne kx]; exact hF.1
        · rw [mj 17 (by decide)]
          show _ = upI (gI S) x 0 1 k 10
          rw [up_ne kx]; exact hF.2
        · show F k 1 = _
          rw [om k km, up_ne kx]; exact h1
        · show F m 10 = _
          rw [mj 10 (by decide)]; exact h10
        · show F tt j = F (am 8) j ∧ ∃ w : Int8, F tt j = w.toInt32
          rw [om tt (kd_ne kt hL.z (by decide)), up_ne tx', om (am 8) (hL.o 8), up_ne a8x]
          exact hby j hj
      refine ⟨hL.z, hL.z, fun y => ⟨fun z => absurd rfl z, fun _ => fin⟩, fun y => ⟨fun _ => ⟨fun z => absurd rfl z, fun _ => fin⟩, fun z => ⟨fun w => ?_, fun _ => ⟨fun z => absurd rfl z, fun _ => fin⟩⟩⟩⟩
      exfalso
      have zz : gI (wI S (upI (gI S) x 0 1)) m 10 = nI t := by show upI (gI S) x 0 1 m 10 = _; rw [up_ne mx]; exact h10
      rw [zz] at z
      have y1 := nr_ix (N := min t 300 + 1) (by omega) hbad y
      have w' : p0 ≤ nI 300 := w
      have c1 : nI (min t 300 + 1) ≤ nI t := by rw [fa_le] at y1 ⊢; rw [fa_lt] at z; omega
      have c2 : nI (min t 300 + 1) ≤ nI 300 := by rw [fa_le] at y1 w' ⊢; omega
      have c3 := (nI_leI (by omega) (by omega)).mp c1
      have c4 := (nI_leI (by omega) (by omega)).mp c2
      omega
    refine ⟨hx, True, fun _ => bad, fun _ => trivial, fun y0 => ⟨k, r4, k7, fun _ => trivial, fun z => ⟨fun w => ?_, fun _ => trivial⟩⟩⟩
    exfalso
    rw [h1] at z
    have y1 := nr_ix (N := min t 300 + 1) (by omega) hbad y0
    have w' : p0 ≤ nI 300 := w
    have c1 : nI (min t 300 + 1) ≤ nI t := by rw [fa_le] at y1 ⊢; rw [fa_lt] at z; omega
    have c2 : nI (min t 300 + 1) ≤ nI 300 := by rw [fa_le] at y1 w' ⊢; omega
    have c3 := (nI_leI (by omega) (by omega)).mp c1
    have c4 := (nI_leI (by omega) (by omega)).mp c2
    omega
  obtain ⟨tx, htx⟩ := tape_tx (fun j hj => (hby j hj).2)
  refine ⟨hx, False, False.elim, fun y => absurd y (nI_nlt (b := 0) (Nat.zero_le _) (by omega)), fun _ => ⟨k, r4, k7, ?_⟩⟩
  rw [h1]
  have a8W := hmw 8 (by decide)
  have a0W := hmw 0 (by decide)
  have a1W := hmw 1 (by decide)
  have tail : ∀ (S1 : St) (F : FI), Fr (fun e => e = x ∨ WTr k tr ta e) S S1 → (∀ a, kd S a ≠ 0 → a ≠ x → a ≠ ta 6 → gR S1 a = gR S a) → gI S1 k = F k → gR S1 x 4 = some k → F k 1 = 0 → ∀ (F' : FI), MuF m am (gI S1) F' → F' m 10 = 0 → TpX (wI S1 F') x k tt m am 0 := fun S1 F fr ka kF x4 f1 F' ma g10 => by
    obtain ⟨u1, u2, -⟩ := fr k (by rw [k7]; decide)
    obtain ⟨v1, v2, -⟩ := fr tt (by rw [kt]; decide)
    refine ⟨x4, u1.trans k7, ?_, v1.trans kt, v2.trans lt, t8, by omega, ?_, g10, fun j hj => by omega⟩
    · show gR S1 k 0 = _
      rw [ka k (by rw [k7]; decide) kx (Ne.symm (hR.e k7).2.2.2.1)]; exact rt
    · show F' k 1 = _
      rw [ma.1 k km k0 k9 k20, kF]; exact f1
  have nW : ∀ {a : Nat}, a ≠ x → ¬ WTr k tr ta a → ¬ (a = x ∨ WTr k tr ta a) := fun h1 h2 z => by
    rcases z with z | z
    · exact h1 z
    · exact h2 z
  have lm : ∀ S1, Fr (fun e => e = x ∨ WTr k tr ta e) S S1 → LM S1 m am := fun S1 fr => hL.fr fr (nW mx mW)
  have mdl : ∀ S1, Fr (fun e => e = x ∨ WTr k tr ta e) S S1 → gI S1 m 10 = nI t ∧ (∀ j, j < L → tx j < 256 ∧ gI S1 (am 8) j = sb (tx j)) ∧ BM B (gI S1 (am 0)) ∧ ∀ i, i < bM B → nmq (bnm B i) (gJ S1 (am 1) i) := fun S1 fr => by
    have u := (fr m (by rw [hL.z]; decide)).2.2 (nW mx mW)
    have v := (fr (am 8) (by rw [hL.k 8]; decide)).2.2 (nW a8x a8W)
    have w := (fr (am 0) (by rw [hL.k 0]; decide)).2.2 (nW (x_am hx hL 0) a0W)
    have z := (fr (am 1) (by rw [hL.k 1]; decide)).2.2 (nW (x_am hx hL 1) a1W)
    refine ⟨by rw [u.1]; exact h10, fun j hj => ⟨(htx j (by omega)).1, ?_⟩, by rw [w.1]; exact hBM, by rw [z.2.1]; exact hN⟩
    rw [v.1, ← (hby j (by omega)).1]; exact (htx j (by omega)).2
  refine ⟨fun y => absurd y (nI_nlt (by omega) (by omega)), fun _ => ⟨fun _ => ⟨tr, h6, b, h7, hR.1, sp_ttakes (tx := tx) hR hk hb (fun i hi => (hN i hi).2) hB hi (by omega) (fun j hj => htx j (by omega)) (fun q F J R s hrb fr fR f1 f9 f10 rd ok d0 => ⟨fun _ => ⟨tr, ?_, b, ?_, hR.1, 3, 4005, hc, hd, ?_⟩, fun y => absurd y one0⟩) (fun f q F J R s hrb fr fR f1 f9 f10 => ⟨fun y => absurd rfl y, fun _ => ?_⟩)⟩, fun y => absurd (nI_le (a := L) (b := 300) (by omega) (by decide)) y⟩⟩
  · rw [fR x x6]; exact h6
  · rw [fR x x6]; exact h7
  · have sim : Sim im S (wA S F J R) := fun a ha => ⟨rfl, rfl, (fr a (hi a ha)).1, (fr a (hi a ha)).2, fR a (fun z => hi a ha (Or.inr (Or.inr (Or.inr (Or.inr (Or.inl z))))))⟩
    refine sp_tmade (S := wA S F J R) (k := k) (hR.ft fR) hb (ok.pw d0) (hB.sm sim) (rd.sm sim) hi (Nat.le_refl _) (Nat.le_refl _) (fun t' S17 nw fr17 gj17 nwf txx => ?_)
    have nwf' : ∀ e, nw e → kd S e = 0 ∧ kd S17 e ≠ 0 := nwf
    have xal : kd S x ≠ 0 := by rw [hx]; decide
    have wx : ¬ (x = tr ∨ x = ta 7 ∨ x = ta 8 ∨ x = ta 9) := fun z => xW (by
      rcases z with z | z | z | z
      · exact Or.inr (Or.inl z)
      · exact Or.inr (Or.inr (Or.inr (Or.inr (Or.inr (Or.inl z)))))
      · exact Or.inr (Or.inr (Or.inr (Or.inr (Or.inr (Or.inr (Or.inl z))))))
      · exact Or.inr (Or.inr (Or.inr (Or.inr (Or.inr (Or.inr (Or.inr z)))))))
    have wk : ¬ (k = tr ∨ k = ta 7 ∨ k = ta 8 ∨ k = ta 9) := fun z => by
      rcases z with z | z | z | z
      · exact (kd_ne k7 hR.1 (by decide)) z
      · exact (kd_ne k7 hR.2.2.2.2.2.1.2.1 (by decide)) z
      · exact (kd_ne k7 hR.2.2.2.2.2.2.1.2.1 (by decide)) z
      · exact (kd_ne k7 hR.2.2.2.2.2.2.2.1.2.1 (by decide)) z
    have xa := fr17 x xal
    have xb := xa.2.2 wx
    have ka := fr17 k (by show kd S k ≠ 0; rw [k7]; decide)
    have kb := ka.2.2 wk
    have nx0 : ∀ e, nw e → e ≠ x := fun e he z => by
      have := (nwf' e he).1
      rw [z, hx] at this; cases this
    have xI : gI S17 x = gI S x := xb.1.trans (fr x xW).1
    have xJ : gJ S17 x = gJ S x := xb.2.1.trans (fr x xW).2
    have xR : gR S17 x = gR S x := xb.2.2.trans (fR x x6)
    refine ⟨xa.1.trans hx, fun R19 e19 R20 e20 => ?_⟩
    have oR : ∀ a, a ≠ x → R20 a = gR S17 a := fun a ha => by rw [e20, upR_ne ha, e19, upR_ne ha]
    have r8 : R20 x 8 = some t' := by rw [e20, upR_no (by decide), e19, upR_at]
    refine ⟨t', r8, txx.2.1, ?_⟩
    rw [show gI S17 t' 1 = nI s.2.2 from txx.2.2.2.1]
    refine an (xa.1.trans hx) ?_
    let S1 : St := wA S17 (upI (gI S17) x 0 0) (gJ S17) R20
    have frS : Fr (fun e => e = x ∨ WTr k tr ta e) S S1 := fun a ha => by
      obtain ⟨y1, y2, y3⟩ := fr17 a ha
      refine ⟨y1, y2, fun hw => ?_⟩
      have ax : a ≠ x := fun z => hw (Or.inl z)
      have aw : ¬ WTr k tr ta a := fun z => hw (Or.inr z)
      obtain ⟨y4, y5, y6⟩ := y3 (fun z => aw (by
        rcases z with z | z | z | z
        · exact Or.inr (Or.inl z)
        · exact Or.inr (Or.inr (Or.inr (Or.inr (Or.inr (Or.inl z)))))
        · exact Or.inr (Or.inr (Or.inr (Or.inr (Or.inr (Or.inr (Or.inl z))))))
        · exact Or.inr (Or.inr (Or.inr (Or.inr (Or.inr (Or.inr (Or.inr z))))))))
      refine ⟨?_, y5.trans (fr a aw).2, ((oR a ax).trans y6).trans (fR a (fun z => aw (Or.inr (Or.inr (Or.inr (Or.inr (Or.inl z)))))))⟩
      show upI (gI S17) x 0 0 a = _
      rw [up_ne ax, y4]; exact (fr a aw).1
    have kaS : ∀ a, kd S a ≠ 0 → a ≠ x → a ≠ ta 6 → gR S1 a = gR S a := fun a ha ax a6 => ((oR a ax).trans (gj17 a ha).1).trans (fR a a6)
    have x4' : gR S1 x 4 = some k := by
      show R20 x 4 = _
      rw [e20, upR_no (by decide), e19, upR_no (by decide), xR]; exact r4
    have kk : gI S1 k = F k := by
      show upI (gI S17) x 0 0 k = _
      rw [up_ne kx]; exact kb.1
    refine hq _ S1 frS kaS xJ (fun j hj => ?_) (fun j j8 j9 => ?_) (fun Q2 h2 => ?_)
    · show upI (gI S17) x 0 0 x j = _
      rw [up_no hj, xI]
    · show R20 x j = _
      rw [e20, upR_no j9, e19, upR_no j8, xR]
    · have md := mdl S1 frS
      refine sm_touch (S := S1) (t := t) (lm S1 frS) md.1 t9 (by omega) (by omega) md.2.1 hb md.2.2.1 md.2.2.2 hrb (fun _ F' ma g10 g16 g17 g2 pm a5 a6 lo => ?_) (fun f ho => by cases ho)
      refine h2 F' 0 ma ?_ ⟨?_, ?_⟩ (tail S1 F frS kaS kk x4' f1 F' ma g10) (Or.inr ⟨s.2.1, s.2.2, t', nw, ok.pw d0, ok.2.1, r8, ?_, ?_, nwf', pm, a5, a6, lo⟩)
      · rw [g2]; exact up_at.symm
      · rw [g16, kk]; exact f9.symm
      · rw [g17, kk]; exact f10.symm
      · show R20 x 9 = _
        rw [e20, upR_at]
      · refine txx.sm (fun a ha => ⟨rfl, rfl, ?_, rfl, oR a (nx0 a ha)⟩)
        exact up_ne (nx0 a ha)
  · refine rf hx ?_
    let S1 : St := wA S (upI F x 0 9) J R
    have frS : Fr (fun e => e = x ∨ WTr k tr ta e) S S1 := fun a ha => by
      refine ⟨rfl, rfl, fun hw => ?_⟩
      have ax : a ≠ x := fun z => hw (Or.inl z)
      have aw : ¬ WTr k tr ta a := fun z => hw (Or.inr z)
      refine ⟨?_, (fr a aw).2, fR a (fun z => aw (Or.inr (Or.inr (Or.inr (Or.inr (Or.inl z))))))⟩
      show upI F x 0 9 a = _
      rw [up_ne ax]; exact (fr a aw).1
    have kaS : ∀ a, kd S a ≠ 0 → a ≠ x → a ≠ ta 6 → gR S1 a = gR S a := fun a ha ax a6 => fR a a6
    have kk : gI S1 k = F k := up_ne kx
    refine hq _ S1 frS kaS (fr x xW).2 (fun j hj => ?_) (fun j j8 j9 => by show R x j = _; rw [fR x x6]) (fun Q2 h2 => ?_)
    · show upI F x 0 9 x j = _
      rw [up_no hj, (fr x xW).1]
    · have md := mdl S1 frS
      refine sm_touch (S := S1) (t := t) (lm S1 frS) md.1 t9 (by omega) (by omega) md.2.1 hb md.2.2.1 md.2.2.2 hrb (fun ho => by cases ho) (fun f' ho F' ma a0 g10 g16 g17 g2 => ?_)
      cases ho
      refine h2 F' 0 ma ?_ ⟨?_, ?_⟩ (tail S1 F frS kaS kk (by show R x 4 = _; rw [fR x x6]; exact r4) f1 F' ma g10) (Or.inl ⟨fR x x6, a0⟩)
      · rw [g2]; exact up_at.symm
      · rw [g16, kk]; exact f9.symm
      · rw [g17, kk]; exact f10.symm
end KT
