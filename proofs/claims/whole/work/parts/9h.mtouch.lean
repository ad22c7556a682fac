/-! The reference reads a step of a touch. -/
def Ops (A : Nat → Int32) : List Nat → Prop
  | [] => True
  | o :: t => A t.length = nI o ∧ Ops A t
theorem Ops.cg {A C : Nat → Int32} : ∀ {os : List Nat}, Ops A os → (∀ j, j < os.length → C j = A j) → Ops C os
  | [], _, _ => by unfold Ops; trivial
  | o :: t, h, hc => ⟨by rw [hc t.length (Nat.lt_succ_self _)]; exact h.1, Ops.cg h.2 (fun j hj => hc j (by show j < t.length + 1; omega))⟩
def RdS (F : FI) (m : Nat) (am : Nat → Nat) (P : Pg) (st : Nat) : Prop := PMd P (fun i => F (am 0) (9680 + i)) ∧ F m 22 = nI st ∧ F m 21 = nI (dep P) ∧ Ops (F (am 20)) (nst P (pgK P))
def MtF (m : Nat) (am : Nat → Nat) (G F : FI) : Prop := (∀ a, a ≠ m → a ≠ am 0 → a ≠ am 20 → F a = G a) ∧ (∀ j, j ≠ 12 → j ≠ 13 → j ≠ 14 → j ≠ 15 → j ≠ 17 → j ≠ 18 → j ≠ 21 → j ≠ 22 → F m j = G m j) ∧ ∀ k, k < 9680 → F (am 0) k = G (am 0) k
def EdM (m : Nat) (am : Nat → Nat) (K : Nat) (G F : FI) (c mm n r3 s1 d1 : Int32) : Prop := MtF m am G F ∧ F m 18 = 0 ∧ F m 17 = G m 17 ∧ F m 22 = s1 ∧ F m 21 = d1 ∧ F (am 0) 9684 = nI (K + 1) ∧ (∀ i, i < 4 * K → F (am 0) (9850 + i) = G (am 0) (9850 + i)) ∧ F (am 0) (9850 + 4 * K) = c ∧ F (am 0) (9850 + 4 * K + 1) = mm ∧ F (am 0) (9850 + 4 * K + 2) = n ∧ F (am 0) (9850 + 4 * K + 3) = r3
section MT
variable {S : St} {m : Nat} {am : Nat → Nat} {tx : Nat → Nat} {L p : Nat} {G F F2 : FI} {B : Bk} {P : Pg} {st : Nat}
theorem MtF.rf : MtF m am G G := ⟨fun _ _ _ _ => rfl, fun _ _ _ _ _ _ _ _ _ => rfl, fun _ _ => rfl⟩
theorem MtF.tr (h : MtF m am G F) (h2 : MtF m am F F2) : MtF m am G F2 := ⟨fun a y1 y2 y3 => (h2.1 a y1 y2 y3).trans (h.1 a y1 y2 y3), fun j y1 y2 y3 y4 y5 y6 y7 y8 => (h2.2.1 j y1 y2 y3 y4 y5 y6 y7 y8).trans (h.2.1 j y1 y2 y3 y4 y5 y6 y7 y8), fun k hk => (h2.2.2 k hk).trans (h.2.2 k hk)⟩
theorem MtF.ah (hL : LM S m am) (h : AhF m G F) : MtF m am G F := ⟨fun a y1 _ _ => h.1 a y1, fun j y1 y2 y3 y4 _ _ _ _ => h.2 j y1 y2 y3 y4, fun k _ => by rw [h.1 _ (hL.o 0)]⟩
theorem MtF.fl {kn q : Nat} (hL : LM S m am) (h : FlM m tx L q kn G F) : MtF m am G F := ⟨fun a y1 _ _ => h.1 a y1, fun j _ _ _ _ y5 y6 _ _ => h.2.1 j y5 y6, fun k _ => by rw [h.1 _ (hL.o 0)]⟩
theorem TxM.mt (hL : LM S m am) (hX : TxM G m am tx L) (h : MtF m am G F) : TxM F m am tx L := hX.cg (h.2.1 11 (by decide) (by decide) (by decide) (by decide) (by decide) (by decide) (by decide) (by decide)) (h.1 _ (hL.o 9) (hL.n (by decide)) (hL.n (by decide)))
theorem EdM.ah (hL : LM S m am) {K : Nat} {c mm n r3 s1 d1 : Int32} (h : EdM m am K G F c mm n r3 s1 d1) (h2 : AhF m F F2) : EdM m am K G F2 c mm n r3 s1 d1 := by
  obtain ⟨e1, e2, e3, e4, e5, e6, e7, e8, e9, e10, e11⟩ := h
  have a0 : F2 (am 0) = F (am 0) := h2.1 _ (hL.o 0)
  refine ⟨e1.tr (MtF.ah hL h2), ?_, ?_, ?_, ?_, ?_, ?_, ?_, ?_, ?_, ?_⟩
  · rw [h2.2 18 (by decide) (by decide) (by decide) (by decide)]; exact e2
  · rw [h2.2 17 (by decide) (by decide) (by decide) (by decide)]; exact e3
  · rw [h2.2 22 (by decide) (by decide) (by decide) (by decide)]; exact e4
  · rw [h2.2 21 (by decide) (by decide) (by decide) (by decide)]; exact e5
  · rw [a0]; exact e6
  · rw [a0]; exact e7
  · rw [a0]; exact e8
  · rw [a0]; exact e9
  · rw [a0]; exact e10
  · rw [a0]; exact e11
/-- one cell of the new line set, and a token on -/
theorem EdM.set (hL : LM S m am) {K j : Nat} {c mm n r3 s1 d1 v : Int32} (hj : 1 ≤ j) (hj2 : j ≤ 2) (h : EdM m am K G F c mm n r3 s1 d1) (fa : ∀ a, a ≠ m → a ≠ am 0 → F2 a = F a) (fm : ∀ j, j ≠ 12 → j ≠ 13 → j ≠ 14 → j ≠ 15 → F2 m j = F m j) (f0 : ∀ i, F2 (am 0) i = if i = 9850 + 4 * K + j then v else F (am 0) i) : EdM m am K G F2 c (if j = 1 then v else mm) (if j = 2 then v else n) r3 s1 d1 := by
  obtain ⟨e1, e2, e3, e4, e5, e6, e7, e8, e9, e10, e11⟩ := h
  refine ⟨⟨fun a y1 y2 y3 => by rw [fa a y1 y2]; exact e1.1 a y1 y2 y3, fun j y1 y2 y3 y4 y5 y6 y7 y8 => by rw [fm j y1 y2 y3 y4]; exact e1.2.1 j y1 y2 y3 y4 y5 y6 y7 y8, fun k hk => by rw [f0 k, if_neg (by omega)]; exact e1.2.2 k hk⟩, ?_, ?_, ?_, ?_, ?_, fun i hi => ?_, ?_, ?_, ?_, ?_⟩
  · rw [fm 18 (by decide) (by decide) (by decide) (by decide)]; exact e2
  · rw [fm 17 (by decide) (by decide) (by decide) (by decide)]; exact e3
  · rw [fm 22 (by decide) (by decide) (by decide) (by decide)]; exact e4
  · rw [fm 21 (by decide) (by decide) (by decide) (by decide)]; exact e5
  · rw [f0, if_neg (by omega)]; exact e6
  · rw [f0, if_neg (by omega)]; exact e7 i hi
  · rw [f0, if_neg (by omega)]; exact e8
  · rw [f0]
    by_cases c1 : j = 1
    · rw [if_pos (by omega), if_pos c1]
    · rw [if_neg (by omega), if_neg c1]; exact e9
  · rw [f0]
    by_cases c1 : j = 2
    · rw [if_pos (by omega), if_pos c1]
    · rw [if_neg (by omega), if_neg c1]; exact e10
  · rw [f0, if_neg (by omega)]; exact e11
theorem RdS.of {c mm n s' d1 : Nat} {r3 : Int32} (hP : PMd P (fun i => G (am 0) (9680 + i))) (h : EdM m am (pgK P) G F (nI c) (nI mm) (nI n) r3 (nI s') (nI d1)) (hd : d1 = dep (addP P c mm n)) (h3 : c = 10 → r3 = nI ((nst P (pgK P)).headD 0)) (hO : Ops (F (am 20)) (nst (addP P c mm n) (pgK P + 1))) : RdS F m am (addP P c mm n) s' := by
  obtain ⟨e1, e2, e3, e4, e5, e6, e7, e8, e9, e10, e11⟩ := h
  refine ⟨⟨e6, fun k hk => ?_⟩, e4, by rw [e5, hd], hO⟩
  have hk' : k < pgK P + 1 := hk
  show F (am 0) (9680 + (170 + 4 * k)) = _ ∧ F (am 0) (9680 + (170 + 4 * k + 1)) = _ ∧ F (am 0) (9680 + (170 + 4 * k + 2)) = _ ∧ (_ → F (am 0) (9680 + (170 + 4 * k + 3)) = _)
  rcases Nat.lt_or_ge k (pgK P) with z | z
  · have u1 : pgk (addP P c mm n) k = pgk P k := setg_no (by omega)
    have u2 : pgm (addP P c mm n) k = pgm P k := setg_no (by omega)
    have u3 : pgc (addP P c mm n) k = pgc P k := setg_no (by omega)
    have g : ∀ j, j < 4 → F (am 0) (9680 + (170 + 4 * k + j)) = G (am 0) (9680 + (170 + 4 * k + j)) := fun j hj => by
      rw [show 9680 + (170 + 4 * k + j) = 9850 + (4 * k + j) by omega]; exact e7 _ (by omega)
    obtain ⟨w1, w2, w3, w4⟩ := hP.2 k z
    rw [u1, u2, u3, nst_add P c mm n k (by omega)]
    exact ⟨(g 0 (by decide)).trans w1, (g 1 (by decide)).trans w2, (g 2 (by decide)).trans w3, fun y => (g 3 (by decide)).trans (w4 y)⟩
  · have e : k = pgK P := by omega
    subst e
    have u1 : pgk (addP P c mm n) (pgK P) = c := setg_at
    have u2 : pgm (addP P c mm n) (pgK P) = mm := setg_at
    have u3 : pgc (addP P c mm n) (pgK P) = n := setg_at
    rw [u1, u2, u3, nst_add P c mm n _ (Nat.le_refl _)]
    have ix : ∀ j, 9680 + (170 + 4 * pgK P + j) = 9850 + 4 * pgK P + j := fun j => by omega
    rw [show 9680 + (170 + 4 * pgK P) = 9850 + 4 * pgK P by omega, ix 1, ix 2, ix 3]
    exact ⟨e8, e9, e10, fun y => by rw [e11, h3 y]⟩
theorem sm_aLead {to i : Nat} {Q : Int32 → FI → Prop} {o : Option Nat} {q : Nat} (hL : LM S m am) (hX : TxM (gI S) m am tx L) (hT : TkM (gI S) m tx L p) (hp : p ≤ L) (h18 : gI S m 18 = 0) (hb : bok B) (hB : gI S (am 0) 1 = nI (bM B)) (hN : ∀ i, i < bM B → nmq (bnm B i) (gJ S (am 1) i)) (hto : to + 1 < 12100) (hr : rMN B i tx L p o q)
    (hy : o = none → q = nx tx L p → i < bM B → tk tx L p ≠ 1 → ∀ F, (∀ a, a ≠ m → a ≠ am 0 → F a = gI S a) → (∀ j, j ≠ 12 → j ≠ 13 → j ≠ 14 → j ≠ 15 → F m j = gI S m j) → (∀ j, F (am 0) j = if j = to + 1 then nI i else gI S (am 0) j) → TkM F m tx L q → Q 1 F) (hf : ∀ f, o = some f → ∀ F, (∃ kn, FlM m tx L q kn (gI S) F) → F m 18 = nI f → F m 17 = nI (sk tx L q) → Q 0 F) : P_X12_aLead m (nI to) S Q := by
  have nl := nx_le (tx := tx) hp
  have hM4 := hb.2.2.1
  refine ⟨hL.z, sm_isName hL hX hT (fun e4 => ⟨fun _ => ⟨am 0, hL.r 0, hL.k 0, hL.i 0 (p := 1) (by decide), ?_⟩, fun y => absurd y one0⟩) (fun n4 => ⟨fun y => absurd rfl y, fun _ => ?_⟩)⟩
  · rw [hB]
    refine sm_findHere (base := 0) (many := bM B) (nm := bnm B) hL hX hT e4 (by omega) (fun j hj => by rw [Nat.zero_add]; exact hN j hj) (fun j hj hw hfst => ⟨fun _ => ?_, fun y => ?_⟩) (fun hno => ⟨fun y => absurd rfl y, fun _ => ?_⟩)
    · have hh : i = j ∧ o = none ∧ q = nx tx L p := by
        rcases hr with ⟨-, h1, h2, h3, h4, h5⟩ | ⟨-, h1, -⟩ | ⟨y, -⟩
        · refine ⟨?_, h4, h5⟩
          rcases Nat.lt_trichotomy i j with z | z | z
          · exact absurd h2 (hfst i z)
          · exact z
          · exact absurd hw (h3 j z)
        · exact absurd hw (h1 j hj)
        · exact absurd e4 y
      rw [nI_1]
      refine ⟨hL.i 0 hto, fun F8 e8 => ?_⟩
      rw [nI_clamp (by omega)] at e8
      have m8 : F8 m = gI S m := by rw [e8, up_ne (Ne.symm (hL.o 0))]
      have X8 : TxM F8 m am tx L := hX.cg (by rw [m8]) (by rw [e8, up_ne (hL.n (by decide))])
      refine sm_ahead (S := wI S F8) hL X8 (by show F8 m 14 = _; rw [m8]; exact hT.2.1) nl.2.2.1 (fun F af t => ?_)
      have af' : AhF m F8 F := af
      refine hy hh.2.1 hh.2.2 (by rw [hh.1]; exact hj) (by omega) F (fun a y1 y2 => by rw [af'.1 a y1, e8, up_ne y2]) (fun j y1 y2 y3 y4 => by rw [af'.2 j y1 y2 y3 y4, m8]) (fun a => ?_) (by rw [hh.2.2]; exact t)
      rw [af'.1 _ (hL.o 0), e8, hh.1]
      by_cases ci : a = to + 1
      · rw [ci, up_at, if_pos rfl]
      · rw [up_no ci, if_neg ci]
    · exact absurd y (N_ne (by omega))
    · have hh : o = some 3 ∧ q = p := by
        rcases hr with ⟨-, h1, h2, -⟩ | ⟨-, h1, h2⟩ | ⟨y, -⟩
        · exact absurd h2 (hno i h1)
        · exact h2
        · exact absurd e4 y
      exact sm_fails (kn := 3) hL hT h18 (fun F fl => ⟨Or.inl rfl, hf 3 hh.1 F ⟨3, by rw [hh.2]; exact fl⟩ (by rw [fl.2.2.1, if_neg (by omega)]) (by rw [hh.2]; exact fl.2.2.2)⟩)
  · have hh : o = some (mis tx L p) ∧ q = p := by
      rcases hr with ⟨y, -⟩ | ⟨y, -⟩ | ⟨-, h2⟩
      · exact absurd y n4
      · exact absurd y n4
      · exact h2
    exact sm_fails (kn := 2) hL hT h18 (fun F fl => ⟨Or.inl rfl, hf _ hh.1 F ⟨2, by rw [hh.2]; exact fl⟩ fl.2.2.1 (by rw [hh.2]; exact fl.2.2.2)⟩)
end MT
