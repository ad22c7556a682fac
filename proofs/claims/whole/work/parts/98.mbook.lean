/-! The reference reads a book. -/
def RdM (F : FI) (J : FJ) (am : Nat → Nat) (B : Bk) (R : Nat) (rn : Nat → List Nat) : Prop := BM B (fun k => F (am 0) (9680 + k)) ∧ F (am 0) 9682 = nI R ∧ F (am 0) 9684 = -1 ∧ F (am 0) 9686 = -1 ∧ (∀ i, i < bM B → J (am 1) (48 + i) = n256 (bnm B i)) ∧ ∀ j, j < R → J (am 1) (52 + j) = n256 (rn j)
def MbF (m : Nat) (am : Nat → Nat) (G F : FI) (GJ J : FJ) : Prop := (∀ a, a ≠ m → a ≠ am 0 → F a = G a) ∧ (∀ j, j ≠ 12 → j ≠ 13 → j ≠ 14 → j ≠ 15 → j ≠ 17 → j ≠ 18 → F m j = G m j) ∧ (∀ k, k < 9680 → F (am 0) k = G (am 0) k) ∧ (∀ a, a ≠ am 1 → J a = GJ a) ∧ ∀ k, k < 48 → J (am 1) k = GJ (am 1) k
def MmF (m : Nat) (am : Nat → Nat) (W : Nat) (G F : FI) : Prop := (∀ a, a ≠ m → a ≠ am 0 → F a = G a) ∧ (∀ j, j ≠ 12 → j ≠ 13 → j ≠ 14 → j ≠ 15 → F m j = G m j) ∧ ∀ k, (k < W ∨ W + 40 ≤ k) → F (am 0) k = G (am 0) k
section MB
variable {S : St} {m n W : Nat} {am : Nat → Nat} {tx : Nat → Nat} {L p : Nat} {G F F2 : FI} {GJ J J2 : FJ} {B : Bk} {R : Nat} {rn : Nat → List Nat}
theorem MbF.rf : MbF m am G G GJ GJ := ⟨fun _ _ _ => rfl, fun _ _ _ _ _ _ _ => rfl, fun _ _ => rfl, fun _ _ => rfl, fun _ _ => rfl⟩
theorem MbF.tr (h : MbF m am G F GJ J) (h2 : MbF m am F F2 J J2) : MbF m am G F2 GJ J2 := ⟨fun a y1 y2 => (h2.1 a y1 y2).trans (h.1 a y1 y2), fun j y1 y2 y3 y4 y5 y6 => (h2.2.1 j y1 y2 y3 y4 y5 y6).trans (h.2.1 j y1 y2 y3 y4 y5 y6), fun k hk => (h2.2.2.1 k hk).trans (h.2.2.1 k hk), fun a ha => (h2.2.2.2.1 a ha).trans (h.2.2.2.1 a ha), fun k hk => (h2.2.2.2.2 k hk).trans (h.2.2.2.2 k hk)⟩
theorem MbF.ah (hL : LM S m am) (h : AhF m G F) : MbF m am G F GJ GJ := ⟨fun a y1 _ => h.1 a y1, fun j y1 y2 y3 y4 _ _ => h.2 j y1 y2 y3 y4, fun k _ => by rw [h.1 _ (hL.o 0)], fun _ _ => rfl, fun _ _ => rfl⟩
theorem MbF.fl {kn : Nat} (hL : LM S m am) (h : FlM m tx L p kn G F) : MbF m am G F GJ GJ := ⟨fun a y1 _ => h.1 a y1, fun j _ _ _ _ y5 y6 => h.2.1 j y5 y6, fun k _ => by rw [h.1 _ (hL.o 0)], fun _ _ => rfl, fun _ _ => rfl⟩
theorem MbF.mm (hW : 9680 ≤ W) (h : MmF m am W G F) : MbF m am G F GJ GJ := ⟨h.1, fun j y1 y2 y3 y4 _ _ => h.2.1 j y1 y2 y3 y4, fun k hk => h.2.2 k (Or.inl (by omega)), fun _ _ => rfl, fun _ _ => rfl⟩
theorem MbF.u0 {i : Nat} {v : Int32} (hL : LM S m am) (hi : 9680 ≤ i) : MbF m am G (upI G (am 0) i v) GJ GJ := ⟨fun a _ y2 => up_ne y2, fun j _ _ _ _ _ _ => by rw [up_ne (Ne.symm (hL.o 0))], fun k hk => up_no (by omega), fun _ _ => rfl, fun _ _ => rfl⟩
theorem MbF.uJ {i : Nat} {v : Int64} (hi : 48 ≤ i) : MbF m am G G GJ (upJ GJ (am 1) i v) := ⟨fun _ _ _ => rfl, fun _ _ _ _ _ _ _ => rfl, fun _ _ => rfl, fun a ha => upJ_ne ha, fun k hk => upJ_no (by omega)⟩
theorem MmF.rf : MmF m am W G G := ⟨fun _ _ _ => rfl, fun _ _ _ _ _ => rfl, fun _ _ => rfl⟩
theorem MmF.tr (h : MmF m am W G F) (h2 : MmF m am W F F2) : MmF m am W G F2 := ⟨fun a y1 y2 => (h2.1 a y1 y2).trans (h.1 a y1 y2), fun j y1 y2 y3 y4 => (h2.2.1 j y1 y2 y3 y4).trans (h.2.1 j y1 y2 y3 y4), fun k hk => (h2.2.2 k hk).trans (h.2.2 k hk)⟩
theorem MmF.ah (hL : LM S m am) (h : AhF m G F) : MmF m am W G F := ⟨fun a y1 _ => h.1 a y1, h.2, fun k _ => by rw [h.1 _ (hL.o 0)]⟩
theorem MmF.u0 {i : Nat} {v : Int32} (hL : LM S m am) (h1 : W ≤ i) (h2 : i < W + 40) : MmF m am W G (upI G (am 0) i v) := ⟨fun a _ y2 => up_ne y2, fun j _ _ _ _ => by rw [up_ne (Ne.symm (hL.o 0))], fun k hk => up_no (by omega)⟩
theorem TxM.mb (hL : LM S m am) (hX : TxM G m am tx L) (h : MbF m am G F GJ J) : TxM F m am tx L := hX.cg (h.2.1 11 (by decide) (by decide) (by decide) (by decide) (by decide) (by decide)) (h.1 _ (hL.o 9) (hL.n (by decide)))
theorem TxM.mm (hL : LM S m am) (hX : TxM G m am tx L) (h : MmF m am W G F) : TxM F m am tx L := hX.cg (h.2.1 11 (by decide) (by decide) (by decide) (by decide)) (h.1 _ (hL.o 9) (hL.n (by decide)))
theorem TkM.cg {F2 : FI} (h : TkM F m tx L p) (hk : F2 m = F m) : TkM F2 m tx L p := by
  unfold TkM at h ⊢
  rw [hk]; exact h
theorem sm_wantSign {Q : Int32 → FI → Prop} {o : Option Nat} {q : Nat} (hL : LM S m am) (hX : TxM (gI S) m am tx L) (hT : TkM (gI S) m tx L p) (hp : p ≤ L) (h18 : gI S m 18 = 0) (hr : rSG tx L p o q)
    (hy : o = none → q = nx tx L p → tk tx L p ≠ 1 → ∀ F, AhF m (gI S) F → TkM F m tx L q → Q 1 F) (hf : ∀ f, o = some f → ∀ F, (∃ kn, FlM m tx L q kn (gI S) F) → F m 18 = nI f → F m 17 = nI (sk tx L q) → Q 0 F) : P_X12_wantSign m 59 S Q := by
  have t17 := tk_17 (tx := tx) (L := L) p
  have nl := nx_le (tx := tx) hp
  refine ⟨hL.z, hL.z, ?_⟩
  rw [hT.2.2.1, mtc_4 t17]
  rcases hr with ⟨h1, h2, h3⟩ | ⟨h1, h2, h3⟩
  · refine ⟨fun y => absurd h1 y, fun _ => ⟨fun y => absurd (hT.2.2.2.2 h1) y, fun _ => ⟨fun _ => ?_, fun y => absurd y one0⟩⟩⟩
    exact sm_ahead hL hX hT.2.1 nl.2.2.1 (fun F af t => hy h2 h3 (by omega) F af (by rw [h3]; exact t))
  · refine ⟨fun _ => ⟨fun y => absurd rfl y, fun _ => ?_⟩, fun y => absurd y h1⟩
    exact sm_fails (kn := 2) hL hT h18 (fun F fl => ⟨Or.inl rfl, hf _ h2 F ⟨2, by rw [h3]; exact fl⟩ fl.2.2.1 (by rw [h3]; exact fl.2.2.2)⟩)
theorem sm_placesTo {to : Nat} {Q : Int32 → FI → Prop} {o : Option Nat} {q : Nat} (hL : LM S m am) (hX : TxM (gI S) m am tx L) (hT : TkM (gI S) m tx L p) (hp : p ≤ L) (h18 : gI S m 18 = 0) (h96 : gI S (am 0) 9680 = nI n) (hn8 : n ≤ 8) (hto : to < 12100) (hr : rPL n tx L p o q)
    (hy : o = none → q = nx tx L p → PLg n tx L p → ∀ F, (∀ a, a ≠ m → a ≠ am 0 → F a = gI S a) → (∀ j, j ≠ 12 → j ≠ 13 → j ≠ 14 → j ≠ 15 → F m j = gI S m j) → (∀ i, F (am 0) i = if i = to then msk (stf (psw n tx L p)) n else gI S (am 0) i) → TkM F m tx L q → Q 1 F) (hf : ∀ f, o = some f → ∀ F, (∃ kn, FlM m tx L q kn (gI S) F) → F m 18 = nI f → F m 17 = nI (sk tx L q) → Q 0 F) : P_X12_placesTo m (nI to) S Q := by
  have nl := nx_le (tx := tx) hp
  have pltk : PLt tx L p → tk tx L p ≠ 0 := fun h => by rcases h with e | e <;> omega
  refine ⟨hL.z, sm_isPlaces hL hX hT (fun hPt => ⟨fun _ => ?_, fun y => absurd y one0⟩) (fun hPt => ⟨fun y => absurd rfl y, fun _ => ?_⟩)⟩
  · refine sm_placesHere hL hX hT hPt h96 hn8 (fun g => ⟨fun _ => ⟨am 0, hL.r 0, hL.k 0, hL.i 0 hto, fun F8 e8 => ?_⟩, fun y => absurd y (msk_ne hn8)⟩) (fun hno => ⟨fun y => absurd rfl y, fun _ => ?_⟩)
    · rcases hr with ⟨h1, h2, h3⟩ | ⟨f, h1, h2, h3⟩
      · rw [nI_clamp (by omega)] at e8
        have m8 : F8 m = gI S m := by rw [e8, up_ne (Ne.symm (hL.o 0))]
        have X8 : TxM F8 m am tx L := hX.cg (by rw [m8]) (by rw [e8, up_ne (hL.n (by decide))])
        refine sm_ahead (S := wI S F8) hL X8 (by show F8 m 14 = _; rw [m8]; exact hT.2.1) nl.2.2.1 (fun F af t => ?_)
        have af' : AhF m F8 F := af
        refine hy h2 h3 h1 F (fun a y1 y2 => by rw [af'.1 a y1, e8, up_ne y2]) (fun j y1 y2 y3 y4 => by rw [af'.2 j y1 y2 y3 y4, m8]) (fun i => ?_) (by rw [h3]; exact t)
        rw [af'.1 _ (hL.o 0), e8]
        by_cases ci : i = to
        · rw [ci, up_at, if_pos rfl]
        · rw [up_no ci, if_neg ci]
      · rcases h1 with ⟨y, -⟩ | ⟨-, y, -⟩
        · exact absurd hPt y
        · exact absurd g.2 y
    · rcases hr with ⟨h1, h2, h3⟩ | ⟨f, h1, h2, h3⟩
      · exact absurd h1.2 hno
      · have fe : f = 4 := by
          rcases h1 with ⟨y, -⟩ | ⟨-, -, y⟩
          · exact absurd hPt y
          · exact y
        refine sm_fails (kn := 4) hL hT h18 (fun F fl => ⟨Or.inl rfl, hf f h2 F ⟨4, by rw [h3]; exact fl⟩ ?_ (by rw [h3]; exact fl.2.2.2)⟩)
        rw [fl.2.2.1, if_neg (pltk hPt), fe]
  · rcases hr with ⟨h1, h2, h3⟩ | ⟨f, h1, h2, h3⟩
    · exact absurd h1.1 hPt
    · have fe : f = mis tx L p := by
        rcases h1 with ⟨-, y⟩ | ⟨y, -⟩
        · exact y
        · exact absurd y hPt
      refine sm_fails (kn := 2) hL hT h18 (fun F fl => ⟨Or.inl rfl, hf f h2 F ⟨2, by rw [h3]; exact fl⟩ (by rw [fl.2.2.1, fe]; rfl) (by rw [h3]; exact fl.2.2.2)⟩)
theorem sm_newName {base : Nat} {Q : Int32 → FI → FJ → Prop} {o : Option Nat} {q : Nat} (hL : LM S m am) (hX : TxM (gI S) m am tx L) (hT : TkM (gI S) m tx L p) (hp : p ≤ L) (h18 : gI S m 18 = 0) (h1 : gI S (am 0) 9681 = nI (bM B)) (h2 : gI S (am 0) 9682 = nI R) (hM : bM B ≤ 4) (hR : R ≤ 8) (hb : base < 12) (hN1 : ∀ i, i < bM B → gJ S (am 1) (48 + i) = n256 (bnm B i)) (hN2 : ∀ j, j < R → gJ S (am 1) (52 + j) = n256 (rn j)) (ok1 : ∀ i, i < bM B → wok (bnm B i) ∧ (bnm B i).length ≤ 8) (ok2 : ∀ j, j < R → wok (rn j) ∧ (rn j).length ≤ 8)
    (hr : rNN tx L (usedN B R rn) (nx tx L p) o q)
    (hy : o = none → q = nx tx L (nx tx L p) → tk tx L (nx tx L p) = 4 → ∀ F J, AhF m (gI S) F → J = upJ (gJ S) (am 1) (48 + base) (n256 (wd tx L (nx tx L p))) → TkM F m tx L q → Q 1 F J) (hf : ∀ f, o = some f → ∀ F, MbF m am (gI S) F (gJ S) (gJ S) → F m 18 = nI f → F m 17 = nI (sk tx L q) → Q 0 F (gJ S)) : P_X12_newName m (nI base) S Q := by
  have nl := nx_le (tx := tx) hp
  have nl2 := nx_le (tx := tx) nl.2.2.1
  refine ⟨hL.z, sm_ahead hL hX hT.2.1 nl.2.2.1 (fun F1 af1 t1 => ?_)⟩
  have X1 := hX.ah hL af1
  have f18 : F1 m 18 = 0 := by rw [af1.2 18 (by decide) (by decide) (by decide) (by decide)]; exact h18
  have fa : F1 (am 0) = gI S (am 0) := af1.1 _ (hL.o 0)
  refine sm_isName (S := wI S F1) hL X1 t1 (fun e4 => ⟨fun _ => ⟨am 0, hL.r 0, hL.k 0, hL.i 0 (p := 9681) (by decide), ?_⟩, fun y => absurd y one0⟩) (fun e4 => ⟨fun y => absurd rfl y, fun _ => ?_⟩)
  · rw [fa, h1, h2]
    have bad : usedN B R rn (wd tx L (nx tx L p)) → P_X12_fails m 3 (wI S F1) (fun r F => (r = 0 ∨ r = 1) ∧ Q r F (gJ S)) := fun u => by
      rcases hr with ⟨-, y, -⟩ | ⟨-, -, y2, y3⟩ | ⟨y, -⟩
      · exact absurd u y
      · refine sm_fails (S := wI S F1) (kn := 3) hL t1 f18 (fun F fl => ⟨Or.inl rfl, hf 3 y2 F ((MbF.ah hL af1).tr (MbF.fl hL fl)) (by rw [fl.2.2.1, if_neg (by omega)]) (by rw [y3]; exact fl.2.2.2)⟩)
      · exact absurd e4 y
    refine sm_findHere (S := wI S F1) (base := 48) (nm := bnm B) hL X1 t1 e4 (by omega) (fun i hi => ⟨hN1 i hi, ok1 i hi⟩) (fun i hi ei _ => ⟨usedN B R rn (wd tx L (nx tx L p)), bad, fun _ => Or.inl ⟨i, hi, ei⟩, fun y => ?_⟩) (fun hno1 => ⟨usedN B R rn (wd tx L (nx tx L p)), bad, fun y => absurd rfl y, fun _ => ⟨hL.i 0 (p := 9682) (by decide), ?_⟩⟩)
    · have z : ¬ nI i < 0 := nI_pos (by omega)
      rw [y] at z
      exact absurd (by decide) z
    · refine sm_findHere (S := wI S F1) (base := 52) (nm := rn) hL X1 t1 e4 (by omega) (fun i hi => ⟨hN2 i hi, ok2 i hi⟩) (fun i hi ei _ => ⟨fun y => ?_, fun _ => Or.inr ⟨i, hi, ei⟩⟩) (fun hno2 => ⟨fun _ => ⟨am 1, hL.r 1, sm_nameHere (S := wI S F1) hL X1 t1 e4 ⟨hL.k 1, ?_⟩⟩, fun y => absurd rfl y⟩)
      · have z : ¬ nI i < 0 := nI_pos (by omega)
        rw [y] at z
        exact absurd (by decide) z
      · have e48 : (48 : Int32) + nI base = nI (48 + base) := nI_add 48 base
        rw [e48]
        refine ⟨hL.i 1 (by show 48 + base < 70; omega), fun J18 e18 => ?_⟩
        rw [nI_clamp (by omega)] at e18
        have nu : ¬ usedN B R rn (wd tx L (nx tx L p)) := fun u => by
          rcases u with ⟨i, i1, i2⟩ | ⟨i, i1, i2⟩
          · exact hno1 i i1 i2
          · exact hno2 i i1 i2
        rcases hr with ⟨-, -, y2, y3⟩ | ⟨-, y, -⟩ | ⟨y, -⟩
        · refine sm_ahead (S := wA S F1 J18 (gR S)) hL X1 t1.2.1 nl2.2.2.1 (fun F19 af19 t19 => hy y2 y3 e4 F19 J18 (af1.tr af19) e18 (by rw [y3]; exact t19))
        · exact absurd y nu
        · exact absurd e4 y
  · rcases hr with ⟨y, -⟩ | ⟨y, -⟩ | ⟨-, y2, y3⟩
    · exact absurd y e4
    · exact absurd y e4
    · exact sm_fails (S := wI S F1) (kn := 2) hL t1 f18 (fun F fl => ⟨Or.inl rfl, hf _ y2 F ((MbF.ah hL af1).tr (MbF.fl hL fl)) fl.2.2.1 (by rw [y3]; exact fl.2.2.2)⟩)
end MB
