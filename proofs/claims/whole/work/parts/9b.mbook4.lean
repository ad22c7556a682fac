/-! The reference's book. -/
section BW
variable {S : St} {m t : Nat} {am : Nat → Nat} {tx : Nat → Nat} {L p : Nat}
theorem sm_wantWord {c : Nat} {Q : Int32 → FI → Prop} {o : Option Nat} {q : Nat} (hL : LM S m am) (hX : TxM (gI S) m am tx L) (hT : TkM (gI S) m tx L p) (hp : p ≤ L) (h18 : gI S m 18 = 0) (hc : c < 12) (hr : rTK tx L (6 + cmi c) p o q)
    (hy : o = none → q = nx tx L p → tk tx L p = 6 + cmi c → ∀ F, AhF m (gI S) F → TkM F m tx L q → Q 1 F) (hf : ∀ f, o = some f → ∀ F, (∃ kn, FlM m tx L q kn (gI S) F) → F m 18 = nI f → F m 17 = nI (sk tx L q) → Q 0 F) : P_X12_wantWord m 12 (nI c) S Q := by
  have t17 := tk_17 (tx := tx) (L := L) p
  have nl := nx_le (tx := tx) hp
  refine ⟨hL.z, sm_inWords hL hX hT ?_⟩
  rw [mki_eq t17 hc]
  rcases hr with ⟨h1, h2, h3⟩ | ⟨h1, h2, h3⟩
  · refine ⟨fun _ => ?_, fun y => absurd h1 y⟩
    exact sm_ahead hL hX hT.2.1 nl.2.2.1 (fun F af t => hy h2 h3 h1 F af (by rw [h3]; exact t))
  · refine ⟨fun y => absurd y h1, fun _ => ?_⟩
    exact sm_fails (kn := 2) hL hT h18 (fun F fl => ⟨Or.inl rfl, hf _ h2 F ⟨2, by rw [h3]; exact fl⟩ fl.2.2.1 (by rw [h3]; exact fl.2.2.2)⟩)
theorem sm_numberTo {to lo hi : Nat} {Q : Int32 → FI → Prop} {o : Option Nat} {q : Nat} (hL : LM S m am) (hX : TxM (gI S) m am tx L) (hT : TkM (gI S) m tx L p) (hp : p ≤ L) (h18 : gI S m 18 = 0) (hto : to < 12100) (hlo : lo < 2 ^ 31) (hhi : hi < 2 ^ 31) (hr : rNU tx L lo hi p o q)
    (hy : o = none → q = nx tx L p → tk tx L p = 3 → lo ≤ vl' tx L p → vl' tx L p ≤ hi → ∀ F, (∀ a, a ≠ m → a ≠ am 0 → F a = gI S a) → (∀ j, j ≠ 12 → j ≠ 13 → j ≠ 14 → j ≠ 15 → F m j = gI S m j) → (∀ i, F (am 0) i = if i = to then nI (vl' tx L p) else gI S (am 0) i) → TkM F m tx L q → Q 1 F) (hf : ∀ f, o = some f → ∀ F, (∃ kn, FlM m tx L q kn (gI S) F) → F m 18 = nI f → F m 17 = nI (sk tx L q) → Q 0 F) : P_X12_numberTo m (nI to) (nI lo) (nI hi) S Q := by
  have t17 := tk_17 (tx := tx) (L := L) p
  have nl := nx_le (tx := tx) hp
  refine ⟨hL.z, ?_⟩
  rw [hT.2.2.1, mtc_3 t17]
  refine ⟨fun e3 => ?_, fun e3 => ?_⟩
  · have vlt := vlx_lt e3
    rw [hT.2.2.2.1 e3]
    refine ⟨¬ (lo ≤ vl' tx L p ∧ vl' tx L p ≤ hi), fun hbad => ?_, fun y z => absurd y (nI_nlt z.1 (by omega)), fun y1 => ⟨fun y2 => ?_, fun y2 z => absurd (nI_le z.2 (by omega)) y2⟩⟩
    · have hh : o = some 4 ∧ q = p := by
        rcases hr with ⟨-, y, -⟩ | ⟨-, -, y1, y2⟩ | ⟨y, -⟩
        · exact absurd y hbad
        · exact ⟨y1, y2⟩
        · exact absurd e3 y
      exact sm_fails (kn := 4) hL hT h18 (fun F fl => ⟨Or.inl rfl, hf 4 hh.1 F ⟨4, by rw [hh.2]; exact fl⟩ (by rw [fl.2.2.1, if_neg (by omega)]) (by rw [hh.2]; exact fl.2.2.2)⟩)
    · have v1 : lo ≤ vl' tx L p := by
        rcases Nat.lt_or_ge (vl' tx L p) lo with z | z
        · exact absurd (nI_lt z (by omega)) y1
        · exact z
      have v2 : vl' tx L p ≤ hi := (nI_leI (by omega) (by omega)).mp y2
      have hh : o = none ∧ q = nx tx L p := by
        rcases hr with ⟨-, -, y1, y2⟩ | ⟨-, y, -⟩ | ⟨y, -⟩
        · exact ⟨y1, y2⟩
        · exact absurd ⟨v1, v2⟩ y
        · exact absurd e3 y
      refine ⟨am 0, hL.r 0, hL.k 0, hL.i 0 hto, fun v9 e9 F8 e8 => ?_⟩
      rw [nI_clamp (by omega)] at e8
      have m8 : F8 m = gI S m := by rw [e8, up_ne (Ne.symm (hL.o 0))]
      have X8 : TxM F8 m am tx L := hX.cg (by rw [m8]) (by rw [e8, up_ne (hL.n (by decide))])
      refine sm_ahead (S := wI S F8) hL X8 (by show F8 m 14 = _; rw [m8]; exact hT.2.1) nl.2.2.1 (fun F af t => ?_)
      have af' : AhF m F8 F := af
      refine hy hh.1 hh.2 e3 v1 v2 F (fun a y1 y2 => by rw [af'.1 a y1, e8, up_ne y2]) (fun j y1 y2 y3 y4 => by rw [af'.2 j y1 y2 y3 y4, m8]) (fun i => ?_) (by rw [hh.2]; exact t)
      rw [af'.1 _ (hL.o 0), e8]
      by_cases ci : i = to
      · rw [ci, up_at, if_pos rfl, e9]
      · rw [up_no ci, if_neg ci]
  · have hh : o = some (mis tx L p) ∧ q = p := by
      rcases hr with ⟨y, -⟩ | ⟨y, -⟩ | ⟨-, y1, y2⟩
      · exact absurd y e3
      · exact absurd y e3
      · exact ⟨y1, y2⟩
    exact sm_fails (kn := 2) hL hT h18 (fun F fl => ⟨Or.inl rfl, hf _ hh.1 F ⟨2, by rw [hh.2]; exact fl⟩ fl.2.2.1 (by rw [hh.2]; exact fl.2.2.2)⟩)
theorem MaF.mb {G F : FI} {GJ J : FJ} (h : MbF m am G F GJ J) : MaF m am G F GJ J := ⟨fun a h1 h2 _ => h.1 a h1 h2, fun j h1 h2 => h.2.1 j (by omega) (by omega) (by omega) (by omega) (by omega) (by omega), fun k _ h2 => h.2.2.1 k h2, h.2.2.2.1, fun k _ h2 => h.2.2.2.2 k h2⟩
theorem MaF.tr {G F F2 : FI} {GJ J J2 : FJ} (h : MaF m am G F GJ J) (h2 : MaF m am F F2 J J2) : MaF m am G F2 GJ J2 := ⟨fun a y1 y2 y3 => (h2.1 a y1 y2 y3).trans (h.1 a y1 y2 y3), fun j y1 y2 => (h2.2.1 j y1 y2).trans (h.2.1 j y1 y2), fun k y1 y2 => (h2.2.2.1 k y1 y2).trans (h.2.2.1 k y1 y2), fun a ha => (h2.2.2.2.1 a ha).trans (h.2.2.2.1 a ha), fun k y1 y2 => (h2.2.2.2.2 k y1 y2).trans (h.2.2.2.2 k y1 y2)⟩
theorem MaF.bg {G F : FI} {GJ : FJ} (hL : LM S m am) (h1 : ∀ a, a ≠ m → a ≠ am 9 → F a = G a) (h2 : ∀ j, (j < 10 ∨ 20 ≤ j) → F m j = G m j) : MaF m am G F GJ GJ := ⟨fun a y1 _ y3 => h1 a y1 y3, fun j _ y => h2 j y, fun k _ _ => by rw [h1 _ (hL.o 0) (hL.n (by decide))], fun _ _ => rfl, fun _ _ _ => rfl⟩
theorem msk_nil (n : Nat) : (0 : Int32) = msk (fun _ => false) n := b_ext (fun j hj => by rw [b_0, msk_bt _ _ hj, Bool.and_false])
theorem sm_book {Q : Int32 → FI → FJ → Prop} {o : Option Nat} {q : Nat} {s : Sb} (hL : LM S m am) (h10 : gI S m 10 = nI t) (ht : t ≤ 900) (hLt : L ≤ t) (htx : ∀ j, j < L → tx j < 256 ∧ gI S (am 8) j = sb (tx j)) (hr : rBook tx L o q s)
    (hy : o = none → ∀ F J, MaF m am (gI S) F (gJ S) J → F m 10 = 0 → F m 16 = 0 → F m 17 = -1 → F m 2 = 0 → BM s.2.1 (F (am 0)) → F (am 0) 4 = -1 → F (am 0) 6 = -1 → (∀ i, i < bM s.2.1 → J (am 1) i = n256 (bnm s.2.1 i)) → Q (nI (bM s.2.1)) F J)
    (hf : ∀ f, o = some f → ∀ F J, MaF m am (gI S) F (gJ S) J → (∀ k, k < 9680 → F (am 0) k = gI S (am 0) k) → (∀ k, k < 48 → J (am 1) k = gJ S (am 1) k) → F m 10 = 0 → F m 16 = nI f → F m 17 = nI (sk tx L q) → F m 2 = 9 → Q (-1) F J) : P_X12_book m (nI L) S Q := by
  obtain ⟨o', q', hst, hfail, hgo⟩ : ∃ o' q', rST tx L o' q' ∧ (∀ f, o' = some f → o = some f ∧ q = q') ∧ (o' = none → ∃ K, ∃ st : Nat → Sb, st 0 = (q', Bk0 (vl' tx L (nx tx L 0)), 0, fun _ => []) ∧ (∀ i, i < K → tk tx L (st i).1 ≠ 1 ∧ rIt tx L (st i) none (st (i + 1)).1 (st (i + 1))) ∧ ((tk tx L (st K).1 = 1 ∧ o = none ∧ s = st K) ∨ (tk tx L (st K).1 ≠ 1 ∧ ∃ f s', o = some f ∧ rIt tx L (st K) (some f) q s'))) := by
    rcases hr with ⟨f, h1, h2⟩ | ⟨q0, K, st, h1, h2⟩
    · exact ⟨some f, q, h2, fun g e => ⟨h1.trans e, rfl⟩, fun e => by cases e⟩
    · exact ⟨none, q0, h1, fun g e => (by cases e), fun _ => ⟨K, st, h2⟩⟩
  have hstb := rST_b hst
  have mo : m ≠ am 0 := Ne.symm (hL.o 0)
  refine ⟨hL.z, sm_begins (mo := 900) hL h10 ht hLt (by omega) (by decide) htx (fun F1 fr1 fm1 g10 g16 g17 g18 g19 X1 t1 => ⟨fun _ => ?_, fun y => absurd y one0⟩)⟩
  have maf1 : MaF m am (gI S) F1 (gJ S) (gJ S) := MaF.bg hL fr1 fm1
  have a01 : F1 (am 0) = gI S (am 0) := fr1 _ (hL.o 0) (hL.n (by decide))
  refine ⟨fun u x F => ∃ c, c ≤ 2420 ∧ u = 2420 - c ∧ x = nI c ∧ On (am 0) F1 F ∧ ∀ k, F (am 0) k = if 9680 ≤ k ∧ k < 9680 + c then 0 else F1 (am 0) k, ⟨2420, 0, by omega, rfl, rfl, On.rf, fun k => by rw [if_neg (by omega)]⟩, ?_⟩
  rintro u x F ⟨c, hc, rfl, rfl, oF, hF⟩
  refine ⟨fun hcc => ?_, fun hcc => ?_⟩
  · have e : c = 2420 := by
      have : 2420 ≤ c := (nI_leI (a := 2420) (by decide) (by omega)).mp hcc
      omega
    subst e
    refine ⟨am 0, hL.r 0, hL.k 0, hL.i 0 (p := 9684) (by decide), fun F10 e10 => ⟨hL.i 0 (p := 9686) (by decide), fun F12 e12 => ?_⟩⟩
    have mb12 : MbF m am F1 F12 (gJ S) (gJ S) := by
      refine ⟨fun a _ h2 => ?_, fun j _ _ _ _ _ _ => ?_, fun k hk => ?_, fun _ _ => rfl, fun _ _ => rfl⟩
      · rw [e12, up_ne h2, e10, up_ne h2, oF a h2]
      · rw [e12, up_ne mo, e10, up_ne mo, oF m mo]
      · rw [e12, up_no (by omega), e10, up_no (by omega), hF, if_neg (by omega)]
    have m12 : F12 m = F1 m := by rw [e12, up_ne mo, e10, up_ne mo, oF m mo]
    have z12 : ∀ k, k < 2420 → k ≠ 4 → k ≠ 6 → F12 (am 0) (9680 + k) = 0 := fun k h1 h2 h3 => by rw [e12, up_no (by omega), e10, up_no (by omega), hF, if_pos (by omega)]
    have z4 : F12 (am 0) 9684 = -1 := by rw [e12, up_no (by decide), e10, up_at]
    have z6 : F12 (am 0) 9686 = -1 := by rw [e12, up_at]
    have X12 : TxM F12 m am tx L := X1.mb hL mb12
    have t12 : TkM F12 m tx L 0 := t1.cg m12
    have s12 : F12 m 18 = 0 := by rw [m12]; exact g18
    obtain ⟨o1, q1, h1, hc1⟩ := hst
    have nl1 := nx_le (tx := tx) (Nat.zero_le L)
    -- a fault before the first item
    have bad : ∀ f F, o' = some f → MbF m am F12 F (gJ S) (gJ S) → F m 18 = nI f → F m 17 = nI (sk tx L q') → P_bkl m (am 0) 0 F S Q := fun f F ho mb x18 x17 => by
      obtain ⟨b1, b99⟩ := hstb f ho
      obtain ⟨ho', hq'⟩ := hfail f ho
      refine sm_bkl_f hL x18 b1 b99 (fun F2 i1 i2 i3 i4 => ?_)
      have a02 : F2 (am 0) = F (am 0) := i1 _ (hL.o 0)
      have mbb := mb12.tr mb
      refine hf f ho' F2 (gJ S) ((maf1.tr (MaF.mb mbb)).tr ⟨fun a y1 _ _ => i1 a y1, fun j y1 y2 => i2 j y1 (by omega), fun k _ _ => by rw [a02], fun _ _ => rfl, fun _ _ _ => rfl⟩) (fun k hk => by rw [a02, mbb.2.2.1 k hk, a01]) (fun _ _ => rfl) (by rw [i2 10 (by decide) (by decide), mbb.2.1 10 (by decide) (by decide) (by decide) (by decide) (by decide) (by decide)]; exact g10) i3 (by rw [hq', i2 17 (by decide) (by decide)]; exact x17) i4
    refine sm_wantWord (S := wI S F12) (c := 0) hL X12 t12 (Nat.zero_le _) s12 (by decide) h1 (fun ho1 qe e6 F13 af13 t13 => ⟨fun y => absurd y one0, fun _ => ?_⟩) (fun f ho1 F ⟨kn, fl⟩ x18 x17 => ⟨fun _ => ?_, fun y => absurd rfl y⟩)
    case refine_2 =>
      obtain ⟨y1, y2⟩ := thn_some hc1 ho1
      exact bad f F y1 (MbF.fl hL fl) x18 (by rw [y2]; exact x17)
    have af13' : AhF m F12 F13 := af13
    have mb13 : MbF m am F12 F13 (gJ S) (gJ S) := MbF.ah hL af13'
    obtain ⟨o2, q2, h2, hc2⟩ := thn_none hc1 ho1
    have q1L : q1 ≤ L := by rw [qe]; exact nl1.2.2.1
    have s13 : F13 m 18 = 0 := by rw [af13'.2 18 (by decide) (by decide) (by decide) (by decide)]; exact s12
    have nl2 := nx_le (tx := tx) q1L
    refine sm_numberTo (S := wI S F13) (to := 9680) (lo := 4) (hi := 8) hL (X12.ah hL af13') t13 q1L s13 (by decide) (by decide) (by decide) h2 (fun ho2 qe2 e3 v4 v8 F49 fa49 fm49 f049 t49 => ⟨fun y => absurd y one0, fun _ => ?_⟩) (fun f ho2 F ⟨kn, fl⟩ x18 x17 => ⟨fun _ => ?_, fun y => absurd rfl y⟩)
    case refine_2 =>
      obtain ⟨y1, y2⟩ := thn_some hc2 ho2
      exact bad f F y1 (mb13.tr (MbF.fl hL fl)) x18 (by rw [y2]; exact x17)
    have fa49' : ∀ a, a ≠ m → a ≠ am 0 → F49 a = F13 a := fa49
    have fm49' : ∀ j, j ≠ 12 → j ≠ 13 → j ≠ 14 → j ≠ 15 → F49 m j = F13 m j := fm49
    have f049' : ∀ i, F49 (am 0) i = if i = 9680 then nI (vl' tx L q1) else F13 (am 0) i := f049
    have mb49 : MbF m am F13 F49 (gJ S) (gJ S) := ⟨fa49', fun j y1 y2 y3 y4 _ _ => fm49' j y1 y2 y3 y4, fun k hk => by rw [f049' k, if_neg (by omega)], fun _ _ => rfl, fun _ _ => rfl⟩
    have s49 : F49 m 18 = 0 := by rw [fm49' 18 (by decide) (by decide) (by decide) (by decide)]; exact s13
    have q2L : q2 ≤ L := by rw [qe2]; exact nl2.2.2.1
    have h3 := thn_none hc2 ho2
    have nl3 := nx_le (tx := tx) q2L
    refine sm_wantSign (S := wI S F49) hL ((X12.ah hL af13').mb hL mb49) t49 q2L s49 h3 (fun ho3 qe3 ne F85 af85 t85 => ⟨fun y => absurd y one0, fun _ => ?_⟩) (fun f ho3 F ⟨kn, fl⟩ x18 x17 => ⟨fun _ => ?_, fun y => absurd rfl y⟩)
    case refine_2 =>
      exact bad f F ho3 ((mb13.tr mb49).tr (MbF.fl hL fl)) x18 x17
    have af85' : AhF m F49 F85 := af85
    have mb85 : MbF m am F1 F85 (gJ S) (gJ S) := ((mb12.tr mb13).tr mb49).tr (MbF.ah hL af85')
    obtain ⟨K, st, st0, chain, hend⟩ := hgo ho3
    have a85 : ∀ i, F85 (am 0) i = if i = 9680 then nI (vl' tx L q1) else F12 (am 0) i := fun i => by rw [af85'.1 _ (hL.o 0), f049' i, af13'.1 _ (hL.o 0)]
    rw [← qe] at st0
    have rd : RdM F85 (gJ S) am (st 0).2.1 (st 0).2.2.1 (st 0).2.2.2 := by
      rw [st0]
      refine ⟨⟨?_, ?_, ?_, fun i hi => by have : i < 0 := hi; omega⟩, ?_, ?_, ?_, fun i hi => by have : i < 0 := hi; omega, fun j hj => by have : j < 0 := hj; omega⟩
      · show F85 (am 0) 9680 = _
        rw [a85, if_pos rfl]; rfl
      · show F85 (am 0) 9681 = _
        rw [a85, if_neg (by decide), z12 1 (by decide) (by decide) (by decide)]; rfl
      · show F85 (am 0) 9683 = _
        rw [a85, if_neg (by decide), z12 3 (by decide) (by decide) (by decide)]; exact msk_nil _
      · rw [a85, if_neg (by decide), z12 2 (by decide) (by decide) (by decide)]; rfl
      · rw [a85, if_neg (by decide)]; exact z4
      · rw [a85, if_neg (by decide)]; exact z6
    have ok : OkB (st 0).2.1 (st 0).2.2.1 (st 0).2.2.2 := by
      rw [st0]
      exact ⟨⟨v4, v8, Nat.zero_le _, fun m hm => by have : m < 0 := hm; omega⟩, Nat.zero_le _, fun i hi => by have : i < 0 := hi; omega, fun j hj => by have : j < 0 := hj; omega⟩
    have x85 : F85 m 18 = 0 := by rw [af85'.2 18 (by decide) (by decide) (by decide) (by decide)]; exact s49
    have x17 : F85 m 17 = -1 := by rw [af85'.2 17 (by decide) (by decide) (by decide) (by decide), fm49' 17 (by decide) (by decide) (by decide) (by decide), af13'.2 17 (by decide) (by decide) (by decide) (by decide), m12]; exact g17
    have x10 : F85 m 10 = 0 := by rw [mb85.2.1 10 (by decide) (by decide) (by decide) (by decide) (by decide) (by decide)]; exact g10
    refine sm_bkl_y (K := K) (st := st) (o := o) (q := q) hL (X1.mb hL mb85) (by rw [st0]; exact t85) (by rw [st0]; show q' ≤ L; rw [qe3]; exact nl3.2.2.1) x85 x17 rd ok chain ?_ (fun ho F J ma lo fa f16 f17 f2 bm f4 f6 nm => ?_) (fun f ho F J ma lo fa f0 j0 f16 f17 f2 => ?_)
    · rcases hend with ⟨e1, e2, -⟩ | e
      · exact Or.inl ⟨e1, e2⟩
      · exact Or.inr e
    · have hs : s = st K := by
        rcases hend with ⟨-, -, e⟩ | ⟨-, f, s', e, -⟩
        · exact e
        · rw [ho] at e; cases e
      rw [hs] at hy
      exact hy ho F J ((maf1.tr (MaF.mb mb85)).tr ma) (by rw [lo 10 (by decide) (by decide)]; exact x10) f16 f17 f2 bm f4 f6 nm
    · exact hf f ho F J ((maf1.tr (MaF.mb mb85)).tr ma) (fun k hk => by rw [f0 k hk, mb85.2.2.1 k hk, a01]) j0 (by rw [lo 10 (by decide) (by decide)]; exact x10) f16 f17 f2
  · have hlt : c < 2420 := nI_gtI (n := 2420) (by decide) (by omega) hcc
    rw [show (9680 : Int32) + nI c = nI (9680 + c) from nI_add 9680 c]
    refine ⟨am 0, hL.r 0, hL.k 0, hL.i 0 (by show 9680 + c < 12100; omega), fun F2 e2 w ew => ?_⟩
    rw [nI_clamp (by omega)] at e2
    refine ⟨2420 - (c + 1), by omega, c + 1, by omega, rfl, by rw [ew]; exact nI_1 c, by rw [e2]; exact oF.tr On.up, fun k => ?_⟩
    rw [e2]
    by_cases ck : k = 9680 + c
    · rw [ck, up_at, if_pos (by omega)]
    · rw [up_no ck, hF]
      by_cases cr : 9680 ≤ k ∧ k < 9680 + c
      · rw [if_pos cr, if_pos (by omega)]
      · rw [if_neg cr, if_neg (by omega)]
end BW
