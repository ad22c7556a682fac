section AM
variable {S : St} {m : Nat} {am : Nat → Nat} {tx : Nat → Nat} {L p : Nat} {B : Bk} {R : Nat} {rn : Nat → List Nat}
theorem thn_none {C : Prop} {o o1 : Option Nat} {q q1 : Nat} (h : (o1 = none ∧ C) ∨ ∃ f, o1 = some f ∧ o = some f ∧ q = q1) (h1 : o1 = none) : C := by
  rcases h with ⟨-, h⟩ | ⟨f, h, -⟩
  · exact h
  · rw [h1] at h; cases h
theorem thn_some {C : Prop} {o o1 : Option Nat} {q q1 f : Nat} (h : (o1 = none ∧ C) ∨ ∃ f, o1 = some f ∧ o = some f ∧ q = q1) (h1 : o1 = some f) : o = some f ∧ q = q1 := by
  rcases h with ⟨h, -⟩ | ⟨f', h, h2, h3⟩
  · rw [h1] at h; cases h
  · rw [h1] at h
    obtain rfl := Option.some.inj h
    exact ⟨h2, h3⟩
theorem sm_aMethod {Q : Int32 → FI → FJ → Prop} {o : Option Nat} {q : Nat} {D : Md} (hL : LM S m am) (hX : TxM (gI S) m am tx L) (hT : TkM (gI S) m tx L p) (hp : p ≤ L) (h18 : gI S m 18 = 0) (hR : RdM (gI S) (gJ S) am B R rn) (hO : OkB B R rn) (hM : bM B < 4) (h7 : tk tx L p = 7) (hr : rMD (bn B) tx L (usedN B R rn) p D o q)
    (hy : ∀ q5 D' F J, rSG tx L q5 o q → (o = none → D = D') → q5 ≤ L → MbF m am (gI S) F (gJ S) J → F m 18 = 0 → F m 17 = gI S m 17 → TkM F m tx L q5 → p < q5 → RdM F J am (addM B D') R rn → OkB (addM B D') R rn → Q 1 F J)
    (hf : ∀ f F J, o = some f → MbF m am (gI S) F (gJ S) J → F m 18 = nI f → F m 17 = nI (sk tx L q) → Q 0 F J) : P_X12_aMethod m S Q := by
  obtain ⟨⟨b0, b1, b3, bm⟩, r2, r4, r6, rN1, rN2⟩ := hR
  obtain ⟨ob, oR, on1, on2⟩ := hO
  have n4 := ob.1
  have n8 := ob.2.1
  have b0' : gI S (am 0) 9680 = nI (bn B) := b0
  have b1' : gI S (am 0) 9681 = nI (bM B) := b1
  obtain ⟨n, hn⟩ : ∃ n, n = bn B := ⟨_, rfl⟩
  obtain ⟨W, hW⟩ : ∃ W, W = 9690 + 40 * bM B := ⟨_, rfl⟩
  rw [← hn] at n4 n8 b0' hr
  obtain ⟨o1, q1, hnn, hc1⟩ := hr
  have nl1 := nx_le (tx := tx) hp
  have pp1 : p < nx tx L p := nl1.2.2.2.1 (by omega)
  have nl2 := nx_le (tx := tx) nl1.2.2.1
  refine ⟨hL.z, am 0, hL.r 0, hL.k 0, hL.i 0 (p := 9681) (by decide), fun v4 e4 => ?_⟩
  rw [b1'] at e4 ⊢
  have e4' : v4 = nI W := by
    rw [e4, hW]
    show nI 9690 + nI 40 * nI (bM B) = _
    rw [mulN, nI_add]
  subst e4'
  refine ⟨fun _ => ?_, fun y => absurd ((nI_eq (b := 4) (by omega) (by decide)).mp y) (by omega)⟩
  refine sm_newName (B := B) (R := R) (rn := rn) (base := bM B) hL hX hT hp h18 b1' r2 (by omega) oR (by omega) rN1 rN2 on1 on2 hnn (fun h1 hq1 e4w F6 J6 af6 e6 t6 => ⟨fun _ => ?_, fun y => absurd y one0⟩) (fun f h1 F mb f18 f17 => ⟨fun y => absurd rfl y, fun _ => ?_⟩)
  case refine_2 =>
    obtain ⟨y1, y2⟩ := thn_some hc1 h1
    exact hf f F (gJ S) y1 mb f18 (by rw [y2]; exact f17)
  obtain ⟨k, o2, q2, hch, hc2⟩ := thn_none hc1 h1
  obtain ⟨k32, hg, q2e, hcs⟩ := hch
  have q1L : q1 ≤ L := by rw [hq1]; exact nl2.2.2.1
  have q1p : p < q1 := by omega
  have mb6 : MbF m am (gI S) F6 (gJ S) J6 := (MbF.ah hL af6).tr (by rw [e6]; exact MbF.uJ (by omega))
  have f618 : F6 m 18 = 0 := by rw [af6.2 18 (by decide) (by decide) (by decide) (by decide)]; exact h18
  have f617 : F6 m 17 = gI S m 17 := af6.2 17 (by decide) (by decide) (by decide) (by decide)
  have a6 : F6 (am 0) = gI S (am 0) := af6.1 _ (hL.o 0)
  have X6 := hX.ah hL af6
  -- what a store of this method's reading knows
  have know : ∀ {F : FI}, MmF m am W F6 F → TxM F m am tx L ∧ F m 18 = 0 ∧ F m 17 = gI S m 17 ∧ F (am 0) 9680 = nI n ∧ MbF m am (gI S) F (gJ S) J6 := fun {F} h => ⟨X6.mm hL h, by rw [h.2.1 18 (by decide) (by decide) (by decide) (by decide)]; exact f618, by rw [h.2.1 17 (by decide) (by decide) (by decide) (by decide)]; exact f617, by rw [h.2.2 9680 (Or.inl (by omega)), a6]; exact b0', mb6.tr (MbF.mm (by omega) h)⟩
  have pltk : ∀ {p}, PLt tx L p → tk tx L p ≠ 0 := fun h => by rcases h with e | e <;> omega
  refine sm_isPlaces (S := wA S F6 J6 (gR S)) hL X6 t6 (fun hP1 => ⟨fun _ => ?_, fun y => absurd y one0⟩) (fun hP1 => ⟨fun y => absurd rfl y, fun _ => ?_⟩)
  case refine_2 =>
    have k0 : k = 0 := by
      rcases Nat.eq_zero_or_pos k with z | z
      · exact z
      · exact absurd (hg 0 z).1 hP1
    subst k0
    have q21 : q2 = q1 := q2e
    rcases hcs with ⟨-, y, -⟩ | ⟨f, y1, y2, y3⟩ | ⟨-, y, -⟩
    · omega
    · obtain ⟨w1, w2⟩ := thn_some hc2 y1
      have fe : f = mis tx L q1 := by
        rw [q21] at y3
        rcases y3 with ⟨-, z⟩ | ⟨z, -⟩
        · exact z
        · exact absurd z hP1
      refine sm_fails (S := wA S F6 J6 (gR S)) (kn := 2) hL t6 f618 (fun F fl => ⟨Or.inl rfl, hf f F J6 w1 (mb6.tr (MbF.fl hL fl)) (by rw [fl.2.2.1, fe]; rfl) (by rw [w2, q21]; exact fl.2.2.2)⟩)
    · omega
  refine ⟨fun t x2 F => ∃ j, j ≤ k ∧ t = k - j ∧ x2 = nI j ∧ MmF m am W F6 F ∧ TkM F m tx L (np tx L q1 j) ∧ np tx L q1 j ≤ L ∧ q1 ≤ np tx L q1 j ∧ ∀ i, i < j → F (am 0) (W + (1 + i)) = msk (stf (psw n tx L (np tx L q1 i))) n, ⟨k, 0, by omega, rfl, rfl, MmF.rf, t6, q1L, Nat.le_refl _, fun i hi => by omega⟩, ?_⟩
  rintro t x2 F ⟨j, hj, rfl, rfl, mm, tj, jL, jq, hch⟩
  obtain ⟨Xj, j18, j17, j96, mbj⟩ := know mm
  refine sm_isPlaces (S := wA S F J6 (gR S)) hL Xj tj (fun hPj => ⟨fun y => absurd y one0, fun _ => ?_⟩) (fun hPj => ⟨fun _ => ?_, fun y => absurd rfl y⟩)
  · -- places stand there
    refine sm_placesHere (S := wA S F J6 (gR S)) hL Xj tj hPj j96 n8 (fun g => ⟨fun _ => ?_, fun y => absurd y (msk_ne n8)⟩) (fun hno => ⟨fun y => absurd rfl y, fun _ => ?_⟩)
    · rcases Nat.lt_or_ge j k with jk | jk
      · refine ⟨fun _ => ?_, fun y => absurd ((nI_eq (b := 32) (by omega) (by decide)).mp y) (by omega)⟩
        have ei : nI W + 1 + nI j = nI (W + (1 + j)) := by rw [nI_1, nI_add, show W + 1 + j = W + (1 + j) by omega]
        rw [ei]
        refine ⟨hL.i 0 (by show W + (1 + j) < 12100; omega), fun F64 e64 v65 e65 => ?_⟩
        rw [nI_clamp (by omega)] at e64
        have m64 : F64 m = F m := by rw [e64, up_ne (Ne.symm (hL.o 0))]
        have mm64 : MmF m am W F6 F64 := by rw [e64]; exact mm.tr (MmF.u0 hL (by omega) (by omega))
        have nlj := nx_le (tx := tx) jL
        refine sm_ahead (S := wA S F64 J6 (gR S)) hL (know mm64).1 (by show F64 m 14 = _; rw [m64]; exact tj.2.1) nlj.2.2.1 (fun F66 af66 t66 => ?_)
        have af66' : AhF m F64 F66 := af66
        refine ⟨k - (j + 1), by omega, j + 1, by omega, rfl, by rw [e65]; exact nI_1 j, mm64.tr (MmF.ah hL af66'), t66, nlj.2.2.1, by show q1 ≤ nx tx L (np tx L q1 j); omega, fun i hi => ?_⟩
        rw [af66'.1 _ (hL.o 0), e64]
        by_cases ci : i = j
        · rw [ci, up_at]
        · rw [up_no (by omega)]; exact hch i (by omega)
      · have je : j = k := by omega
        subst je
        rw [← q2e] at hPj g tj
        rcases hcs with ⟨-, -, y⟩ | ⟨f, y1, y2, y3⟩ | ⟨y1, y2, y3⟩
        · exact absurd hPj y
        · rcases y3 with ⟨z, -⟩ | ⟨-, z, -⟩
          · exact absurd hPj z
          · exact absurd g.2 z
        · subst y2
          obtain ⟨w1, w2⟩ := thn_some hc2 y1
          refine ⟨fun y => absurd rfl y, fun _ => sm_fails (S := wA S F J6 (gR S)) (kn := 6) hL tj j18 (fun F' fl => ⟨Or.inl rfl, hf 6 F' J6 w1 (mbj.tr (MbF.fl hL fl)) (by rw [fl.2.2.1, if_neg (pltk hPj)]) (by rw [w2]; exact fl.2.2.2)⟩)⟩
    · have je : j = k := by
        rcases Nat.lt_or_ge j k with z | z
        · exact absurd (hg j z).2 hno
        · omega
      subst je
      rw [← q2e] at hPj hno tj
      rcases hcs with ⟨-, -, y⟩ | ⟨f, y1, y2, y3⟩ | ⟨y1, y2, y3⟩
      · exact absurd hPj y
      · obtain ⟨w1, w2⟩ := thn_some hc2 y1
        have fe : f = 4 := by
          rcases y3 with ⟨z, -⟩ | ⟨-, -, z⟩
          · exact absurd hPj z
          · exact z
        refine sm_fails (S := wA S F J6 (gR S)) (kn := 4) hL tj j18 (fun F' fl => ⟨Or.inl rfl, hf f F' J6 w1 (mbj.tr (MbF.fl hL fl)) (by rw [fl.2.2.1, if_neg (pltk hPj), fe]) (by rw [w2]; exact fl.2.2.2)⟩)
      · exact absurd y3.2 hno
  · -- the changes end
    have je : j = k := by
      rcases Nat.lt_or_ge j k with z | z
      · exact absurd (hg j z).1 hPj
      · omega
    subst je
    rw [← q2e] at hPj tj jL jq
    have hdone : o2 = none ∧ 1 ≤ j := by
      rcases hcs with ⟨y1, y2, -⟩ | ⟨f, y1, y2, y3⟩ | ⟨y1, y2, y3⟩
      · exact ⟨y1, y2⟩
      · rcases y2 with z | z
        · subst z
          have : q2 = q1 := q2e
          rw [this] at hPj
          exact absurd hP1 hPj
        · exact absurd z hPj
      · exact absurd y3.1 hPj
    obtain ⟨h2, j1⟩ := hdone
    obtain ⟨o3, q3, hbk, hc3⟩ := thn_none hc2 h2
    have t17 := tk_17 (tx := tx) (L := L) q2
    obtain ⟨sw, hsw⟩ : ∃ sw, sw = sws n tx L q1 j q2 := ⟨_, rfl⟩
    refine sm_inWords (S := wA S F J6 (gR S)) hL Xj tj ?_
    rw [show (4 : Int32) = nI 4 from rfl, mki_eq t17 (by decide), show 6 + cmi 4 = 9 from rfl]
    refine ⟨fun x F' => ∃ len, x = nI len ∧ len = mln tx L j q2 ∧ 1 ≤ len ∧ len ≤ 32 ∧ o3 = none ∧ MmF m am W F6 F' ∧ TkM F' m tx L q3 ∧ q3 ≤ L ∧ q1 ≤ q3 ∧ (∀ i, i < len → Sw n (sw i)) ∧ ∀ i, i < len → F' (am 0) (W + (1 + i)) = msk (stf (sw i)) n, ?_, fun ne9 => ?_, fun e9 => ?_⟩
    · -- all changes are told
      rintro x F19 ⟨len, rfl, hlen, len1, len32, h3, mm19, t19, q3L, q3q, swok, hc19⟩
      obtain ⟨o4, q4, hcl4, hc4⟩ := thn_none hc3 h3
      refine ⟨hL.i 0 (by show W < 12100; omega), fun F21 e21 => ?_⟩
      rw [nI_clamp (by omega)] at e21
      rw [nI_add, show nI W + 33 = nI (W + 33) from nI_add W 33, show nI W + 34 = nI (W + 34) from nI_add W 34]
      refine ⟨hL.i 0 (by show W + len < 12100; omega), hL.i 0 (by show W + 33 < 12100; omega), fun v24 e24 F25 e25 => ⟨hL.i 0 (by show W + 34 < 12100; omega), fun v27 e27 F28 e28 => ?_⟩⟩
      rw [nI_clamp (by omega)] at e24 e25 e27 e28
      have las : F19 (am 0) (W + len) = msk (stf (sw (len - 1))) n := by
        have := hc19 (len - 1) (by omega)
        rw [show W + (1 + (len - 1)) = W + len by omega] at this
        exact this
      have v24e : v24 = msk (stf (sw (len - 1))) n := by rw [e24, e21, up_no (by omega)]; exact las
      have v27e : v27 = msk (stf (sw (len - 1))) n := by rw [e27, e25, up_no (by omega), e21, up_no (by omega)]; exact las
      have mm28 : MmF m am W F6 F28 := by rw [e28, e25, e21]; exact ((mm19.tr (MmF.u0 hL (by omega) (by omega))).tr (MmF.u0 hL (by omega) (by omega))).tr (MmF.u0 hL (by omega) (by omega))
      have m28 : F28 m = F19 m := by rw [e28, up_ne (Ne.symm (hL.o 0)), e25, up_ne (Ne.symm (hL.o 0)), e21, up_ne (Ne.symm (hL.o 0))]
      have t28 : TkM F28 m tx L q3 := t19.cg m28
      have c28 : ∀ i, i < len → F28 (am 0) (W + (1 + i)) = msk (stf (sw i)) n := fun i hi => by rw [e28, up_no (by omega), e25, up_no (by omega), e21, up_no (by omega)]; exact hc19 i hi
      have w28 : F28 (am 0) W = nI len := by rw [e28, up_no (by omega), e25, up_no (by omega), e21, up_at]
      have w33 : F28 (am 0) (W + 33) = msk (stf (sw (len - 1))) n := by rw [e28, up_no (by omega), e25, up_at]; exact v24e
      have w34 : F28 (am 0) (W + 34) = msk (stf (sw (len - 1))) n := by rw [e28, up_at]; exact v27e
      obtain ⟨X28, k18, k17, k96, mb28⟩ := know mm28
      have t17' := tk_17 (tx := tx) (L := L) q3
      obtain ⟨bob, hbob⟩ : ∃ b, b = if tk tx L q3 = 10 then psw n tx L (nx tx L q3) else sw (len - 1) := ⟨_, rfl⟩
      refine sm_inWords (S := wA S F28 J6 (gR S)) hL X28 t28 ?_
      rw [show (5 : Int32) = nI 5 from rfl, mki_eq t17' (by decide), show 6 + cmi 5 = 10 from rfl]
      refine ⟨fun F32 => o4 = none ∧ MmF m am W F6 F32 ∧ TkM F32 m tx L q4 ∧ q4 ≤ L ∧ q1 ≤ q4 ∧ Sw n bob ∧ F32 (am 0) W = nI len ∧ (∀ i, i < len → F32 (am 0) (W + (1 + i)) = msk (stf (sw i)) n) ∧ F32 (am 0) (W + 33) = msk (stf bob) n ∧ F32 (am 0) (W + 34) = msk (stf (sw (len - 1))) n, ?_, fun ne => ?_, fun e10 => ?_⟩
      · rintro F32 ⟨h4, mm32, t32, q4L, q4q, swb, x1, x2, x3, x4⟩
        obtain ⟨o5, q5, hcl5, hc5⟩ := thn_none hc4 h4
        obtain ⟨X32, l18, l17, l96, mb32⟩ := know mm32
        have t17q := tk_17 (tx := tx) (L := L) q4
        obtain ⟨sng, hsng⟩ : ∃ b, b = if tk tx L q4 = 11 then psw n tx L (nx tx L q4) else sw (len - 1) := ⟨_, rfl⟩
        refine sm_inWords (S := wA S F32 J6 (gR S)) hL X32 t32 ?_
        rw [show (6 : Int32) = nI 6 from rfl, mki_eq t17q (by decide), show 6 + cmi 6 = 11 from rfl]
        refine ⟨fun F36 => o5 = none ∧ MmF m am W F6 F36 ∧ TkM F36 m tx L q5 ∧ q5 ≤ L ∧ q1 ≤ q5 ∧ Sw n sng ∧ F36 (am 0) W = nI len ∧ (∀ i, i < len → F36 (am 0) (W + (1 + i)) = msk (stf (sw i)) n) ∧ F36 (am 0) (W + 33) = msk (stf bob) n ∧ F36 (am 0) (W + 34) = msk (stf sng) n, ?_, fun ne => ?_, fun e11 => ?_⟩
        · rintro F36 ⟨h5, mm36, t36, q5L, q5q, sws', y1, y2, y3, y4⟩ v37 e37 F38 e38
          obtain ⟨hsg, hD⟩ := thn_none hc5 h5
          obtain ⟨X36, p18, p17, p96, mb36⟩ := know mm36
          have lo : ∀ i, i < W → i ≠ 9681 → F38 (am 0) i = gI S (am 0) i := fun i h1 h2 => by rw [e38, up_no h2, mm36.2.2 i (Or.inl h1), a6]
          have hi' : ∀ i, W ≤ i → F38 (am 0) i = F36 (am 0) i := fun i h1 => by rw [e38, up_no (by omega)]
          have m38 : F38 m = F36 m := by rw [e38, up_ne (Ne.symm (hL.o 0))]
          have v37e : v37 = nI (bM B + 1) := by rw [e37, mm36.2.2 9681 (Or.inl (by omega)), a6, b1', nI_1]
          obtain ⟨D', hD'⟩ : ∃ D', D' = mkD n tx L (wd tx L (nx tx L p)) q1 j q2 q3 q4 := ⟨_, rfl⟩
          have D1 : D'.1 = wd tx L (nx tx L p) := by rw [hD']; rfl
          have D2 : D'.2.1 = len := by rw [hD', hlen]; rfl
          have D3 : D'.2.2.1 = sw := by rw [hD', hsw]; rfl
          have D4 : D'.2.2.2.1 = bob := by rw [hD', hbob, hsw, hlen]; rfl
          have D5 : D'.2.2.2.2 = sng := by rw [hD', hsng, hsw, hlen]; rfl
          have w4' : 4 ≤ tk tx L (nx tx L p) := by omega
          obtain ⟨wo, wl'⟩ := wd_ok w4'
          have w8 : (wd tx L (nx tx L p)).length ≤ 8 := by
            obtain ⟨-, -, -, -, x5⟩ := tk_word w4'
            rw [wl']
            by_cases c : nx tx L (nx tx L p) - sk tx L (nx tx L p) ≤ 8
            · exact c
            · rw [if_neg c] at x5; omega
          refine hy q5 D' F38 J6 hsg (fun e => by rw [hD e, hD', hq1]) q5L (mb36.tr (by rw [e38]; exact MbF.u0 hL (by decide))) (by rw [m38]; exact p18) (by rw [m38]; exact p17) (t36.cg m38) (by omega) ⟨⟨?_, ?_, ?_, fun i hi => ?_⟩, ?_, ?_, ?_, fun i hi => ?_, fun i hi => ?_⟩ ⟨bok_add ob hM (by omega) (by omega) (by rw [D2, D3, ← hn]; exact swok) (by rw [D4, ← hn]; exact swb) (by rw [D5, ← hn]; exact sws'), oR, fun i hi => ?_, on2⟩
          · show F38 (am 0) 9680 = _
            rw [lo 9680 (by omega) (by decide)]; exact b0
          · show F38 (am 0) 9681 = nI (bM B + 1)
            rw [e38, up_at]; exact v37e
          · show F38 (am 0) 9683 = msk (brr B) (bn B)
            rw [lo 9683 (by omega) (by decide)]; exact b3
          · have hi2 : i < bM B + 1 := hi
            show F38 (am 0) (9680 + (10 + 40 * i)) = nI (setg (bl B) (bM B) D'.2.1 i) ∧ (∀ k, k < setg (bl B) (bM B) D'.2.1 i → F38 (am 0) (9680 + (10 + 40 * i + (1 + k))) = msk (stf (setg (bv B) (bM B) D'.2.2.1 i k)) (bn B)) ∧ F38 (am 0) (9680 + (10 + 40 * i + 33)) = msk (stf (setg (bc B) (bM B) (fun c => if c = 1 then D'.2.2.2.1 else D'.2.2.2.2) i 1)) (bn B) ∧ F38 (am 0) (9680 + (10 + 40 * i + 34)) = msk (stf (setg (bc B) (bM B) (fun c => if c = 1 then D'.2.2.2.1 else D'.2.2.2.2) i 2)) (bn B)
            by_cases ci : i = bM B
            · subst ci
              rw [setg_at, setg_at, setg_at, D2, D3, D4, D5, ← hn]
              refine ⟨?_, fun k hk => ?_, ?_, ?_⟩
              · rw [show 9680 + (10 + 40 * bM B) = W by omega, hi' _ (by omega)]; exact y1
              · rw [show 9680 + (10 + 40 * bM B + (1 + k)) = W + (1 + k) by omega, hi' _ (by omega)]; exact y2 k hk
              · rw [show 9680 + (10 + 40 * bM B + 33) = W + 33 by omega, hi' _ (by omega)]; exact y3
              · rw [show 9680 + (10 + 40 * bM B + 34) = W + 34 by omega, hi' _ (by omega)]; exact y4
            · rw [setg_no ci, setg_no ci, setg_no ci]
              obtain ⟨u1, u2, u3, u4⟩ := bm i (by omega)
              obtain ⟨bl1, bl2⟩ := bl_32 ob (show i < bM B by omega)
              refine ⟨?_, fun k hk => ?_, ?_, ?_⟩
              · rw [lo _ (by omega) (by omega)]; exact u1
              · rw [lo _ (by omega) (by omega)]; exact u2 k hk
              · rw [lo _ (by omega) (by omega)]; exact u3
              · rw [lo _ (by omega) (by omega)]; exact u4
          · rw [lo 9682 (by omega) (by decide)]; exact r2
          · rw [lo 9684 (by omega) (by decide)]; exact r4
          · rw [lo 9686 (by omega) (by decide)]; exact r6
          · have hi2 : i < bM B + 1 := hi
            show J6 (am 1) (48 + i) = n256 (setg (bnm B) (bM B) D'.1 i)
            rw [e6]
            by_cases ci : i = bM B
            · rw [ci, upJ_at, setg_at, D1]
            · rw [upJ_no (by omega), setg_no ci]; exact rN1 i (by omega)
          · rw [e6, upJ_no (by omega)]; exact rN2 i hi
          · have hi2 : i < bM B + 1 := hi
            show wok (setg (bnm B) (bM B) D'.1 i) ∧ (setg (bnm B) (bM B) D'.1 i).length ≤ 8
            by_cases ci : i = bM B
            · rw [ci, setg_at, D1]; exact ⟨wo, w8⟩
            · rw [setg_no ci]; exact on1 i (by omega)
        · have h5 : o5 = none ∧ q5 = q4 := by
            rcases hcl5 with ⟨-, y2, y3⟩ | ⟨y, -⟩
            · exact ⟨y2, y3⟩
            · exact absurd y ne
          exact ⟨h5.1, mm32, by rw [h5.2]; exact t32, by rw [h5.2]; exact q4L, by rw [h5.2]; exact q4q, by rw [hsng, if_neg ne]; exact swok _ (by omega), x1, x2, x3, by rw [hsng, if_neg ne]; exact x4⟩
        · have hpl : rPL n tx L (nx tx L q4) o5 q5 := by
            rcases hcl5 with ⟨y, -⟩ | ⟨-, y⟩
            · exact absurd e11 y
            · exact y
          have nl4 := nx_le (tx := tx) q4L
          have nl5 := nx_le (tx := tx) nl4.2.2.1
          refine sm_ahead (S := wA S F32 J6 (gR S)) hL X32 t32.2.1 nl4.2.2.1 (fun F39 af39 t39 => ?_)
          have mm39 : MmF m am W F6 F39 := mm32.tr (MmF.ah hL af39)
          have a39 : F39 (am 0) = F32 (am 0) := af39.1 _ (hL.o 0)
          obtain ⟨X39, g18, g17, g96, mb39⟩ := know mm39
          refine sm_placesTo (S := wA S F39 J6 (gR S)) hL X39 t39 nl4.2.2.1 g18 g96 n8 (by omega) hpl (fun h5 q5e g F40 z1 z2 z3 z4 => ⟨fun _ => ⟨h5, mm39.tr ⟨z1, z2, fun k hk => ?_⟩, z4, by rw [q5e]; exact nl5.2.2.1, by rw [q5e]; omega, by rw [hsng, if_pos e11]; exact g.sw, ?_, fun i hi => ?_, ?_, ?_⟩, fun y => absurd y one0⟩) (fun f h5 F40 fl z18 z17 => ⟨fun y => absurd rfl y, fun _ => ?_⟩)
          · rw [z3 k, if_neg (by omega)]; rfl
          · rw [z3, if_neg (by omega)]; exact (congrFun a39 _).trans x1
          · rw [z3, if_neg (by omega)]; exact (congrFun a39 _).trans (x2 i hi)
          · rw [z3, if_neg (by omega)]; exact (congrFun a39 _).trans x3
          · rw [z3, if_pos rfl, hsng, if_pos e11]
          · obtain ⟨w1, w2⟩ := thn_some hc5 h5
            obtain ⟨kn, fl⟩ := fl
            exact hf f F40 J6 w1 (mb39.tr (MbF.fl hL fl)) z18 (by rw [w2]; exact z17)
      · have h4 : o4 = none ∧ q4 = q3 := by
          rcases hcl4 with ⟨-, y2, y3⟩ | ⟨y, -⟩
          · exact ⟨y2, y3⟩
          · exact absurd y ne
        exact ⟨h4.1, mm28, by rw [h4.2]; exact t28, by rw [h4.2]; exact q3L, by rw [h4.2]; exact q3q, by rw [hbob, if_neg ne]; exact swok _ (by omega), w28, c28, by rw [hbob, if_neg ne]; exact w33, w34⟩
      · have hpl : rPL n tx L (nx tx L q3) o4 q4 := by
          rcases hcl4 with ⟨y, -⟩ | ⟨-, y⟩
          · exact absurd e10 y
          · exact y
        have nl4 := nx_le (tx := tx) q3L
        have nl5 := nx_le (tx := tx) nl4.2.2.1
        refine sm_ahead (S := wA S F28 J6 (gR S)) hL X28 t28.2.1 nl4.2.2.1 (fun F39 af39 t39 => ?_)
        have mm39 : MmF m am W F6 F39 := mm28.tr (MmF.ah hL af39)
        have a39 : F39 (am 0) = F28 (am 0) := af39.1 _ (hL.o 0)
        obtain ⟨X39, g18, g17, g96, mb39⟩ := know mm39
        refine sm_placesTo (S := wA S F39 J6 (gR S)) hL X39 t39 nl4.2.2.1 g18 g96 n8 (by omega) hpl (fun h4 q4e g F40 z1 z2 z3 z4 => ⟨fun _ => ⟨h4, mm39.tr ⟨z1, z2, fun k hk => ?_⟩, z4, by rw [q4e]; exact nl5.2.2.1, by rw [q4e]; omega, by rw [hbob, if_pos e10]; exact g.sw, ?_, fun i hi => ?_, ?_, ?_⟩, fun y => absurd y one0⟩) (fun f h4 F40 fl z18 z17 => ⟨fun y => absurd rfl y, fun _ => ?_⟩)
        · rw [z3 k, if_neg (by omega)]; rfl
        · rw [z3, if_neg (by omega)]; exact (congrFun a39 _).trans w28
        · rw [z3, if_neg (by omega)]; exact (congrFun a39 _).trans (c28 i hi)
        · rw [z3, if_pos rfl, hbob, if_pos e10]
        · rw [z3, if_neg (by omega)]; exact (congrFun a39 _).trans w34
        · obtain ⟨w1, w2⟩ := thn_some hc4 h4
          obtain ⟨kn, fl⟩ := fl
          exact hf f F40 J6 w1 (mb39.tr (MbF.fl hL fl)) z18 (by rw [w2]; exact z17)
    · -- no back
      have h3 : o3 = none ∧ q3 = q2 := by
        rcases hbk with ⟨-, y2, y3⟩ | ⟨y, -⟩ | ⟨y, -⟩
        · exact ⟨y2, y3⟩
        · exact absurd y ne9
        · exact absurd y ne9
      have hm : mln tx L j q2 = j := by unfold mln; rw [if_neg ne9]
      refine ⟨j, rfl, hm.symm, j1, k32, h3.1, mm, by rw [h3.2]; exact tj, by rw [h3.2]; exact jL, by rw [h3.2]; exact jq, fun i hi => by rw [hsw]; exact np_sw hg j1 (fun e => absurd e ne9) i (by rw [hm]; exact hi), fun i hi => ?_⟩
      rw [hch i hi, hsw]
      unfold sws
      rw [if_pos hi]
    · -- back
      have e2c : (2 : Int32) * nI j = nI (2 * j) := mulN 2 j
      rw [e2c]
      have nl3 := nx_le (tx := tx) jL
      have nl4 := nx_le (tx := tx) nl3.2.2.1
      refine ⟨fun hle => ?_, fun hgt => ?_⟩
      · have c2 : 2 * j ≤ 32 := (nI_leI (b := 32) (by omega) (by decide)).mp hle
        have hpl : rPL n tx L (nx tx L q2) o3 q3 := by
          rcases hbk with ⟨y, -⟩ | ⟨-, y, -⟩ | ⟨-, -, y⟩
          · exact absurd e9 y
          · omega
          · exact y
        have hm : mln tx L j q2 = 2 * j := by unfold mln; rw [if_pos e9]
        refine sm_ahead (S := wA S F J6 (gR S)) hL Xj tj.2.1 nl3.2.2.1 (fun F46 af46 t46 => ?_)
        have mm46 : MmF m am W F6 F46 := mm.tr (MmF.ah hL af46)
        have a46 : F46 (am 0) = F (am 0) := af46.1 _ (hL.o 0)
        refine ⟨fun t x3 F' => ∃ i, i ≤ j - 1 ∧ t = j - 1 - i ∧ x3 = nI i ∧ MmF m am W F6 F' ∧ F' m = F46 m ∧ (∀ z, z < j → F' (am 0) (W + (1 + z)) = F (am 0) (W + (1 + z))) ∧ ∀ z, j ≤ z → z < j + i → F' (am 0) (W + (1 + z)) = F (am 0) (W + (1 + (2 * j - 2 - z))), ⟨j - 1, 0, by omega, rfl, rfl, mm46, rfl, fun z _ => by rw [a46], fun z y1 y2 => by omega⟩, ?_⟩
        rintro t x3 F49 ⟨i, hi, rfl, rfl, mm49, m49, lo49, hi49⟩
        rw [sub1 j1]
        refine ⟨fun hc v51 e51 => ?_, fun hc => ?_⟩
        · have ie : i = j - 1 := by
            have := (nI_leI (by omega) (by omega)).mp hc
            omega
          subst ie
          subst e51
          rw [nI_add]
          obtain ⟨X49, g18, g17, g96, mb49⟩ := know mm49
          refine sm_placesTo (S := wA S F49 J6 (gR S)) hL X49 (t46.cg m49) nl3.2.2.1 g18 g96 n8 (by omega) hpl (fun h3 q3e g F52 z1 z2 z3 z4 => ⟨fun _ => ⟨2 * j, rfl, hm.symm, by omega, c2, h3, mm49.tr ⟨z1, z2, fun k hk => ?_⟩, z4, by rw [q3e]; exact nl4.2.2.1, by rw [q3e]; omega, by rw [hsw, ← hm]; exact np_sw hg j1 (fun _ => g), fun i hi => ?_⟩, fun y => absurd y one0⟩) (fun f h3 F52 fl z18 z17 => ⟨fun y => absurd rfl y, fun _ => ?_⟩)
          · rw [z3 k, if_neg (by omega)]; rfl
          · rw [z3, hsw]
            unfold sws
            by_cases ci : i < j
            · rw [if_neg (by omega), if_pos ci]
              exact (lo49 i ci).trans (hch i ci)
            · rw [if_neg ci]
              by_cases ci2 : i < 2 * j - 1
              · rw [if_neg (by omega), if_pos ci2]
                exact (hi49 i (by omega) (by omega)).trans (hch _ (by omega))
              · rw [if_pos (by omega), if_neg ci2]
          · obtain ⟨w1, w2⟩ := thn_some hc3 h3
            obtain ⟨kn, fl⟩ := fl
            exact hf f F52 J6 w1 (mb49.tr (MbF.fl hL fl)) z18 (by rw [w2]; exact z17)
        · have hlt : i < j - 1 := nI_gtI (by omega) (by omega) hc
          have i1 : nI W + nI j - 1 - nI i = nI (W + (1 + (j - 2 - i))) := by rw [nI_add, sub1 (by omega), dif_nI (by omega), show W + j - 1 - i = W + (1 + (j - 2 - i)) by omega]
          have i2 : nI W + 1 + nI j + nI i = nI (W + (1 + (j + i))) := by rw [nI_1, nI_add, nI_add, show W + 1 + j + i = W + (1 + (j + i)) by omega]
          rw [i1, i2]
          refine ⟨hL.i 0 (by show W + (1 + (j - 2 - i)) < 12100; omega), hL.i 0 (by show W + (1 + (j + i)) < 12100; omega), fun v56 e56 F57 e57 v58 e58 => ?_⟩
          rw [nI_clamp (by omega)] at e56 e57
          refine ⟨j - 1 - (i + 1), by omega, i + 1, by omega, rfl, by rw [e58]; exact nI_1 i, by rw [e57]; exact mm49.tr (MmF.u0 hL (by omega) (by omega)), by rw [e57, up_ne (Ne.symm (hL.o 0))]; exact m49, fun z hz => ?_, fun z y1 y2 => ?_⟩
          · rw [e57, up_no (by omega)]; exact lo49 z hz
          · rw [e57]
            by_cases cz : z = j + i
            · rw [cz, up_at, e56, lo49 _ (by omega), show 2 * j - 2 - (j + i) = j - 2 - i by omega]
            · rw [up_no (by omega)]; exact hi49 z y1 (by omega)
      · have c2 : 32 < 2 * j := by
          rcases Nat.lt_or_ge 32 (2 * j) with z | z
          · exact z
          · exact absurd (nI_le (b := 32) z (by decide)) hgt
        have hbk' : o3 = some 6 ∧ q3 = q2 := by
          rcases hbk with ⟨y, -⟩ | ⟨-, -, y1, y2⟩ | ⟨-, y, -⟩
          · exact absurd e9 y
          · exact ⟨y1, y2⟩
          · omega
        obtain ⟨w1, w2⟩ := thn_some hc3 hbk'.1
        refine sm_fails (S := wA S F J6 (gR S)) (kn := 6) hL tj j18 (fun F' fl => ⟨Or.inl rfl, hf 6 F' J6 w1 (mbj.tr (MbF.fl hL fl)) (by rw [fl.2.2.1, if_neg (by omega)]) (by rw [w2, hbk'.2]; exact fl.2.2.2)⟩)
end AM
