/-! The reference at the start. -/
def m12l : List Nat := [0, 1, 5, 6, 7, 8, 9, 20, 23, 24, 25, 26, 27, 28, 30, 37, 38, 39, 40, 42, 44, 45, 46, 47]
def m12 (i : Nat) : Nat := m12l.getD i 0
def c12 (f : Nat) : Nat → Int32 := if f = 6 then (fun j => if j < 4 then -1 else 0) else fun _ => 0
theorem m12n : ∀ n, n < 24 → ∀ i, i < n → m12 i ≠ m12 n := by decide
theorem k12n : ∀ n, n < 24 → ∀ i, i ≤ n → mk (m12 i) ≠ 0 := by decide
theorem m12f {f : Nat} (h : mk f ≠ 0) : ∃ i, i < 24 ∧ m12 i = f := by
  rcases Nat.lt_or_ge f 51 with y | y
  · have : ∀ f, f < 51 → mk f ≠ 0 → ∃ i, i < 24 ∧ m12 i = f := by decide
    exact this f y h
  · exact absurd (mk_big y) h
theorem sp_init12 {S : St} {th c d : Nat} {Q : St → Prop} (hth : kd S th = 12) (hi0 : gI S th = fun _ => 0) (hj0 : gJ S th = fun _ => 0) (hc : 24 ≤ c) (hd : 218273 ≤ d) (hq : ∀ S' am, Fr (fun e => e = th) S S' → LM S' th am → (∀ f, mk f ≠ 0 → kd S (am f) = 0) → (∀ j, gI S' th j = if j = 43 then -1 else if j = 17 then -1 else if j = 16 then -1 else 0) → (∀ j, gJ S' th j = if j = 4 then 1 else 0) → (∀ f, mk f ≠ 0 → f ≠ 0 → gI S' (am f) = c12 f) → (∀ k, gI S' (am 0) k = if k = 6 then -1 else if k = 4 then -1 else if k = 0 then 4 else 0) → (∀ f, mk f ≠ 0 → gJ S' (am f) = fun _ => 0) → Q S') : P_X12_init th S c d Q := by
  have h0 : kd S th ≠ 0 := nz hth (by decide)
  have o0 : Ob S S th 0 m12 mk ml c12 n9 (fun _ => 0) (gI S th) (gJ S th) := Ob.z (F := gI S) (J := gJ S) (R := gR S) h0 (fun _ _ => rfl) (fun _ _ => rfl) (fun _ _ => rfl)
  refine ⟨hth, by omega, by omega, fun q1 h1 S1 e1 => ?_⟩
  have kt0 : kd (S) th ≠ 0 := by rw [(o0.1 th h0).1]; exact h0
  have nq0 : th ≠ q1 := kd_nq kt0 h1
  refine ⟨(o0.kt h1 e1).trans hth, fun R5 r5 => ⟨by omega, by omega, fun q6 h6 S6 e6 => ?_⟩⟩
  obtain ⟨o1, -, i1, j1⟩ := o0.a1 (m12n 0 (by decide)) (k12n 0 (by decide)) h1 e1 rfl rfl rfl r5 rfl
  rw [i1, j1] at o1
  have kt1 : kd (wA S1 (gI S1) (gJ S1) R5) th ≠ 0 := by rw [(o1.1 th h0).1]; exact h0
  have nq1 : th ≠ q6 := kd_nq kt1 h6
  refine ⟨(o1.kt h6 e6).trans hth, fun R10 r10 J11 u11 => ⟨by omega, by omega, fun q12 h12 S12 e12 => ?_⟩⟩
  obtain ⟨o2, -⟩ := o1.al (F' := gI S6) (J' := J11) (R' := R10) (m12n 1 (by decide)) (k12n 1 (by decide)) h6 e6 rfl rfl (fun _ _ _ => rfl) (by rw [e6, gI_alo]; rfl) (fun a ha => by rw [u11, upJ_ne ha]) (fun a ha => by rw [r10, upR_ne ha]) (fun i hi => by rw [r10]; exact upR_no (m12n 1 (by decide) i hi)) (by rw [r10]; exact upR_at) rfl
  have i2 : gI S6 th = (gI S th) := by rw [e6, gI_alon nq1]; exact o1.2.2.1
  rw [i2] at o2
  have jj : ∀ j, J11 th j = if j = 4 then 1 else 0 := fun j => by
    rw [u11]
    by_cases c4 : j = 4
    · rw [c4, upJ_at, if_pos rfl]
    · rw [upJ_no c4, if_neg c4, e6, gJ_alon nq1]
      have := o1.2.2.2.1
      rw [this, hj0]
  have kt2 : kd (wA S6 (gI S6) J11 R10) th ≠ 0 := by rw [(o2.1 th h0).1]; exact h0
  have nq2 : th ≠ q12 := kd_nq kt2 h12
  refine ⟨(o2.kt h12 e12).trans hth, fun R16 r16 => ⟨by omega, by omega, fun q17 h17 S17 e17 => ?_⟩⟩
  obtain ⟨o3, -, i3, j3⟩ := o2.a1 (m12n 2 (by decide)) (k12n 2 (by decide)) h12 e12 rfl rfl rfl r16 rfl
  rw [i3, j3] at o3
  have kt3 : kd (wA S12 (gI S12) (gJ S12) R16) th ≠ 0 := by rw [(o3.1 th h0).1]; exact h0
  have nq3 : th ≠ q17 := kd_nq kt3 h17
  have l17 : ln S17 q17 = 4 := by rw [e17, ln_alo]
  refine ⟨by rw [l17]; exact vp_in_nI (n := 0) (by decide) (by decide), fun F21 u21 => ⟨by rw [l17]; exact vp_in_nI (n := 1) (by decide) (by decide), fun F23 u23 => ⟨by rw [l17]; exact vp_in_nI (n := 2) (by decide) (by decide), fun F25 u25 => ⟨by rw [l17]; exact vp_in_nI (n := 3) (by decide) (by decide), fun F27 u27 => ⟨(o3.kt h17 e17).trans hth, fun R29 r29 => ⟨by omega, by omega, fun q30 h30 S30 e30 => ?_⟩⟩⟩⟩⟩⟩
  have fo : ∀ a, a ≠ q17 → F27 a = gI S17 a := fun a ha => by rw [u27, up_ne ha, u25, up_ne ha, u23, up_ne ha, u21, up_ne ha]
  have fq : F27 q17 = c12 6 := by
    funext j
    show F27 q17 j = if j < 4 then -1 else 0
    rw [u27]
    by_cases c3 : j = 3
    · rw [c3, up_at, if_pos (by decide)]
    · rw [up_no c3, u25]
      by_cases c2 : j = 2
      · rw [c2, up_at, if_pos (by decide)]
      · rw [up_no c2, u23]
        by_cases c1 : j = 1
        · rw [c1, up_at, if_pos (by decide)]
        · rw [up_no c1, u21]
          by_cases c0 : j = 0
          · rw [c0, up_at, if_pos (by decide)]
          · rw [up_no c0, if_neg (by omega), e17, gI_alo]
  obtain ⟨o4, -⟩ := o3.al (F' := F27) (J' := gJ S17) (R' := R29) (m12n 3 (by decide)) (k12n 3 (by decide)) h17 e17 rfl rfl (fun a _ hb => fo a hb) fq (fun _ _ => rfl) (fun a ha => by rw [r29, upR_ne ha]) (fun i hi => by rw [r29]; exact upR_no (m12n 3 (by decide) i hi)) (by rw [r29]; exact upR_at) rfl
  have i4 : F27 th = (gI S th) := by rw [fo th nq3, e17, gI_alon nq3]; exact o3.2.2.1
  have j4 : gJ S17 th = (J11 th) := by rw [e17, gJ_alon nq3]; exact o3.2.2.2.1
  rw [i4, j4] at o4
  have kt4 : kd (wA S17 F27 (gJ S17) R29) th ≠ 0 := by rw [(o4.1 th h0).1]; exact h0
  have nq4 : th ≠ q30 := kd_nq kt4 h30
  refine ⟨(o4.kt h30 e30).trans hth, fun R34 r34 => ⟨by omega, by omega, fun q35 h35 S35 e35 => ?_⟩⟩
  obtain ⟨o5, -, i5, j5⟩ := o4.a1 (m12n 4 (by decide)) (k12n 4 (by decide)) h30 e30 rfl rfl rfl r34 rfl
  rw [i5, j5] at o5
  have kt5 : kd (wA S30 (gI S30) (gJ S30) R34) th ≠ 0 := by rw [(o5.1 th h0).1]; exact h0
  have nq5 : th ≠ q35 := kd_nq kt5 h35
  refine ⟨(o5.kt h35 e35).trans hth, fun R39 r39 => ⟨by omega, by omega, fun q40 h40 S40 e40 => ?_⟩⟩
  obtain ⟨o6, -, i6, j6⟩ := o5.a1 (m12n 5 (by decide)) (k12n 5 (by decide)) h35 e35 rfl rfl rfl r39 rfl
  rw [i6, j6] at o6
  have kt6 : kd (wA S35 (gI S35) (gJ S35) R39) th ≠ 0 := by rw [(o6.1 th h0).1]; exact h0
  have nq6 : th ≠ q40 := kd_nq kt6 h40
  refine ⟨(o6.kt h40 e40).trans hth, fun R44 r44 F45 u45 F46 u46 => ⟨by omega, by omega, fun q47 h47 S47 e47 => ?_⟩⟩
  have fo7 : ∀ a, a ≠ th → F46 a = gI S40 a := fun a ha => by rw [u46, up_ne ha, u45, up_ne ha]
  obtain ⟨o7, -⟩ := o6.al (F' := F46) (J' := gJ S40) (R' := R44) (m12n 6 (by decide)) (k12n 6 (by decide)) h40 e40 rfl rfl (fun a ha _ => fo7 a ha) (by rw [fo7 q40 (Ne.symm nq6), e40, gI_alo]; rfl) (fun _ _ => rfl) (fun a ha => by rw [r44, upR_ne ha]) (fun i hi => by rw [r44]; exact upR_no (m12n 6 (by decide) i hi)) (by rw [r44]; exact upR_at) rfl
  have ip7 : gI S40 th = (gI S th) := by rw [e40, gI_alon nq6]; exact o6.2.2.1
  have j7 : gJ S40 th = (J11 th) := by rw [e40, gJ_alon nq6]; exact o6.2.2.2.1
  rw [j7] at o7
  have ii : ∀ j, F46 th j = if j = 17 then -1 else if j = 16 then -1 else 0 := fun j => by
    rw [u46]
    by_cases c17 : j = 17
    · rw [c17, up_at, if_pos rfl]
    · rw [up_no c17, if_neg c17, u45]
      by_cases c16 : j = 16
      · rw [c16, up_at, if_pos rfl]
      · rw [up_no c16, if_neg c16, ip7, hi0]
  have kt7 : kd (wA S40 F46 (gJ S40) R44) th ≠ 0 := by rw [(o7.1 th h0).1]; exact h0
  have nq7 : th ≠ q47 := kd_nq kt7 h47
  refine ⟨(o7.kt h47 e47).trans hth, fun R51 r51 => ⟨by omega, by omega, fun q52 h52 S52 e52 => ?_⟩⟩
  obtain ⟨o8, -, i8, j8⟩ := o7.a1 (m12n 7 (by decide)) (k12n 7 (by decide)) h47 e47 rfl rfl rfl r51 rfl
  rw [i8, j8] at o8
  have kt8 : kd (wA S47 (gI S47) (gJ S47) R51) th ≠ 0 := by rw [(o8.1 th h0).1]; exact h0
  have nq8 : th ≠ q52 := kd_nq kt8 h52
  refine ⟨(o8.kt h52 e52).trans hth, fun R56 r56 => ⟨by omega, by omega, fun q57 h57 S57 e57 => ?_⟩⟩
  obtain ⟨o9, -, i9, j9⟩ := o8.a1 (m12n 8 (by decide)) (k12n 8 (by decide)) h52 e52 rfl rfl rfl r56 rfl
  rw [i9, j9] at o9
  have kt9 : kd (wA S52 (gI S52) (gJ S52) R56) th ≠ 0 := by rw [(o9.1 th h0).1]; exact h0
  have nq9 : th ≠ q57 := kd_nq kt9 h57
  refine ⟨(o9.kt h57 e57).trans hth, fun R61 r61 => ⟨by omega, by omega, fun q62 h62 S62 e62 => ?_⟩⟩
  obtain ⟨o10, -, i10, j10⟩ := o9.a1 (m12n 9 (by decide)) (k12n 9 (by decide)) h57 e57 rfl rfl rfl r61 rfl
  rw [i10, j10] at o10
  have kt10 : kd (wA S57 (gI S57) (gJ S57) R61) th ≠ 0 := by rw [(o10.1 th h0).1]; exact h0
  have nq10 : th ≠ q62 := kd_nq kt10 h62
  refine ⟨(o10.kt h62 e62).trans hth, fun R66 r66 => ⟨by omega, by omega, fun q67 h67 S67 e67 => ?_⟩⟩
  obtain ⟨o11, -, i11, j11⟩ := o10.a1 (m12n 10 (by decide)) (k12n 10 (by decide)) h62 e62 rfl rfl rfl r66 rfl
  rw [i11, j11] at o11
  have kt11 : kd (wA S62 (gI S62) (gJ S62) R66) th ≠ 0 := by rw [(o11.1 th h0).1]; exact h0
  have nq11 : th ≠ q67 := kd_nq kt11 h67
  refine ⟨(o11.kt h67 e67).trans hth, fun R71 r71 => ⟨by omega, by omega, fun q72 h72 S72 e72 => ?_⟩⟩
  obtain ⟨o12, -, i12, j12⟩ := o11.a1 (m12n 11 (by decide)) (k12n 11 (by decide)) h67 e67 rfl rfl rfl r71 rfl
  rw [i12, j12] at o12
  have kt12 : kd (wA S67 (gI S67) (gJ S67) R71) th ≠ 0 := by rw [(o12.1 th h0).1]; exact h0
  have nq12 : th ≠ q72 := kd_nq kt12 h72
  refine ⟨(o12.kt h72 e72).trans hth, fun R76 r76 => ⟨by omega, by omega, fun q77 h77 S77 e77 => ?_⟩⟩
  obtain ⟨o13, -, i13, j13⟩ := o12.a1 (m12n 12 (by decide)) (k12n 12 (by decide)) h72 e72 rfl rfl rfl r76 rfl
  rw [i13, j13] at o13
  have kt13 : kd (wA S72 (gI S72) (gJ S72) R76) th ≠ 0 := by rw [(o13.1 th h0).1]; exact h0
  have nq13 : th ≠ q77 := kd_nq kt13 h77
  refine ⟨(o13.kt h77 e77).trans hth, fun R81 r81 => ⟨by omega, by omega, fun q82 h82 S82 e82 => ?_⟩⟩
  obtain ⟨o14, -, i14, j14⟩ := o13.a1 (m12n 13 (by decide)) (k12n 13 (by decide)) h77 e77 rfl rfl rfl r81 rfl
  rw [i14, j14] at o14
  have kt14 : kd (wA S77 (gI S77) (gJ S77) R81) th ≠ 0 := by rw [(o14.1 th h0).1]; exact h0
  have nq14 : th ≠ q82 := kd_nq kt14 h82
  refine ⟨(o14.kt h82 e82).trans hth, fun R86 r86 => ⟨by omega, by omega, fun q87 h87 S87 e87 => ?_⟩⟩
  obtain ⟨o15, -, i15, j15⟩ := o14.a1 (m12n 14 (by decide)) (k12n 14 (by decide)) h82 e82 rfl rfl rfl r86 rfl
  rw [i15, j15] at o15
  have kt15 : kd (wA S82 (gI S82) (gJ S82) R86) th ≠ 0 := by rw [(o15.1 th h0).1]; exact h0
  have nq15 : th ≠ q87 := kd_nq kt15 h87
  refine ⟨(o15.kt h87 e87).trans hth, fun R91 r91 => ⟨by omega, by omega, fun q92 h92 S92 e92 => ?_⟩⟩
  obtain ⟨o16, -, i16, j16⟩ := o15.a1 (m12n 15 (by decide)) (k12n 15 (by decide)) h87 e87 rfl rfl rfl r91 rfl
  rw [i16, j16] at o16
  have kt16 : kd (wA S87 (gI S87) (gJ S87) R91) th ≠ 0 := by rw [(o16.1 th h0).1]; exact h0
  have nq16 : th ≠ q92 := kd_nq kt16 h92
  refine ⟨(o16.kt h92 e92).trans hth, fun R96 r96 => ⟨by omega, by omega, fun q97 h97 S97 e97 => ?_⟩⟩
  obtain ⟨o17, -, i17, j17⟩ := o16.a1 (m12n 16 (by decide)) (k12n 16 (by decide)) h92 e92 rfl rfl rfl r96 rfl
  rw [i17, j17] at o17
  have kt17 : kd (wA S92 (gI S92) (gJ S92) R96) th ≠ 0 := by rw [(o17.1 th h0).1]; exact h0
  have nq17 : th ≠ q97 := kd_nq kt17 h97
  refine ⟨(o17.kt h97 e97).trans hth, fun R101 r101 => ⟨by omega, by omega, fun q102 h102 S102 e102 => ?_⟩⟩
  obtain ⟨o18, -, i18, j18⟩ := o17.a1 (m12n 17 (by decide)) (k12n 17 (by decide)) h97 e97 rfl rfl rfl r101 rfl
  rw [i18, j18] at o18
  have kt18 : kd (wA S97 (gI S97) (gJ S97) R101) th ≠ 0 := by rw [(o18.1 th h0).1]; exact h0
  have nq18 : th ≠ q102 := kd_nq kt18 h102
  refine ⟨(o18.kt h102 e102).trans hth, fun R106 r106 => ⟨by omega, by omega, fun q107 h107 S107 e107 => ?_⟩⟩
  obtain ⟨o19, -, i19, j19⟩ := o18.a1 (m12n 18 (by decide)) (k12n 18 (by decide)) h102 e102 rfl rfl rfl r106 rfl
  rw [i19, j19] at o19
  have kt19 : kd (wA S102 (gI S102) (gJ S102) R106) th ≠ 0 := by rw [(o19.1 th h0).1]; exact h0
  have nq19 : th ≠ q107 := kd_nq kt19 h107
  refine ⟨(o19.kt h107 e107).trans hth, fun R111 r111 F112 u112 => ⟨by omega, by omega, fun q113 h113 S113 e113 => ?_⟩⟩
  have fo20 : ∀ a, a ≠ th → F112 a = gI S107 a := fun a ha => by rw [u112, up_ne ha]
  obtain ⟨o20, -⟩ := o19.al (F' := F112) (J' := gJ S107) (R' := R111) (m12n 19 (by decide)) (k12n 19 (by decide)) h107 e107 rfl rfl (fun a ha _ => fo20 a ha) (by rw [fo20 q107 (Ne.symm nq19), e107, gI_alo]; rfl) (fun _ _ => rfl) (fun a ha => by rw [r111, upR_ne ha]) (fun i hi => by rw [r111]; exact upR_no (m12n 19 (by decide) i hi)) (by rw [r111]; exact upR_at) rfl
  have ip20 : gI S107 th = (F46 th) := by rw [e107, gI_alon nq19]; exact o19.2.2.1
  have j20 : gJ S107 th = (J11 th) := by rw [e107, gJ_alon nq19]; exact o19.2.2.2.1
  rw [j20] at o20
  have ii2 : ∀ j, F112 th j = if j = 43 then -1 else if j = 17 then -1 else if j = 16 then -1 else 0 := fun j => by
    rw [u112]
    by_cases c43 : j = 43
    · rw [c43, up_at, if_pos rfl]
    · rw [up_no c43, if_neg c43, ip20]; exact ii j
  have kt20 : kd (wA S107 F112 (gJ S107) R111) th ≠ 0 := by rw [(o20.1 th h0).1]; exact h0
  have nq20 : th ≠ q113 := kd_nq kt20 h113
  refine ⟨(o20.kt h113 e113).trans hth, fun R117 r117 => ⟨by omega, by omega, fun q118 h118 S118 e118 => ?_⟩⟩
  obtain ⟨o21, -, i21, j21⟩ := o20.a1 (m12n 20 (by decide)) (k12n 20 (by decide)) h113 e113 rfl rfl rfl r117 rfl
  rw [i21, j21] at o21
  have kt21 : kd (wA S113 (gI S113) (gJ S113) R117) th ≠ 0 := by rw [(o21.1 th h0).1]; exact h0
  have nq21 : th ≠ q118 := kd_nq kt21 h118
  refine ⟨(o21.kt h118 e118).trans hth, fun R122 r122 => ⟨by omega, by omega, fun q123 h123 S123 e123 => ?_⟩⟩
  obtain ⟨o22, -, i22, j22⟩ := o21.a1 (m12n 21 (by decide)) (k12n 21 (by decide)) h118 e118 rfl rfl rfl r122 rfl
  rw [i22, j22] at o22
  have kt22 : kd (wA S118 (gI S118) (gJ S118) R122) th ≠ 0 := by rw [(o22.1 th h0).1]; exact h0
  have nq22 : th ≠ q123 := kd_nq kt22 h123
  refine ⟨(o22.kt h123 e123).trans hth, fun R127 r127 => ⟨by omega, by omega, fun q128 h128 S128 e128 => ?_⟩⟩
  obtain ⟨o23, -, i23, j23⟩ := o22.a1 (m12n 22 (by decide)) (k12n 22 (by decide)) h123 e123 rfl rfl rfl r127 rfl
  rw [i23, j23] at o23
  have kt23 : kd (wA S123 (gI S123) (gJ S123) R127) th ≠ 0 := by rw [(o23.1 th h0).1]; exact h0
  have nq23 : th ≠ q128 := kd_nq kt23 h128
  refine ⟨(o23.kt h128 e128).trans hth, fun R132 r132 => ?_⟩
  obtain ⟨o24, -, i24, j24⟩ := o23.a1 (m12n 23 (by decide)) (k12n 23 (by decide)) h128 e128 rfl rfl rfl r132 rfl
  rw [i24, j24] at o24
  obtain ⟨am, oz⟩ : ∃ am, Ob S (wA S128 (gI S128) (gJ S128) R132) th 24 m12 mk ml c12 n9 am (F112 th) (J11 th) := ⟨_, o24⟩
  obtain ⟨g1, g2, g3, g4, g5, g6⟩ := oz
  have f0 := g5 0 (by decide)
  have la : ∀ p, p < 12100 → vp_in (nI p) (ln S128 (am 0)) := fun p hp => by
    rw [show ln S128 (am 0) = 12100 from f0.2.2.1]; exact vp_in_nI hp (by decide)
  refine ⟨am 0, f0.1, f0.2.1, la 0 (by decide), fun F136 u136 => ⟨la 4 (by decide), fun F138 u138 => ⟨la 6 (by decide), fun F140 u140 => ?_⟩⟩⟩
  have fo2 : ∀ a, a ≠ am 0 → F140 a = gI S128 a := fun a ha => by rw [u140, up_ne ha, u138, up_ne ha, u136, up_ne ha]
  have all : ∀ f, mk f ≠ 0 → gR (wA S128 (gI S128) (gJ S128) R132) th f = some (am f) ∧ kd (wA S128 (gI S128) (gJ S128) R132) (am f) = mk f ∧ ln (wA S128 (gI S128) (gJ S128) R132) (am f) = ml f ∧ gI (wA S128 (gI S128) (gJ S128) R132) (am f) = c12 f ∧ gJ (wA S128 (gI S128) (gJ S128) R132) (am f) = (fun _ => 0) ∧ gR (wA S128 (gI S128) (gJ S128) R132) (am f) = n9 f ∧ kd S (am f) = 0 := fun f hf => by
    obtain ⟨i, hi, rfl⟩ := m12f hf
    exact g5 i hi
  have inj : ∀ f g, mk f ≠ 0 → mk g ≠ 0 → am f = am g → f = g := fun f g hf hg e => by
    obtain ⟨i, hi, rfl⟩ := m12f hf
    obtain ⟨j, hj, rfl⟩ := m12f hg
    rw [g6 i j hi hj e]
  have a0th : am 0 ≠ th := fun e => h0 (by rw [← e]; exact f0.2.2.2.2.2.2)
  refine hq _ am (fun e he => ?_) ⟨(g1 th h0).1.trans hth, fun f hf => ⟨(all f hf).1, (all f hf).2.1, (all f hf).2.2.1⟩, inj⟩ (fun f hf => (all f hf).2.2.2.2.2.2) (fun j => ?_) (fun j => ?_) (fun f hf hf0 => ?_) (fun k => ?_) (fun f hf => (all f hf).2.2.2.2.1)
  · obtain ⟨u1, u2, u3⟩ := g1 e he
    refine ⟨u1, u2, fun hw => ?_⟩
    obtain ⟨u4, u5, u6⟩ := u3 hw
    exact ⟨(fo2 e (kd_nq he f0.2.2.2.2.2.2)).trans u4, u5, u6⟩
  · show F140 th j = _
    rw [fo2 th (Ne.symm a0th), show gI S128 th = (F112 th) from g3]; exact ii2 j
  · show gJ S128 th j = _
    rw [show gJ S128 th = (J11 th) from g4]; exact jj j
  · show F140 (am f) = _
    rw [fo2 _ (fun e => hf0 (inj f 0 hf (by decide) e))]; exact (all f hf).2.2.2.1
  · show F140 (am 0) k = _
    rw [u140]
    by_cases c6 : k = 6
    · rw [c6, up_at, if_pos rfl]
    · rw [up_no c6, if_neg c6, u138]
      by_cases c4 : k = 4
      · rw [c4, up_at, if_pos rfl]
      · rw [up_no c4, if_neg c4, u136]
        by_cases c0 : k = 0
        · rw [c0, up_at, if_pos rfl]
        · rw [up_no c0, if_neg c0, show gI S128 (am 0) = c12 0 from f0.2.2.2.1]; rfl
