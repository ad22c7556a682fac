/-! Tokens and the book's reader. -/
section IP
variable {S : St} {th p0 rv c d : Nat} {Q : St → Prop}
theorem sp_init7 (hth : kd S th = 7) (hc : 2 ≤ c) (hd : 912 ≤ d) (hq : ∀ S' tt rv, Fr (fun e => e = th) S S' → TkX S' th tt rv → gI S' th 1 = 0 → gI S' th 9 = -1 → gI S' th 10 = -1 → kd S tt = 0 → kd S rv = 0 → Q S') : P_X7_init th S c d Q := by
  have h0 : kd S th ≠ 0 := nz hth (by decide)
  have mn : ∀ n i, i < n → m7 i ≠ m7 n := fun n i hi h => by unfold m7 at h; omega
  have kn : ∀ i, k7' (m7 i) ≠ 0 := fun i => by
    unfold k7'
    by_cases h : m7 i = 0
    · rw [if_pos h]; decide
    · rw [if_neg h]; decide
  refine ⟨hth, by omega, by omega, fun q1 h1 S1 e1 => ?_⟩
  have o0 : Ob S S th 0 m7 k7' l7' z9 n9 (fun _ => 0) (gI S th) (gJ S th) := Ob.z (F := gI S) (J := gJ S) (R := gR S) h0 (fun _ _ => rfl) (fun _ _ => rfl) (fun _ _ => rfl)
  have thq1 : th ≠ q1 := kd_nq h0 h1
  refine ⟨(o0.kt h1 e1).trans hth, fun R5 e5 F6 e6 => ⟨by omega, by omega, fun q7 h7 S7 e7 => ?_⟩⟩
  obtain ⟨o1, -⟩ := o0.al (F' := F6) (J' := gJ S1) (R' := R5) (mn 0) (fun i _ => kn i) h1 e1 rfl rfl (fun a ha _ => by rw [e6, up_ne ha]) (by rw [e6, up_ne (Ne.symm thq1), e1, gI_alo]; rfl) (fun _ _ => rfl) (fun a ha => by rw [e5, upR_ne ha]) (fun i hi => by omega) (by rw [e5]; exact upR_at) rfl
  have k1 : kd (wA S1 F6 (gJ S1) R5) th ≠ 0 := by rw [(o1.1 th h0).1]; exact h0
  have thq7 : th ≠ q7 := kd_nq k1 h7
  have f71 : gI S7 th 1 = 0 := by rw [e7, gI_alon thq7]; show F6 th 1 = _; rw [e6, up_at]
  refine ⟨(o1.kt h7 e7).trans hth, fun R11 e11 F12 e12 F13 e13 F14 e14 F15 e15 F16 e16 J17 e17 F18 e18 F19 e19 => ?_⟩
  have fo : ∀ a, a ≠ th → F19 a = gI S7 a := fun a ha => by rw [e19, up_ne ha, e18, up_ne ha, e16, up_ne ha, e15, up_ne ha, e14, up_ne ha, e13, up_ne ha, e12, up_ne ha]
  obtain ⟨o2, -⟩ := o1.al (F' := F19) (J' := J17) (R' := R11) (mn 1) (fun i _ => kn i) h7 e7 rfl rfl (fun a ha _ => fo a ha) (by rw [fo q7 (Ne.symm thq7), e7, gI_alo]; rfl) (fun a ha => by rw [e17, upJ_ne ha]) (fun a ha => by rw [e11, upR_ne ha]) (fun i hi => by rw [e11]; exact upR_no (mn 1 i hi)) (by rw [e11]; exact upR_at) rfl
  have rv7 : R11 th 2 = some q7 := by rw [e11, upR_at]
  have kq7 : kd S7 q7 = 22 := by rw [e7, kd_alo]
  have lq7 : ln S7 q7 = 12 := by rw [e7, ln_alo]
  have vq : ∀ i, i < 12 → vp_in (nI i) (ln S7 q7) := fun i hi => by rw [lq7]; exact vp_in_nI hi (by decide)
  obtain ⟨am, o2⟩ : ∃ am, Ob S (wA S7 F19 J17 R11) th 2 m7 k7' l7' z9 n9 am (F19 th) (J17 th) := ⟨_, o2⟩
  obtain ⟨g1, g2, g3, g4, g5, g6⟩ := o2
  have f0 := g5 0 (by decide)
  have f1 := g5 1 (by decide)
  have aq : am 2 = q7 := Option.some.inj (f1.1.symm.trans rv7)
  have q70 : kd S q7 = 0 := by rw [← aq]; exact f1.2.2.2.2.2.2
  refine ⟨q7, rv7, sp_wordOf (by decide) ⟨kq7, vq 0 (by decide), fun J24 e24 => sp_wordOf (by decide) ⟨vq 1 (by decide), fun J27 e27 => sp_wordOf (by decide) ⟨vq 2 (by decide), fun J30 e30 => sp_wordOf (by decide) ⟨vq 3 (by decide), fun J33 e33 => sp_wordOf (by decide) ⟨vq 4 (by decide), fun J36 e36 => sp_wordOf (by decide) ⟨vq 5 (by decide), fun J39 e39 => sp_wordOf (by decide) ⟨vq 6 (by decide), fun J42 e42 => sp_wordOf (by decide) ⟨vq 7 (by decide), fun J45 e45 => sp_wordOf (by decide) ⟨vq 8 (by decide), fun J48 e48 => sp_wordOf (by decide) ⟨vq 9 (by decide), fun J51 e51 => sp_wordOf (by decide) ⟨vq 10 (by decide), fun J54 e54 => sp_wordOf (by decide) ⟨vq 11 (by decide), fun J57 e57 => ?_⟩⟩⟩⟩⟩⟩⟩⟩⟩⟩⟩⟩⟩
  have jo : ∀ a, a ≠ q7 → J57 a = J17 a := fun a ha => by rw [e57, upJ_ne ha, e54, upJ_ne ha, e51, upJ_ne ha, e48, upJ_ne ha, e45, upJ_ne ha, e42, upJ_ne ha, e39, upJ_ne ha, e36, upJ_ne ha, e33, upJ_ne ha, e30, upJ_ne ha, e27, upJ_ne ha, e24, upJ_ne ha]
  have jw : ∀ i, i < 12 → J57 q7 i = n27 (kcw i) := fun i hi => by
    have st : ∀ (Ja Jb : FJ) (k : Nat) (v : Int64), Jb = upJ Ja q7 k v → v = n27 (kcw k) → (∀ i, i < k → Ja q7 i = n27 (kcw i)) → ∀ i, i < k + 1 → Jb q7 i = n27 (kcw i) := fun Ja Jb k v e ev h i hi => by
      rw [e]
      by_cases ck : i = k
      · rw [ck, upJ_at, ev]
      · rw [upJ_no ck]; exact h i (by omega)
    have s1 := st J17 J24 0 _ e24 rfl (fun i hi => by omega)
    have s2 := st J24 J27 1 _ e27 rfl s1
    have s3 := st J27 J30 2 _ e30 rfl s2
    have s4 := st J30 J33 3 _ e33 rfl s3
    have s5 := st J33 J36 4 _ e36 rfl s4
    have s6 := st J36 J39 5 _ e39 rfl s5
    have s7 := st J39 J42 6 _ e42 rfl s6
    have s8 := st J42 J45 7 _ e45 rfl s7
    have s9 := st J45 J48 8 _ e48 rfl s8
    have s10 := st J48 J51 9 _ e51 rfl s9
    have s11 := st J51 J54 10 _ e54 rfl s10
    have s12 := st J54 J57 11 _ e57 rfl s11
    exact s12 i hi
  refine hq _ (am 0) q7 (fun e he => ?_) ⟨(g1 th h0).1.trans hth, f0.1, f0.2.1, f0.2.2.1, rv7, kq7, lq7, jw⟩ ?_ ?_ ?_ f0.2.2.2.2.2.2 q70
  · obtain ⟨u1, u2, u3⟩ := g1 e he
    refine ⟨u1, u2, fun hw => ?_⟩
    obtain ⟨u4, u5, u6⟩ := u3 hw
    exact ⟨u4, (jo e (kd_nq he q70)).trans u5, u6⟩
  · show F19 th 1 = _
    rw [e19, up_no (by decide), e18, up_no (by decide), e16, up_no (by decide), e15, up_no (by decide), e14, up_no (by decide), e13, up_no (by decide), e12, up_no (by decide)]; exact f71
  · show F19 th 9 = _
    rw [e19, up_no (by decide), e18, up_at]
  · show F19 th 10 = _
    rw [e19, up_at]
theorem sp_init1 (hth : kd S th = 2) (hrv : kd S rv ≠ 0) (hc : 10 ≤ c) (hd : 160 ≤ d) (hq : ∀ S' ra mv, Fr (fun e => e = th) S S' → BrX S' th p0 rv ra mv → (∀ i, 6 ≤ i → i ≤ 11 → kd S (ra i) = 0) → (∀ i, i < 4 → kd S (mv i) = 0) → Q S') : P_X1_init th p0 S c d Q := by
  have h0 : kd S th ≠ 0 := nz hth (by decide)
  refine ⟨hth, fun F1 e1 F2 e2 F3 e3 F4 e4 F5 e5 => ⟨by omega, by omega, fun q6 h6 S6 e6 => ?_⟩⟩
  have fo : ∀ a, a ≠ th → F5 a = gI S a := fun a ha => by rw [e5, up_ne ha, e4, up_ne ha, e3, up_ne ha, e2, up_ne ha, e1, up_ne ha]
  -- cells, one after the other
  have A6 : ∀ b, b ≠ q6 → kd S6 b = kd S b ∧ ln S6 b = ln S b ∧ gI S6 b = F5 b ∧ gJ S6 b = gJ S b ∧ gR S6 b = gR S b := fun b hb => by rw [e6]; exact ⟨kd_alon hb, ln_alon hb, gI_alon hb, gJ_alon hb, gR_alon hb⟩
  have B6 : kd S6 q6 = 22 ∧ ln S6 q6 = 12 := by rw [e6]; exact ⟨kd_alo, ln_alo⟩
  have n6 : th ≠ q6 := kd_nq h0 h6
  have t6 : kd S6 th = 2 := (A6 th n6).1.trans hth
  refine ⟨t6, fun R10 e10 => ⟨by omega, by omega, fun q11 h11 S11 e11 => ?_⟩⟩
  have A11 : ∀ b, b ≠ q11 → kd S11 b = kd S6 b ∧ ln S11 b = ln S6 b ∧ gI S11 b = gI S6 b ∧ gJ S11 b = gJ S6 b ∧ gR S11 b = R10 b := fun b hb => by rw [e11]; exact ⟨kd_alon hb, ln_alon hb, gI_alon hb, gJ_alon hb, gR_alon hb⟩
  have B11 : kd S11 q11 = 22 ∧ ln S11 q11 = 4 := by rw [e11]; exact ⟨kd_alo, ln_alo⟩
  have n11 : th ≠ q11 := kd_nq (nz t6 (by decide)) h11
  have q611 : q6 ≠ q11 := kd_nq (nz B6.1 (by decide)) h11
  have t11 : kd S11 th = 2 := (A11 th n11).1.trans t6
  refine ⟨t11, fun R15 e15 => ⟨by omega, by omega, fun q16 rr h16 hrr hinj S16 e16 => ?_⟩⟩
  have A16 : ∀ b, b ≠ q16 → (∀ i, i < 4 → b ≠ rr i) → kd S16 b = kd S11 b ∧ ln S16 b = ln S11 b ∧ gI S16 b = gI S11 b ∧ gJ S16 b = gJ S11 b ∧ gR S16 b = R15 b := fun b hb hr => by
    have nm : ¬ b ∈ (List.range 4).map rr := fun hm => by
      obtain ⟨i, hi, e⟩ := List.mem_map.mp hm
      exact hr i (List.mem_range.mp hi) e.symm
    rw [e16]
    exact ⟨(if_neg hb).trans (if_neg nm), (if_neg hb).trans (if_neg nm), if_neg (fun z => z.elim hb nm), if_neg (fun z => z.elim hb nm), (if_neg hb).trans (if_neg nm)⟩
  have alv : ∀ b, kd S11 b ≠ 0 → b ≠ q16 ∧ ∀ i, i < 4 → b ≠ rr i := fun b hb => ⟨kd_nq hb h16, fun i hi => kd_nq hb (hrr i hi).1⟩
  have B16 : kd S16 q16 = 27 ∧ ln S16 q16 = 4 ∧ ∀ i, i < 4 → gR S16 q16 i = some (rr i) := by
    rw [e16]
    refine ⟨if_pos rfl, if_pos rfl, fun i hi => ?_⟩
    have e : gR (mnaS (wA S11 (gI S11) (gJ S11) R15) q16 rr 4 32) q16 = fun i => if i < 4 then some (rr i) else none := if_pos rfl
    rw [e]; exact if_pos hi
  have Br : ∀ i, i < 4 → kd S16 (rr i) = 21 ∧ ln S16 (rr i) = 32 := fun i hi => by
    have hm : rr i ∈ (List.range 4).map rr := List.mem_map.mpr ⟨i, List.mem_range.mpr hi, rfl⟩
    have hn := (hrr i hi).2
    rw [e16]; exact ⟨(if_neg hn).trans (if_pos hm), (if_neg hn).trans (if_pos hm)⟩
  have a16 := fun b hb => A16 b (alv b hb).1 (alv b hb).2
  have t16 : kd S16 th = 2 := (a16 th (nz t11 (by decide))).1.trans t11
  refine ⟨t16, fun R20 e20 => ⟨by omega, by omega, fun q21 h21 S21 e21 => ?_⟩⟩
  have A21 : ∀ b, b ≠ q21 → kd S21 b = kd S16 b ∧ ln S21 b = ln S16 b ∧ gI S21 b = gI S16 b ∧ gJ S21 b = gJ S16 b ∧ gR S21 b = R20 b := fun b hb => by rw [e21]; exact ⟨kd_alon hb, ln_alon hb, gI_alon hb, gJ_alon hb, gR_alon hb⟩
  have B21 : kd S21 q21 = 21 ∧ ln S21 q21 = 4 := by rw [e21]; exact ⟨kd_alo, ln_alo⟩
  have a21 := fun b (hb : kd S16 b ≠ 0) => A21 b (kd_nq hb h21)
  have t21 : kd S21 th = 2 := (a21 th (nz t16 (by decide))).1.trans t16
  refine ⟨t21, fun R25 e25 => ⟨by omega, by omega, fun q26 h26 S26 e26 => ?_⟩⟩
  have A26 : ∀ b, b ≠ q26 → kd S26 b = kd S21 b ∧ ln S26 b = ln S21 b ∧ gI S26 b = gI S21 b ∧ gJ S26 b = gJ S21 b ∧ gR S26 b = R25 b := fun b hb => by rw [e26]; exact ⟨kd_alon hb, ln_alon hb, gI_alon hb, gJ_alon hb, gR_alon hb⟩
  have B26 : kd S26 q26 = 21 ∧ ln S26 q26 = 4 := by rw [e26]; exact ⟨kd_alo, ln_alo⟩
  have a26 := fun b (hb : kd S21 b ≠ 0) => A26 b (kd_nq hb h26)
  have t26 : kd S26 th = 2 := (a26 th (nz t21 (by decide))).1.trans t21
  refine ⟨t26, fun R30 e30 => ⟨by omega, by omega, fun q31 h31 S31 e31 => ?_⟩⟩
  have A31 : ∀ b, b ≠ q31 → kd S31 b = kd S26 b ∧ ln S31 b = ln S26 b ∧ gI S31 b = gI S26 b ∧ gJ S31 b = gJ S26 b ∧ gR S31 b = R30 b := fun b hb => by rw [e31]; exact ⟨kd_alon hb, ln_alon hb, gI_alon hb, gJ_alon hb, gR_alon hb⟩
  have B31 : kd S31 q31 = 21 ∧ ln S31 q31 = 4 := by rw [e31]; exact ⟨kd_alo, ln_alo⟩
  have a31 := fun b (hb : kd S26 b ≠ 0) => A31 b (kd_nq hb h31)
  have t31 : kd S31 th = 2 := (a31 th (nz t26 (by decide))).1.trans t26
  refine ⟨t31, fun R35 e35 R36 e36 => ?_⟩
  -- alive from then on
  have l16 : ∀ b, kd S16 b ≠ 0 → kd S31 b = kd S16 b ∧ ln S31 b = ln S16 b ∧ gI S31 b = gI S16 b ∧ gJ S31 b = gJ S16 b ∧ (b ≠ th → gR S31 b = gR S16 b) := fun b hb => by
    obtain ⟨x1, x2, x3, x4, x5⟩ := a21 b hb
    have hb2 : kd S21 b ≠ 0 := by rw [x1]; exact hb
    obtain ⟨y1, y2, y3, y4, y5⟩ := a26 b hb2
    have hb3 : kd S26 b ≠ 0 := by rw [y1]; exact hb2
    obtain ⟨z1, z2, z3, z4, z5⟩ := a31 b hb3
    refine ⟨z1.trans (y1.trans x1), z2.trans (y2.trans x2), z3.trans (y3.trans x3), z4.trans (y4.trans x4), fun hw => ?_⟩
    rw [z5, e30, upR_ne hw, y5, e25, upR_ne hw, x5, e20, upR_ne hw]
  have l0 : ∀ b, kd S b ≠ 0 → kd S16 b = kd S b ∧ ln S16 b = ln S b ∧ gI S16 b = F5 b ∧ gJ S16 b = gJ S b ∧ (b ≠ th → gR S16 b = gR S b) := fun b hb => by
    obtain ⟨x1, x2, x3, x4, x5⟩ := A6 b (kd_nq hb h6)
    have hb2 : kd S6 b ≠ 0 := by rw [x1]; exact hb
    obtain ⟨y1, y2, y3, y4, y5⟩ := A11 b (kd_nq hb2 h11)
    have hb3 : kd S11 b ≠ 0 := by rw [y1]; exact hb2
    obtain ⟨z1, z2, z3, z4, z5⟩ := a16 b hb3
    refine ⟨z1.trans (y1.trans x1), z2.trans (y2.trans x2), z3.trans (y3.trans x3), z4.trans (y4.trans x4), fun hw => ?_⟩
    rw [z5, e15, upR_ne hw, y5, e10, upR_ne hw, x5]
  have k6a : kd S11 q6 = 22 := (A11 q6 q611).1.trans B6.1
  have k6b : kd S16 q6 = 22 ∧ ln S16 q6 = 12 := by
    obtain ⟨z1, z2, -⟩ := a16 q6 (nz k6a (by decide))
    exact ⟨z1.trans k6a, z2.trans ((A11 q6 q611).2.1.trans B6.2)⟩
  have k11b : kd S16 q11 = 22 ∧ ln S16 q11 = 4 := by
    obtain ⟨z1, z2, -⟩ := a16 q11 (nz B11.1 (by decide))
    exact ⟨z1.trans B11.1, z2.trans B11.2⟩
  have fin : ∀ {b i : Nat}, kd S16 b = i → i ≠ 0 → kd S31 b = i ∧ ln S31 b = ln S16 b := fun h hi => ⟨(l16 _ (nz h hi)).1.trans h, (l16 _ (nz h hi)).2.1⟩
  have k21c : kd S26 q21 = 21 ∧ ln S26 q21 = 4 := by
    obtain ⟨z1, z2, -⟩ := a26 q21 (nz B21.1 (by decide))
    exact ⟨z1.trans B21.1, z2.trans B21.2⟩
  have k21d : kd S31 q21 = 21 ∧ ln S31 q21 = 4 := by
    obtain ⟨z1, z2, -⟩ := a31 q21 (nz k21c.1 (by decide))
    exact ⟨z1.trans k21c.1, z2.trans k21c.2⟩
  have k26d : kd S31 q26 = 21 ∧ ln S31 q26 = 4 := by
    obtain ⟨z1, z2, -⟩ := a31 q26 (nz B26.1 (by decide))
    exact ⟨z1.trans B26.1, z2.trans B26.2⟩
  have rth : ∀ j, R36 th j = if j = 0 then some p0 else if j = 11 then some q31 else if j = 10 then some q26 else if j = 9 then some q21 else if j = 8 then some q16 else if j = 7 then some q11 else if j = 6 then some q6 else gR S th j := fun j => by
    rw [e36]
    by_cases c0 : j = 0
    · rw [c0, upR_at, if_pos rfl]
    · rw [upR_no c0, if_neg c0, e35]
      by_cases c11 : j = 11
      · rw [c11, upR_at, if_pos rfl]
      · rw [upR_no c11, if_neg c11, (a31 th (nz t26 (by decide))).2.2.2.2, e30]
        by_cases c10 : j = 10
        · rw [c10, upR_at, if_pos rfl]
        · rw [upR_no c10, if_neg c10, (a26 th (nz t21 (by decide))).2.2.2.2, e25]
          by_cases c9 : j = 9
          · rw [c9, upR_at, if_pos rfl]
          · rw [upR_no c9, if_neg c9, (a21 th (nz t16 (by decide))).2.2.2.2, e20]
            by_cases c8 : j = 8
            · rw [c8, upR_at, if_pos rfl]
            · rw [upR_no c8, if_neg c8, (a16 th (nz t11 (by decide))).2.2.2.2, e15]
              by_cases c7 : j = 7
              · rw [c7, upR_at, if_pos rfl]
              · rw [upR_no c7, if_neg c7, (A11 th n11).2.2.2.2, e10]
                by_cases c6 : j = 6
                · rw [c6, upR_at, if_pos rfl]
                · rw [upR_no c6, if_neg c6, (A6 th n6).2.2.2.2]
  have q16th : q16 ≠ th := fun e => by have := B16.1; rw [e, t16] at this; cases this
  have fr : Fr (fun e => e = th) S (wA S31 (gI S31) (gJ S31) R36) := fun b hb => by
    obtain ⟨x1, x2, x3, x4, x5⟩ := l0 b hb
    obtain ⟨y1, y2, y3, y4, y5⟩ := l16 b (by rw [x1]; exact hb)
    refine ⟨y1.trans x1, y2.trans x2, fun hw => ⟨y3.trans (x3.trans (fo b hw)), y4.trans x4, ?_⟩⟩
    show R36 b = _
    rw [e36, upR_ne hw, e35, upR_ne hw, y5 hw, x5 hw]
  have dead : ∀ b, kd S16 b = 0 → kd S b = 0 := fun b hb => by
    rcases Nat.eq_zero_or_pos (kd S b) with y | y
    · exact y
    · have := (l0 b (by omega)).1
      omega
  have dead11 : ∀ b, kd S11 b = 0 → kd S b = 0 := fun b hb => by
    rcases Nat.eq_zero_or_pos (kd S b) with y | y
    · exact y
    · have x1 := (A6 b (kd_nq (by omega) h6)).1
      have y1 := (A11 b (kd_nq (by rw [x1]; omega) h11)).1
      omega
  have dead6 : kd S q11 = 0 := by
    rcases Nat.eq_zero_or_pos (kd S q11) with y | y
    · exact y
    · have x1 := (A6 q11 (kd_nq (by omega) h6)).1
      omega
  have d26 : kd S q26 = 0 := dead q26 (by
    rcases Nat.eq_zero_or_pos (kd S16 q26) with y | y
    · exact y
    · have := (a21 q26 (by omega)).1
      omega)
  have d31 : kd S q31 = 0 := dead q31 (by
    rcases Nat.eq_zero_or_pos (kd S16 q31) with y | y
    · exact y
    · have z1 := (a21 q31 (by omega)).1
      have z2 := (a26 q31 (by omega)).1
      omega)
  let ra : Nat → Nat := fun i => if i = 11 then q31 else if i = 10 then q26 else if i = 9 then q21 else if i = 8 then q16 else if i = 7 then q11 else q6
  have n2126 : q21 ≠ q26 := kd_nq (nz B21.1 (by decide)) h26
  have n2131 : q21 ≠ q31 := kd_nq (nz k21c.1 (by decide)) h31
  have n2631 : q26 ≠ q31 := kd_nq (nz B26.1 (by decide)) h31
  have rr21 : ∀ i, i < 4 → rr i ≠ q21 ∧ rr i ≠ q26 ∧ rr i ≠ q31 := fun i hi => by
    have k1 := (Br i hi).1
    have z1 := (a21 (rr i) (nz k1 (by decide))).1.trans k1
    have z2 := (a26 (rr i) (nz z1 (by decide))).1.trans z1
    exact ⟨kd_nq (nz k1 (by decide)) h21, kd_nq (nz z1 (by decide)) h26, kd_nq (nz z2 (by decide)) h31⟩
  refine hq _ ra rr fr ⟨t31, rth 0, ⟨rth 6, (fin k6b.1 (by decide)).1, (fin k6b.1 (by decide)).2.trans k6b.2⟩, ⟨rth 7, (fin k11b.1 (by decide)).1, (fin k11b.1 (by decide)).2.trans k11b.2⟩, ⟨rth 8, (fin B16.1 (by decide)).1, (fin B16.1 (by decide)).2.trans B16.2.1⟩, ⟨rth 9, k21d⟩, ⟨rth 10, k26d⟩, ⟨rth 11, B31⟩, fun i hi => ⟨?_, (fin (Br i hi).1 (by decide)).1, (fin (Br i hi).1 (by decide)).2.trans (Br i hi).2⟩, fun i j hi hj hn e => hn (hinj i j hi hj e), rr21, n2126, n2131, n2631, q611, kd_nq hrv h6, kd_nq hrv dead6⟩ (fun i i1 i2 => ?_) (fun i hi => dead11 _ (hrr i hi).1)
  · show R36 q16 i = _
    rw [e36, upR_ne q16th, e35, upR_ne q16th, (l16 q16 (nz B16.1 (by decide))).2.2.2.2 q16th]; exact B16.2.2 i hi
  · rcases (show i = 6 ∨ i = 7 ∨ i = 8 ∨ i = 9 ∨ i = 10 ∨ i = 11 by omega) with rfl | rfl | rfl | rfl | rfl | rfl
    · exact h6
    · exact dead6
    · exact dead11 _ h16
    · exact dead _ h21
    · exact d26
    · exact d31
end IP
