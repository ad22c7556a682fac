/-! The class's other objects. -/
def m7 (i : Nat) : Nat := 2 * i
def k7' (f : Nat) : Nat := if f = 0 then 20 else 22
def l7' (f : Nat) : Nat := if f = 0 then 900 else 12
def m1' (i : Nat) : Nat := i
def k21 (_ : Nat) : Nat := 21
def l6' (_ : Nat) : Nat := 0
def l2' (_ : Nat) : Nat := 8
def m5 (i : Nat) : Nat := if i = 4 then 7 else i + 1
def l5' (f : Nat) : Nat := if f = 7 then 32 else if f = 1 ∨ f = 2 then 0 else 12
section IO
variable {S : St} {th p0 c d : Nat} {Q : St → Prop}
theorem sp_wordOf {i : Nat} {Q : Int64 → Prop} (hi : i < 12) (hq : Q (n27 (kcw i))) : P_X7_wordOf i Q := by
  have hlen : ∀ i, i < 12 → sLen.getD i 0 = (kcw i).length ∧ (kcw i).length ≤ 8 ∧ (kcw i).take (kcw i).length = kcw i := by decide +kernel
  have hst : ∀ i, i < 12 → ∀ j, j < 8 → j < (kcw i).length → (n27 ((kcw i).take j) * 27) + ((((sCh i (nI j)) - 97) + 1).toInt64) = n27 ((kcw i).take (j + 1)) := by decide +kernel
  obtain ⟨l1, l2, l3⟩ := hlen i hi
  refine ⟨fun n x1 x3 => ∃ j, j ≤ (kcw i).length ∧ n = (kcw i).length - j ∧ x1 = n27 ((kcw i).take j) ∧ x3 = nI j, ⟨(kcw i).length, 0, Nat.zero_le _, rfl, rfl, rfl⟩, ?_⟩
  rintro n x1 x3 ⟨j, hj, rfl, rfl, rfl⟩
  refine ⟨by omega, ?_⟩
  rw [l1]
  refine ⟨fun y => ?_, fun y => ?_⟩
  · have e : j = (kcw i).length := by
      have := (nI_leI (by omega) (by omega)).mp y
      omega
    rw [e, l3]; exact hq
  · have hlt : j < (kcw i).length := nI_gtI (by omega) (by omega) y
    refine ⟨by omega, vp_in_nI hlt (by omega), fun v8 e8 v9 e9 => ⟨(kcw i).length - (j + 1), by omega, j + 1, by omega, rfl, ?_, by rw [e9]; exact nI_1 j⟩⟩
    rw [e8]; exact hst i hi j (by omega) hlt
theorem sp_init6 (hth : kd S th = 6) (hc : 1 ≤ c) (hq : ∀ S' a, Fr (fun e => e = th) S S' → SX S' th a 0 0 → kd S a = 0 → Q S') : P_X6_init th S c d Q := by
  have h0 : kd S th ≠ 0 := nz hth (by decide)
  refine ⟨hth, by omega, by omega, fun q1 h1 S1 e1 => ?_⟩
  have o0 : Ob S S th 0 m1' k21 l6' z9 n9 (fun _ => 0) (gI S th) (gJ S th) := Ob.z (F := gI S) (J := gJ S) (R := gR S) h0 (fun _ _ => rfl) (fun _ _ => rfl) (fun _ _ => rfl)
  refine ⟨(o0.kt h1 e1).trans hth, fun R5 e5 F6 e6 => ?_⟩
  have thq : th ≠ q1 := kd_nq h0 h1
  obtain ⟨o1, -⟩ := o0.al (F' := F6) (J' := gJ S1) (R' := R5) (fun i hi => by omega) (fun _ _ => by show 21 ≠ 0; decide) h1 e1 rfl rfl (fun a ha _ => by rw [e6, up_ne ha]) (by rw [e6, up_ne (Ne.symm thq), e1, gI_alo]; rfl) (fun _ _ => rfl) (fun a ha => by rw [e5, upR_ne ha]) (fun i hi => by omega) (by rw [e5]; exact upR_at) rfl
  obtain ⟨am, o1⟩ : ∃ am, Ob S (wA S1 F6 (gJ S1) R5) th 1 m1' k21 l6' z9 n9 am (F6 th) (gJ S1 th) := ⟨_, o1⟩
  obtain ⟨g1, g2, g3, g4, g5, g6⟩ := o1
  have f0 := g5 0 (by decide)
  exact hq _ (am (m1' 0)) g1 ⟨(g1 th h0).1.trans hth, f0.1, f0.2.1, f0.2.2.1, by show F6 th 1 = _; rw [e6, up_at]; rfl, by omega, fun r hr => by omega⟩ f0.2.2.2.2.2.2
theorem sp_init2 (hth : kd S th = 3) (hc : 4 ≤ c) (hd : 32 ≤ d) (hq : ∀ S' ca, Fr (fun e => e = th) S S' → CoX S' th ca → gI S' th 4 = 0 → (∀ f, f < 4 → kd S (ca f) = 0) → Q S') : P_X2_init th S c d Q := by
  have h0 : kd S th ≠ 0 := nz hth (by decide)
  have mn : ∀ n i, i < n → m1' i ≠ m1' n := fun n i hi h => by unfold m1' at h; omega
  have kn : ∀ i, k21 (m1' i) ≠ 0 := fun i => by show 21 ≠ 0; decide
  refine ⟨hth, by omega, by omega, fun q1 h1 S1 e1 => ?_⟩
  have o0 : Ob S S th 0 m1' k21 l2' z9 n9 (fun _ => 0) (gI S th) (gJ S th) := Ob.z (F := gI S) (J := gJ S) (R := gR S) h0 (fun _ _ => rfl) (fun _ _ => rfl) (fun _ _ => rfl)
  refine ⟨(o0.kt h1 e1).trans hth, fun R5 e5 => ⟨by omega, by omega, fun q6 h6 S6 e6 => ?_⟩⟩
  obtain ⟨o1, -⟩ := o0.a1 (mn 0) (fun i _ => kn i) h1 e1 rfl rfl rfl e5 rfl
  refine ⟨(o1.kt h6 e6).trans hth, fun R10 e10 => ⟨by omega, by omega, fun q11 h11 S11 e11 => ?_⟩⟩
  obtain ⟨o2, -⟩ := o1.a1 (mn 1) (fun i _ => kn i) h6 e6 rfl rfl rfl e10 rfl
  refine ⟨(o2.kt h11 e11).trans hth, fun R15 e15 => ⟨by omega, by omega, fun q16 h16 S16 e16 => ?_⟩⟩
  obtain ⟨o3, -⟩ := o2.a1 (mn 2) (fun i _ => kn i) h11 e11 rfl rfl rfl e15 rfl
  refine ⟨(o3.kt h16 e16).trans hth, fun R20 e20 F21 e21 F22 e22 => ?_⟩
  have kth : kd (wA S11 (gI S11) (gJ S11) R15) th ≠ 0 := by rw [(o3.1 th h0).1]; exact h0
  have thq : th ≠ q16 := kd_nq kth h16
  obtain ⟨o4, -⟩ := o3.al (F' := F22) (J' := gJ S16) (R' := R20) (mn 3) (fun i _ => kn i) h16 e16 rfl rfl (fun a ha _ => by rw [e22, up_ne ha, e21, up_ne ha]) (by rw [e22, up_ne (Ne.symm thq), e21, up_ne (Ne.symm thq), e16, gI_alo]; rfl) (fun _ _ => rfl) (fun a ha => by rw [e20, upR_ne ha]) (fun i hi => by rw [e20]; exact upR_no (mn 3 i hi)) (by rw [e20]; exact upR_at) rfl
  obtain ⟨ca, o4⟩ : ∃ ca, Ob S (wA S16 F22 (gJ S16) R20) th 4 m1' k21 l2' z9 n9 ca (F22 th) (gJ S16 th) := ⟨_, o4⟩
  obtain ⟨g1, g2, g3, g4, g5, g6⟩ := o4
  exact hq _ ca g1 ⟨(g1 th h0).1.trans hth, fun f hf => ⟨(g5 f hf).1, (g5 f hf).2.1, (g5 f hf).2.2.1⟩, fun f g hf hg hn e => hn (g6 f g hf hg e)⟩ (by show F22 th 4 = _; rw [e22, up_no (by decide), e21, up_at]) (fun f hf => (g5 f hf).2.2.2.2.2.2)
theorem sp_init5 (hth : kd S th = 5) (hc : 5 ≤ c) (hd : 56 ≤ d) (hq : ∀ S' sa, Fr (fun e => e = th) S S' → SeX S' th sa 0 32 → gR S' th 0 = none → gI S' th 8 = 0 → (∀ f, seF f = true → kd S (sa f) = 0) → Q S') : P_X5_init th S c d Q := by
  have h0 : kd S th ≠ 0 := nz hth (by decide)
  have mn : ∀ n, n ≤ 4 → ∀ i, i < n → m5 i ≠ m5 n := fun n hn i hi h => by
    have : ∀ n, n < 5 → ∀ i, i < n → m5 i ≠ m5 n := by decide
    exact this n (by omega) i hi h
  have kn : ∀ i, k21 (m5 i) ≠ 0 := fun i => by show 21 ≠ 0; decide
  have m50 : ∀ i, m5 i ≠ 0 := fun i => by
    unfold m5
    by_cases c : i = 4
    · rw [if_pos c]; decide
    · rw [if_neg c]; omega
  refine ⟨hth, fun R1 e1 => ⟨by omega, by omega, fun q2 h2 S2 e2 => ?_⟩⟩
  have o0 : Ob S (wA S (gI S) (gJ S) R1) th 0 m5 k21 l5' z9 n9 (fun _ => 0) (gI S th) (gJ S th) := Ob.z h0 (fun _ _ => rfl) (fun _ _ => rfl) (fun a ha => by rw [e1, upR_ne ha])
  have r0 : gR (wA S (gI S) (gJ S) R1) th 0 = none := by show R1 th 0 = _; rw [e1, upR_at]
  have thq2 : th ≠ q2 := kd_nq h0 h2
  refine ⟨(o0.kt h2 e2).trans hth, fun R6 e6 => ⟨by omega, by omega, fun q7 h7 S7 e7 => ?_⟩⟩
  obtain ⟨o1, -⟩ := o0.a1 (mn 0 (by decide)) (fun i _ => kn i) h2 e2 rfl rfl rfl e6 rfl
  have r1 : R6 th 0 = none := by rw [e6, upR_no (by decide), e2, gR_alon thq2]; exact r0
  have k1 : kd (wA S2 (gI S2) (gJ S2) R6) th ≠ 0 := by rw [(o1.1 th h0).1]; exact h0
  have thq7 : th ≠ q7 := kd_nq k1 h7
  refine ⟨(o1.kt h7 e7).trans hth, fun R11 e11 => ⟨by omega, by omega, fun q12 h12 S12 e12 => ?_⟩⟩
  obtain ⟨o2, -⟩ := o1.a1 (mn 1 (by decide)) (fun i _ => kn i) h7 e7 rfl rfl rfl e11 rfl
  have r2 : R11 th 0 = none := by rw [e11, upR_no (by decide), e7, gR_alon thq7]; exact r1
  have k2 : kd (wA S7 (gI S7) (gJ S7) R11) th ≠ 0 := by rw [(o2.1 th h0).1]; exact h0
  have thq12 : th ≠ q12 := kd_nq k2 h12
  refine ⟨(o2.kt h12 e12).trans hth, fun R16 e16 => ⟨by omega, by omega, fun q17 h17 S17 e17 => ?_⟩⟩
  obtain ⟨o3, -⟩ := o2.a1 (mn 2 (by decide)) (fun i _ => kn i) h12 e12 rfl rfl rfl e16 rfl
  have r3 : R16 th 0 = none := by rw [e16, upR_no (by decide), e12, gR_alon thq12]; exact r2
  have k3 : kd (wA S12 (gI S12) (gJ S12) R16) th ≠ 0 := by rw [(o3.1 th h0).1]; exact h0
  have thq17 : th ≠ q17 := kd_nq k3 h17
  refine ⟨(o3.kt h17 e17).trans hth, fun R21 e21 F22 e22 F23 e23 => ⟨by omega, by omega, fun q24 h24 S24 e24 => ?_⟩⟩
  obtain ⟨o4, -⟩ := o3.al (F' := F23) (J' := gJ S17) (R' := R21) (mn 3 (by decide)) (fun i _ => kn i) h17 e17 rfl rfl (fun a ha _ => by rw [e23, up_ne ha, e22, up_ne ha]) (by rw [e23, up_ne (Ne.symm thq17), e22, up_ne (Ne.symm thq17), e17, gI_alo]; rfl) (fun _ _ => rfl) (fun a ha => by rw [e21, upR_ne ha]) (fun i hi => by rw [e21]; exact upR_no (mn 3 (by decide) i hi)) (by rw [e21]; exact upR_at) rfl
  have r4 : R21 th 0 = none := by rw [e21, upR_no (by decide), e17, gR_alon thq17]; exact r3
  have k4 : kd (wA S17 F23 (gJ S17) R21) th ≠ 0 := by rw [(o4.1 th h0).1]; exact h0
  have thq24 : th ≠ q24 := kd_nq k4 h24
  refine ⟨(o4.kt h24 e24).trans hth, fun R28 e28 F29 e29 => ?_⟩
  obtain ⟨o5, -⟩ := o4.al (F' := F29) (J' := gJ S24) (R' := R28) (mn 4 (by decide)) (fun i _ => kn i) h24 e24 rfl rfl (fun a ha _ => by rw [e29, up_ne ha]) (by rw [e29, up_ne (Ne.symm thq24), e24, gI_alo]; rfl) (fun _ _ => rfl) (fun a ha => by rw [e28, upR_ne ha]) (fun i hi => by rw [e28]; exact upR_no (mn 4 (by decide) i hi)) (by rw [e28]; exact upR_at) rfl
  obtain ⟨sa, o5⟩ : ∃ sa, Ob S (wA S24 F29 (gJ S24) R28) th 5 m5 k21 l5' z9 n9 sa (F29 th) (gJ S24 th) := ⟨_, o5⟩
  obtain ⟨g1, g2, g3, g4, g5, g6⟩ := o5
  have ix : ∀ f, seF f = true → ∃ i, i < 5 ∧ m5 i = f := fun f hf => by
    have h8 : f < 8 := by
      rcases Nat.lt_or_ge f 8 with y | y
      · exact y
      · have : seF f = false := by
          unfold seF
          simp
          omega
        rw [this] at hf; cases hf
    have : ∀ f, f < 8 → seF f = true → ∃ i, i < 5 ∧ m5 i = f := by decide
    exact this f h8 hf
  have l : ∀ i, i < 5 → ln (wA S24 F29 (gJ S24) R28) (sa (m5 i)) = l5' (m5 i) := fun i hi => (g5 i hi).2.2.1
  refine hq _ sa g1 ⟨(g1 th h0).1.trans hth, fun f hf => ?_, l 0 (by decide), l 1 (by decide), l 2 (by decide), l 3 (by decide), l 4 (by decide), fun f g hf hg hn e => ?_, by omega, by omega⟩ (by show R28 th 0 = _; rw [e28, upR_no (by decide), e24, gR_alon thq24]; exact r4) (by show F29 th 8 = _; rw [e29, up_at]) (fun f hf => ?_)
  · obtain ⟨i, hi, rfl⟩ := ix f hf
    exact ⟨(g5 i hi).1, (g5 i hi).2.1⟩
  · obtain ⟨i, hi, rfl⟩ := ix f hf
    obtain ⟨j, hj, rfl⟩ := ix g hg
    exact hn (by rw [g6 i j hi hj e])
  · obtain ⟨i, hi, rfl⟩ := ix f hf
    exact (g5 i hi).2.2.2.2.2.2
end IO
