/-! What is there at the start: objects and their arrays. -/
def Ob (S0 T : St) (th n : Nat) (mo km lm : Nat → Nat) (ct : Nat → Nat → Int32) (cr : Nat → Nat → Option Nat) (am : Nat → Nat) (fi : Nat → Int32) (fj : Nat → Int64) : Prop :=
  Fr (fun e => e = th) S0 T ∧ kd S0 th ≠ 0 ∧ gI T th = fi ∧ gJ T th = fj ∧ (∀ i, i < n → gR T th (mo i) = some (am (mo i)) ∧ kd T (am (mo i)) = km (mo i) ∧ ln T (am (mo i)) = lm (mo i) ∧ gI T (am (mo i)) = ct (mo i) ∧ gJ T (am (mo i)) = (fun _ => 0) ∧ gR T (am (mo i)) = cr (mo i) ∧ kd S0 (am (mo i)) = 0) ∧ ∀ i j, i < n → j < n → am (mo i) = am (mo j) → i = j
theorem Fr.dead {W : Nat → Prop} {S T : St} (h : Fr W S T) {q : Nat} (hq : kd T q = 0) : kd S q = 0 := by
  rcases Nat.eq_zero_or_pos (kd S q) with y | y
  · exact y
  · have := (h q (by omega)).1
    omega
section OB
variable {S S0 T S' : St} {th n q k l p0 c d : Nat} {mo km lm am : Nat → Nat} {ct : Nat → Nat → Int32} {cr : Nat → Nat → Option Nat} {fi : Nat → Int32} {fj : Nat → Int64} {F' : FI} {J' : FJ} {R' : FR} {Q : St → Prop}
theorem Ob.z {F : FI} {J : FJ} {R : FR} (hk : kd S th ≠ 0) (hF : ∀ a, a ≠ th → F a = gI S a) (hJ : ∀ a, a ≠ th → J a = gJ S a) (hR : ∀ a, a ≠ th → R a = gR S a) : Ob S (wA S F J R) th 0 mo km lm ct cr am (F th) (J th) := ⟨fun e _ => ⟨rfl, rfl, fun hw => ⟨hF e hw, hJ e hw, hR e hw⟩⟩, hk, rfl, rfl, fun i hi => by omega, fun i j hi => by omega⟩
theorem Ob.al (h : Ob S0 T th n mo km lm ct cr am fi fj) (hmo : ∀ i, i < n → mo i ≠ mo n) (hkm : ∀ i, i ≤ n → km (mo i) ≠ 0) (hq : kd T q = 0) (e : S' = alo T q k l) (ek : k = km (mo n)) (el : l = lm (mo n)) (hF : ∀ a, a ≠ th → a ≠ q → F' a = gI S' a) (hFq : F' q = ct (mo n)) (hJ : ∀ a, a ≠ th → J' a = gJ S' a) (hR : ∀ a, a ≠ th → R' a = gR S' a) (hRth : ∀ i, i < n → R' th (mo i) = gR S' th (mo i)) (hRn : R' th (mo n) = some q) (hcr : cr (mo n) = fun _ => none) : Ob S0 (wA S' F' J' R') th (n + 1) mo km lm ct cr (setg am (mo n) q) (F' th) (J' th) ∧ Fr (fun e => e = th) T (wA S' F' J' R') := by
  obtain ⟨h1, h2, h3, h4, h5, h6⟩ := h
  have kth : kd T th ≠ 0 := by rw [(h1 th h2).1]; exact h2
  have thq : th ≠ q := kd_nq kth hq
  have q0 : kd S0 q = 0 := h1.dead hq
  have A : ∀ b, b ≠ q → kd S' b = kd T b ∧ ln S' b = ln T b ∧ gI S' b = gI T b ∧ gJ S' b = gJ T b ∧ gR S' b = gR T b := fun b hb => by
    rw [e]; exact ⟨kd_alon hb, ln_alon hb, gI_alon hb, gJ_alon hb, gR_alon hb⟩
  have aq : ∀ i, i < n → am (mo i) ≠ q := fun i hi => kd_nq (by rw [(h5 i hi).2.1]; exact hkm i (by omega)) hq
  have ath : ∀ i, i < n → am (mo i) ≠ th := fun i hi e' => h2 (by rw [← e']; exact (h5 i hi).2.2.2.2.2.2)
  have fr : Fr (fun e => e = th) T (wA S' F' J' R') := fun b hb => by
    have bq := kd_nq hb hq
    obtain ⟨u1, u2, u3, u4, u5⟩ := A b bq
    exact ⟨u1, u2, fun hw => ⟨(hF b hw bq).trans u3, (hJ b hw).trans u4, (hR b hw).trans u5⟩⟩
  refine ⟨⟨h1.tr fr, h2, rfl, rfl, fun i hi => ?_, fun i j hi hj hij => ?_⟩, fr⟩
  · by_cases ci : i = n
    · rw [ci, setg_at]
      refine ⟨hRn, ?_, ?_, hFq, ?_, ?_, q0⟩
      · show kd S' q = _
        rw [e, kd_alo, ek]
      · show ln S' q = _
        rw [e, ln_alo, el]
      · show J' q = _
        rw [hJ q (Ne.symm thq), e, gJ_alo]
      · show R' q = _
        rw [hR q (Ne.symm thq), e, gR_alo, hcr]
    · have hi' : i < n := by omega
      rw [setg_no (hmo i hi')]
      obtain ⟨u1, u2, u3, u4, u5, u6, u7⟩ := h5 i hi'
      obtain ⟨a1, a2, a3, a4, a5⟩ := A _ (aq i hi')
      refine ⟨?_, a1.trans u2, a2.trans u3, ?_, ?_, ?_, u7⟩
      · show R' th (mo i) = _
        rw [hRth i hi', (A th thq).2.2.2.2]; exact u1
      · show F' (am (mo i)) = _
        rw [hF _ (ath i hi') (aq i hi'), a3]; exact u4
      · show J' (am (mo i)) = _
        rw [hJ _ (ath i hi'), a4]; exact u5
      · show R' (am (mo i)) = _
        rw [hR _ (ath i hi'), a5]; exact u6
  · by_cases ci : i = n
    · by_cases cj : j = n
      · omega
      · rw [ci, setg_at, setg_no (hmo j (by omega))] at hij
        exact absurd hij.symm (aq j (by omega))
    · by_cases cj : j = n
      · rw [cj, setg_at, setg_no (hmo i (by omega))] at hij
        exact absurd hij (aq i (by omega))
      · rw [setg_no (hmo i (by omega)), setg_no (hmo j (by omega))] at hij
        exact h6 i j (by omega) (by omega) hij
/-- the plain case: a new array, its reference set -/
theorem Ob.a1 (h : Ob S0 T th n mo km lm ct cr am fi fj) (hmo : ∀ i, i < n → mo i ≠ mo n) (hkm : ∀ i, i ≤ n → km (mo i) ≠ 0) (hq : kd T q = 0) (e : S' = alo T q k l) (ek : k = km (mo n)) (el : l = lm (mo n)) (hct : ct (mo n) = fun _ => 0) (eR : R' = upR (gR S') th (mo n) (some q)) (hcr : cr (mo n) = fun _ => none) : Ob S0 (wA S' (gI S') (gJ S') R') th (n + 1) mo km lm ct cr (setg am (mo n) q) (gI S' th) (gJ S' th) ∧ Fr (fun e => e = th) T (wA S' (gI S') (gJ S') R') ∧ gI S' th = fi ∧ gJ S' th = fj := by
  have kth : kd T th ≠ 0 := by rw [(h.1 th h.2.1).1]; exact h.2.1
  have thq : th ≠ q := kd_nq kth hq
  obtain ⟨u1, u2⟩ := h.al (F' := gI S') (J' := gJ S') (R' := R') hmo hkm hq e ek el (fun _ _ _ => rfl) (by rw [e, gI_alo, hct]) (fun _ _ => rfl) (fun a ha => by rw [eR, upR_ne ha]) (fun i hi => by rw [eR, upR_no (hmo i hi)]) (by rw [eR, upR_at]) hcr
  exact ⟨u1, u2, by rw [e, gI_alon thq]; exact h.2.2.1, by rw [e, gJ_alon thq]; exact h.2.2.2.1⟩
theorem Ob.kt (h : Ob S0 T th n mo km lm ct cr am fi fj) (hq : kd T q = 0) (e : S' = alo T q k l) : kd S' th = kd S0 th := by
  have kth : kd T th ≠ 0 := by rw [(h.1 th h.2.1).1]; exact h.2.1
  rw [e, kd_alon (kd_nq kth hq)]; exact (h.1 th h.2.1).1
end OB
def m9 (i : Nat) : Nat := i + 4
def k9 (f : Nat) : Nat := if f = 6 then 24 else 21
def l9 (f : Nat) : Nat := if f = 9 then 2000 else if f = 7 ∨ f = 8 then 3 else 60
def z9 (_ _ : Nat) : Int32 := 0
def n9 (_ _ : Nat) : Option Nat := none
section IN
variable {S : St} {th p0 c d : Nat} {Q : St → Prop}
theorem k9n (i : Nat) : k9 (m9 i) ≠ 0 := by
  unfold k9
  by_cases h : m9 i = 6
  · rw [if_pos h]; decide
  · rw [if_neg h]; decide
theorem m9n (n : Nat) : ∀ i, i < n → m9 i ≠ m9 n := fun i hi h => by unfold m9 at h; omega
theorem sp_init9 (hth : kd S th = 9) (hc : 6 ≤ c) (hd : 2186 ≤ d) (hq : ∀ S' ta, Fr (fun e => e = th) S S' → TrdX S' th p0 ta → (∀ i, 4 ≤ i → i ≤ 9 → kd S (ta i) = 0) → Q S') : P_X9_init th p0 S c d Q := by
  have h0 : kd S th ≠ 0 := nz hth (by decide)
  refine ⟨hth, fun F1 e1 F2 e2 F3 e3 => ⟨by omega, by omega, fun q4 h4 S4 e4 => ?_⟩⟩
  have o0 : Ob S (wI S F3) th 0 m9 k9 l9 z9 n9 (fun _ => 0) (F3 th) (gJ S th) := Ob.z h0 (fun a ha => by rw [e3, up_ne ha, e2, up_ne ha, e1, up_ne ha]) (fun _ _ => rfl) (fun _ _ => rfl)
  refine ⟨(o0.kt h4 e4).trans hth, fun R8 e8 => ⟨by omega, by omega, fun q9 h9 S9 e9 => ?_⟩⟩
  obtain ⟨o1, -⟩ := o0.a1 (m9n 0) (fun i _ => k9n i) h4 e4 rfl rfl rfl e8 rfl
  refine ⟨(o1.kt h9 e9).trans hth, fun R13 e13 => ⟨by omega, by omega, fun q14 h14 S14 e14 => ?_⟩⟩
  obtain ⟨o2, -⟩ := o1.a1 (m9n 1) (fun i _ => k9n i) h9 e9 rfl rfl rfl e13 rfl
  refine ⟨(o2.kt h14 e14).trans hth, fun R18 e18 => ⟨by omega, by omega, fun q19 h19 S19 e19 => ?_⟩⟩
  obtain ⟨o3, -⟩ := o2.a1 (m9n 2) (fun i _ => k9n i) h14 e14 rfl rfl rfl e18 rfl
  refine ⟨(o3.kt h19 e19).trans hth, fun R23 e23 => ⟨by omega, by omega, fun q24 h24 S24 e24 => ?_⟩⟩
  obtain ⟨o4, -⟩ := o3.a1 (m9n 3) (fun i _ => k9n i) h19 e19 rfl rfl rfl e23 rfl
  refine ⟨(o4.kt h24 e24).trans hth, fun R28 e28 => ⟨by omega, by omega, fun q29 h29 S29 e29 => ?_⟩⟩
  obtain ⟨o5, -⟩ := o4.a1 (m9n 4) (fun i _ => k9n i) h24 e24 rfl rfl rfl e28 rfl
  refine ⟨(o5.kt h29 e29).trans hth, fun R33 e33 F34 e34 R35 e35 => ?_⟩
  have kth : kd (wA S24 (gI S24) (gJ S24) R28) th ≠ 0 := by rw [(o5.1 th h0).1]; exact h0
  have thq : th ≠ q29 := kd_nq kth h29
  obtain ⟨o6, -⟩ := o5.al (F' := F34) (J' := gJ S29) (R' := R35) (m9n 5) (fun i _ => k9n i) h29 e29 rfl rfl (fun a ha _ => by rw [e34, up_ne ha]) (by rw [e34, up_ne (Ne.symm thq), e29, gI_alo]; rfl) (fun _ _ => rfl) (fun a ha => by rw [e35, upR_ne ha, e33, upR_ne ha]) (fun i hi => by rw [e35, upR_no (by unfold m9; omega), e33]; exact upR_no (m9n 5 i hi)) (by rw [e35, upR_no (by decide), e33]; exact upR_at) rfl
  obtain ⟨ta, o6⟩ : ∃ ta, Ob S (wA S29 F34 (gJ S29) R35) th 6 m9 k9 l9 z9 n9 ta (F34 th) (gJ S29 th) := ⟨_, o6⟩
  obtain ⟨g1, g2, g3, g4, g5, g6⟩ := o6
  have dn : ∀ i j, i < 6 → j < 6 → i ≠ j → ta (m9 i) ≠ ta (m9 j) := fun i j hi hj hij e => hij (g6 i j hi hj e)
  have f0 := g5 0 (by decide)
  have f1 := g5 1 (by decide)
  have f2 := g5 2 (by decide)
  have f3 := g5 3 (by decide)
  have f4 := g5 4 (by decide)
  have f5 := g5 5 (by decide)
  refine hq _ ta g1 ⟨(g1 th h0).1.trans hth, by show R35 th 0 = _; rw [e35, upR_at], ⟨f0.1, f0.2.1, f0.2.2.1⟩, ⟨f1.1, f1.2.1, f1.2.2.1⟩, ⟨f2.1, f2.2.1, f2.2.2.1⟩, ⟨f3.1, f3.2.1, f3.2.2.1⟩, ⟨f4.1, f4.2.1, f4.2.2.1⟩, ⟨f5.1, f5.2.1, f5.2.2.1⟩, dn 0 1 (by decide) (by decide) (by decide), dn 0 3 (by decide) (by decide) (by decide), dn 0 4 (by decide) (by decide) (by decide), dn 0 5 (by decide) (by decide) (by decide), dn 1 3 (by decide) (by decide) (by decide), dn 1 4 (by decide) (by decide) (by decide), dn 1 5 (by decide) (by decide) (by decide), dn 3 4 (by decide) (by decide) (by decide), dn 3 5 (by decide) (by decide) (by decide), dn 4 5 (by decide) (by decide) (by decide)⟩ (fun i i1 i2 => ?_)
  have := (g5 (i - 4) (by omega)).2.2.2.2.2.2
  rw [show m9 (i - 4) = i by unfold m9; omega] at this
  exact this
end IN
