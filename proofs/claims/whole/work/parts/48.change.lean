/-! Changes by the places that stay. -/
def vis (st : Nat → Bool) : Nat → Bool
  | 0 => true
  | p + 1 => !vis st p || st p
/-- which places exchange with the next, if just those of st stay -/
def swm (n : Nat) (st : Nat → Bool) (p : Nat) : Bool := decide (p < n) && (vis st p && !st p)
def okm (n : Nat) (st : Nat → Bool) : Prop := ∀ p, swm n st p = true → p + 1 < n ∧ st (p + 1) = false
theorem okm_sw {n : Nat} {st : Nat → Bool} (h : okm n st) : Sw n (swm n st) := fun p hp => ⟨(h p hp).1, by
  have h1 : vis st p = true ∧ st p = false := by
    unfold swm at hp
    simp at hp
    exact ⟨hp.2.1, hp.2.2⟩
  show (decide (p + 1 < n) && ((!vis st p || st p) && !st (p + 1))) = false
  rw [h1.1, h1.2]
  simp⟩
theorem swm_cong {n : Nat} {st st2 : Nat → Bool} (h : ∀ p, p < n → st p = st2 p) : ∀ p, swm n st p = swm n st2 p := by
  have hv : ∀ p, p ≤ n → vis st p = vis st2 p := by
    intro p
    induction p with
    | zero => intro _; rfl
    | succ p ih => intro hp; show (!vis st p || st p) = (!vis st2 p || st2 p); rw [ih (by omega), h p (by omega)]
  intro p
  unfold swm
  by_cases c : p < n
  · rw [hv p (by omega), h p c]
  · simp [c]
/-- what stays, by what is exchanged -/
def stf (sw : Nat → Bool) (p : Nat) : Bool := !sw p && !(decide (p ≠ 0) && sw (p - 1))
theorem vis_stf {n : Nat} {sw : Nat → Bool} (h : Sw n sw) : ∀ p, vis (stf sw) p = !(decide (p ≠ 0) && sw (p - 1))
  | 0 => by simp [vis]
  | p + 1 => by
    show (!vis (stf sw) p || stf sw p) = _
    rw [vis_stf h p]
    unfold stf
    simp only [Nat.add_sub_cancel]
    by_cases c : p = 0
    · subst c; cases sw 0 <;> simp
    · cases h1 : sw p
      · cases h2 : sw (p - 1)
        · simp
        · simp
      · cases h2 : sw (p - 1)
        · simp
        · have := (h (p - 1) h2).2
          rw [show p - 1 + 1 = p by omega, h1] at this
          cases this
theorem swm_stf {n : Nat} {sw : Nat → Bool} (h : Sw n sw) (p : Nat) : swm n (stf sw) p = sw p := by
  unfold swm
  rw [vis_stf h p]
  by_cases c : p < n
  · cases h1 : sw p
    · unfold stf
      rw [h1]
      cases (decide (p ≠ 0) && sw (p - 1)) <;> simp
    · unfold stf
      rw [h1, decide_eq_true c]
      by_cases c0 : p = 0
      · subst c0; simp
      · cases h2 : sw (p - 1)
        · simp
        · have := (h (p - 1) h2).2
          rw [show p - 1 + 1 = p by omega, h1] at this
          cases this
  · cases h1 : sw p
    · simp [c]
    · have := (h p h1).1; omega
theorem okm_stf {n : Nat} {sw : Nat → Bool} (h : Sw n sw) : okm n (stf sw) := fun p hp => by
  rw [swm_stf h] at hp
  refine ⟨(h p hp).1, ?_⟩
  unfold stf
  simp [hp]
theorem stf_swm {n : Nat} {st : Nat → Bool} (h : okm n st) : ∀ p, p < n → stf (swm n st) p = st p := by
  intro p hp
  unfold stf
  by_cases c0 : p = 0
  · subst c0
    unfold swm
    simp [vis, hp]
  · obtain ⟨q, rfl⟩ : ∃ q, p = q + 1 := ⟨p - 1, by omega⟩
    simp only [Nat.add_sub_cancel]
    have hq : q < n := by omega
    cases h1 : swm n st q
    · unfold swm at h1 ⊢
      simp [hp, hq, vis] at h1 ⊢
      cases h2 : vis st q
      · simp
      · rw [h2] at h1
        simp at h1
        simp [h1]
    · have := (h q h1).2
      rw [this]
      simp
theorem mv_step {sw : Nat → Bool} {p : Nat} (hp : p < 8) : nI (pak (mvf sw) p) ||| shl 15 (4 * nI p) = nI (pak (mvf sw) p + 15 * 16 ^ p) := pak_or (v := 15) (fun q _ => mvf_lt sw q) hp
theorem sp_moveAround {n : Nat} {x : Int32} {Q : Int32 → Prop} (hn : n ≤ 8) (hq : okm n (bt x) → Q (nI (pak (mvf (swm n (bt x))) n))) (hq2 : ¬ okm n (bt x) → Q (-1)) : P_X4_moveAround x (nI n) Q := by
  unfold P_X4_moveAround
  have hsw : ∀ p, p < n → vis (bt x) p = true → swm n (bt x) p = !bt x p := fun p hp hv => by unfold swm; simp [hp, hv]
  refine ⟨fun k x2 x3 => ∃ p, p ≤ n ∧ k = n - p ∧ vis (bt x) p = true ∧ (∀ q, q < p → swm n (bt x) q = true → q + 1 < n ∧ bt x (q + 1) = false) ∧ x2 = nI (pak (mvf (swm n (bt x))) p) ∧ x3 = nI p, ⟨n, 0, Nat.zero_le _, rfl, rfl, fun q hq => absurd hq (Nat.not_lt_zero q), rfl, rfl⟩, ?_⟩
  rintro k x2 x3 ⟨p, hp, rfl, hv, hg, rfl, rfl⟩
  refine ⟨fun hc => ?_, fun hc => ?_⟩
  · have : n ≤ p := (nI_leI (by omega) (by omega)).mp hc
    have e : p = n := by omega
    subst e
    refine hq (fun q hqs => hg q ?_ hqs)
    unfold swm at hqs
    simp at hqs
    exact hqs.1
  · have hlt := nI_gtI (by omega) (by omega) hc
    rw [tb1n (by omega), tb1 (by omega)]
    refine ⟨fun hb v ev => ?_, fun hb => ?_⟩
    · have hs : swm n (bt x) p = false := by rw [hsw p hlt hv, hb]; rfl
      refine ⟨n - (p + 1), by omega, p + 1, by omega, rfl, ?_, ?_, ?_, by rw [ev]; exact nI_1 p⟩
      · show (!vis (bt x) p || bt x p) = true
        rw [hb]; simp
      · intro q hq1 hqs
        by_cases c : q = p
        · subst c; rw [hs] at hqs; cases hqs
        · exact hg q (by omega) hqs
      · show nI (pak (mvf (swm n (bt x))) p) = nI (pak (mvf (swm n (bt x))) p + mvf (swm n (bt x)) p * 16 ^ p)
        rw [show mvf (swm n (bt x)) p = 0 by unfold mvf; rw [hs]; rfl, Nat.zero_mul, Nat.add_zero]
    · have hs : swm n (bt x) p = true := by rw [hsw p hlt hv, hb]; rfl
      rw [show nI p + 1 = nI (p + 1) from nI_1 p, nI_eq (by omega) (by omega)]
      refine ⟨fun e => hq2 (fun h => ?_), fun e => ?_⟩
      · have := (h p hs).1; omega
      · have hp1 : p + 1 < n := by omega
        rw [tb1n (by omega), tb1 (by omega)]
        refine ⟨fun hb1 v ev w ew u eu => ?_, fun hb1 => hq2 (fun h => ?_)⟩
        · have hs1 : swm n (bt x) (p + 1) = false := by
            unfold swm
            simp [vis, hv, hb]
          refine ⟨n - (p + 2), by omega, p + 2, by omega, rfl, ?_, ?_, ?_, by rw [eu, ew]; exact nI_1 (p + 1)⟩
          · show (!(!vis (bt x) p || bt x p) || bt x (p + 1)) = true
            rw [hv, hb]; rfl
          · intro q hq1 hqs
            by_cases c : q = p
            · subst c; exact ⟨hp1, hb1⟩
            · by_cases c2 : q = p + 1
              · subst c2; rw [hs1] at hqs; cases hqs
              · exact hg q (by omega) hqs
          · rw [ev, mv_step (by omega)]
            show _ = nI (pak (mvf (swm n (bt x))) p + mvf (swm n (bt x)) p * 16 ^ p + mvf (swm n (bt x)) (p + 1) * 16 ^ (p + 1))
            rw [show mvf (swm n (bt x)) p = 15 by unfold mvf; rw [hs]; rfl, show mvf (swm n (bt x)) (p + 1) = 0 by unfold mvf; rw [hs1]; rfl, Nat.zero_mul, Nat.add_zero]
        · have := (h p hs).2
          rw [hb1] at this
          cases this
/-- the number of the places that stay -/
def plN (st : Nat → Bool) : Nat → Nat
  | 0 => 0
  | p + 1 => if st p then 10 * plN st p + p + 1 else plN st p
theorem mv_nib {n : Nat} {sw : Nat → Bool} (hn : n ≤ 8) {p : Nat} (hp : p < n) : (nI (pak (mvf sw) n) &&& (shl 15 (4 * nI p))) = 0 ↔ sw p = false := by
  have h15 : ∀ p, p < 8 → ∀ j, j < 32 → bt (shl 15 (4 * nI p)) j = decide (j / 4 = p) := by decide +kernel
  refine ⟨fun e => ?_, fun e => b_ext (fun k hk => ?_)⟩
  · have h1 : bt (nI (pak (mvf sw) n) &&& (shl 15 (4 * nI p))) (4 * p + 0) = bt 0 (4 * p + 0) := by rw [e]
    rw [b_and, bt_pak (fun q _ => mvf_lt sw q) (by omega) (by decide), h15 p (by omega) _ (by omega), b_0, mvf_bit (by decide), decide_eq_true hp, decide_eq_true (by omega)] at h1
    simpa using h1
  · obtain ⟨q, i, hi, rfl⟩ : ∃ q i, i < 4 ∧ k = 4 * q + i := ⟨k / 4, k % 4, by omega, by omega⟩
    rw [b_and, bt_pak (fun q _ => mvf_lt sw q) (by omega) hi, h15 p (by omega) _ hk, b_0, mvf_bit hi]
    by_cases c : q = p
    · subst c; rw [e]; simp
    · rw [decide_eq_false (by omega : ¬ (4 * q + i) / 4 = p)]; simp
theorem plN_lt (st : Nat → Bool) : ∀ p, p ≤ 8 → plN st p < 10 ^ p
  | 0, _ => by show 0 < 1; decide
  | p + 1, h => by
    have ih := plN_lt st p (by omega)
    show (if st p then 10 * plN st p + p + 1 else plN st p) < 10 ^ (p + 1)
    rw [Nat.pow_succ]
    split <;> omega
theorem sp_placesOf {n : Nat} {sw : Nat → Bool} {Q : Int32 → Prop} (hn : n ≤ 8) (h : Sw n sw) (hq : Q (nI (plN (stf sw) n))) : P_X4_placesOf (nI (pak (mvf sw) n)) (nI n) Q := by
  unfold P_X4_placesOf
  refine ⟨fun k x2 x3 => ∃ p, p ≤ n ∧ k = n - p ∧ (p ≠ 0 → sw (p - 1) = false) ∧ x2 = nI (plN (stf sw) p) ∧ x3 = nI p, ⟨n, 0, Nat.zero_le _, rfl, fun c => absurd rfl c, rfl, rfl⟩, ?_⟩
  rintro k x2 x3 ⟨p, hp, rfl, hb, rfl, rfl⟩
  refine ⟨fun hc => ?_, fun hc => ?_⟩
  · have : n ≤ p := (nI_leI (by omega) (by omega)).mp hc
    have e : p = n := by omega
    subst e
    exact hq
  · have hlt := nI_gtI (by omega) (by omega) hc
    rw [mv_nib hn hlt]
    refine ⟨fun hs v ev w ew => ?_, fun hs v ev w ew => ?_⟩
    · have hs : sw p = true := by cases h1 : sw p <;> simp_all
      obtain ⟨h1, h2⟩ := h p hs
      refine ⟨n - (p + 2), by omega, p + 2, by omega, rfl, fun _ => h2, ?_, by rw [ew, ev]; rw [show nI p + 1 = nI (p + 1) from nI_1 p]; exact nI_1 (p + 1)⟩
      show _ = nI (if stf sw (p + 1) then 10 * (if stf sw p then 10 * plN (stf sw) p + p + 1 else plN (stf sw) p) + (p + 1) + 1 else (if stf sw p then 10 * plN (stf sw) p + p + 1 else plN (stf sw) p))
      have e1 : stf sw p = false := by unfold stf; simp [hs]
      have e2 : stf sw (p + 1) = false := by unfold stf; simp [hs]
      rw [e1, e2]
      rfl
    · have e1 : stf sw p = true := by
        unfold stf
        by_cases c : p = 0
        · subst c; simp [hs]
        · simp [hs, hb c]
      refine ⟨n - (p + 1), by omega, p + 1, by omega, rfl, fun _ => hs, ?_, by rw [ew]; exact nI_1 p⟩
      rw [ev, show (10 : Int32) = nI 10 from rfl, mulN, nI_add, nI_1]
      show _ = nI (if stf sw p then 10 * plN (stf sw) p + p + 1 else plN (stf sw) p)
      rw [e1, if_pos rfl, Nat.mul_comm]
/-! Places told by the digits of a number. -/
def plc (n : Nat) : Nat → Nat → Nat → Int32 → Option Int32
  | 0, _, _, _ => none
  | k + 1, v, b, s => if v = 0 then some s else if v % 10 < 1 ∨ b ≤ v % 10 then none else plc n k (v / 10) (v % 10) (s ||| shl 1 (nI (v % 10 - 1)))
/-- the change of a number of places, by its places that stay -/
def plv (n v : Nat) : Option Int32 := plc n 11 v (n + 1) 0
theorem sp_moveOf {n v : Nat} {Q : Int32 → Prop} (hn : n ≤ 8) (hv : v < 2 ^ 31) (hq : ∀ s, plv n v = some s → okm n (bt s) → Q (nI (pak (mvf (swm n (bt s))) n))) (hq2 : (∀ s, plv n v = some s → ¬ okm n (bt s)) → Q (-1)) : P_X4_moveOf (nI v) (nI n) Q := by
  unfold P_X4_moveOf
  refine ⟨fun _ v2 e2 => ?_, fun h => absurd (nI_pos' hv) h⟩
  subst e2
  refine ⟨fun k x2 x3 x4 => ∃ b w, w < 10 ^ k ∧ w < 2 ^ 31 ∧ b ≤ 9 ∧ plv n v = plc n (k + 1) w b x2 ∧ x3 = nI b ∧ x4 = nI w, ⟨10, n + 1, v, by omega, hv, by omega, rfl, nI_1 n, rfl⟩, ?_⟩
  rintro k x2 x3 x4 ⟨b, w, hw, hw31, hb, he, rfl, rfl⟩
  refine ⟨fun hc => ?_, fun hc => ?_⟩
  · have : w ≤ 0 := (nI_leI (b := 0) hw31 (by decide)).mp hc
    have e : w = 0 := by omega
    subst e
    have he' : plv n v = some x2 := he
    refine sp_moveAround hn (fun h => hq x2 he' h) (fun h => hq2 (fun s hs => ?_))
    rw [he'] at hs
    injection hs with hs
    subst hs
    exact h
  · intro v9 e9
    have hw0 : 0 < w := by
      rcases Nat.eq_zero_or_pos w with h | h
      · subst h; exact absurd (nI_le (Nat.le_refl 0) (by decide)) hc
      · exact h
    have e9' : v9 = nI (w % 10) := by rw [e9]; exact irmN hw31 (by decide) (by decide)
    subst e9'
    have hm : w % 10 < 10 := Nat.mod_lt _ (by decide)
    obtain ⟨k', rfl⟩ : ∃ k', k = k' + 1 := ⟨k - 1, by
      rcases Nat.eq_zero_or_pos k with h | h
      · subst h
        have : w < 1 := hw
        omega
      · omega⟩
    have he2 : plv n v = if w % 10 < 1 ∨ b ≤ w % 10 then none else plc n (k' + 1) (w / 10) (w % 10) (x2 ||| shl 1 (nI (w % 10 - 1))) := by
      rw [he]
      show (if w = 0 then _ else _) = _
      rw [if_neg (by omega)]
    rw [show (1 : Int32) = nI 1 from rfl, nI_ltI (by omega) (by decide), nI_ltI (by omega) (by omega)]
    refine ⟨fun h1 => hq2 (fun s hs => ?_), fun h1 => ⟨fun h2 u eu t et => ?_, fun h2 => hq2 (fun s hs => ?_)⟩⟩
    · rw [he2, if_pos (Or.inl h1)] at hs
      cases hs
    · rw [if_neg (by omega)] at he2
      refine ⟨k', by omega, w % 10, w / 10, ?_, by omega, by omega, ?_, rfl, ?_⟩
      · rw [Nat.pow_succ] at hw
        omega
      · rw [he2, eu, le_sub1 (by omega)]
        rfl
      · rw [et]
        exact pk_div hw31 (by decide) (by decide)
    · rw [he2, if_pos (Or.inr (by omega))] at hs
      cases hs
/-! Two rows, and the change between them. -/
theorem sp_moveBetween {n : Nat} {f g : Nat → Nat} {Q : Int32 → Prop} (hn : n ≤ 8) (hf : Pm n f) (hg : Pm n g)
    (hq : okm n (fun p => decide (p < n) && decide (f p = g p)) → (∀ p, p < n → chd (swm n (fun p => decide (p < n) && decide (f p = g p))) f p = g p) → Q (nI (pak (mvf (swm n (fun p => decide (p < n) && decide (f p = g p)))) n)))
    (hq2 : ¬ (okm n (fun p => decide (p < n) && decide (f p = g p)) ∧ ∀ p, p < n → chd (swm n (fun p => decide (p < n) && decide (f p = g p))) f p = g p) → Q (-1)) : P_X4_moveBetween (nI (pak f n)) (nI (pak g n)) (nI n) Q := by
  unfold P_X4_moveBetween
  refine ⟨fun k x2 x3 => ∃ p, p ≤ n ∧ k = n - p ∧ x2 = msk (fun p => decide (f p = g p)) p ∧ x3 = nI p, ⟨n, 0, Nat.zero_le _, rfl, rfl, rfl⟩, ?_⟩
  rintro k x2 x3 ⟨p, hp, rfl, rfl, rfl⟩
  refine ⟨fun hc => ?_, fun hc => ?_⟩
  · have : n ≤ p := (nI_leI (by omega) (by omega)).mp hc
    have e : p = n := by omega
    subst e
    have eb : ∀ q, q < p → bt (msk (fun p => decide (f p = g p)) p) q = (decide (q < p) && decide (f q = g q)) := fun q hq => msk_bt _ _ (by omega)
    have es : ∀ q, swm p (bt (msk (fun p => decide (f p = g p)) p)) q = swm p (fun q => decide (q < p) && decide (f q = g q)) q := swm_cong eb
    have es2 : swm p (bt (msk (fun p => decide (f p = g p)) p)) = swm p (fun q => decide (q < p) && decide (f q = g q)) := funext es
    have eo : okm p (bt (msk (fun p => decide (f p = g p)) p)) ↔ okm p (fun q => decide (q < p) && decide (f q = g q)) := by
      unfold okm
      rw [es2]
      refine ⟨fun h q hq => ⟨(h q hq).1, ?_⟩, fun h q hq => ⟨(h q hq).1, ?_⟩⟩
      · have := h q hq
        show (decide (q + 1 < p) && decide (f (q + 1) = g (q + 1))) = false
        rw [← eb (q + 1) this.1]
        exact this.2
      · have := h q hq
        rw [eb (q + 1) this.1]
        exact this.2
    refine sp_moveAround hn (fun ho => ?_) (fun ho => ?_)
    · rw [es2]
      have ho2 := eo.mp ho
      have hsw := okm_sw ho2
      refine ⟨fun e => absurd e ?_, fun _ => ?_⟩
      · rw [show (-1 : Int32) = nI 4294967295 from rfl]
        intro e
        have h1 : bt (nI (pak (mvf (swm p (fun q => decide (q < p) && decide (f q = g q)))) p)) (4 * (p - 1) + 0) = bt (-1) (4 * (p - 1) + 0) := by rw [e]; rfl
        rcases Nat.eq_zero_or_pos p with h0 | h0
        · subst h0
          have h2 : bt (nI (pak (mvf (swm 0 (fun q => decide (q < 0) && decide (f q = g q)))) 0)) 0 = bt (-1) 0 := by rw [e]; rfl
          rw [b_m1 0 (by decide)] at h2
          exact absurd ((b_0 0).symm.trans h2) (by decide)
        · rw [bt_pak (fun q _ => mvf_lt _ q) (by omega) (by decide), mvf_bit (by decide), b_m1 _ (by omega)] at h1
          have h3 : swm p (fun q => decide (q < p) && decide (f q = g q)) (p - 1) = true := (by simpa using h1 : p - 1 < p ∧ _).2
          have := (hsw _ h3).1
          omega
      · refine sp_moved hn hsw (pm8 hn hf) ?_
        rw [pak_eq hn (chd_lt hsw (pm8 hn hf)) (pm8 hn hg)]
        exact ⟨fun hne => hq2 (fun hh => hne hh.2), fun he => hq ho2 he⟩
    · exact ⟨fun _ => hq2 (fun hh => ho (eo.mpr hh.1)), fun c => absurd rfl c⟩
  · have hlt := nI_gtI (by omega) (by omega) hc
    refine sp_bellAt hn (pm8 hn hf) hlt ?_
    refine sp_bellAt hn (pm8 hn hg) hlt ?_
    have h1 := hf.1 p hlt
    have h2 := hg.1 p hlt
    rw [nI_eq (by omega) (by omega)]
    refine ⟨fun hne v ev => ⟨n - (p + 1), by omega, p + 1, by omega, rfl, ?_, by rw [ev]; exact nI_1 p⟩, fun he v ev w ew => ⟨n - (p + 1), by omega, p + 1, by omega, rfl, ?_, by rw [ew]; exact nI_1 p⟩⟩
    · rw [msk_no _ (decide_eq_false hne)]
    · rw [ev, msk_in _ (by omega) (decide_eq_true he)]
/-! Cycles. -/
def wk (f : Nat → Nat) : Nat → (Nat → Bool) → Nat → Nat → (Nat → Bool) × Nat
  | 0, met, _, g => (met, g)
  | k + 1, met, a, g => if met a then (met, g) else wk f k (fun q => met q || decide (q = a)) (f a) (g + 1)
def cyP (f : Nat → Nat) (n len : Nat) : Nat → (Nat → Bool) × Nat
  | 0 => (fun _ => false, 0)
  | p + 1 => let w := wk f n (cyP f n len p).1 p 0
    (w.1, (cyP f n len p).2 + (if w.2 = len then 1 else 0))
theorem msk_or {met : Nat → Bool} {n a : Nat} (hn : n ≤ 8) (ha : a < n) : msk met n ||| shl 1 (nI a) = msk (fun q => met q || decide (q = a)) n := by
  apply msk_ext
  intro j hj
  rw [tb3 (by omega) hj, msk_bt met n hj]
  by_cases c : j = a
  · subst c; simp [ha]
  · simp [c]
theorem sp_cyclesOf {n len : Nat} {f : Nat → Nat} {Q : Int32 → Prop} (hn : n ≤ 8) (hl : len ≤ 8) (h : Pm n f) (hq : Q (nI (cyP f n len n).2)) : P_X4_cyclesOf (nI (pak f n)) (nI len) (nI n) Q := by
  unfold P_X4_cyclesOf
  refine ⟨fun k x3 x4 x5 => ∃ p, p ≤ n ∧ k = n - p ∧ x3 = msk (cyP f n len p).1 n ∧ x4 = nI (cyP f n len p).2 ∧ x5 = nI p, ⟨n, 0, Nat.zero_le _, rfl, ?_, rfl, rfl⟩, ?_⟩
  · refine b_ext (fun j hj => ?_)
    rw [b_0, msk_bt _ _ hj]
    simp [cyP]
  rintro k x3 x4 x5 ⟨p, hp, rfl, rfl, rfl, rfl⟩
  refine ⟨fun hc => ?_, fun hc => ?_⟩
  · have : n ≤ p := (nI_leI (by omega) (by omega)).mp hc
    have e : p = n := by omega
    subst e
    exact hq
  · have hlt := nI_gtI (by omega) (by omega) hc
    refine ⟨fun k x3 x6 x7 => ∃ met g a, g ≤ n ∧ a < n ∧ k = n - g ∧ wk f n (cyP f n len p).1 p 0 = wk f (n - g) met a g ∧ x3 = msk met n ∧ x6 = nI g ∧ x7 = nI a, ⟨n, _, 0, p, by omega, hlt, rfl, rfl, rfl, rfl, rfl⟩, ?_⟩
    rintro k2 y3 y6 y7 ⟨met, g, a, hg, ha, rfl, hw, rfl, rfl, rfl⟩
    refine ⟨wk f n (cyP f n len p).1 p 0 = (met, g), fun hj => ?_, ?_⟩
    · have e1 : (cyP f n len (p + 1)).1 = met := by
        show (wk f n (cyP f n len p).1 p 0).1 = met
        rw [hj]
      have e2 : (cyP f n len (p + 1)).2 = (cyP f n len p).2 + (if g = len then 1 else 0) := by
        show (cyP f n len p).2 + (if (wk f n (cyP f n len p).1 p 0).2 = len then 1 else 0) = _
        rw [hj]
      rw [nI_eq (by omega) (by omega)]
      refine ⟨fun hne v ev => ⟨n - (p + 1), by omega, p + 1, by omega, rfl, by rw [e1], ?_, by rw [ev]; exact nI_1 p⟩, fun he v ev u eu => ⟨n - (p + 1), by omega, p + 1, by omega, rfl, by rw [e1], ?_, by rw [eu]; exact nI_1 p⟩⟩
      · rw [e2, if_neg hne, Nat.add_zero]
      · rw [e2, if_pos he, ev]; exact nI_1 _
    · refine ⟨fun hc2 => ?_, fun hc2 => ?_⟩
      · have : n ≤ g := (nI_leI (by omega) (by omega)).mp hc2
        rw [hw, show n - g = 0 by omega]
        rfl
      · have hlt2 := nI_gtI (by omega) (by omega) hc2
        obtain ⟨m, hm⟩ : ∃ m, n - g = m + 1 := ⟨n - g - 1, by omega⟩
        rw [tb1n (by omega), tb1 (by omega), msk_bt _ _ (by omega), decide_eq_true ha, Bool.true_and]
        refine ⟨fun hb => ?_, fun hb v ev => ?_⟩
        · rw [hw, hm]
          show (if met a then (met, g) else _) = (met, g)
          rw [if_pos hb]
        · refine sp_bellAt hn (pm8 hn h) ha ?_
          intro v2 ev2
          refine ⟨n - (g + 1), by omega, (fun q => met q || decide (q = a)), g + 1, f a, by omega, h.1 a ha, rfl, ?_, by rw [ev, msk_or hn ha], by rw [ev2]; exact nI_1 g, rfl⟩
          rw [hw, hm, show n - (g + 1) = m by omega]
          show (if met a then (met, g) else _) = _
          rw [hb, if_neg (by decide)]
