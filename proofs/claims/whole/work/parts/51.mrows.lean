/-! The reference's products, inverses, changes. -/
theorem rw_on {F F' : Nat → Nat → Int32} {a b n : Nat} {f : Nat → Nat} (h : Rw F b n f) (hon : On a F F') (hb : b ≠ a) : Rw F' b n f := fun p hp => by rw [hon b hb]; exact h p hp
theorem num_cong {n : Nat} {f g : Nat → Nat} (h : ∀ p, p < n → f p = g p) : num n f = num n g := by
  have hd : ∀ p, p < n → dg f p = dg g p := fun p hp => by
    unfold dg cnt
    rw [h p hp, fb_ct_cong (p := fun q => decide (f q < g p)) (q := fun q => decide (g q < g p)) (fun q hq => by rw [h q (by omega)])]
  have key : ∀ p, p ≤ n → numP n f p = numP n g p := by
    intro p
    induction p with
    | zero => intro _; rfl
    | succ p ih => intro hp; show numP n f p * (n - p) + dg f p = numP n g p * (n - p) + dg g p; rw [ih (by omega), hd p (by omega)]
  exact key n (Nat.le_refl n)
theorem num_id (n : Nat) : num n (fun p => p) = 0 := by
  have hd : ∀ p, dg (fun p => p) p = 0 := fun p => by
    show p - cnt (fun p => p) p p = 0
    have : cnt (fun p => p) p p = p := fb_ct_all.mpr (fun k hk => decide_eq_true hk)
    omega
  have key : ∀ p, numP n (fun p => p) p = 0 := by
    intro p
    induction p with
    | zero => rfl
    | succ p ih => show numP n (fun p => p) p * (n - p) + dg (fun p => p) p = 0; rw [ih, hd, Nat.zero_mul]
  exact key n
theorem num_inj {n : Nat} {f g : Nat → Nat} (hn : n ≤ 8) (hf : Pm n f) (hg : Pm n g) (e : num n f = num n g) : ∀ p, p < n → f p = g p := fun p hp => by rw [← lay_num hn hf p hp, e, lay_num hn hg p hp]
theorem num_0 {n : Nat} {f : Nat → Nat} (hn : n ≤ 8) (hf : Pm n f) : num n f = 0 ↔ idn n f := ⟨fun e => num_inj hn hf (pm_id n) (by rw [e, num_id]), fun h => by rw [num_cong (g := fun p => p) h, num_id]⟩
theorem pm_cong {n : Nat} {f g : Nat → Nat} (h : ∀ p, p < n → f p = g p) (hf : Pm n f) : Pm n g := ⟨fun p hp => by rw [← h p hp]; exact hf.1 p hp, fun p q hpq hq => by rw [← h p (by omega), ← h q hq]; exact hf.2 p q hpq hq⟩
theorem lay_0 {n : Nat} (hn : n ≤ 8) : idn n (lay n 0) := fun p hp => by
  have := lay_num hn (pm_id n) p hp
  rw [num_id] at this
  exact this
theorem sm_productOf' {S : St} {m n a b : Nat} {am : Nat → Nat} {Q : Int32 → (Nat → Nat → Int32) → Prop} (hL : LM S m am) (hn : n ≤ 8) (hn1 : 1 ≤ n) (h0 : gI S (am 0) 0 = nI n) (ha : a < fac n) (hb : b < fac n)
    (hq : ∀ F', Kp tR m am (gI S) F' → Q (nI (num n (fun p => lay n a (lay n b p)))) F') : P_X12_productOf m (nI a) (nI b) S Q := by
  have hpa := lay_pm hn ha
  have hpb := lay_pm hn hb
  unfold P_X12_productOf
  refine ⟨hL.z, am 23, hL.r 23, sm_laysRow hL hn hn1 h0 ha (hL.k 23) (hL.l 23) ?_⟩
  intro F2 o2 r2
  have hL2 : LM (wI S F2) m am := hL
  refine ⟨am 24, hL.r 24, sm_laysRow hL2 hn hn1 (by show F2 (am 0) 0 = nI n; rw [o2 _ (hL.n (by decide))]; exact h0) hb (hL.k 24) (hL.l 24) ?_⟩
  intro F4 o4 r4
  have r4a : Rw F4 (am 23) n (lay n a) := rw_on r2 o4 (hL.n (by decide))
  have k4 : Kp tR m am (gI S) F4 := (Kp.on hL 23 o2).tr (Kp.on hL 24 o4)
  refine ⟨fun j x3 F => ∃ p, p ≤ n ∧ j = n - p ∧ x3 = nI p ∧ On (am 25) F4 F ∧ Rw F (am 25) p (fun p => lay n a (lay n b p)), ⟨n, 0, Nat.zero_le _, rfl, rfl, On.rf, fun q hq => absurd hq (Nat.not_lt_zero q)⟩, ?_⟩
  rintro j x3 F ⟨p, hp, rfl, rfl, hon, hrw⟩
  have k5 : Kp tR m am (gI S) F := k4.tr (Kp.on hL 25 hon)
  have hF0 : F (am 0) 0 = nI n := by rw [k5.ar hL 0]; exact h0
  refine ⟨am 0, hL.r 0, hL.k 0, hL.i 0 (p := 0) (by decide), ?_⟩
  rw [hF0]
  refine ⟨fun hc => ?_, fun hc => ?_⟩
  · have : n ≤ p := (nI_leI (by omega) (by omega)).mp hc
    have e : p = n := by omega
    subst e
    have hL5 : LM (wI S F) m am := hL
    exact ⟨am 25, hL.r 25, sm_numberOf hL5 hn hF0 (comp_pm hpa hpb) (hL.k 25) (hL.l 25) hrw (hq F k5)⟩
  · have hlt := nI_gtI (by omega) (by omega) hc
    have hbp := hpb.1 p hlt
    have eo : F (am 24) p = nI (lay n b p) := by rw [hon _ (hL.n (by decide))]; exact r4 p hlt
    refine ⟨am 25, hL.r 25, hL.k 24, hL.i 24 (by show p < 8; omega), hL.k 23, ?_, hL.k 25, hL.i 25 (by show p < 8; omega), ?_⟩
    · rw [nI_clamp (by omega), eo]
      exact hL.i 23 (by show _ < 8; omega)
    · intro v21 e21 F22 e22 v23 e23
      rw [nI_clamp (by omega)] at e21 e22
      rw [eo, nI_clamp (by omega)] at e21
      have e21' : v21 = nI (lay n a (lay n b p)) := by rw [e21, hon _ (hL.n (by decide))]; exact r4a _ hbp
      refine ⟨n - (p + 1), by omega, p + 1, by omega, rfl, by rw [e23]; exact nI_1 p, ?_, ?_⟩
      · rw [e22]; exact hon.tr On.up
      · intro q hq'
        rw [e22]
        by_cases c : q = p
        · subst c; rw [up_at]; exact e21'
        · rw [up_no c]; exact hrw q (by omega)
theorem sm_productOf {S : St} {m n a b : Nat} {am : Nat → Nat} {Q : Int32 → (Nat → Nat → Int32) → Prop} (hL : LM S m am) (hn : n ≤ 8) (hn1 : 1 ≤ n) (h0 : gI S (am 0) 0 = nI n) (ha : a < fac n) (hb : b < fac n)
    (hq : ∀ F', Kp tQ m am (gI S) F' → Q (nI (num n (fun p => lay n a (lay n b p)))) F') : P_X12_productOf m (nI a) (nI b) S Q := sm_productOf' hL hn hn1 h0 ha hb (fun F' k => hq F' (k.mono tR_tQ))
/-- what an array holds of an inverse, after p places -/
theorem sm_inverseOf' {S : St} {m n a : Nat} {am : Nat → Nat} {Q : Int32 → (Nat → Nat → Int32) → Prop} (hL : LM S m am) (hn : n ≤ 8) (hn1 : 1 ≤ n) (h0 : gI S (am 0) 0 = nI n) (ha : a < fac n)
    (hq : ∀ F', Kp tR m am (gI S) F' → Rw F' (am 25) n (inv n (lay n a)) → Q (nI (num n (inv n (lay n a)))) F') : P_X12_inverseOf m (nI a) S Q := by
  have hpa := lay_pm hn ha
  unfold P_X12_inverseOf
  refine ⟨hL.z, am 23, hL.r 23, sm_laysRow hL hn hn1 h0 ha (hL.k 23) (hL.l 23) ?_⟩
  intro F2 o2 r2
  have k2 : Kp tR m am (gI S) F2 := Kp.on hL 23 o2
  refine ⟨fun j x3 F => ∃ p, p ≤ n ∧ j = n - p ∧ x3 = nI p ∧ On (am 25) F2 F ∧ ∀ q, q < p → F (am 25) (lay n a q) = nI q, ⟨n, 0, Nat.zero_le _, rfl, rfl, On.rf, fun q hq => absurd hq (Nat.not_lt_zero q)⟩, ?_⟩
  rintro j x3 F ⟨p, hp, rfl, rfl, hon, hrw⟩
  have k5 : Kp tR m am (gI S) F := k2.tr (Kp.on hL 25 hon)
  have hF0 : F (am 0) 0 = nI n := by rw [k5.ar hL 0]; exact h0
  refine ⟨am 0, hL.r 0, hL.k 0, hL.i 0 (p := 0) (by decide), ?_⟩
  rw [hF0]
  refine ⟨fun hc => ?_, fun hc => ?_⟩
  · have : n ≤ p := (nI_leI (by omega) (by omega)).mp hc
    have e : p = n := by omega
    subst e
    have hL5 : LM (wI S F) m am := hL
    have hr : Rw F (am 25) p (inv p (lay p a)) := fun b hb => by
      obtain ⟨h1, h2⟩ := inv_lt hpa hb
      have := hrw _ h1
      rw [h2] at this
      exact this
    exact ⟨am 25, hL.r 25, sm_numberOf hL5 hn hF0 (inv_pm hpa) (hL.k 25) (hL.l 25) hr (hq F k5 hr)⟩
  · have hlt := nI_gtI (by omega) (by omega) hc
    have hbp := hpa.1 p hlt
    have eo : F (am 23) p = nI (lay n a p) := by rw [hon _ (hL.n (by decide))]; exact r2 p hlt
    refine ⟨am 25, hL.r 25, hL.k 23, hL.i 23 (by show p < 8; omega), hL.k 25, ?_, ?_⟩
    · rw [nI_clamp (by omega), eo]
      exact hL.i 25 (by show _ < 8; omega)
    · intro F17 e17 v18 e18
      rw [nI_clamp (by omega), eo, nI_clamp (by omega)] at e17
      refine ⟨n - (p + 1), by omega, p + 1, by omega, rfl, by rw [e18]; exact nI_1 p, ?_, ?_⟩
      · rw [e17]; exact hon.tr On.up
      · intro q hq'
        rw [e17]
        by_cases c : q = p
        · subst c; exact up_at
        · rw [up_no (hpa.2 q p (by omega) hlt)]; exact hrw q (by omega)
theorem sm_inverseOf {S : St} {m n a : Nat} {am : Nat → Nat} {Q : Int32 → (Nat → Nat → Int32) → Prop} (hL : LM S m am) (hn : n ≤ 8) (hn1 : 1 ≤ n) (h0 : gI S (am 0) 0 = nI n) (ha : a < fac n)
    (hq : ∀ F', Kp tQ m am (gI S) F' → Rw F' (am 25) n (inv n (lay n a)) → Q (nI (num n (inv n (lay n a)))) F') : P_X12_inverseOf m (nI a) S Q := sm_inverseOf' hL hn hn1 h0 ha (fun F' k r => hq F' (k.mono tR_tQ) r)
/-! Changes done to the row at work. -/
def ear (sw : Nat → Bool) : Nat → Bool
  | 0 => false
  | p + 1 => ear sw p || sw p
/-- a change whose first pair is forgotten, if l says so -/
def swl (l : Bool) (sw : Nat → Bool) (p : Nat) : Bool := sw p && (!l || ear sw p)
theorem swl_sw {n : Nat} {sw : Nat → Bool} (l : Bool) (h : Sw n sw) : Sw n (swl l sw) := fun p hp => by
  unfold swl at hp
  simp at hp
  obtain ⟨h1, h2⟩ := h p hp.1
  refine ⟨h1, ?_⟩
  unfold swl
  rw [h2]
  rfl
theorem swl_f {sw : Nat → Bool} : swl false sw = sw := funext fun p => by unfold swl; simp
theorem sm_changes0 {S : St} {m n : Nat} {am : Nat → Nat} {x : Int32} {l : Bool} {sw : Nat → Bool} {f : Nat → Nat} {Q : (Nat → Nat → Int32) → Prop} (hL : LM S m am) (hn : n ≤ 8) (h0 : gI S (am 0) 0 = nI n) (hs : Sw n sw)
    (hx : ∀ p, p < n → bt x p = stf sw p) (hr : Rw (gI S) (am 23) n f)
    (hq : ∀ F', On (am 23) (gI S) F' → Rw F' (am 23) n (chd (swl l sw) f) → Q F') : P_X12_changes0 m x (if l then 1 else 0) S Q := by
  unfold P_X12_changes0
  refine ⟨hL.z, ?_⟩
  refine ⟨fun j x3 x4 F => ∃ p, p ≤ n ∧ j = n - p ∧ (p ≠ 0 → sw (p - 1) = false) ∧ x3 = (if l && !ear sw p then 1 else 0) ∧ x4 = nI p ∧ On (am 23) (gI S) F ∧ (∀ q, q < p → F (am 23) q = nI (chd (swl l sw) f q)) ∧ ∀ q, p ≤ q → q < n → F (am 23) q = nI (f q), ⟨n, 0, Nat.zero_le _, rfl, fun c => absurd rfl c, by simp [ear], rfl, On.rf, fun q hq => absurd hq (Nat.not_lt_zero q), fun q _ hq => hr q hq⟩, ?_⟩
  rintro j x3 x4 F ⟨p, hp, rfl, hbd, rfl, rfl, hon, hd, hu⟩
  have hF0 : F (am 0) 0 = nI n := by rw [hon _ (hL.n (by decide))]; exact h0
  refine ⟨am 0, hL.r 0, hL.k 0, hL.i 0 (p := 0) (by decide), ?_⟩
  rw [hF0]
  refine ⟨fun hc => ?_, fun hc => ?_⟩
  · have : n ≤ p := (nI_leI (by omega) (by omega)).mp hc
    have e : p = n := by omega
    subst e
    exact hq F hon hd
  · have hlt := nI_gtI (by omega) (by omega) hc
    have hprev : ∀ l2, p ≠ 0 → swl l2 sw (p - 1) = false := fun l2 c => by unfold swl; rw [hbd c]; rfl
    rw [tb2 (by omega), hx p hlt]
    have hst : stf sw p = !sw p := by
      unfold stf
      by_cases c : p = 0
      · subst c; simp
      · simp [hbd c]
    rw [hst]
    refine ⟨fun hsp => ?_, fun hsp v ev => ?_⟩
    · have hsp : sw p = true := by cases h : sw p <;> simp_all
      obtain ⟨h1, h2⟩ := hs p hsp
      have e2 : ear sw (p + 2) = true := by show ((ear sw p || sw p) || sw (p + 1)) = true; rw [hsp]; simp
      have hs1 : swl l sw (p + 1) = false := by unfold swl; rw [h2]; rfl
      have c1 : nI p + 2 = nI (p + 2) := nI_add p 2
      refine ⟨fun hleft v ev => ?_, fun hleft => ?_⟩
      · have hl : (l && !ear sw p) = true := by cases h : (l && !ear sw p) <;> simp_all
        have hs0 : swl l sw p = false := by
          unfold swl
          cases hl1 : l <;> cases he : ear sw p <;> simp_all
        refine ⟨n - (p + 2), by omega, p + 2, by omega, rfl, fun _ => h2, by rw [e2]; simp, by rw [ev]; exact c1, hon, ?_, fun q hq1 hq2 => hu q (by omega) hq2⟩
        intro q hq'
        by_cases ca : q = p
        · subst ca
          rw [hu q (Nat.le_refl q) hlt]
          unfold chd
          rw [hs0, if_neg (by decide), if_neg (by rintro ⟨c, d⟩; rw [hprev l c] at d; cases d)]
        · by_cases cb : q = p + 1
          · subst cb
            rw [hu (p + 1) (by omega) h1]
            unfold chd
            rw [hs1, if_neg (by decide), if_neg (by rintro ⟨c, d⟩; rw [Nat.add_sub_cancel, hs0] at d; cases d)]
          · exact hd q (by omega)
      · have hl : (l && !ear sw p) = false := by cases h : (l && !ear sw p) <;> simp_all
        have hs0 : swl l sw p = true := by
          unfold swl
          cases hl1 : l <;> cases he : ear sw p <;> simp_all
        refine ⟨am 23, hL.r 23, hL.k 23, hL.i 23 (by show p < 8; omega), ?_⟩
        intro v15 e15
        have c2 : nI p + 1 = nI (p + 1) := nI_1 p
        rw [c2]
        refine ⟨hL.i 23 (by show p + 1 < 8; omega), ?_⟩
        intro v17 e17 F18 e18 F19 e19 v20 e20
        rw [nI_clamp (by omega)] at e15 e17 e18 e19
        refine ⟨n - (p + 2), by omega, p + 2, by omega, rfl, fun _ => h2, by rw [e2]; simp, by rw [e20]; exact c1, ?_, ?_, ?_⟩
        · rw [e19, e18]; exact (hon.tr On.up).tr On.up
        · intro q hq'
          by_cases ca : q = p
          · subst ca
            rw [e19, up_no (by omega), e18, up_at, e17, hu (q + 1) (by omega) h1]
            unfold chd
            rw [hs0, if_pos rfl]
          · by_cases cb : q = p + 1
            · subst cb
              rw [e19, up_at, e15, hu p (Nat.le_refl p) hlt]
              unfold chd
              rw [hs1, if_neg (by decide), if_pos ⟨by omega, by rw [Nat.add_sub_cancel]; exact hs0⟩, Nat.add_sub_cancel]
            · rw [e19, up_no (by omega), e18, up_no (by omega)]
              exact hd q (by omega)
        · intro q hq1 hq2
          rw [e19, up_no (by omega), e18, up_no (by omega)]
          exact hu q (by omega) hq2
    · have hsp : sw p = false := by cases h : sw p <;> simp_all
      have e1 : ear sw (p + 1) = ear sw p := by show (ear sw p || sw p) = _; rw [hsp]; simp
      have hs0 : swl l sw p = false := by unfold swl; rw [hsp]; rfl
      refine ⟨n - (p + 1), by omega, p + 1, by omega, rfl, fun _ => hsp, by rw [e1], by rw [ev]; exact nI_1 p, hon, ?_, fun q hq1 hq2 => hu q (by omega) hq2⟩
      intro q hq'
      by_cases ca : q = p
      · subst ca
        rw [hu q (Nat.le_refl q) hlt]
        unfold chd
        rw [hs0, if_neg (by decide), if_neg (by rintro ⟨c, d⟩; rw [hprev l c] at d; cases d)]
      · exact hd q (by omega)
theorem sm_canChange {n : Nat} {x : Int32} {Q : Int32 → Prop} (hn : n ≤ 8) (hq : okm n (bt x) → Q 1) (hq2 : ¬ okm n (bt x) → Q 0) : P_X12_canChange x (nI n) Q := by
  unfold P_X12_canChange
  have hsw : ∀ p, p < n → vis (bt x) p = true → swm n (bt x) p = !bt x p := fun p hp hv => by unfold swm; simp [hp, hv]
  refine ⟨fun k x2 => ∃ p, p ≤ n ∧ k = n - p ∧ vis (bt x) p = true ∧ (∀ q, q < p → swm n (bt x) q = true → q + 1 < n ∧ bt x (q + 1) = false) ∧ x2 = nI p, ⟨n, 0, Nat.zero_le _, rfl, rfl, fun q hq => absurd hq (Nat.not_lt_zero q), rfl⟩, ?_⟩
  rintro k x2 ⟨p, hp, rfl, hv, hg, rfl⟩
  refine ⟨fun hc => ?_, fun hc => ?_⟩
  · have : n ≤ p := (nI_leI (by omega) (by omega)).mp hc
    have e : p = n := by omega
    subst e
    refine hq (fun q hqs => hg q ?_ hqs)
    unfold swm at hqs
    simp at hqs
    exact hqs.1
  · have hlt := nI_gtI (by omega) (by omega) hc
    rw [tb2 (by omega)]
    refine ⟨fun hb => ?_, fun hb v ev => ?_⟩
    · have hb : bt x p = false := by cases h : bt x p <;> simp_all
      have hs : swm n (bt x) p = true := by rw [hsw p hlt hv, hb]; rfl
      rw [show nI p + 1 = nI (p + 1) from nI_1 p, nI_eq (by omega) (by omega)]
      refine ⟨fun e => hq2 (fun h => ?_), fun e => ?_⟩
      · have := (h p hs).1; omega
      · have hp1 : p + 1 < n := by omega
        rw [tb2 (by omega)]
        refine ⟨fun hb1 v ev => ?_, fun hb1 => hq2 (fun h => ?_)⟩
        · have hb1 : bt x (p + 1) = false := by cases h : bt x (p + 1) <;> simp_all
          have hs1 : swm n (bt x) (p + 1) = false := by
            unfold swm
            simp [vis, hv, hb]
          refine ⟨n - (p + 2), by omega, p + 2, by omega, rfl, ?_, ?_, by rw [ev]; exact nI_add p 2⟩
          · show (!(!vis (bt x) p || bt x p) || bt x (p + 1)) = true
            rw [hv, hb]; rfl
          · intro q hq1 hqs
            by_cases c : q = p
            · subst c; exact ⟨hp1, hb1⟩
            · by_cases c2 : q = p + 1
              · subst c2; rw [hs1] at hqs; cases hqs
              · exact hg q (by omega) hqs
        · have := (h p hs).2
          rw [hb1] at this
          cases this
    · have hs : swm n (bt x) p = false := by rw [hsw p hlt hv, hb]; rfl
      refine ⟨n - (p + 1), by omega, p + 1, by omega, rfl, ?_, ?_, by rw [ev]; exact nI_1 p⟩
      · show (!vis (bt x) p || bt x p) = true
        rw [hb]; simp
      · intro q hq1 hqs
        by_cases c : q = p
        · subst c; rw [hs] at hqs; cases hqs
        · exact hg q (by omega) hqs
theorem sm_staysIn {S : St} {m n a b : Nat} {am : Nat → Nat} {Q : Int32 → (Nat → Nat → Int32) → Prop} (hL : LM S m am) (hn : n ≤ 8) (hn1 : 1 ≤ n) (h0 : gI S (am 0) 0 = nI n) (ha : a < fac n) (hb : b < fac n)
    (hq : ∀ F', Kp tQ m am (gI S) F' → Rw F' (am 23) n (lay n a) → Q (msk (fun p => decide (lay n a p = lay n b p)) n) F') : P_X12_staysIn m (nI a) (nI b) S Q := by
  have hpa := lay_pm hn ha
  have hpb := lay_pm hn hb
  unfold P_X12_staysIn
  refine ⟨hL.z, am 23, hL.r 23, sm_laysRow hL hn hn1 h0 ha (hL.k 23) (hL.l 23) ?_⟩
  intro F2 o2 r2
  have hL2 : LM (wI S F2) m am := hL
  refine ⟨am 24, hL.r 24, sm_laysRow hL2 hn hn1 (by show F2 (am 0) 0 = nI n; rw [o2 _ (hL.n (by decide))]; exact h0) hb (hL.k 24) (hL.l 24) ?_⟩
  intro F4 o4 r4
  have r4a : Rw F4 (am 23) n (lay n a) := rw_on r2 o4 (hL.n (by decide))
  have k4 : Kp tQ m am (gI S) F4 := (Kp.on hL 23 o2).tr (Kp.on hL 24 o4)
  have hF0 : F4 (am 0) 0 = nI n := by rw [k4.ar hL 0]; exact h0
  refine ⟨fun k x2 x3 => ∃ p, p ≤ n ∧ k = n - p ∧ x2 = msk (fun p => decide (lay n a p = lay n b p)) p ∧ x3 = nI p, ⟨n, 0, Nat.zero_le _, rfl, rfl, rfl⟩, ?_⟩
  rintro k x2 x3 ⟨p, hp, rfl, rfl, rfl⟩
  refine ⟨am 0, hL.r 0, hL.k 0, hL.i 0 (p := 0) (by decide), ?_⟩
  rw [hF0]
  refine ⟨fun hc => ?_, fun hc => ?_⟩
  · have : n ≤ p := (nI_leI (by omega) (by omega)).mp hc
    have e : p = n := by omega
    subst e
    exact hq F4 k4 r4a
  · have hlt := nI_gtI (by omega) (by omega) hc
    refine ⟨hL.k 23, hL.i 23 (by show p < 8; omega), hL.k 24, hL.i 24 (by show p < 8; omega), ?_⟩
    have h1 := hpa.1 p hlt
    have h2 := hpb.1 p hlt
    rw [nI_clamp (by omega), r4a p hlt, r4 p hlt, nI_eq (by omega) (by omega)]
    refine ⟨fun hne v ev w ew => ⟨n - (p + 1), by omega, p + 1, by omega, rfl, ?_, by rw [ew]; exact nI_1 p⟩, fun he v ev w ew => ⟨n - (p + 1), by omega, p + 1, by omega, rfl, ?_, by rw [ew]; exact nI_1 p⟩⟩
    · rw [ev, msk_no _ (decide_eq_false hne)]
      exact b_ext (fun j _ => by rw [b_or, b_0, Bool.or_false])
    · rw [ev, msk_in _ (by omega) (decide_eq_true he)]
theorem sm_numberOfPlaces {S : St} {m n : Nat} {am : Nat → Nat} {x : Int32} {st : Nat → Bool} {Q : Int32 → Prop} (hL : LM S m am) (hn : n ≤ 8) (h0 : gI S (am 0) 0 = nI n) (hx : ∀ p, p < n → bt x p = st p) (hq : Q (nI (plN st n))) : P_X12_numberOfPlaces m x S Q := by
  unfold P_X12_numberOfPlaces
  refine ⟨hL.z, fun k x2 x3 => ∃ p, p ≤ n ∧ k = n - p ∧ x2 = nI (plN st p) ∧ x3 = nI p, ⟨n, 0, Nat.zero_le _, rfl, rfl, rfl⟩, ?_⟩
  rintro k x2 x3 ⟨p, hp, rfl, rfl, rfl⟩
  refine ⟨am 0, hL.r 0, hL.k 0, hL.i 0 (p := 0) (by decide), ?_⟩
  rw [h0]
  refine ⟨fun hc => ?_, fun hc => ?_⟩
  · have : n ≤ p := (nI_leI (by omega) (by omega)).mp hc
    have e : p = n := by omega
    subst e
    exact hq
  · have hlt := nI_gtI (by omega) (by omega) hc
    rw [tb2 (by omega), hx p hlt]
    refine ⟨fun hne w ew => ⟨n - (p + 1), by omega, p + 1, by omega, rfl, ?_, by rw [ew]; exact nI_1 p⟩, fun he v ev w ew => ⟨n - (p + 1), by omega, p + 1, by omega, rfl, ?_, by rw [ew]; exact nI_1 p⟩⟩
    · show _ = nI (if st p then 10 * plN st p + p + 1 else plN st p)
      rw [if_neg hne]
    · show _ = nI (if st p then 10 * plN st p + p + 1 else plN st p)
      rw [if_pos he, ev, show (10 : Int32) = nI 10 from rfl, mulN, nI_add, nI_1]
theorem sm_placesOf {S : St} {m n v : Nat} {am : Nat → Nat} {Q : Int32 → Prop} (hL : LM S m am) (hn : n ≤ 8) (hv : v < 2 ^ 31) (h0 : gI S (am 0) 0 = nI n) (hq : ∀ s, plv n v = some s → okm n (bt s) → Q s) (hq2 : (∀ s, plv n v = some s → ¬ okm n (bt s)) → Q (-1)) : P_X12_placesOf m (nI v) S Q := by
  unfold P_X12_placesOf
  refine ⟨hL.z, fun k x2 x3 x4 => ∃ b c w, w < 10 ^ k ∧ w < 2 ^ 31 ∧ b ≤ 9 ∧ c ≤ 9 ∧ (∀ d, (c ≤ d ∨ n < d) ↔ b ≤ d) ∧ plv n v = plc n (k + 1) w b x2 ∧ x3 = nI c ∧ x4 = nI w, ⟨10, n + 1, 9, v, by omega, hv, by omega, by omega, fun d => by omega, rfl, rfl, rfl⟩, ?_⟩
  rintro k x2 x3 x4 ⟨b, c, w, hw, hw31, hb, hc9, hbc, he, rfl, rfl⟩
  refine ⟨fun hc => ?_, fun hc => ?_⟩
  · have : w ≤ 0 := (nI_leI (b := 0) hw31 (by decide)).mp hc
    have e : w = 0 := by omega
    subst e
    have he' : plv n v = some x2 := he
    refine ⟨am 0, hL.r 0, hL.k 0, hL.i 0 (p := 0) (by decide), ?_⟩
    rw [h0]
    refine sm_canChange hn (fun h => ⟨fun c => absurd c (by decide), fun _ => hq x2 he' h⟩) (fun h => ⟨fun _ => hq2 (fun s hs => ?_), fun c => absurd rfl c⟩)
    rw [he'] at hs
    injection hs with hs
    subst hs
    exact h
  · intro v9 e9
    have hw0 : 0 < w := by
      rcases Nat.eq_zero_or_pos w with h | h
      · subst h; exact absurd (nI_le (Nat.le_refl 0) (by decide)) hc
      · exact h
    have e9' : v9 = nI (w % 10) := by rw [e9]; exact irmN hw31 (by decide) (by decide)
    subst e9'
    have hm : w % 10 < 10 := Nat.mod_lt _ (by decide)
    obtain ⟨k', rfl⟩ : ∃ k', k = k' + 1 := ⟨k - 1, by
      rcases Nat.eq_zero_or_pos k with h | h
      · subst h
        have : w < 1 := hw
        omega
      · omega⟩
    have he2 : plv n v = if w % 10 < 1 ∨ b ≤ w % 10 then none else plc n (k' + 1) (w / 10) (w % 10) (x2 ||| shl 1 (nI (w % 10 - 1))) := by
      rw [he]
      show (if w = 0 then _ else _) = _
      rw [if_neg (by omega)]
    have hd := hbc (w % 10)
    rw [show (0 : Int32) = nI 0 from rfl, nI_eq (by omega) (by decide), nI_leI (by omega) (by omega)]
    refine ⟨fun h1 => hq2 (fun s hs => ?_), fun h1 => ⟨fun h2 => hq2 (fun s hs => ?_), fun h2 => ⟨am 0, hL.r 0, hL.k 0, hL.i 0 (p := 0) (by decide), ?_⟩⟩⟩
    · rw [he2, if_pos (Or.inl (by omega))] at hs
      cases hs
    · rw [he2, if_pos (Or.inr (hd.mp (Or.inl h2)))] at hs
      cases hs
    · rw [h0, nI_leI (by omega) (by omega)]
      refine ⟨fun h3 u eu t et => ?_, fun h3 => hq2 (fun s hs => ?_)⟩
      · have hnb : ¬ b ≤ w % 10 := fun h => by have := hd.mpr h; omega
        rw [if_neg (by omega)] at he2
        refine ⟨k', by omega, w % 10, w % 10, w / 10, ?_, by omega, by omega, by omega, ?_, ?_, rfl, ?_⟩
        · rw [Nat.pow_succ] at hw
          omega
        · intro d
          have := hbc d
          omega
        · rw [he2, eu, show (1 : Int32) = nI 1 from rfl, le_sub1 (by omega)]
        · rw [et]
          exact pk_div hw31 (by decide) (by decide)
      · rw [he2, if_pos (Or.inr (hd.mp (Or.inr (by omega))))] at hs
        cases hs
