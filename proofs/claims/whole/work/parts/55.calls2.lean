/-! Cycles, distances, changes between rows; methods. -/
theorem ct_met {met : Nat → Bool} {n a : Nat} (ha : a < n) (h : met a = false) : fb_ct (fun q => met q || decide (q = a)) n = fb_ct met n + 1 := by
  have e : fb_ct (fun q => met q || decide (q = a)) n = fb_ct (fun k => if k = a then true else met k) n := fb_ct_cong (fun k _ => by by_cases c : k = a <;> simp [c])
  have h2 := fb_ct_upd met true (i := a) ha
  rw [h] at h2
  rw [e]
  simpa using h2
theorem ct_lt {met : Nat → Bool} {n a : Nat} (ha : a < n) (h : met a = false) : fb_ct met n < n := by
  rcases Nat.lt_or_ge (fb_ct met n) n with c | c
  · exact c
  · have := fb_ct_all.mp (Nat.le_antisymm (fb_ct_le met n) c) a ha
    rw [h] at this
    cases this
theorem wk_end {f : Nat → Nat} {met : Nat → Bool} {a g : Nat} (h : met a = true) : ∀ k, wk f k met a g = (met, g)
  | 0 => rfl
  | k + 1 => by show (if met a then (met, g) else _) = _; rw [if_pos h]
theorem sum_swap (a : Nat → Nat → Nat) (m : Nat) : ∀ n, fb_sm (fun i => fb_sm (fun j => a i j) m) n = fb_sm (fun j => fb_sm (fun i => a i j) n) m
  | 0 => by
    have : fb_sm (fun _ => 0) m = 0 := by rw [fb_sm_const]; omega
    exact this.symm
  | n + 1 => by
    rw [fb_sm_succ, sum_swap a m n, ← fb_sm_add]
    rfl
theorem sm_ct (p : Nat → Bool) : ∀ n, fb_sm (fun k => if p k then 1 else 0) n = fb_ct p n
  | 0 => rfl
  | n + 1 => by rw [fb_sm_succ, fb_ct_succ, sm_ct p n]
theorem sm_mul (c : Nat) (p : Nat → Bool) : ∀ n, fb_sm (fun k => if p k then c else 0) n = fb_ct p n * c
  | 0 => by show 0 = 0 * c; omega
  | n + 1 => by
    rw [fb_sm_succ, fb_ct_succ, sm_mul c p n, Nat.add_mul]
    cases p n <;> simp
theorem sm_at {h : Nat → Nat} {v : Nat} : ∀ {n : Nat}, v < n → fb_sm (fun k => if k = v then h k else 0) n = h v
  | n + 1, hv => by
    rw [fb_sm_succ]
    by_cases c : n = v
    · subst c
      rw [if_pos rfl, fb_sm_cong (g := fun _ => 0) (fun k hk => if_neg (by omega)), fb_sm_const]
      omega
    · rw [if_neg c, sm_at (n := n) (by omega)]
      rfl
theorem sm_perm {n : Nat} {g : Nat → Nat} (hg : Pm n g) (h : Nat → Nat) : fb_sm (fun p => h (g p)) n = fb_sm h n := by
  have e1 : fb_sm (fun p => h (g p)) n = fb_sm (fun p => fb_sm (fun v => if v = g p then h v else 0) n) n := fb_sm_cong (fun p hp => (sm_at (hg.1 p hp)).symm)
  rw [e1, sum_swap]
  refine fb_sm_cong (fun v hv => ?_)
  have e2 : fb_sm (fun p => if v = g p then h v else 0) n = fb_ct (fun p => decide (v = g p)) n * h v := by
    rw [← sm_mul]
    exact fb_sm_cong (fun p _ => by by_cases c : v = g p <;> simp [c])
  rw [e2]
  obtain ⟨i, hi, hiv⟩ := fb_onto hg.1 (fun i j hij hj => hg.2 i j hij hj) hv
  rw [ct_one hi (fun q hq => by
    by_cases c : q = i
    · subst c; simp [hiv]
    · have : v ≠ g q := fun e => c (pm_inj hg hq hi (e.symm.trans hiv.symm))
      simp [c, this])]
  omega
/-- a row and its inverse have as many pairs the wrong way round -/
theorem dg_ct {n : Nat} {f : Nat → Nat} (h : Pm n f) {p : Nat} (hp : p < n) : dg f p = fb_ct (fun q => decide (p < q) && decide (f q < f p)) n := by
  have h1 : cnt f n (f p) = f p := cnt_full h (f p) (Nat.le_of_lt (h.1 p hp))
  have e : cnt f n (f p) = fb_ct (fun q => (decide (q < p) && decide (f q < f p)) || (decide (p < q) && decide (f q < f p))) n := fb_ct_cong (fun q _ => by
    rcases Nat.lt_trichotomy q p with c | c | c
    · simp [c, show ¬ p < q by omega]
    · subst c; simp
    · simp [c, show ¬ q < p by omega])
  rw [fb_ct_or (fun q _ hq => by simp at hq; omega)] at e
  have e2 : fb_ct (fun q => decide (q < p) && decide (f q < f p)) n = cnt f p (f p) := by
    have := fb_ct_split (fun q => decide (q < p) && decide (f q < f p)) p (n - p)
    rw [show p + (n - p) = n by omega] at this
    have z : fb_ct (fun k => decide (p + k < p) && decide (f (p + k) < f p)) (n - p) = 0 := fb_ct_zero.mpr (fun k _ => by rw [decide_eq_false (by omega : ¬ p + k < p)]; rfl)
    rw [this, z, Nat.add_zero]
    exact fb_ct_cong (fun q hq => by simp [hq])
  unfold dg
  omega
theorem invs_cong {n : Nat} {f g : Nat → Nat} (h : ∀ p, p < n → f p = g p) : invs f n = invs g n := fb_sm_cong (fun p hp => by
  unfold dg cnt
  rw [h p hp, fb_ct_cong (p := fun q => decide (f q < g p)) (q := fun q => decide (g q < g p)) (fun q hq => by rw [h q (by omega)])])
theorem invs_inv {n : Nat} {f : Nat → Nat} (h : Pm n f) : invs (inv n f) n = invs f n := by
  have hi := inv_pm h
  have e1 : ∀ g, Pm n g → invs g n = fb_sm (fun p => fb_sm (fun q => if p < q ∧ g q < g p then 1 else 0) n) n := fun g hg => fb_sm_cong (fun p hp => by
    rw [dg_ct hg hp, ← sm_ct]
    exact fb_sm_cong (fun q _ => by by_cases c : p < q <;> by_cases d : g q < g p <;> simp [c, d]))
  rw [e1 _ hi, e1 f h]
  -- the left side by u = f p
  have e2 : fb_sm (fun p => fb_sm (fun q => if p < q ∧ inv n f q < inv n f p then 1 else 0) n) n = fb_sm (fun p => fb_sm (fun q => if f p < q ∧ inv n f q < p then 1 else 0) n) n := by
    rw [← sm_perm h]
    refine fb_sm_cong (fun p hp => fb_sm_cong (fun q _ => ?_))
    rw [inv_at h hp]
  rw [e2]
  have e3 : fb_sm (fun p => fb_sm (fun q => if f p < q ∧ inv n f q < p then 1 else 0) n) n = fb_sm (fun p => fb_sm (fun q => if f p < f q ∧ q < p then 1 else 0) n) n := by
    refine fb_sm_cong (fun p _ => ?_)
    rw [← sm_perm h]
    refine fb_sm_cong (fun q hq => ?_)
    rw [inv_at h hq]
  rw [e3, sum_swap]
  refine fb_sm_cong (fun p _ => fb_sm_cong (fun q _ => ?_))
  by_cases c : f q < f p <;> by_cases d : p < q <;> simp [c, d]
theorem pinv_cong {f g : Nat → Nat} : ∀ n b, (∀ p, p < n → f p = g p) → pinv f n b = pinv g n b
  | 0, _, _ => rfl
  | n + 1, b, h => by
    show (if b = f n then n else pinv f n b) = (if b = g n then n else pinv g n b)
    rw [h n (by omega), pinv_cong n b (fun p hp => h p (by omega))]
theorem inv_cong {n : Nat} {f g : Nat → Nat} (h : ∀ p, p < n → f p = g p) (b : Nat) : inv n f b = inv n g b := pinv_cong n b h
/-- the inverse of a quotient is the other quotient -/
theorem inv_quot {n : Nat} {f g : Nat → Nat} (hf : Pm n f) (hg : Pm n g) : ∀ p, p < n → inv n (fun p => inv n f (g p)) p = inv n g (f p) := fun p hp => by
  have hq := comp_pm (inv_pm hf) hg
  obtain ⟨h1, h2⟩ := inv_lt hg (hf.1 p hp)
  have e : inv n f (g (inv n g (f p))) = p := by rw [h2, inv_at hf hp]
  have := inv_at hq h1
  rw [e] at this
  exact this
section CS
variable {S : St} {x b m : Nat} {am : Nat → Nat} {im : Nat → Prop} {B : Bk} {Q1 : Int32 → FI → Prop}
theorem call_cycles (h : CB S x b m am im B) (r p : Int32) (hq : ∀ v F, Th S x m am v (P_X12_cycles m r p (wI S F)) → Q1 v F) : P_X11_cycles x r p S Q1 := by
  have L1 : ∀ s, LM (wI S (upI (gI S) x 0 s)) m am := fun _ => h.L
  have hn := h.n8
  rcases nr_case _ h.f r with ⟨k, hk, rfl⟩ | hr
  · have hpm := lay_pm hn hk
    rcases nb_case (bn B) (by omega) p with ⟨j, hj, rfl⟩ | hp
    · refine ⟨h.x, xRy h hk ⟨False, False.elim, fun c => absurd c one0, fun _ => xBy h hj ⟨fun _ => xPk h hk ⟨b, h.b, h.k, ?_⟩, fun c => absurd c one0⟩⟩⟩
      rw [h.s]
      refine sp_cyclesOf hn (by omega) hpm (an h.x (hq _ _ (fun Q2 h2 => ?_)))
      refine ⟨h.L.z, mRy (L1 0) h.o (h.M1 0) hk ⟨False, False.elim, fun c => absurd c one0, fun _ => mBy (L1 0) h.o (h.M1 0) hj ⟨fun _ => ⟨am 24, h.L.r 24, ?_⟩, fun c => absurd c one0⟩⟩⟩
      refine sm_laysRow (L1 0) hn h.n1 (h.M1 0).1 hk (h.L.k 24) (h.L.l 24) (fun F' o' r' => ?_)
      have k' : Kp tQ m am (upI (gI S) x 0 0) F' := Kp.on h.L 24 o'
      have hF0 : F' (am 0) 0 = nI (bn B) := ((h.M1 0).kp h.L k').1
      refine ⟨fun i x3 x4 x5 => ∃ p, p ≤ bn B ∧ i = bn B - p ∧ x4 = msk (cyP (lay (bn B) k) (bn B) (j + 1) p).1 (bn B) ∧ x3 = nI (cyP (lay (bn B) k) (bn B) (j + 1) p).2 ∧ x5 = nI p, ⟨bn B, 0, Nat.zero_le _, rfl, ?_, rfl, rfl⟩, ?_⟩
      · refine b_ext (fun j hj => ?_)
        rw [b_0, msk_bt _ _ hj]
        simp [cyP]
      rintro i x3 x4 x5 ⟨p, hp, rfl, rfl, rfl, rfl⟩
      refine ⟨am 0, h.L.r 0, h.L.k 0, h.L.i 0 (p := 0) (by decide), ?_⟩
      rw [hF0]
      refine ⟨fun hc => ?_, fun hc => ?_⟩
      · have : bn B ≤ p := (nI_leI (by omega) (by omega)).mp hc
        have e : p = bn B := by omega
        subst e
        exact gvm h.L.z k' h2
      · have hlt := nI_gtI (by omega) (by omega) hc
        refine ⟨fun i x3 x6 x7 => ∃ met g a, a < bn B ∧ fb_ct met (bn B) = fb_ct (cyP (lay (bn B) k) (bn B) (j + 1) p).1 (bn B) + g ∧ i = bn B - g ∧ wk (lay (bn B) k) (bn B) (cyP (lay (bn B) k) (bn B) (j + 1) p).1 p 0 = wk (lay (bn B) k) (bn B - g) met a g ∧ x3 = msk met (bn B) ∧ x6 = nI g ∧ x7 = nI a, ⟨bn B, _, 0, p, hlt, rfl, rfl, rfl, rfl, rfl, rfl⟩, ?_⟩
        rintro i y3 y6 y7 ⟨met, g, a, ha, hct, rfl, hw, rfl, rfl, rfl⟩
        have hle := fb_ct_le met (bn B)
        rw [tb2z (by omega), msk_bt _ _ (by omega), decide_eq_true ha, Bool.true_and]
        refine ⟨fun hm => ?_, fun hm v ev => ?_⟩
        · have hm : met a = true := by cases c : met a <;> simp_all
          have hj2 : wk (lay (bn B) k) (bn B) (cyP (lay (bn B) k) (bn B) (j + 1) p).1 p 0 = (met, g) := by rw [hw, wk_end hm]
          have e1 : (cyP (lay (bn B) k) (bn B) (j + 1) (p + 1)).1 = met := by
            show (wk (lay (bn B) k) (bn B) (cyP (lay (bn B) k) (bn B) (j + 1) p).1 p 0).1 = met
            rw [hj2]
          have e2 : (cyP (lay (bn B) k) (bn B) (j + 1) (p + 1)).2 = (cyP (lay (bn B) k) (bn B) (j + 1) p).2 + (if g = j + 1 then 1 else 0) := by
            show (cyP (lay (bn B) k) (bn B) (j + 1) p).2 + (if (wk (lay (bn B) k) (bn B) (cyP (lay (bn B) k) (bn B) (j + 1) p).1 p 0).2 = j + 1 then 1 else 0) = _
            rw [hj2]
          rw [nI_eq (by omega) (by omega)]
          refine ⟨fun hne v ev w ew => ⟨bn B - (p + 1), by omega, p + 1, by omega, rfl, by rw [e1], ?_, by rw [ew]; exact nI_1 p⟩, fun he v ev w ew => ⟨bn B - (p + 1), by omega, p + 1, by omega, rfl, by rw [e1], ?_, by rw [ew]; exact nI_1 p⟩⟩
          · rw [e2, if_neg hne, ev]; exact nI_add _ 0
          · rw [e2, if_pos he, ev]; exact nI_1 _
        · have hl := ct_lt ha hm
          obtain ⟨q, hq'⟩ : ∃ q, bn B - g = q + 1 := ⟨bn B - g - 1, by omega⟩
          refine ⟨h.L.k 24, h.L.i 24 (by show a < 8; omega), fun v2 ev2 v3 ev3 => ?_⟩
          rw [nI_clamp (by omega), r' a ha] at ev2
          refine ⟨bn B - (g + 1), by omega, (fun q => met q || decide (q = a)), g + 1, lay (bn B) k a, hpm.1 a ha, by rw [ct_met ha hm]; omega, rfl, ?_, by rw [ev, msk_or hn ha], by rw [ev3]; exact nI_1 g, ev2⟩
          rw [hw, hq', show bn B - (g + 1) = q by omega]
          show (if met a then (met, g) else _) = _
          rw [hm, if_neg (by decide)]
    · refine ⟨h.x, xRy h hk ⟨True, fun _ => rf h.x (hq _ _ (fun Q2 h2 => ?_)), fun c => absurd c one0, fun _ => xBn h hp ⟨fun c => absurd rfl c, fun _ => trivial⟩⟩⟩
      exact ⟨h.L.z, mRy (L1 1) h.o (h.M1 1) hk ⟨True, fun _ => rfm h.L.z Kp.rf h2, fun c => absurd c one0, fun _ => mBn (L1 1) h.o (h.M1 1) hp ⟨fun c => absurd rfl c, fun _ => trivial⟩⟩⟩
  · refine ⟨h.x, xRn h hr ⟨True, fun _ => rf h.x (hq _ _ (fun Q2 h2 => ?_)), fun _ => trivial, fun c => absurd rfl c⟩⟩
    exact ⟨h.L.z, mRn (L1 1) h.o (h.M1 1) hr ⟨True, fun _ => rfm h.L.z Kp.rf h2, fun _ => trivial, fun c => absurd rfl c⟩⟩
theorem call_distance (h : CB S x b m am im B) (r p : Int32) (hq : ∀ v F, Th S x m am v (P_X12_distance m r p (wI S F)) → Q1 v F) : P_X11_distance x r p S Q1 := by
  have L1 : ∀ s, LM (wI S (upI (gI S) x 0 s)) m am := fun _ => h.L
  have hn := h.n8
  rcases nr_case _ h.f r with ⟨k, hk, rfl⟩ | hr
  · have hpk := lay_pm hn hk
    rcases nr_case _ h.f p with ⟨j, hj, rfl⟩ | hp
    · have hpj := lay_pm hn hj
      refine ⟨h.x, xRy h hk ⟨False, False.elim, fun c => absurd c one0, fun _ => xRy h hj ⟨fun _ => xPk h hk ⟨b, h.b, h.k, ?_⟩, fun c => absurd c one0⟩⟩⟩
      rw [h.s]
      refine sp_invert hn hpk (xPk h hj (sp_multiply hn (pm8 hn (inv_pm hpk)) hpj.1 (sp_inversions hn (comp_pm (inv_pm hpk) hpj) (an h.x (hq _ _ (fun Q2 h2 => ?_))))))
      -- the other way round it is as far
      obtain ⟨g, hge⟩ : ∃ g : Nat → Nat, g = fun p => inv (bn B) (lay (bn B) j) (lay (bn B) k p) := ⟨_, rfl⟩
      have hge2 : ∀ p, inv (bn B) (lay (bn B) j) (lay (bn B) k p) = g p := fun p => by rw [hge]
      have hg : Pm (bn B) g := by rw [hge]; exact comp_pm (inv_pm hpj) hpk
      have eV : invs (fun p => inv (bn B) (lay (bn B) k) (lay (bn B) j p)) (bn B) = invs g (bn B) := by
        rw [hge, ← invs_inv (comp_pm (inv_pm hpk) hpj)]
        exact invs_cong (inv_quot hpk hpj)
      have hh2 : ∀ F', Gd S x m am F' → Q2 (nI (invs g (bn B))) F' := fun F' gd => by rw [← eV]; exact h2 F' gd
      refine ⟨h.L.z, mRy (L1 0) h.o (h.M1 0) hk ⟨False, False.elim, fun c => absurd c one0, fun _ => mRy (L1 0) h.o (h.M1 0) hj ⟨fun _ => ?_, fun c => absurd c one0⟩⟩⟩
      refine sm_inverseOf (L1 0) hn h.n1 (h.M1 0).1 hj (fun F7 k7 _ => ⟨am 25, h.L.r 25, ?_⟩)
      have L7 : LM (wI (wI S (upI (gI S) x 0 0)) F7) m am := h.L
      refine sm_laysRow L7 hn h.n1 ((h.M1 0).kp h.L k7).1 (num_lt (inv_pm hpj)) (h.L.k 25) (h.L.l 25) (fun F9 o9 r9 => ⟨am 23, h.L.r 23, ?_⟩)
      have L9 : LM (wI (wI S (upI (gI S) x 0 0)) F9) m am := h.L
      have k9 : Kp tQ m am (upI (gI S) x 0 0) F9 := k7.tr (Kp.on h.L 25 o9)
      refine sm_laysRow L9 hn h.n1 ((h.M1 0).kp h.L k9).1 hk (h.L.k 23) (h.L.l 23) (fun F11 o11 r11 => ?_)
      have k11 : Kp tQ m am (upI (gI S) x 0 0) F11 := k9.tr (Kp.on h.L 23 o11)
      have hF0 : F11 (am 0) 0 = nI (bn B) := ((h.M1 0).kp h.L k11).1
      have r9' : ∀ q, q < bn B → F11 (am 25) q = nI (inv (bn B) (lay (bn B) j) q) := fun q hq' => by
        rw [o11 _ (h.L.n (by decide))]
        show F9 (am 25) q = _
        rw [r9 q hq', lay_num hn (inv_pm hpj) q hq']
      have hsm : ∀ p, p ≤ bn B → invs g p ≤ p * 8 := fun p hp => fb_sm_bound (fun q hq' => by have := dg_lt hg (show q < bn B by omega); omega)
      refine ⟨fun i x2 x3 => ∃ p, p ≤ bn B ∧ i = bn B - p ∧ x2 = nI (invs g p) ∧ x3 = nI p, ⟨bn B, 0, Nat.zero_le _, rfl, rfl, rfl⟩, ?_⟩
      rintro i x2 x3 ⟨p, hp, rfl, rfl, rfl⟩
      have hsp := hsm p hp
      refine ⟨am 0, h.L.r 0, h.L.k 0, h.L.i 0 (p := 0) (by decide), ?_⟩
      rw [hF0]
      refine ⟨fun hc => ?_, fun hc v11 e11 => ?_⟩
      · have : bn B ≤ p := (nI_leI (by omega) (by omega)).mp hc
        have e : p = bn B := by omega
        subst e
        exact gvm h.L.z k11 hh2
      · have hlt := nI_gtI (by omega) (by omega) hc
        have hd : ∀ t, fb_ct (fun i => decide (g (p + 1 + i) < g p)) t + cnt g (p + 1) (g p) = cnt g (p + 1 + t) (g p) := fun t => by
          have := fb_ct_split (fun q => decide (g q < g p)) (p + 1) t
          unfold cnt
          omega
        refine ⟨fun i x5 x6 => ∃ t, p + 1 + t ≤ bn B ∧ i = bn B - t ∧ x5 = nI (invs g p + fb_ct (fun i => decide (g (p + 1 + i) < g p)) t) ∧ x6 = nI (p + 1 + t), ⟨bn B, 0, by omega, rfl, rfl, by rw [e11]; exact nI_1 p⟩, ?_⟩
        rintro i x5 x6 ⟨t, ht, rfl, rfl, rfl⟩
        refine ⟨fun hc2 v15 e15 => ?_, fun hc2 => ?_⟩
        · have : bn B ≤ p + 1 + t := (nI_leI (by omega) (by omega)).mp hc2
          refine ⟨bn B - (p + 1), by omega, p + 1, by omega, rfl, ?_, by rw [e15]; exact nI_1 p⟩
          have h1 := hd t
          have hfull := cnt_full hg (g p) (Nat.le_of_lt (hg.1 p hlt))
          rw [show p + 1 + t = bn B by omega, hfull, cnt_succ, if_neg (Nat.lt_irrefl _), Nat.add_zero] at h1
          show _ = nI (invs g p + (g p - cnt g p (g p)))
          congr 2
          omega
        · have hlt2 := nI_gtI (by omega) (by omega) hc2
          have a1 := hpk.1 p hlt
          have a2 := hpk.1 (p + 1 + t) hlt2
          have b1 := hg.1 p hlt
          have b2 := hg.1 (p + 1 + t) hlt2
          rw [nI_clamp (by omega), nI_clamp (by omega), r11 p hlt, r11 (p + 1 + t) hlt2, nI_clamp (by omega), nI_clamp (by omega), r9' _ a1, r9' _ a2, hge2, hge2]
          refine ⟨h.L.k 23, h.L.i 23 (by show _ < 8; omega), h.L.k 25, h.L.i 25 (by show _ < 8; omega), h.L.i 23 (by show _ < 8; omega), h.L.i 25 (by show _ < 8; omega), ?_⟩
          rw [nI_leI (by omega) (by omega)]
          refine ⟨fun h v ev w ew => ⟨bn B - (t + 1), by omega, t + 1, by omega, rfl, ?_, by rw [ew]; exact nI_1 _⟩, fun h v ev w ew => ⟨bn B - (t + 1), by omega, t + 1, by omega, rfl, ?_, by rw [ew]; exact nI_1 _⟩⟩
          · rw [ev, fb_ct_succ, decide_eq_false (by omega), if_neg (by decide)]
            exact nI_add _ 0
          · rw [ev, fb_ct_succ, decide_eq_true (by omega), if_pos rfl]
            exact nI_1 _
    · refine ⟨h.x, xRy h hk ⟨True, fun _ => rf h.x (hq _ _ (fun Q2 h2 => ?_)), fun c => absurd c one0, fun _ => xRn h hp ⟨fun c => absurd rfl c, fun _ => trivial⟩⟩⟩
      exact ⟨h.L.z, mRy (L1 1) h.o (h.M1 1) hk ⟨True, fun _ => rfm h.L.z Kp.rf h2, fun c => absurd c one0, fun _ => mRn (L1 1) h.o (h.M1 1) hp ⟨fun c => absurd rfl c, fun _ => trivial⟩⟩⟩
  · refine ⟨h.x, xRn h hr ⟨True, fun _ => rf h.x (hq _ _ (fun Q2 h2 => ?_)), fun _ => trivial, fun c => absurd rfl c⟩⟩
    exact ⟨h.L.z, mRn (L1 1) h.o (h.M1 1) hr ⟨True, fun _ => rfm h.L.z Kp.rf h2, fun _ => trivial, fun c => absurd rfl c⟩⟩
theorem call_between (h : CB S x b m am im B) (r p : Int32) (hq : ∀ v F, Th S x m am v (P_X12_between m r p (wI S F)) → Q1 v F) : P_X11_between x r p S Q1 := by
  have L1 : ∀ s, LM (wI S (upI (gI S) x 0 s)) m am := fun _ => h.L
  have hn := h.n8
  have hf := h.f
  rcases nr_case _ h.f r with ⟨k, hk, rfl⟩ | hr
  · have hpk := lay_pm hn hk
    rcases nr_case _ h.f p with ⟨j, hj, rfl⟩ | hp
    · have hpj := lay_pm hn hj
      refine ⟨h.x, xRy h hk ⟨False, False.elim, fun c => absurd c one0, fun _ => xRy h hj ⟨fun _ => xPk h hk (xPk h hj ⟨b, h.b, h.k, ?_⟩), fun c => absurd c one0⟩⟩⟩
      rw [h.s]
      have eb : ∀ q, q < bn B → bt (msk (fun p => decide (lay (bn B) k p = lay (bn B) j p)) (bn B)) q = (decide (q < bn B) && decide (lay (bn B) k q = lay (bn B) j q)) := fun q hq => msk_bt _ _ (by omega)
      have es2 : swm (bn B) (bt (msk (fun p => decide (lay (bn B) k p = lay (bn B) j p)) (bn B))) = swm (bn B) (fun q => decide (q < bn B) && decide (lay (bn B) k q = lay (bn B) j q)) := funext (swm_cong eb)
      have eo : okm (bn B) (bt (msk (fun p => decide (lay (bn B) k p = lay (bn B) j p)) (bn B))) ↔ okm (bn B) (fun q => decide (q < bn B) && decide (lay (bn B) k q = lay (bn B) j q)) := by
        unfold okm
        rw [es2]
        refine ⟨fun h q hq => ⟨(h q hq).1, ?_⟩, fun h q hq => ⟨(h q hq).1, ?_⟩⟩
        · have := h q hq
          show (decide (q + 1 < bn B) && decide (lay (bn B) k (q + 1) = lay (bn B) j (q + 1))) = false
          rw [← eb (q + 1) this.1]
          exact this.2
        · have := h q hq
          rw [eb (q + 1) this.1]
          exact this.2
      have mod : ∀ s, okm (bn B) (fun q => decide (q < bn B) && decide (lay (bn B) k q = lay (bn B) j q)) → ∀ Q2, (∀ F', Kp tQ m am (upI (gI S) x 0 s) F' → ((∀ p, p < bn B → chd (swm (bn B) (fun q => decide (q < bn B) && decide (lay (bn B) k q = lay (bn B) j q))) (lay (bn B) k) p = lay (bn B) j p) → P_X12_gives m (nI (plN (fun q => decide (q < bn B) && decide (lay (bn B) k q = lay (bn B) j q)) (bn B))) (wI (wI S (upI (gI S) x 0 s)) F') Q2) ∧ (¬ (∀ p, p < bn B → chd (swm (bn B) (fun q => decide (q < bn B) && decide (lay (bn B) k q = lay (bn B) j q))) (lay (bn B) k) p = lay (bn B) j p) → P_X12_refuse m 7 (wI (wI S (upI (gI S) x 0 s)) F') Q2)) → P_X12_between m (nI k) (nI j) (wI S (upI (gI S) x 0 s)) Q2 := by
        intro s hok Q2 hfin
        have hsw := okm_sw hok
        refine ⟨h.L.z, mRy (L1 s) h.o (h.M1 s) hk ⟨False, False.elim, fun c => absurd c one0, fun _ => mRy (L1 s) h.o (h.M1 s) hj ⟨fun _ => ?_, fun c => absurd c one0⟩⟩⟩
        refine sm_staysIn (L1 s) hn h.n1 (h.M1 s).1 hk hj (fun F7 k7 r7 => ⟨am 0, h.L.r 0, h.L.k 0, h.L.i 0 (p := 0) (by decide), ?_⟩)
        have hM7 := (h.M1 s).kp h.L k7
        have e0 : F7 (am 0) 0 = nI (bn B) := hM7.1
        rw [e0]
        have L7 : LM (wI (wI S (upI (gI S) x 0 s)) F7) m am := h.L
        refine sm_canChange hn (fun _ => ⟨fun _ => ?_, fun c => absurd c one0⟩) (fun hno => absurd (eo.mpr hok) hno)
        refine sm_changes0 (l := false) L7 hn hM7.1 hsw (fun q hq' => ?_) r7 (fun F13 o13 r13 => ⟨am 23, h.L.r 23, ?_⟩)
        · rw [eb q hq', stf_swm hok q hq']
        · rw [swl_f] at r13
          have k13 : Kp tQ m am (upI (gI S) x 0 s) F13 := k7.tr (Kp.on h.L 23 o13)
          have L13 : LM (wI (wI S (upI (gI S) x 0 s)) F13) m am := h.L
          have hc := chd_pm hsw hpk
          refine sm_numberOf L13 hn ((h.M1 s).kp h.L k13).1 hc (h.L.k 23) (h.L.l 23) r13 ?_
          have hl := num_lt hc
          rw [nI_eq (by omega) (by omega)]
          have e3 : num (bn B) (chd (swm (bn B) (fun q => decide (q < bn B) && decide (lay (bn B) k q = lay (bn B) j q))) (lay (bn B) k)) = j ↔ ∀ p, p < bn B → chd (swm (bn B) (fun q => decide (q < bn B) && decide (lay (bn B) k q = lay (bn B) j q))) (lay (bn B) k) p = lay (bn B) j p := ⟨fun e p hp' => num_inj hn hc hpj (by rw [e, num_lay hn hj]) p hp', fun e => by rw [num_cong e, num_lay hn hj]⟩
          rw [e3]
          refine ⟨fun hne => (hfin F13 k13).2 hne, fun he => ?_⟩
          refine sm_numberOfPlaces (st := fun q => decide (q < bn B) && decide (lay (bn B) k q = lay (bn B) j q)) L13 hn ((h.M1 s).kp h.L k13).1 eb ((hfin F13 k13).1 he)
      refine sp_moveBetween hn hpk hpj (fun hok hch => ⟨fun _ => sp_placesOf hn (okm_sw hok) (an h.x (hq _ _ (fun Q2 h2 => mod 0 hok _ (fun F' k' => ⟨fun _ => ?_, fun c => absurd hch c⟩)))), fun c => absurd c (mv_ne hn (okm_sw hok))⟩) (fun hno => ⟨fun c => absurd rfl c, fun _ => rf h.x (hq _ _ (fun Q2 h2 => ?_))⟩)
      · have e4 : plN (stf (swm (bn B) (fun p => decide (p < bn B) && decide (lay (bn B) k p = lay (bn B) j p)))) (bn B) = plN (fun q => decide (q < bn B) && decide (lay (bn B) k q = lay (bn B) j q)) (bn B) := by
          have key : ∀ q, q ≤ bn B → plN (stf (swm (bn B) (fun p => decide (p < bn B) && decide (lay (bn B) k p = lay (bn B) j p)))) q = plN (fun q => decide (q < bn B) && decide (lay (bn B) k q = lay (bn B) j q)) q := by
            intro q
            induction q with
            | zero => intro _; rfl
            | succ q ih => intro hq'; unfold plN; rw [ih (by omega), stf_swm hok q (by omega)]
          exact key _ (Nat.le_refl _)
        rw [e4] at h2
        exact gvm h.L.z k' h2
      · rcases Classical.em (okm (bn B) (fun q => decide (q < bn B) && decide (lay (bn B) k q = lay (bn B) j q))) with hok | hok
        · exact mod 7 hok _ (fun F' k' => ⟨fun c => absurd ⟨hok, c⟩ hno, fun _ => rfm h.L.z k' h2⟩)
        · refine ⟨h.L.z, mRy (L1 7) h.o (h.M1 7) hk ⟨False, False.elim, fun c => absurd c one0, fun _ => mRy (L1 7) h.o (h.M1 7) hj ⟨fun _ => ?_, fun c => absurd c one0⟩⟩⟩
          refine sm_staysIn (L1 7) hn h.n1 (h.M1 7).1 hk hj (fun F7 k7 r7 => ⟨am 0, h.L.r 0, h.L.k 0, h.L.i 0 (p := 0) (by decide), ?_⟩)
          have e0 : F7 (am 0) 0 = nI (bn B) := ((h.M1 7).kp h.L k7).1
          rw [e0]
          exact sm_canChange hn (fun hc => absurd (eo.mp hc) hok) (fun _ => ⟨fun c => absurd rfl c, fun _ => rfm h.L.z k7 h2⟩)
    · refine ⟨h.x, xRy h hk ⟨True, fun _ => rf h.x (hq _ _ (fun Q2 h2 => ?_)), fun c => absurd c one0, fun _ => xRn h hp ⟨fun c => absurd rfl c, fun _ => trivial⟩⟩⟩
      exact ⟨h.L.z, mRy (L1 1) h.o (h.M1 1) hk ⟨True, fun _ => rfm h.L.z Kp.rf h2, fun c => absurd c one0, fun _ => mRn (L1 1) h.o (h.M1 1) hp ⟨fun c => absurd rfl c, fun _ => trivial⟩⟩⟩
  · refine ⟨h.x, xRn h hr ⟨True, fun _ => rf h.x (hq _ _ (fun Q2 h2 => ?_)), fun _ => trivial, fun c => absurd rfl c⟩⟩
    exact ⟨h.L.z, mRn (L1 1) h.o (h.M1 1) hr ⟨True, fun _ => rfm h.L.z Kp.rf h2, fun _ => trivial, fun c => absurd rfl c⟩⟩
end CS
