/-! Calls that count in what is rung. -/
theorem pak_andp (f g : Nat → Nat) {n : Nat} (hn : n ≤ 8) (hf : ∀ p, p < n → f p < 16) (hg : ∀ p, p < n → g p < 16) : nI (pak f n) &&& nI (pak g n) = nI (pak (fun p => f p &&& g p) n) := by
  have hfg : ∀ p, p < n → f p &&& g p < 16 := fun p hp => Nat.lt_of_le_of_lt Nat.and_le_left (hf p hp)
  apply b_ext
  intro k hk
  obtain ⟨p, i, hi, rfl⟩ : ∃ p i, i < 4 ∧ k = 4 * p + i := ⟨k / 4, k % 4, by omega, by omega⟩
  rw [b_and, bt_pak hf (by omega) hi, bt_pak hg (by omega) hi, bt_pak hfg (by omega) hi, Nat.testBit_and]
  cases decide (p < n) <;> simp
theorem pak_eq16 {f g : Nat → Nat} {n : Nat} (hn : n ≤ 8) (hf : ∀ p, p < n → f p < 16) (hg : ∀ p, p < n → g p < 16) : nI (pak f n) = nI (pak g n) ↔ ∀ p, p < n → f p = g p := by
  refine ⟨fun e p hp => Nat.eq_of_testBit_eq (fun i => ?_), fun h => congrArg nI (pak_cong h)⟩
  rcases Nat.lt_or_ge i 4 with c | c
  · have h1 := bt_pak hf (p := p) (i := i) (by omega) c
    have h2 := bt_pak hg (p := p) (i := i) (by omega) c
    rw [e, h2, decide_eq_true hp, Bool.true_and, Bool.true_and] at h1
    exact h1.symm
  · have z : ∀ v, v < 16 → v.testBit i = false := fun v hv => Nat.testBit_lt_two_pow (Nat.lt_of_lt_of_le hv (Nat.pow_le_pow_right (n := 2) (by decide) c))
    rw [z _ (hf p hp), z _ (hg p hp)]
def ask (g : Nat → Nat) (p : Nat) : Nat := if g p = 0 then 0 else 15
def wnt (g : Nat → Nat) (p : Nat) : Nat := if g p = 0 then 0 else g p - 1
theorem ask_lt (g : Nat → Nat) (p : Nat) : ask g p < 16 := by unfold ask; split <;> decide
theorem wnt_lt {g : Nat → Nat} {p : Nat} (h : g p ≤ 8) : wnt g p < 16 := by unfold wnt; split <;> omega
theorem fit_eq {n : Nat} {f g : Nat → Nat} (hn : n ≤ 8) (hf : ∀ p, p < n → f p < 8) (hg : ∀ p, p < n → g p ≤ 8) : (nI (pak f n) &&& nI (pak (ask g) n)) = nI (pak (wnt g) n) ↔ ∀ p, p < n → g p = 0 ∨ g p = f p + 1 := by
  rw [pak_andp f (ask g) hn (fun p hp => by have := hf p hp; omega) (fun p _ => ask_lt g p), pak_eq16 hn (fun p hp => Nat.lt_of_le_of_lt Nat.and_le_left (by have := hf p hp; omega)) (fun p hp => wnt_lt (hg p hp))]
  have key : ∀ p, p < n → ((f p &&& ask g p) = wnt g p ↔ (g p = 0 ∨ g p = f p + 1)) := fun p hp => by
    have h8 := hf p hp
    unfold ask wnt
    by_cases c : g p = 0
    · rw [if_pos c, if_pos c, Nat.and_zero]
      exact ⟨fun _ => Or.inl c, fun _ => rfl⟩
    · rw [if_neg c, if_neg c, show (15 : Nat) = 2 ^ 4 - 1 from rfl, Nat.and_two_pow_sub_one_eq_mod, Nat.mod_eq_of_lt (by omega)]
      omega
  exact ⟨fun h p hp => (key p hp).mp (h p hp), fun h p hp => (key p hp).mpr (h p hp)⟩
theorem ask_one {n q b : Nat} (hn : n ≤ 8) (hq : q < n) : shl 15 (nI (4 * q)) = nI (pak (ask (fun p => if p = q then b + 1 else 0)) n) := by
  rw [pak_cong (g := fun p => if p = q then 15 else 0) (fun p _ => by unfold ask; by_cases c : p = q <;> simp [c]), pak_at hq]
  exact (shlN 15 (by omega)).trans (by rw [p16])
theorem wnt_one {n q b : Nat} (hn : n ≤ 8) (hq : q < n) : shl (nI b) (nI (4 * q)) = nI (pak (wnt (fun p => if p = q then b + 1 else 0)) n) := by
  rw [pak_cong (g := fun p => if p = q then b else 0) (fun p _ => by unfold wnt; by_cases c : p = q <;> simp [c]), pak_at hq]
  exact (shlN b (by omega)).trans (by rw [p16])
theorem spt_eq {T : Tc} {n b q k : Nat} (ht : tok n T) (hb : b < n) (hq : q < n) (hk : k ≤ tN T) : spt T n b k = q ↔ trw T k q = b := by
  have hp := trw_pm ht k hk
  refine ⟨fun e => by rw [← e]; exact (inv_lt hp hb).2, fun e => ?_⟩
  unfold spt
  rw [← e]
  exact inv_at hp hq
/-! Runs: how far they go back. -/
def upl (f : Nat → Nat) : Nat → Nat
  | 0 => 1
  | p + 1 => if f (p + 1) = f p + 1 then upl f p + 1 else 1
def dnl (f : Nat → Nat) : Nat → Nat
  | 0 => 1
  | p + 1 => if f p = f (p + 1) + 1 then dnl f p + 1 else 1
theorem upl_iff (f : Nat → Nat) : ∀ p w, 1 ≤ w → (w ≤ upl f p ↔ w ≤ p + 1 ∧ ∀ i, p + 1 ≤ i + w → i < p → f (i + 1) = f i + 1)
  | 0, w, _ => ⟨fun h => ⟨h, fun i _ hi => by omega⟩, fun h => h.1⟩
  | p + 1, w, hw => by
    unfold upl
    by_cases c : f (p + 1) = f p + 1
    · rw [if_pos c]
      rcases Nat.lt_or_ge w 2 with c2 | c2
      · have e : w = 1 := by omega
        subst e
        exact ⟨fun _ => ⟨by omega, fun i _ hi => by omega⟩, fun _ => by omega⟩
      · have ih := upl_iff f p (w - 1) (by omega)
        refine ⟨fun h => ?_, fun ⟨h1, h2⟩ => ?_⟩
        · obtain ⟨g1, g2⟩ := ih.mp (by omega)
          refine ⟨by omega, fun i hi hi2 => ?_⟩
          by_cases c3 : i = p
          · subst c3; exact c
          · exact g2 i (by omega) (by omega)
        · have := ih.mpr ⟨by omega, fun i hi hi2 => h2 i (by omega) (by omega)⟩
          omega
    · rw [if_neg c]
      refine ⟨fun h => ⟨by omega, fun i _ hi => by omega⟩, fun ⟨h1, h2⟩ => ?_⟩
      rcases Nat.lt_or_ge w 2 with c2 | c2
      · omega
      · exact absurd (h2 p (by omega) (by omega)) c
theorem dnl_iff (f : Nat → Nat) : ∀ p w, 1 ≤ w → (w ≤ dnl f p ↔ w ≤ p + 1 ∧ ∀ i, p + 1 ≤ i + w → i < p → f i = f (i + 1) + 1)
  | 0, w, _ => ⟨fun h => ⟨h, fun i _ hi => by omega⟩, fun h => h.1⟩
  | p + 1, w, hw => by
    unfold dnl
    by_cases c : f p = f (p + 1) + 1
    · rw [if_pos c]
      rcases Nat.lt_or_ge w 2 with c2 | c2
      · have e : w = 1 := by omega
        subst e
        exact ⟨fun _ => ⟨by omega, fun i _ hi => by omega⟩, fun _ => by omega⟩
      · have ih := dnl_iff f p (w - 1) (by omega)
        refine ⟨fun h => ?_, fun ⟨h1, h2⟩ => ?_⟩
        · obtain ⟨g1, g2⟩ := ih.mp (by omega)
          refine ⟨by omega, fun i hi hi2 => ?_⟩
          by_cases c3 : i = p
          · subst c3; exact c
          · exact g2 i (by omega) (by omega)
        · have := ih.mpr ⟨by omega, fun i hi hi2 => h2 i (by omega) (by omega)⟩
          omega
    · rw [if_neg c]
      refine ⟨fun h => ⟨by omega, fun i _ hi => by omega⟩, fun ⟨h1, h2⟩ => ?_⟩
      rcases Nat.lt_or_ge w 2 with c2 | c2
      · omega
      · exact absurd (h2 p (by omega) (by omega)) c
theorem upl_le (f : Nat → Nat) : ∀ p, upl f p ≤ p + 1
  | 0 => Nat.le_refl 1
  | p + 1 => by have := upl_le f p; unfold upl; split <;> omega
theorem dnl_le (f : Nat → Nat) : ∀ p, dnl f p ≤ p + 1
  | 0 => Nat.le_refl 1
  | p + 1 => by have := dnl_le f p; unfold dnl; split <;> omega
def rnP (f : Nat → Nat) (w e : Nat) : Bool := decide (w ≤ upl f e) || decide (w ≤ dnl f e)
theorem rn_split {f : Nat → Nat} {n w : Nat} (hw : 1 ≤ w) (hn : w ≤ n) : fb_ct (rnP f w) n = fb_ct (fun p => rnP f w (w - 1 + p)) (n - w + 1) := by
  have e := fb_ct_split (rnP f w) (w - 1) (n - w + 1)
  rw [show w - 1 + (n - w + 1) = n by omega] at e
  rw [e, fb_ct_zero.mpr (fun k hk => ?_), Nat.zero_add]
  have h1 := upl_le f k
  have h2 := dnl_le f k
  unfold rnP
  rw [decide_eq_false (by omega), decide_eq_false (by omega)]
  rfl
/-- how many runs there are in all rows before k but the first -/
def rnS (T : Tc) (n w : Nat) : Nat → Nat := fb_sm (fun k => if k = 0 then 0 else fb_ct (rnP (trw T k) w) n)
theorem rnS_1 (T : Tc) (n w : Nat) : rnS T n w 1 = 0 := rfl
theorem rnS_s (T : Tc) (n w : Nat) {k : Nat} (hk : 1 ≤ k) : rnS T n w (k + 1) = rnS T n w k + fb_ct (rnP (trw T k) w) n := by
  show rnS T n w k + (if k = 0 then 0 else _) = _
  rw [if_neg (by omega)]
theorem ct2_yes {P : Nat → Bool} {k X : Nat} (h : P k = true) : nI (X + fb_ct P k) + 1 = nI (X + fb_ct P (k + 1)) := by
  rw [nI_1, fb_ct_succ, if_pos h]; rfl
theorem ct2_no {P : Nat → Bool} {k X : Nat} (h : ¬ P k = true) : nI (X + fb_ct P k) = nI (X + fb_ct P (k + 1)) := by
  rw [fb_ct_succ P k, if_neg h]; rfl
theorem ct2_no0 {P : Nat → Bool} {k X : Nat} (h : ¬ P k = true) : nI (X + fb_ct P k) + 0 = nI (X + fb_ct P (k + 1)) := by
  rw [fb_ct_succ P k, if_neg h]; exact nI_add _ 0
theorem sub_1 {a b : Nat} (ha : a < 8) (hb : b < 8) : nI a - nI b = 1 ↔ a = b + 1 := by
  rw [fa_eq, pk_sub_toInt (by omega) (by omega), show (1 : Int32).toInt = 1 from rfl]; omega
theorem sub_m1 {a b : Nat} (ha : a < 8) (hb : b < 8) : nI a - nI b = -1 ↔ b = a + 1 := by
  rw [fa_eq, pk_sub_toInt (by omega) (by omega), show (-1 : Int32).toInt = -1 from rfl]; omega
theorem add_m1 {a b : Nat} (ha : a < 8) (hb : b < 8) : nI a = nI b + (-1) ↔ b = a + 1 := by
  cases b with
  | zero =>
    refine ⟨fun e => ?_, fun e => by omega⟩
    have h := nI_pos (n := a) (by omega)
    rw [e] at h
    exact absurd (by decide) h
  | succ b =>
    rw [pk_m1, nI_eq (by omega) (by omega)]
    omega
theorem sp_runsOf {T : Tc} {n t w : Nat} {im : Nat → Prop} {S : St} {Q : Int32 → Prop} (h : TX T n im S t) (ht : tok n T) (hn : n ≤ 8) (hn1 : 1 ≤ n) (hw : w ≤ n) (hw2 : 2 ≤ w) (hq : Q (nI (rnS T n w (tN T + 1)))) : P_X8_runsOf t (nI w) S Q := by
  obtain ⟨-, h2, h3, -, -, a, r, -, ka, l, gg⟩ := h
  have hN := ht.1
  refine ⟨h2, fun v x2 x3 => ∃ k, 1 ≤ k ∧ k ≤ tN T + 1 ∧ v = tN T + 1 - k ∧ x2 = nI (rnS T n w k) ∧ x3 = nI k, ⟨tN T, 1, by omega, by omega, rfl, rfl, rfl⟩, ?_⟩
  rintro v x2 x3 ⟨k, hk1, hk, rfl, rfl, rfl⟩
  refine ⟨a, r, ka, ?_⟩
  rw [l]
  refine ⟨fun hc => ?_, fun hc => ?_⟩
  · have : tN T + 1 ≤ k := (nI_leI (by omega) (by omega)).mp hc
    have e : k = tN T + 1 := by omega
    subst e
    exact hq
  · have hlt := nI_gtI (by omega) (by omega) hc
    have hp := trw_pm ht k (by omega)
    have h8 := pm8 hn hp
    refine ⟨fun v y2 y4 y5 y6 => ∃ p, 1 ≤ p ∧ p ≤ n ∧ v = n - p ∧ y2 = nI (rnS T n w k + fb_ct (rnP (trw T k) w) p) ∧ y4 = nI (upl (trw T k) (p - 1)) ∧ y5 = nI (dnl (trw T k) (p - 1)) ∧ y6 = nI p, ⟨n - 1, 1, by omega, by omega, rfl, ?_, rfl, rfl, rfl⟩, ?_⟩
    · rw [ct_from1 (by unfold rnP; rw [decide_eq_false (by show ¬ w ≤ 1; omega), decide_eq_false (by show ¬ w ≤ 1; omega)]; rfl)]; rfl
    rintro v y2 y4 y5 y6 ⟨p, hp1, hpn, rfl, rfl, rfl, rfl, rfl⟩
    rw [h3]
    refine ⟨fun hc2 w1 e1 => ?_, fun hc2 => ?_⟩
    · have : n ≤ p := (nI_leI (by omega) (by omega)).mp hc2
      have e : p = n := by omega
      subst e
      exact ⟨tN T + 1 - (k + 1), by omega, k + 1, by omega, by omega, rfl, by rw [rnS_s T p w hk1], by rw [e1]; exact nI_1 k⟩
    · have hpl := nI_gtI (by omega) (by omega) hc2
      refine ⟨vp_in_nI (by omega) (by omega), ?_⟩
      rw [nI_clamp (by omega), gg k (by omega)]
      have ep : nI p - 1 = nI (p - 1) := le_sub1 hp1
      rw [ep]
      refine sp_bellAt hn h8 hpl (sp_bellAt hn h8 (by omega) (fun v17 e17 => ?_))
      subst e17
      obtain ⟨q, rfl⟩ : ∃ q, p = q + 1 := ⟨p - 1, by omega⟩
      rw [show q + 1 - 1 = q from rfl]
      have a1 := h8 (q + 1) hpl
      have a2 := h8 q (by omega)
      have u1 := upl_le (trw T k) (q + 1)
      have u2 := dnl_le (trw T k) (q + 1)
      refine ⟨fun t => t = nI (upl (trw T k) (q + 1)), ?_, fun hne => ?_, fun he => ?_⟩
      · rintro _ rfl
        refine ⟨fun t => t = nI (dnl (trw T k) (q + 1)), ?_, fun hne => ?_, fun he => ?_⟩
        · rintro _ rfl
          refine ⟨fun c1 w1 e1 w2 e2 => ⟨n - (q + 1 + 1), by omega, q + 1 + 1, by omega, by omega, rfl, ?_, rfl, rfl, by rw [e2]; exact nI_1 _⟩, fun c1 => ⟨fun c2 w1 e1 => ⟨n - (q + 1 + 1), by omega, q + 1 + 1, by omega, by omega, rfl, ?_, rfl, rfl, by rw [e1]; exact nI_1 _⟩, fun c2 w1 e1 w2 e2 => ⟨n - (q + 1 + 1), by omega, q + 1 + 1, by omega, by omega, rfl, ?_, rfl, rfl, by rw [e2]; exact nI_1 _⟩⟩⟩
          · have c1' : w ≤ upl (trw T k) (q + 1) := (nI_leI (by omega) (by omega)).mp c1
            rw [e1]; exact ct2_yes (by unfold rnP; rw [decide_eq_true c1']; rfl)
          · have c1' : ¬ w ≤ upl (trw T k) (q + 1) := fun c => c1 (nI_le c (by omega))
            have c2' : ¬ w ≤ dnl (trw T k) (q + 1) := fun c => nI_nlt c (by omega) c2
            exact ct2_no (by unfold rnP; rw [decide_eq_false c1', decide_eq_false c2']; decide)
          · have c2' : w ≤ dnl (trw T k) (q + 1) := by
              rcases Nat.lt_or_ge (dnl (trw T k) (q + 1)) w with c | c
              · exact absurd (nI_lt c (by omega)) c2
              · exact c
            rw [e1]; exact ct2_yes (by unfold rnP; rw [decide_eq_true c2', Bool.or_true])
        · rw [sub_m1 a1 a2] at hne
          show (1 : Int32) = nI (if trw T k q = trw T k (q + 1) + 1 then dnl (trw T k) q + 1 else 1)
          rw [if_neg hne]; rfl
        · rw [sub_m1 a1 a2] at he
          show nI (dnl (trw T k) q) + 1 = nI (if trw T k q = trw T k (q + 1) + 1 then dnl (trw T k) q + 1 else 1)
          rw [if_pos he, nI_1]
      · rw [sub_1 a1 a2] at hne
        show (1 : Int32) = nI (if trw T k (q + 1) = trw T k q + 1 then upl (trw T k) q + 1 else 1)
        rw [if_neg hne]; rfl
      · rw [sub_1 a1 a2] at he
        show nI (upl (trw T k) q) + 1 = nI (if trw T k (q + 1) = trw T k q + 1 then upl (trw T k) q + 1 else 1)
        rw [if_pos he, nI_1]
theorem sm_isRunU {S : St} {m n p w : Nat} {f : Nat → Nat} {am : Nat → Nat} {Q : Int32 → Prop} (hL : LM S m am) (hn : n ≤ 8) (hf : ∀ p, p < n → f p < 8) (hr : Rw (gI S) (am 24) n f) (hw : 1 ≤ w) (hp : p + w ≤ n)
    (hq : w ≤ upl f (w - 1 + p) → Q 1) (hq2 : ¬ w ≤ upl f (w - 1 + p) → Q 0) : P_X12_isRun m (nI p) (nI w) 1 S Q := by
  refine ⟨hL.z, fun v1 e1 => ?_⟩
  rw [nI_1] at e1
  subst e1
  rw [nI_add]
  refine ⟨fun u x4 => ∃ i, p + 1 ≤ i ∧ i ≤ p + w ∧ u = p + w - i ∧ x4 = nI i ∧ ∀ j, p ≤ j → j + 1 < i → f (j + 1) = f j + 1, ⟨p + w - (p + 1), p + 1, by omega, by omega, rfl, rfl, fun j _ _ => by omega⟩, ?_⟩
  rintro u x4 ⟨i, hi1, hi2, rfl, rfl, hj⟩
  refine ⟨fun hc => ?_, fun hc => ?_⟩
  · have : p + w ≤ i := (nI_leI (by omega) (by omega)).mp hc
    exact hq ((upl_iff f _ w hw).mpr ⟨by omega, fun j h1 h2 => hj j (by omega) (by omega)⟩)
  · have hlt := nI_gtI (by omega) (by omega) hc
    have ei : nI i - 1 = nI (i - 1) := sub1 (by omega)
    rw [ei]
    have b1 := hf i (by omega)
    have b2 := hf (i - 1) (by omega)
    refine ⟨am 24, hL.r 24, hL.k 24, hL.i 24 (by show i < 8; omega), hL.i 24 (by show i - 1 < 8; omega), ?_⟩
    rw [nI_clamp (by omega), nI_clamp (by omega), hr i (by omega), hr (i - 1) (by omega), nI_1, nI_eq (by omega) (by omega)]
    refine ⟨fun he v ev => ⟨p + w - (i + 1), by omega, i + 1, by omega, by omega, rfl, by rw [ev]; exact nI_1 i, fun j h1 h2 => ?_⟩, fun hne => hq2 (fun c => hne ?_)⟩
    · by_cases c : j = i - 1
      · subst c; rw [show i - 1 + 1 = i by omega]; exact he
      · exact hj j h1 (by omega)
    · have := ((upl_iff f _ w hw).mp c).2 (i - 1) (by omega) (by omega)
      rw [show i - 1 + 1 = i by omega] at this
      exact this
theorem sm_isRunD {S : St} {m n p w : Nat} {f : Nat → Nat} {am : Nat → Nat} {Q : Int32 → Prop} (hL : LM S m am) (hn : n ≤ 8) (hf : ∀ p, p < n → f p < 8) (hr : Rw (gI S) (am 24) n f) (hw : 1 ≤ w) (hp : p + w ≤ n)
    (hq : w ≤ dnl f (w - 1 + p) → Q 1) (hq2 : ¬ w ≤ dnl f (w - 1 + p) → Q 0) : P_X12_isRun m (nI p) (nI w) (-1) S Q := by
  refine ⟨hL.z, fun v1 e1 => ?_⟩
  rw [nI_1] at e1
  subst e1
  rw [nI_add]
  refine ⟨fun u x4 => ∃ i, p + 1 ≤ i ∧ i ≤ p + w ∧ u = p + w - i ∧ x4 = nI i ∧ ∀ j, p ≤ j → j + 1 < i → f j = f (j + 1) + 1, ⟨p + w - (p + 1), p + 1, by omega, by omega, rfl, rfl, fun j _ _ => by omega⟩, ?_⟩
  rintro u x4 ⟨i, hi1, hi2, rfl, rfl, hj⟩
  refine ⟨fun hc => ?_, fun hc => ?_⟩
  · have : p + w ≤ i := (nI_leI (by omega) (by omega)).mp hc
    exact hq ((dnl_iff f _ w hw).mpr ⟨by omega, fun j h1 h2 => hj j (by omega) (by omega)⟩)
  · have hlt := nI_gtI (by omega) (by omega) hc
    have ei : nI i - 1 = nI (i - 1) := sub1 (by omega)
    rw [ei]
    have b1 := hf i (by omega)
    have b2 := hf (i - 1) (by omega)
    refine ⟨am 24, hL.r 24, hL.k 24, hL.i 24 (by show i < 8; omega), hL.i 24 (by show i - 1 < 8; omega), ?_⟩
    rw [nI_clamp (by omega), nI_clamp (by omega), hr i (by omega), hr (i - 1) (by omega), add_m1 b1 b2]
    refine ⟨fun he v ev => ⟨p + w - (i + 1), by omega, i + 1, by omega, by omega, rfl, by rw [ev]; exact nI_1 i, fun j h1 h2 => ?_⟩, fun hne => hq2 (fun c => hne ?_)⟩
    · by_cases c : j = i - 1
      · subst c; rw [show i - 1 + 1 = i by omega]; exact he
      · exact hj j h1 (by omega)
    · have := ((dnl_iff f _ w hw).mp c).2 (i - 1) (by omega) (by omega)
      rw [show i - 1 + 1 = i by omega] at this
      exact this
theorem chd_fix {n : Nat} {sw : Nat → Bool} {f : Nat → Nat} (hs : Sw n sw) (hf : Pm n f) : ∀ p, p < n → (f p = chd sw f p ↔ stf sw p = true) := fun p hp => by
  unfold chd stf
  by_cases c : sw p = true
  · rw [if_pos c, c]
    have h1 := (hs p c).1
    exact ⟨fun e => absurd (pm_inj hf hp h1 e) (by omega), fun e => by simp at e⟩
  · rw [if_neg c, ts_nt c]
    by_cases c2 : p ≠ 0 ∧ sw (p - 1) = true
    · rw [if_pos c2, decide_eq_true c2.1, c2.2]
      exact ⟨fun e => absurd (pm_inj hf hp (by omega) e) (by omega), fun e => by simp at e⟩
    · rw [if_neg c2]
      refine ⟨fun _ => ?_, fun _ => rfl⟩
      by_cases c3 : p = 0
      · subst c3; rfl
      · rw [ts_nt (fun e => c2 ⟨c3, e⟩)]; simp
theorem stays_tv {n : Nat} {T : Tc} (hn : n ≤ 8) (ht : tok n T) {k : Nat} (hk : k < tN T) : msk (fun p => decide (lay n (num n (trw T k)) p = lay n (num n (trw T (k + 1))) p)) n = msk (stf (tv T k)) n := msk_cong (fun p hp => by
  rw [lay_num hn (trw_pm ht k (by omega)) p hp, lay_num hn (trw_pm ht (k + 1) hk) p hp]
  have := chd_fix (ht.2 k hk) (trw_pm ht k (by omega)) p hp
  by_cases c : stf (tv T k) p = true
  · rw [c]; exact decide_eq_true (this.mpr c)
  · rw [ts_nt c]; exact decide_eq_false (fun e => c (this.mp e)))
section CT2
variable {S : St} {x b m : Nat} {am : Nat → Nat} {im : Nat → Prop} {B : Bk} {o : Option Tc} {Q1 : Int32 → FI → Prop}
theorem call_blows (h : CB S x b m am im B) (hr : RC S x am im (bn B) o) (r p : Int32) (hq : ∀ v F, Th S x m am v (P_X12_blows m r p (wI S F)) → Q1 v F) : P_X11_blows x r p S Q1 := by
  have L1 : ∀ s, LM (wI S (upI (gI S) x 0 s)) m am := fun _ => h.L
  have hn := h.n8
  rcases nb_case (bn B) (by omega) r with ⟨j, hj, rfl⟩ | hrn
  · rcases nb_case (bn B) (by omega) p with ⟨q, hqn, rfl⟩ | hp
    · cases o with
      | none =>
        refine ⟨h.x, xBy h hj ⟨False, False.elim, fun c => absurd c one0, fun _ => xBy h hqn ⟨fun _ => ⟨fun c => absurd hr.1 c, fun _ => rf h.x (hq _ _ (fun Q2 h2 => ?_))⟩, fun c => absurd c one0⟩⟩⟩
        have h6 := (RC.n (s := 6) h hr).2
        exact ⟨h.L.z, mBy (L1 6) h.o (h.M1 6) hj ⟨False, False.elim, fun c => absurd c one0, fun _ => mBy (L1 6) h.o (h.M1 6) hqn ⟨fun _ => ⟨am 0, h.L.r 0, h.L.k 0, h.L.i 0 (p := 6) (by decide), fun c => absurd h6 c, fun _ => rfm h.L.z Kp.rf h2⟩, fun c => absurd c one0⟩⟩⟩
      | some T =>
        have hr' := hr
        obtain ⟨ht, t, rt, tx, -⟩ := hr'
        have hN := ht.1
        have h6 := RC.s h hr 0
        have k8 := tx.2.1
        refine ⟨h.x, xBy h hj ⟨False, False.elim, fun c => absurd c one0, fun _ => xBy h hqn ⟨fun _ => ⟨fun _ v8 e8 => ⟨t, rt, k8, ?_⟩, fun c => absurd c (some_ne rt)⟩, fun c => absurd c one0⟩⟩⟩
        have e8' : v8 = nI (4 * q) := by rw [e8, nI_pred]; exact mulN 4 q
        subst e8'
        rw [nI_pred, ask_one (b := j) hn hqn, wnt_one hn hqn]
        refine sp_fitting (P := fun k => decide (1 ≤ k) && decide (spt T (bn B) j k = q)) tx ht rfl (fun k hk1 hk => ?_) (an h.x (hq _ _ (fun Q2 h2 => ?_)))
        · rw [fit_eq hn (pm8 hn (trw_pm ht k hk)) (fun p _ => by show (if p = q then j + 1 else 0) ≤ 8; split <;> omega), decide_eq_true hk1, Bool.true_and, decide_eq_true_iff, spt_eq ht hj hqn hk]
          refine ⟨fun hh => ?_, fun e p _ => ?_⟩
          · have := hh q hqn
            simp at this
            omega
          · by_cases c : p = q
            · subst c; right; simp [e]
            · left; simp [c]
        · obtain ⟨P, hP⟩ : ∃ P : Nat → Bool, P = fun k => decide (1 ≤ k) && decide (spt T (bn B) j k = q) := ⟨_, rfl⟩
          rw [← hP] at h2
          have e6 : gI (wI S (upI (gI S) x 0 0)) (am 0) 6 = nI (tN T) := h6.1
          refine ⟨h.L.z, mBy (L1 0) h.o (h.M1 0) hj ⟨False, False.elim, fun c => absurd c one0, fun _ => mBy (L1 0) h.o (h.M1 0) hqn ⟨fun _ => ⟨am 0, h.L.r 0, h.L.k 0, h.L.i 0 (p := 6) (by decide), fun _ => ?_, fun c => absurd (e6.symm.trans c) (N_ne hN)⟩, fun c => absurd c one0⟩⟩⟩
          refine ⟨fun v x3 x4 F => ∃ k, 1 ≤ k ∧ k ≤ tN T + 1 ∧ v = tN T + 1 - k ∧ x3 = nI (fb_ct P k) ∧ x4 = nI k ∧ Kp tQ m am (upI (gI S) x 0 0) F, ⟨tN T, 1, by omega, by omega, rfl, by rw [ct_from1 (by rw [hP]; rfl)]; rfl, rfl, Kp.rf⟩, ?_⟩
          rintro v x3 x4 F ⟨k, hk1, hk, rfl, rfl, rfl, kk⟩
          have L2 : LM (wI S F) m am := h.L
          have B2 := (h.M1 0).kp h.L kk
          have T2 : TM T (bn B) (F (am 0)) := h6.kp h.L kk
          rw [T2.1]
          refine ⟨fun hc => ?_, fun hc => ?_⟩
          · have : tN T + 1 = k := by
              rcases Nat.lt_or_ge (tN T) k with c | c
              · omega
              · exact absurd hc (nI_nlt c (by omega))
            subst this
            exact gvm h.L.z kk h2
          · have hlt : k ≤ tN T := by
              rcases Nat.lt_or_ge (tN T) k with c | c
              · exact absurd (nI_lt c (by omega)) hc
              · exact c
            rw [ix410]
            refine ⟨h.L.i 0 (by show 410 + k < 12100; omega), ?_⟩
            rw [nI_clamp (by omega), T2.2 k hlt]
            refine sm_placeIn L2 hn h.n1 B2.1 (trw_pm ht k hlt) hj (fun F' o' => ?_)
            have kk' : Kp tQ m am (upI (gI S) x 0 0) F' := kk.tr (Kp.on h.L 24 o')
            have s1 := spt_lt ht hj hlt
            show (¬ nI (spt T (bn B) j k + 1) = _ → _) ∧ (nI (spt T (bn B) j k + 1) = _ → _)
            rw [nI_eq (by omega) (by omega)]
            refine ⟨fun hne w1 e1 w2 e2 => ⟨tN T + 1 - (k + 1), by omega, k + 1, by omega, by omega, rfl, e1.trans (ct_no0 ?_), by rw [e2]; exact nI_1 k, kk'⟩, fun he w1 e1 w2 e2 => ⟨tN T + 1 - (k + 1), by omega, k + 1, by omega, by omega, rfl, e1.trans (ct_yes ?_), by rw [e2]; exact nI_1 k, kk'⟩⟩
            · rw [hP]; show ¬ (decide (1 ≤ k) && decide (spt T (bn B) j k = q)) = true
              rw [decide_eq_true hk1, decide_eq_false (by omega)]; decide
            · rw [hP]; show (decide (1 ≤ k) && decide (spt T (bn B) j k = q)) = true
              rw [decide_eq_true hk1, decide_eq_true (by omega)]; rfl
    · refine ⟨h.x, xBy h hj ⟨True, fun _ => rf h.x (hq _ _ (fun Q2 h2 => ?_)), fun c => absurd c one0, fun _ => xBn h hp ⟨fun c => absurd rfl c, fun _ => trivial⟩⟩⟩
      exact ⟨h.L.z, mBy (L1 1) h.o (h.M1 1) hj ⟨True, fun _ => rfm h.L.z Kp.rf h2, fun c => absurd c one0, fun _ => mBn (L1 1) h.o (h.M1 1) hp ⟨fun c => absurd rfl c, fun _ => trivial⟩⟩⟩
  · refine ⟨h.x, xBn h hrn ⟨True, fun _ => rf h.x (hq _ _ (fun Q2 h2 => ?_)), fun _ => trivial, fun c => absurd rfl c⟩⟩
    exact ⟨h.L.z, mBn (L1 1) h.o (h.M1 1) hrn ⟨True, fun _ => rfm h.L.z Kp.rf h2, fun _ => trivial, fun c => absurd rfl c⟩⟩
theorem call_lies (h : CB S x b m am im B) (hr : RC S x am im (bn B) o) (r : Int32) (hq : ∀ v F, Th S x m am v (P_X12_lies m r (wI S F)) → Q1 v F) : P_X11_lies x r S Q1 := by
  have L1 : ∀ s, LM (wI S (upI (gI S) x 0 s)) m am := fun _ => h.L
  have hn := h.n8
  rcases nb_case (bn B) (by omega) r with ⟨j, hj, rfl⟩ | hrn
  · cases o with
    | none =>
      refine ⟨h.x, xBy h hj ⟨fun _ => ⟨fun c => absurd hr.1 c, fun _ => rf h.x (hq _ _ (fun Q2 h2 => ?_))⟩, fun c => absurd c one0⟩⟩
      have h6 := (RC.n (s := 6) h hr).2
      exact ⟨h.L.z, mBy (L1 6) h.o (h.M1 6) hj ⟨fun _ => ⟨am 0, h.L.r 0, h.L.k 0, h.L.i 0 (p := 6) (by decide), fun c => absurd h6 c, fun _ => rfm h.L.z Kp.rf h2⟩, fun c => absurd c one0⟩⟩
    | some T =>
      have hr' := hr
      obtain ⟨ht, t, rt, tx, -⟩ := hr'
      have hN := ht.1
      have h6 := RC.s h hr 0
      have k8 := tx.2.1
      refine ⟨h.x, xBy h hj ⟨fun _ => ⟨fun _ => ⟨t, rt, k8, ?_⟩, fun c => absurd c (some_ne rt)⟩, fun c => absurd c one0⟩⟩
      rw [nI_pred]
      refine sp_liesOf tx ht hn hj (an h.x (hq _ _ (fun Q2 h2 => ?_)))
      obtain ⟨P, hP⟩ : ∃ P : Nat → Bool, P = fun k => decide (1 ≤ k) && decide (spt T (bn B) j k = spt T (bn B) j (k - 1)) := ⟨_, rfl⟩
      rw [← hP] at h2
      have e6 : gI (wI S (upI (gI S) x 0 0)) (am 0) 6 = nI (tN T) := h6.1
      refine ⟨h.L.z, mBy (L1 0) h.o (h.M1 0) hj ⟨fun _ => ⟨am 0, h.L.r 0, h.L.k 0, h.L.i 0 (p := 6) (by decide), fun _ => ?_, fun c => absurd (e6.symm.trans c) (N_ne hN)⟩, fun c => absurd c one0⟩⟩
      refine ⟨fun v x3 x4 F => ∃ k, 1 ≤ k ∧ k ≤ tN T + 1 ∧ v = tN T + 1 - k ∧ x3 = nI (fb_ct P k) ∧ x4 = nI k ∧ Kp tQ m am (upI (gI S) x 0 0) F, ⟨tN T, 1, by omega, by omega, rfl, by rw [ct_from1 (by rw [hP]; rfl)]; rfl, rfl, Kp.rf⟩, ?_⟩
      rintro v x3 x4 F ⟨k, hk1, hk, rfl, rfl, rfl, kk⟩
      have L2 : LM (wI S F) m am := h.L
      have B2 := (h.M1 0).kp h.L kk
      have T2 : TM T (bn B) (F (am 0)) := h6.kp h.L kk
      rw [T2.1]
      refine ⟨fun hc => ?_, fun hc => ?_⟩
      · have : tN T + 1 = k := by
          rcases Nat.lt_or_ge (tN T) k with c | c
          · omega
          · exact absurd hc (nI_nlt c (by omega))
        subst this
        exact gvm h.L.z kk h2
      · have hlt : k ≤ tN T := by
          rcases Nat.lt_or_ge (tN T) k with c | c
          · exact absurd (nI_lt c (by omega)) hc
          · exact c
        have ix1 : nI (410 + k) - 1 = nI (410 + (k - 1)) := by
          rw [sub1 (a := 410 + k) (by omega), show 410 + k - 1 = 410 + (k - 1) by omega]
        rw [ix410, ix1]
        refine ⟨h.L.i 0 (by show 410 + k < 12100; omega), ?_⟩
        rw [nI_clamp (by omega), T2.2 k hlt]
        refine sm_placeIn L2 hn h.n1 B2.1 (trw_pm ht k hlt) hj (fun F3 o3 => ?_)
        have kk3 : Kp tQ m am (upI (gI S) x 0 0) F3 := kk.tr (Kp.on h.L 24 o3)
        have L3 : LM (wI S F3) m am := h.L
        have B3 := (h.M1 0).kp h.L kk3
        have T3 : TM T (bn B) (F3 (am 0)) := h6.kp h.L kk3
        refine ⟨h.L.i 0 (by show 410 + (k - 1) < 12100; omega), ?_⟩
        rw [nI_clamp (by omega), T3.2 (k - 1) (by omega)]
        refine sm_placeIn L3 hn h.n1 B3.1 (trw_pm ht (k - 1) (by omega)) hj (fun F' o' => ?_)
        have kk' : Kp tQ m am (upI (gI S) x 0 0) F' := kk3.tr (Kp.on h.L 24 o')
        have s1 := spt_lt ht hj hlt
        have s2 := spt_lt ht hj (show k - 1 ≤ tN T by omega)
        show (¬ nI (spt T (bn B) j k + 1) = nI (spt T (bn B) j (k - 1) + 1) → _) ∧ (nI (spt T (bn B) j k + 1) = nI (spt T (bn B) j (k - 1) + 1) → _)
        rw [nI_eq (by omega) (by omega)]
        refine ⟨fun hne w1 e1 w2 e2 => ⟨tN T + 1 - (k + 1), by omega, k + 1, by omega, by omega, rfl, e1.trans (ct_no0 ?_), by rw [e2]; exact nI_1 k, kk'⟩, fun he w1 e1 w2 e2 => ⟨tN T + 1 - (k + 1), by omega, k + 1, by omega, by omega, rfl, e1.trans (ct_yes ?_), by rw [e2]; exact nI_1 k, kk'⟩⟩
        · rw [hP]; show ¬ (decide (1 ≤ k) && decide (spt T (bn B) j k = spt T (bn B) j (k - 1))) = true
          rw [decide_eq_true hk1, decide_eq_false (by omega)]; decide
        · rw [hP]; show (decide (1 ≤ k) && decide (spt T (bn B) j k = spt T (bn B) j (k - 1))) = true
          rw [decide_eq_true hk1, decide_eq_true (by omega)]; rfl
  · refine ⟨h.x, xBn h hrn ⟨fun c => absurd rfl c, fun _ => rf h.x (hq _ _ (fun Q2 h2 => ?_))⟩⟩
    exact ⟨h.L.z, mBn (L1 1) h.o (h.M1 1) hrn ⟨fun c => absurd rfl c, fun _ => rfm h.L.z Kp.rf h2⟩⟩
theorem call_dodges (h : CB S x b m am im B) (hr : RC S x am im (bn B) o) (r : Int32) (hq : ∀ v F, Th S x m am v (P_X12_dodges m r (wI S F)) → Q1 v F) : P_X11_dodges x r S Q1 := by
  have L1 : ∀ s, LM (wI S (upI (gI S) x 0 s)) m am := fun _ => h.L
  have hn := h.n8
  rcases nb_case (bn B) (by omega) r with ⟨j, hj, rfl⟩ | hrn
  · cases o with
    | none =>
      refine ⟨h.x, xBy h hj ⟨fun _ => ⟨fun c => absurd hr.1 c, fun _ => rf h.x (hq _ _ (fun Q2 h2 => ?_))⟩, fun c => absurd c one0⟩⟩
      have h6 := (RC.n (s := 6) h hr).2
      exact ⟨h.L.z, mBy (L1 6) h.o (h.M1 6) hj ⟨fun _ => ⟨am 0, h.L.r 0, h.L.k 0, h.L.i 0 (p := 6) (by decide), fun c => absurd h6 c, fun _ => rfm h.L.z Kp.rf h2⟩, fun c => absurd c one0⟩⟩
    | some T =>
      have hr' := hr
      obtain ⟨ht, t, rt, tx, -⟩ := hr'
      have hN := ht.1
      have h6 := RC.s h hr 0
      have k8 := tx.2.1
      refine ⟨h.x, xBy h hj ⟨fun _ => ⟨fun _ => ⟨t, rt, k8, ?_⟩, fun c => absurd c (some_ne rt)⟩, fun c => absurd c one0⟩⟩
      rw [nI_pred]
      refine sp_dodgesOf tx ht hn hj (an h.x (hq _ _ (fun Q2 h2 => ?_)))
      have e6 : gI (wI S (upI (gI S) x 0 0)) (am 0) 6 = nI (tN T) := h6.1
      have lo : ∀ k, k ≤ 2 → fb_ct (dgP T (bn B) j) k = 0 := fun k hk => fb_ct_zero.mpr (fun i hi => by unfold dgP; rw [decide_eq_false (by omega), Bool.false_and])
      refine ⟨h.L.z, mBy (L1 0) h.o (h.M1 0) hj ⟨fun _ => ⟨am 0, h.L.r 0, h.L.k 0, h.L.i 0 (p := 6) (by decide), fun _ => ?_, fun c => absurd (e6.symm.trans c) (N_ne hN)⟩, fun c => absurd c one0⟩⟩
      refine ⟨fun v x3 x4 F => ∃ k, 2 ≤ k ∧ (k = 2 ∨ k ≤ tN T + 1) ∧ v = tN T + 1 - k ∧ x3 = nI (fb_ct (dgP T (bn B) j) k) ∧ x4 = nI k ∧ Kp tQ m am (upI (gI S) x 0 0) F, ⟨tN T + 1 - 2, 2, by omega, Or.inl rfl, rfl, by rw [lo 2 (by omega)]; rfl, rfl, Kp.rf⟩, ?_⟩
      rintro v x3 x4 F ⟨k, hk1, hk, rfl, rfl, rfl, kk⟩
      have L2 : LM (wI S F) m am := h.L
      have B2 := (h.M1 0).kp h.L kk
      have T2 : TM T (bn B) (F (am 0)) := h6.kp h.L kk
      rw [T2.1]
      refine ⟨fun hc => ?_, fun hc => ?_⟩
      · have hle : tN T < k := by
          rcases Nat.lt_or_ge (tN T) k with c | c
          · omega
          · exact absurd hc (nI_nlt c (by omega))
        have : fb_ct (dgP T (bn B) j) k = fb_ct (dgP T (bn B) j) (tN T + 1) := by
          rcases hk with c | c
          · rw [lo k (by omega), lo (tN T + 1) (by omega)]
          · rw [show k = tN T + 1 by omega]
        rw [this]
        exact gvm h.L.z kk h2
      · have hlt : k ≤ tN T := by
          rcases Nat.lt_or_ge (tN T) k with c | c
          · exact absurd (nI_lt c (by omega)) hc
          · exact c
        have ix1 : nI (410 + k) - 1 = nI (410 + (k - 1)) := by
          rw [sub1 (a := 410 + k) (by omega), show 410 + k - 1 = 410 + (k - 1) by omega]
        have ix2 : nI (410 + k) - 2 = nI (410 + (k - 2)) := by
          rw [show nI (410 + k) - 2 = nI (410 + k - 2) from le_sub1 (b := 2) (by omega), show 410 + k - 2 = 410 + (k - 2) by omega]
        rw [ix410, ix1, ix2]
        refine ⟨h.L.i 0 (by show 410 + k < 12100; omega), ?_⟩
        rw [nI_clamp (by omega), T2.2 k hlt]
        refine sm_placeIn L2 hn h.n1 B2.1 (trw_pm ht k hlt) hj (fun F3 o3 => ?_)
        have kk3 : Kp tQ m am (upI (gI S) x 0 0) F3 := kk.tr (Kp.on h.L 24 o3)
        have L3 : LM (wI S F3) m am := h.L
        have B3 := (h.M1 0).kp h.L kk3
        have T3 : TM T (bn B) (F3 (am 0)) := h6.kp h.L kk3
        refine ⟨h.L.i 0 (by show 410 + (k - 2) < 12100; omega), ?_⟩
        rw [nI_clamp (by omega), T3.2 (k - 2) (by omega)]
        refine sm_placeIn L3 hn h.n1 B3.1 (trw_pm ht (k - 2) (by omega)) hj (fun F4 o4 => ?_)
        have kk4 : Kp tQ m am (upI (gI S) x 0 0) F4 := kk3.tr (Kp.on h.L 24 o4)
        have L4 : LM (wI S F4) m am := h.L
        have B4 := (h.M1 0).kp h.L kk4
        have T4 : TM T (bn B) (F4 (am 0)) := h6.kp h.L kk4
        have s1 := spt_lt ht hj hlt
        have s2 := spt_lt ht hj (show k - 1 ≤ tN T by omega)
        have s3 := spt_lt ht hj (show k - 2 ≤ tN T by omega)
        show (¬ nI (spt T (bn B) j (k - 2) + 1) = nI (spt T (bn B) j k + 1) → _) ∧ (nI (spt T (bn B) j (k - 2) + 1) = nI (spt T (bn B) j k + 1) → _)
        rw [nI_eq (by omega) (by omega)]
        refine ⟨fun hne w1 e1 w2 e2 => ⟨tN T + 1 - (k + 1), by omega, k + 1, by omega, by omega, rfl, e1.trans (ct_no0 ?_), by rw [e2]; exact nI_1 k, kk4⟩, fun he => ⟨h.L.i 0 (by show 410 + (k - 1) < 12100; omega), ?_⟩⟩
        · unfold dgP; rw [decide_eq_true hk1, decide_eq_false (by omega), Bool.false_and]; decide
        · rw [nI_clamp (by omega), T4.2 (k - 1) (by omega)]
          refine sm_placeIn L4 hn h.n1 B4.1 (trw_pm ht (k - 1) (by omega)) hj (fun F' o' => ?_)
          have kk' : Kp tQ m am (upI (gI S) x 0 0) F' := kk4.tr (Kp.on h.L 24 o')
          show (nI (spt T (bn B) j (k - 1) + 1) = nI (spt T (bn B) j k + 1) → _) ∧ (¬ nI (spt T (bn B) j (k - 1) + 1) = nI (spt T (bn B) j k + 1) → _)
          rw [nI_eq (by omega) (by omega)]
          refine ⟨fun he2 w1 e1 w2 e2 => ⟨tN T + 1 - (k + 1), by omega, k + 1, by omega, by omega, rfl, e1.trans (ct_no0 ?_), by rw [e2]; exact nI_1 k, kk'⟩, fun hne w1 e1 w2 e2 => ⟨tN T + 1 - (k + 1), by omega, k + 1, by omega, by omega, rfl, e1.trans (ct_yes ?_), by rw [e2]; exact nI_1 k, kk'⟩⟩
          · unfold dgP; rw [decide_eq_true hk1, decide_eq_true (show spt T (bn B) j k = spt T (bn B) j (k - 2) by omega), decide_eq_true (show spt T (bn B) j k = spt T (bn B) j (k - 1) by omega)]; decide
          · unfold dgP; rw [decide_eq_true hk1, decide_eq_true (show spt T (bn B) j k = spt T (bn B) j (k - 2) by omega), decide_eq_false (show ¬ spt T (bn B) j k = spt T (bn B) j (k - 1) by omega)]; rfl
  · refine ⟨h.x, xBn h hrn ⟨fun c => absurd rfl c, fun _ => rf h.x (hq _ _ (fun Q2 h2 => ?_))⟩⟩
    exact ⟨h.L.z, mBn (L1 1) h.o (h.M1 1) hrn ⟨fun c => absurd rfl c, fun _ => rfm h.L.z Kp.rf h2⟩⟩
end CT2
