/-! The row of a number. -/
def fac : Nat → Nat
  | 0 => 1
  | n + 1 => (n + 1) * fac n
theorem fac_pos : ∀ n, 0 < fac n
  | 0 => by decide
  | n + 1 => Nat.mul_pos (by omega) (fac_pos n)
theorem fac_facs : ∀ n, n < 9 → facs.getD n 0 = nI (fac n) := by decide +kernel
theorem fac_8 : ∀ n, n < 9 → fac n ≤ 40320 := by decide
def rst (n k : Nat) : Nat → Nat
  | 0 => k
  | p + 1 => rst n k p % fac (n - 1 - p)
def ixn (n k p : Nat) : Nat := rst n k p / fac (n - 1 - p)
def del (i : Nat) (u : Nat → Nat) : Nat → Nat := fun j => if j < i then u j else u (j + 1)
def un (n k : Nat) : Nat → Nat → Nat
  | 0 => fun j => if j < 8 then j else 0
  | p + 1 => del (ixn n k p) (un n k p)
def lay (n k : Nat) : Nat → Nat := fun p => un n k p (ixn n k p)
theorem rst_lt {n k : Nat} (hk : k < fac n) : ∀ p, p ≤ n → rst n k p < fac (n - p)
  | 0, _ => hk
  | p + 1, h => by
    show rst n k p % fac (n - 1 - p) < fac (n - (p + 1))
    rw [show n - (p + 1) = n - 1 - p by omega]
    exact Nat.mod_lt _ (fac_pos _)
theorem ixn_lt {n k : Nat} (hk : k < fac n) {p : Nat} (hp : p < n) : ixn n k p < n - p := by
  have h1 := rst_lt hk p (by omega)
  have e : fac (n - p) = (n - p) * fac (n - 1 - p) := by
    rw [show n - p = (n - 1 - p) + 1 by omega]
    rfl
  unfold ixn
  rw [Nat.div_lt_iff_lt_mul (fac_pos _), ← e]
  exact h1
/-- the unused bells, in order: which they are, and how many are below each -/
theorem un_spec {n k : Nat} (hn : n ≤ 8) (hk : k < fac n) : ∀ p, p ≤ n → (∀ j, j < n - p → un n k p j < n ∧ (∀ q, q < p → lay n k q ≠ un n k p j) ∧ un n k p j = j + cnt (lay n k) p (un n k p j)) ∧ ∀ i j, i < j → j < n - p → un n k p i < un n k p j
  | 0, _ => by
    refine ⟨fun j hj => ?_, fun i j hij hj => ?_⟩
    · have e : un n k 0 j = j := if_pos (by omega)
      rw [e]
      exact ⟨by omega, fun q hq => absurd hq (Nat.not_lt_zero q), rfl⟩
    · have e1 : un n k 0 i = i := if_pos (by omega)
      have e2 : un n k 0 j = j := if_pos (by omega)
      rw [e1, e2]
      exact hij
  | p + 1, hp => by
    obtain ⟨ih, im⟩ := un_spec hn hk p (by omega)
    have hi := ixn_lt hk (show p < n by omega)
    have key : ∀ j, j < n - (p + 1) → ∃ j', j' < n - p ∧ un n k (p + 1) j = un n k p j' ∧ ((j < ixn n k p ∧ j' = j) ∨ (ixn n k p ≤ j ∧ j' = j + 1)) := by
      intro j hj
      by_cases h : j < ixn n k p
      · exact ⟨j, by omega, if_pos h, Or.inl ⟨h, rfl⟩⟩
      · exact ⟨j + 1, by omega, if_neg h, Or.inr ⟨by omega, rfl⟩⟩
    refine ⟨fun j hj => ?_, fun i j hij hj => ?_⟩
    · obtain ⟨j', hj', e, hc⟩ := key j hj
      obtain ⟨g1, g2, g3⟩ := ih j' hj'
      rw [e]
      have hl : lay n k p = un n k p (ixn n k p) := rfl
      refine ⟨g1, fun q hq => ?_, ?_⟩
      · by_cases hqp : q = p
        · subst hqp
          rw [hl]
          rcases hc with ⟨c1, c2⟩ | ⟨c1, c2⟩
          · have := im j' (ixn n k q) (by omega) hi; omega
          · have := im (ixn n k q) j' (by omega) hj'; omega
        · exact g2 q (by omega)
      · rw [cnt_succ, hl]
        rcases hc with ⟨c1, c2⟩ | ⟨c1, c2⟩
        · have := im j' (ixn n k p) (by omega) hi
          rw [if_neg (by omega)]
          subst c2
          omega
        · have := im (ixn n k p) j' (by omega) hj'
          rw [if_pos (by omega)]
          omega
    · obtain ⟨i', hi', ei, ci⟩ := key i (by omega)
      obtain ⟨j', hj', ej, cj⟩ := key j hj
      rw [ei, ej]
      exact im i' j' (by omega) hj'
theorem lay_pm {n k : Nat} (hn : n ≤ 8) (hk : k < fac n) : Pm n (lay n k) := by
  refine ⟨fun p hp => ((un_spec hn hk p (by omega)).1 _ (ixn_lt hk hp)).1, fun p q hpq hq => ?_⟩
  exact ((un_spec hn hk q (by omega)).1 _ (ixn_lt hk hq)).2.1 p hpq
theorem lay_dg {n k : Nat} (hn : n ≤ 8) (hk : k < fac n) {p : Nat} (hp : p < n) : dg (lay n k) p = ixn n k p := by
  have h := ((un_spec hn hk p (by omega)).1 _ (ixn_lt hk hp)).2.2
  show lay n k p - cnt (lay n k) p (lay n k p) = ixn n k p
  have e : lay n k p = un n k p (ixn n k p) := rfl
  rw [← e] at h
  omega
theorem fac_split {n p : Nat} (hp : p < n) : fac (n - p) = (n - p) * fac (n - (p + 1)) := by
  rw [show n - p = (n - (p + 1)) + 1 by omega]
  rfl
theorem num_lay {n k : Nat} (hn : n ≤ 8) (hk : k < fac n) : num n (lay n k) = k := by
  have key : ∀ p, p ≤ n → numP n (lay n k) p * fac (n - p) + rst n k p = k := by
    intro p
    induction p with
    | zero => intro _; show 0 * fac n + k = k; omega
    | succ p ih =>
      intro hp
      have h1 := ih (by omega)
      show (numP n (lay n k) p * (n - p) + dg (lay n k) p) * fac (n - (p + 1)) + rst n k p % fac (n - 1 - p) = k
      rw [lay_dg hn hk (by omega), show n - 1 - p = n - (p + 1) by omega]
      rw [fac_split (show p < n by omega)] at h1
      have h2 := Nat.div_add_mod (rst n k p) (fac (n - (p + 1)))
      have e : ixn n k p = rst n k p / fac (n - (p + 1)) := by unfold ixn; rw [show n - 1 - p = n - (p + 1) by omega]
      rw [e, Nat.add_mul, Nat.mul_assoc]
      have h3 : rst n k p / fac (n - (p + 1)) * fac (n - (p + 1)) = fac (n - (p + 1)) * (rst n k p / fac (n - (p + 1))) := Nat.mul_comm _ _
      omega
  have h := key n (Nat.le_refl n)
  have h2 := rst_lt hk n (Nat.le_refl n)
  rw [Nat.sub_self] at h h2
  rw [show fac 0 = 1 from rfl] at h h2
  unfold num
  omega
theorem dg_lt {n : Nat} {f : Nat → Nat} (h : Pm n f) {p : Nat} (hp : p < n) : dg f p < n - p := by
  have h1 := cnt_full h n (Nat.le_refl n)
  -- those not met yet and below f p are among those behind p
  have h2 : cnt f n (f p) = f p := cnt_full h (f p) (Nat.le_of_lt (h.1 p hp))
  have h3 := fb_ct_split (fun q => decide (f q < f p)) (p + 1) (n - (p + 1))
  rw [show p + 1 + (n - (p + 1)) = n by omega] at h3
  have h4 : fb_ct (fun k => decide (f (p + 1 + k) < f p)) (n - (p + 1)) ≤ n - (p + 1) := fb_ct_le _ _
  have h5 : cnt f (p + 1) (f p) = cnt f p (f p) := by rw [cnt_succ, if_neg (Nat.lt_irrefl _)]; rfl
  have h6 : cnt f n (f p) = cnt f (p + 1) (f p) + fb_ct (fun k => decide (f (p + 1 + k) < f p)) (n - (p + 1)) := h3
  unfold dg
  omega
theorem num_lt {n : Nat} {f : Nat → Nat} (h : Pm n f) : num n f < fac n := by
  have key : ∀ p, p ≤ n → (numP n f p + 1) * fac (n - p) ≤ fac n := by
    intro p
    induction p with
    | zero => intro _; show (0 + 1) * fac n ≤ fac n; omega
    | succ p ih =>
      intro hp
      have h1 := ih (by omega)
      rw [fac_split (show p < n by omega), ← Nat.mul_assoc] at h1
      have h2 := dg_lt h (show p < n by omega)
      refine Nat.le_trans (Nat.mul_le_mul_right _ ?_) h1
      show numP n f p * (n - p) + dg f p + 1 ≤ (numP n f p + 1) * (n - p)
      rw [Nat.add_mul]
      omega
  have h1 := key n (Nat.le_refl n)
  rw [Nat.sub_self, show fac 0 = 1 from rfl] at h1
  unfold num
  omega
/-- numbers by their digits, from the front -/
theorem num_rst {n : Nat} {f : Nat → Nat} (h : Pm n f) : ∀ p, p ≤ n → ixn n (num n f) p = ixn n (num n f) p ∧ numP n f p * fac (n - p) + rst n (num n f) p = num n f := by
  have tail : ∀ d p, p + d = n → ∃ r, r < fac (n - p) ∧ num n f = numP n f p * fac (n - p) + r := by
    intro d
    induction d with
    | zero =>
      intro p hp
      have e : p = n := by omega
      subst e
      refine ⟨0, fac_pos _, ?_⟩
      rw [Nat.sub_self]
      show num p f = numP p f p * 1 + 0
      unfold num
      omega
    | succ d ih =>
      intro p hp
      obtain ⟨r, hr, e⟩ := ih (p + 1) (by omega)
      have h2 := dg_lt h (show p < n by omega)
      refine ⟨dg f p * fac (n - (p + 1)) + r, ?_, ?_⟩
      · rw [fac_split (show p < n by omega)]
        have : (dg f p + 1) * fac (n - (p + 1)) ≤ (n - p) * fac (n - (p + 1)) := Nat.mul_le_mul_right _ (by omega)
        rw [Nat.add_mul] at this
        omega
      · rw [e, fac_split (show p < n by omega)]
        show (numP n f p * (n - p) + dg f p) * fac (n - (p + 1)) + r = _
        rw [Nat.add_mul, Nat.mul_assoc]
        omega
  intro p
  induction p with
  | zero => intro _; exact ⟨rfl, by show 0 * fac n + num n f = num n f; omega⟩
  | succ p ih =>
    intro hp
    obtain ⟨-, h1⟩ := ih (by omega)
    obtain ⟨r, hr, e⟩ := tail (n - (p + 1)) (p + 1) (by omega)
    refine ⟨rfl, ?_⟩
    have hrst : rst n (num n f) p = dg f p * fac (n - (p + 1)) + r := by
      have e2 : num n f = (numP n f p * (n - p) + dg f p) * fac (n - (p + 1)) + r := e
      rw [Nat.add_mul, Nat.mul_assoc, ← fac_split (show p < n by omega)] at e2
      omega
    show _ + rst n (num n f) p % fac (n - 1 - p) = num n f
    rw [hrst, show n - 1 - p = n - (p + 1) by omega, Nat.mul_comm (dg f p), Nat.mul_add_mod, Nat.mod_eq_of_lt hr]
    exact e.symm
theorem num_ixn {n : Nat} {f : Nat → Nat} (h : Pm n f) {p : Nat} (hp : p < n) : ixn n (num n f) p = dg f p := by
  have h1 := (num_rst h p (by omega)).2
  have h2 := (num_rst h (p + 1) (by omega)).2
  have h3 := rst_lt (num_lt h) (p + 1) (by omega)
  rw [fac_split hp] at h1
  have e : numP n f (p + 1) * fac (n - (p + 1)) = numP n f p * ((n - p) * fac (n - (p + 1))) + dg f p * fac (n - (p + 1)) := by
    show (numP n f p * (n - p) + dg f p) * fac (n - (p + 1)) = _
    rw [Nat.add_mul, Nat.mul_assoc]
  have h4 : rst n (num n f) p = dg f p * fac (n - (p + 1)) + rst n (num n f) (p + 1) := by omega
  unfold ixn
  rw [show n - 1 - p = n - (p + 1) by omega, h4, Nat.mul_comm (dg f p), Nat.mul_add_div (fac_pos _), Nat.div_eq_of_lt h3, Nat.add_zero]
/-- of two bells that are not met yet the greater has more such below it -/
theorem gl_strict {n : Nat} {f : Nat → Nat} (h : Pm n f) {p b c : Nat} (hp : p ≤ n) (hb : b < n) (hf : ∀ q, q < p → f q ≠ b) (hbc : b < c) (hc : c ≤ n) : b - cnt f p b < c - cnt f p c := by
  -- below c there are below b, b itself and others
  have h1 : cnt f p c + 1 ≤ cnt f p b + (c - b) := by
    obtain ⟨i, hi, e⟩ := fb_onto h.1 (fun i j hij hj => h.2 i j hij hj) hb
    have hpi : p ≤ i := by
      rcases Nat.lt_or_ge i p with q | q
      · exact absurd e (hf i q)
      · exact q
    -- count of those q < n with b ≤ f q < c is c - b, and i is one of them, not below p
    have hn1 := cnt_full h b (by omega)
    have hn2 := cnt_full h c hc
    have hd : ∀ m, cnt f m c = cnt f m b + fb_ct (fun q => decide (b ≤ f q) && decide (f q < c)) m := by
      intro m
      have e1 : cnt f m c = fb_ct (fun k => decide (f k < b) || (decide (b ≤ f k) && decide (f k < c))) m := fb_ct_cong (fun k _ => by
        by_cases c1 : f k < b
        · simp [c1, show f k < c by omega]
        · by_cases c2 : f k < c
          · simp [c2, show b ≤ f k by omega]
          · simp [c1, c2])
      rw [e1, fb_ct_or (fun k _ hk => by simp at hk; omega)]
      rfl
    have hA := hd n
    have hB := hd p
    have hC : fb_ct (fun q => decide (b ≤ f q) && decide (f q < c)) p + 1 ≤ fb_ct (fun q => decide (b ≤ f q) && decide (f q < c)) n := by
      have m1 := fb_ct_mono (fun q => decide (b ≤ f q) && decide (f q < c)) (show p ≤ i from hpi)
      have m2 := fb_ct_mono (fun q => decide (b ≤ f q) && decide (f q < c)) (show i + 1 ≤ n by omega)
      rw [fb_ct_succ] at m2
      have : (decide (b ≤ f i) && decide (f i < c)) = true := by rw [e]; simp [hbc]
      rw [this] at m2
      simp at m2
      omega
    omega
  have h2 := cnt_le h hp b
  omega
theorem lay_num {n : Nat} {f : Nat → Nat} (hn : n ≤ 8) (h : Pm n f) : ∀ p, p < n → lay n (num n f) p = f p := by
  intro p
  induction p using Nat.strongRecOn with
  | ind p ih =>
    intro hp
    have hk := num_lt h
    have hs := (un_spec hn hk p (by omega)).1 _ (ixn_lt hk hp)
    have e : lay n (num n f) p = un n (num n f) p (ixn n (num n f) p) := rfl
    rw [← e] at hs
    have ec : ∀ b, cnt (lay n (num n f)) p b = cnt f p b := fun b => fb_ct_cong (fun q hq => by rw [ih q hq (by omega)])
    rw [ec, num_ixn h hp] at hs
    obtain ⟨g1, g2, g3⟩ := hs
    have hfp := h.1 p hp
    have d1 : dg f p = f p - cnt f p (f p) := rfl
    have d2 := cnt_le h (show p ≤ n by omega) (f p)
    have hfresh : ∀ q, q < p → f q ≠ lay n (num n f) p := fun q hq => by
      have := g2 q hq
      rw [ih q hq (by omega)] at this
      exact this
    have hfresh2 : ∀ q, q < p → f q ≠ f p := fun q hq => h.2 q p hq hp
    rcases Nat.lt_trichotomy (lay n (num n f) p) (f p) with hl | hl | hl
    · have := gl_strict h (show p ≤ n by omega) g1 hfresh hl (Nat.le_of_lt hfp)
      omega
    · exact hl
    · have := gl_strict h (show p ≤ n by omega) hfp hfresh2 hl (Nat.le_of_lt g1)
      omega
