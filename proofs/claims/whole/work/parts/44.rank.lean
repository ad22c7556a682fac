/-! Rows as permutations; their numbers. -/
def Pm (n : Nat) (f : Nat → Nat) : Prop := (∀ p, p < n → f p < n) ∧ ∀ p q, p < q → q < n → f p ≠ f q
def cnt (f : Nat → Nat) (p b : Nat) : Nat := fb_ct (fun q => decide (f q < b)) p
theorem cnt_succ (f : Nat → Nat) (p b : Nat) : cnt f (p + 1) b = cnt f p b + (if f p < b then 1 else 0) := by
  unfold cnt
  rw [fb_ct_succ]
  simp
theorem ct_none (n : Nat) : fb_ct (fun _ => false) n = 0 := fb_ct_zero.mpr (fun _ _ => rfl)
theorem ct_one {P : Nat → Bool} {n i : Nat} (hi : i < n) (h : ∀ q, q < n → P q = decide (q = i)) : fb_ct P n = 1 := by
  have e : fb_ct P n = fb_ct (fun k => if k = i then true else (fun _ => false) k) n := fb_ct_cong (fun k hk => by rw [h k hk]; by_cases hki : k = i <;> simp [hki])
  have h2 := fb_ct_upd (fun _ => false) true (i := i) hi
  rw [ct_none] at h2
  rw [e]
  simpa using h2
theorem cnt_full {n : Nat} {f : Nat → Nat} (h : Pm n f) : ∀ b, b ≤ n → cnt f n b = b
  | 0, _ => fb_ct_zero.mpr (fun k _ => by simp)
  | b + 1, hb => by
    have ih := cnt_full h b (by omega)
    obtain ⟨i, hi, hib⟩ := fb_onto h.1 (fun i j hij hj => h.2 i j hij hj) (y := b) (by omega)
    have e : cnt f n (b + 1) = fb_ct (fun k => decide (f k < b) || decide (f k = b)) n := fb_ct_cong (fun k _ => by
      by_cases h1 : f k < b
      · simp [h1, show f k < b + 1 by omega]
      · by_cases h2 : f k = b
        · simp [h2]
        · simp [h1, h2, show ¬ f k < b + 1 by omega])
    rw [e, fb_ct_or (fun k _ hk => by simp at hk; omega)]
    have e2 : fb_ct (fun k => decide (f k = b)) n = 1 := ct_one hi (fun q hq => by
      by_cases hqi : q = i
      · subst hqi; simp [hib]
      · have : f q ≠ b := fun e => by
          rcases Nat.lt_or_gt_of_ne hqi with hl | hl
          · exact h.2 q i hl hi (e.trans hib.symm)
          · exact h.2 i q hl hq (hib.trans e.symm)
        simp [hqi, this])
    rw [e2]
    show cnt f n b + 1 = b + 1
    rw [ih]
theorem cnt_mono (f : Nat → Nat) (b : Nat) {p q : Nat} (h : p ≤ q) : cnt f p b ≤ cnt f q b := fb_ct_mono _ h
theorem cnt_le {n : Nat} {f : Nat → Nat} (h : Pm n f) {p : Nat} (hp : p ≤ n) (b : Nat) : cnt f p b ≤ b := by
  rcases Nat.le_total b n with hb | hb
  · have h1 := cnt_mono f b hp
    rw [cnt_full h b hb] at h1
    exact h1
  · have h1 : cnt f p b ≤ p := fb_ct_le _ _
    omega
theorem cnt_lt {n : Nat} {f : Nat → Nat} (h : Pm n f) {p : Nat} (hp : p < n) {b : Nat} (hb : f p < b) : cnt f p b + 1 ≤ b := by
  have h1 := cnt_le h (show p + 1 ≤ n by omega) b
  rw [cnt_succ, if_pos hb] at h1
  exact h1
def dg (f : Nat → Nat) (p : Nat) : Nat := f p - cnt f p (f p)
def numP (n : Nat) (f : Nat → Nat) : Nat → Nat
  | 0 => 0
  | p + 1 => numP n f p * (n - p) + dg f p
def num (n : Nat) (f : Nat → Nat) : Nat := numP n f n
/-- how many below a bell are not met yet -/
def gl (f : Nat → Nat) (p b : Nat) : Nat := b - cnt f p b
theorem gl_0 (f : Nat → Nat) : pak (gl f 0) 8 = 1985229328 := by
  have e : pak (gl f 0) 8 = pak (fun b => b) 8 := pak_cong (fun b _ => by
    show b - cnt f 0 b = b
    have : cnt f 0 b = 0 := rfl
    omega)
  rw [e]
  decide
theorem gl_lt {f : Nat → Nat} {p b : Nat} (hb : b < 8) : gl f p b < 8 := by unfold gl; omega
theorem pak_add (f g : Nat → Nat) : ∀ n, pak f n + pak g n = pak (fun p => f p + g p) n
  | 0 => rfl
  | n + 1 => by
    show (pak f n + f n * 16 ^ n) + (pak g n + g n * 16 ^ n) = pak (fun p => f p + g p) n + (f n + g n) * 16 ^ n
    rw [← pak_add f g n, Nat.add_mul]
    omega
theorem above_eq : ∀ v, v < 8 → nI (286331152 * 2 ^ (4 * v)) = nI (pak (fun b => if v < b then 1 else 0) 8) := by decide +kernel
theorem left_get {n : Nat} {f : Nat → Nat} (hn : n ≤ 8) (h : Pm n f) {p : Nat} (hp : p < n) : (ushr (nI (pak (gl f p) 8)) (nI (4 * f p))) &&& 7 = nI (dg f p) := by
  have h1 := h.1 p hp
  have hb : pak (gl f p) 8 < 2 ^ 31 := pak_31 (Nat.le_refl 8) (fun b hb => gl_lt hb)
  rw [ushrN (by omega) (by omega), p16, and7, pak_dig8 (fun b hb => gl_lt hb) (by omega)]
  rfl
theorem left_next {n : Nat} {f : Nat → Nat} (hn : n ≤ 8) (h : Pm n f) {p : Nat} (hp : p < n) : nI (pak (gl f p) 8) - shl 286331152 (nI (4 * f p)) = nI (pak (gl f (p + 1)) 8) := by
  have h1 := h.1 p hp
  have e1 : shl 286331152 (nI (4 * f p)) = nI (286331152 * 2 ^ (4 * f p)) := shlN 286331152 (by omega)
  have e2 : pak (gl f p) 8 = pak (gl f (p + 1)) 8 + pak (fun b => if f p < b then 1 else 0) 8 := by
    rw [pak_add]
    refine pak_cong (fun b _ => ?_)
    show b - cnt f p b = b - cnt f (p + 1) b + (if f p < b then 1 else 0)
    rw [cnt_succ]
    by_cases hb : f p < b
    · rw [if_pos hb]
      have := cnt_lt h hp hb
      omega
    · rw [if_neg hb]
      omega
  rw [e1, above_eq _ (by omega), e2, le_sub1 (Nat.le_add_left _ _), Nat.add_sub_cancel]
theorem sp_rank {n : Nat} {f : Nat → Nat} {Q : Int32 → Prop} (hn : n ≤ 8) (h : Pm n f) (hq : Q (nI (num n f))) : P_X4_rank (nI (pak f n)) (nI n) Q := by
  have h8 : ∀ p, p < n → f p < 8 := fun p hp => Nat.lt_of_lt_of_le (h.1 p hp) hn
  unfold P_X4_rank
  refine ⟨fun k x2 x3 x4 => ∃ p, p ≤ n ∧ k = n - p ∧ x2 = nI (pak (gl f p) 8) ∧ x3 = nI (numP n f p) ∧ x4 = nI p, ⟨n, 0, Nat.zero_le _, rfl, by rw [gl_0]; rfl, rfl, rfl⟩, ?_⟩
  rintro k x2 x3 x4 ⟨p, hp, rfl, rfl, rfl, rfl⟩
  refine ⟨fun hc => ?_, fun hc => ?_⟩
  · have : n ≤ p := (nI_leI (by omega) (by omega)).mp hc
    have e : p = n := by omega
    subst e
    exact hq
  · have hlt : p < n := by
      rcases Nat.lt_or_ge p n with q | q
      · exact q
      · exact absurd ((nI_leI (by omega) (by omega)).mpr q) hc
    rintro v6 e6 v7 e7 v8 e8 v9 e9
    have e6' : v6 = nI (4 * f p) := by
      rw [e6, nib_pak hn h8 hlt]
      have : shl (nI (f p)) 2 = nI (f p * 2 ^ 2) := shlN (f p) (by decide)
      rw [this, Nat.mul_comm]
    refine ⟨n - (p + 1), by omega, p + 1, by omega, rfl, ?_, ?_, ?_⟩
    · rw [e8, e6', left_next hn h hlt]
    · rw [e7, e6', left_get hn h hlt, le_sub1 (by omega), mulN, nI_add]
      rfl
    · rw [e9]; exact nI_1 p
