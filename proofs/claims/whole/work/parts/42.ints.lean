/-! Ints by the numbers that they are. -/
theorem sh5 : ∀ k, k < 32 → (((nI k).toUInt32 &&& Int32.toUInt32 31).toBitVec % 32).toNat = k := by decide +kernel
theorem sh6 : ∀ k, k < 32 → ((nI k &&& 31).toBitVec.smod 32).toNat = k := by decide +kernel
theorem ushrN {a k : Nat} (ha : a < 2 ^ 32) (hk : k < 32) : ushr (nI a) (nI k) = nI (a / 2 ^ k) := pk_ushrN ha (nI k) k (sh5 k hk)
theorem nI_bv (a : Nat) : (nI a).toBitVec.toNat = a % 2 ^ 32 := by
  show (BitVec.ofNat 32 a).toNat = _
  rw [BitVec.toNat_ofNat]
theorem nI_ext {x : Int32} {a : Nat} (h : x.toBitVec.toNat = a % 2 ^ 32) : x = nI a := by
  apply Int32.toBitVec_inj.1
  apply BitVec.eq_of_toNat_eq
  rw [h, nI_bv]
theorem shlN (a : Nat) {k : Nat} (hk : k < 32) : shl (nI a) (nI k) = nI (a * 2 ^ k) := by
  apply nI_ext
  unfold shl
  rw [pk_shl (nI a) (nI k &&& 31) k (sh6 k hk), nI_bv]
  rw [Nat.mod_mul_mod]
theorem shrN {a k : Nat} (ha : a < 2 ^ 31) (hk : k < 32) : shr (nI a) (nI k) = nI (a / 2 ^ k) := pk_shrN ha (nI k &&& 31) k (sh6 k hk)
theorem mulN (a b : Nat) : nI a * nI b = nI (a * b) := pk_mul a b
theorem p16 (j : Nat) : 2 ^ (4 * j) = 16 ^ j := by rw [Nat.pow_mul]
theorem and7 {a : Nat} : nI a &&& 7 = nI (a % 8) := fa_mask a 3
theorem and1 {a : Nat} : nI a &&& 1 = nI (a % 2) := fa_mask a 1
theorem and15 {a : Nat} : nI a &&& 15 = nI (a % 16) := fa_mask a 4
theorem nib {a j : Nat} (ha : a < 2 ^ 32) (hj : j < 8) : (ushr (nI a) (4 * nI j)) &&& 7 = nI (a / 16 ^ j % 8) := by
  have e : (4 : Int32) * nI j = nI (4 * j) := mulN 4 j
  rw [e, ushrN ha (by omega), p16, and7]
theorem le_sub1 {a b : Nat} (h : b ≤ a) : nI a - nI b = nI (a - b) := pk_sub h
/-! A row, packed: sixteen to a place. -/
def pak (f : Nat → Nat) : Nat → Nat
  | 0 => 0
  | n + 1 => pak f n + f n * 16 ^ n
theorem pak_lt {f : Nat → Nat} : ∀ {n : Nat}, (∀ p, p < n → f p < 16) → pak f n < 16 ^ n
  | 0, _ => by show (0 : Nat) < 1; decide
  | n + 1, h => by
    have h1 := pak_lt (n := n) (fun p hp => h p (by omega))
    have h2 := h n (by omega)
    have e : 16 ^ (n + 1) = 16 * 16 ^ n := by rw [Nat.pow_succ, Nat.mul_comm]
    have h3 : f n * 16 ^ n ≤ 15 * 16 ^ n := Nat.mul_le_mul_right _ (by omega)
    show pak f n + f n * 16 ^ n < 16 ^ (n + 1)
    omega
theorem pak_cong {f g : Nat → Nat} : ∀ {n : Nat}, (∀ p, p < n → f p = g p) → pak f n = pak g n
  | 0, _ => rfl
  | n + 1, h => by
    show pak f n + f n * 16 ^ n = pak g n + g n * 16 ^ n
    rw [pak_cong (n := n) (fun p hp => h p (by omega)), h n (by omega)]
theorem pak_dig {f : Nat → Nat} : ∀ {n j : Nat}, (∀ p, p < n → f p < 16) → j < n → pak f n / 16 ^ j % 16 = f j
  | n + 1, j, h, hj => by
    have h1 := pak_lt (n := n) (fun p hp => h p (by omega))
    show (pak f n + f n * 16 ^ n) / 16 ^ j % 16 = f j
    by_cases hjn : j = n
    · subst hjn
      rw [Nat.add_mul_div_right _ _ (Nat.pow_pos (by decide)), Nat.div_eq_of_lt h1, Nat.zero_add]
      exact Nat.mod_eq_of_lt (h j (by omega))
    · have hlt : j < n := by omega
      have e : 16 ^ n = 16 * 16 ^ (n - 1 - j) * 16 ^ j := by
        rw [Nat.mul_assoc, ← Nat.pow_add, ← Nat.pow_succ', show (n - 1 - j + j).succ = n by omega]
      have e2 : f n * 16 ^ n = (f n * 16 ^ (n - 1 - j)) * 16 * 16 ^ j := by
        rw [e]
        simp [Nat.mul_assoc, Nat.mul_left_comm]
      rw [e2, Nat.add_mul_div_right _ _ (Nat.pow_pos (by decide)), Nat.add_mul_mod_self_right]
      exact pak_dig (n := n) (fun p hp => h p (by omega)) hlt
theorem pak_dig8 {f : Nat → Nat} {n j : Nat} (h : ∀ p, p < n → f p < 8) (hj : j < n) : pak f n / 16 ^ j % 8 = f j := by
  have h1 := pak_dig (n := n) (fun p hp => Nat.lt_trans (h p hp) (by decide)) hj
  have h2 := h j hj
  omega
theorem pak_inj {f g : Nat → Nat} {n : Nat} (hf : ∀ p, p < n → f p < 16) (hg : ∀ p, p < n → g p < 16) (h : pak f n = pak g n) : ∀ p, p < n → f p = g p := fun p hp => by
  rw [← pak_dig hf hp, h, pak_dig hg hp]
theorem p16_8 {n : Nat} (h : n ≤ 8) : 16 ^ n ≤ 2 ^ 32 := by
  have : 16 ^ n ≤ 16 ^ 8 := Nat.pow_le_pow_right (by decide) h
  exact this
theorem pak_31 {f : Nat → Nat} {n : Nat} (hn : n ≤ 8) (h : ∀ p, p < n → f p < 8) : pak f n < 2 ^ 31 := by
  have key : ∀ m, m ≤ 8 → (∀ p, p < m → f p < 8) → pak f m < 2 ^ 31 ∧ pak f m < 16 ^ m := by
    intro m hm hf
    have h2 : pak f m < 16 ^ m := pak_lt (fun p hp => Nat.lt_trans (hf p hp) (by decide))
    refine ⟨?_, h2⟩
    match m, hm with
    | 0, _ => show 0 < _; decide
    | m + 1, hm =>
      have h1 : pak f m < 16 ^ m := pak_lt (fun p hp => Nat.lt_trans (hf p (by omega)) (by decide))
      have h3 := hf m (by omega)
      have h4 : f m * 16 ^ m ≤ 7 * 16 ^ m := Nat.mul_le_mul_right _ (by omega)
      have h5 : 16 ^ m ≤ 16 ^ 7 := Nat.pow_le_pow_right (by decide) (by omega)
      show pak f m + f m * 16 ^ m < 2 ^ 31
      have h6 : (16 : Nat) ^ 7 = 268435456 := by decide
      omega
  exact (key n hn h).1
theorem nib_pak {f : Nat → Nat} {n j : Nat} (hn : n ≤ 8) (h : ∀ p, p < n → f p < 8) (hj : j < n) : (ushr (nI (pak f n)) (4 * nI j)) &&& 7 = nI (f j) := by
  have h1 := pak_31 hn h
  rw [nib (by omega) (by omega), pak_dig8 h hj]
/-- one place more -/
theorem pak_or {f : Nat → Nat} {p v : Nat} (hf : ∀ q, q < p → f q < 16) (hp : p < 8) : nI (pak f p) ||| shl (nI v) (4 * nI p) = nI (pak f p + v * 16 ^ p) := by
  have e : (4 : Int32) * nI p = nI (4 * p) := mulN 4 p
  rw [e, shlN v (by omega), p16]
  have h1 := pak_lt hf
  have e1 : v * 16 ^ p = 2 ^ (4 * p) * v := by rw [p16, Nat.mul_comm]
  have e2 : nI (pak f p) ||| nI (2 ^ (4 * p) * v) = nI (2 ^ (4 * p) * v) ||| nI (pak f p) := by rw [fa_or, fa_or, Nat.or_comm]
  rw [e1, e2, fa_or_sum v (by rw [p16]; exact h1), Nat.add_comm]
def setf (f : Nat → Nat) (p v : Nat) : Nat → Nat := fun q => if q = p then v else f q
theorem pak_setf {f : Nat → Nat} {p v : Nat} : pak f p + v * 16 ^ p = pak (setf f p v) (p + 1) := by
  show _ = pak (setf f p v) p + setf f p v p * 16 ^ p
  rw [pak_cong (f := setf f p v) (g := f) (fun q hq => if_neg (by omega)), show setf f p v p = v from if_pos rfl]
