/-! Bits of packed rows; what a change does to one. -/
theorem pak_bit {f : Nat → Nat} : ∀ {n : Nat}, (∀ p, p < n → f p < 16) → ∀ p i, i < 4 → (pak f n).testBit (4 * p + i) = (decide (p < n) && (f p).testBit i)
  | n, h, p, i, hi => by
    by_cases hp : p < n
    · have h1 := pak_dig h hp
      have e : (f p).testBit i = (pak f n / 16 ^ p % 16).testBit i := by rw [h1]
      rw [decide_eq_true hp, Bool.true_and, e, show (16 : Nat) = 2 ^ 4 from rfl, Nat.testBit_mod_two_pow, decide_eq_true hi, Bool.true_and, ← Nat.pow_mul, Nat.testBit_div_two_pow]
      rw [Nat.add_comm]
    · have h1 : pak f n < 2 ^ (4 * n) := by rw [p16]; exact pak_lt h
      rw [decide_eq_false hp, Bool.false_and]
      exact Nat.testBit_lt_two_pow (Nat.lt_of_lt_of_le h1 (Nat.pow_le_pow_right (by decide) (by omega)))
theorem bt_nI {a i : Nat} (hi : i < 32) : bt (nI a) i = a.testBit i := by
  show (BitVec.ofNat 32 a).getLsbD i = _
  rw [BitVec.getLsbD_ofNat, decide_eq_true hi, Bool.true_and]
theorem bt_pak {f : Nat → Nat} {n : Nat} (h : ∀ p, p < n → f p < 16) {p i : Nat} (hp : p < 8) (hi : i < 4) : bt (nI (pak f n)) (4 * p + i) = (decide (p < n) && (f p).testBit i) := by
  rw [bt_nI (by omega), pak_bit h p i hi]
/-- a change: which places exchange with the next one -/
def mvf (sw : Nat → Bool) : Nat → Nat := fun p => if sw p then 15 else 0
theorem mvf_lt (sw : Nat → Bool) (p : Nat) : mvf sw p < 16 := by unfold mvf; split <;> decide
theorem mvf_bit {sw : Nat → Bool} {p i : Nat} (hi : i < 4) : (mvf sw p).testBit i = sw p := by
  unfold mvf
  cases sw p
  · simp
  · rcases (by omega : i = 0 ∨ i = 1 ∨ i = 2 ∨ i = 3) with rfl | rfl | rfl | rfl <;> decide
def chd (sw : Nat → Bool) (f : Nat → Nat) : Nat → Nat := fun p => if sw p then f (p + 1) else if p ≠ 0 ∧ sw (p - 1) = true then f (p - 1) else f p
/-- pairs lie within n places and don't meet -/
def Sw (n : Nat) (sw : Nat → Bool) : Prop := ∀ p, sw p = true → p + 1 < n ∧ sw (p + 1) = false
theorem chd_lt {n B : Nat} {sw : Nat → Bool} {f : Nat → Nat} (hs : Sw n sw) (hf : ∀ p, p < n → f p < B) : ∀ p, p < n → chd sw f p < B := by
  intro p hp
  unfold chd
  split
  · rename_i h
    exact hf _ (hs p h).1
  · split
    · exact hf _ (by omega)
    · exact hf _ hp
theorem moved_eq {n : Nat} {sw : Nat → Bool} {f : Nat → Nat} (hn : n ≤ 8) (hs : Sw n sw) (hf : ∀ p, p < n → f p < 8) :
    (((nI (pak f n) &&& ((nI (pak (mvf sw) n) ||| (shl (nI (pak (mvf sw) n)) 4)) ^^^ (-1))) ||| (shl (nI (pak f n) &&& nI (pak (mvf sw) n)) 4)) ||| ((ushr (nI (pak f n)) 4) &&& nI (pak (mvf sw) n))) = nI (pak (chd sw f) n) := by
  have hf16 : ∀ p, p < n → f p < 16 := fun p hp => Nat.lt_trans (hf p hp) (by decide)
  have hm16 : ∀ p, p < n → mvf sw p < 16 := fun p _ => mvf_lt sw p
  have hc16 : ∀ p, p < n → chd sw f p < 16 := fun p hp => Nat.lt_trans (chd_lt hs hf p hp) (by decide)
  apply b_ext
  intro k hk
  obtain ⟨p, i, hi, rfl⟩ : ∃ p i, i < 4 ∧ k = 4 * p + i := ⟨k / 4, k % 4, by omega, by omega⟩
  have hp : p < 8 := by omega
  have e4 : (4 : Int32) = nI 4 := rfl
  have bm : ∀ q, q < 8 → bt (nI (pak (mvf sw) n)) (4 * q + i) = sw q := by
    intro q hq
    rw [bt_pak hm16 hq hi, mvf_bit hi]
    by_cases hqn : q < n
    · rw [decide_eq_true hqn, Bool.true_and]
    · rw [decide_eq_false hqn, Bool.false_and]
      cases hsq : sw q
      · rfl
      · have := (hs q hsq).1; omega
  have bf : ∀ q, q < 8 → bt (nI (pak f n)) (4 * q + i) = (decide (q < n) && (f q).testBit i) := fun q hq => bt_pak hf16 hq hi
  have bu : bt (ushr (nI (pak f n)) 4) (4 * p + i) = (decide (p + 1 < n) && (f (p + 1)).testBit i) := by
    show bt ((nI (pak f n)).toUInt32 >>> ((nI 4).toUInt32 &&& Int32.toUInt32 31)).toInt32 (4 * p + i) = _
    rw [b_ushr 4 (by decide)]
    by_cases hp1 : p + 1 < 8
    · rw [show 4 + (4 * p + i) = 4 * (p + 1) + i by omega, bf (p + 1) hp1]
    · rw [b_big (by omega), decide_eq_false (by omega), Bool.false_and]
  have bs : ∀ x : Int32, bt (shl x 4) (4 * p + i) = if p = 0 then false else bt x (4 * (p - 1) + i) := by
    intro x
    show bt (x <<< (nI 4 &&& 31)) (4 * p + i) = _
    rw [b_shl 4 (by decide) x hk]
    by_cases hp0 : p = 0
    · rw [if_pos hp0, decide_eq_false (by omega), Bool.false_and]
    · rw [if_neg hp0, decide_eq_true (by omega), Bool.true_and, show 4 * p + i - 4 = 4 * (p - 1) + i by omega]
  rw [b_or, b_or, b_and, b_xor, b_or, b_and, bs, bs, b_m1 _ hk, bu, bm p hp, bf p hp, b_and, bt_pak hc16 hp hi]
  by_cases hp0 : p = 0
  · subst hp0
    simp only [if_true]
    unfold chd
    cases hs0 : sw 0
    · simp
    · have h1 := (hs 0 hs0).1
      simp [h1]
      intro _
      omega
  · rw [if_neg hp0, if_neg hp0, bm (p - 1) (by omega), bf (p - 1) (by omega)]
    unfold chd
    cases hsp : sw p
    · cases hsq : sw (p - 1)
      · simp [hp0]
      · have h1 := (hs (p - 1) hsq).1
        have h2 : p < n := by omega
        have h3 : p - 1 < n := by omega
        simp [hp0, h2, h3]
    · have h1 := (hs p hsp).1
      have h2 : p < n := by omega
      cases hsq : sw (p - 1)
      · simp [h1, h2]
      · have h3 := (hs (p - 1) hsq).2
        rw [show p - 1 + 1 = p by omega] at h3
        rw [h3] at hsp
        cases hsp
theorem sp_moved {n : Nat} {sw : Nat → Bool} {f : Nat → Nat} {Q : Int32 → Prop} (hn : n ≤ 8) (hs : Sw n sw) (hf : ∀ p, p < n → f p < 8) (hq : Q (nI (pak (chd sw f) n))) : P_X4_moved (nI (pak f n)) (nI (pak (mvf sw) n)) Q := by
  unfold P_X4_moved
  rw [moved_eq hn hs hf]
  exact hq
