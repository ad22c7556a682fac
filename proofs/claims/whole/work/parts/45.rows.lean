theorem nI_gtI {p n : Nat} (hn : n < 2 ^ 31) (hp : p < 2 ^ 31) (hc : ¬ nI n ≤ nI p) : p < n := by
  rcases Nat.lt_or_ge p n with q | q
  · exact q
  · exact absurd ((nI_leI hn hp).mpr q) hc
theorem four {v : Nat} : shl (nI v) 2 = nI (4 * v) := by
  have : shl (nI v) 2 = nI (v * 2 ^ 2) := shlN v (by decide)
  rw [this, Nat.mul_comm]
/-- the bell of a where b says -/
theorem nib2 {n : Nat} {f : Nat → Nat} (hn : n ≤ 8) (hf : ∀ p, p < n → f p < 8) {v : Nat} (hv : v < n) : (ushr (nI (pak f n)) (nI (4 * v))) &&& 7 = nI (f v) := by
  have h1 := pak_31 hn hf
  rw [ushrN (by omega) (by omega), p16, and7, pak_dig8 hf hv]
theorem sp_multiply {n : Nat} {f g : Nat → Nat} {Q : Int32 → Prop} (hn : n ≤ 8) (hf : ∀ p, p < n → f p < 8) (hg : ∀ p, p < n → g p < n) (hq : Q (nI (pak (fun p => f (g p)) n))) : P_X4_multiply (nI (pak f n)) (nI (pak g n)) (nI n) Q := by
  unfold P_X4_multiply
  refine ⟨fun k x3 x4 => ∃ p, p ≤ n ∧ k = n - p ∧ x3 = nI (pak (fun p => f (g p)) p) ∧ x4 = nI p, ⟨n, 0, Nat.zero_le _, rfl, rfl, rfl⟩, ?_⟩
  rintro k x3 x4 ⟨p, hp, rfl, rfl, rfl⟩
  refine ⟨fun hc => ?_, fun hc => ?_⟩
  · have : n ≤ p := (nI_leI (by omega) (by omega)).mp hc
    have e : p = n := by omega
    subst e
    exact hq
  · have hlt := nI_gtI (by omega) (by omega) hc
    rintro v5 e5 v6 e6
    refine ⟨n - (p + 1), by omega, p + 1, by omega, rfl, ?_, by rw [e6]; exact nI_1 p⟩
    rw [e5, nib_pak hn (fun p hp => Nat.lt_of_lt_of_le (hg p hp) hn) hlt, four, nib2 hn hf (hg p hlt), pak_or (fun q hq => Nat.lt_trans (hf _ (hg q (by omega))) (by decide)) (by omega)]
    rfl
theorem sp_rankMultiplied {n : Nat} {f g : Nat → Nat} {Q : Int32 → Prop} (hn : n ≤ 8) (hf : ∀ p, p < n → f p < 8) (hg : ∀ p, p < n → g p < n) (h : Pm n (fun p => f (g p))) (hq : Q (nI (num n (fun p => f (g p))))) : P_X4_rankMultiplied (nI (pak f n)) (nI (pak g n)) (nI n) Q := by
  unfold P_X4_rankMultiplied
  refine ⟨fun k x2 x3 x4 => ∃ p, p ≤ n ∧ k = n - p ∧ x2 = nI (pak (gl (fun p => f (g p)) p) 8) ∧ x3 = nI (numP n (fun p => f (g p)) p) ∧ x4 = nI p, ⟨n, 0, Nat.zero_le _, rfl, by rw [gl_0]; rfl, rfl, rfl⟩, ?_⟩
  rintro k x2 x3 x4 ⟨p, hp, rfl, rfl, rfl, rfl⟩
  refine ⟨fun hc => ?_, fun hc => ?_⟩
  · have : n ≤ p := (nI_leI (by omega) (by omega)).mp hc
    have e : p = n := by omega
    subst e
    exact hq
  · have hlt := nI_gtI (by omega) (by omega) hc
    rintro v6 e6 v7 e7 v8 e8 v9 e9
    have e6' : v6 = nI (4 * f (g p)) := by
      rw [e6, nib_pak hn (fun p hp => Nat.lt_of_lt_of_le (hg p hp) hn) hlt, four, nib2 hn hf (hg p hlt), four]
    have hn1 := left_next hn h hlt
    have hg1 := left_get hn h hlt
    refine ⟨n - (p + 1), by omega, p + 1, by omega, rfl, ?_, ?_, ?_⟩
    · rw [e8, e6', hn1]
    · rw [e7, e6', hg1, le_sub1 (by omega), mulN, nI_add]
      rfl
    · rw [e9]; exact nI_1 p
/-- how many pairs stand the wrong way round -/
def invs (f : Nat → Nat) : Nat → Nat := fb_sm (dg f)
theorem sp_inversions {n : Nat} {f : Nat → Nat} {Q : Int32 → Prop} (hn : n ≤ 8) (h : Pm n f) (hq : Q (nI (invs f n))) : P_X4_inversions (nI (pak f n)) (nI n) Q := by
  have h8 : ∀ p, p < n → f p < 8 := fun p hp => Nat.lt_of_lt_of_le (h.1 p hp) hn
  unfold P_X4_inversions
  refine ⟨fun k x2 x3 x4 => ∃ p, p ≤ n ∧ k = n - p ∧ x2 = nI (pak (gl f p) 8) ∧ x3 = nI (invs f p) ∧ x4 = nI p, ⟨n, 0, Nat.zero_le _, rfl, by rw [gl_0]; rfl, rfl, rfl⟩, ?_⟩
  rintro k x2 x3 x4 ⟨p, hp, rfl, rfl, rfl, rfl⟩
  refine ⟨fun hc => ?_, fun hc => ?_⟩
  · have : n ≤ p := (nI_leI (by omega) (by omega)).mp hc
    have e : p = n := by omega
    subst e
    exact hq
  · have hlt := nI_gtI (by omega) (by omega) hc
    rintro v6 e6 v7 e7 v8 e8 v9 e9
    have e6' : v6 = nI (4 * f p) := by rw [e6, nib_pak hn h8 hlt, four]
    refine ⟨n - (p + 1), by omega, p + 1, by omega, rfl, ?_, ?_, ?_⟩
    · rw [e8, e6', left_next hn h hlt]
    · rw [e7, e6', left_get hn h hlt, nI_add]
      rfl
    · rw [e9]; exact nI_1 p
theorem sp_isEven {n : Nat} {f : Nat → Nat} {Q : Int32 → Prop} (hn : n ≤ 8) (h : Pm n f) (hq : Q (if invs f n % 2 = 0 then 1 else 0)) : P_X4_isEven (nI (pak f n)) (nI n) Q := by
  unfold P_X4_isEven
  refine sp_inversions hn h ?_
  rw [and1]
  refine ⟨fun hc => ?_, fun hc => ?_⟩
  · rw [if_neg (fun e => hc (by rw [e]; rfl))] at hq
    exact hq
  · rw [if_pos ((nI_eq (b := 0) (by omega) (by decide)).mp hc)] at hq
    exact hq
-- inverse
theorem pak_orp (f g : Nat → Nat) {n : Nat} (hn : n ≤ 8) (hf : ∀ p, p < n → f p < 16) (hg : ∀ p, p < n → g p < 16) : nI (pak f n) ||| nI (pak g n) = nI (pak (fun p => f p ||| g p) n) := by
  have hfg : ∀ p, p < n → f p ||| g p < 16 := fun p hp => Nat.or_lt_two_pow (n := 4) (hf p hp) (hg p hp)
  apply b_ext
  intro k hk
  obtain ⟨p, i, hi, rfl⟩ : ∃ p i, i < 4 ∧ k = 4 * p + i := ⟨k / 4, k % 4, by omega, by omega⟩
  rw [b_or, bt_pak hf (by omega) hi, bt_pak hg (by omega) hi, bt_pak hfg (by omega) hi, Nat.testBit_or]
  cases decide (p < n) <;> simp
theorem pak_at {v x : Nat} : ∀ {n : Nat}, v < n → pak (fun q => if q = v then x else 0) n = x * 16 ^ v
  | n + 1, hv => by
    show pak (fun q => if q = v then x else 0) n + (if n = v then x else 0) * 16 ^ n = _
    by_cases e : n = v
    · subst e
      rw [if_pos rfl, pak_cong (g := fun _ => 0) (fun p hp => if_neg (by omega))]
      have z : ∀ m, pak (fun _ => 0) m = 0 := by
        intro m
        induction m with
        | zero => rfl
        | succ m ih => show pak (fun _ => 0) m + 0 * 16 ^ m = 0; rw [ih, Nat.zero_mul]
      rw [z, Nat.zero_add]
    · rw [if_neg e, Nat.zero_mul, Nat.add_zero]
      exact pak_at (n := n) (by omega)
theorem pak_zero : ∀ n, pak (fun _ => 0) n = 0
  | 0 => rfl
  | n + 1 => by show pak (fun _ => 0) n + 0 * 16 ^ n = 0; rw [pak_zero n, Nat.zero_mul]
def pinv (f : Nat → Nat) : Nat → Nat → Nat
  | 0, _ => 0
  | p + 1, b => if b = f p then p else pinv f p b
theorem pinv_lt (f : Nat → Nat) : ∀ p b, pinv f p b ≤ p
  | 0, _ => Nat.le_refl 0
  | p + 1, b => by
    unfold pinv
    split
    · omega
    · have := pinv_lt f p b; omega
theorem pinv_fresh {f : Nat → Nat} {b : Nat} : ∀ {p : Nat}, (∀ q, q < p → f q ≠ b) → pinv f p b = 0
  | 0, _ => rfl
  | p + 1, h => by
    unfold pinv
    rw [if_neg (fun e => h p (by omega) e.symm)]
    exact pinv_fresh (fun q hq => h q (by omega))
theorem pinv_at {n : Nat} {f : Nat → Nat} (h : Pm n f) : ∀ {p q : Nat}, p ≤ n → q < p → pinv f p (f q) = q
  | p + 1, q, hp, hq => by
    unfold pinv
    by_cases e : q = p
    · subst e; rw [if_pos rfl]
    · rw [if_neg (h.2 q p (by omega) (by omega))]
      exact pinv_at h (by omega) (by omega)
def inv (n : Nat) (f : Nat → Nat) : Nat → Nat := pinv f n
theorem inv_at {n : Nat} {f : Nat → Nat} (h : Pm n f) {q : Nat} (hq : q < n) : inv n f (f q) = q := pinv_at h (Nat.le_refl n) hq
theorem inv_lt {n : Nat} {f : Nat → Nat} (h : Pm n f) {b : Nat} (hb : b < n) : inv n f b < n ∧ f (inv n f b) = b := by
  obtain ⟨i, hi, e⟩ := fb_onto h.1 (fun i j hij hj => h.2 i j hij hj) hb
  subst e
  rw [inv_at h hi]
  exact ⟨hi, rfl⟩
theorem inv_pm {n : Nat} {f : Nat → Nat} (h : Pm n f) : Pm n (inv n f) := by
  refine ⟨fun p hp => (inv_lt h hp).1, fun p q hpq hq e => ?_⟩
  have h1 := (inv_lt h (show p < n by omega)).2
  have h2 := (inv_lt h hq).2
  rw [e] at h1
  omega
theorem comp_pm {n : Nat} {f g : Nat → Nat} (hf : Pm n f) (hg : Pm n g) : Pm n (fun p => f (g p)) := by
  refine ⟨fun p hp => hf.1 _ (hg.1 p hp), fun p q hpq hq e => ?_⟩
  have h1 := hg.2 p q hpq hq
  rcases Nat.lt_or_gt_of_ne h1 with hl | hl
  · exact hf.2 _ _ hl (hg.1 q hq) e
  · exact hf.2 _ _ hl (hg.1 p (by omega)) e.symm
theorem sp_invert {n : Nat} {f : Nat → Nat} {Q : Int32 → Prop} (hn : n ≤ 8) (h : Pm n f) (hq : Q (nI (pak (inv n f) n))) : P_X4_invert (nI (pak f n)) (nI n) Q := by
  have h8 : ∀ p, p < n → f p < 8 := fun p hp => Nat.lt_of_lt_of_le (h.1 p hp) hn
  unfold P_X4_invert
  refine ⟨fun k x2 x3 => ∃ p, p ≤ n ∧ k = n - p ∧ x2 = nI (pak (pinv f p) n) ∧ x3 = nI p, ⟨n, 0, Nat.zero_le _, rfl, ?_, rfl⟩, ?_⟩
  · rw [pak_cong (f := pinv f 0) (g := fun _ => 0) (fun p _ => rfl), pak_zero]
    rfl
  rintro k x2 x3 ⟨p, hp, rfl, rfl, rfl⟩
  refine ⟨fun hc => ?_, fun hc => ?_⟩
  · have : n ≤ p := (nI_leI (by omega) (by omega)).mp hc
    have e : p = n := by omega
    subst e
    exact hq
  · have hlt := nI_gtI (by omega) (by omega) hc
    rintro v5 e5 v6 e6
    refine ⟨n - (p + 1), by omega, p + 1, by omega, rfl, ?_, by rw [e6]; exact nI_1 p⟩
    have hv := h8 p hlt
    rw [e5, nib_pak hn h8 hlt, four, shlN p (by omega), p16, ← pak_at (n := n) (h.1 p hlt), pak_orp _ _ hn (fun b _ => by have := pinv_lt f p b; omega) (fun b _ => by
      show (if b = f p then p else 0) < 16
      split <;> omega)]
    refine congrArg nI (pak_cong (fun b _ => ?_))
    show pinv f p b ||| (if b = f p then p else 0) = if b = f p then p else pinv f p b
    by_cases e : b = f p
    · rw [if_pos e, if_pos e, pinv_fresh (fun q hq => by rw [e]; exact h.2 q p hq hlt), Nat.zero_or]
    · rw [if_neg e, if_neg e, Nat.or_zero]
