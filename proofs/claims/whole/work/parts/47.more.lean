/-! The rest of what is done with packed rows. -/
theorem imaxN {a b : Nat} (ha : a < 2 ^ 31) (hb : b < 2 ^ 31) : imax (nI a) (nI b) = nI (max a b) := by
  unfold imax
  by_cases h : a < b
  · rw [if_pos ((nI_ltI ha hb).mpr h), Nat.max_eq_right (by omega)]
  · rw [if_neg (fun c => h ((nI_ltI ha hb).mp c)), Nat.max_eq_left (by omega)]
theorem iminN {a b : Nat} (ha : a < 2 ^ 31) (hb : b < 2 ^ 31) : imin (nI a) (nI b) = nI (min a b) := by
  unfold imin
  by_cases h : b < a
  · rw [if_pos ((nI_ltI hb ha).mpr h), Nat.min_eq_right (by omega)]
  · rw [if_neg (fun c => h ((nI_ltI hb ha).mp c)), Nat.min_eq_left (by omega)]
theorem irmN {a d : Nat} (ha : a < 2 ^ 31) (h0 : 0 < d) (hd : d < 2 ^ 31) : irm (nI a) (nI d) = nI (a % d) := pk_rem ha h0 hd
theorem fac_lt {n : Nat} (hn : n ≤ 8) : fac n < 2 ^ 31 := Nat.lt_of_le_of_lt (fac_8 n (by omega)) (by decide)
theorem sp_many {n : Nat} {Q : Int32 → Prop} (hn : n ≤ 8) (hq : Q (nI (fac n))) : P_X4_many (nI n) Q := by
  unfold P_X4_many
  refine ⟨fun h => absurd h (nI_pos (by omega)), fun _ => ⟨fun h => ?_, fun _ => ⟨vp_in_nI (by omega) (by decide), ?_⟩⟩⟩
  · exact absurd ((nI_leI (a := 9) (by decide) (by omega)).mp h) (by omega)
  · rw [nI_clamp (by omega), fac_facs n (by omega)]
    exact hq
theorem below_bit : ∀ i, i < 8 → ∀ j, j < 32 → bt (shl 1 (nI (4 * i)) - 1) j = decide (j < 4 * i) := by decide +kernel
theorem un_8 {n k : Nat} (hn : n ≤ 8) (hk : k < fac n) : ∀ p, p ≤ n → (∀ j, un n k p j < 8) ∧ ∀ j, 8 ≤ j → un n k p j = 0
  | 0, _ => ⟨fun j => by show (if j < 8 then j else 0) < 8; split <;> omega, fun j hj => if_neg (by omega)⟩
  | p + 1, hp => by
    obtain ⟨h1, h2⟩ := un_8 hn hk p (by omega)
    have hi := ixn_lt hk (show p < n by omega)
    refine ⟨fun j => ?_, fun j hj => ?_⟩
    · show (if j < ixn n k p then un n k p j else un n k p (j + 1)) < 8
      split
      · exact h1 _
      · exact h1 _
    · show (if j < ixn n k p then un n k p j else un n k p (j + 1)) = 0
      rw [if_neg (by omega)]
      exact h2 _ (by omega)
theorem del_eq {u : Nat → Nat} (h : ∀ j, u j < 8) (h8 : u 8 = 0) {i : Nat} (hi : i < 8) :
    (nI (pak u 8) &&& (shl 1 (nI (4 * i)) - 1)) ||| ((ushr (nI (pak u 8)) 4) &&& ((shl 1 (nI (4 * i)) - 1) ^^^ (-1))) = nI (pak (del i u) 8) := by
  have hu : ∀ p, p < 8 → u p < 16 := fun p _ => Nat.lt_trans (h p) (by decide)
  have hd : ∀ p, p < 8 → del i u p < 16 := fun p _ => by unfold del; split <;> exact Nat.lt_trans (h _) (by decide)
  apply b_ext
  intro k hk
  obtain ⟨p, b, hb, rfl⟩ : ∃ p b, b < 4 ∧ k = 4 * p + b := ⟨k / 4, k % 4, by omega, by omega⟩
  have hp : p < 8 := by omega
  have bu : bt (ushr (nI (pak u 8)) 4) (4 * p + b) = (u (p + 1)).testBit b := by
    show bt ((nI (pak u 8)).toUInt32 >>> ((nI 4).toUInt32 &&& Int32.toUInt32 31)).toInt32 (4 * p + b) = _
    rw [b_ushr 4 (by decide)]
    by_cases hp1 : p + 1 < 8
    · rw [show 4 + (4 * p + b) = 4 * (p + 1) + b by omega, bt_pak hu hp1 hb, decide_eq_true hp1, Bool.true_and]
    · rw [b_big (by omega), show p + 1 = 8 by omega, h8]
      simp
  rw [b_or, b_and, b_and, b_xor, below_bit i hi _ hk, b_m1 _ hk, bu, bt_pak hu hp hb, bt_pak hd hp hb, decide_eq_true hp]
  unfold del
  by_cases c : p < i
  · rw [decide_eq_true (by omega : 4 * p + b < 4 * i), if_pos c]
    simp
  · rw [decide_eq_false (by omega : ¬ 4 * p + b < 4 * i), if_neg c]
    simp
theorem sp_unrank {n k : Nat} {S : St} {Q : Int32 → Prop} (hn : n ≤ 8) (hk : k < fac n) (hq : Q (nI (pak (lay n k) n))) : P_X4_unrank (nI k) (nI n) S Q := by
  unfold P_X4_unrank
  have hk31 : k < 2 ^ 31 := Nat.lt_trans hk (fac_lt hn)
  refine ⟨fun m x2 x3 x4 x5 => ∃ p, p ≤ n ∧ m = n - p ∧ x2 = nI (pak (un n k p) 8) ∧ x3 = nI (rst n k p) ∧ x4 = nI (pak (lay n k) p) ∧ x5 = nI p, ⟨n, 0, Nat.zero_le _, rfl, by
    rw [pak_cong (f := un n k 0) (g := fun b => b) (fun p hp => if_pos hp)]
    rfl, rfl, rfl, rfl⟩, ?_⟩
  rintro m x2 x3 x4 x5 ⟨p, hp, rfl, rfl, rfl, rfl, rfl⟩
  refine ⟨fun hc => ?_, fun hc => ?_⟩
  · have : n ≤ p := (nI_leI (by omega) (by omega)).mp hc
    have e : p = n := by omega
    subst e
    exact hq
  · have hlt := nI_gtI (by omega) (by omega) hc
    have e1 : (nI n - 1) - nI p = nI (n - 1 - p) := by
      rw [show (1 : Int32) = nI 1 from rfl, le_sub1 (by omega), le_sub1 (by omega)]
    rw [e1]
    refine sp_many (by omega) ?_
    intro v8 e8
    have hfp := fac_pos (n - 1 - p)
    have hfl := fac_lt (n := n - 1 - p) (by omega)
    have e8' : v8 = nI (fac (n - 1 - p)) := by
      rw [e8, show (1 : Int32) = nI 1 from rfl, imaxN (by decide) hfl, Nat.max_eq_right hfp]
    subst e8'
    have hr : rst n k p < 2 ^ 31 := Nat.lt_trans (rst_lt hk p hp) (fac_lt (by omega))
    have hi := ixn_lt hk hlt
    obtain ⟨hu1, hu2⟩ := un_8 hn hk p hp
    refine ⟨nI_ne0 hfp hfl, ?_⟩
    intro v10 e10
    refine ⟨nI_ne0 hfp hfl, ?_⟩
    intro v12 e12 v13 e13 v14 e14 v15 e15 v16 e16
    have e10' : v10 = nI (4 * ixn n k p) := by
      rw [e10, pk_div hr hfp hfl, four]
      rfl
    refine ⟨n - (p + 1), by omega, p + 1, by omega, rfl, ?_, ?_, ?_, by rw [e16]; exact nI_1 p⟩
    · rw [e15, e14, e10', del_eq hu1 (hu2 8 (by omega)) (by omega)]
      rfl
    · rw [e12, irmN hr hfp hfl]
      rfl
    · rw [e13, e10', nib2 (Nat.le_refl 8) (fun j _ => hu1 j) (by omega : ixn n k p < 8), pak_or (fun q hq' => Nat.lt_trans ((lay_pm hn hk).1 q (by omega)) (by omega)) (by omega)]
      rfl
theorem rounds_eq : ∀ n, n < 9 → 1985229328 &&& (((lshl 1 (4 * nI n)) - 1).toInt32) = nI (pak (fun p => p) n) := by decide +kernel
theorem sp_roundsOf {n : Nat} {Q : Int32 → Prop} (hn : n ≤ 8) (hq : Q (nI (pak (fun p => p) n))) : P_X4_roundsOf (nI n) Q := by
  unfold P_X4_roundsOf
  rw [rounds_eq n (by omega)]
  exact hq
theorem allBells_eq : ∀ n, n < 9 → (shl 1 (nI n)) - 1 = nI (2 ^ n - 1) := by decide +kernel
theorem sp_bellAt {n p : Nat} {f : Nat → Nat} {Q : Int32 → Prop} (hn : n ≤ 8) (hf : ∀ p, p < n → f p < 8) (hp : p < n) (hq : Q (nI (f p))) : P_X4_bellAt (nI (pak f n)) (nI p) Q := by
  unfold P_X4_bellAt
  rw [nib_pak hn hf hp]
  exact hq
/-! Powers and orders. -/
def pw (f : Nat → Nat) : Nat → Nat → Nat
  | 0, p => p
  | k + 1, p => pw f k (f p)
theorem pw_add (f : Nat → Nat) (a : Nat) : ∀ b p, pw f (a + b) p = pw f a (pw f b p)
  | 0, p => rfl
  | b + 1, p => pw_add f a b (f p)
theorem pw_out (f : Nat → Nat) (k p : Nat) : pw f (k + 1) p = f (pw f k p) := by
  rw [Nat.add_comm, pw_add]
  rfl
theorem pw_lt {n : Nat} {f : Nat → Nat} (h : Pm n f) : ∀ k p, p < n → pw f k p < n
  | 0, _, hp => hp
  | k + 1, p, hp => pw_lt h k (f p) (h.1 p hp)
theorem pm_id (n : Nat) : Pm n (fun p => p) := ⟨fun _ hp => hp, fun _ _ h _ e => absurd e (Nat.ne_of_lt h)⟩
theorem pw_pm {n : Nat} {f : Nat → Nat} (h : Pm n f) : ∀ k, Pm n (pw f k)
  | 0 => pm_id n
  | k + 1 => comp_pm (f := pw f k) (g := f) (pw_pm h k) h
theorem pm_inj {n : Nat} {f : Nat → Nat} (h : Pm n f) {p q : Nat} (hp : p < n) (hq : q < n) (e : f p = f q) : p = q := by
  rcases Nat.lt_trichotomy p q with hl | hl | hl
  · exact absurd e (h.2 p q hl hq)
  · exact hl
  · exact absurd e.symm (h.2 q p hl hp)
theorem pw_mul {f : Nat → Nat} {c p : Nat} (h : pw f c p = p) : ∀ t, pw f (t * c) p = p
  | 0 => by rw [Nat.zero_mul]; rfl
  | t + 1 => by rw [Nat.succ_mul, pw_add, h]; exact pw_mul h t
theorem dvd840 : ∀ c, c < 9 → 1 ≤ c → 840 = (840 / c) * c := by decide
theorem pw_840 {n : Nat} {f : Nat → Nat} (hn : n ≤ 8) (h : Pm n f) {p : Nat} (hp : p < n) : pw f 840 p = p := by
  obtain ⟨i, j, hij, hj, e⟩ := fb_twice (m := n) (n := 9) (f := fun k => pw f k p) (fun k _ => pw_lt h k p hp) (by omega)
  have e2 : pw f i (pw f (j - i) p) = pw f i p := by
    rw [← pw_add, show i + (j - i) = j by omega]
    exact e.symm
  have e3 : pw f (j - i) p = p := pm_inj (pw_pm h i) (pw_lt h _ p hp) hp e2
  rw [dvd840 (j - i) (by omega) (by omega)]
  exact pw_mul e3 _
def idn (n : Nat) (f : Nat → Nat) : Prop := ∀ p, p < n → f p = p
def Ord (n : Nat) (f : Nat → Nat) (k : Nat) : Prop := 1 ≤ k ∧ k ≤ 840 ∧ idn n (pw f k) ∧ ∀ j, 1 ≤ j → j < k → ¬ idn n (pw f j)
theorem ord_ex {n : Nat} {f : Nat → Nat} (hn : n ≤ 8) (h : Pm n f) : ∃ k, Ord n f k := by
  obtain ⟨k, ⟨h1, h2⟩, h3⟩ := pk_least (fun k => 1 ≤ k ∧ idn n (pw f k)) ⟨840, by decide, fun p hp => pw_840 hn h hp⟩
  refine ⟨k, h1, ?_, h2, fun j hj hjk hid => h3 j hjk ⟨hj, hid⟩⟩
  rcases Nat.lt_or_ge 840 k with hl | hl
  · exact absurd ⟨by decide, fun p hp => pw_840 hn h hp⟩ (h3 840 hl)
  · exact hl
theorem pak_id {n : Nat} {f : Nat → Nat} (hn : n ≤ 8) (hf : ∀ p, p < n → f p < 8) : nI (pak f n) = nI (pak (fun p => p) n) ↔ idn n f := by
  have hid : ∀ p, p < n → p < 8 := fun p hp => by omega
  rw [nI_eq (pak_31 hn hf) (pak_31 hn hid)]
  refine ⟨fun e p hp => pak_inj (fun q hq => Nat.lt_trans (hf q hq) (by decide)) (fun q hq => by omega) e p hp, fun h => pak_cong h⟩
theorem pak_eq {n : Nat} {f g : Nat → Nat} (hn : n ≤ 8) (hf : ∀ p, p < n → f p < 8) (hg : ∀ p, p < n → g p < 8) : nI (pak f n) = nI (pak g n) ↔ ∀ p, p < n → f p = g p := by
  rw [nI_eq (pak_31 hn hf) (pak_31 hn hg)]
  exact ⟨fun e p hp => pak_inj (fun q hq => Nat.lt_trans (hf q hq) (by decide)) (fun q hq => Nat.lt_trans (hg q hq) (by decide)) e p hp, fun h => pak_cong h⟩
theorem pm8 {n : Nat} {f : Nat → Nat} (hn : n ≤ 8) (h : Pm n f) : ∀ p, p < n → f p < 8 := fun p hp => Nat.lt_of_lt_of_le (h.1 p hp) hn
theorem sp_orderOf {n k : Nat} {f : Nat → Nat} {Q : Int32 → Prop} (hn : n ≤ 8) (h : Pm n f) (hk : Ord n f k) (hq : Q (nI k)) : P_X4_orderOf (nI (pak f n)) (nI n) Q := by
  obtain ⟨k1, k2, k3, k4⟩ := hk
  unfold P_X4_orderOf
  refine sp_roundsOf hn ?_
  refine ⟨fun m x3 x4 => ∃ t, 1 ≤ t ∧ t ≤ k ∧ m = k - t ∧ x3 = nI (pak (pw f t) n) ∧ x4 = nI t, ⟨k - 1, 1, Nat.le_refl 1, k1, rfl, rfl, rfl⟩, ?_⟩
  rintro m x3 x4 ⟨t, ht1, ht2, rfl, rfl, rfl⟩
  rw [pak_id hn (pm8 hn (pw_pm h t))]
  refine ⟨fun hid => ?_, fun hid => ⟨fun hc => ?_, fun hc => ?_⟩⟩
  · have e : t = k := by
      rcases Nat.lt_or_ge t k with hl | hl
      · exact absurd hid (k4 t ht1 hl)
      · omega
    subst e
    exact hq
  · have : 840 ≤ t := (nI_leI (a := 840) (by decide) (by omega)).mp hc
    have e : t = k := by omega
    subst e
    exact hq
  · have hlt : t < k := by
      rcases Nat.lt_or_ge t k with hl | hl
      · exact hl
      · have e : t = k := by omega
        subst e
        exact absurd k3 hid
    refine sp_multiply hn (pm8 hn (pw_pm h t)) h.1 ?_
    intro v e
    exact ⟨k - (t + 1), by omega, t + 1, by omega, by omega, rfl, rfl, by rw [e]; exact nI_1 t⟩
/-! Sets of places, by their bits. -/
theorem sh1 : ∀ p, p < 32 → ∀ j, j < 32 → bt (shl 1 (nI p)) j = decide (j = p) := by decide +kernel
theorem tb1 {x : Int32} {p : Nat} (hp : p < 32) : (x &&& shl 1 (nI p)) = 0 ↔ bt x p = false := by
  refine ⟨fun e => ?_, fun e => b_ext (fun j hj => ?_)⟩
  · have h1 : bt (x &&& shl 1 (nI p)) p = bt 0 p := by rw [e]
    rw [b_and, sh1 p hp p hp, b_0] at h1
    simpa using h1
  · rw [b_and, sh1 p hp j hj, b_0]
    by_cases c : j = p
    · subst c; rw [e]; rfl
    · simp [c]
theorem tb1n {x : Int32} {p : Nat} (hp : p < 32) : ¬ (x &&& shl 1 (nI p)) = 0 ↔ bt x p = true := by
  rw [tb1 hp]
  cases bt x p <;> simp
theorem b_1 (j : Nat) (hj : j < 32) : bt 1 j = decide (j = 0) := by
  have : ∀ j, j < 32 → bt 1 j = decide (j = 0) := by decide +kernel
  exact this j hj
theorem tb2v {x : Int32} {p : Nat} (hp : p < 32) : (shr x (nI p)) &&& 1 = if bt x p then 1 else 0 := by
  apply b_ext
  intro j hj
  rw [b_and, b_1 j hj]
  show (bt (x >>> (nI p &&& 31)) j && decide (j = 0)) = _
  rw [b_sshr p hp x hj]
  by_cases c : j = 0
  · subst c
    rw [if_pos (by omega)]
    cases h : bt x p
    · simp [h, b_0]
    · simp [h, b_1 0 (by decide)]
  · cases h : bt x p
    · simp [c, b_0]
    · simp [c, b_1 j hj]
theorem tb2 {x : Int32} {p : Nat} (hp : p < 32) : (shr x (nI p)) &&& 1 = 1 ↔ bt x p = true := by
  rw [tb2v hp]
  cases bt x p <;> simp
theorem tb2z {x : Int32} {p : Nat} (hp : p < 32) : (shr x (nI p)) &&& 1 = 0 ↔ bt x p = false := by
  rw [tb2v hp]
  cases bt x p <;> simp
theorem tb3 {x : Int32} {p j : Nat} (hp : p < 32) (hj : j < 32) : bt (x ||| shl 1 (nI p)) j = (bt x j || decide (j = p)) := by rw [b_or, sh1 p hp j hj]
def mskN (g : Nat → Bool) : Nat → Nat
  | 0 => 0
  | n + 1 => mskN g n + (if g n then 2 ^ n else 0)
def msk (g : Nat → Bool) (n : Nat) : Int32 := nI (mskN g n)
theorem mskN_lt (g : Nat → Bool) : ∀ n, mskN g n < 2 ^ n
  | 0 => by show 0 < 1; decide
  | n + 1 => by
    have h := mskN_lt g n
    show mskN g n + (if g n then 2 ^ n else 0) < 2 ^ (n + 1)
    rw [Nat.pow_succ]
    split <;> omega
theorem mskN_bit (g : Nat → Bool) : ∀ n j, (mskN g n).testBit j = (decide (j < n) && g j)
  | 0, j => by show Nat.testBit 0 j = _; simp
  | n + 1, j => by
    have h := mskN_lt g n
    show (mskN g n + (if g n then 2 ^ n else 0)).testBit j = _
    cases hg : g n
    · rw [if_neg (by decide), Nat.add_zero, mskN_bit g n j]
      by_cases c : j = n
      · subst c; simp [hg]
      · by_cases d : j < n
        · simp [d, show j < n + 1 by omega]
        · simp [d, show ¬ j < n + 1 by omega]
    · rw [if_pos rfl]
      have e : mskN g n + 2 ^ n = 2 ^ n * 1 + mskN g n := by omega
      rw [e, Nat.two_pow_add_eq_or_of_lt h, Nat.testBit_or, mskN_bit g n j, Nat.mul_one, Nat.testBit_two_pow]
      by_cases c : j = n
      · subst c; simp [hg]
      · by_cases d : j < n
        · simp [d, show j < n + 1 by omega, show ¬ n = j by omega]
        · simp [d, show ¬ j < n + 1 by omega, show ¬ n = j by omega]
theorem msk_bt (g : Nat → Bool) (n : Nat) {j : Nat} (hj : j < 32) : bt (msk g n) j = (decide (j < n) && g j) := by
  unfold msk
  rw [bt_nI hj, mskN_bit]
theorem msk_ext {x : Int32} {g : Nat → Bool} {n : Nat} (h : ∀ j, j < 32 → bt x j = (decide (j < n) && g j)) : x = msk g n := b_ext (fun j hj => by rw [h j hj, msk_bt g n hj])
theorem msk_in (g : Nat → Bool) {p : Nat} (hp : p < 31) (h : g p = true) : msk g p ||| shl 1 (nI p) = msk g (p + 1) := by
  apply b_ext
  intro j hj
  rw [tb3 (by omega) hj, msk_bt g p hj, msk_bt g (p + 1) hj]
  by_cases c : j = p
  · subst c; simp [h]
  · by_cases d : j < p
    · simp [d, c, show j < p + 1 by omega]
    · simp [d, c, show ¬ j < p + 1 by omega]
theorem msk_no (g : Nat → Bool) {p : Nat} (h : g p = false) : msk g (p + 1) = msk g p := by
  show nI (mskN g p + (if g p then 2 ^ p else 0)) = nI (mskN g p)
  rw [h, if_neg (by decide), Nat.add_zero]
theorem msk_cong {g h : Nat → Bool} : ∀ {n : Nat}, (∀ p, p < n → g p = h p) → msk g n = msk h n := fun {n} hh => b_ext (fun j hj => by
  rw [msk_bt g n hj, msk_bt h n hj]
  by_cases c : j < n
  · rw [hh j c]
  · simp [c])
theorem sp_fixedOf {n : Nat} {f : Nat → Nat} {Q : Int32 → Prop} (hn : n ≤ 8) (h : Pm n f) (hq : Q (msk (fun p => decide (f p = p)) n)) : P_X4_fixedOf (nI (pak f n)) (nI n) Q := by
  unfold P_X4_fixedOf
  refine ⟨fun k x2 x3 => ∃ p, p ≤ n ∧ k = n - p ∧ x2 = msk (fun p => decide (f p = p)) p ∧ x3 = nI p, ⟨n, 0, Nat.zero_le _, rfl, rfl, rfl⟩, ?_⟩
  rintro k x2 x3 ⟨p, hp, rfl, rfl, rfl⟩
  refine ⟨fun hc => ?_, fun hc => ?_⟩
  · have : n ≤ p := (nI_leI (by omega) (by omega)).mp hc
    have e : p = n := by omega
    subst e
    exact hq
  · have hlt := nI_gtI (by omega) (by omega) hc
    refine sp_bellAt hn (pm8 hn h) hlt ?_
    have hf := h.1 p hlt
    rw [nI_eq (by omega) (by omega)]
    refine ⟨fun hne v ev => ⟨n - (p + 1), by omega, p + 1, by omega, rfl, ?_, by rw [ev]; exact nI_1 p⟩, fun he v ev w ew => ⟨n - (p + 1), by omega, p + 1, by omega, rfl, ?_, by rw [ew]; exact nI_1 p⟩⟩
    · rw [msk_no _ (decide_eq_false hne)]
    · rw [ev, msk_in _ (by omega) (decide_eq_true he)]
