/-! The search, lead by lead. -/
abbrev Bs : Type := Nat × (Nat → Nat) × (Nat → Nat) × (Nat → Nat)
def bC (s : Bs) : Nat := s.1
def bF (s : Bs) : Nat → Nat := s.2.1
def bP (s : Bs) : Nat → Nat := s.2.2.1
def bW (s : Bs) : Nat → Nat := s.2.2.2
def nxr (n : Nat) (h : Nat → Nat → Nat) (r a : Nat) : Nat := num n (fun p => lay n r (h a p))
def tr1 (n : Nat) (h : Nat → Nat → Nat) (k a : Nat) (s : Bs) : Bs := if us (bF s) (bC s) (nxr n h (bF s k) a) then s else (bC s + 1, setf (bF s) (bC s) (nxr n h (bF s k) a), setf (bP s) (bC s) k, setf (bW s) (bC s) a)
def inn (n : Nat) (h : Nat → Nat → Nat) (k : Nat) : Nat → Bs → Bs
  | 0, s => s
  | a + 1, s => tr1 n h k a (inn n h k a s)
def ob (n : Nat) (h : Nat → Nat → Nat) (A : Nat) : Nat → Bs
  | 0 => (1, fun _ => 0, fun _ => 0, fun _ => 0)
  | k + 1 => if k < bC (ob n h A k) then inn n h k A (ob n h A k) else ob n h A k
def EX (s t : Bs) : Prop := bC s ≤ bC t ∧ ∀ j, j < bC s → bF t j = bF s j ∧ bP t j = bP s j ∧ bW t j = bW s j
theorem EX.rf {s : Bs} : EX s s := ⟨Nat.le_refl _, fun _ _ => ⟨rfl, rfl, rfl⟩⟩
theorem EX.tr {s t u : Bs} (h : EX s t) (h2 : EX t u) : EX s u := ⟨Nat.le_trans h.1 h2.1, fun j hj => by
  obtain ⟨a1, a2, a3⟩ := h.2 j hj
  obtain ⟨b1, b2, b3⟩ := h2.2 j (Nat.lt_of_lt_of_le hj h.1)
  exact ⟨b1.trans a1, b2.trans a2, b3.trans a3⟩⟩
theorem tr1_y {n : Nat} {h : Nat → Nat → Nat} {k a : Nat} {s : Bs} (hu : us (bF s) (bC s) (nxr n h (bF s k) a) = true) : tr1 n h k a s = s := by unfold tr1; rw [if_pos hu]
theorem tr1_n {n : Nat} {h : Nat → Nat → Nat} {k a : Nat} {s : Bs} (hu : ¬ us (bF s) (bC s) (nxr n h (bF s k) a) = true) : tr1 n h k a s = (bC s + 1, setf (bF s) (bC s) (nxr n h (bF s k) a), setf (bP s) (bC s) k, setf (bW s) (bC s) a) := by unfold tr1; rw [if_neg hu]
theorem setf_at {f : Nat → Nat} {p v : Nat} : setf f p v p = v := if_pos rfl
theorem setf_no {f : Nat → Nat} {p v q : Nat} (h : q ≠ p) : setf f p v q = f q := if_neg h
theorem tr1_ex (n : Nat) (h : Nat → Nat → Nat) (k a : Nat) (s : Bs) : EX s (tr1 n h k a s) := by
  by_cases c : us (bF s) (bC s) (nxr n h (bF s k) a) = true
  · rw [tr1_y c]; exact EX.rf
  · rw [tr1_n c]
    refine ⟨Nat.le_succ _, fun j hj => ?_⟩
    exact ⟨setf_no (Nat.ne_of_lt hj), setf_no (Nat.ne_of_lt hj), setf_no (Nat.ne_of_lt hj)⟩
theorem inn_ex (n : Nat) (h : Nat → Nat → Nat) (k : Nat) (s : Bs) : ∀ a, EX s (inn n h k a s)
  | 0 => EX.rf
  | a + 1 => (inn_ex n h k s a).tr (tr1_ex n h k a _)
def BV (n : Nat) (h : Nat → Nat → Nat) (A k : Nat) (s : Bs) : Prop := 1 ≤ bC s ∧ bF s 0 = 0 ∧ (∀ j, j < bC s → bF s j < fac n) ∧ (∀ i j, i < j → j < bC s → bF s i ≠ bF s j) ∧ (∀ j, 1 ≤ j → j < bC s → bP s j < j ∧ bP s j ≤ k ∧ bW s j < A ∧ bF s j = nxr n h (bF s (bP s j)) (bW s j)) ∧ ∀ i j, 1 ≤ i → i ≤ j → j < bC s → bP s i ≤ bP s j
section BF
variable {n A : Nat} {h : Nat → Nat → Nat}
theorem nxr_lt (hn : n ≤ 8) (hp : ∀ a, a < A → Pm n (h a)) {r a : Nat} (hr : r < fac n) (ha : a < A) : nxr n h r a < fac n := num_lt (comp_pm (lay_pm hn hr) (hp a ha))
theorem tr1_bv (hn : n ≤ 8) (hp : ∀ a, a < A → Pm n (h a)) {k a : Nat} {s : Bs} (hb : BV n h A k s) (hk : k < bC s) (ha : a < A) : BV n h A k (tr1 n h k a s) ∧ us (bF (tr1 n h k a s)) (bC (tr1 n h k a s)) (nxr n h (bF s k) a) = true := by
  by_cases c : us (bF s) (bC s) (nxr n h (bF s k) a) = true
  · rw [tr1_y c]; exact ⟨hb, c⟩
  · have hno := us_no.mp (ts_nt c)
    rw [tr1_n c]
    obtain ⟨b1, b2, b3, b4, b5, b6⟩ := hb
    have new := nxr_lt hn hp (b3 k hk) ha
    refine ⟨⟨Nat.le_add_left _ _, ?_, fun j hj => ?_, fun i j hij hj => ?_, fun j hj1 hj => ?_, fun i j hi hij hj => ?_⟩, ?_⟩
    · show setf (bF s) (bC s) _ 0 = 0
      rw [setf_no (by omega)]; exact b2
    · have hj' : j < bC s + 1 := hj
      show setf (bF s) (bC s) _ j < fac n
      by_cases cj : j = bC s
      · rw [cj, setf_at]; exact new
      · rw [setf_no cj]; exact b3 j (by omega)
    · have hj' : j < bC s + 1 := hj
      show setf (bF s) (bC s) _ i ≠ setf (bF s) (bC s) _ j
      rw [setf_no (show i ≠ bC s by omega)]
      by_cases cj : j = bC s
      · rw [cj, setf_at]; exact hno i (by omega)
      · rw [setf_no cj]; exact b4 i j hij (by omega)
    · have hj' : j < bC s + 1 := hj
      show setf (bP s) (bC s) k j < j ∧ setf (bP s) (bC s) k j ≤ k ∧ setf (bW s) (bC s) a j < A ∧ setf (bF s) (bC s) _ j = nxr n h (setf (bF s) (bC s) _ (setf (bP s) (bC s) k j)) (setf (bW s) (bC s) a j)
      by_cases cj : j = bC s
      · rw [cj, setf_at, setf_at, setf_at, setf_no (show k ≠ bC s by omega)]
        exact ⟨hk, Nat.le_refl _, ha, rfl⟩
      · obtain ⟨y1, y2, y3, y4⟩ := b5 j hj1 (by omega)
        rw [setf_no cj, setf_no cj, setf_no cj, setf_no (show bP s j ≠ bC s by omega)]
        exact ⟨y1, y2, y3, y4⟩
    · have hj' : j < bC s + 1 := hj
      show setf (bP s) (bC s) k i ≤ setf (bP s) (bC s) k j
      by_cases cj : j = bC s
      · rw [cj, setf_at]
        by_cases ci : i = bC s
        · rw [ci, setf_at]; exact Nat.le_refl _
        · rw [setf_no ci]; exact (b5 i hi (by omega)).2.1
      · rw [setf_no cj, setf_no (show i ≠ bC s by omega)]
        exact b6 i j hi hij (by omega)
    · exact (us_iff _ _ _).mpr ⟨bC s, Nat.lt_succ_self _, setf_at⟩
theorem us_ex {s t : Bs} (h : EX s t) {r : Nat} (hu : us (bF s) (bC s) r = true) : us (bF t) (bC t) r = true := by
  obtain ⟨q, q1, q2⟩ := (us_iff _ _ _).mp hu
  exact (us_iff _ _ _).mpr ⟨q, Nat.lt_of_lt_of_le q1 h.1, by rw [(h.2 q q1).1]; exact q2⟩
theorem inn_bv (hn : n ≤ 8) (hp : ∀ a, a < A → Pm n (h a)) {k : Nat} {s : Bs} (hb : BV n h A k s) (hk : k < bC s) : ∀ a, a ≤ A → BV n h A k (inn n h k a s) ∧ ∀ b, b < a → us (bF (inn n h k a s)) (bC (inn n h k a s)) (nxr n h (bF s k) b) = true
  | 0, _ => ⟨hb, fun b hb => by omega⟩
  | a + 1, ha => by
    obtain ⟨h1, h2⟩ := inn_bv hn hp hb hk a (by omega)
    have ex := inn_ex n h k s a
    have ek := (ex.2 k hk).1
    have hk' : k < bC (inn n h k a s) := Nat.lt_of_lt_of_le hk ex.1
    obtain ⟨g1, g2⟩ := tr1_bv hn hp h1 hk' (show a < A by omega)
    rw [ek] at g2
    refine ⟨g1, fun b hb' => ?_⟩
    by_cases c : b = a
    · subst c; exact g2
    · exact us_ex (tr1_ex n h k a _) (h2 b (by omega))
theorem BV.mono {k k' : Nat} {s : Bs} (hb : BV n h A k s) (hk : k ≤ k') : BV n h A k' s := by
  obtain ⟨b1, b2, b3, b4, b5, b6⟩ := hb
  exact ⟨b1, b2, b3, b4, fun j h1 h2 => by
    obtain ⟨y1, y2, y3, y4⟩ := b5 j h1 h2
    exact ⟨y1, by omega, y3, y4⟩, b6⟩
def CLs (n : Nat) (h : Nat → Nat → Nat) (A K : Nat) (s : Bs) : Prop := ∀ k a, k < K → a < A → ∃ j, j < bC s ∧ bF s j = nxr n h (bF s k) a ∧ (j = 0 ∨ bP s j ≤ k)
theorem ob_bv (hn : n ≤ 8) (hp : ∀ a, a < A → Pm n (h a)) : ∀ k, BV n h A k (ob n h A k) ∧ ∀ K, K ≤ k → K ≤ bC (ob n h A k) → CLs n h A K (ob n h A k)
  | 0 => ⟨⟨Nat.le_refl _, rfl, fun j _ => fac_pos n, fun i j h1 h2 => by have : j < 1 := h2; omega, fun j h1 h2 => by have : j < 1 := h2; omega, fun i j h1 h2 h3 => by have : j < 1 := h3; omega⟩, fun K h1 _ k a hk => by omega⟩
  | k + 1 => by
    obtain ⟨ih1, ih2⟩ := ob_bv hn hp k
    show BV n h A (k + 1) (if k < bC (ob n h A k) then _ else _) ∧ _
    by_cases c : k < bC (ob n h A k)
    · have e : ob n h A (k + 1) = inn n h k A (ob n h A k) := if_pos c
      rw [if_pos c, e]
      obtain ⟨g1, g2⟩ := inn_bv hn hp ih1 c A (Nat.le_refl _)
      have ex := inn_ex n h k (ob n h A k) A
      refine ⟨g1.mono (by omega), fun K hK hK2 k' a hk' ha => ?_⟩
      by_cases ck : k' = k
      · subst ck
        obtain ⟨j, j1, j2⟩ := (us_iff _ _ _).mp (g2 a ha)
        refine ⟨j, j1, ?_, ?_⟩
        · rw [(ex.2 k' c).1]; exact j2
        · rcases Nat.eq_zero_or_pos j with z | z
          · exact Or.inl z
          · exact Or.inr (g1.2.2.2.2.1 j z j1).2.1
      · obtain ⟨j, j1, j2, j3⟩ := ih2 k (Nat.le_refl _) (by omega) k' a (by omega) ha
        refine ⟨j, Nat.lt_of_lt_of_le j1 ex.1, ?_, ?_⟩
        · rw [(ex.2 j j1).1, (ex.2 k' (by omega)).1]; exact j2
        · rw [(ex.2 j j1).2.1]; exact j3
    · have e : ob n h A (k + 1) = ob n h A k := if_neg c
      rw [if_neg c, e]
      exact ⟨ih1.mono (by omega), fun K hK hK2 => ih2 K (by omega) hK2⟩
theorem ob_C (hn : n ≤ 8) (hp : ∀ a, a < A → Pm n (h a)) (k : Nat) : bC (ob n h A k) ≤ fac n := by
  obtain ⟨⟨-, -, b3, b4, -, -⟩, -⟩ := ob_bv hn hp k
  exact fb_holes _ _ _ b3 b4
theorem ob_stay {k : Nat} (hk : bC (ob n h A k) ≤ k) : ∀ j, ob n h A (k + j) = ob n h A k
  | 0 => rfl
  | j + 1 => by
    have ih := ob_stay hk j
    have e : ob n h A (k + (j + 1)) = if k + j < bC (ob n h A (k + j)) then inn n h (k + j) A (ob n h A (k + j)) else ob n h A (k + j) := rfl
    rw [e, ih, if_neg (by omega)]
def bfin (n : Nat) (h : Nat → Nat → Nat) (A : Nat) : Bs := ob n h A (fac n)
theorem ob_end (hn : n ≤ 8) (hp : ∀ a, a < A → Pm n (h a)) {k : Nat} (hk : bC (ob n h A k) ≤ k) (hf : k ≤ fac n) : ob n h A k = bfin n h A := by
  have := ob_stay hk (fac n - k)
  rw [show k + (fac n - k) = fac n by omega] at this
  exact this.symm
/-! Depths. -/
def dpf (P : Nat → Nat) : Nat → Nat → Nat
  | 0, _ => 0
  | f + 1, j => if j = 0 then 0 else dpf P f (P j) + 1
theorem dpf_fuel {P : Nat → Nat} {C : Nat} (hP : ∀ j, 1 ≤ j → j < C → P j < j) : ∀ f g j, j < C → j ≤ f → j ≤ g → dpf P f j = dpf P g j
  | 0, g, j, _, hf, _ => by
    have : j = 0 := by omega
    subst this
    cases g with
    | zero => rfl
    | succ g => rfl
  | f + 1, 0, j, _, _, hg => by
    have : j = 0 := by omega
    subst this
    rfl
  | f + 1, g + 1, j, hj, hf, hg => by
    show (if j = 0 then 0 else dpf P f (P j) + 1) = if j = 0 then 0 else dpf P g (P j) + 1
    by_cases c : j = 0
    · rw [if_pos c, if_pos c]
    · rw [if_neg c, if_neg c]
      have := hP j (by omega) hj
      rw [dpf_fuel hP f g (P j) (by omega) (by omega) (by omega)]
def dp (s : Bs) (j : Nat) : Nat := dpf (bP s) j j
theorem dp_0 (s : Bs) : dp s 0 = 0 := rfl
theorem dp_s {k : Nat} {s : Bs} (hb : BV n h A k s) {j : Nat} (hj1 : 1 ≤ j) (hj : j < bC s) : dp s j = dp s (bP s j) + 1 := by
  have hP : ∀ j, 1 ≤ j → j < bC s → bP s j < j := fun j h1 h2 => (hb.2.2.2.2.1 j h1 h2).1
  obtain ⟨f, rfl⟩ : ∃ f, j = f + 1 := ⟨j - 1, by omega⟩
  show (if f + 1 = 0 then 0 else dpf (bP s) f (bP s (f + 1)) + 1) = _
  rw [if_neg (by omega)]
  have := hP (f + 1) hj1 hj
  rw [dpf_fuel hP f (bP s (f + 1)) (bP s (f + 1)) (by omega) (by omega) (Nat.le_refl _)]
  rfl
theorem dp_le {k : Nat} {s : Bs} (hb : BV n h A k s) : ∀ N j, j < N → j < bC s → dp s j ≤ j
  | 0, j, hN, _ => by omega
  | N + 1, j, hN, hj => by
    rcases Nat.eq_zero_or_pos j with z | z
    · subst z; exact Nat.le_refl _
    · have hP := (hb.2.2.2.2.1 j z hj).1
      have := dp_le hb N (bP s j) (by omega) (by omega)
      rw [dp_s hb z hj]
      omega
theorem dp_mono {k : Nat} {s : Bs} (hb : BV n h A k s) : ∀ N i j, i < N → i ≤ j → j < bC s → dp s i ≤ dp s j
  | 0, i, j, hN, _, _ => by omega
  | N + 1, i, j, hN, hij, hj => by
    rcases Nat.eq_zero_or_pos i with z | z
    · subst z; rw [dp_0]; exact Nat.zero_le _
    · rw [dp_s hb z (by omega), dp_s hb (by omega) hj]
      have h1 := (hb.2.2.2.2.1 i z (by omega)).1
      have h2 := (hb.2.2.2.2.1 j (by omega) hj).1
      have := dp_mono hb N (bP s i) (bP s j) (by omega) (hb.2.2.2.2.2 i j z hij hj) (by omega)
      omega
theorem row_s (hn : n ≤ 8) (hp : ∀ a, a < A → Pm n (h a)) {k : Nat} {s : Bs} (hb : BV n h A k s) {j : Nat} (hj1 : 1 ≤ j) (hj : j < bC s) : Eqn n (lay n (bF s j)) (fun p => lay n (bF s (bP s j)) (h (bW s j) p)) := fun p hpn => by
  obtain ⟨y1, y2, y3, y4⟩ := hb.2.2.2.2.1 j hj1 hj
  rw [y4]
  exact lay_num hn (comp_pm (lay_pm hn (hb.2.2.1 _ (by omega))) (hp _ y3)) p hpn
/-- each row found is come to by as many leads as its depth -/
theorem word_of (hn : n ≤ 8) (hp : ∀ a, a < A → Pm n (h a)) {k : Nat} {s : Bs} (hb : BV n h A k s) : ∀ N j, j < N → j < bC s → ∃ w, (∀ t, t < dp s j → w t < A) ∧ Eqn n (ev h w (dp s j)) (lay n (bF s j))
  | 0, j, hN, _ => by omega
  | N + 1, j, hN, hj => by
    rcases Nat.eq_zero_or_pos j with z | z
    · subst z
      refine ⟨fun _ => 0, fun t ht => by rw [dp_0] at ht; omega, fun p hpn => ?_⟩
      rw [dp_0, hb.2.1, lay_0 hn p hpn]
      rfl
    · obtain ⟨y1, y2, y3, y4⟩ := hb.2.2.2.2.1 j z hj
      obtain ⟨w, w1, w2⟩ := word_of hn hp hb N (bP s j) (by omega) (by omega)
      rw [dp_s hb z hj]
      refine ⟨fun t => if t = dp s (bP s j) then bW s j else w t, fun t ht => ?_, fun p hpn => ?_⟩
      · show (if t = dp s (bP s j) then bW s j else w t) < A
        by_cases c : t = dp s (bP s j)
        · rw [if_pos c]; exact y3
        · rw [if_neg c]; exact w1 t (by omega)
      · rw [row_s hn hp hb z hj p hpn]
        show ev h (fun t => if t = dp s (bP s j) then bW s j else w t) (dp s (bP s j)) (h (if dp s (bP s j) = dp s (bP s j) then bW s j else w (dp s (bP s j))) p) = _
        rw [if_pos rfl, ev_cong (dp s (bP s j)) (v := w) (fun t ht => if_neg (by omega)), w2 _ ((hp _ y3).1 p hpn)]
theorem fin_bv (hn : n ≤ 8) (hp : ∀ a, a < A → Pm n (h a)) : BV n h A (fac n) (bfin n h A) ∧ CLs n h A (bC (bfin n h A)) (bfin n h A) := by
  obtain ⟨h1, h2⟩ := ob_bv hn hp (fac n)
  exact ⟨h1, h2 _ (ob_C hn hp _) (Nat.le_refl _)⟩
/-- no word is shorter -/
theorem word_min (hn : n ≤ 8) (hp : ∀ a, a < A → Pm n (h a)) (w : Nat → Nat) : ∀ L, (∀ t, t < L → w t < A) → ∃ j, j < bC (bfin n h A) ∧ Eqn n (ev h w L) (lay n (bF (bfin n h A) j)) ∧ dp (bfin n h A) j ≤ L
  | 0, _ => by
    obtain ⟨hb, -⟩ := fin_bv hn hp
    refine ⟨0, hb.1, fun p hpn => ?_, Nat.le_refl _⟩
    rw [hb.2.1, lay_0 hn p hpn]
    rfl
  | L + 1, hw => by
    obtain ⟨hb, hc⟩ := fin_bv hn hp
    obtain ⟨j, j1, j2, j3⟩ := word_min hn hp w L (fun t ht => hw t (by omega))
    have wl := hw L (by omega)
    obtain ⟨j', c1, c2, c3⟩ := hc j (w L) j1 wl
    refine ⟨j', c1, fun p hpn => ?_, ?_⟩
    · show ev h w L (h (w L) p) = _
      rw [j2 _ ((hp _ wl).1 p hpn), c2]
      exact (lay_num hn (comp_pm (lay_pm hn (hb.2.2.1 j j1)) (hp _ wl)) p hpn).symm
    · rcases Nat.eq_zero_or_pos j' with z | z
      · subst z; rw [dp_0]; omega
      · rw [dp_s hb z c1]
        have := dp_mono hb (bP (bfin n h A) j' + 1) (bP (bfin n h A) j') j (by omega) (by omega) j1
        omega
theorem depth_le (hn : n ≤ 8) (hA : A ≤ 12) (hp : ∀ a, a < A → Pm n (h a)) {j : Nat} (hj : j < bC (bfin n h A)) : dp (bfin n h A) j ≤ 12602 := by
  obtain ⟨hb, hc⟩ := fin_bv hn hp
  refine far_le hn hA hp (e := lay n (bF (bfin n h A) j)) (word_of hn hp hb (j + 1) j (by omega) hj) (fun w L hw he => ?_)
  obtain ⟨i, i1, i2, i3⟩ := word_min hn hp w L hw
  have e : bF (bfin n h A) i = bF (bfin n h A) j := by
    have l1 := hb.2.2.1 i i1
    have l2 := hb.2.2.1 j hj
    have := num_cong (fun p hpn => ((i2 p hpn).symm.trans (he p hpn) : lay n (bF (bfin n h A) i) p = lay n (bF (bfin n h A) j) p))
    rw [num_lay hn l1, num_lay hn l2] at this
    exact this
  have : i = j := by
    rcases Nat.lt_trichotomy i j with z | z | z
    · exact absurd e (hb.2.2.2.1 i j z hj)
    · exact z
    · exact absurd e.symm (hb.2.2.2.1 j i z i1)
  subst this
  exact i3
/-- a lead that another comes to before, or that is rounds, finds nothing -/
theorem inn_dup (hn : n ≤ 8) (hp : ∀ a, a < A → Pm n (h a)) {k : Nat} {s : Bs} (hb : BV n h A k s) (hk : k < bC s) {a : Nat} (ha : a < A) (hd : idn n (h a) ∨ ∃ b, b < a ∧ Eqn n (h b) (h a)) : inn n h k (a + 1) s = inn n h k a s := by
  obtain ⟨h1, h2⟩ := inn_bv hn hp hb hk a (by omega)
  have ex := inn_ex n h k s a
  have ek := (ex.2 k hk).1
  have hf := hb.2.2.1 k hk
  refine tr1_y ?_
  rw [ek]
  rcases hd with hd | ⟨b, b1, b2⟩
  · refine (us_iff _ _ _).mpr ⟨k, Nat.lt_of_lt_of_le hk ex.1, ?_⟩
    rw [ek]
    unfold nxr
    rw [num_cong (g := lay n (bF s k)) (fun p hpn => by rw [hd p hpn]), num_lay hn hf]
  · have := h2 b b1
    have e : nxr n h (bF s k) a = nxr n h (bF s k) b := num_cong (fun p hpn => by rw [b2 p hpn])
    rw [e]; exact this
end BF
