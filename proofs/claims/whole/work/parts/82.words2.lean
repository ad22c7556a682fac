/-! Rows by leads: how far a search can go. -/
def ev (h : Nat → Nat → Nat) (w : Nat → Nat) : Nat → Nat → Nat
  | 0 => fun p => p
  | L + 1 => fun p => ev h w L (h (w L) p)
theorem ev_add (h : Nat → Nat → Nat) (w : Nat → Nat) (a : Nat) : ∀ b p, ev h w (a + b) p = ev h w a (ev h (fun t => w (a + t)) b p)
  | 0, _ => rfl
  | b + 1, p => ev_add h w a b (h (w (a + b)) p)
theorem ev_cong {h : Nat → Nat → Nat} {w v : Nat → Nat} : ∀ L, (∀ t, t < L → w t = v t) → ev h w L = ev h v L
  | 0, _ => rfl
  | L + 1, hh => by
    show (fun p => ev h w L (h (w L) p)) = fun p => ev h v L (h (v L) p)
    rw [ev_cong L (fun t ht => hh t (by omega)), hh L (by omega)]
theorem ev_pm {n A : Nat} {h : Nat → Nat → Nat} (hp : ∀ a, a < A → Pm n (h a)) {w : Nat → Nat} : ∀ L, (∀ t, t < L → w t < A) → Pm n (ev h w L)
  | 0, _ => pm_id n
  | L + 1, hw => by
    show Pm n (fun p => ev h w L (h (w L) p))
    exact comp_pm (ev_pm hp L (fun t ht => hw t (by omega))) (hp _ (hw L (by omega)))
theorem ev_per {h : Nat → Nat → Nat} {w : Nat → Nat} {c : Nat} : ∀ r, (∀ t, t + c < c * r → w (t + c) = w t) → (∀ q t, q < r → t < c → w (c * q + t) = w t) ∧ ∀ p, ev h w (c * r) p = pw (ev h w c) r p
  | 0, _ => ⟨fun q t hq => by omega, fun p => by rw [Nat.mul_zero]; rfl⟩
  | r + 1, hh => by
    have e1 : c * (r + 1) = c * r + c := by rw [Nat.mul_add, Nat.mul_one]
    obtain ⟨i1, i2⟩ := ev_per (h := h) (w := w) (c := c) r (fun t ht => hh t (by omega))
    have rep : ∀ q t, q < r + 1 → t < c → w (c * q + t) = w t := fun q t hq ht => by
      by_cases cq : q < r
      · exact i1 q t cq ht
      · cases r with
        | zero => rw [show q = 0 by omega, Nat.mul_zero, Nat.zero_add]
        | succ k =>
          have eq : q = k + 1 := by omega
          subst eq
          have e2 : c * (k + 1) = c * k + c := by rw [Nat.mul_add, Nat.mul_one]
          have := hh (c * k + t) (by omega)
          rw [show c * (k + 1) + t = c * k + t + c by omega, this]
          exact i1 k t (by omega) ht
    refine ⟨rep, fun p => ?_⟩
    rw [e1, ev_add, ev_cong c (v := w) (fun t ht => rep r t (by omega) ht), i2]
    rfl
/-! Words as numbers. -/
def cw (w : Nat → Nat) : Nat → Nat
  | 0 => 0
  | L + 1 => 12 * cw w L + w L
theorem cw_cong {w v : Nat → Nat} : ∀ L, (∀ t, t < L → w t = v t) → cw w L = cw v L
  | 0, _ => rfl
  | L + 1, h => by
    show 12 * cw w L + w L = 12 * cw v L + v L
    rw [cw_cong L (fun t ht => h t (by omega)), h L (by omega)]
theorem cw_lt {w : Nat → Nat} : ∀ L, (∀ t, t < L → w t < 12) → cw w L < 12 ^ L
  | 0, _ => Nat.zero_lt_one
  | L + 1, h => by
    have h1 := cw_lt L (fun t ht => h t (by omega))
    have h2 := h L (by omega)
    rw [Nat.pow_succ]
    show 12 * cw w L + w L < _
    omega
theorem cw_add (w : Nat → Nat) (a : Nat) : ∀ b, cw w (a + b) = cw w a * 12 ^ b + cw (fun t => w (a + t)) b
  | 0 => by rw [Nat.pow_zero, Nat.mul_one]; rfl
  | b + 1 => by
    show 12 * cw w (a + b) + w (a + b) = cw w a * 12 ^ (b + 1) + (12 * cw (fun t => w (a + t)) b + w (a + b))
    rw [cw_add w a b, Nat.pow_succ, Nat.mul_add, ← Nat.mul_assoc (cw w a), Nat.mul_comm (cw w a * 12 ^ b) 12]
    omega
theorem cw_inj {w v : Nat → Nat} : ∀ L, (∀ t, t < L → w t < 12) → (∀ t, t < L → v t < 12) → cw w L = cw v L → ∀ t, t < L → w t = v t
  | 0, _, _, _ => fun t ht => by omega
  | L + 1, hw, hv, e => fun t ht => by
    have e' : 12 * cw w L + w L = 12 * cw v L + v L := e
    have a1 := hw L (by omega)
    have a2 := hv L (by omega)
    by_cases c : t = L
    · subst c; omega
    · exact cw_inj L (fun t ht => hw t (by omega)) (fun t ht => hv t (by omega)) (by omega) t (by omega)
/-- another word in place of a stretch -/
def rpl (w v : Nat → Nat) (i k : Nat) : Nat → Nat := fun t => if i ≤ t ∧ t < i + k then v (t - i) else w t
theorem rpl_ev {h : Nat → Nat → Nat} {w v : Nat → Nat} {n A i k r : Nat} (hp : ∀ a, a < A → Pm n (h a)) (hw : ∀ t, t < i + k + r → w t < A) (he : Eqn n (ev h v k) (ev h (fun t => w (i + t)) k)) : Eqn n (ev h (rpl w v i k) (i + k + r)) (ev h w (i + k + r)) := fun p hpn => by
  rw [ev_add, ev_add, ev_add, ev_add]
  have e1 : ev h (rpl w v i k) i = ev h w i := ev_cong i (fun t ht => if_neg (by omega))
  have e2 : ev h (fun t => rpl w v i k (i + t)) k = ev h v k := ev_cong k (fun t ht => by
    show (if i ≤ i + t ∧ i + t < i + k then v (i + t - i) else w (i + t)) = v t
    rw [if_pos (by omega), show i + t - i = t by omega])
  have e3 : ev h (fun t => rpl w v i k (i + k + t)) r = ev h (fun t => w (i + k + t)) r := ev_cong r (fun t ht => if_neg (by omega))
  rw [e1, e2, e3]
  have pr := ev_pm (w := fun t => w (i + k + t)) hp r (fun t ht => hw _ (by omega))
  rw [he _ (pr.1 p hpn)]
theorem rpl_cw {w v : Nat → Nat} {i k r : Nat} (h : cw v k < cw (fun t => w (i + t)) k) : cw (rpl w v i k) (i + k + r) < cw w (i + k + r) := by
  rw [cw_add, cw_add w, cw_add _ i k, cw_add w i k]
  have e1 : cw (rpl w v i k) i = cw w i := cw_cong i (fun t ht => if_neg (by omega))
  have e2 : cw (fun t => rpl w v i k (i + t)) k = cw v k := cw_cong k (fun t ht => by
    show (if i ≤ i + t ∧ i + t < i + k then v (i + t - i) else w (i + t)) = v t
    rw [if_pos (by omega), show i + t - i = t by omega])
  have e3 : cw (fun t => rpl w v i k (i + k + t)) r = cw (fun t => w (i + k + t)) r := cw_cong r (fun t ht => if_neg (by omega))
  rw [e1, e2, e3]
  have hp : 0 < 12 ^ r := Nat.pow_pos (by decide)
  have : (cw w i * 12 ^ k + cw v k) * 12 ^ r < (cw w i * 12 ^ k + cw (fun t => w (i + t)) k) * 12 ^ r := Nat.mul_lt_mul_of_pos_right (by omega) hp
  omega
/-- an element that no shorter word comes to lies within 12602 -/
theorem far_le {n A D : Nat} {h : Nat → Nat → Nat} (hn : n ≤ 8) (hA : A ≤ 12) (hp : ∀ a, a < A → Pm n (h a)) {e : Nat → Nat} (hw : ∃ w, (∀ t, t < D → w t < A) ∧ Eqn n (ev h w D) e) (hmin : ∀ w L, (∀ t, t < L → w t < A) → Eqn n (ev h w L) e → D ≤ L) : D ≤ 12602 := by
  have hfac := fac_8 n (by omega)
  rcases Nat.lt_or_ge D 2523 with c0 | c0
  · omega
  -- the least word
  obtain ⟨w, w1, w2, w3⟩ : ∃ w, (∀ t, t < D → w t < A) ∧ Eqn n (ev h w D) e ∧ ∀ v, (∀ t, t < D → v t < A) → Eqn n (ev h v D) e → cw w D ≤ cw v D := by
    obtain ⟨w0, y1, y2⟩ := hw
    have dec : DecidablePred (fun q => ∃ w, (∀ t, t < D → w t < A) ∧ Eqn n (ev h w D) e ∧ cw w D = q) := fun _ => Classical.propDecidable _
    obtain ⟨q, -, ⟨w, z1, z2, z3⟩, z4⟩ := @fb_first _ dec (cw w0 D + 1) ⟨cw w0 D, by omega, w0, y1, y2, rfl⟩
    refine ⟨w, z1, z2, fun v v1 v2 => ?_⟩
    rcases Nat.lt_or_ge (cw v D) (cw w D) with cc | cc
    · exact absurd ⟨v, v1, v2, rfl⟩ (z4 (cw v D) (by omega))
    · exact cc
  -- no shorter word for a stretch
  have geo : ∀ i k v k', i + k ≤ D → (∀ t, t < k' → v t < A) → Eqn n (ev h v k') (ev h (fun t => w (i + t)) k) → k ≤ k' := fun i k v k' hik hv he => by
    obtain ⟨r, hr⟩ : ∃ r, D = i + k + r := ⟨D - (i + k), by omega⟩
    have pr := ev_pm (w := fun t => w (i + k + t)) hp r (fun t ht => w1 _ (by omega))
    have key := hmin (fun t => if t < i then w t else if t < i + k' then v (t - i) else w (t - k' + k)) (i + k' + r) (fun t ht => by
      show (if t < i then w t else if t < i + k' then v (t - i) else w (t - k' + k)) < A
      by_cases c1 : t < i
      · rw [if_pos c1]; exact w1 t (by omega)
      · rw [if_neg c1]
        by_cases c2 : t < i + k'
        · rw [if_pos c2]; exact hv _ (by omega)
        · rw [if_neg c2]; exact w1 _ (by omega)) (fun p hpn => by
      rw [← w2 p hpn, hr, ev_add, ev_add, ev_add h w (i + k), ev_add h w i]
      rw [ev_cong i (v := w) (fun t ht => if_pos ht), ev_cong k' (v := v) (fun t ht => by
        show (if i + t < i then w (i + t) else if i + t < i + k' then v (i + t - i) else w (i + t - k' + k)) = v t
        rw [if_neg (by omega), if_pos (by omega), show i + t - i = t by omega]), ev_cong r (v := fun t => w (i + k + t)) (fun t ht => by
        show (if i + k' + t < i then w (i + k' + t) else if i + k' + t < i + k' then v (i + k' + t - i) else w (i + k' + t - k' + k)) = w (i + k + t)
        rw [if_neg (by omega), if_neg (by omega), show i + k' + t - k' + k = i + k + t by omega])]
      rw [he _ (pr.1 p hpn)])
    omega
  -- stretches that come to the same are the same
  have uni : ∀ i j k, i + k ≤ D → j + k ≤ D → Eqn n (ev h (fun t => w (i + t)) k) (ev h (fun t => w (j + t)) k) → ∀ t, t < k → w (i + t) = w (j + t) := fun i j k hi hj he => by
    have one : ∀ i j, i + k ≤ D → j + k ≤ D → Eqn n (ev h (fun t => w (i + t)) k) (ev h (fun t => w (j + t)) k) → cw (fun t => w (i + t)) k ≤ cw (fun t => w (j + t)) k := fun i j hi hj he => by
      rcases Nat.lt_or_ge (cw (fun t => w (j + t)) k) (cw (fun t => w (i + t)) k) with cc | cc
      · obtain ⟨r, hr⟩ : ∃ r, D = i + k + r := ⟨D - (i + k), by omega⟩
        have l1 := rpl_cw (w := w) (v := fun t => w (j + t)) (i := i) (k := k) (r := r) cc
        have l2 := rpl_ev (w := w) (v := fun t => w (j + t)) (i := i) (k := k) (r := r) hp (fun t ht => w1 t (by omega)) he.sy
        have l3 := w3 (rpl w (fun t => w (j + t)) i k) (fun t ht => by
          unfold rpl
          by_cases c : i ≤ t ∧ t < i + k
          · rw [if_pos c]; exact w1 _ (by omega)
          · rw [if_neg c]; exact w1 t ht) (by rw [hr]; exact l2.tr (by rw [← hr]; exact w2))
        rw [hr] at l3
        omega
      · exact cc
    exact cw_inj k (fun t ht => by have := w1 (i + t) (by omega); omega) (fun t ht => by have := w1 (j + t) (by omega); omega) (Nat.le_antisymm (one i j hi hj he) (one j i hj hi he.sy))
  -- no period below four
  have noper : ∀ i c k, 1 ≤ c → c ≤ 3 → 2520 ≤ k → i + c + k ≤ D → ¬ ∀ t, t < k → w (i + t) = w (i + c + t) := fun i c k h1 h3 hk hik hh => by
    have c840 : c * 840 ≤ 2520 := by omega
    have per := ev_per (h := h) (w := fun t => w (i + t)) (c := c) 840 (fun t ht => by
      show w (i + (t + c)) = w (i + t)
      rw [hh t (by omega)]
      congr 1
      omega)
    have pc := ev_pm (w := fun t => w (i + t)) hp c (fun t ht => w1 _ (by omega))
    have := geo i (c * 840) (fun _ => 0) 0 (by omega) (fun t ht => by omega) (fun p hpn => by
      show p = ev h (fun t => w (i + t)) (c * 840) p
      rw [per.2, pw_840 hn pc hpn])
    omega
  -- counting
  have pmf : ∀ i k, i + k ≤ D → Pm n (ev h (fun t => w (i + t)) k) := fun i k hik => ev_pm (w := fun t => w (i + t)) hp k (fun t ht => w1 _ (by omega))
  have := fb_holes 40320 (4 * (D - 2522)) (fun x => num n (ev h (fun t => w (x % 4 + t)) (2520 + x / 4))) (fun x hx => by
    have := num_lt (pmf (x % 4) (2520 + x / 4) (by omega))
    show num n (ev h (fun t => w (x % 4 + t)) (2520 + x / 4)) < 40320
    omega) (fun x y hxy hy he => by
    have hx4 : x % 4 + (2520 + x / 4) ≤ D := by omega
    have hy4 : y % 4 + (2520 + y / 4) ≤ D := by omega
    have eq := num_inj hn (pmf _ _ hx4) (pmf _ _ hy4) he
    have g1 := geo (x % 4) (2520 + x / 4) (fun t => w (y % 4 + t)) (2520 + y / 4) hx4 (fun t ht => w1 _ (by omega)) (Eqn.sy eq)
    have g2 := geo (y % 4) (2520 + y / 4) (fun t => w (x % 4 + t)) (2520 + x / 4) hy4 (fun t ht => w1 _ (by omega)) eq
    have ek : x / 4 = y / 4 := by omega
    rw [ek] at eq hx4
    have us := uni (x % 4) (y % 4) (2520 + y / 4) hx4 hy4 eq
    refine noper (x % 4) (y % 4 - x % 4) (2520 + y / 4) (by omega) (by omega) (by omega) (by omega) (fun t ht => ?_)
    rw [us t ht]
    congr 1
    omega)
  omega
