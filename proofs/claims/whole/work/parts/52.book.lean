/-! A book, as both sides hold it: stage, methods, their lengths, changes (by what is exchanged), calls, bells that are rung, names. -/
abbrev Bk : Type := Nat × Nat × (Nat → Nat) × (Nat → Nat → Nat → Bool) × (Nat → Nat → Nat → Bool) × (Nat → Bool) × (Nat → List Nat)
def bn (B : Bk) : Nat := B.1
def bM (B : Bk) : Nat := B.2.1
def bl (B : Bk) : Nat → Nat := B.2.2.1
def bv (B : Bk) : Nat → Nat → Nat → Bool := B.2.2.2.1
def bc (B : Bk) : Nat → Nat → Nat → Bool := B.2.2.2.2.1
def brr (B : Bk) : Nat → Bool := B.2.2.2.2.2.1
def bnm (B : Bk) : Nat → List Nat := B.2.2.2.2.2.2
/-- the change of a lead -/
def bch (B : Bk) (m c k : Nat) : Nat → Bool := if k + 1 < bl B m ∨ c = 0 then bv B m k else bc B m c
def bok (B : Bk) : Prop := 4 ≤ bn B ∧ bn B ≤ 8 ∧ bM B ≤ 4 ∧ ∀ m, m < bM B → 1 ≤ bl B m ∧ bl B m ≤ 32 ∧ (∀ k, k < bl B m → Sw (bn B) (bv B m k)) ∧ ∀ c, 1 ≤ c → c ≤ 2 → Sw (bn B) (bc B m c)
theorem bch_sw {B : Bk} (h : bok B) {m c k : Nat} (hm : m < bM B) (hc : c ≤ 2) (hk : k < bl B m) : Sw (bn B) (bch B m c k) := by
  obtain ⟨h1, h2, h3, h4⟩ := h
  unfold bch
  split
  · exact (h4 m hm).2.2.1 k hk
  · exact (h4 m hm).2.2.2 c (by omega) hc
/-- a row after some changes of a lead -/
def rl (B : Bk) (m c : Nat) (f : Nat → Nat) : Nat → Nat → Nat
  | 0 => f
  | k + 1 => chd (bch B m c k) (rl B m c f k)
theorem chd_comp (sw : Nat → Bool) (f g : Nat → Nat) : chd sw (fun p => f (g p)) = fun p => f (chd sw g p) := funext fun p => by
  unfold chd
  split
  · rfl
  · split <;> rfl
theorem rl_comp (B : Bk) (m c : Nat) (f g : Nat → Nat) : ∀ k, rl B m c (fun p => f (g p)) k = fun p => f (rl B m c g k p)
  | 0 => rfl
  | k + 1 => by
    show chd (bch B m c k) (rl B m c (fun p => f (g p)) k) = _
    rw [rl_comp B m c f g k, chd_comp]
    rfl
/-- what a lead does -/
def hd (B : Bk) (m c : Nat) : Nat → Nat := rl B m c (fun p => p) (bl B m)
theorem chd_cong {n : Nat} {sw : Nat → Bool} {f g : Nat → Nat} (hs : Sw n sw) (h : ∀ p, p < n → f p = g p) : ∀ p, p < n → chd sw f p = chd sw g p := fun p hp => by
  unfold chd
  split
  · rename_i c; exact h _ (hs p c).1
  · split
    · exact h _ (by omega)
    · exact h _ hp
theorem chd_pm {n : Nat} {sw : Nat → Bool} {f : Nat → Nat} (hs : Sw n sw) (hf : Pm n f) : Pm n (chd sw f) := by
  have h1 : Pm n (chd sw (fun p => p)) := by
    refine ⟨chd_lt hs (fun p hp => hp), fun p q hpq hq e => ?_⟩
    have key : ∀ r, r < n → (sw r = true ∧ chd sw (fun p => p) r = r + 1 ∧ sw (r + 1) = false) ∨ (sw r = false ∧ r ≠ 0 ∧ sw (r - 1) = true ∧ chd sw (fun p => p) r = r - 1) ∨ (sw r = false ∧ (r ≠ 0 → sw (r - 1) = false) ∧ chd sw (fun p => p) r = r) := by
      intro r hr
      unfold chd
      cases h1 : sw r
      · by_cases c : r ≠ 0 ∧ sw (r - 1) = true
        · exact Or.inr (Or.inl ⟨rfl, c.1, c.2, by rw [if_neg (by decide), if_pos c]⟩)
        · refine Or.inr (Or.inr ⟨rfl, fun c0 => ?_, by rw [if_neg (by decide), if_neg c]⟩)
          cases h2 : sw (r - 1)
          · rfl
          · exact absurd ⟨c0, h2⟩ c
      · exact Or.inl ⟨rfl, by rw [if_pos rfl], (hs r h1).2⟩
    rcases key p (by omega) with ⟨a1, a2, a3⟩ | ⟨a1, a2, a3, a4⟩ | ⟨a1, a2, a3⟩ <;> rcases key q hq with ⟨b1, b2, b3⟩ | ⟨b1, b2, b3, b4⟩ | ⟨b1, b2, b3⟩
    · omega
    · have : q = p + 2 := by omega
      subst this
      rw [show p + 2 - 1 = p + 1 by omega, a3] at b3
      cases b3
    · have : q = p + 1 := by omega
      subst this
      have := b2 (by omega)
      rw [Nat.add_sub_cancel, a1] at this
      cases this
    · omega
    · omega
    · omega
    · omega
    · have : p = q - 1 := by omega
      subst this
      rw [a1] at b3
      cases b3
    · omega
  have h2 := comp_pm hf h1
  have e : (fun p => f (chd sw (fun p => p) p)) = chd sw f := (chd_comp sw f (fun p => p)).symm
  rw [e] at h2
  exact h2
theorem rl_pm {B : Bk} (h : bok B) {m c : Nat} (hm : m < bM B) (hc : c ≤ 2) {f : Nat → Nat} (hf : Pm (bn B) f) : ∀ k, k ≤ bl B m → Pm (bn B) (rl B m c f k)
  | 0, _ => hf
  | k + 1, hk => chd_pm (bch_sw h hm hc (by omega)) (rl_pm h hm hc hf k (by omega))
theorem hd_pm {B : Bk} (h : bok B) {m c : Nat} (hm : m < bM B) (hc : c ≤ 2) : Pm (bn B) (hd B m c) := rl_pm h hm hc (pm_id _) _ (Nat.le_refl _)
theorem rl_cong {B : Bk} (h : bok B) {m c : Nat} (hm : m < bM B) (hc : c ≤ 2) {f g : Nat → Nat} (hf : ∀ p, p < bn B → f p = g p) : ∀ k, k ≤ bl B m → ∀ p, p < bn B → rl B m c f k p = rl B m c g k p
  | 0, _ => hf
  | k + 1, hk => chd_cong (bch_sw h hm hc (by omega)) (rl_cong h hm hc hf k (by omega))
/-- how the reference holds it -/
def BM (B : Bk) (A : Nat → Int32) : Prop := A 0 = nI (bn B) ∧ A 1 = nI (bM B) ∧ A 3 = msk (brr B) (bn B) ∧ ∀ m, m < bM B → A (10 + 40 * m) = nI (bl B m) ∧ (∀ k, k < bl B m → A (10 + 40 * m + (1 + k)) = msk (stf (bv B m k)) (bn B)) ∧ A (10 + 40 * m + 33) = msk (stf (bc B m 1)) (bn B) ∧ A (10 + 40 * m + 34) = msk (stf (bc B m 2)) (bn B)
theorem ix40 (m : Nat) : (10 : Int32) + 40 * nI m = nI (10 + 40 * m) := by
  rw [show (40 : Int32) = nI 40 from rfl, mulN, show (10 : Int32) = nI 10 from rfl, nI_add]
theorem sm_changesOf {S : St} {m i : Nat} {am : Nat → Nat} {B : Bk} {Q : Int32 → Prop} (hL : LM S m am) (hb : bok B) (hB : BM B (gI S (am 0))) (hi : i < bM B) (hq : Q (nI (bl B i))) : P_X12_changesOf m (nI i) S Q := by
  have h3 := hb.2.2.1
  unfold P_X12_changesOf
  rw [ix40]
  refine ⟨hL.z, am 0, hL.r 0, hL.k 0, hL.i 0 (by show _ < 12100; omega), ?_⟩
  rw [nI_clamp (by omega), (hB.2.2.2 i hi).1]
  exact hq
theorem sm_changeOf {S : St} {m i c k : Nat} {am : Nat → Nat} {B : Bk} {Q : Int32 → Prop} (hL : LM S m am) (hb : bok B) (hB : BM B (gI S (am 0))) (hi : i < bM B) (hc : c ≤ 2) (hk : k < bl B i) (hq : Q (msk (stf (bch B i c k)) (bn B))) : P_X12_changeOf m (nI i) (nI c) (nI k) S Q := by
  have h3 := hb.2.2.1
  obtain ⟨b1, b2, b3, b4⟩ := hb.2.2.2 i hi
  obtain ⟨a1, a2, a3, a4⟩ := hB.2.2.2 i hi
  unfold P_X12_changeOf
  refine ⟨hL.z, am 0, hL.r 0, sm_changesOf hL hb hB hi ?_⟩
  rw [ix40, nI_1, show (1 : Int32) + nI k = nI (1 + k) from nI_add 1 k, nI_add, show nI (10 + 40 * i) + 34 = nI (10 + 40 * i + 34) from nI_add _ 34, show nI (10 + 40 * i) + 33 = nI (10 + 40 * i + 33) from nI_add _ 33, nI_ltI (by omega) (by omega), nI_clamp (by omega), nI_clamp (by omega), nI_clamp (by omega)]
  have e0 : nI c = 0 ↔ c = 0 := nI_eq (b := 0) (by omega) (by decide)
  have e1 : nI c = 1 ↔ c = 1 := nI_eq (b := 1) (by omega) (by decide)
  rw [e0, e1]
  refine ⟨k + 1 < bl B i ∨ c = 0, fun hj => ⟨hL.k 0, hL.i 0 (by show _ < 12100; omega), ?_⟩, fun h => Or.inl h, fun h => ⟨fun hc0 => ⟨fun hc1 => ⟨hL.k 0, hL.i 0 (by show _ < 12100; omega), ?_⟩, fun hc1 => ⟨hL.k 0, hL.i 0 (by show _ < 12100; omega), ?_⟩⟩, fun hc0 => Or.inr hc0⟩⟩
  · rw [a2 k hk]
    unfold bch at hq
    rw [if_pos hj] at hq
    exact hq
  · unfold bch at hq
    rw [if_neg (by omega), show c = 2 by omega] at hq
    rw [a4]
    exact hq
  · unfold bch at hq
    rw [if_neg (by omega), hc1] at hq
    rw [a3]
    exact hq
theorem BM.kp {T : Nat → Bool} {S : St} {m : Nat} {am : Nat → Nat} {B : Bk} {F G : Nat → Nat → Int32} (hL : LM S m am) (h : BM B (F (am 0))) (k : Kp T m am F G) (hT : T 0 = false := by decide) : BM B (G (am 0)) := by
  rw [k.ar hL 0 hT]
  exact h
theorem msk_stf {n : Nat} (hn : n ≤ 8) (sw : Nat → Bool) : ∀ p, p < n → bt (msk (stf sw) n) p = stf sw p := fun p hp => by rw [msk_bt _ _ (by omega), decide_eq_true hp, Bool.true_and]
/-- changes of a lead done to the row at work -/
theorem sm_leadFrom {S : St} {m i c k : Nat} {am : Nat → Nat} {B : Bk} {Q : Int32 → (Nat → Nat → Int32) → Prop} (hL : LM S m am) (hb : bok B) (hB : BM B (gI S (am 0))) (hi : i < bM B) (hc : c ≤ 2) (hk : k < fac (bn B))
    (hq : ∀ F', Kp tQ m am (gI S) F' → Q (nI (num (bn B) (fun p => lay (bn B) k (hd B i c p)))) F') : P_X12_leadFrom m (nI k) (nI i) (nI c) S Q := by
  have hn := hb.2.1
  have hn4 := hb.1
  have hl := (hb.2.2.2 i hi).2.1
  unfold P_X12_leadFrom
  refine ⟨hL.z, am 23, hL.r 23, sm_laysRow hL hn (by omega) hB.1 hk (hL.k 23) (hL.l 23) ?_⟩
  intro F2 o2 r2
  refine ⟨fun j x4 F => ∃ p, p ≤ bl B i ∧ j = bl B i - p ∧ x4 = nI p ∧ On (am 23) (gI S) F ∧ Rw F (am 23) (bn B) (rl B i c (lay (bn B) k) p), ⟨bl B i, 0, Nat.zero_le _, rfl, rfl, o2, r2⟩, ?_⟩
  rintro j x4 F ⟨p, hp, rfl, rfl, hon, hrw⟩
  have hL5 : LM (wI S F) m am := hL
  have k5 : Kp tQ m am (gI S) F := Kp.on hL 23 hon
  have hB5 : BM B (F (am 0)) := hB.kp hL k5
  refine sm_changesOf hL5 hb hB5 hi ⟨fun hcn => ?_, fun hcn => ?_⟩
  · have : bl B i ≤ p := (nI_leI (by omega) (by omega)).mp hcn
    have e : p = bl B i := by omega
    subst e
    have e2 : rl B i c (lay (bn B) k) (bl B i) = fun p => lay (bn B) k (hd B i c p) := rl_comp B i c (lay (bn B) k) (fun p => p) (bl B i)
    rw [e2] at hrw
    exact sm_numberOf hL5 hn hB5.1 (comp_pm (lay_pm hn hk) (hd_pm hb hi hc)) (hL.k 23) (hL.l 23) hrw (hq F k5)
  · have hlt := nI_gtI (by omega) (by omega) hcn
    refine sm_changeOf hL5 hb hB5 hi hc hlt ?_
    refine sm_changes0 (l := false) hL5 hn hB5.1 (bch_sw hb hi hc hlt) (msk_stf hn _) hrw ?_
    intro F' o' r' v ev
    rw [swl_f] at r'
    exact ⟨bl B i - (p + 1), by omega, p + 1, by omega, rfl, by rw [ev]; exact nI_1 p, hon.tr o', r'⟩
theorem sm_isEven {S : St} {m n a : Nat} {am : Nat → Nat} {Q : Int32 → (Nat → Nat → Int32) → Prop} (hL : LM S m am) (hn : n ≤ 8) (hn1 : 1 ≤ n) (h0 : gI S (am 0) 0 = nI n) (ha : a < fac n)
    (hq : ∀ F', Kp tQ m am (gI S) F' → Q (if invs (lay n a) n % 2 = 0 then 1 else 0) F') : P_X12_isEven m (nI a) S Q := by
  have hpa := lay_pm hn ha
  unfold P_X12_isEven
  refine ⟨hL.z, am 24, hL.r 24, sm_laysRow hL hn hn1 h0 ha (hL.k 24) (hL.l 24) ?_⟩
  intro F2 o2 r2
  have k2 : Kp tQ m am (gI S) F2 := Kp.on hL 24 o2
  have hF0 : F2 (am 0) 0 = nI n := by rw [k2.ar hL 0]; exact h0
  have hsm : ∀ p, p ≤ n → invs (lay n a) p ≤ p * 8 := fun p hp => fb_sm_bound (fun k hk => by have := dg_lt hpa (show k < n by omega); omega)
  refine ⟨fun j x2 x3 => ∃ p, p ≤ n ∧ j = n - p ∧ x2 = nI (invs (lay n a) p) ∧ x3 = nI p, ⟨n, 0, Nat.zero_le _, rfl, rfl, rfl⟩, ?_⟩
  rintro j x2 x3 ⟨p, hp, rfl, rfl, rfl⟩
  have hsp := hsm p hp
  refine ⟨am 0, hL.r 0, hL.k 0, hL.i 0 (p := 0) (by decide), ?_⟩
  rw [hF0]
  refine ⟨fun hc => ?_, fun hc v11 e11 => ?_⟩
  · have : n ≤ p := (nI_leI (by omega) (by omega)).mp hc
    have e : p = n := by omega
    subst e
    rw [show irm (nI (invs (lay p a) p)) 2 = nI (invs (lay p a) p % 2) from irmN (by omega) (by decide) (by decide)]
    have h2 := hq F2 k2
    refine ⟨fun h => ?_, fun h => ?_⟩
    · rw [if_neg (fun e => h (by rw [e]; rfl))] at h2
      exact h2
    · rw [if_pos ((nI_eq (b := 0) (by omega) (by decide)).mp h)] at h2
      exact h2
  · have hlt := nI_gtI (by omega) (by omega) hc
    have hd : ∀ t, fb_ct (fun i => decide (lay n a (p + 1 + i) < lay n a p)) t + cnt (lay n a) (p + 1) (lay n a p) = cnt (lay n a) (p + 1 + t) (lay n a p) := fun t => by
      have := fb_ct_split (fun q => decide (lay n a q < lay n a p)) (p + 1) t
      unfold cnt
      omega
    refine ⟨fun j x5 x6 => ∃ t, p + 1 + t ≤ n ∧ j = n - t ∧ x5 = nI (invs (lay n a) p + fb_ct (fun i => decide (lay n a (p + 1 + i) < lay n a p)) t) ∧ x6 = nI (p + 1 + t), ⟨n, 0, by omega, rfl, rfl, by rw [e11]; exact nI_1 p⟩, ?_⟩
    rintro j x5 x6 ⟨t, ht, rfl, rfl, rfl⟩
    refine ⟨fun hc2 v15 e15 => ?_, fun hc2 => ?_⟩
    · have : n ≤ p + 1 + t := (nI_leI (by omega) (by omega)).mp hc2
      refine ⟨n - (p + 1), by omega, p + 1, by omega, rfl, ?_, by rw [e15]; exact nI_1 p⟩
      have h1 := hd t
      rw [show p + 1 + t = n by omega, cnt_full hpa (lay n a p) (Nat.le_of_lt (hpa.1 p hlt)), cnt_succ, if_neg (Nat.lt_irrefl _), Nat.add_zero] at h1
      show _ = nI (invs (lay n a) p + (lay n a p - cnt (lay n a) p (lay n a p)))
      rw [show fb_ct (fun i => decide (lay n a (p + 1 + i) < lay n a p)) t = lay n a p - cnt (lay n a) p (lay n a p) by omega]
    · have hlt2 := nI_gtI (by omega) (by omega) hc2
      have hfp := hpa.1 p hlt
      have hfq := hpa.1 (p + 1 + t) hlt2
      refine ⟨hL.k 24, hL.i 24 (by show _ < 8; omega), hL.i 24 (by show _ < 8; omega), ?_⟩
      rw [nI_clamp (by omega), nI_clamp (by omega), r2 p hlt, r2 (p + 1 + t) hlt2, nI_leI (by omega) (by omega)]
      refine ⟨fun h v ev w ew => ⟨n - (t + 1), by omega, t + 1, by omega, rfl, ?_, by rw [ew]; exact nI_1 _⟩, fun h v ev w ew => ⟨n - (t + 1), by omega, t + 1, by omega, rfl, ?_, by rw [ew]; exact nI_1 _⟩⟩
      · rw [ev, fb_ct_succ, decide_eq_false (by omega), if_neg (by decide)]
        exact nI_add _ 0
      · rw [ev, fb_ct_succ, decide_eq_true (by omega), if_pos rfl]
        exact nI_1 _
theorem sm_orderOf {S : St} {m n a k : Nat} {am : Nat → Nat} {Q : Int32 → (Nat → Nat → Int32) → Prop} (hL : LM S m am) (hn : n ≤ 8) (hn1 : 1 ≤ n) (h0 : gI S (am 0) 0 = nI n) (ha : a < fac n) (hk : Ord n (lay n a) k)
    (hq : ∀ F', Kp tQ m am (gI S) F' → Q (nI k) F') : P_X12_orderOf m (nI a) S Q := by
  have hpa := lay_pm hn ha
  obtain ⟨k1, k2, k3, k4⟩ := hk
  unfold P_X12_orderOf
  refine ⟨hL.z, fun j x2 x3 F => ∃ t, 1 ≤ t ∧ t ≤ k ∧ j = k - t ∧ x2 = nI t ∧ x3 = nI (num n (pw (lay n a) t)) ∧ Kp tQ m am (gI S) F, ⟨k - 1, 1, Nat.le_refl 1, k1, rfl, rfl, ?_, Kp.rf⟩, ?_⟩
  · rw [show pw (lay n a) 1 = lay n a from rfl, num_lay hn ha]
  rintro j x2 x3 F ⟨t, ht1, ht2, rfl, rfl, rfl, hkp⟩
  have hpt := pw_pm hpa t
  have hnt := num_lt hpt
  have hfl := fac_lt hn
  rw [show (0 : Int32) = nI 0 from rfl, nI_eq (by omega) (by decide), num_0 hn hpt]
  refine ⟨fun hid => ?_, fun hid => ?_⟩
  · have e : t = k := by
      rcases Nat.lt_or_ge t k with hl | hl
      · exact absurd hid (k4 t ht1 hl)
      · omega
    subst e
    exact hq F hkp
  · have hlt : t < k := by
      rcases Nat.lt_or_ge t k with hl | hl
      · exact hl
      · have e : t = k := by omega
        subst e
        exact absurd k3 hid
    have hL5 : LM (wI S F) m am := hL
    refine sm_productOf hL5 hn hn1 (by show F (am 0) 0 = nI n; rw [hkp.ar hL 0]; exact h0) hnt ha ?_
    intro F6 k6 v7 e7
    refine ⟨k - (t + 1), by omega, t + 1, by omega, by omega, rfl, by rw [e7]; exact nI_1 t, ?_, hkp.tr k6⟩
    exact congrArg nI (num_cong (fun p hp => lay_num hn hpt _ (hpa.1 p hp)))
