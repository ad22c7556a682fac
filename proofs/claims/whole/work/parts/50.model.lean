/-! The reference: how it lies in the store. Arrays by the slots of their fields. -/
def mkl : List Nat := [21, 22, 0, 0, 0, 21, 21, 22, 20, 20, 0, 0, 0, 0, 0, 0, 0, 0, 0, 0, 21, 0, 0, 21, 21, 21, 21, 21, 21, 0, 21, 0, 0, 0, 0, 0, 0, 21, 21, 21, 21, 0, 21, 0, 21, 21, 21, 21, 0, 0, 0]
def mll : List Nat := [12100, 70, 0, 0, 0, 4, 4, 240, 900, 900, 0, 0, 0, 0, 0, 0, 0, 0, 0, 0, 3, 0, 0, 8, 8, 8, 32, 32, 40320, 0, 80, 0, 0, 0, 0, 0, 0, 2001, 40320, 40320, 40320, 0, 40320, 0, 9, 8, 9, 257, 0, 0, 0]
def mk (f : Nat) : Nat := mkl.getD f 0
def ml (f : Nat) : Nat := mll.getD f 0
theorem mk_big {f : Nat} (h : 51 ≤ f) : mk f = 0 := by
  unfold mk
  rw [List.getD_eq_getElem?_getD, List.getElem?_eq_none (by show 51 ≤ f; exact h)]
  rfl
theorem mk_12 (f : Nat) : mk f ≠ 12 := by
  rcases Nat.lt_or_ge f 51 with h | h
  · have : ∀ f, f < 51 → mk f ≠ 12 := by decide
    exact this f h
  · rw [mk_big h]; decide
def LM (S : St) (m : Nat) (am : Nat → Nat) : Prop := kd S m = 12 ∧ (∀ f, mk f ≠ 0 → gR S m f = some (am f) ∧ kd S (am f) = mk f ∧ ln S (am f) = ml f) ∧ ∀ f g, mk f ≠ 0 → mk g ≠ 0 → am f = am g → f = g
theorem LM.z {S : St} {m : Nat} {am : Nat → Nat} (h : LM S m am) : kd S m = 12 := h.1
theorem LM.r {S : St} {m : Nat} {am : Nat → Nat} (h : LM S m am) (f : Nat) (hf : mk f ≠ 0 := by decide) : gR S m f = some (am f) := (h.2.1 f hf).1
theorem LM.k {S : St} {m : Nat} {am : Nat → Nat} (h : LM S m am) (f : Nat) (hf : mk f ≠ 0 := by decide) : kd S (am f) = mk f := (h.2.1 f hf).2.1
theorem LM.l {S : St} {m : Nat} {am : Nat → Nat} (h : LM S m am) (f : Nat) (hf : mk f ≠ 0 := by decide) : ln S (am f) = ml f := (h.2.1 f hf).2.2
theorem ml_31 (f : Nat) : ml f < 2 ^ 31 := by
  rcases Nat.lt_or_ge f 51 with h | h
  · have : ∀ f, f < 51 → ml f < 2 ^ 31 := by decide
    exact this f h
  · unfold ml
    rw [List.getD_eq_getElem?_getD, List.getElem?_eq_none (by show 51 ≤ f; exact h)]
    decide
theorem LM.i {S : St} {m : Nat} {am : Nat → Nat} (h : LM S m am) (f : Nat) {p : Nat} (hp : p < ml f) (hf : mk f ≠ 0 := by decide) : vp_in (nI p) (ln S (am f)) := by
  rw [h.l f hf]
  exact vp_in_nI hp (ml_31 f)
theorem LM.n {S : St} {m : Nat} {am : Nat → Nat} (h : LM S m am) {f g : Nat} (hn : f ≠ g) (hf : mk f ≠ 0 := by decide) (hg : mk g ≠ 0 := by decide) : am f ≠ am g := fun e => hn (h.2.2 f g hf hg e)
theorem LM.o {S : St} {m : Nat} {am : Nat → Nat} (h : LM S m am) (f : Nat) (hf : mk f ≠ 0 := by decide) : am f ≠ m := fun e => mk_12 f (by rw [← h.k f hf, e]; exact h.1)
/-- only one array is changed -/
def On (a : Nat) (F F' : Nat → Nat → Int32) : Prop := ∀ b, b ≠ a → F' b = F b
theorem On.rf {a : Nat} {F : Nat → Nat → Int32} : On a F F := fun _ _ => rfl
theorem On.tr {a : Nat} {F G H : Nat → Nat → Int32} (h : On a F G) (h2 : On a G H) : On a F H := fun b hb => (h2 b hb).trans (h b hb)
theorem On.up {a j : Nat} {v : Int32} {F : Nat → Nat → Int32} : On a F (upI F a j v) := fun b hb => va_up_ne _ _ hb
theorem up_at {F : Nat → Nat → Int32} {a j : Nat} {v : Int32} : upI F a j v a j = v := by
  unfold upI
  rw [va_up_self]
  exact if_pos rfl
theorem up_no {F : Nat → Nat → Int32} {a j k : Nat} {v : Int32} (h : k ≠ j) : upI F a j v a k = F a k := by
  unfold upI
  rw [va_up_self]
  exact if_neg h
theorem up_ne {F : Nat → Nat → Int32} {a b j : Nat} {v : Int32} (h : b ≠ a) : upI F a j v b = F b := va_up_ne _ _ h
/-- of the reference only slots and arrays of T are changed -/
def Kp (T : Nat → Bool) (m : Nat) (am : Nat → Nat) (F F' : Nat → Nat → Int32) : Prop := (∀ b, b ≠ m → (∀ f, mk f ≠ 0 → T f = true → b ≠ am f) → F' b = F b) ∧ ∀ j, T j = false → F' m j = F m j
theorem Kp.rf {T : Nat → Bool} {m : Nat} {am : Nat → Nat} {F : Nat → Nat → Int32} : Kp T m am F F := ⟨fun _ _ _ => rfl, fun _ _ => rfl⟩
theorem Kp.tr {T : Nat → Bool} {m : Nat} {am : Nat → Nat} {F G H : Nat → Nat → Int32} (h : Kp T m am F G) (h2 : Kp T m am G H) : Kp T m am F H := ⟨fun b hb hf => (h2.1 b hb hf).trans (h.1 b hb hf), fun j hj => (h2.2 j hj).trans (h.2 j hj)⟩
theorem Kp.on {T : Nat → Bool} {S : St} {m : Nat} {am : Nat → Nat} {F G : Nat → Nat → Int32} (hL : LM S m am) (f : Nat) (h : On (am f) F G) (hT : T f = true := by decide) (hf : mk f ≠ 0 := by decide) : Kp T m am F G := ⟨fun b _ hb => h b (hb f hf hT), fun j _ => by rw [h m (Ne.symm (hL.o f hf))]⟩
theorem Kp.fd {T : Nat → Bool} {m : Nat} {am : Nat → Nat} {F : Nat → Nat → Int32} (j : Nat) {v : Int32} (hT : T j = true := by decide) : Kp T m am F (upI F m j v) := ⟨fun b hb _ => up_ne hb, fun i hi => up_no (fun e => by subst e; rw [hT] at hi; cases hi)⟩
theorem Kp.mono {T U : Nat → Bool} {m : Nat} {am : Nat → Nat} {F G : Nat → Nat → Int32} (h : Kp T m am F G) (hTU : ∀ f, T f = true → U f = true) : Kp U m am F G := ⟨fun b hb hf => h.1 b hb (fun f hm hT => hf f hm (hTU f hT)), fun j hj => h.2 j (by cases e : T j; rfl; rw [hTU j e] at hj; cases hj)⟩
theorem Kp.ar {T : Nat → Bool} {S : St} {m : Nat} {am : Nat → Nat} {F G : Nat → Nat → Int32} (hL : LM S m am) (h : Kp T m am F G) (f : Nat) (hT : T f = false := by decide) (hf : mk f ≠ 0 := by decide) : G (am f) = F (am f) := h.1 _ (hL.o f hf) (fun g hg hTg e => by
  have := hL.2.2 f g hf hg e
  subst this
  rw [hT] at hTg
  cases hTg)
/-- what any question may change: its work arrays -/
def tQ (f : Nat) : Bool := [2, 23, 24, 25, 26, 27, 30, 31, 32, 33, 37].contains f
/-- what products and inverses change: three rows at work -/
def tR (f : Nat) : Bool := [23, 24, 25].contains f
theorem tR_tQ (f : Nat) (h : tR f = true) : tQ f = true := by
  unfold tR at h
  unfold tQ
  simp at h ⊢
  omega
/-- a row lies in an array -/
def Rw (F : Nat → Nat → Int32) (a n : Nat) (f : Nat → Nat) : Prop := ∀ p, p < n → F a p = nI (f p)
/-! Its rows and numbers. -/
theorem sm_rowsMany {S : St} {m n : Nat} {am : Nat → Nat} {Q : Int32 → Prop} (hL : LM S m am) (hn : n ≤ 8) (hn1 : 1 ≤ n) (h0 : gI S (am 0) 0 = nI n) (hq : Q (nI (fac n))) : P_X12_rowsMany m S Q := by
  unfold P_X12_rowsMany
  refine ⟨hL.z, fun k x1 x2 => ∃ j, 1 ≤ j ∧ j ≤ n ∧ k = n - j ∧ x1 = nI (fac j) ∧ x2 = nI (j + 1), ⟨n - 1, 1, by omega, hn1, rfl, rfl, rfl⟩, ?_⟩
  rintro k x1 x2 ⟨j, hj1, hj, rfl, rfl, rfl⟩
  refine ⟨am 0, hL.r 0, hL.k 0, hL.i 0 (p := 0) (by decide), ?_⟩
  rw [h0]
  refine ⟨fun hc => ?_, fun hc v ev w ew => ?_⟩
  · have : n < j + 1 := (nI_ltI (by omega) (by omega)).mp hc
    have e : j = n := by omega
    subst e
    exact hq
  · have hlt : j < n := by
      rcases Nat.lt_or_ge j n with h | h
      · exact h
      · exact absurd (nI_lt (by omega) (by omega)) hc
    refine ⟨n - (j + 1), by omega, j + 1, by omega, by omega, rfl, ?_, by rw [ew]; exact nI_1 (j + 1)⟩
    rw [ev, mulN, Nat.mul_comm]
    rfl
theorem sm_isRow {S : St} {m n : Nat} {am : Nat → Nat} {x : Int32} {Q : Int32 → Prop} (hL : LM S m am) (hn : n ≤ 8) (hn1 : 1 ≤ n) (h0 : gI S (am 0) 0 = nI n) (hq : ∀ k, k < fac n → x = nI k → Q 1) (hq2 : (∀ k, k < fac n → x ≠ nI k) → Q 0) : P_X12_isRow m x S Q := by
  unfold P_X12_isRow
  have hf := fac_lt hn
  refine ⟨hL.z, fun hx => hq2 (fun k hk e => ?_), fun hx => ?_⟩
  · rw [e] at hx
    exact absurd hx (nI_pos (by omega))
  · obtain ⟨k, hk, rfl⟩ := nI_of hx
    refine sm_rowsMany hL hn hn1 h0 ⟨fun hc => hq2 (fun j hj e => ?_), fun hc => hq k (nI_gtI hf hk hc) rfl⟩
    have h1 := (nI_leI hf hk).mp hc
    have h2 := (nI_eq hk (by omega)).mp e
    omega
/-- bells that are used already -/
def us (f : Nat → Nat) : Nat → Nat → Bool
  | 0, _ => false
  | p + 1, b => us f p b || decide (b = f p)
theorem us_iff (f : Nat → Nat) (b : Nat) : ∀ p, us f p b = true ↔ ∃ q, q < p ∧ f q = b
  | 0 => by simp [us]
  | p + 1 => by
    show (us f p b || decide (b = f p)) = true ↔ _
    rw [Bool.or_eq_true, us_iff f b p, decide_eq_true_eq]
    refine ⟨fun h => ?_, fun ⟨q, hq, e⟩ => ?_⟩
    · rcases h with ⟨q, hq, e⟩ | h
      · exact ⟨q, by omega, e⟩
      · exact ⟨p, by omega, h.symm⟩
    · by_cases c : q = p
      · subst c; exact Or.inr e.symm
      · exact Or.inl ⟨q, by omega, e⟩
theorem us_no {f : Nat → Nat} {b p : Nat} : us f p b = false ↔ ∀ q, q < p → f q ≠ b := by
  rw [← Bool.not_eq_true, us_iff]
  exact ⟨fun h q hq e => h ⟨q, hq, e⟩, fun h ⟨q, hq, e⟩ => h q hq e⟩
theorem cnt_next {n : Nat} {f : Nat → Nat} (h : Pm n f) (b : Nat) : ∀ p, p ≤ n → cnt f p (b + 1) = cnt f p b + (if us f p b then 1 else 0)
  | 0, _ => rfl
  | p + 1, hp => by
    rw [cnt_succ, cnt_succ, cnt_next h b p (by omega)]
    by_cases c : b = f p
    · have h1 : us f p b = false := us_no.mpr (fun q hq => by rw [c]; exact h.2 q p hq (by omega))
      have h2 : us f (p + 1) b = true := (us_iff f b (p + 1)).mpr ⟨p, by omega, c.symm⟩
      rw [h1, h2, if_pos (show f p < b + 1 by omega), if_neg (show ¬ f p < b by omega)]
      simp
    · have h2 : us f (p + 1) b = us f p b := by show (us f p b || decide (b = f p)) = _; simp [c]
      rw [h2]
      by_cases d : f p < b
      · rw [if_pos d, if_pos (show f p < b + 1 by omega)]; omega
      · rw [if_neg d, if_neg (show ¬ f p < b + 1 by omega)]; omega
theorem us_step {f : Nat → Nat} {n p : Nat} (hn : n ≤ 8) (hf : f p < n) : msk (us f p) n ||| shl 1 (nI (f p)) = msk (us f (p + 1)) n := msk_or hn hf
theorem sm_laysRow {S : St} {m n k a : Nat} {am : Nat → Nat} {Q : (Nat → Nat → Int32) → Prop} (hL : LM S m am) (hn : n ≤ 8) (hn1 : 1 ≤ n) (h0 : gI S (am 0) 0 = nI n) (hk : k < fac n) (ha : kd S a = 21) (hal : ln S a = 8)
    (hq : ∀ F', On a (gI S) F' → Rw F' a n (lay n k) → Q F') : P_X12_laysRow m (nI k) a S Q := by
  have hpm := lay_pm hn hk
  unfold P_X12_laysRow
  refine ⟨hL.z, am 0, hL.r 0, hL.k 0, hL.i 0 (p := 0) (by decide), ?_⟩
  intro v4 e4
  rw [h0] at e4
  subst e4
  refine sm_rowsMany hL hn hn1 h0 ?_
  refine ⟨fun j x4 x5 x6 x7 F => ∃ p, p ≤ n ∧ j = n - p ∧ x4 = nI (fac (n - p)) ∧ x5 = nI (rst n k p) ∧ x6 = msk (us (lay n k) p) n ∧ x7 = nI p ∧ On a (gI S) F ∧ Rw F a p (lay n k), ⟨n, 0, Nat.zero_le _, rfl, rfl, rfl, ?_, rfl, On.rf, fun q hq => absurd hq (Nat.not_lt_zero q)⟩, ?_⟩
  · refine b_ext (fun i hi => ?_)
    rw [b_0, msk_bt _ _ hi]
    simp [us]
  rintro j x4 x5 x6 x7 F ⟨p, hp, rfl, rfl, rfl, rfl, rfl, hon, hrw⟩
  refine ⟨fun hc => ?_, fun hc => ?_⟩
  · have : n ≤ p := (nI_leI (by omega) (by omega)).mp hc
    have e : p = n := by omega
    subst e
    exact hq F hon hrw
  · have hlt := nI_gtI (by omega) (by omega) hc
    have hfl : fac (n - p) < 2 ^ 31 := fac_lt (by omega)
    have hfp := fac_pos (n - (p + 1))
    have hfl2 : fac (n - (p + 1)) < 2 ^ 31 := fac_lt (by omega)
    rw [le_sub1 hp]
    refine ⟨nI_ne0 (by omega) (by omega), ?_⟩
    intro v14 e14
    have e14' : v14 = nI (fac (n - (p + 1))) := by
      rw [e14, pk_div hfl (by omega) (by omega), fac_split hlt, Nat.mul_div_cancel_left _ (by omega)]
    subst e14'
    have hr : rst n k p < 2 ^ 31 := Nat.lt_trans (rst_lt hk p hp) hfl
    refine ⟨nI_ne0 hfp hfl2, ?_⟩
    intro v16 e16
    have e16' : v16 = nI (ixn n k p) := by
      rw [e16, pk_div hr hfp hfl2]
      unfold ixn
      rw [show n - 1 - p = n - (p + 1) by omega]
    subst e16'
    refine ⟨nI_ne0 hfp hfl2, ?_⟩
    intro v18 e18
    have e18' : v18 = nI (rst n k (p + 1)) := by
      rw [e18, irmN hr hfp hfl2]
      show _ = nI (rst n k p % fac (n - 1 - p))
      rw [show n - 1 - p = n - (p + 1) by omega]
    subst e18'
    have hT : lay n k p < n := hpm.1 p hlt
    have hTu : ∀ q, q < p → lay n k q ≠ lay n k p := fun q hq' => hpm.2 q p hq' hlt
    have hTg : lay n k p - cnt (lay n k) p (lay n k p) = ixn n k p := lay_dg hn hk hlt
    have hi := ixn_lt hk hlt
    refine ⟨fun j x8 x9 => ∃ b, b ≤ lay n k p ∧ j = lay n k p - b ∧ (b - cnt (lay n k) p b) ≤ ixn n k p ∧ x8 = nI (ixn n k p - (b - cnt (lay n k) p b)) ∧ x9 = nI b, ⟨lay n k p, 0, Nat.zero_le _, rfl, by simp, by simp, rfl⟩, ?_⟩
    rintro j x8 x9 ⟨b, hb, rfl, hg, rfl, rfl⟩
    have hcl := cnt_le hpm hp b
    have hcn := cnt_next hpm b p hp
    -- going on: b is not the bell
    refine ⟨b < lay n k p, fun hbl => ?_, ?_⟩
    · rw [tb2z (by omega), msk_bt _ _ (by omega), decide_eq_true (show b < n by omega), Bool.true_and]
      refine ⟨fun hu v ev => ?_, fun hu v ev w ew => ?_⟩
      · have hu : us (lay n k) p b = true := by cases h : us (lay n k) p b <;> simp_all
        rw [hu, if_pos rfl] at hcn
        refine ⟨lay n k p - (b + 1), by omega, b + 1, by omega, rfl, by omega, ?_, by rw [ev]; exact nI_1 b⟩
        rw [hcn, show b + 1 - (cnt (lay n k) p b + 1) = b - cnt (lay n k) p b by omega]
      · rw [hu, if_neg (by decide)] at hcn
        have hs := gl_strict hpm hp (show b < n by omega) (us_no.mp hu) hbl (Nat.le_of_lt hT)
        refine ⟨lay n k p - (b + 1), by omega, b + 1, by omega, rfl, by omega, ?_, by rw [ew]; exact nI_1 b⟩
        rw [ev, hcn]
        have e : ixn n k p - (b - cnt (lay n k) p b) = (ixn n k p - (b + 1 - (cnt (lay n k) p b + 0))) + 1 := by omega
        rw [e]
        exact pk_m1 _
    · rw [tb2 (by omega), msk_bt _ _ (by omega), decide_eq_true (show b < n by omega), Bool.true_and]
      refine ⟨fun hu => ?_, fun hu => ⟨fun hs => ?_, fun hs => ?_⟩⟩
      · rcases Nat.lt_or_ge b (lay n k p) with h | h
        · exact h
        · have e : b = lay n k p := by omega
          obtain ⟨q, hq1, hq2⟩ := (us_iff _ _ _).mp hu
          exact absurd (hq2.trans e) (hTu q hq1)
      · have hu : us (lay n k) p b = false := by cases h : us (lay n k) p b <;> simp_all
        have hz : ixn n k p - (b - cnt (lay n k) p b) ≤ 0 := (nI_leI (b := 0) (by omega) (by decide)).mp hs
        have eb : b = lay n k p := by
          rcases Nat.lt_or_ge b (lay n k p) with h | h
          · have := gl_strict hpm hp (show b < n by omega) (us_no.mp hu) h (Nat.le_of_lt hT)
            omega
          · omega
        subst eb
        refine ⟨ha, by rw [hal]; exact vp_in_nI (by omega) (by decide), ?_⟩
        intro F31 e31 v32 e32 v33 e33
        rw [nI_clamp (by omega)] at e31
        refine ⟨n - (p + 1), by omega, p + 1, by omega, rfl, rfl, rfl, by rw [e32, us_step hn hT], by rw [e33]; exact nI_1 p, ?_, ?_⟩
        · rw [e31]; exact hon.tr On.up
        · intro q hq'
          rw [e31]
          by_cases c : q = p
          · subst c; exact up_at
          · rw [up_no c]; exact hrw q (by omega)
      · rcases Nat.lt_or_ge b (lay n k p) with h | h
        · exact h
        · have e : b = lay n k p := by omega
          rw [e, hTg, Nat.sub_self] at hs
          exact absurd (nI_le (Nat.le_refl 0) (by decide)) hs
theorem sm_numberOf {S : St} {m n a : Nat} {f : Nat → Nat} {am : Nat → Nat} {Q : Int32 → Prop} (hL : LM S m am) (hn : n ≤ 8) (h0 : gI S (am 0) 0 = nI n) (hf : Pm n f) (ha : kd S a = 21) (hal : ln S a = 8) (hr : Rw (gI S) a n f)
    (hq : Q (nI (num n f))) : P_X12_numberOf m a S Q := by
  unfold P_X12_numberOf
  refine ⟨hL.z, am 0, hL.r 0, hL.k 0, hL.i 0 (p := 0) (by decide), ?_⟩
  intro v4 e4
  rw [h0] at e4
  subst e4
  refine ⟨fun j x3 x4 => ∃ p, p ≤ n ∧ j = n - p ∧ x3 = nI (numP n f p) ∧ x4 = nI p, ⟨n, 0, Nat.zero_le _, rfl, rfl, rfl⟩, ?_⟩
  rintro j x3 x4 ⟨p, hp, rfl, rfl, rfl⟩
  refine ⟨fun hc => ?_, fun hc v9 e9 => ?_⟩
  · have : n ≤ p := (nI_leI (by omega) (by omega)).mp hc
    have e : p = n := by omega
    subst e
    exact hq
  · have hlt := nI_gtI (by omega) (by omega) hc
    have hd : ∀ t, fb_ct (fun i => decide (f (p + 1 + i) < f p)) t + cnt f (p + 1) (f p) = cnt f (p + 1 + t) (f p) := fun t => by
      have := fb_ct_split (fun q => decide (f q < f p)) (p + 1) t
      unfold cnt
      omega
    refine ⟨fun j x5 x6 => ∃ t, p + 1 + t ≤ n ∧ j = n - t ∧ x5 = nI (fb_ct (fun i => decide (f (p + 1 + i) < f p)) t) ∧ x6 = nI (p + 1 + t), ⟨n, 0, by omega, rfl, rfl, by rw [e9]; exact nI_1 p⟩, ?_⟩
    rintro j x5 x6 ⟨t, ht, rfl, rfl, rfl⟩
    refine ⟨fun hc2 v14 e14 v15 e15 => ?_, fun hc2 => ?_⟩
    · have : n ≤ p + 1 + t := (nI_leI (by omega) (by omega)).mp hc2
      refine ⟨n - (p + 1), by omega, p + 1, by omega, rfl, ?_, by rw [e15]; exact nI_1 p⟩
      rw [e14, le_sub1 hp, mulN, nI_add]
      have h1 := hd t
      rw [show p + 1 + t = n by omega, cnt_full hf (f p) (Nat.le_of_lt (hf.1 p hlt)), cnt_succ, if_neg (Nat.lt_irrefl _), Nat.add_zero] at h1
      show nI (numP n f p * (n - p) + _) = nI (numP n f p * (n - p) + (f p - cnt f p (f p)))
      rw [show fb_ct (fun i => decide (f (p + 1 + i) < f p)) t = f p - cnt f p (f p) by omega]
    · have hlt2 := nI_gtI (by omega) (by omega) hc2
      have hfp := hf.1 p hlt
      have hfq := hf.1 (p + 1 + t) hlt2
      refine ⟨ha, by rw [hal]; exact vp_in_nI (by omega) (by decide), by rw [hal]; exact vp_in_nI (by omega) (by decide), ?_⟩
      rw [nI_clamp (by omega), nI_clamp (by omega), hr p hlt, hr (p + 1 + t) hlt2, nI_leI (by omega) (by omega)]
      refine ⟨fun h v ev w ew => ⟨n - (t + 1), by omega, t + 1, by omega, rfl, ?_, by rw [ew]; exact nI_1 _⟩, fun h v ev w ew => ⟨n - (t + 1), by omega, t + 1, by omega, rfl, ?_, by rw [ew]; exact nI_1 _⟩⟩
      · rw [ev, fb_ct_succ, decide_eq_false (by omega), if_neg (by decide)]
        exact nI_add _ 0
      · rw [ev, fb_ct_succ, decide_eq_true (by omega), if_pos rfl]
        exact nI_1 _
