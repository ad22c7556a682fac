/-! A touch: its steps, how many changes, the changes. -/
abbrev Tc : Type := Nat × Nat × (Nat → Nat → Bool)
def tS (T : Tc) : Nat := T.1
def tN (T : Tc) : Nat := T.2.1
def tv (T : Tc) : Nat → Nat → Bool := T.2.2
def trw (T : Tc) : Nat → Nat → Nat
  | 0 => fun p => p
  | k + 1 => chd (tv T k) (trw T k)
def tok (n : Nat) (T : Tc) : Prop := tN T ≤ 2000 ∧ ∀ k, k < tN T → Sw n (tv T k)
theorem trw_pm {n : Nat} {T : Tc} (h : tok n T) : ∀ k, k ≤ tN T → Pm n (trw T k)
  | 0, _ => pm_id n
  | k + 1, hk => chd_pm (h.2 k (by omega)) (trw_pm h k (by omega))
/-- the class's touch -/
def TX (T : Tc) (n : Nat) (im : Nat → Prop) (S : St) (t : Nat) : Prop := im t ∧ kd S t = 8 ∧ gI S t 0 = nI n ∧ gI S t 1 = nI (tS T) ∧ (∃ a, gR S t 2 = some a ∧ Ar im S a (tN T) (fun k => nI (pak (mvf (tv T k)) n))) ∧ ∃ a, gR S t 3 = some a ∧ Ar im S a (tN T + 1) (fun k => nI (pak (trw T k) n))
theorem TX.sm {T : Tc} {n : Nat} {im : Nat → Prop} {S S' : St} {t : Nat} (h : TX T n im S t) (hs : Sim im S S') : TX T n im S' t := by
  obtain ⟨h1, h2, h3, h4, ⟨a5, r5, h5⟩, a6, r6, h6⟩ := h
  obtain ⟨s1, s2, s3, s4, s5⟩ := hs t h1
  exact ⟨h1, s1.trans h2, by rw [s3]; exact h3, by rw [s3]; exact h4, ⟨a5, by rw [s5]; exact r5, h5.sm hs⟩, a6, by rw [s5]; exact r6, h6.sm hs⟩
/-- the reference's rows of the touch that is rung -/
def TM (T : Tc) (n : Nat) (A : Nat → Int32) : Prop := A 6 = nI (tN T) ∧ ∀ k, k ≤ tN T → A (410 + k) = nI (num n (trw T k))
/-- what is rung, on both sides -/
def RC (S : St) (x : Nat) (am : Nat → Nat) (im : Nat → Prop) (n : Nat) : Option Tc → Prop
  | none => gR S x 9 = none ∧ gI S (am 0) 6 = -1
  | some T => tok n T ∧ ∃ t, gR S x 9 = some t ∧ TX T n im S t ∧ TM T n (gI S (am 0))
/-! The class's questions of a touch. -/
section TQ
variable {T : Tc} {n t : Nat} {im : Nat → Prop} {S : St} {Q : Int32 → Prop}
theorem sp_last (h : TX T n im S t) (hq : Q (nI (tN T))) : P_X8_last t S Q := by
  obtain ⟨-, h2, -, -, -, a, r, -, k, l, -⟩ := h
  refine ⟨h2, a, r, k, ?_⟩
  rw [l, nI_pred]
  exact hq
theorem sp_nextLike {g : Nat → Nat} (h : TX T n im S t) (ht : tok n T) (hn : n ≤ 8) (hg : ∀ p, p < n → g p < 8)
    (hq : ∀ k, k < tN T → Eqn n (trw T (k + 1)) g → (∀ j, j < k → ¬ Eqn n (trw T (j + 1)) g) → Q (nI (k + 1)))
    (hq2 : (∀ k, k < tN T → ¬ Eqn n (trw T (k + 1)) g) → Q (-1)) : P_X8_nextLike t (nI (pak g n)) S Q := by
  obtain ⟨-, h2, -, -, -, a, r, -, ka, l, gg⟩ := h
  have hN := ht.1
  refine ⟨h2, fun u x2 => ∃ k, k ≤ tN T ∧ u = tN T - k ∧ x2 = nI (k + 1) ∧ ∀ j, j < k → ¬ Eqn n (trw T (j + 1)) g, ⟨tN T, 0, by omega, rfl, rfl, fun j hj => by omega⟩, ?_⟩
  rintro u x2 ⟨k, hk, rfl, rfl, hno⟩
  refine ⟨a, r, ka, ?_⟩
  rw [l]
  refine ⟨fun hc => ?_, fun hc => ?_⟩
  · have : tN T + 1 ≤ k + 1 := (nI_leI (by omega) (by omega)).mp hc
    exact hq2 (fun j hj => hno j (by omega))
  · have hlt := nI_gtI (by omega) (by omega) hc
    refine ⟨vp_in_nI (by omega) (by omega), ?_⟩
    rw [nI_clamp (by omega), gg (k + 1) (by omega), pak_eq hn (pm8 hn (trw_pm ht _ (by omega))) hg]
    refine ⟨fun hne w ew => ⟨tN T - (k + 1), by omega, k + 1, by omega, rfl, by rw [ew]; exact nI_1 _, ?_⟩, fun he => hq k (by omega) he hno⟩
    intro j hj
    by_cases c : j = k
    · subst c; exact hne
    · exact hno j (by omega)
theorem sp_spot {b k : Nat} (h : TX T n im S t) (ht : tok n T) (hn : n ≤ 8) (hb : b < n) (hk : k ≤ tN T) (hq : Q (nI (inv n (trw T k) b))) : P_X8_spot t (nI b) (nI k) S Q := by
  obtain ⟨-, h2, h3, -, -, a, r, -, ka, l, gg⟩ := h
  have hN := ht.1
  have hp := trw_pm ht k hk
  obtain ⟨i1, i2⟩ := inv_lt hp hb
  obtain ⟨v, hv⟩ : ∃ v, v = inv n (trw T k) b := ⟨_, rfl⟩
  rw [← hv] at hq i1 i2
  refine ⟨h2, fun u x3 => ∃ p, p ≤ v ∧ u = v - p ∧ x3 = nI p, ⟨v, 0, by omega, rfl, rfl⟩, ?_⟩
  rintro u x3 ⟨p, hpv, rfl, rfl⟩
  rw [h3]
  refine ⟨fun hc => ?_, fun _ => ?_⟩
  · have : n ≤ p := (nI_leI (by omega) (by omega)).mp hc
    omega
  · refine ⟨a, r, ka, by rw [l]; exact vp_in_nI (by omega) (by omega), ?_⟩
    rw [nI_clamp (by omega), gg k (by omega)]
    refine sp_bellAt hn (pm8 hn hp) (by omega) ?_
    have := hp.1 p (by omega)
    rw [nI_eq (by omega) (by omega)]
    refine ⟨fun hne w ew => ⟨v - (p + 1), ?_, p + 1, ?_, rfl, by rw [ew]; exact nI_1 p⟩, fun he => ?_⟩
    · have : p ≠ v := fun e => hne (by rw [e]; exact i2)
      omega
    · have : p ≠ v := fun e => hne (by rw [e]; exact i2)
      omega
    · have : p = v := pm_inj hp (by omega) (by omega) (he.trans i2.symm)
      subst this
      exact hq
/-- counting: all rows behind the first -/
theorem ct_from1 {P : Nat → Bool} (h0 : P 0 = false) : fb_ct P 1 = 0 := by
  show 0 + (if P 0 then 1 else 0) = 0
  rw [h0]; rfl
theorem ct_yes {P : Nat → Bool} {k : Nat} (h : P k = true) : nI (fb_ct P k) + 1 = nI (fb_ct P (k + 1)) := by
  rw [nI_1, fb_ct_succ, if_pos h]
theorem ct_no {P : Nat → Bool} {k : Nat} (h : ¬ P k = true) : nI (fb_ct P k) = nI (fb_ct P (k + 1)) := by
  rw [fb_ct_succ, if_neg h]; rfl
theorem ct_no0 {P : Nat → Bool} {k : Nat} (h : ¬ P k = true) : nI (fb_ct P k) + 0 = nI (fb_ct P (k + 1)) := by
  rw [fb_ct_succ, if_neg h]; exact nI_add _ 0
theorem sp_fitting {P : Nat → Bool} {u w : Int32} (h : TX T n im S t) (ht : tok n T) (h0 : P 0 = false) (hP : ∀ k, 1 ≤ k → k ≤ tN T → (nI (pak (trw T k) n) &&& u = w ↔ P k = true)) (hq : Q (nI (fb_ct P (tN T + 1)))) : P_X8_fitting t u w S Q := by
  obtain ⟨-, h2, -, -, -, a, r, -, ka, l, gg⟩ := h
  have hN := ht.1
  refine ⟨h2, fun v x3 x4 => ∃ k, 1 ≤ k ∧ k ≤ tN T + 1 ∧ v = tN T + 1 - k ∧ x3 = nI (fb_ct P k) ∧ x4 = nI k, ⟨tN T, 1, by omega, by omega, rfl, by rw [ct_from1 h0]; rfl, rfl⟩, ?_⟩
  rintro v x3 x4 ⟨k, hk1, hk, rfl, rfl, rfl⟩
  refine ⟨a, r, ka, ?_⟩
  rw [l]
  refine ⟨fun hc => ?_, fun hc => ?_⟩
  · have : tN T + 1 ≤ k := (nI_leI (by omega) (by omega)).mp hc
    have e : k = tN T + 1 := by omega
    subst e
    exact hq
  · have hlt := nI_gtI (by omega) (by omega) hc
    refine ⟨vp_in_nI (by omega) (by omega), ?_⟩
    rw [nI_clamp (by omega), gg k (by omega), hP k hk1 (by omega)]
    exact ⟨fun hne w1 e1 => ⟨tN T + 1 - (k + 1), by omega, k + 1, by omega, by omega, rfl, ct_no hne, by rw [e1]; exact nI_1 k⟩, fun he w1 e1 w2 e2 => ⟨tN T + 1 - (k + 1), by omega, k + 1, by omega, by omega, rfl, by rw [e1]; exact ct_yes he, by rw [e2]; exact nI_1 k⟩⟩
theorem sp_evenRows {P : Nat → Bool} (h : TX T n im S t) (ht : tok n T) (hn : n ≤ 8) (h0 : P 0 = false) (hP : ∀ k, 1 ≤ k → k ≤ tN T → (invs (trw T k) n % 2 = 0 ↔ P k = true)) (hq : Q (nI (fb_ct P (tN T + 1)))) : P_X8_evenRows t S Q := by
  obtain ⟨-, h2, h3, -, -, a, r, -, ka, l, gg⟩ := h
  have hN := ht.1
  refine ⟨h2, fun v x3 x4 => ∃ k, 1 ≤ k ∧ k ≤ tN T + 1 ∧ v = tN T + 1 - k ∧ x3 = nI (fb_ct P k) ∧ x4 = nI k, ⟨tN T, 1, by omega, by omega, rfl, by rw [ct_from1 h0]; rfl, rfl⟩, ?_⟩
  rintro v x3 x4 ⟨k, hk1, hk, rfl, rfl, rfl⟩
  refine ⟨a, r, ka, ?_⟩
  rw [l]
  refine ⟨fun hc => ?_, fun hc => ?_⟩
  · have : tN T + 1 ≤ k := (nI_leI (by omega) (by omega)).mp hc
    have e : k = tN T + 1 := by omega
    subst e
    exact hq
  · have hlt := nI_gtI (by omega) (by omega) hc
    refine ⟨vp_in_nI (by omega) (by omega), ?_⟩
    rw [nI_clamp (by omega), gg k (by omega), h3]
    refine sp_isEven hn (trw_pm ht k (by omega)) ?_
    by_cases c : invs (trw T k) n % 2 = 0
    · rw [if_pos c]
      have he := (hP k hk1 (by omega)).mp c
      exact ⟨fun c => absurd c one0, fun _ w1 e1 w2 e2 => ⟨tN T + 1 - (k + 1), by omega, k + 1, by omega, by omega, rfl, by rw [e1]; exact ct_yes he, by rw [e2]; exact nI_1 k⟩⟩
    · rw [if_neg c]
      have hne : ¬ P k = true := fun e => c ((hP k hk1 (by omega)).mpr e)
      exact ⟨fun _ w1 e1 => ⟨tN T + 1 - (k + 1), by omega, k + 1, by omega, by omega, rfl, ct_no hne, by rw [e1]; exact nI_1 k⟩, fun c => absurd rfl c⟩
/-- where a bell strikes in row k -/
def spt (T : Tc) (n b k : Nat) : Nat := inv n (trw T k) b
theorem spt_lt (ht : tok n T) {b k : Nat} (hb : b < n) (hk : k ≤ tN T) : spt T n b k < n := (inv_lt (trw_pm ht k hk) hb).1
theorem sp_liesOf {b : Nat} (h : TX T n im S t) (ht : tok n T) (hn : n ≤ 8) (hb : b < n) (hq : Q (nI (fb_ct (fun k => decide (1 ≤ k) && decide (spt T n b k = spt T n b (k - 1))) (tN T + 1)))) : P_X8_liesOf t (nI b) S Q := by
  have hh := h
  obtain ⟨-, h2, h3, -, -, a, r, -, ka, l, gg⟩ := hh
  have hN := ht.1
  refine ⟨h2, fun v x2 x3 x4 => ∃ k, k ≤ tN T + 1 ∧ v = tN T + 1 - k ∧ x2 = nI (fb_ct (fun k => decide (1 ≤ k) && decide (spt T n b k = spt T n b (k - 1))) k) ∧ x3 = (if k = 0 then -1 else nI (spt T n b (k - 1))) ∧ x4 = nI k, ⟨tN T + 1, 0, by omega, rfl, rfl, rfl, rfl⟩, ?_⟩
  rintro v x2 x3 x4 ⟨k, hk, rfl, rfl, rfl, rfl⟩
  refine ⟨a, r, ka, ?_⟩
  rw [l]
  refine ⟨fun hc => ?_, fun hc => ?_⟩
  · have : tN T + 1 ≤ k := (nI_leI (by omega) (by omega)).mp hc
    have e : k = tN T + 1 := by omega
    subst e
    exact hq
  · have hlt := nI_gtI (by omega) (by omega) hc
    have s1 := spt_lt ht hb (show k ≤ tN T by omega)
    have s2 := spt_lt ht hb (show k - 1 ≤ tN T by omega)
    refine sp_spot h ht hn hb (by omega) ?_
    have key : (nI (spt T n b k) = (if k = 0 then -1 else nI (spt T n b (k - 1)))) ↔ (decide (1 ≤ k) && decide (spt T n b k = spt T n b (k - 1))) = true := by
      rcases Nat.eq_zero_or_pos k with c | c
      · subst c
        rw [if_pos rfl]
        refine ⟨fun e => ?_, fun e => by simp at e⟩
        have := nI_pos (n := spt T n b 0) (by omega)
        rw [e] at this
        exact absurd (by decide) this
      · rw [if_neg (by omega), nI_eq (by omega) (by omega), decide_eq_true (show 1 ≤ k from c), Bool.true_and, decide_eq_true_iff]
    show (¬ nI (spt T n b k) = _ → _) ∧ (nI (spt T n b k) = _ → _)
    rw [key]
    refine ⟨fun hne w1 e1 => ⟨tN T + 1 - (k + 1), by omega, k + 1, by omega, rfl, ct_no (P := fun k => decide (1 ≤ k) && decide (spt T n b k = spt T n b (k - 1))) hne, ?_, by rw [e1]; exact nI_1 k⟩, fun he w1 e1 w2 e2 => ⟨tN T + 1 - (k + 1), by omega, k + 1, by omega, rfl, by rw [e1]; exact ct_yes (P := fun k => decide (1 ≤ k) && decide (spt T n b k = spt T n b (k - 1))) he, ?_, by rw [e2]; exact nI_1 k⟩⟩
    · rw [if_neg (by omega)]; rfl
    · rw [if_neg (by omega)]; rfl
def dgP (T : Tc) (n b k : Nat) : Bool := decide (2 ≤ k) && (decide (spt T n b k = spt T n b (k - 2)) && !decide (spt T n b k = spt T n b (k - 1)))
theorem sp_dodgesOf {b : Nat} (h : TX T n im S t) (ht : tok n T) (hn : n ≤ 8) (hb : b < n) (hq : Q (nI (fb_ct (dgP T n b) (tN T + 1)))) : P_X8_dodgesOf t (nI b) S Q := by
  have hh := h
  obtain ⟨-, h2, h3, -, -, a, r, -, ka, l, gg⟩ := hh
  have hN := ht.1
  refine ⟨h2, fun v x2 x3 x4 x5 => ∃ k, k ≤ tN T + 1 ∧ v = tN T + 1 - k ∧ x2 = nI (fb_ct (dgP T n b) k) ∧ x3 = (if k < 2 then -1 else nI (spt T n b (k - 2))) ∧ x4 = (if k = 0 then -1 else nI (spt T n b (k - 1))) ∧ x5 = nI k, ⟨tN T + 1, 0, by omega, rfl, rfl, rfl, rfl, rfl⟩, ?_⟩
  rintro v x2 x3 x4 x5 ⟨k, hk, rfl, rfl, rfl, rfl, rfl⟩
  refine ⟨a, r, ka, ?_⟩
  rw [l]
  have nx : (if k + 1 < 2 then (-1 : Int32) else nI (spt T n b (k + 1 - 2))) = if k = 0 then -1 else nI (spt T n b (k - 1)) := by
    rcases Nat.eq_zero_or_pos k with c | c
    · subst c; rfl
    · rw [if_neg (by omega), if_neg (by omega)]; rfl
  refine ⟨fun hc => ?_, fun hc => ?_⟩
  · have : tN T + 1 ≤ k := (nI_leI (by omega) (by omega)).mp hc
    have e : k = tN T + 1 := by omega
    subst e
    exact hq
  · have hlt := nI_gtI (by omega) (by omega) hc
    have s1 := spt_lt ht hb (show k ≤ tN T by omega)
    have s2 := spt_lt ht hb (show k - 1 ≤ tN T by omega)
    have s3 := spt_lt ht hb (show k - 2 ≤ tN T by omega)
    refine sp_spot h ht hn hb (by omega) ⟨fun hc2 w1 e1 => ?_, fun hc2 => ?_⟩
    · have : k ≤ 1 := (nI_leI (b := 1) (by omega) (by decide)).mp hc2
      refine ⟨tN T + 1 - (k + 1), by omega, k + 1, by omega, rfl, ct_no ?_, nx.symm, ?_, by rw [e1]; exact nI_1 k⟩
      · unfold dgP; rw [decide_eq_false (by omega), Bool.false_and]; decide
      · rw [if_neg (by omega)]; rfl
    · have hk2 := nI_gtI (p := 1) (by omega) (by decide) hc2
      have k2 : 2 ≤ k := by
        rcases Nat.lt_or_ge 1 k with c | c
        · omega
        · exact absurd (nI_le (a := k) (b := 1) c (by decide)) hc2
      rw [if_neg (by omega), if_neg (by omega)]
      show (¬ nI (spt T n b k) = _ → _) ∧ (nI (spt T n b k) = _ → (nI (spt T n b k) = _ → _) ∧ (¬ nI (spt T n b k) = _ → _))
      rw [nI_eq (by omega) (by omega), nI_eq (by omega) (by omega)]
      have n1 : nI (spt T n b (k - 1)) = if k + 1 < 2 then (-1 : Int32) else nI (spt T n b (k + 1 - 2)) := by rw [if_neg (by omega)]; rfl
      have n2 : nI (spt T n b k) = if k + 1 = 0 then (-1 : Int32) else nI (spt T n b (k + 1 - 1)) := by rw [if_neg (by omega)]; rfl
      refine ⟨fun hne w1 e1 => ⟨tN T + 1 - (k + 1), by omega, k + 1, by omega, rfl, ct_no ?_, n1, n2, by rw [e1]; exact nI_1 k⟩, fun he => ⟨fun he2 w1 e1 => ⟨tN T + 1 - (k + 1), by omega, k + 1, by omega, rfl, ct_no ?_, n1, n2, by rw [e1]; exact nI_1 k⟩, fun hne w1 e1 w2 e2 => ⟨tN T + 1 - (k + 1), by omega, k + 1, by omega, rfl, e1.trans (ct_yes ?_), n1, n2, by rw [e2]; exact nI_1 k⟩⟩⟩
      · unfold dgP; rw [decide_eq_true k2, decide_eq_false hne, Bool.false_and]; decide
      · unfold dgP; rw [decide_eq_true k2, decide_eq_true he, decide_eq_true he2]; decide
      · unfold dgP; rw [decide_eq_true k2, decide_eq_true he, decide_eq_false hne]; rfl
end TQ
/-! The reference: where a bell strikes. -/
theorem sm_placeIn {S : St} {m n b : Nat} {f : Nat → Nat} {am : Nat → Nat} {Q : Int32 → FI → Prop} (hL : LM S m am) (hn : n ≤ 8) (hn1 : 1 ≤ n) (h0 : gI S (am 0) 0 = nI n) (hf : Pm n f) (hb : b < n)
    (hq : ∀ F', On (am 24) (gI S) F' → Q (nI (inv n f b + 1)) F') : P_X12_placeIn m (nI (b + 1)) (nI (num n f)) S Q := by
  obtain ⟨i1, i2⟩ := inv_lt hf hb
  obtain ⟨v, hv⟩ : ∃ v, v = inv n f b := ⟨_, rfl⟩
  rw [← hv] at hq i1 i2
  refine ⟨hL.z, am 24, hL.r 24, sm_laysRow hL hn hn1 h0 (num_lt hf) (hL.k 24) (hL.l 24) (fun F' o' r' => ?_)⟩
  refine ⟨fun u x3 => ∃ p, p ≤ v ∧ u = v - p ∧ x3 = nI p, ⟨v, 0, by omega, rfl, rfl⟩, ?_⟩
  rintro u x3 ⟨p, hpv, rfl, rfl⟩
  refine ⟨hL.k 24, hL.i 24 (by show p < 8; omega), ?_⟩
  have := hf.1 p (by omega)
  rw [nI_clamp (by omega), r' p (by omega), lay_num hn hf p (by omega), nI_pred, nI_eq (by omega) (by omega)]
  refine ⟨fun he => ?_, fun hne w ew => ⟨v - (p + 1), ?_, p + 1, ?_, rfl, by rw [ew]; exact nI_1 p⟩⟩
  · have : p = v := pm_inj hf (by omega) (by omega) (he.trans i2.symm)
    subst this
    rw [nI_1]
    exact hq F' o'
  · have : p ≠ v := fun e => hne (by rw [e]; exact i2)
    omega
  · have : p ≠ v := fun e => hne (by rw [e]; exact i2)
    omega
theorem TM.kp {U : Nat → Bool} {S : St} {m n : Nat} {am : Nat → Nat} {T : Tc} {F G : FI} (hL : LM S m am) (h : TM T n (F (am 0))) (k : Kp U m am F G) (hU : U 0 = false := by decide) : TM T n (G (am 0)) := by rw [k.ar hL 0 hU]; exact h
theorem ix410 (k : Nat) : (410 : Int32) + nI k = nI (410 + k) := nI_add 410 k
theorem up6 (i : Nat) : (tQ 0 = false) := by decide
/-! What is rung: the calls. -/
section CT
variable {S : St} {x b m : Nat} {am : Nat → Nat} {im : Nat → Prop} {B : Bk} {o : Option Tc} {Q1 : Int32 → FI → Prop}
theorem RC.n {s : Int32} (h : CB S x b m am im B) (hr : RC S x am im (bn B) none) : gR S x 9 = none ∧ upI (gI S) x 0 s (am 0) 6 = -1 := by
  refine ⟨hr.1, ?_⟩
  rw [up_ne (x_am h.x h.L 0)]
  exact hr.2
theorem RC.s {T : Tc} (h : CB S x b m am im B) (hr : RC S x am im (bn B) (some T)) (s : Int32) : TM T (bn B) (upI (gI S) x 0 s (am 0)) := by
  rw [up_ne (x_am h.x h.L 0)]
  obtain ⟨-, t, -, -, hm⟩ := hr
  exact hm
theorem N_ne {N : Nat} (h : N ≤ 2000) : ¬ nI N = -1 := fun e => by
  have := nI_pos (n := N) (by omega)
  rw [e] at this
  exact absurd (by decide) this
theorem some_ne {g : Option Nat} {t : Nat} (h : g = some t) : ¬ g = none := by rw [h]; exact fun e => by cases e
theorem call_rowAt (h : CB S x b m am im B) (hr : RC S x am im (bn B) o) (r : Int32) (hq : ∀ v F, Th S x m am v (P_X12_rowAt m r (wI S F)) → Q1 v F) : P_X11_rowAt x r S Q1 := by
  by_cases c0 : r < 0
  · have c1 : ¬ 0 ≤ r := fun c => by rw [fa_le] at c; rw [fa_lt] at c0; omega
    refine ⟨h.x, ⟨h.x, fun c => absurd c c1, fun _ => ⟨fun c => absurd c one0, fun _ => rf h.x (hq _ _ (fun Q2 h2 => ?_))⟩⟩⟩
    exact ⟨h.L.z, True, fun _ => rfm h.L.z Kp.rf h2, fun _ => trivial, fun c => absurd c0 c⟩
  · have c1 : (0 : Int32) ≤ r := fa_of_nlt c0
    obtain ⟨k, hk, rfl⟩ := nI_of c0
    cases o with
    | none =>
      refine ⟨h.x, ⟨h.x, fun _ => ⟨fun c => absurd hr.1 c, fun _ => ⟨fun c => absurd c (by decide), fun _ => rf h.x (hq _ _ (fun Q2 h2 => ?_))⟩⟩, fun c => absurd c1 c⟩⟩
      have h6 := (RC.n (s := 6) h hr).2
      refine ⟨h.L.z, False, False.elim, fun c => absurd c c0, fun _ => ⟨am 0, h.L.r 0, h.L.k 0, h.L.i 0 (p := 6) (by decide), True, fun _ => ⟨fun c => absurd h6 c, fun _ => rfm h.L.z Kp.rf h2⟩, fun _ => trivial, fun c => absurd h6 c⟩⟩
    | some T =>
      have hr' := hr
      obtain ⟨ht, t, rt, tx, -⟩ := hr'
      have hN := ht.1
      have h6 := fun s => RC.s h hr s
      have k8 := tx.2.1
      refine ⟨h.x, ⟨h.x, fun _ => ⟨fun _ => ⟨t, rt, k8, sp_last tx ⟨fun hc => ⟨fun _ => ⟨t, rt, k8, ?_⟩, fun c => absurd rfl c⟩, fun hc => ⟨fun c => absurd c one0, fun _ => rf h.x (hq _ _ (fun Q2 h2 => ?_))⟩⟩⟩, fun c => absurd c (some_ne rt)⟩, fun c => absurd c1 c⟩⟩
      · have hkN : k ≤ tN T := (nI_leI (by omega) (by omega)).mp hc
        obtain ⟨-, -, -, -, -, a, ra, -, ka, l, gg⟩ := tx
        refine ⟨a, ra, ka, by rw [l]; exact vp_in_nI (by omega) (by omega), ?_⟩
        rw [nI_clamp (by omega), gg k (by omega)]
        refine xNu h (trw_pm ht k hkN) (an h.x (hq _ _ (fun Q2 h2 => ?_)))
        have e6 : gI (wI S (upI (gI S) x 0 0)) (am 0) 6 = nI (tN T) := (h6 0).1
        refine ⟨h.L.z, False, False.elim, fun c => absurd c c0, fun _ => ⟨am 0, h.L.r 0, h.L.k 0, h.L.i 0 (p := 6) (by decide), True, fun _ => ⟨fun _ => ?_, fun c => absurd (e6.symm.trans c) (N_ne hN)⟩, fun _ => trivial, fun _ => ⟨fun _ => trivial, fun c => absurd (by rw [e6]; exact nI_le hkN (by omega)) c⟩⟩⟩
        rw [ix410]
        refine ⟨h.L.i 0 (by show 410 + k < 12100; omega), ?_⟩
        rw [nI_clamp (by omega)]
        show P_X12_gives m (upI (gI S) x 0 0 (am 0) (410 + k)) _ _
        rw [(h6 0).2 k hkN]
        exact gvm h.L.z Kp.rf h2
      · have e6 : gI (wI S (upI (gI S) x 0 1)) (am 0) 6 = nI (tN T) := (h6 1).1
        exact ⟨h.L.z, True, fun _ => rfm h.L.z Kp.rf h2, fun _ => trivial, fun _ => ⟨am 0, h.L.r 0, h.L.k 0, h.L.i 0 (p := 6) (by decide), False, False.elim, fun c => absurd (e6.symm.trans c) (N_ne hN), fun _ => ⟨fun c => absurd (by rw [← e6]; exact c) hc, fun _ => trivial⟩⟩⟩
theorem call_round (h : CB S x b m am im B) (hr : RC S x am im (bn B) o) (hq : ∀ v F, Th S x m am v (P_X12_round m (wI S F)) → Q1 v F) : P_X11_round x S Q1 := by
  have hn := h.n8
  cases o with
  | none =>
    refine ⟨h.x, fun t => t = -1, ?_, fun c => absurd hr.1 c, fun _ => rfl⟩
    rintro _ rfl
    refine ⟨fun c => absurd rfl c, fun _ => rf h.x (hq _ _ (fun Q2 h2 => ?_))⟩
    have h6 := (RC.n (s := 6) h hr).2
    refine ⟨h.L.z, fun _ x1 => x1 = 1, ⟨0, rfl⟩, ?_⟩
    rintro _ _ rfl
    refine ⟨am 0, h.L.r 0, h.L.k 0, h.L.i 0 (p := 6) (by decide), fun _ => rfm h.L.z Kp.rf h2, fun c => absurd ?_ c⟩
    show upI (gI S) x 0 6 (am 0) 6 < 1
    rw [h6]
    decide
  | some T =>
    have hr' := hr
    obtain ⟨ht, t, rt, tx, -⟩ := hr'
    have hN := ht.1
    have k8 := tx.2.1
    have hmod : ∀ (s : Int32) (Q2 : Int32 → FI → Prop), (∀ k, k < tN T → Eqn (bn B) (trw T (k + 1)) (trw T 0) → (∀ j, j < k → ¬ Eqn (bn B) (trw T (j + 1)) (trw T 0)) → P_X12_gives m (nI (k + 1)) (wI S (upI (gI S) x 0 s)) Q2) → ((∀ k, k < tN T → ¬ Eqn (bn B) (trw T (k + 1)) (trw T 0)) → P_X12_refuse m 6 (wI S (upI (gI S) x 0 s)) Q2) → P_X12_round m (wI S (upI (gI S) x 0 s)) Q2 := by
      intro s Q2 g1 g2
      have h6 := RC.s h hr s
      have e6 : gI (wI S (upI (gI S) x 0 s)) (am 0) 6 = nI (tN T) := h6.1
      refine ⟨h.L.z, fun u x1 => ∃ k, k ≤ tN T ∧ u = tN T - k ∧ x1 = nI (k + 1) ∧ ∀ j, j < k → ¬ Eqn (bn B) (trw T (j + 1)) (trw T 0), ⟨tN T, 0, by omega, rfl, rfl, fun j hj => by omega⟩, ?_⟩
      rintro u x1 ⟨k, hk, rfl, rfl, hno⟩
      refine ⟨am 0, h.L.r 0, h.L.k 0, h.L.i 0 (p := 6) (by decide), ?_⟩
      rw [e6]
      refine ⟨fun hc => g2 (fun j hj => hno j ?_), fun hc => ?_⟩
      · have : tN T < k + 1 := by
          rcases Nat.lt_or_ge (tN T) (k + 1) with c | c
          · exact c
          · exact absurd hc (nI_nlt c (by omega))
        omega
      · have hlt : k < tN T := by
          rcases Nat.lt_or_ge (tN T) (k + 1) with c | c
          · exact absurd (nI_lt c (by omega)) hc
          · omega
        have hp := trw_pm ht (k + 1) hlt
        have hf := h.f
        have := num_lt hp
        rw [ix410]
        refine ⟨h.L.i 0 (by show 410 + (k + 1) < 12100; omega), ?_⟩
        rw [nI_clamp (by omega)]
        show (¬ upI (gI S) x 0 s (am 0) (410 + (k + 1)) = 0 → _) ∧ (upI (gI S) x 0 s (am 0) (410 + (k + 1)) = 0 → _)
        rw [h6.2 (k + 1) hlt, nI_z (by omega), num_0 hn hp]
        refine ⟨fun hne w ew => ⟨tN T - (k + 1), by omega, k + 1, by omega, rfl, by rw [ew]; exact nI_1 _, fun j hj => ?_⟩, fun he => g1 k hlt he hno⟩
        by_cases c : j = k
        · subst c; exact hne
        · exact hno j (by omega)
    obtain ⟨J, hJ⟩ : ∃ J : Int32 → Prop, J = fun v => (∃ k, k < tN T ∧ v = nI (k + 1) ∧ Eqn (bn B) (trw T (k + 1)) (trw T 0) ∧ ∀ j, j < k → ¬ Eqn (bn B) (trw T (j + 1)) (trw T 0)) ∨ (v = -1 ∧ ∀ k, k < tN T → ¬ Eqn (bn B) (trw T (k + 1)) (trw T 0)) := ⟨_, rfl⟩
    refine ⟨h.x, J, fun v hv => ?_, fun _ => ⟨t, rt, k8, k8, ?_⟩, fun c => absurd c (some_ne rt)⟩
    · rw [hJ] at hv
      rcases hv with ⟨k, hk, rfl, he, hno⟩ | ⟨rfl, hno⟩
      · refine ⟨fun _ => an h.x (hq _ _ (fun Q2 h2 => hmod 0 Q2 (fun k2 hk2 he2 hno2 => ?_) (fun hno2 => absurd he (hno2 k hk)))), fun c => absurd c (N_ne (by omega))⟩
        have e : k2 = k := fb_first_one (p := fun k => Eqn (bn B) (trw T (k + 1)) (trw T 0)) he2 hno2 he hno
        subst e
        exact gvm h.L.z Kp.rf h2
      · exact ⟨fun c => absurd rfl c, fun _ => rf h.x (hq _ _ (fun Q2 h2 => hmod 6 Q2 (fun k2 hk2 he2 _ => absurd he2 (hno k2 hk2)) (fun _ => rfm h.L.z Kp.rf h2)))⟩
    · have tx' := tx
      obtain ⟨-, -, -, -, -, a, ra, -, ka, l, gg⟩ := tx'
      refine ⟨a, ra, ka, by rw [l]; exact vp_in_nI (n := 0) (by omega) (by omega), ?_⟩
      rw [gg 0 (by omega)]
      refine sp_nextLike tx ht hn (pm8 hn (trw_pm ht 0 (by omega))) (fun k hk he hno => ?_) (fun hno => ?_)
      · rw [hJ]; exact Or.inl ⟨k, hk, rfl, he, hno⟩
      · rw [hJ]; exact Or.inr ⟨rfl, hno⟩
theorem call_place (h : CB S x b m am im B) (hr : RC S x am im (bn B) o) (r k0 : Int32) (hq : ∀ v F, Th S x m am v (P_X12_place m r k0 (wI S F)) → Q1 v F) : P_X11_place x r k0 S Q1 := by
  have L1 : ∀ s, LM (wI S (upI (gI S) x 0 s)) m am := fun _ => h.L
  have hn := h.n8
  rcases nb_case (bn B) (by omega) r with ⟨j, hj, rfl⟩ | hp
  · by_cases c0 : k0 < 0
    · have c1 : ¬ 0 ≤ k0 := fun c => by rw [fa_le] at c; rw [fa_lt] at c0; omega
      refine ⟨h.x, xBy h hj ⟨fun t => t = 1, ?_, fun c => absurd c one0, fun _ => ⟨h.x, fun c => absurd c c1, fun _ => rfl⟩⟩⟩
      rintro _ rfl
      refine ⟨fun c => absurd c one0, fun _ => rf h.x (hq _ _ (fun Q2 h2 => ?_))⟩
      exact ⟨h.L.z, mBy (L1 1) h.o (h.M1 1) hj ⟨True, fun _ => rfm h.L.z Kp.rf h2, fun c => absurd c one0, fun _ => ⟨fun _ => trivial, fun c => absurd c0 c⟩⟩⟩
    · have c1 : (0 : Int32) ≤ k0 := fa_of_nlt c0
      obtain ⟨k, hk, rfl⟩ := nI_of c0
      cases o with
      | none =>
        refine ⟨h.x, xBy h hj ⟨fun t => t = 6, ?_, fun c => absurd c one0, fun _ => ⟨h.x, fun _ => ⟨fun c => absurd hr.1 c, fun _ => rfl⟩, fun c => absurd c1 c⟩⟩⟩
        rintro _ rfl
        refine ⟨fun c => absurd c (by decide), fun _ => rf h.x (hq _ _ (fun Q2 h2 => ?_))⟩
        have h6 := (RC.n (s := 6) h hr).2
        exact ⟨h.L.z, mBy (L1 6) h.o (h.M1 6) hj ⟨False, False.elim, fun c => absurd c one0, fun _ => ⟨fun c => absurd c c0, fun _ => ⟨am 0, h.L.r 0, h.L.k 0, h.L.i 0 (p := 6) (by decide), True, fun _ => ⟨fun c => absurd h6 c, fun _ => rfm h.L.z Kp.rf h2⟩, fun _ => trivial, fun c => absurd h6 c⟩⟩⟩⟩
      | some T =>
        have hr' := hr
        obtain ⟨ht, t, rt, tx, -⟩ := hr'
        have hN := ht.1
        have h6 := fun s => RC.s h hr s
        have k8 := tx.2.1
        by_cases hkN : k ≤ tN T
        · refine ⟨h.x, xBy h hj ⟨fun t => t = 0, ?_, fun c => absurd c one0, fun _ => ⟨h.x, fun _ => ⟨fun _ => ⟨t, rt, k8, sp_last tx ⟨fun _ => rfl, fun c => absurd (nI_le hkN (by omega)) c⟩⟩, fun c => absurd c (some_ne rt)⟩, fun c => absurd c1 c⟩⟩⟩
          rintro _ rfl
          refine ⟨fun _ => ⟨t, rt, k8, ?_⟩, fun c => absurd rfl c⟩
          rw [nI_pred]
          refine sp_spot tx ht hn hj hkN ?_
          rw [nI_1]
          refine an h.x (hq _ _ (fun Q2 h2 => ?_))
          have e6 : gI (wI S (upI (gI S) x 0 0)) (am 0) 6 = nI (tN T) := (h6 0).1
          refine ⟨h.L.z, mBy (L1 0) h.o (h.M1 0) hj ⟨False, False.elim, fun c => absurd c one0, fun _ => ⟨fun c => absurd c c0, fun _ => ⟨am 0, h.L.r 0, h.L.k 0, h.L.i 0 (p := 6) (by decide), True, fun _ => ⟨fun _ => ?_, fun c => absurd (e6.symm.trans c) (N_ne hN)⟩, fun _ => trivial, fun _ => ⟨fun _ => trivial, fun c => absurd (by rw [e6]; exact nI_le hkN (by omega)) c⟩⟩⟩⟩⟩
          rw [ix410]
          refine ⟨h.L.i 0 (by show 410 + k < 12100; omega), ?_⟩
          rw [nI_clamp (by omega)]
          show P_X12_placeIn m _ (upI (gI S) x 0 0 (am 0) (410 + k)) _ _
          rw [(h6 0).2 k hkN]
          exact sm_placeIn (L1 0) hn h.n1 (h.M1 0).1 (trw_pm ht k hkN) hj (fun F' o' => gvm h.L.z (Kp.on h.L 24 o') h2)
        · refine ⟨h.x, xBy h hj ⟨fun t => t = 1, ?_, fun c => absurd c one0, fun _ => ⟨h.x, fun _ => ⟨fun _ => ⟨t, rt, k8, sp_last tx ⟨fun c => absurd ((nI_leI (by omega) (by omega)).mp c) hkN, fun _ => rfl⟩⟩, fun c => absurd c (some_ne rt)⟩, fun c => absurd c1 c⟩⟩⟩
          rintro _ rfl
          refine ⟨fun c => absurd c one0, fun _ => rf h.x (hq _ _ (fun Q2 h2 => ?_))⟩
          have e6 : gI (wI S (upI (gI S) x 0 1)) (am 0) 6 = nI (tN T) := (h6 1).1
          exact ⟨h.L.z, mBy (L1 1) h.o (h.M1 1) hj ⟨True, fun _ => rfm h.L.z Kp.rf h2, fun c => absurd c one0, fun _ => ⟨fun c => absurd c c0, fun _ => ⟨am 0, h.L.r 0, h.L.k 0, h.L.i 0 (p := 6) (by decide), False, False.elim, fun c => absurd (e6.symm.trans c) (N_ne hN), fun _ => ⟨fun c => absurd ((nI_leI (by omega) (by omega)).mp (by rw [← e6]; exact c)) hkN, fun _ => trivial⟩⟩⟩⟩⟩
  · refine ⟨h.x, xBn h hp ⟨fun t => t = 1, ?_, fun _ => rfl, fun c => absurd rfl c⟩⟩
    rintro _ rfl
    refine ⟨fun c => absurd c one0, fun _ => rf h.x (hq _ _ (fun Q2 h2 => ?_))⟩
    exact ⟨h.L.z, mBn (L1 1) h.o (h.M1 1) hp ⟨True, fun _ => rfm h.L.z Kp.rf h2, fun _ => trivial, fun c => absurd rfl c⟩⟩
end CT
