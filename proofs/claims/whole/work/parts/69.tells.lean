/-! Fractions. -/
theorem gcd_st (h l : Nat) : Nat.gcd l (h % l) = Nat.gcd h l := by
  rw [Nat.gcd_comm l (h % l), ← Nat.gcd_rec, Nat.gcd_comm]
theorem half_rem {h l : Nat} (h0 : 0 < l) (hl : l ≤ h) : 2 * (h % l) ≤ h := by
  have h1 := Nat.mod_lt h h0
  have h2 := Nat.div_add_mod h l
  have h3 : 1 ≤ h / l := (Nat.le_div_iff_mul_le h0).mpr (by omega)
  have h4 : l * 1 ≤ l * (h / l) := Nat.mul_le_mul_left l h3
  omega
theorem sp_commonDivisor {a b : Nat} {Q : Int32 → Prop} (ha : a ≤ 2000) (hb : b ≤ 2000) (hb1 : 1 ≤ b) (hq : Q (nI (Nat.gcd a b))) : P_X11_commonDivisor (nI a) (nI b) Q := by
  refine ⟨fun t x2 x3 x4 => ∃ i h l, i ≤ 64 ∧ t = 64 - i ∧ x2 = nI h ∧ x3 = nI l ∧ x4 = nI i ∧ Nat.gcd h l = Nat.gcd a b ∧ h ≤ 2000 ∧ l ≤ 2000 ∧ (i = 0 ∨ (l ≤ h ∧ h * l * 2 ^ (i - 1) < 2 ^ 23)), ⟨64, 0, a, b, by omega, rfl, rfl, rfl, rfl, rfl, ha, hb, Or.inl rfl⟩, ?_⟩
  rintro t x2 x3 x4 ⟨i, h, l, hi, rfl, rfl, rfl, rfl, hg, hh, hl, hc⟩
  have l0 : l = 0 → Q (nI h) := fun e => by
    subst e
    rw [Nat.gcd_zero_right] at hg
    rw [hg]; exact hq
  refine ⟨fun c => l0 ?_, fun c => ⟨fun c0 => l0 ((nI_z (by omega)).mp c0), fun c0 => ⟨c0, fun v8 e8 v9 e9 => ?_⟩⟩⟩
  · have i64 : i = 64 := by
      have : 64 ≤ i := (nI_leI (a := 64) (by decide) (by omega)).mp c
      omega
    rcases hc with e | ⟨e1, e2⟩
    · omega
    · subst i64
      rcases Nat.eq_zero_or_pos l with y | y
      · exact y
      · have : 1 ≤ h * l := Nat.mul_pos (by omega) y
        have := Nat.mul_le_mul_right (2 ^ (64 - 1)) this
        omega
  · have hlt : i < 64 := nI_gtI (n := 64) (by decide) (by omega) c
    have lp : 0 < l := Nat.pos_of_ne_zero (fun e => c0 (by rw [e]; rfl))
    have hm := Nat.mod_lt h lp
    refine ⟨64 - (i + 1), by omega, i + 1, l, h % l, by omega, rfl, rfl, by rw [e8, irmN (by omega) lp (by omega)], by rw [e9]; exact nI_1 i, (gcd_st h l).trans hg, hl, by omega, Or.inr ⟨by omega, ?_⟩⟩
    rw [show i + 1 - 1 = i from rfl]
    rcases hc with e | ⟨e1, e2⟩
    · subst e
      have : l * (h % l) ≤ 2000 * 2000 := Nat.mul_le_mul hl (by omega)
      rw [Nat.pow_zero, Nat.mul_one]
      omega
    · have i1 : 1 ≤ i ∨ i = 0 := by omega
      rcases i1 with i1 | i1
      · obtain ⟨j, rfl⟩ : ∃ j, i = j + 1 := ⟨i - 1, by omega⟩
        rw [show j + 1 - 1 = j from rfl] at e2
        have hr := half_rem lp e1
        have e3 : l * (2 * (h % l)) ≤ l * h := Nat.mul_le_mul_left l hr
        have e4 : l * (h % l) * 2 ^ (j + 1) = l * (2 * (h % l)) * 2 ^ j := by
          rw [Nat.pow_succ, Nat.mul_comm (2 ^ j) 2, ← Nat.mul_assoc, Nat.mul_assoc l (h % l) 2, Nat.mul_comm (h % l) 2]
        have e5 := Nat.mul_le_mul_right (2 ^ j) e3
        rw [Nat.mul_comm l h] at e5
        omega
      · subst i1
        have : l * (h % l) ≤ 2000 * 2000 := Nat.mul_le_mul hl (by omega)
        rw [Nat.pow_zero, Nat.mul_one]
        omega
def frT (a b : Nat) : Int64 := lN (a / Nat.gcd a b)
def frB (a b : Nat) : Int64 := lN (b / Nat.gcd a b)
theorem gcd_p {a b : Nat} (h : 1 ≤ b) : 0 < Nat.gcd a b := Nat.gcd_pos_of_pos_right _ h
theorem gcd_le2 {a b : Nat} (h : 1 ≤ b) : Nat.gcd a b ≤ b := Nat.gcd_le_right _ h
theorem sp_tellFraction {S : St} {x a b : Nat} {Q : (Nat → Nat → Int64) → Prop} (hx : kd S x = 11) (ha : a ≤ 2000) (hb : b ≤ 2000) (hb1 : 1 ≤ b) (hq : Q (upJ (upJ (gJ S) x 1 (frT a b)) x 2 (frB a b))) : P_X11_tellFraction x (nI a) (nI b) S Q := by
  have g1 := gcd_p (a := a) hb1
  have g2 := gcd_le2 (a := a) hb1
  have d1 := Nat.div_le_self a (Nat.gcd a b)
  have d2 := Nat.div_le_self b (Nat.gcd a b)
  refine ⟨hx, sp_commonDivisor ha hb hb1 ⟨fun c => absurd ((nI_leI (b := 0) (by omega) (by decide)).mp c) (by omega), fun _ => ⟨fun c => ?_, fun v4 e4 J5 e5 => ⟨fun c => ?_, fun v7 e7 J8 e8 => ?_⟩⟩⟩⟩
  · have := (nI_z (by omega)).mp c; omega
  · have := (nI_z (by omega)).mp c; omega
  · rw [pk_div (by omega) g1 (by omega), nI_l (by omega)] at e4
    rw [pk_div (by omega) g1 (by omega), nI_l (by omega)] at e7
    rw [e8, e5, e4, e7]
    exact hq
theorem sm_tellsBy {S : St} {m a b : Nat} {Q : Int32 → FI → (Nat → Nat → Int64) → Prop} (hz : kd S m = 12) (ha : a ≤ 2000) (hb : b ≤ 2000) (hb1 : 1 ≤ b) (hq : Q 1 (upI (gI S) m 2 0) (upJ (upJ (gJ S) m 3 (frT a b)) m 4 (frB a b))) : P_X12_tellsBy m (lN a) (lN b) S Q := by
  have g1 := gcd_p (a := a) hb1
  have g2 := gcd_le2 (a := a) hb1
  refine ⟨hz, fun t x5 x7 => ∃ h l, t = l ∧ x5 = lN h ∧ x7 = lN l ∧ Nat.gcd h l = Nat.gcd a b ∧ h ≤ 2000 ∧ l ≤ 2000, ⟨b, a, b, rfl, rfl, rfl, rfl, ha, hb⟩, ?_⟩
  rintro t x5 x7 ⟨h, l, rfl, rfl, rfl, hg, hh, hl⟩
  rw [lg_cmp_eq, show (0 : Int64) = lN 0 from rfl, lN_eq (by omega) (by decide)]
  refine ⟨fun e => ?_, fun e => ⟨e, fun v13 e13 => ?_⟩⟩
  · subst e
    rw [Nat.gcd_zero_right] at hg
    subst hg
    have ne : ¬ lN (Nat.gcd a b) = 0 := fun c => by
      have := (lN_eq (b := 0) (by omega) (by decide)).mp c
      omega
    refine ⟨ne, fun v6 e6 J7 e7 => ⟨ne, fun v9 e9 J10 e10 => ⟨hz, fun F1 e1 => ⟨fun c => absurd rfl c, fun _ => ⟨Or.inr rfl, ?_⟩⟩⟩⟩⟩
    rw [pk_lDiv (by omega) g1 (by omega)] at e6 e9
    rw [e1, e10, e7, e6, e9]
    exact hq
  · have lp : 0 < t := Nat.pos_of_ne_zero e
    have hm := Nat.mod_lt h lp
    refine ⟨h % t, hm, t, h % t, rfl, rfl, ?_, (gcd_st h t).trans hg, hl, by omega⟩
    rw [e13]
    exact pk_lRem (by omega) lp (by omega)
/-- how both tell a fraction -/
def JE (S : St) (x m : Nat) (J J' : Nat → Nat → Int64) : Prop := (J = gJ S ∧ J' = gJ S) ∨ ∃ p q, J = upJ (upJ (gJ S) x 1 p) x 2 q ∧ J' = upJ (upJ J m 3 p) m 4 q
def ThJ (S : St) (x m : Nat) (am : Nat → Nat) (s v : Int32) (J : Nat → Nat → Int64) (P : (Int32 → FI → (Nat → Nat → Int64) → Prop) → Prop) : Prop := ∀ Q2 : Int32 → FI → (Nat → Nat → Int64) → Prop, (∀ F' J', Kp tT m am (upI (gI S) x 0 s) F' → F' m 2 = s → F' (am 0) = gI S (am 0) → JE S x m J J' → Q2 v F' J') → P Q2
section CJ
variable {S : St} {x b m : Nat} {am : Nat → Nat} {im : Nat → Prop} {B : Bk} {Q1 : Int32 → FI → (Nat → Nat → Int64) → Prop}
theorem call_evens {o : Option Tc} (h : CB S x b m am im B) (hr : RC S x am im (bn B) o) (hq : ∀ v s J, ThJ S x m am s v J (P_X12_evens m (wA S (upI (gI S) x 0 s) J (gR S))) → Q1 v (upI (gI S) x 0 s) J) : P_X11_evens x S Q1 := by
  have hn := h.n8
  have a0 : ∀ s, upI (gI S) x 0 s (am 0) = gI S (am 0) := fun s => up_ne (x_am h.x h.L 0)
  have deny : ¬ 0 < gI S (am 0) 6 → ThJ S x m am 6 0 (gJ S) (P_X12_evens m (wA S (upI (gI S) x 0 6) (gJ S) (gR S))) := fun h6 Q2 h2 => by
    have e6 : ¬ 0 < gI (wA S (upI (gI S) x 0 6) (gJ S) (gR S)) (am 0) 6 := by show ¬ 0 < upI (gI S) x 0 6 (am 0) 6; rw [a0]; exact h6
    refine ⟨h.L.z, am 0, h.L.r 0, h.L.k 0, h.L.i 0 (p := 6) (by decide), fun c => absurd c e6, fun _ => ⟨h.L.z, fun F e => ⟨fun _ => ⟨Or.inl rfl, ?_⟩, fun c => absurd c (by decide)⟩⟩⟩
    rw [e]
    exact h2 _ _ (Kp.fd 2) up_at (by rw [up_ne (h.L.o 0)]; exact a0 6) (Or.inl ⟨rfl, rfl⟩)
  cases o with
  | none =>
    refine ⟨h.x, True, fun _ => ⟨h.x, fun F e => ⟨Or.inl rfl, by rw [e]; exact hq _ _ _ (deny (by rw [hr.2]; decide))⟩⟩, fun _ => trivial, fun c => absurd hr.1 c⟩
  | some T =>
    have hr' := hr
    obtain ⟨ht, t, rt, tx, tm⟩ := hr'
    have hN := ht.1
    have h6 := RC.s h hr 0
    by_cases hN0 : tN T = 0
    · refine ⟨h.x, True, fun _ => ⟨h.x, fun F e => ⟨Or.inl rfl, by rw [e]; exact hq _ _ _ (deny (by rw [tm.1, hN0]; decide))⟩⟩, fun c => absurd c (some_ne rt), fun _ => ⟨t, rt, tx.2.1, sp_last tx ⟨fun c => absurd (by rw [hN0]; rfl) c, fun _ => trivial⟩⟩⟩
    · obtain ⟨P, hP⟩ : ∃ P : Nat → Bool, P = fun k => decide (1 ≤ k) && decide (invs (trw T k) (bn B) % 2 = 0) := ⟨_, rfl⟩
      have hle := fb_ct_le P (tN T + 1)
      have hct : fb_ct P (tN T + 1) ≤ tN T := by
        have := fb_ct_split P 1 (tN T)
        rw [ct_from1 (by rw [hP]; rfl), Nat.add_comm 1 (tN T)] at this
        rw [this, Nat.zero_add]
        exact fb_ct_le _ _
      refine ⟨h.x, False, False.elim, fun c => absurd c (some_ne rt), fun _ => ⟨t, rt, tx.2.1, sp_last tx ⟨fun _ => ?_, fun c => absurd ((nI_z (by omega)).mp c) hN0⟩⟩⟩
      refine sp_evenRows (P := P) tx ht hn (by rw [hP]; rfl) (fun k hk1 hk => ?_) (sp_last tx (sp_tellFraction h.x (by omega) hN (by omega) ⟨h.x, fun F e => ⟨Or.inr rfl, ?_⟩⟩))
      · rw [hP]
        show _ ↔ (decide (1 ≤ k) && decide (invs (trw T k) (bn B) % 2 = 0)) = true
        rw [decide_eq_true hk1, Bool.true_and, decide_eq_true_iff]
      · rw [e]
        refine hq _ _ _ (fun Q2 h2 => ?_)
        obtain ⟨J, hJ⟩ : ∃ J, J = upJ (upJ (gJ S) x 1 (frT (fb_ct P (tN T + 1)) (tN T))) x 2 (frB (fb_ct P (tN T + 1)) (tN T)) := ⟨_, rfl⟩
        rw [← hJ] at h2 ⊢
        have L1 : LM (wA S (upI (gI S) x 0 0) J (gR S)) m am := h.L
        have e6 : gI (wA S (upI (gI S) x 0 0) J (gR S)) (am 0) 6 = nI (tN T) := h6.1
        refine ⟨h.L.z, am 0, h.L.r 0, h.L.k 0, h.L.i 0 (p := 6) (by decide), fun _ => ?_, fun c => absurd (by rw [e6]; exact nI_lt (a := 0) (by omega) (by omega)) c⟩
        refine ⟨fun v x1 x2 F => ∃ k, 1 ≤ k ∧ k ≤ tN T + 1 ∧ v = tN T + 1 - k ∧ x1 = nI (fb_ct P k) ∧ x2 = nI k ∧ Kp tQ m am (upI (gI S) x 0 0) F, ⟨tN T, 1, by omega, by omega, rfl, by rw [ct_from1 (by rw [hP]; rfl)]; rfl, rfl, Kp.rf⟩, ?_⟩
        rintro v x1 x2 F ⟨k, hk1, hk, rfl, rfl, rfl, kk⟩
        have B2 := (h.M1 0).kp h.L kk
        have T2 : TM T (bn B) (F (am 0)) := h6.kp h.L kk
        rw [T2.1]
        refine ⟨fun hc => ?_, fun hc => ?_⟩
        · have : tN T + 1 = k := by
            rcases Nat.lt_or_ge (tN T) k with c | c
            · omega
            · exact absurd hc (nI_nlt c (by omega))
          subst this
          rw [nI_l (by omega), nI_l (by omega)]
          refine sm_tellsBy h.L.z (by omega) hN (by omega) ⟨Or.inr rfl, ?_⟩
          exact h2 _ _ ((kk.mono tQ_tT).tr (Kp.fd 2)) up_at (by rw [up_ne (h.L.o 0)]; show F (am 0) = _; rw [kk.ar h.L 0]; exact a0 0) (Or.inr ⟨_, _, hJ, rfl⟩)
        · have hlt : k ≤ tN T := by
            rcases Nat.lt_or_ge (tN T) k with c | c
            · exact absurd (nI_lt c (by omega)) hc
            · exact c
          have L2 : LM (wI (wA S (upI (gI S) x 0 0) J (gR S)) F) m am := h.L
          have hp := trw_pm ht k hlt
          rw [ix410]
          refine ⟨h.L.i 0 (by show 410 + k < 12100; omega), ?_⟩
          rw [nI_clamp (by omega), T2.2 k hlt]
          refine sm_isEven L2 hn h.n1 B2.1 (num_lt hp) (fun F3 k3 => ?_)
          have kk3 : Kp tQ m am (upI (gI S) x 0 0) F3 := kk.tr k3
          rw [invs_cong (lay_num hn hp)]
          by_cases c : invs (trw T k) (bn B) % 2 = 0
          · rw [if_pos c]
            refine ⟨fun c => absurd c one0, fun _ w1 e1 w2 e2 => ⟨tN T + 1 - (k + 1), by omega, k + 1, by omega, by omega, rfl, e1.trans (ct_yes ?_), by rw [e2]; exact nI_1 k, kk3⟩⟩
            rw [hP]; show (decide (1 ≤ k) && decide (invs (trw T k) (bn B) % 2 = 0)) = true
            rw [decide_eq_true hk1, decide_eq_true c]; rfl
          · rw [if_neg c]
            refine ⟨fun _ w1 e1 w2 e2 => ⟨tN T + 1 - (k + 1), by omega, k + 1, by omega, by omega, rfl, e1.trans (ct_no0 ?_), by rw [e2]; exact nI_1 k, kk3⟩, fun c => absurd rfl c⟩
            rw [hP]; show ¬ (decide (1 ≤ k) && decide (invs (trw T k) (bn B) % 2 = 0)) = true
            rw [decide_eq_true hk1, decide_eq_false c]; decide
/-- rows are alike as numbers and as packed rows -/
theorem pak_num {n : Nat} {f g : Nat → Nat} (hn : n ≤ 8) (hf : Pm n f) (hg : Pm n g) : nI (pak f n) = nI (pak g n) ↔ nI (num n f) = nI (num n g) := by
  have h1 := num_lt hf
  have h2 := num_lt hg
  have h3 := fac_8 n (by omega)
  rw [pak_eq hn (pm8 hn hf) (pm8 hn hg), nI_eq (by omega) (by omega)]
  exact ⟨fun e => num_cong e, fun e => num_inj hn hf hg e⟩
theorem call_odds {o : Option (Tc × Pg)} (h : CB S x b m am im B) (hT : TC S x am im B o) (r c0 z0 : Int32) (hq : ∀ v s J, ThJ S x m am s v J (P_X12_odds m r c0 z0 (wA S (upI (gI S) x 0 s) J (gR S))) → Q1 v (upI (gI S) x 0 s) J) : P_X11_odds x r c0 z0 S Q1 := by
  have hn := h.n8
  have a0 : ∀ s, upI (gI S) x 0 s (am 0) = gI S (am 0) := fun s => up_ne (x_am h.x h.L 0)
  have isE : ∀ (w : Int32) (Q2 : Int32 → FI → (Nat → Nat → Int64) → Prop), w ≠ 0 → (∀ F' J', Kp tT m am (upI (gI S) x 0 w) F' → F' m 2 = w → F' (am 0) = gI S (am 0) → JE S x m (gJ S) J' → Q2 0 F' J') → P_X12_is m w (wA S (upI (gI S) x 0 w) (gJ S) (gR S)) (fun r F => (r = 0 ∨ r = 1) ∧ Q2 r F (gJ S)) := fun w Q2 hw h2 => ⟨h.L.z, fun F e => ⟨fun _ => ⟨Or.inl rfl, by rw [e]; exact h2 _ _ (Kp.fd 2) up_at (by rw [up_ne (h.L.o 0)]; exact a0 w) (Or.inl ⟨rfl, rfl⟩)⟩, fun c => absurd c hw⟩⟩
  have dn : ∀ w, (ThJ S x m am w 0 (gJ S) (P_X12_odds m r c0 z0 (wA S (upI (gI S) x 0 w) (gJ S) (gR S)))) → P_X11_deny x w S (fun r F => (r = 0 ∨ r = 1) ∧ Q1 r F (gJ S)) := fun w hw => ⟨h.x, fun F e => ⟨Or.inl rfl, by rw [e]; exact hq _ _ _ hw⟩⟩
  rcases nr_case 10000 (by decide) r with ⟨sd, hsd, rfl⟩ | hr
  · rcases nb_case 20 (by decide) c0 with ⟨c, hc, rfl⟩ | hc
    · have e1 : nI sd + nI (c + 1) - 1 = nI (sd + c) := by rw [nI_add, show sd + (c + 1) = sd + c + 1 from rfl, nI_pred]
      have c1 : ¬ nI (c + 1) < 1 := nI_nlt (b := 1) (by omega) (by omega)
      have c20 : ¬ (20 : Int32) < nI (c + 1) := nI_nlt (a := 20) (by omega) (by decide)
      have mC : ∀ {Q : Int32 → Prop}, Q 1 → P_X12_isFrom (nI (c + 1)).toInt64 1 20 Q := fun hq => by
        rw [nI_l (by omega)]
        exact mFy ((lN_le (a := 1) (by decide) (by omega)).mpr (by omega)) ((lN_le (b := 20) (by omega) (by decide)).mpr (by omega)) hq
      by_cases hs2 : sd + c < 10000
      · have m9 : ¬ (9999 : Int32) < nI (sd + c) := nI_nlt (a := 9999) (by omega) (by decide)
        rcases nr_case 17 (by decide) z0 with ⟨z, hz, rfl⟩ | hz
        · cases o with
          | none =>
            refine ⟨h.x, seedY hsd ⟨False, False.elim, fun c => absurd c one0, fun _ => ⟨fun c => absurd c c1, fun _ => ⟨fun c => absurd c c20, fun _ => ?_⟩⟩⟩⟩
            rw [e1]
            refine seedY hs2 ⟨fun c => absurd c one0, fun _ => ⟨fun c => absurd c (nI_pos (by omega)), fun _ => ⟨fun _ => ⟨fun c => absurd hT.1 c, fun _ => dn 6 (fun Q2 h2 => ?_)⟩, fun c => absurd (nI_le (b := 16) (by omega) (by decide)) c⟩⟩⟩
            have e4 : gI (wA S (upI (gI S) x 0 6) (gJ S) (gR S)) (am 0) 4 = -1 := by show upI (gI S) x 0 6 (am 0) 4 = _; rw [a0]; exact hT.2
            refine ⟨h.L.z, mIy (N := 9999) (by omega) (by decide) rfl ⟨False, False.elim, fun c => absurd c one0, fun _ => mC ⟨fun c => absurd c one0, fun _ => ?_⟩⟩⟩
            rw [e1]
            exact ⟨fun c => absurd c m9, fun _ => mIy (N := 16) (by omega) (by decide) rfl ⟨fun _ => ⟨am 0, h.L.r 0, h.L.k 0, h.L.i 0 (p := 4) (by decide), fun c => absurd e4 c, fun _ => isE 6 Q2 (by decide) h2⟩, fun c => absurd c one0⟩⟩
          | some TP =>
            obtain ⟨T, P⟩ := TP
            obtain ⟨hW, hT1, hT2, ⟨t, rt, tx⟩, hP, h5⟩ := hT
            have hK := hW.1
            have ht : tok (bn B) T := by rw [hT1]; exact pgT_ok h.o hW _
            have hN := ht.1
            have pT := trw_pm ht (tN T) (Nat.le_refl _)
            obtain ⟨U, hU⟩ : ∃ U : Nat → Bool, U = fun i => decide (nI (num (bn B) (rwl T (lst (some z) (sd + i)) (tN T))) = nI (num (bn B) (trw T (tN T)))) := ⟨_, rfl⟩
            have hUle := fb_ct_le U (c + 1)
            refine ⟨h.x, seedY hsd ⟨False, False.elim, fun c => absurd c one0, fun _ => ⟨fun c => absurd c c1, fun _ => ⟨fun c => absurd c c20, fun _ => ?_⟩⟩⟩⟩
            rw [e1]
            refine seedY hs2 ⟨fun c => absurd c one0, fun _ => ⟨fun c => absurd c (nI_pos (by omega)), fun _ => ⟨fun _ => ⟨fun _ => ⟨t, rt, tx.2.1, ?_⟩, fun c => absurd c (some_ne rt)⟩, fun c => absurd (nI_le (b := 16) (by omega) (by decide)) c⟩⟩⟩
            have tx' := tx
            obtain ⟨-, -, -, -, -, a6, r6, -, k6, l6, g6⟩ := tx'
            refine ⟨a6, r6, sp_last tx ⟨k6, by rw [l6]; exact vp_in_nI (by omega) (by omega), fun v18 e18 => ?_⟩⟩
            rw [nI_clamp (by omega), g6 (tN T) (by omega)] at e18
            subst e18
            refine ⟨fun u x5 x6 => ∃ i, i ≤ c + 1 ∧ u = c + 1 - i ∧ x5 = nI (fb_ct U i) ∧ x6 = nI i, ⟨c + 1, 0, by omega, rfl, rfl, rfl⟩, ?_⟩
            rintro u x5 x6 ⟨i, hi, rfl, rfl, rfl⟩
            refine ⟨fun hci => ?_, fun hci => ?_⟩
            · have e : i = c + 1 := by
                have : c + 1 ≤ i := (nI_leI (by omega) (by omega)).mp hci
                omega
              subst e
              refine sp_tellFraction h.x (by omega) (by omega) (by omega) ⟨h.x, fun F e => ⟨Or.inr rfl, ?_⟩⟩
              rw [e]
              refine hq _ _ _ (fun Q2 h2 => ?_)
              obtain ⟨J, hJ⟩ : ∃ J, J = upJ (upJ (gJ S) x 1 (frT (fb_ct U (c + 1)) (c + 1))) x 2 (frB (fb_ct U (c + 1)) (c + 1)) := ⟨_, rfl⟩
              rw [← hJ] at h2 ⊢
              have P1 : PMd P (upI (gI S) x 0 0 (am 0)) := by rw [a0]; exact hP
              have e4 : ¬ gI (wA S (upI (gI S) x 0 0) J (gR S)) (am 0) 4 = -1 := fun c => N_ne (show pgK P ≤ 2000 by omega) (P1.1.symm.trans c)
              refine ⟨h.L.z, mIy (N := 9999) (by omega) (by decide) rfl ⟨False, False.elim, fun c => absurd c one0, fun _ => mC ⟨fun c => absurd c one0, fun _ => ?_⟩⟩⟩
              rw [e1]
              refine ⟨fun c => absurd c m9, fun _ => mIy (N := 16) (by omega) (by decide) rfl ⟨fun _ => ⟨am 0, h.L.r 0, h.L.k 0, h.L.i 0 (p := 4) (by decide), fun _ => ?_, fun c => absurd c e4⟩, fun c => absurd c one0⟩⟩
              have L1 : LM (wA S (upI (gI S) x 0 0) J (gR S)) m am := h.L
              refine sm_ringsAll (sx := none) (to := false) (sd := 0) (B := B) (P := P) (T := T) (st := tS T) L1 h.o (h.M1 0) hW P1 hT1 (fun z e => by cases e) (fun F' rs e33 v15 e15 => ?_)
              have due : v15 = nI (num (bn B) (trw T (tN T))) := by
                rw [e15, e33]
                exact congrArg nI (congrArg (num (bn B)) (rwl_f T (tN T)))
              subst due
              have A0 : F' (am 0) = upI (gI S) x 0 0 (am 0) := funext fun k => rs.2.1 k (Or.inr rfl)
              refine ⟨fun u x5 x6 F => ∃ i, i ≤ c + 1 ∧ u = c + 1 - i ∧ x5 = nI (fb_ct U i) ∧ x6 = nI i ∧ Kp tT m am (upI (gI S) x 0 0) F ∧ F (am 0) = upI (gI S) x 0 0 (am 0), ⟨c + 1, 0, by omega, rfl, rfl, rfl, rs.1, A0⟩, ?_⟩
              rintro u x5 x6 F ⟨i, hi, rfl, rfl, rfl, kF, A0F⟩
              refine ⟨fun hci => ?_, fun hci => ?_⟩
              · have e : i = c + 1 := by
                  have : c + 1 ≤ i := (nI_leI (by omega) (by omega)).mp hci
                  omega
                subst e
                rw [nI_l (by omega), nI_l (by omega)]
                refine sm_tellsBy h.L.z (by omega) (by omega) (by omega) ⟨Or.inr rfl, ?_⟩
                exact h2 _ _ (kF.tr (Kp.fd 2)) up_at (by rw [up_ne (h.L.o 0)]; exact A0F.trans (a0 0)) (Or.inr ⟨_, _, hJ, rfl⟩)
              · have hlt := nI_gtI (by omega) (by omega) hci
                intro v22 e22 F23 e23
                rw [nI_add] at e22
                subst e22
                have o23 : F23 (am 0) = upI (gI S) x 0 0 (am 0) := by rw [e23, up_ne (h.L.o 0)]; exact A0F
                refine sm_ringsAll (S := wI (wA S (upI (gI S) x 0 0) J (gR S)) F23) (sx := some z) (to := false) (sd := sd + i) (B := B) (P := P) (T := T) (st := tS T) h.L h.o (by show BM B (F23 (am 0)); rw [o23]; exact h.M1 0) hW (by show PMd P (F23 (am 0)); rw [o23]; exact P1) hT1 (fun z' e => ⟨by cases e; omega, by omega, by show F23 m 31 = _; rw [e23, up_at]⟩) (fun F4 rs4 e4 => ?_)
                have k4 : Kp tT m am (upI (gI S) x 0 0) F4 := by
                  refine Kp.tr ?_ rs4.1
                  show Kp tT m am (upI (gI S) x 0 0) F23
                  rw [e23]
                  exact kF.tr (Kp.fd 31)
                have A4 : F4 (am 0) = upI (gI S) x 0 0 (am 0) := funext fun k => (rs4.2.1 k (Or.inr rfl)).trans (by show F23 (am 0) k = _; rw [o23])
                rw [e4]
                refine ⟨fun hne w1 e1 w2 e2 => ⟨c + 1 - (i + 1), by omega, i + 1, by omega, rfl, e1.trans (ct_no0 ?_), by rw [e2]; exact nI_1 i, k4, A4⟩, fun he w1 e1 w2 e2 => ⟨c + 1 - (i + 1), by omega, i + 1, by omega, rfl, e1.trans (ct_yes ?_), by rw [e2]; exact nI_1 i, k4, A4⟩⟩
                · rw [hU]; exact fun e => hne (of_decide_eq_true e)
                · rw [hU]; exact decide_eq_true he
            · have hlt := nI_gtI (by omega) (by omega) hci
              rw [nI_add]
              refine sp_strayedRow tx ht hn (by omega) (by omega) ?_
              rw [pak_num hn (rwl_pm ht _ (Nat.le_refl _)) pT]
              refine ⟨fun hne w1 e1 => ⟨c + 1 - (i + 1), by omega, i + 1, by omega, rfl, ct_no ?_, by rw [e1]; exact nI_1 i⟩, fun he w1 e1 w2 e2 => ⟨c + 1 - (i + 1), by omega, i + 1, by omega, rfl, e1.trans (ct_yes ?_), by rw [e2]; exact nI_1 i⟩⟩
              · rw [hU]; exact fun e => hne (of_decide_eq_true e)
              · rw [hU]; exact decide_eq_true he
        · have nz : ¬ z0 < 0 → ¬ z0 ≤ 16 := fun h0 c => absurd (fa_trans (nI_lt (a := 16) (b := 17) (by decide) (by decide)) (nr_ix (N := 17) (by decide) hz h0)) (fun c2 => by rw [fa_lt] at c2; have c' := (fa_le _ _).mp c; have : (nI 16).toInt = (16 : Int32).toInt := rfl; omega)
          refine ⟨h.x, seedY hsd ⟨True, fun _ => dn 1 (fun Q2 h2 => ?_), fun c => absurd c one0, fun _ => ⟨fun _ => trivial, fun _ => ⟨fun _ => trivial, fun _ => ?_⟩⟩⟩⟩
          · refine ⟨h.L.z, mIy (N := 9999) (by omega) (by decide) rfl ⟨True, fun _ => isE 1 Q2 (by decide) h2, fun _ => trivial, fun _ => mC ⟨fun _ => trivial, fun _ => ⟨fun _ => trivial, fun _ => mIn (N := 16) hz (by decide) rfl ⟨fun c => absurd rfl c, fun _ => trivial⟩⟩⟩⟩⟩
          · rw [e1]
            exact seedY hs2 ⟨fun _ => trivial, fun _ => ⟨fun _ => trivial, fun h0 => ⟨fun c => absurd c (nz h0), fun _ => trivial⟩⟩⟩
      · have m9 : (9999 : Int32) < nI (sd + c) := nI_lt (a := 9999) (by omega) (by omega)
        refine ⟨h.x, seedY hsd ⟨True, fun _ => dn 1 (fun Q2 h2 => ?_), fun c => absurd c one0, fun _ => ⟨fun _ => trivial, fun _ => ⟨fun _ => trivial, fun _ => ?_⟩⟩⟩⟩
        · refine ⟨h.L.z, mIy (N := 9999) (by omega) (by decide) rfl ⟨True, fun _ => isE 1 Q2 (by decide) h2, fun _ => trivial, fun _ => mC ⟨fun _ => trivial, fun _ => ?_⟩⟩⟩
          rw [e1]
          exact ⟨fun _ => trivial, fun c => absurd m9 c⟩
        · rw [e1]
          exact ⟨fun c => absurd c (nI_pos (by omega)), fun _ => ⟨fun _ => ⟨fun _ => trivial, fun c => absurd rfl c⟩, fun c => absurd m9 c⟩⟩
    · have nc : ¬ c0 < 1 → 20 < c0 := fun h0 => nb_ix (N := 20) (by decide) hc h0
      refine ⟨h.x, seedY hsd ⟨True, fun _ => dn 1 (fun Q2 h2 => ?_), fun c => absurd c one0, fun _ => ⟨fun _ => trivial, fun h0 => ⟨fun _ => trivial, fun c => absurd (nc h0) c⟩⟩⟩⟩
      refine ⟨h.L.z, mIy (N := 9999) (by omega) (by decide) rfl ⟨True, fun _ => isE 1 Q2 (by decide) h2, fun _ => trivial, fun _ => mFn (fun ⟨h1, h2⟩ => ?_) ⟨fun _ => trivial, fun c => absurd rfl c⟩⟩⟩
      rw [show (1 : Int64) = (1 : Int32).toInt64 from rfl, fa_wide_le] at h1
      rw [show (20 : Int64) = (20 : Int32).toInt64 from rfl, fa_wide_le] at h2
      have h0 : ¬ c0 < 1 := fun c => by rw [fa_le] at h1; rw [fa_lt] at c; omega
      have := nc h0
      rw [fa_lt] at this; rw [fa_le] at h2; omega
  · refine ⟨h.x, seedN hr ⟨True, fun _ => dn 1 (fun Q2 h2 => ?_), fun _ => trivial, fun c => absurd rfl c⟩⟩
    exact ⟨h.L.z, mIn (N := 9999) hr (by decide) rfl ⟨True, fun _ => isE 1 Q2 (by decide) h2, fun _ => trivial, fun c => absurd rfl c⟩⟩
end CJ
