/-! More calls that ask of what is rung. -/
/-- the bell that is heard k-th in a row -/
theorem sp_heardBell {T : Tc} {n t i : Nat} {rr : Nat → Bool} {k0 : Int32} {im : Nat → Prop} {S : St} {Q : Int32 → Prop} (h : TX T n im S t) (ht : tok n T) (hn : n ≤ 8) (hi : i ≤ tN T)
    (hq : ∀ p, p < n → rr (trw T i p) = true → nI (fb_ct (fun q => rr (trw T i q)) p) = k0 → Q (nI (trw T i p)))
    (hq2 : (∀ p, p < n → rr (trw T i p) = true → ¬ nI (fb_ct (fun q => rr (trw T i q)) p) = k0) → Q (-1)) : P_X8_heardBell t (nI i) k0 (msk (fun p => !rr p) n) S Q := by
  obtain ⟨-, h2, h3, -, -, a, r, -, ka, l, gg⟩ := h
  have hN := ht.1
  have hp := trw_pm ht i hi
  refine ⟨h2, fun u x4 x5 => ∃ p, p ≤ n ∧ u = n - p ∧ x4 = nI (fb_ct (fun q => rr (trw T i q)) p) ∧ x5 = nI p ∧ ∀ p', p' < p → rr (trw T i p') = true → ¬ nI (fb_ct (fun q => rr (trw T i q)) p') = k0, ⟨n, 0, by omega, rfl, rfl, rfl, fun p' h' => by omega⟩, ?_⟩
  rintro u x4 x5 ⟨p, hpn, rfl, rfl, rfl, hno⟩
  rw [h3]
  refine ⟨fun hc => ?_, fun hc => ?_⟩
  · have : n ≤ p := (nI_leI (by omega) (by omega)).mp hc
    exact hq2 (fun p' h1 => hno p' (by omega))
  · have hlt := nI_gtI (by omega) (by omega) hc
    have hb := hp.1 p hlt
    refine ⟨a, r, ka, by rw [l]; exact vp_in_nI (by omega) (by omega), ?_⟩
    rw [nI_clamp (by omega), gg i (by omega)]
    refine sp_bellAt hn (pm8 hn hp) hlt ?_
    rw [tb1 (by omega), msk_bt _ _ (by omega), decide_eq_true hb, Bool.true_and]
    have ext : (∀ p', p' < p + 1 → rr (trw T i p') = true → ¬ nI (fb_ct (fun q => rr (trw T i q)) p') = k0) ↔ (rr (trw T i p) = true → ¬ nI (fb_ct (fun q => rr (trw T i q)) p) = k0) := ⟨fun hh => hh p (by omega), fun hh p' h1 => by
      by_cases c : p' = p
      · subst c; exact hh
      · exact hno p' (by omega)⟩
    cases hrr : rr (trw T i p) with
    | false =>
      refine ⟨fun _ w e => ⟨n - (p + 1), by omega, p + 1, by omega, rfl, ?_, by rw [e]; exact nI_1 p, ext.mpr (fun c => by rw [hrr] at c; cases c)⟩, fun c => by cases c⟩
      exact ct_no (P := fun q => rr (trw T i q)) (by rw [hrr]; decide)
    | true =>
      refine ⟨fun c => absurd rfl c, fun _ => ⟨fun hne w1 e1 w2 e2 => ⟨n - (p + 1), by omega, p + 1, by omega, rfl, by rw [e1]; exact ct_yes (P := fun q => rr (trw T i q)) hrr, by rw [e2]; exact nI_1 p, ext.mpr (fun _ => hne)⟩, fun he => hq p hlt hrr he⟩⟩
theorem ct_ext (P : Nat → Bool) {k : Nat} (h : P k = true) : ∀ j, P j = true → nI (fb_ct P j) = nI (fb_ct P k) → j < 2 ^ 30 → k < 2 ^ 30 → j = k := fun j hj e h1 h2 => by
  have l1 := fb_ct_le P j
  have l2 := fb_ct_le P k
  exact fb_ct_kth_one hj h ((nI_eq (by omega) (by omega)).mp e)
section CT3
variable {S : St} {x b m : Nat} {am : Nat → Nat} {im : Nat → Prop} {B : Bk} {o : Option Tc} {Q1 : Int32 → FI → Prop}
theorem call_heard (h : CB S x b m am im B) (hr : RC S x am im (bn B) o) (r k0 : Int32) (hq : ∀ v F, Th S x m am v (P_X12_heard m r k0 (wI S F)) → Q1 v F) : P_X11_heard x r k0 S Q1 := by
  have L1 : ∀ s, LM (wI S (upI (gI S) x 0 s)) m am := fun _ => h.L
  have hn := h.n8
  by_cases c0 : r < 0
  · have c1 : ¬ 0 ≤ r := fun c => by rw [fa_le] at c; rw [fa_lt] at c0; omega
    refine ⟨h.x, ⟨h.x, fun c => absurd c c1, fun _ => ⟨fun c => absurd c one0, fun _ => rf h.x (hq _ _ (fun Q2 h2 => ?_))⟩⟩⟩
    exact ⟨h.L.z, True, fun _ => rfm h.L.z Kp.rf h2, fun _ => trivial, fun c => absurd c0 c⟩
  · have c1 : (0 : Int32) ≤ r := fa_of_nlt c0
    obtain ⟨k, hk, rfl⟩ := nI_of c0
    cases o with
    | none =>
      refine ⟨h.x, ⟨h.x, fun _ => ⟨fun c => absurd hr.1 c, fun _ => ⟨fun c => absurd c (by decide), fun _ => rf h.x (hq _ _ (fun Q2 h2 => ?_))⟩⟩, fun c => absurd c1 c⟩⟩
      have h6 := (RC.n (s := 6) h hr).2
      exact ⟨h.L.z, False, False.elim, fun c => absurd c c0, fun _ => ⟨am 0, h.L.r 0, h.L.k 0, h.L.i 0 (p := 6) (by decide), True, fun _ => ⟨fun c => absurd h6 c, fun _ => rfm h.L.z Kp.rf h2⟩, fun _ => trivial, fun c => absurd h6 c⟩⟩
    | some T =>
      have hr' := hr
      obtain ⟨ht, t, rt, tx, -⟩ := hr'
      have hN := ht.1
      have h6 := fun s => RC.s h hr s
      have k8 := tx.2.1
      by_cases hkN : k ≤ tN T
      · have hp := trw_pm ht k hkN
        refine ⟨h.x, ⟨h.x, fun _ => ⟨fun _ => ⟨t, rt, k8, sp_last tx ⟨fun hc => ⟨fun _ => ⟨t, rt, b, h.b, h.k, k8, ?_⟩, fun c => absurd rfl c⟩, fun hc => absurd (nI_le hkN (by omega)) hc⟩⟩, fun c => absurd c (some_ne rt)⟩, fun c => absurd c1 c⟩⟩
        have hmod : ∀ (s : Int32) (Q2 : Int32 → FI → Prop), (∀ p, p < bn B → brr B (trw T k p) = true → nI (fb_ct (fun q => brr B (trw T k q)) p) = k0 → ∀ F, Kp tQ m am (upI (gI S) x 0 s) F → P_X12_gives m (nI (trw T k p) + 1) (wI S F) Q2) → ((∀ p, p < bn B → brr B (trw T k p) = true → ¬ nI (fb_ct (fun q => brr B (trw T k q)) p) = k0) → ∀ F, Kp tQ m am (upI (gI S) x 0 s) F → P_X12_refuse m 6 (wI S F) Q2) → P_X12_heard m (nI k) k0 (wI S (upI (gI S) x 0 s)) Q2 := by
          intro s Q2 g1 g2
          have e6 : gI (wI S (upI (gI S) x 0 s)) (am 0) 6 = nI (tN T) := (h6 s).1
          refine ⟨h.L.z, False, False.elim, fun c => absurd c c0, fun _ => ⟨am 0, h.L.r 0, h.L.k 0, h.L.i 0 (p := 6) (by decide), True, fun _ => ⟨fun _ => ?_, fun c => absurd (e6.symm.trans c) (N_ne hN)⟩, fun _ => trivial, fun _ => ⟨fun _ => trivial, fun c => absurd (by rw [e6]; exact nI_le hkN (by omega)) c⟩⟩⟩
          rw [ix410]
          refine ⟨h.L.i 0 (by show 410 + k < 12100; omega), am 24, h.L.r 24, ?_⟩
          rw [nI_clamp (by omega)]
          show P_X12_laysRow m (upI (gI S) x 0 s (am 0) (410 + k)) _ _ _
          rw [(h6 s).2 k hkN]
          refine sm_laysRow (L1 s) hn h.n1 (h.M1 s).1 (num_lt hp) (h.L.k 24) (h.L.l 24) (fun F o' r' => ?_)
          have kk : Kp tQ m am (upI (gI S) x 0 s) F := Kp.on h.L 24 o'
          have B2 := (h.M1 s).kp h.L kk
          refine ⟨fun u x4 x5 => ∃ p, p ≤ bn B ∧ u = bn B - p ∧ x4 = nI (fb_ct (fun q => brr B (trw T k q)) p) ∧ x5 = nI p ∧ ∀ p', p' < p → brr B (trw T k p') = true → ¬ nI (fb_ct (fun q => brr B (trw T k q)) p') = k0, ⟨bn B, 0, by omega, rfl, rfl, rfl, fun p' h' => by omega⟩, ?_⟩
          rintro u x4 x5 ⟨p, hpn, rfl, rfl, rfl, hno⟩
          refine ⟨h.L.i 0 (p := 0) (by decide), ?_⟩
          rw [B2.1]
          refine ⟨fun hc => ?_, fun hc => ?_⟩
          · have : bn B ≤ p := (nI_leI (by omega) (by omega)).mp hc
            exact g2 (fun p' h1 => hno p' (by omega)) F kk
          · have hlt := nI_gtI (by omega) (by omega) hc
            have hb := hp.1 p hlt
            refine ⟨h.L.i 0 (p := 3) (by decide), h.L.k 24, h.L.i 24 (by show p < 8; omega), ?_⟩
            rw [nI_clamp (by omega), r' p hlt, lay_num hn hp p hlt, B2.2.2.1, tb2z (by omega), msk_bt _ _ (by omega), decide_eq_true hb, Bool.true_and]
            have ext : (∀ p', p' < p + 1 → brr B (trw T k p') = true → ¬ nI (fb_ct (fun q => brr B (trw T k q)) p') = k0) ↔ (brr B (trw T k p) = true → ¬ nI (fb_ct (fun q => brr B (trw T k q)) p) = k0) := ⟨fun hh => hh p (by omega), fun hh p' h1 => by
              by_cases c : p' = p
              · subst c; exact hh
              · exact hno p' (by omega)⟩
            cases hrr : brr B (trw T k p) with
            | false =>
              refine ⟨fun c => absurd rfl c, fun _ w e => ⟨bn B - (p + 1), by omega, p + 1, by omega, rfl, ?_, by rw [e]; exact nI_1 p, ext.mpr (fun c => by rw [hrr] at c; cases c)⟩⟩
              exact ct_no (P := fun q => brr B (trw T k q)) (by rw [hrr]; decide)
            | true =>
              exact ⟨fun _ => ⟨fun hne w1 e1 w2 e2 => ⟨bn B - (p + 1), by omega, p + 1, by omega, rfl, by rw [e1]; exact ct_yes (P := fun q => brr B (trw T k q)) hrr, by rw [e2]; exact nI_1 p, ext.mpr (fun _ => hne)⟩, fun he => g1 p hlt hrr he F kk⟩, fun c => by cases c⟩
        rw [h.B.2.2.2.2.1]
        refine sp_heardBell (rr := brr B) tx ht hn hkN (fun p hpn hrr he => ⟨fun _ => an h.x (hq _ _ (fun Q2 h2 => hmod 0 Q2 (fun p2 hp2 hrr2 he2 F kk => ?_) (fun hno => absurd he (hno p hpn hrr)))), fun c => ?_⟩) (fun hno => ⟨fun c => absurd rfl c, fun _ => rf h.x (hq _ _ (fun Q2 h2 => hmod 6 Q2 (fun p2 hp2 hrr2 he2 => absurd he2 (hno p2 hp2 hrr2)) (fun _ F kk => rfm h.L.z kk h2)))⟩)
        · have e := ct_ext (fun q => brr B (trw T k q)) hrr p2 hrr2 (he2.trans he.symm) (by omega) (by omega)
          subst e
          exact gvm h.L.z kk h2
        · have := hp.1 p hpn
          exact absurd c (N_ne (by omega))
      · refine ⟨h.x, ⟨h.x, fun _ => ⟨fun _ => ⟨t, rt, k8, sp_last tx ⟨fun hc => absurd ((nI_leI (by omega) (by omega)).mp hc) hkN, fun hc => ⟨fun c => absurd c one0, fun _ => rf h.x (hq _ _ (fun Q2 h2 => ?_))⟩⟩⟩, fun c => absurd c (some_ne rt)⟩, fun c => absurd c1 c⟩⟩
        have e6 : gI (wI S (upI (gI S) x 0 1)) (am 0) 6 = nI (tN T) := (h6 1).1
        exact ⟨h.L.z, True, fun _ => rfm h.L.z Kp.rf h2, fun _ => trivial, fun _ => ⟨am 0, h.L.r 0, h.L.k 0, h.L.i 0 (p := 6) (by decide), False, False.elim, fun c => absurd (e6.symm.trans c) (N_ne hN), fun _ => ⟨fun c => absurd (by rw [← e6]; exact c) hc, fun _ => trivial⟩⟩⟩
theorem call_backward (h : CB S x b m am im B) (hr : RC S x am im (bn B) o) (hq : ∀ v F, Th S x m am v (P_X12_backward m (wI S F)) → Q1 v F) : P_X11_backward x S Q1 := by
  have L1 : ∀ s, LM (wI S (upI (gI S) x 0 s)) m am := fun _ => h.L
  have hn := h.n8
  cases o with
  | none =>
    refine ⟨h.x, fun c => absurd hr.1 c, fun _ => rf h.x (hq _ _ (fun Q2 h2 => ?_))⟩
    have h6 := (RC.n (s := 6) h hr).2
    exact ⟨h.L.z, am 0, h.L.r 0, h.L.k 0, h.L.i 0 (p := 6) (by decide), fun c => absurd h6 c, fun _ => rfm h.L.z Kp.rf h2⟩
  | some T =>
    have hr' := hr
    obtain ⟨ht, t, rt, tx, -⟩ := hr'
    have hN := ht.1
    have h6 := RC.s h hr 0
    have k8 := tx.2.1
    have hmod : ∀ (Q2 : Int32 → FI → Prop), ((∀ k, k < tN T → msk (stf (tv T k)) (bn B) = msk (stf (tv T (tN T - 1 - k))) (bn B)) → ∀ F, Kp tQ m am (upI (gI S) x 0 0) F → P_X12_gives m 1 (wI S F) Q2) → (¬ (∀ k, k < tN T → msk (stf (tv T k)) (bn B) = msk (stf (tv T (tN T - 1 - k))) (bn B)) → ∀ F, Kp tQ m am (upI (gI S) x 0 0) F → P_X12_gives m 0 (wI S F) Q2) → P_X12_backward m (wI S (upI (gI S) x 0 0)) Q2 := by
      intro Q2 g1 g2
      have e6 : gI (wI S (upI (gI S) x 0 0)) (am 0) 6 = nI (tN T) := h6.1
      refine ⟨h.L.z, am 0, h.L.r 0, h.L.k 0, h.L.i 0 (p := 6) (by decide), fun _ => ?_, fun c => absurd (e6.symm.trans c) (N_ne hN)⟩
      refine ⟨fun u x1 F => ∃ k, k ≤ tN T ∧ u = tN T - k ∧ x1 = nI k ∧ Kp tQ m am (upI (gI S) x 0 0) F ∧ ∀ j, j < k → msk (stf (tv T j)) (bn B) = msk (stf (tv T (tN T - 1 - j))) (bn B), ⟨tN T, 0, by omega, rfl, rfl, Kp.rf, fun j hj => by omega⟩, ?_⟩
      rintro u x1 F ⟨k, hk, rfl, rfl, kk, hj⟩
      have L2 : LM (wI S F) m am := h.L
      have B2 := (h.M1 0).kp h.L kk
      have T2 : TM T (bn B) (F (am 0)) := h6.kp h.L kk
      rw [T2.1]
      refine ⟨fun hc => ?_, fun hc => ?_⟩
      · have : tN T ≤ k := (nI_leI (by omega) (by omega)).mp hc
        exact g1 (fun j hjN => hj j (by omega)) F kk
      · have hlt := nI_gtI (by omega) (by omega) hc
        rw [ix410, nI_1]
        refine ⟨h.L.i 0 (by show 410 + k < 12100; omega), h.L.i 0 (by show 410 + k + 1 < 12100; omega), ?_⟩
        rw [nI_clamp (by omega), nI_clamp (by omega), T2.2 k (by omega), show 410 + k + 1 = 410 + (k + 1) from rfl, T2.2 (k + 1) (by omega)]
        refine sm_staysIn L2 hn h.n1 B2.1 (num_lt (trw_pm ht k (by omega))) (num_lt (trw_pm ht (k + 1) (by omega))) (fun F3 k3 _ => ?_)
        have kk3 : Kp tQ m am (upI (gI S) x 0 0) F3 := kk.tr k3
        have L3 : LM (wI S F3) m am := h.L
        have B3 := (h.M1 0).kp h.L kk3
        have T3 : TM T (bn B) (F3 (am 0)) := h6.kp h.L kk3
        rw [stays_tv hn ht hlt, T3.1]
        have i1 : (410 : Int32) + nI (tN T) - nI k = nI (410 + (tN T - 1 - k + 1)) := by
          rw [ix410, le_sub1 (by omega), show 410 + tN T - k = 410 + (tN T - 1 - k + 1) by omega]
        have i2 : nI (410 + (tN T - 1 - k + 1)) - 1 = nI (410 + (tN T - 1 - k)) := by
          rw [sub1 (a := 410 + (tN T - 1 - k + 1)) (by omega)]; rfl
        rw [i1, i2]
        refine ⟨h.L.i 0 (by show 410 + (tN T - 1 - k) < 12100; omega), h.L.i 0 (by show 410 + (tN T - 1 - k + 1) < 12100; omega), ?_⟩
        rw [nI_clamp (by omega), nI_clamp (by omega), T3.2 (tN T - 1 - k) (by omega), T3.2 (tN T - 1 - k + 1) (by omega)]
        refine sm_staysIn L3 hn h.n1 B3.1 (num_lt (trw_pm ht _ (by omega))) (num_lt (trw_pm ht _ (by omega))) (fun F4 k4 _ => ?_)
        have kk4 : Kp tQ m am (upI (gI S) x 0 0) F4 := kk3.tr k4
        rw [stays_tv hn ht (by omega)]
        refine ⟨fun he v ev => ⟨tN T - (k + 1), by omega, k + 1, by omega, rfl, by rw [ev]; exact nI_1 k, kk4, fun j hjk => ?_⟩, fun hne => g2 (fun hh => hne (hh k hlt)) F4 kk4⟩
        by_cases c : j = k
        · subst c; exact he
        · exact hj j (by omega)
    have tx' := tx
    obtain ⟨-, -, -, -, ⟨a4, r4, -, k4, l4, g4⟩, -⟩ := tx'
    have hiff : (∀ k, k < tN T → nI (pak (mvf (tv T k)) (bn B)) = nI (pak (mvf (tv T (tN T - 1 - k))) (bn B))) ↔ ∀ k, k < tN T → msk (stf (tv T k)) (bn B) = msk (stf (tv T (tN T - 1 - k))) (bn B) :=
      ⟨fun hh k hk => (mv_st hn (ht.2 k hk) (ht.2 _ (by omega))).mp (hh k hk), fun hh k hk => (mv_st hn (ht.2 k hk) (ht.2 _ (by omega))).mpr (hh k hk)⟩
    refine ⟨h.x, fun _ => ⟨t, rt, k8, a4, r4, k4, ?_⟩, fun c => absurd c (some_ne rt)⟩
    rw [l4]
    refine sp_readsBackward (f := fun k => nI (pak (mvf (tv T k)) (bn B))) k4 (by rw [l4]; omega) (by rw [l4]; omega) (fun k hk => g4 k hk) (fun hE => ⟨fun t => t = 1, ?_, fun c => absurd c one0, fun _ => rfl⟩) (fun hE => ⟨fun t => t = 0, ?_, fun _ => rfl, fun c => absurd rfl c⟩)
    · rintro _ rfl
      exact an h.x (hq _ _ (fun Q2 h2 => hmod Q2 (fun _ F kk => gvm h.L.z kk h2) (fun hE2 => absurd (hiff.mp hE) hE2)))
    · rintro _ rfl
      exact an h.x (hq _ _ (fun Q2 h2 => hmod Q2 (fun hE2 => absurd (hiff.mpr hE2) hE) (fun _ F kk => gvm h.L.z kk h2)))
theorem call_runs (h : CB S x b m am im B) (hr : RC S x am im (bn B) o) (w0 : Int32) (hq : ∀ v F, Th S x m am v (P_X12_runs m w0 (wI S F)) → Q1 v F) : P_X11_runs x w0 S Q1 := by
  have L1 : ∀ s, LM (wI S (upI (gI S) x 0 s)) m am := fun _ => h.L
  have hn := h.n8
  have hs : ∀ s, gI (wI S (upI (gI S) x 0 s)) (am 0) 0 = nI (bn B) := fun s => (h.M1 s).1
  by_cases c3 : w0 < 3
  · refine ⟨h.x, True, fun _ => rf h.x (hq _ _ (fun Q2 h2 => ?_)), fun _ => trivial, fun c => absurd c3 c⟩
    exact ⟨h.L.z, True, fun _ => rfm h.L.z Kp.rf h2, fun _ => trivial, fun c => absurd c3 c⟩
  · by_cases c4 : w0 ≤ nI (bn B)
    · have c0 : ¬ w0 < 0 := fun c => c3 (by rw [fa_lt] at c ⊢; have e0 : (0 : Int32).toInt = 0 := rfl; have e1 : (3 : Int32).toInt = 3 := rfl; omega)
      obtain ⟨w, hw, rfl⟩ := nI_of c0
      have hwn : w ≤ bn B := (nI_leI (by omega) (by omega)).mp c4
      have hw3 : 3 ≤ w := by
        rcases Nat.lt_or_ge w 3 with c | c
        · exact absurd (nI_lt (b := 3) c (by decide)) c3
        · exact c
      cases o with
      | none =>
        refine ⟨h.x, False, False.elim, fun c => absurd c c3, fun _ => ⟨b, h.b, h.k, ?_⟩⟩
        rw [h.s]
        refine ⟨fun _ => ⟨fun c => absurd hr.1 c, fun _ => rf h.x (hq _ _ (fun Q2 h2 => ?_))⟩, fun c => absurd c4 c⟩
        have h6 := (RC.n (s := 6) h hr).2
        refine ⟨h.L.z, False, False.elim, fun c => absurd c c3, fun _ => ⟨am 0, h.L.r 0, h.L.k 0, h.L.i 0 (p := 0) (by decide), ?_⟩⟩
        rw [hs]
        exact ⟨fun _ => ⟨h.L.i 0 (p := 6) (by decide), fun c => absurd h6 c, fun _ => rfm h.L.z Kp.rf h2⟩, fun c => absurd c4 c⟩
      | some T =>
        have hr' := hr
        obtain ⟨ht, t, rt, tx, -⟩ := hr'
        have hN := ht.1
        have h6 := RC.s h hr 0
        have k8 := tx.2.1
        refine ⟨h.x, False, False.elim, fun c => absurd c c3, fun _ => ⟨b, h.b, h.k, ?_⟩⟩
        rw [h.s]
        refine ⟨fun _ => ⟨fun _ => ⟨t, rt, k8, sp_runsOf tx ht hn h.n1 hwn (by omega) (an h.x (hq _ _ (fun Q2 h2 => ?_)))⟩, fun c => absurd c (some_ne rt)⟩, fun c => absurd c4 c⟩
        have e6 : gI (wI S (upI (gI S) x 0 0)) (am 0) 6 = nI (tN T) := h6.1
        refine ⟨h.L.z, False, False.elim, fun c => absurd c c3, fun _ => ⟨am 0, h.L.r 0, h.L.k 0, h.L.i 0 (p := 0) (by decide), ?_⟩⟩
        rw [hs]
        refine ⟨fun _ => ⟨h.L.i 0 (p := 6) (by decide), fun _ => ?_, fun c => absurd (e6.symm.trans c) (N_ne hN)⟩, fun c => absurd c4 c⟩
        refine ⟨fun v x3 x4 F => ∃ k, 1 ≤ k ∧ k ≤ tN T + 1 ∧ v = tN T + 1 - k ∧ x3 = nI (rnS T (bn B) w k) ∧ x4 = nI k ∧ Kp tQ m am (upI (gI S) x 0 0) F, ⟨tN T, 1, by omega, by omega, rfl, rfl, rfl, Kp.rf⟩, ?_⟩
        rintro v x3 x4 F ⟨k, hk1, hk, rfl, rfl, rfl, kk⟩
        have L2 : LM (wI S F) m am := h.L
        have B2 := (h.M1 0).kp h.L kk
        have T2 : TM T (bn B) (F (am 0)) := h6.kp h.L kk
        rw [T2.1]
        refine ⟨fun hc => ?_, fun hc => ?_⟩
        · have : tN T + 1 = k := by
            rcases Nat.lt_or_ge (tN T) k with c | c
            · omega
            · exact absurd hc (nI_nlt c (by omega))
          subst this
          exact gvm h.L.z kk h2
        · have hlt : k ≤ tN T := by
            rcases Nat.lt_or_ge (tN T) k with c | c
            · exact absurd (nI_lt c (by omega)) hc
            · exact c
          have hp := trw_pm ht k hlt
          rw [ix410]
          refine ⟨h.L.i 0 (by show 410 + k < 12100; omega), am 24, h.L.r 24, ?_⟩
          rw [nI_clamp (by omega), T2.2 k hlt]
          refine sm_laysRow L2 hn h.n1 B2.1 (num_lt hp) (h.L.k 24) (h.L.l 24) (fun F3 o3 r3 => ?_)
          have kk3 : Kp tQ m am (upI (gI S) x 0 0) F3 := kk.tr (Kp.on h.L 24 o3)
          have L3 : LM (wI S F3) m am := h.L
          have B3 := (h.M1 0).kp h.L kk3
          have r3' : Rw F3 (am 24) (bn B) (trw T k) := fun p hp' => by rw [r3 p hp', lay_num hn hp p hp']
          refine ⟨fun v y2 y4 => ∃ p, p ≤ bn B - w + 1 ∧ v = bn B - w + 1 - p ∧ y2 = nI (rnS T (bn B) w k + fb_ct (fun p => rnP (trw T k) w (w - 1 + p)) p) ∧ y4 = nI p, ⟨bn B - w + 1, 0, by omega, rfl, rfl, rfl⟩, ?_⟩
          rintro v y2 y4 ⟨p, hpn, rfl, rfl, rfl⟩
          rw [B3.1, nI_add]
          refine ⟨fun hc2 w1 e1 => ?_, fun hc2 => ?_⟩
          · have : bn B - w + 1 = p := by
              rcases Nat.lt_or_ge (bn B) (p + w) with c | c
              · omega
              · exact absurd hc2 (nI_nlt c (by omega))
            subst this
            refine ⟨tN T + 1 - (k + 1), by omega, k + 1, by omega, by omega, rfl, ?_, by rw [e1]; exact nI_1 k, kk3⟩
            rw [rnS_s T _ w hk1, rn_split (by omega) hwn]
          · have hpw : p + w ≤ bn B := by
              rcases Nat.lt_or_ge (bn B) (p + w) with c | c
              · exact absurd (nI_lt c (by omega)) hc2
              · exact c
            have yes : rnP (trw T k) w (w - 1 + p) = true → ∀ v, v = nI (rnS T (bn B) w k + fb_ct (fun p => rnP (trw T k) w (w - 1 + p)) p) + 1 → v = nI (rnS T (bn B) w k + fb_ct (fun p => rnP (trw T k) w (w - 1 + p)) (p + 1)) := fun hh v e => by
              rw [e]; exact ct2_yes (P := fun p => rnP (trw T k) w (w - 1 + p)) hh
            refine sm_isRunU L3 hn (pm8 hn hp) r3' (by omega) hpw (fun hu => ⟨fun _ w1 e1 w2 e2 => ⟨bn B - w + 1 - (p + 1), by omega, p + 1, by omega, rfl, yes (by unfold rnP; rw [decide_eq_true hu]; rfl) w1 e1, by rw [e2]; exact nI_1 p⟩, fun c => absurd c one0⟩) (fun hu => ⟨fun c => absurd rfl c, fun _ => ?_⟩)
            refine sm_isRunD L3 hn (pm8 hn hp) r3' (by omega) hpw (fun hd => ⟨fun c => absurd c one0, fun _ w1 e1 w2 e2 => ⟨bn B - w + 1 - (p + 1), by omega, p + 1, by omega, rfl, yes (by unfold rnP; rw [decide_eq_true hd, Bool.or_true]) w1 e1, by rw [e2]; exact nI_1 p⟩⟩) (fun hd => ⟨fun _ w1 e1 w2 e2 => ⟨bn B - w + 1 - (p + 1), by omega, p + 1, by omega, rfl, ?_, by rw [e2]; exact nI_1 p⟩, fun c => absurd rfl c⟩)
            rw [e1]; exact ct2_no0 (P := fun p => rnP (trw T k) w (w - 1 + p)) (by unfold rnP; rw [decide_eq_false hu, decide_eq_false hd]; decide)
    · refine ⟨h.x, True, fun _ => rf h.x (hq _ _ (fun Q2 h2 => ?_)), fun _ => trivial, fun _ => ⟨b, h.b, h.k, ?_⟩⟩
      · refine ⟨h.L.z, True, fun _ => rfm h.L.z Kp.rf h2, fun _ => trivial, fun _ => ⟨am 0, h.L.r 0, h.L.k 0, h.L.i 0 (p := 0) (by decide), ?_⟩⟩
        rw [hs]
        exact ⟨fun c => absurd c c4, fun _ => trivial⟩
      · rw [h.s]
        exact ⟨fun c => absurd c c4, fun _ => trivial⟩
end CT3
