/-! Music, and the tape. -/
def fts (g f : Nat → Nat) (n : Nat) : Bool := decide (∀ p, p < n → g p = 0 ∨ g p = f p + 1)
section MU
variable {S : St} {x b m tr : Nat} {am tq ta : Nat → Nat} {im : Nat → Prop} {B : Bk} {Y : Nat → Yt} {o : Option Tc}
theorem sm_music {i s0 nt : Nat} {s : Int32} {v : Nat → Int64} {Q : Int32 → FI → Prop} (h : CB S x b m am im B) (hY : TrX S x tr tq ta am Y) (hr : RC S x am im (bn B) o) (hi : i < 4) (hy : Y i = some (s0, nt, v))
    (hq3 : nt < bn B → P_X12_refuse m 3 (wI S (upI (gI S) x 0 s)) Q) (hq5 : bn B ≤ nt → ¬ Rg v 0 (bn B) → P_X12_refuse m 5 (wI S (upI (gI S) x 0 s)) Q)
    (hq6 : bn B ≤ nt → Rg v 0 (bn B) → o = none → P_X12_refuse m 6 (wI S (upI (gI S) x 0 s)) Q)
    (hq : ∀ T, bn B ≤ nt → Rg v 0 (bn B) → o = some T → ∀ F, Kp tQ m am (upI (gI S) x 0 s) F → P_X12_gives m (nI (fb_ct (fun k => decide (1 ≤ k) && fts (gv v) (trw T k) (bn B)) (tN T + 1))) (wI S F) Q) : P_X12_music m (nI i) (wI S (upI (gI S) x 0 s)) Q := by
  have hn := h.n8
  have hyi := hY.2.2.2 i hi
  rw [hy] at hyi
  obtain ⟨g1, g2, g3, g4, g5, g6, g7, g8, g9, g10, g11⟩ := hyi
  have e6 : upI (gI S) x 0 s (am 6) i = nI nt := by rw [up_ne (x_am h.x h.L 6)]; exact g10
  refine ⟨h.L.z, mTy hi ⟨fun _ => ⟨am 6, h.L.r 6, h.L.k 6, h.L.i 6 (by show i < 4; omega), ?_⟩, fun c => absurd c one0⟩⟩
  rw [nI_clamp (by omega)]
  show (¬ upI (gI S) x 0 s (am 6) i = -1 → _) ∧ (upI (gI S) x 0 s (am 6) i = -1 → _)
  rw [e6]
  refine ⟨fun _ => ⟨am 0, h.L.r 0, h.L.k 0, h.L.i 0 (p := 0) (by decide), ?_⟩, fun c => absurd c (N_ne (by omega))⟩
  have es : gI (wI S (upI (gI S) x 0 s)) (am 0) 0 = nI (bn B) := (h.M1 s).1
  have es6 : gI (wI S (upI (gI S) x 0 s)) (am 6) i = nI nt := e6
  rw [es, es6, nI_leI (by omega) (by omega)]
  refine ⟨fun hnt => ?_, fun c => hq3 (by omega)⟩
  refine ⟨fun u x2 => ∃ p, p ≤ bn B ∧ u = bn B - p ∧ x2 = nI p ∧ (∀ q, q < p → lN 0 ≤ v q ∧ v q ≤ lN (bn B)), ⟨bn B, 0, by omega, rfl, rfl, fun q hq => by omega⟩, ?_⟩
  rintro u x2 ⟨p, hp, rfl, rfl, hrg⟩
  refine ⟨fun hc => ⟨h.L.i 0 (p := 6) (by decide), ?_⟩, fun hc => ?_⟩
  · have hR : Rg v 0 (bn B) := fun q hq' => hrg q (by
      have : bn B ≤ p := (nI_leI (by omega) (by omega)).mp hc
      omega)
    cases o with
    | none =>
      have h6 := (RC.n (s := s) h hr).2
      exact ⟨fun c => absurd h6 c, fun _ => hq6 hnt hR rfl⟩
    | some T =>
      have ht := hr.1
      have hN := ht.1
      have h6 := RC.s h hr s
      have e66 : gI (wI S (upI (gI S) x 0 s)) (am 0) 6 = nI (tN T) := h6.1
      refine ⟨fun _ => ?_, fun c => absurd (e66.symm.trans c) (N_ne hN)⟩
      obtain ⟨P, hP⟩ : ∃ P : Nat → Bool, P = fun k => decide (1 ≤ k) && fts (gv v) (trw T k) (bn B) := ⟨_, rfl⟩
      have fin := hq T hnt hR rfl
      rw [← hP] at fin
      refine ⟨fun u x2 x3 F => ∃ k, 1 ≤ k ∧ k ≤ tN T + 1 ∧ u = tN T + 1 - k ∧ x2 = nI (fb_ct P k) ∧ x3 = nI k ∧ Kp tQ m am (upI (gI S) x 0 s) F, ⟨tN T, 1, by omega, by omega, rfl, by rw [ct_from1 (by rw [hP]; rfl)]; rfl, rfl, Kp.rf⟩, ?_⟩
      rintro u x2 x3 F ⟨k, hk1, hk, rfl, rfl, rfl, kk⟩
      have B2 := (h.M1 s).kp h.L kk
      have T2 : TM T (bn B) (F (am 0)) := h6.kp h.L kk
      rw [T2.1]
      refine ⟨fun hc => ?_, fun hc => ?_⟩
      · have : tN T + 1 = k := by
          rcases Nat.lt_or_ge (tN T) k with c | c
          · omega
          · exact absurd hc (nI_nlt c (by omega))
        subst this
        exact fin F kk
      · have hlt : k ≤ tN T := by
          rcases Nat.lt_or_ge (tN T) k with c | c
          · exact absurd (nI_lt c (by omega)) hc
          · exact c
        have hp := trw_pm ht k hlt
        have L2 : LM (wI S F) m am := h.L
        rw [ix410]
        refine ⟨h.L.i 0 (by show 410 + k < 12100; omega), am 24, h.L.r 24, ?_⟩
        rw [nI_clamp (by omega), T2.2 k hlt]
        refine sm_laysRow L2 hn h.n1 B2.1 (num_lt hp) (h.L.k 24) (h.L.l 24) (fun F3 o3 r3 => ?_)
        have kk3 : Kp tQ m am (upI (gI S) x 0 s) F3 := kk.tr (Kp.on h.L 24 o3)
        have B3 := (h.M1 s).kp h.L kk3
        refine ⟨fun u x4 x5 => ∃ q, q ≤ bn B ∧ u = bn B - q ∧ x5 = nI q ∧ ((x4 = 1 ∧ ∀ z, z < q → gv v z = 0 ∨ gv v z = trw T k z + 1) ∨ (x4 = 0 ∧ ¬ ∀ z, z < bn B → gv v z = 0 ∨ gv v z = trw T k z + 1)), ⟨bn B, 0, by omega, rfl, rfl, Or.inl ⟨rfl, fun z hz => by omega⟩⟩, ?_⟩
        rintro u x4 x5 ⟨q, hqn, rfl, rfl, hx⟩
        rw [B3.1]
        refine ⟨fun hcq => ?_, fun hcq => ?_⟩
        · have e : q = bn B := by
            have : bn B ≤ q := (nI_leI (by omega) (by omega)).mp hcq
            omega
          subst e
          rcases hx with ⟨rfl, hx⟩ | ⟨rfl, hx⟩
          · refine ⟨fun c => absurd c one0, fun _ w1 e1 w2 e2 => ⟨tN T + 1 - (k + 1), by omega, k + 1, by omega, by omega, rfl, e1.trans (ct_yes ?_), by rw [e2]; exact nI_1 k, kk3⟩⟩
            rw [hP]; show (decide (1 ≤ k) && fts (gv v) (trw T k) (bn B)) = true
            unfold fts
            rw [decide_eq_true hk1, decide_eq_true hx]; rfl
          · refine ⟨fun _ w1 e1 w2 e2 => ⟨tN T + 1 - (k + 1), by omega, k + 1, by omega, by omega, rfl, e1.trans (ct_no0 ?_), by rw [e2]; exact nI_1 k, kk3⟩, fun c => absurd rfl c⟩
            rw [hP]; show ¬ (decide (1 ≤ k) && fts (gv v) (trw T k) (bn B)) = true
            unfold fts
            rw [decide_eq_true hk1, decide_eq_false hx]; decide
        · have hlq := nI_gtI (by omega) (by omega) hcq
          rcases hx with ⟨rfl, hx⟩ | ⟨rfl, hx⟩
          · refine ⟨fun c => absurd c one0, fun _ => ?_⟩
            rw [ix60]
            refine ⟨am 7, h.L.r 7, h.L.k 7, h.L.i 7 (by show 60 * i + q < 240; omega), ?_⟩
            have ev : gJ (wI S (upI (gI S) x 0 s)) (am 7) (60 * i + q) = lN (gv v q) := by
              show gJ S (am 7) (60 * i + q) = _
              rw [(g11 q (by omega)).2]
              exact (hR.g hn (by decide) hlq).1
            have gb := (hR.g hn (by decide) hlq).2.2
            have fb := hp.1 q hlq
            rw [nI_clamp (show 60 * i + q < 2 ^ 31 by omega), ev, lg_cmp_eq, show (0 : Int64) = lN 0 from rfl, lN_eq (by omega) (by decide)]
            have nxt : (gv v q = 0 ∨ gv v q = trw T k q + 1) → ∀ z, z < q + 1 → gv v z = 0 ∨ gv v z = trw T k z + 1 := fun hh z hz => by
              by_cases c : z = q
              · subst c; exact hh
              · exact hx z (by omega)
            refine ⟨fun h0 w ew => ⟨bn B - (q + 1), by omega, q + 1, by omega, rfl, by rw [ew]; exact nI_1 q, Or.inl ⟨rfl, nxt (Or.inl h0)⟩⟩, fun h0 => ⟨h.L.k 24, h.L.i 24 (by show q < 8; omega), ?_⟩⟩
            rw [nI_clamp (show q < 2 ^ 31 by omega), r3 q hlq, lay_num hn hp q hlq, nI_1, nI_l (by omega), lg_cmp_eq, lN_eq (by omega) (by omega)]
            exact ⟨fun hne w ew => ⟨bn B - (q + 1), by omega, q + 1, by omega, rfl, by rw [ew]; exact nI_1 q, Or.inr ⟨rfl, fun hh => (hh q hlq).elim h0 hne⟩⟩, fun he w ew => ⟨bn B - (q + 1), by omega, q + 1, by omega, rfl, by rw [ew]; exact nI_1 q, Or.inl ⟨rfl, nxt (Or.inr he)⟩⟩⟩
          · exact ⟨fun _ w ew => ⟨bn B - (q + 1), by omega, q + 1, by omega, rfl, by rw [ew]; exact nI_1 q, Or.inr ⟨rfl, hx⟩⟩, fun c => absurd rfl c⟩
  · have hlt := nI_gtI (by omega) (by omega) hc
    rw [ix60]
    refine ⟨am 7, h.L.r 7, h.L.k 7, h.L.i 7 (by show 60 * i + p < 240; omega), ?_⟩
    have ev : gJ (wI S (upI (gI S) x 0 s)) (am 7) (60 * i + p) = v p := (g11 p (by omega)).2
    rw [nI_clamp (show 60 * i + p < 2 ^ 31 by omega), ev, nI_l (by omega)]
    by_cases cr : lN 0 ≤ v p ∧ v p ≤ lN (bn B)
    · refine mIsY (lo := 0) rfl rfl cr ⟨fun _ w ew => ⟨bn B - (p + 1), by omega, p + 1, by omega, rfl, by rw [ew]; exact nI_1 p, fun q hq' => ?_⟩, fun c => absurd c one0⟩
      by_cases c : q = p
      · subst c; exact cr
      · exact hrg q (by omega)
    · exact mIsN (lo := 0) rfl rfl cr ⟨fun c => absurd rfl c, fun _ => hq5 hnt (fun hh => cr (hh p hlt))⟩
theorem call_music {Q1 : Int32 → FI → Prop} (h : CB S x b m am im B) (hY : TrX S x tr tq ta am Y) (hr : RC S x am im (bn B) o) (r : Int32) (hq : ∀ v F, Th S x m am v (P_X12_music m r (wI S F)) → Q1 v F) : P_X11_music x r S Q1 := by
  have hn := h.n8
  rcases nr_case 4 (by decide) r with ⟨i, hi, rfl⟩ | hrn
  · refine ⟨h.x, sp_whyNoBells (lo := 0) h hY hi (by decide) (fun w hw => ?_)⟩
    unfold wb at hw
    have hyi := hY.2.2.2 i hi
    cases e : Y i with
    | none =>
      rw [e] at hw hyi
      have hw' : w = 2 := hw
      subst hw'
      refine ⟨fun t => t = 2, ?_, fun _ => rfl, fun c => absurd c (by decide)⟩
      rintro _ rfl
      refine ⟨fun c => absurd c (by decide), fun _ => rf h.x (hq _ _ (fun Q2 h2 => ⟨h.L.z, mTy hi ⟨fun _ => ⟨am 6, h.L.r 6, h.L.k 6, h.L.i 6 (by show i < 4; omega), fun c => absurd ?_ c, fun _ => rfm h.L.z Kp.rf h2⟩, fun c => absurd c one0⟩⟩))⟩
      rw [nI_clamp (by omega)]
      show upI (gI S) x 0 2 (am 6) i = -1
      rw [up_ne (x_am h.x h.L 6)]; exact hyi.2
    | some t =>
      obtain ⟨s0, nt, v⟩ := t
      rw [e] at hw hyi
      replace hw : (nt < bn B ∧ w = 3) ∨ (bn B ≤ nt ∧ ¬ Rg v 0 (bn B) ∧ w = 5) ∨ (bn B ≤ nt ∧ Rg v 0 (bn B) ∧ w = 0) := hw
      rcases hw with ⟨hnt, rfl⟩ | ⟨hnt, hR, rfl⟩ | ⟨hnt, hR, rfl⟩
      · refine ⟨fun t => t = 3, ?_, fun _ => rfl, fun c => absurd c (by decide)⟩
        rintro _ rfl
        exact ⟨fun c => absurd c (by decide), fun _ => rf h.x (hq _ _ (fun Q2 h2 => sm_music h hY hr hi e (fun _ => rfm h.L.z Kp.rf h2) (fun c => by omega) (fun c => by omega) (fun T c => by omega)))⟩
      · refine ⟨fun t => t = 5, ?_, fun _ => rfl, fun c => absurd c (by decide)⟩
        rintro _ rfl
        exact ⟨fun c => absurd c (by decide), fun _ => rf h.x (hq _ _ (fun Q2 h2 => sm_music h hY hr hi e (fun c => by omega) (fun _ _ => rfm h.L.z Kp.rf h2) (fun _ c => absurd c hR) (fun T _ c => absurd c hR)))⟩
      · obtain ⟨g1, g2, g3, g4, g5, g6, g7, g8, g9, g10, g11⟩ := hyi
        cases o with
        | none =>
          refine ⟨fun t => t = 6, ?_, fun c => absurd rfl c, fun _ => ⟨fun c => absurd hr.1 c, fun _ => rfl⟩⟩
          rintro _ rfl
          exact ⟨fun c => absurd c (by decide), fun _ => rf h.x (hq _ _ (fun Q2 h2 => sm_music h hY hr hi e (fun c => by omega) (fun _ c => absurd hR c) (fun _ _ _ => rfm h.L.z Kp.rf h2) (fun T _ _ c => by cases c)))⟩
        | some T =>
          have hr' := hr
          obtain ⟨ht, t, rt, tx, -⟩ := hr'
          refine ⟨fun t => t = 0, ?_, fun c => absurd rfl c, fun _ => ⟨fun _ => rfl, fun c => absurd c (some_ne rt)⟩⟩
          rintro _ rfl
          refine ⟨fun _ => ?_, fun c => absurd rfl c⟩
          refine ⟨fun u x3 x4 x5 => ∃ p, p ≤ bn B ∧ u = bn B - p ∧ x5 = nI p ∧ x3 = nI (pak (ask (gv v)) p) ∧ x4 = nI (pak (wnt (gv v)) p), ⟨bn B, 0, by omega, rfl, rfl, rfl, rfl⟩, ?_⟩
          rintro u x3 x4 x5 ⟨p, hp, rfl, rfl, rfl, rfl⟩
          refine ⟨b, h.b, h.k, ?_⟩
          rw [h.s]
          refine ⟨fun hc => ?_, fun hc => ?_⟩
          · have e' : p = bn B := by
              have : bn B ≤ p := (nI_leI (by omega) (by omega)).mp hc
              omega
            subst e'
            refine ⟨t, rt, tx.2.1, sp_fitting (P := fun k => decide (1 ≤ k) && fts (gv v) (trw T k) (bn B)) tx ht rfl (fun k hk1 hk => ?_) (an h.x (hq _ _ (fun Q2 h2 => sm_music h hY hr hi e (fun c => by omega) (fun _ c => absurd hR c) (fun _ _ c => by cases c) (fun T' _ _ eT F kk => ?_))))⟩
            · rw [fit_eq hn (pm8 hn (trw_pm ht k hk)) (fun p hp => by have := (hR.g hn (by decide) hp).2.2; omega), decide_eq_true hk1, Bool.true_and]
              unfold fts
              rw [decide_eq_true_iff]
            · injection eT with eT
              subst eT
              exact gvm h.L.z kk h2
          · have hlt := nI_gtI (by omega) (by omega) hc
            obtain ⟨e1, -, e2⟩ := hR.g hn (by decide) hlt
            refine ⟨tr, hY.1, hY.2.1, by rw [hY.2.2.1]; exact vp_in_nI hi (by decide), tq i, by rw [nI_clamp (by omega)]; exact g3, g4, ta i, g6, g7, by rw [g8]; exact vp_in_nI (by omega) (by omega), fun v25 e25 => ?_⟩
            rw [nI_clamp (by omega), (g11 p (by omega)).1, e1, lN_i] at e25
            subst e25
            have l16 : ∀ q, q < p → ask (gv v) q < 16 := fun q _ => ask_lt _ q
            have w16 : ∀ q, q < p → wnt (gv v) q < 16 := fun q hq' => wnt_lt (by have := (hR.g hn (by decide) (show q < bn B by omega)).2.2; omega)
            refine ⟨fun h0 w ew => ⟨bn B - (p + 1), by omega, p + 1, by omega, rfl, by rw [ew]; exact nI_1 p, ?_, ?_⟩, fun h0 v28 e28 v29 e29 w ew => ⟨bn B - (p + 1), by omega, p + 1, by omega, rfl, by rw [ew]; exact nI_1 p, ?_, ?_⟩⟩
            · have z : gv v p = 0 := by have := (nI_leI (b := 0) (by omega) (by decide)).mp h0; omega
              show _ = nI (pak (ask (gv v)) p + ask (gv v) p * 16 ^ p)
              unfold ask
              rw [if_pos z, Nat.zero_mul]; rfl
            · have z : gv v p = 0 := by have := (nI_leI (b := 0) (by omega) (by decide)).mp h0; omega
              show _ = nI (pak (wnt (gv v)) p + wnt (gv v) p * 16 ^ p)
              unfold wnt
              rw [if_pos z, Nat.zero_mul]; rfl
            · have z : gv v p ≠ 0 := fun e => h0 (by rw [e]; decide)
              rw [e28]
              show nI (pak (ask (gv v)) p) ||| shl (nI 15) (4 * nI p) = nI (pak (ask (gv v)) p + ask (gv v) p * 16 ^ p)
              rw [pak_or l16 (by omega)]
              have : ask (gv v) p = 15 := by unfold ask; rw [if_neg z]
              rw [this]
            · have z : gv v p ≠ 0 := fun e => h0 (by rw [e]; decide)
              rw [e29, sub1 (by omega), pak_or w16 (by omega)]
              have : wnt (gv v) p = gv v p - 1 := by unfold wnt; rw [if_neg z]
              show _ = nI (pak (wnt (gv v)) p + wnt (gv v) p * 16 ^ p)
              rw [this]
  · refine ⟨h.x, ⟨h.x, xTn hrn ⟨fun c => absurd rfl c, fun _ => ⟨fun t => t = 1, ?_, fun _ => rfl, fun c => absurd c one0⟩⟩⟩⟩
    rintro _ rfl
    exact ⟨fun c => absurd c one0, fun _ => rf h.x (hq _ _ (fun Q2 h2 => ⟨h.L.z, mTn hrn ⟨fun c => absurd rfl c, fun _ => rfm h.L.z Kp.rf h2⟩⟩))⟩
end MU
/-! The tape. -/
theorem byte_sh (p : Int32) {k : Nat} (hk : k ≤ 24) : (ushr p (nI k)).toInt8 = (shr p (nI k)).toInt8 := by
  rw [← fa_byte_low (ushr p (nI k)), ← fa_byte_low (shr p (nI k))]
  have : ushr p (nI k) &&& 255 = shr p (nI k) &&& 255 := by
    apply b_ext
    intro i hi
    rw [b_and, b_and, b_255]
    by_cases c : i < 8
    · unfold ushr shr
      rw [b_ushr k (by omega), b_sshr k (by omega) p hi, if_pos (by omega)]
    · rw [decide_eq_false c, Bool.and_false, Bool.and_false]
  rw [this]
/-- the tape on both sides -/
def TpX (S : St) (x k tt m : Nat) (am : Nat → Nat) (t : Nat) : Prop := gR S x 4 = some k ∧ kd S k = 7 ∧ gR S k 0 = some tt ∧ kd S tt = 20 ∧ ln S tt = 900 ∧ tt ≠ am 8 ∧ t ≤ 900 ∧ gI S k 1 = nI t ∧ gI S m 10 = nI t ∧ ∀ j, j < t → gI S tt j = gI S (am 8) j ∧ ∃ w : Int8, gI S tt j = w.toInt32
section FE
variable {S : St} {x k tt m t0 : Nat} {am : Nat → Nat}
theorem sp_tapeInt {p : Int32} {t : Nat} {Q : FI → Prop} (h7 : kd S k = 7) (rt : gR S k 0 = some tt) (kt : kd S tt = 20) (lt : ln S tt = 900) (ht : t + 4 ≤ 900) (h1 : gI S k 1 = nI t)
    (hq : ∀ F', (∀ a, a ≠ k → a ≠ tt → F' a = gI S a) → (∀ j, j ≠ 1 → F' k j = gI S k j) → F' k 1 = nI (t + 4) → (∀ j, F' tt j = if t ≤ j ∧ j < t + 4 then (ushr p (nI (24 - 8 * (j - t)))).toInt8.toInt32 else gI S tt j) → Q F') : P_X7_tapeInt k p S Q := by
  have ktt : k ≠ tt := fun e => by rw [e, kt] at h7; cases h7
  refine ⟨h7, fun u x2 F => ∃ c, c ≤ 4 ∧ u = 4 - c ∧ (c < 4 → x2 = nI (24 - 8 * c)) ∧ (c = 4 → x2 < 0) ∧ (∀ a, a ≠ k → a ≠ tt → F a = gI S a) ∧ (∀ j, j ≠ 1 → F k j = gI S k j) ∧ F k 1 = nI (t + c) ∧ ∀ j, F tt j = if t ≤ j ∧ j < t + c then (ushr p (nI (24 - 8 * (j - t)))).toInt8.toInt32 else gI S tt j, ⟨4, 0, by omega, rfl, fun _ => rfl, fun c => by omega, fun _ _ _ => rfl, fun _ _ => rfl, h1, fun j => by rw [if_neg (by omega)]⟩, ?_⟩
  rintro u x2 F ⟨c, hc, rfl, hx, hx4, f1, f2, f3, f4⟩
  by_cases c4 : c = 4
  · subst c4
    exact ⟨fun _ => hq F f1 f2 f3 f4, fun y => absurd (hx4 rfl) y⟩
  · have hx' := hx (by omega)
    subst hx'
    refine ⟨fun y => absurd y (nI_pos (by omega)), fun _ => ⟨tt, rt, kt, ?_⟩⟩
    rw [lt, f3]
    refine ⟨fun y => absurd ((nI_leI (a := 900) (by decide) (by omega)).mp y) (by omega), fun _ => ⟨vp_in_nI (by omega) (by decide), fun v9 e9 F10 e10 v11 e11 F12 e12 w ew => ?_⟩⟩
    rw [nI_clamp (by omega)] at e10
    have b8 : ∀ z : Int8, z.toInt32.toInt8.toInt32 = z.toInt32 := fun z => by simp
    have e10' : F10 = upI F tt (t + c) (ushr p (nI (24 - 8 * c))).toInt8.toInt32 := by rw [e10, e9, b8]
    have e11' : v11 = nI (t + c + 1) := by rw [e11, e10', up_ne ktt, f3, nI_1]
    subst e11'
    refine ⟨4 - (c + 1), by omega, c + 1, by omega, rfl, fun y => ?_, fun y => ?_, fun a h1 h2 => ?_, fun j hj => ?_, ?_, fun j => ?_⟩
    · rw [ew]
      show nI (24 - 8 * c) + (-8) = nI (24 - 8 * (c + 1))
      have : c = 0 ∨ c = 1 ∨ c = 2 := by omega
      rcases this with rfl | rfl | rfl <;> rfl
    · have : c = 3 := by omega
      subst this
      rw [ew]; decide
    · rw [e12, up_ne h1, e10', up_ne h2]; exact f1 a h1 h2
    · rw [e12, up_no hj, e10', up_ne ktt]; exact f2 j hj
    · rw [e12, up_at]; rfl
    · rw [e12, up_ne (Ne.symm ktt), e10']
      by_cases cj : j = t + c
      · rw [cj, up_at, if_pos (by omega), show t + c - t = c by omega]
      · rw [up_no cj, f4]
        by_cases cr : t ≤ j ∧ j < t + c
        · rw [if_pos cr, if_pos (by omega)]
        · rw [if_neg cr, if_neg (by omega)]
theorem sm_four {p : Int32} {t : Nat} {Q : FI → Prop} (hL : LM S m am) (ht : t + 4 ≤ 900) (h1 : gI S m 10 = nI t)
    (hq : ∀ F', (∀ a, a ≠ m → a ≠ am 8 → F' a = gI S a) → (∀ j, j ≠ 10 → F' m j = gI S m j) → F' m 10 = nI (t + 4) → (∀ j, F' (am 8) j = if t ≤ j ∧ j < t + 4 then (ushr p (nI (24 - 8 * (j - t)))).toInt8.toInt32 else gI S (am 8) j) → Q F') : P_X12_four m p S Q := by
  have ktt : m ≠ am 8 := Ne.symm (hL.o 8)
  refine ⟨hL.z, fun u x2 F => ∃ c, c ≤ 4 ∧ u = 4 - c ∧ (c < 4 → x2 = nI (24 - 8 * c)) ∧ (c = 4 → x2 < 0) ∧ (∀ a, a ≠ m → a ≠ am 8 → F a = gI S a) ∧ (∀ j, j ≠ 10 → F m j = gI S m j) ∧ F m 10 = nI (t + c) ∧ ∀ j, F (am 8) j = if t ≤ j ∧ j < t + c then (ushr p (nI (24 - 8 * (j - t)))).toInt8.toInt32 else gI S (am 8) j, ⟨4, 0, by omega, rfl, fun _ => rfl, fun c => by omega, fun _ _ _ => rfl, fun _ _ => rfl, h1, fun j => by rw [if_neg (by omega)]⟩, ?_⟩
  rintro u x2 F ⟨c, hc, rfl, hx, hx4, f1, f2, f3, f4⟩
  by_cases c4 : c = 4
  · subst c4
    exact ⟨fun _ => hq F f1 f2 f3 f4, fun y => absurd (hx4 rfl) y⟩
  · have hx' := hx (by omega)
    subst hx'
    refine ⟨fun y => absurd y (nI_pos (by omega)), fun _ => ⟨am 8, hL.r 8, hL.k 8, ?_⟩⟩
    rw [f3]
    refine ⟨hL.i 8 (by show t + c < 900; omega), fun v9 e9 F10 e10 v11 e11 F12 e12 w ew => ?_⟩
    rw [nI_clamp (by omega)] at e10
    have b8 : ∀ z : Int8, z.toInt32.toInt8.toInt32 = z.toInt32 := fun z => by simp
    have e10' : F10 = upI F (am 8) (t + c) (ushr p (nI (24 - 8 * c))).toInt8.toInt32 := by rw [e10, e9, b8, byte_sh p (by omega)]
    have e11' : v11 = nI (t + c + 1) := by rw [e11, e10', up_ne ktt, f3, nI_1]
    subst e11'
    refine ⟨4 - (c + 1), by omega, c + 1, by omega, rfl, fun y => ?_, fun y => ?_, fun a h1 h2 => ?_, fun j hj => ?_, ?_, fun j => ?_⟩
    · rw [ew]
      show nI (24 - 8 * c) + (-8) = nI (24 - 8 * (c + 1))
      have : c = 0 ∨ c = 1 ∨ c = 2 := by omega
      rcases this with rfl | rfl | rfl <;> rfl
    · have : c = 3 := by omega
      subst this
      rw [ew]; decide
    · rw [e12, up_ne h1, e10', up_ne h2]; exact f1 a h1 h2
    · rw [e12, up_no hj, e10', up_ne ktt]; exact f2 j hj
    · rw [e12, up_at]; rfl
    · rw [e12, up_ne (Ne.symm ktt), e10']
      by_cases cj : j = t + c
      · rw [cj, up_at, if_pos (by omega), show t + c - t = c by omega]
      · rw [up_no cj, f4]
        by_cases cr : t ≤ j ∧ j < t + c
        · rw [if_pos cr, if_pos (by omega)]
        · rw [if_neg cr, if_neg (by omega)]
end FE
