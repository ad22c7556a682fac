/-! Ringers who go astray: the class's rows. -/
theorem pak_up {f : Nat → Nat} {n : Nat} : ∀ k, (∀ p, n ≤ p → f p = 0) → pak f (n + k) = pak f n
  | 0, _ => rfl
  | k + 1, h => by
    show pak f (n + k) + f (n + k) * 16 ^ (n + k) = _
    rw [h (n + k) (by omega), Nat.zero_mul, Nat.add_zero, pak_up k h]
theorem low_all : ∀ w, w < 256 → (nI (pak (mvf (fun p => w.testBit p)) 8)) &&& ((((nI (pak (mvf (fun p => w.testBit p)) 8)) &&& (-(nI (pak (mvf (fun p => w.testBit p)) 8)))) * 15) ^^^ (-1)) = nI (pak (mvf (swl true (fun p => w.testBit p))) 8) := by decide +kernel
theorem sw_test {n : Nat} {sw : Nat → Bool} (hs : Sw n sw) : sw = fun p => (mskN sw n).testBit p := funext fun p => by
  rw [mskN_bit]
  by_cases c : p < n
  · rw [decide_eq_true c, Bool.true_and]
  · rw [decide_eq_false c, Bool.false_and]
    cases e : sw p
    · rfl
    · have := (hs p e).1; omega
theorem low_out {n : Nat} {sw : Nat → Bool} (hn : n ≤ 8) (hs : Sw n sw) {v w : Int32} (hv : v = (nI (pak (mvf sw) n)) &&& (-(nI (pak (mvf sw) n)))) (hw : w = (nI (pak (mvf sw) n)) &&& ((v * 15) ^^^ (-1))) : w = nI (pak (mvf (swl true sw)) n) := by
  have z : ∀ s : Nat → Bool, Sw n s → pak (mvf s) n = pak (mvf s) 8 := fun s h => by
    have := pak_up (f := mvf s) (n := n) (8 - n) (fun p hp => by
      unfold mvf
      cases e : s p
      · rfl
      · have := (h p e).1; omega)
    rw [show n + (8 - n) = 8 by omega] at this
    exact this.symm
  have hlt : mskN sw n < 256 := Nat.lt_of_lt_of_le (mskN_lt sw n) (by
    have : 2 ^ n ≤ 2 ^ 8 := Nat.pow_le_pow_right (by decide) hn
    exact this)
  have e := low_all (mskN sw n) hlt
  rw [← sw_test hs] at e
  rw [hw, hv, z sw hs, z (swl true sw) (swl_sw true hs)]
  exact e
theorem sp_strayedRow {T : Tc} {n t z sd : Nat} {im : Nat → Prop} {S : St} {Q : Int32 → Prop} (h : TX T n im S t) (ht : tok n T) (hn : n ≤ 8) (hz : z ≤ 16) (hsd : sd < 65536) (hq : Q (nI (pak (rwl T (lst (some z) sd) (tN T)) n))) : P_X8_strayedRow t (nI sd) (nI z) S Q := by
  obtain ⟨-, h2, -, -, ⟨a5, r5, -, k5, l5, g5⟩, a6, r6, -, k6, l6, g6⟩ := h
  have hN := ht.1
  refine ⟨h2, a6, r6, k6, by rw [l6]; exact vp_in_nI (n := 0) (by omega) (by omega), fun v4 e4 => ?_⟩
  rw [g6 0 (by omega)] at e4
  subst e4
  refine ⟨fun u x3 x4 x5 => ∃ k, k ≤ tN T ∧ u = tN T - k ∧ x3 = nI (pak (rwl T (lst (some z) sd) k) n) ∧ x4 = nI (drw sd k) ∧ x5 = nI k, ⟨tN T, 0, by omega, rfl, rfl, rfl, rfl⟩, ?_⟩
  rintro u x3 x4 x5 ⟨k, hk, rfl, rfl, rfl, rfl⟩
  refine ⟨a5, r5, k5, ?_⟩
  rw [l5]
  refine ⟨fun hc => ?_, fun hc => ?_⟩
  · have e : k = tN T := by
      have : tN T ≤ k := (nI_leI (by omega) (by omega)).mp hc
      omega
    subst e
    exact hq
  · have hlt := nI_gtI (by omega) (by omega) hc
    have d1 := drw_lt hsd k
    have d2 := drw_lt hsd (k + 1)
    have sw := ht.2 k hlt
    refine ⟨vp_in_nI hlt (by omega), fun v13 e13 v14 e14 => ?_⟩
    rw [nI_clamp (by omega), g5 k hlt] at e13
    have e14' : v14 = nI (drw sd (k + 1)) := by
      rw [e14]
      show irm (nI (drw sd k) * nI 2693 + nI 10007) (nI 65536) = _
      rw [mulN, nI_add, irmN (by omega) (by decide) (by decide)]
      rfl
    subst e14'
    have e8 : irm (nI (drw sd (k + 1)) / 8) 16 = nI (drw sd (k + 1) / 8 % 16) := by
      show irm (nI (drw sd (k + 1)) / nI 8) (nI 16) = _
      rw [pk_div (by omega) (by decide) (by decide), irmN (by omega) (by decide) (by decide)]
    rw [e8, nI_leI (by omega) (by omega)]
    have hl : lst (some z) sd k = decide (drw sd (k + 1) / 8 % 16 < z) := rfl
    refine ⟨fun v => v = nI (pak (mvf (swl (lst (some z) sd k) (tv T k))) n), ?_, fun c => ?_, fun c v20 e20 v21 e21 => ?_⟩
    · rintro _ rfl
      refine sp_moved hn (swl_sw _ sw) (pm8 hn (rwl_pm ht k (by omega))) (fun w ew => ⟨tN T - (k + 1), by omega, k + 1, by omega, rfl, rfl, rfl, by rw [ew]; exact nI_1 k⟩)
    · rw [hl, decide_eq_false (by omega), swl_f]
      exact e13
    · rw [hl, decide_eq_true (by omega)]
      rw [e13] at e20 e21
      exact low_out hn sw e20 e21
/-! A touch on both sides. -/
def TC (S : St) (x : Nat) (am : Nat → Nat) (im : Nat → Prop) (B : Bk) : Option (Tc × Pg) → Prop
  | none => gR S x 8 = none ∧ gI S (am 0) 4 = -1
  | some (T, P) => PW B P ∧ T = pgT B P (tS T) ∧ tS T ≤ 30 ∧ (∃ t, gR S x 8 = some t ∧ TX T (bn B) im S t) ∧ PMd P (gI S (am 0)) ∧ gI S (am 0) 5 = nI (tS T)
theorem seedY {k : Nat} {Q : Int32 → Prop} (hk : k < 10000) (hq : Q 1) : P_X11_isSeed (nI k) Q := ⟨fun c => absurd c (nI_pos (by omega)), fun _ => ⟨fun c => absurd c (nI_nlt (a := 9999) (by omega) (by decide)), fun _ => hq⟩⟩
theorem seedN {r : Int32} {Q : Int32 → Prop} (hr : NR 10000 r) (hq : Q 0) : P_X11_isSeed r Q := ⟨fun _ => hq, fun h0 => ⟨fun _ => hq, fun c => absurd (fa_trans (nI_lt (a := 9999) (b := 10000) (by decide) (by decide)) (nr_ix (N := 10000) (by decide) hr h0)) c⟩⟩
theorem mIy {k N : Nat} {hi : Int64} {Q : Int32 → Prop} (hk : k ≤ N) (hN : N < 2 ^ 31) (hh : hi = lN N) (hq : Q 1) : P_X12_isFrom (nI k).toInt64 0 hi Q := by
  rw [nI_l (by omega), hh]
  exact mFy ((lN_le (a := 0) (by decide) (by omega)).mpr (by omega)) ((lN_le (by omega) (by omega)).mpr hk) hq
theorem mIn {r : Int32} {N : Nat} {hi : Int64} {Q : Int32 → Prop} (hr : NR (N + 1) r) (hN : N + 1 < 2 ^ 31) (hh : hi = (nI N).toInt64) (hq : Q 0) : P_X12_isFrom r.toInt64 0 hi Q := by
  refine mFn (fun ⟨h1, h2⟩ => ?_) hq
  rw [show (0 : Int64) = (0 : Int32).toInt64 from rfl, fa_wide_le] at h1
  rw [hh, fa_wide_le] at h2
  have h0 : ¬ r < 0 := fun c => by rw [fa_le] at h1; rw [fa_lt] at c; omega
  exact absurd (fa_trans (nI_lt (a := N) (b := N + 1) (by omega) (by omega)) (nr_ix (by omega) hr h0)) (fun c => by rw [fa_le] at h2; rw [fa_lt] at c; omega)
section CS
variable {S : St} {x b m : Nat} {am : Nat → Nat} {im : Nat → Prop} {B : Bk} {o : Option (Tc × Pg)} {Q1 : Int32 → FI → Prop}
/-- the reference answers alike; of its state only what is used for work is another -/
def ThT (S : St) (x m : Nat) (am : Nat → Nat) (s v : Int32) (P : (Int32 → FI → Prop) → Prop) : Prop := ∀ Q2 : Int32 → FI → Prop, (∀ F', Kp tT m am (upI (gI S) x 0 s) F' → F' m 2 = s → F' (am 0) = gI S (am 0) → Q2 v F') → P Q2
theorem tQ_tT (f : Nat) (h : tQ f = true) : tT f = true := by
  unfold tQ at h
  unfold tT
  simp at h ⊢
  omega
theorem call_strayed (h : CB S x b m am im B) (hT : TC S x am im B o) (r z0 : Int32) (hq : ∀ v s, ThT S x m am s v (P_X12_strayed m r z0 (wI S (upI (gI S) x 0 s))) → Q1 v (upI (gI S) x 0 s)) : P_X11_strayed x r z0 S Q1 := by
  have L1 : ∀ s, LM (wI S (upI (gI S) x 0 s)) m am := fun _ => h.L
  have hn := h.n8
  have a0 : ∀ s, upI (gI S) x 0 s (am 0) = gI S (am 0) := fun s => up_ne (x_am h.x h.L 0)
  have rfE : ∀ (w : Int32) (Q2 : Int32 → FI → Prop), (∀ F', Kp tT m am (upI (gI S) x 0 w) F' → F' m 2 = w → F' (am 0) = gI S (am 0) → Q2 (-1) F') → P_X12_refuse m w (wI S (upI (gI S) x 0 w)) Q2 := fun w Q2 h2 => rfT (T := tT) h.L.z Kp.rf (by decide) (fun F' k' e' o' j' => h2 F' k' e' (by rw [o' _ (h.L.o 0)]; exact a0 w))
  rcases nr_case 10000 (by decide) r with ⟨sd, hsd, rfl⟩ | hr
  · rcases nr_case 17 (by decide) z0 with ⟨z, hz, rfl⟩ | hz
    · cases o with
      | none =>
        refine ⟨h.x, seedY hsd ⟨False, False.elim, fun c => absurd c one0, fun _ => ⟨fun c => absurd c (nI_pos (by omega)), fun _ => ⟨fun _ => ⟨fun c => absurd hT.1 c, fun _ => rf h.x (hq _ _ (fun Q2 h2 => ?_))⟩, fun c => absurd (nI_le (b := 16) (by omega) (by decide)) c⟩⟩⟩⟩
        have e4 : gI (wI S (upI (gI S) x 0 6)) (am 0) 4 = -1 := by show upI (gI S) x 0 6 (am 0) 4 = _; rw [a0]; exact hT.2
        exact ⟨h.L.z, mIy (N := 9999) (by omega) (by decide) rfl ⟨False, False.elim, fun c => absurd c one0, fun _ => mIy (N := 16) (by omega) (by decide) rfl ⟨fun _ => ⟨am 0, h.L.r 0, h.L.k 0, h.L.i 0 (p := 4) (by decide), fun c => absurd e4 c, fun _ => rfE 6 Q2 h2⟩, fun c => absurd c one0⟩⟩⟩
      | some TP =>
        obtain ⟨T, P⟩ := TP
        obtain ⟨hW, hT1, hT2, ⟨t, rt, tx⟩, hP, h5⟩ := hT
        have hK := hW.1
        have ht : tok (bn B) T := by rw [hT1]; exact pgT_ok h.o hW _
        refine ⟨h.x, seedY hsd ⟨False, False.elim, fun c => absurd c one0, fun _ => ⟨fun c => absurd c (nI_pos (by omega)), fun _ => ⟨fun _ => ⟨fun _ => ⟨t, rt, tx.2.1, ?_⟩, fun c => absurd c (some_ne rt)⟩, fun c => absurd (nI_le (b := 16) (by omega) (by decide)) c⟩⟩⟩⟩
        refine sp_strayedRow tx ht hn (by omega) (by omega) (xNu h (rwl_pm ht _ (Nat.le_refl _)) (an h.x (hq _ _ (fun Q2 h2 => ?_))))
        have P1 : PMd P (upI (gI S) x 0 0 (am 0)) := by rw [a0]; exact hP
        have e4 : ¬ gI (wI S (upI (gI S) x 0 0)) (am 0) 4 = -1 := fun c => N_ne (show pgK P ≤ 2000 by omega) (P1.1.symm.trans c)
        refine ⟨h.L.z, mIy (N := 9999) (by omega) (by decide) rfl ⟨False, False.elim, fun c => absurd c one0, fun _ => mIy (N := 16) (by omega) (by decide) rfl ⟨fun _ => ⟨am 0, h.L.r 0, h.L.k 0, h.L.i 0 (p := 4) (by decide), fun _ F11 e11 => ?_, fun c => absurd c e4⟩, fun c => absurd c one0⟩⟩⟩
        have e11' : F11 = upI (upI (gI S) x 0 0) m 31 (nI sd) := e11
        have o11 : F11 (am 0) = upI (gI S) x 0 0 (am 0) := by rw [e11', up_ne (h.L.o 0)]
        refine sm_ringsAll (S := wI (wI S (upI (gI S) x 0 0)) F11) (sx := some z) (to := false) (sd := sd) (B := B) (P := P) (T := T) (st := tS T) h.L h.o (by show BM B (F11 (am 0)); rw [o11]; exact h.M1 0) hW (by show PMd P (F11 (am 0)); rw [o11]; exact P1) hT1 (fun z' e => ⟨by cases e; omega, by omega, by show F11 m 31 = _; rw [e11', up_at]⟩) (fun F' rs e33 => ?_)
        obtain ⟨r1, r2, -⟩ := rs
        rw [e33]
        have k1 : Kp tT m am (upI (gI S) x 0 0) F' := by
          refine Kp.tr ?_ r1
          show Kp tT m am (upI (gI S) x 0 0) F11
          rw [e11']
          exact Kp.fd 31
        exact gvT (S1 := S) (T := tT) h.L.z k1 (by decide) (fun F2 k2 e2 o2 j2 => h2 F2 k2 e2 (by
          rw [o2 _ (h.L.o 0)]
          funext k
          show F' (am 0) k = _
          rw [r2 k (Or.inr rfl)]
          show F11 (am 0) k = _
          rw [o11, a0]))
    · refine ⟨h.x, seedY hsd ⟨True, fun _ => rf h.x (hq _ _ (fun Q2 h2 => ?_)), fun c => absurd c one0, fun _ => ⟨fun _ => trivial, fun h0 => ⟨fun c => absurd (fa_trans (nI_lt (a := 16) (b := 17) (by decide) (by decide)) (nr_ix (N := 17) (by decide) hz h0)) (fun c2 => by rw [fa_lt] at c2; have c' := (fa_le _ _).mp c; have : (nI 16).toInt = (16 : Int32).toInt := rfl; omega), fun _ => trivial⟩⟩⟩⟩
      exact ⟨h.L.z, mIy (N := 9999) (by omega) (by decide) rfl ⟨True, fun _ => rfE 1 Q2 h2, fun c => absurd c one0, fun _ => mIn (N := 16) hz (by decide) rfl ⟨fun c => absurd rfl c, fun _ => trivial⟩⟩⟩
  · refine ⟨h.x, seedN hr ⟨True, fun _ => rf h.x (hq _ _ (fun Q2 h2 => ?_)), fun _ => trivial, fun c => absurd rfl c⟩⟩
    exact ⟨h.L.z, mIn (N := 9999) hr (by decide) rfl ⟨True, fun _ => rfE 1 Q2 h2, fun _ => trivial, fun c => absurd rfl c⟩⟩
theorem call_ring {Q : Int32 → FI → (Nat → Nat → Option Nat) → Prop} (h : CB S x b m am im B) (hT : TC S x am im B o) (him : ∀ e, im e → kd S e ≠ 0 ∧ e ≠ x)
    (hq0 : o = none → ThT S x m am 6 (-1) (P_X12_ring m (wI S (upI (gI S) x 0 6))) → Q (-1) (upI (gI S) x 0 6) (gR S))
    (hq1 : ∀ T P t, o = some (T, P) → gR S x 8 = some t → TX T (bn B) im S t → (∀ Q2 : Int32 → FI → Prop, (∀ F', Kp tT m am (upI (gI S) x 0 0) F' → F' m 2 = 0 → (∀ k, (k < 410 ∧ k ≠ 6) ∨ 2410 < k → F' (am 0) k = gI S (am 0) k) → TM T (bn B) (F' (am 0)) → Q2 (nI (tN T)) F') → P_X12_ring m (wA S (upI (gI S) x 0 0) (gJ S) (upR (gR S) x 9 (some t))) Q2) → Q (nI (tN T)) (upI (gI S) x 0 0) (upR (gR S) x 9 (some t))) : P_X11_ring x S Q := by
  have hn := h.n8
  have a0 : ∀ s, upI (gI S) x 0 s (am 0) = gI S (am 0) := fun s => up_ne (x_am h.x h.L 0)
  cases o with
  | none =>
    refine ⟨h.x, fun c => absurd hT.1 c, fun _ => rf h.x (hq0 rfl (fun Q2 h2 => ?_))⟩
    have e4 : gI (wI S (upI (gI S) x 0 6)) (am 0) 4 = -1 := by show upI (gI S) x 0 6 (am 0) 4 = _; rw [a0]; exact hT.2
    exact ⟨h.L.z, am 0, h.L.r 0, h.L.k 0, h.L.i 0 (p := 4) (by decide), fun c => absurd e4 c, fun _ => rfT (T := tT) h.L.z Kp.rf (by decide) (fun F' k' e' o' j' => h2 F' k' e' (by rw [o' _ (h.L.o 0)]; exact a0 6))⟩
  | some TP =>
    obtain ⟨T, P⟩ := TP
    obtain ⟨hW, hT1, hT2, ⟨t, rt, tx⟩, hP, h5⟩ := hT
    have hK := hW.1
    have ht : tok (bn B) T := by rw [hT1]; exact pgT_ok h.o hW _
    have hN := ht.1
    refine ⟨h.x, fun _ R2 e2 => ?_, fun c => absurd c (some_ne rt)⟩
    rw [rt] at e2
    subst e2
    have fr : ∀ F, Fr (fun e => e = x) S (wA S (upI (gI S) x 0 F) (gJ S) (upR (gR S) x 9 (some t))) := fun F a _ => ⟨rfl, rfl, fun hw => ⟨up_ne hw, rfl, upR_ne hw⟩⟩
    have fr0 : Fr (fun e => e = x) S (wA S (gI S) (gJ S) (upR (gR S) x 9 (some t))) := fun a _ => ⟨rfl, rfl, fun hw => ⟨rfl, rfl, upR_ne hw⟩⟩
    have tx0 := tx.sm (fr0.sim him)
    refine ⟨t, upR_at, tx.2.1, sp_last tx0 (an (S := wA S (gI S) (gJ S) (upR (gR S) x 9 (some t))) h.x (hq1 T P t rfl rt tx (fun Q2 h2 => ?_)))⟩
    have L1 : LM (wA S (upI (gI S) x 0 0) (gJ S) (upR (gR S) x 9 (some t))) m am := h.L.fr (fr 0) (x_m h.x h.L)
    have P1 : PMd P (upI (gI S) x 0 0 (am 0)) := by rw [a0]; exact hP
    have e4 : ¬ gI (wA S (upI (gI S) x 0 0) (gJ S) (upR (gR S) x 9 (some t))) (am 0) 4 = -1 := fun c => N_ne (show pgK P ≤ 2000 by omega) (P1.1.symm.trans c)
    refine ⟨L1.z, am 0, L1.r 0, L1.k 0, L1.i 0 (p := 4) (by decide), fun _ => ?_, fun c => absurd c e4⟩
    refine sm_ringsAll (sx := none) (to := true) (sd := 0) (B := B) (P := P) (T := T) (st := tS T) L1 h.o (h.M1 0) hW P1 hT1 (fun z e => by cases e) (fun F' rs e33 => ⟨L1.i 0 (p := 6) (by decide), fun v7 e7 F8 e8 => ?_⟩)
    obtain ⟨r1, r2, r3, -, -, r6, -, r8⟩ := rs
    rw [r6] at e7
    subst e7
    have k8 : Kp tT m am (upI (gI S) x 0 0) F8 := by rw [e8]; exact Kp.tr r1 (Kp.on h.L 0 On.up)
    have m32 : F8 m 32 = nI (tN T) := by rw [e8, up_ne (Ne.symm (h.L.o 0))]; exact r6
    rw [m32]
    have lo : ∀ k, (k < 410 ∧ k ≠ 6) ∨ 2410 < k → F8 (am 0) k = gI S (am 0) k := fun k hk => by
      rw [e8, up_no (by omega)]
      rcases hk with ⟨c, -⟩ | c
      · rw [r2 k (Or.inl c)]; show upI (gI S) x 0 0 (am 0) k = _; rw [a0]
      · rw [r3 k c]; show upI (gI S) x 0 0 (am 0) k = _; rw [a0]
    have tm : TM T (bn B) (F8 (am 0)) := by
      refine ⟨by rw [e8, up_at], fun k hk => ?_⟩
      rw [e8, up_no (by omega), r8 rfl k hk]
      exact congrArg nI (congrArg (num (bn B)) (rwl_f T k))
    exact gvT (S1 := S) (T := tT) L1.z k8 (by decide) (fun F2 k2 e2 o2 j2 => h2 F2 k2 e2 (fun k hk => by rw [o2 _ (h.L.o 0)]; exact lo k hk) (by rw [o2 _ (h.L.o 0)]; exact tm))
end CS
