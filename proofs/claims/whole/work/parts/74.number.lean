/-! Numbers in trays as bells. -/
def gv (v : Nat → Int64) (p : Nat) : Nat := (v p).toInt.toNat
theorem gv_eq {v : Nat → Int64} {p n : Nat} (hn : n ≤ 8) (h0 : 0 ≤ v p) (h1 : v p ≤ lN n) : v p = lN (gv v p) ∧ gv v p ≤ n := by
  rw [fa_le64] at h0 h1
  rw [lN_toInt (by omega)] at h1
  have z : (0 : Int64).toInt = 0 := rfl
  rw [z] at h0
  have hb : gv v p ≤ n := by unfold gv; omega
  refine ⟨?_, hb⟩
  rw [fa_eq64, lN_toInt (by omega)]
  unfold gv
  omega
/-- all bells of a tray lie between -/
def Rg (v : Nat → Int64) (lo n : Nat) : Prop := ∀ p, p < n → lN lo ≤ v p ∧ v p ≤ lN n
theorem Rg.g {v : Nat → Int64} {lo n p : Nat} (hn : n ≤ 8) (h : Rg v lo n) (hlo : lo ≤ 1) (hp : p < n) : v p = lN (gv v p) ∧ lo ≤ gv v p ∧ gv v p ≤ n := by
  obtain ⟨h1, h2⟩ := h p hp
  have h0 : (0 : Int64) ≤ v p := by
    rw [fa_le64] at h1 ⊢
    rw [lN_toInt (by omega)] at h1
    have z : (0 : Int64).toInt = 0 := rfl
    omega
  obtain ⟨e1, e2⟩ := gv_eq hn h0 h2
  refine ⟨e1, ?_, e2⟩
  rw [e1] at h1
  exact (lN_le (by omega) (by omega)).mp h1
section NM
variable {S : St} {x b m tr : Nat} {am tq ta : Nat → Nat} {im : Nat → Prop} {B : Bk} {Y : Nat → Yt}
/-- why the bells of a tray can't be -/
def wb (Y : Nat → Yt) (n lo i : Nat) (w : Int32) : Prop :=
  match Y i with
  | none => w = 2
  | some (_, nt, v) => (nt < n ∧ w = 3) ∨ (n ≤ nt ∧ ¬ Rg v lo n ∧ w = 5) ∨ (n ≤ nt ∧ Rg v lo n ∧ w = 0)
theorem sp_whyNoBells {i lo : Nat} {Q : Int32 → Prop} (h : CB S x b m am im B) (hY : TrX S x tr tq ta am Y) (hi : i < 4) (hlo : lo ≤ 1) (hq : ∀ w, wb Y (bn B) lo i w → Q w) : P_X11_whyNoBells x (nI i) (nI lo) S Q := by
  have hn := h.n8
  have hy := hY.2.2.2 i hi
  unfold wb at hq
  refine ⟨h.x, xTy hi ⟨fun _ => ⟨tr, hY.1, hY.2.1, by rw [hY.2.2.1]; exact vp_in_nI hi (by decide), ?_⟩, fun c => absurd c one0⟩⟩
  rw [nI_clamp (by omega)]
  cases e : Y i with
  | none =>
    rw [e] at hy hq
    exact ⟨fun c => absurd hy.1 c, fun _ => hq 2 rfl⟩
  | some t =>
    obtain ⟨s, nt, v⟩ := t
    rw [e] at hy hq
    replace hq : ∀ w, (nt < bn B ∧ w = 3) ∨ (bn B ≤ nt ∧ ¬ Rg v lo (bn B) ∧ w = 5) ∨ (bn B ≤ nt ∧ Rg v lo (bn B) ∧ w = 0) → Q w := hq
    obtain ⟨g1, g2, g3, g4, g5, g6, g7, g8, g9, g10, g11⟩ := hy
    refine ⟨fun _ => ⟨tq i, g3, b, h.b, h.k, g4, ?_⟩, fun c => absurd c (some_ne g3)⟩
    rw [h.s]
    refine sp_hasO (k := 0) g4 g6 g7 g8 g2 (by decide) (by omega) (fun y => ⟨fun _ => ?_, fun c => absurd c one0⟩) (fun y => ⟨fun c => absurd rfl c, fun _ => hq 3 (Or.inl ⟨by unfold okp at y; omega, rfl⟩)⟩)
    have hnt : bn B ≤ nt := by have := y.2; omega
    refine ⟨fun u x3 => ∃ p, p ≤ bn B ∧ u = bn B - p ∧ x3 = nI p ∧ ∀ q, q < p → lN lo ≤ v q ∧ v q ≤ lN (bn B), ⟨bn B, 0, by omega, rfl, rfl, fun q hq => by omega⟩, ?_⟩
    rintro u x3 ⟨p, hp, rfl, rfl, hr⟩
    refine ⟨fun hc => ?_, fun hc => ?_⟩
    · have : bn B ≤ p := (nI_leI (by omega) (by omega)).mp hc
      exact hq 0 (Or.inr (Or.inr ⟨hnt, fun q hq' => hr q (by omega), rfl⟩))
    · have hlt := nI_gtI (by omega) (by omega) hc
      refine ⟨ta i, g6, g7, by rw [g8]; exact vp_in_nI (by omega) (by omega), fun v19 e19 => ?_⟩
      rw [nI_clamp (by omega), (g11 p (by omega)).1] at e19
      subst e19
      have bad : ¬ (lN lo ≤ v p ∧ v p ≤ lN (bn B)) → Q 5 := fun hb => hq 5 (Or.inr (Or.inl ⟨hnt, fun hR => hb (hR p hlt), rfl⟩))
      rw [lg_cmp_lt, lg_cmp_le, nI_l (by omega), nI_l (by omega)]
      refine ⟨fun c => bad (fun hh => lg_le_not_lt hh.1 c), fun c => ⟨fun c2 w ew => ⟨bn B - (p + 1), by omega, p + 1, by omega, rfl, by rw [ew]; exact nI_1 p, fun q hq' => ?_⟩, fun c2 => bad (fun hh => c2 hh.2)⟩⟩
      by_cases cq : q = p
      · subst cq
        refine ⟨?_, c2⟩
        rw [fa_lt64] at c
        rw [fa_le64]
        omega
      · exact hr q (by omega)
theorem mIsY {n lo p : Nat} {v : Nat → Int64} {l64 h64 : Int64} {Q : Int32 → Prop} (hl : l64 = lN lo) (hh : h64 = lN n) (h : lN lo ≤ v p ∧ v p ≤ lN n) (hq : Q 1) : P_X12_isFrom (v p) l64 h64 Q := by
  rw [hl, hh]; exact mFy h.1 h.2 hq
theorem mIsN {n lo p : Nat} {v : Nat → Int64} {l64 h64 : Int64} {Q : Int32 → Prop} (hl : l64 = lN lo) (hh : h64 = lN n) (h : ¬ (lN lo ≤ v p ∧ v p ≤ lN n)) (hq : Q 0) : P_X12_isFrom (v p) l64 h64 Q := by
  rw [hl, hh]; exact mFn h hq
/-- no bell twice -/
def Ds (v : Nat → Int64) (n : Nat) : Prop := ∀ p q, p < q → q < n → gv v p ≠ gv v q
theorem ds_pm {v : Nat → Int64} {n : Nat} (hn : n ≤ 8) (h : Rg v 1 n) (hd : Ds v n) : Pm n (fun p => gv v p - 1) := by
  refine ⟨fun p hp => ?_, fun p q hpq hq => ?_⟩
  · have := h.g hn (by decide) hp
    show gv v p - 1 < n
    omega
  · have h1 := h.g hn (by decide) (show p < n by omega)
    have h2 := h.g hn (by decide) hq
    have := hd p q hpq hq
    show gv v p - 1 ≠ gv v q - 1
    omega
theorem sm_number {i s0 nt : Nat} {s : Int32} {v : Nat → Int64} {Q : Int32 → FI → Prop} (h : CB S x b m am im B) (hY : TrX S x tr tq ta am Y) (hi : i < 4) (hy : Y i = some (s0, nt, v))
    (hq3 : nt < bn B → P_X12_refuse m 3 (wI S (upI (gI S) x 0 s)) Q) (hq5 : bn B ≤ nt → ¬ (Rg v 1 (bn B) ∧ Ds v (bn B)) → ∀ F, Kp tQ m am (upI (gI S) x 0 s) F → P_X12_refuse m 5 (wI S F) Q)
    (hq : bn B ≤ nt → Rg v 1 (bn B) → Ds v (bn B) → ∀ F, Kp tQ m am (upI (gI S) x 0 s) F → P_X12_gives m (nI (num (bn B) (fun p => gv v p - 1))) (wI S F) Q) : P_X12_number m (nI i) (wI S (upI (gI S) x 0 s)) Q := by
  have hn := h.n8
  have hyi := hY.2.2.2 i hi
  rw [hy] at hyi
  obtain ⟨g1, g2, g3, g4, g5, g6, g7, g8, g9, g10, g11⟩ := hyi
  have e6 : upI (gI S) x 0 s (am 6) i = nI nt := by rw [up_ne (x_am h.x h.L 6)]; exact g10
  refine ⟨h.L.z, mTy hi ⟨fun _ => ⟨am 6, h.L.r 6, h.L.k 6, h.L.i 6 (by show i < 4; omega), ?_⟩, fun c => absurd c one0⟩⟩
  rw [nI_clamp (by omega)]
  show (¬ upI (gI S) x 0 s (am 6) i = -1 → _) ∧ (upI (gI S) x 0 s (am 6) i = -1 → _)
  rw [e6]
  refine ⟨fun _ => ⟨am 0, h.L.r 0, h.L.k 0, h.L.i 0 (p := 0) (by decide), ?_⟩, fun c => absurd c (N_ne (by omega))⟩
  have es : gI (wI S (upI (gI S) x 0 s)) (am 0) 0 = nI (bn B) := (h.M1 s).1
  have es6 : gI (wI S (upI (gI S) x 0 s)) (am 6) i = nI nt := e6
  rw [es, es6, nI_leI (by omega) (by omega)]
  refine ⟨fun hnt => ?_, fun c => hq3 (by omega)⟩
  refine ⟨fun u x2 x3 F => ∃ p, p ≤ bn B ∧ u = bn B - p ∧ x3 = nI p ∧ Kp tQ m am (upI (gI S) x 0 s) F ∧ (∀ j, j < 32 → bt x2 j = us (gv v) p j) ∧ Rw F (am 25) p (fun p => gv v p - 1) ∧ (∀ q, q < p → lN 1 ≤ v q ∧ v q ≤ lN (bn B)) ∧ ∀ q r, q < r → r < p → gv v q ≠ gv v r, ⟨bn B, 0, by omega, rfl, rfl, Kp.rf, fun j _ => b_0 j, fun q hq => absurd hq (Nat.not_lt_zero q), fun q hq => by omega, fun q r _ hr => by omega⟩, ?_⟩
  rintro u x2 x3 F ⟨p, hp, rfl, rfl, kk, hbt, hrw, hr, hd⟩
  have B2 := (h.M1 s).kp h.L kk
  have L2 : LM (wI S F) m am := h.L
  rw [B2.1]
  refine ⟨fun hc => ?_, fun hc => ?_⟩
  · have e : p = bn B := by
      have : bn B ≤ p := (nI_leI (by omega) (by omega)).mp hc
      omega
    subst e
    have hR : Rg v 1 (bn B) := hr
    have hDs : Ds v (bn B) := hd
    exact ⟨am 25, h.L.r 25, sm_numberOf L2 hn B2.1 (ds_pm hn hR hDs) (h.L.k 25) (h.L.l 25) hrw (hq hnt hR hDs F kk)⟩
  · have hlt := nI_gtI (by omega) (by omega) hc
    rw [ix60]
    refine ⟨am 7, h.L.r 7, h.L.k 7, h.L.i 7 (by show 60 * i + p < 240; omega), fun v22 e22 => ?_⟩
    have e22' : v22 = v p := by rw [e22, nI_clamp (by omega)]; exact (g11 p (by omega)).2
    subst e22'
    rw [nI_l (by omega)]
    by_cases cr : lN 1 ≤ v p ∧ v p ≤ lN (bn B)
    · obtain ⟨e1, e2⟩ := gv_eq hn (by
        have := cr.1
        rw [fa_le64] at this ⊢
        rw [lN_toInt (by decide)] at this
        have z : (0 : Int64).toInt = 0 := rfl
        omega) cr.2
      have e3 : 1 ≤ gv v p := by
        have := cr.1
        rw [e1] at this
        exact (lN_le (by decide) (by omega)).mp this
      have e32 : (v p).toInt32 = nI (gv v p) := by rw [e1]; exact lN_i _
      refine mIsY (lo := 1) rfl rfl cr ?_
      rw [e32, tb2 (by omega), hbt _ (by omega)]
      by_cases cu : us (gv v) p (gv v p) = true
      · refine ⟨True, fun _ => hq5 hnt (fun hh => ?_) F kk, fun _ => trivial, fun _ => ⟨fun c => absurd cu c, fun _ => trivial⟩⟩
        obtain ⟨q, hq1, hq2⟩ := (us_iff _ _ _).mp cu
        exact hh.2 q p hq1 hlt hq2
      · refine ⟨False, False.elim, fun c => absurd c one0, fun _ => ⟨fun _ v28 e28 => ⟨am 25, h.L.r 25, h.L.k 25, h.L.i 25 (by show p < 8; omega), fun v32 e32' F33 e33 w ew => ?_⟩, fun c => absurd c cu⟩⟩
        rw [sub1 e3] at e32'
        subst e32'
        rw [nI_clamp (by omega)] at e33
        refine ⟨bn B - (p + 1), by omega, p + 1, by omega, rfl, by rw [ew]; exact nI_1 p, by rw [e33]; exact kk.tr (Kp.on h.L 25 On.up), fun j hj => ?_, fun q hq' => ?_, fun q hq' => ?_, fun q r hqr hr' => ?_⟩
        · rw [e28, tb3 (by omega) hj, hbt j hj]
          rfl
        · rw [e33]
          by_cases c : q = p
          · subst c; exact up_at
          · rw [up_no c]; exact hrw q (by omega)
        · by_cases c : q = p
          · subst c; exact cr
          · exact hr q (by omega)
        · by_cases c : r = p
          · subst c
            have := us_no.mp (ts_nt cu) q hqr
            exact this
          · exact hd q r hqr (by omega)
    · exact mIsN (lo := 1) rfl rfl cr ⟨True, fun _ => hq5 hnt (fun hh => cr (hh.1 p hlt)) F kk, fun _ => trivial, fun c => absurd rfl c⟩
theorem call_number {Q1 : Int32 → FI → Prop} (h : CB S x b m am im B) (hY : TrX S x tr tq ta am Y) (r : Int32) (hq : ∀ v F, Th S x m am v (P_X12_number m r (wI S F)) → Q1 v F) : P_X11_number x r S Q1 := by
  have hn := h.n8
  rcases nr_case 4 (by decide) r with ⟨i, hi, rfl⟩ | hr
  · refine ⟨h.x, sp_whyNoBells (lo := 1) h hY hi (by decide) (fun w hw => ?_)⟩
    unfold wb at hw
    have hyi := hY.2.2.2 i hi
    cases e : Y i with
    | none =>
      rw [e] at hw hyi
      have hw' : w = 2 := hw
      subst hw'
      refine ⟨fun c => absurd c (by decide), fun _ => rf h.x (hq _ _ (fun Q2 h2 => ⟨h.L.z, mTy hi ⟨fun _ => ⟨am 6, h.L.r 6, h.L.k 6, h.L.i 6 (by show i < 4; omega), fun c => absurd ?_ c, fun _ => rfm h.L.z Kp.rf h2⟩, fun c => absurd c one0⟩⟩))⟩
      rw [nI_clamp (by omega)]
      show upI (gI S) x 0 2 (am 6) i = -1
      rw [up_ne (x_am h.x h.L 6)]; exact hyi.2
    | some t =>
      obtain ⟨s0, nt, v⟩ := t
      rw [e] at hw hyi
      replace hw : (nt < bn B ∧ w = 3) ∨ (bn B ≤ nt ∧ ¬ Rg v 1 (bn B) ∧ w = 5) ∨ (bn B ≤ nt ∧ Rg v 1 (bn B) ∧ w = 0) := hw
      rcases hw with ⟨hnt, rfl⟩ | ⟨hnt, hR, rfl⟩ | ⟨hnt, hR, rfl⟩
      · exact ⟨fun c => absurd c (by decide), fun _ => rf h.x (hq _ _ (fun Q2 h2 => sm_number h hY hi e (fun _ => rfm h.L.z Kp.rf h2) (fun c => by omega) (fun c => by omega)))⟩
      · exact ⟨fun c => absurd c (by decide), fun _ => rf h.x (hq _ _ (fun Q2 h2 => sm_number h hY hi e (fun c => by omega) (fun _ _ F kk => rfm h.L.z kk h2) (fun _ c => absurd c hR)))⟩
      · obtain ⟨g1, g2, g3, g4, g5, g6, g7, g8, g9, g10, g11⟩ := hyi
        refine ⟨fun _ => ?_, fun c => absurd rfl c⟩
        refine ⟨fun u x3 x4 x5 => ∃ p, p ≤ bn B ∧ u = bn B - p ∧ x5 = nI p ∧ x3 = nI (pak (fun p => gv v p - 1) p) ∧ (∀ j, j < 32 → bt x4 j = us (fun p => gv v p - 1) p j) ∧ ∀ q r, q < r → r < p → gv v q ≠ gv v r, ⟨bn B, 0, by omega, rfl, rfl, rfl, fun j _ => b_0 j, fun q r _ hr => by omega⟩, ?_⟩
        rintro u x3 x4 x5 ⟨p, hp, rfl, rfl, rfl, hbt, hd⟩
        refine ⟨b, h.b, h.k, ?_⟩
        rw [h.s]
        refine ⟨fun hc => ?_, fun hc => ?_⟩
        · have e' : p = bn B := by
            have : bn B ≤ p := (nI_leI (by omega) (by omega)).mp hc
            omega
          subst e'
          have hDs : Ds v (bn B) := hd
          exact xNu h (ds_pm hn hR hDs) (an h.x (hq _ _ (fun Q2 h2 => sm_number h hY hi e (fun c => by omega) (fun _ c => absurd ⟨hR, hDs⟩ c) (fun _ _ _ F kk => gvm h.L.z kk h2))))
        · have hlt := nI_gtI (by omega) (by omega) hc
          obtain ⟨e1, e3, e2⟩ := hR.g hn (by decide) hlt
          refine ⟨tr, hY.1, hY.2.1, by rw [hY.2.2.1]; exact vp_in_nI hi (by decide), tq i, by rw [nI_clamp (by omega)]; exact g3, g4, ta i, g6, g7, by rw [g8]; exact vp_in_nI (by omega) (by omega), fun v20 e20 => ?_⟩
          rw [nI_clamp (by omega), (g11 p (by omega)).1, e1, lN_i, sub1 e3] at e20
          subst e20
          rw [tb1 (by omega), hbt _ (by omega)]
          refine ⟨fun hu v22 e22 v23 e23 w ew => ⟨bn B - (p + 1), by omega, p + 1, by omega, rfl, by rw [ew]; exact nI_1 p, ?_, fun j hj => ?_, fun q r hqr hr' => ?_⟩, fun hu => rf h.x (hq _ _ (fun Q2 h2 => sm_number h hY hi e (fun c => by omega) (fun _ _ F kk => rfm h.L.z kk h2) (fun _ _ hDs => absurd hDs (fun hDs => ?_))))⟩
          · rw [e23, pak_or (fun q hq' => by have := hR.g hn (by decide) (show q < bn B by omega); show gv v q - 1 < 16; omega) (by omega)]
            rfl
          · rw [e22, tb3 (by omega) hj, hbt j hj]
            rfl
          · by_cases c : r = p
            · subst c
              have y := us_no.mp hu q hqr
              have y1 := hR.g hn (by decide) (show q < bn B by omega)
              have y' : gv v q - 1 ≠ gv v r - 1 := y
              omega
            · exact hd q r hqr (by omega)
          · obtain ⟨q, q1, q2⟩ := (us_iff _ _ _).mp (ts_nf hu)
            have y1 := hR.g hn (by decide) (show q < bn B by omega)
            have q2' : gv v q - 1 = gv v p - 1 := q2
            exact hDs q p q1 hlt (by omega)
  · refine ⟨h.x, ⟨h.x, xTn hr ⟨fun c => absurd rfl c, fun _ => ⟨fun c => absurd c one0, fun _ => rf h.x (hq _ _ (fun Q2 h2 => ⟨h.L.z, mTn hr ⟨fun c => absurd rfl c, fun _ => rfm h.L.z Kp.rf h2⟩⟩))⟩⟩⟩⟩
end NM
