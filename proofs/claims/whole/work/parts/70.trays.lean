/-! What a chamber tells. -/
section TL
variable {S : St} {x b m : Nat} {am : Nat → Nat} {im : Nat → Prop} {B : Bk} {Q1 : Int32 → FI → Prop}
theorem silent_eq {n : Nat} {rr : Nat → Bool} (hn : n ≤ 8) : ((shl 1 (nI n)) - 1) &&& (msk rr n ^^^ (-1)) = msk (fun p => !rr p) n := by
  rw [allBells_eq n (by omega)]
  refine msk_ext (fun j hj => ?_)
  rw [b_and, b_xor, b_m1 j hj, msk_bt _ _ hj, bt_nI hj, Nat.testBit_two_pow_sub_one]
  cases decide (j < n) <;> cases rr j <;> rfl
theorem call_told {o : Option Tc} {ot : Option (Tc × Pg)} (h : CB S x b m am im B) (hr : RC S x am im (bn B) o) (hT : TC S x am im B ot) (w : Int32) (hq : ∀ v F, Th S x m am v (P_X12_told m w (wI S F)) → Q1 v F) : P_X11_told x w S Q1 := by
  have L1 : ∀ s, LM (wI S (upI (gI S) x 0 s)) m am := fun _ => h.L
  have a0 : ∀ s, upI (gI S) x 0 s (am 0) = gI S (am 0) := fun s => up_ne (x_am h.x h.L 0)
  have hn := h.n8
  by_cases w0 : w = 0
  · subst w0
    refine ⟨h.x, fun _ => ⟨b, h.b, h.k, an h.x (hq _ _ (fun Q2 h2 => ⟨h.L.z, fun _ => ⟨am 0, h.L.r 0, h.L.k 0, h.L.i 0 (p := 0) (by decide), ?_⟩, fun c => absurd rfl c⟩))⟩, fun c => absurd rfl c⟩
    show P_X12_gives m (upI (gI S) x 0 0 (am 0) 0) _ _
    rw [(h.M1 0).1, ← h.s]
    exact gvm h.L.z Kp.rf h2
  by_cases w1 : w = 1
  · subst w1
    obtain ⟨a, ra, -, ka, la, -⟩ := h.B.2.2.2.2.2
    refine ⟨h.x, fun c => absurd c w0, fun _ => ⟨fun _ => ⟨b, h.b, h.k, a, ra, ka, an h.x (hq _ _ (fun Q2 h2 => ⟨h.L.z, fun c => absurd c w0, fun _ => ⟨fun _ => ⟨am 0, h.L.r 0, h.L.k 0, h.L.i 0 (p := 1) (by decide), ?_⟩, fun c => absurd rfl c⟩⟩))⟩, fun c => absurd rfl c⟩⟩
    show P_X12_gives m (upI (gI S) x 0 0 (am 0) 1) _ _
    rw [(h.M1 0).2.1, ← la]
    exact gvm h.L.z Kp.rf h2
  by_cases w2 : w = 2
  · subst w2
    refine ⟨h.x, fun c => absurd c w0, fun _ => ⟨fun c => absurd c w1, fun _ => ⟨fun _ => ⟨b, h.b, h.k, an h.x (hq _ _ (fun Q2 h2 => ⟨h.L.z, fun c => absurd c w0, fun _ => ⟨fun c => absurd c w1, fun _ => ⟨fun _ => sm_rowsMany (L1 0) hn h.n1 (h.M1 0).1 ?_, fun c => absurd rfl c⟩⟩⟩))⟩, fun c => absurd rfl c⟩⟩⟩
    rw [← h.r]
    exact gvm h.L.z Kp.rf h2
  by_cases w3 : w = 3
  · subst w3
    refine ⟨h.x, fun c => absurd c w0, fun _ => ⟨fun c => absurd c w1, fun _ => ⟨fun c => absurd c w2, fun _ => ⟨fun _ => ⟨b, h.b, h.k, an h.x (hq _ _ (fun Q2 h2 => ⟨h.L.z, fun c => absurd c w0, fun _ => ⟨fun c => absurd c w1, fun _ => ⟨fun c => absurd c w2, fun _ => ⟨fun _ => ⟨am 0, h.L.r 0, h.L.k 0, h.L.i 0 (p := 0) (by decide), h.L.i 0 (p := 3) (by decide), ?_⟩, fun c => absurd rfl c⟩⟩⟩⟩))⟩, fun c => absurd rfl c⟩⟩⟩⟩
    show P_X12_gives m ((shl 1 (upI (gI S) x 0 0 (am 0) 0) - 1) &&& (upI (gI S) x 0 0 (am 0) 3 ^^^ (-1))) _ _
    rw [(h.M1 0).1, (h.M1 0).2.2.1, silent_eq hn, ← h.B.2.2.2.2.1]
    exact gvm h.L.z Kp.rf h2
  by_cases w4 : w = 4
  · subst w4
    cases ot with
    | none =>
      refine ⟨h.x, fun c => absurd c w0, fun _ => ⟨fun c => absurd c w1, fun _ => ⟨fun c => absurd c w2, fun _ => ⟨fun c => absurd c w3, fun _ => ⟨fun _ => ⟨fun c => absurd hT.1 c, fun _ => rf h.x (hq _ _ (fun Q2 h2 => ⟨h.L.z, fun c => absurd c w0, fun _ => ⟨fun c => absurd c w1, fun _ => ⟨fun c => absurd c w2, fun _ => ⟨fun c => absurd c w3, fun _ => ⟨fun _ => ⟨am 0, h.L.r 0, h.L.k 0, h.L.i 0 (p := 4) (by decide), fun c => absurd (by show upI (gI S) x 0 6 (am 0) 4 = -1; rw [a0]; exact hT.2) c, fun _ => rfm h.L.z Kp.rf h2⟩, fun c => absurd rfl c⟩⟩⟩⟩⟩))⟩, fun c => absurd rfl c⟩⟩⟩⟩⟩
    | some TP =>
      obtain ⟨T, P⟩ := TP
      obtain ⟨hW, hT1, hT2, ⟨t, rt, tx⟩, hP, h5⟩ := hT
      have hK := hW.1
      refine ⟨h.x, fun c => absurd c w0, fun _ => ⟨fun c => absurd c w1, fun _ => ⟨fun c => absurd c w2, fun _ => ⟨fun c => absurd c w3, fun _ => ⟨fun _ => ⟨fun _ => ⟨t, rt, tx.2.1, an h.x (hq _ _ (fun Q2 h2 => ⟨h.L.z, fun c => absurd c w0, fun _ => ⟨fun c => absurd c w1, fun _ => ⟨fun c => absurd c w2, fun _ => ⟨fun c => absurd c w3, fun _ => ⟨fun _ => ⟨am 0, h.L.r 0, h.L.k 0, h.L.i 0 (p := 4) (by decide), fun _ => ⟨h.L.i 0 (p := 5) (by decide), ?_⟩, fun c => absurd c ?_⟩, fun c => absurd rfl c⟩⟩⟩⟩⟩))⟩, fun c => absurd c (some_ne rt)⟩, fun c => absurd rfl c⟩⟩⟩⟩⟩
      · show P_X12_gives m (upI (gI S) x 0 0 (am 0) 5) _ _
        rw [a0, h5, ← tx.2.2.2.1]
        exact gvm h.L.z Kp.rf h2
      · show ¬ upI (gI S) x 0 0 (am 0) 4 = -1
        rw [a0, hP.1]
        exact N_ne (by omega)
  by_cases w5 : w = 5
  · subst w5
    cases o with
    | none =>
      refine ⟨h.x, fun c => absurd c w0, fun _ => ⟨fun c => absurd c w1, fun _ => ⟨fun c => absurd c w2, fun _ => ⟨fun c => absurd c w3, fun _ => ⟨fun c => absurd c w4, fun _ => ⟨fun _ => ⟨fun c => absurd hr.1 c, fun _ => rf h.x (hq _ _ (fun Q2 h2 => ⟨h.L.z, fun c => absurd c w0, fun _ => ⟨fun c => absurd c w1, fun _ => ⟨fun c => absurd c w2, fun _ => ⟨fun c => absurd c w3, fun _ => ⟨fun c => absurd c w4, fun _ => ⟨fun _ => ⟨am 0, h.L.r 0, h.L.k 0, h.L.i 0 (p := 6) (by decide), ?_⟩, fun c => absurd rfl c⟩⟩⟩⟩⟩⟩))⟩, fun c => absurd rfl c⟩⟩⟩⟩⟩⟩
      show P_X12_orNone m (upI (gI S) x 0 6 (am 0) 6) _ _
      rw [a0, hr.2]
      exact ⟨h.L.z, fun c => absurd rfl c, fun _ => rfm h.L.z Kp.rf h2⟩
    | some T =>
      obtain ⟨ht, t, rt, tx, tm⟩ := hr
      refine ⟨h.x, fun c => absurd c w0, fun _ => ⟨fun c => absurd c w1, fun _ => ⟨fun c => absurd c w2, fun _ => ⟨fun c => absurd c w3, fun _ => ⟨fun c => absurd c w4, fun _ => ⟨fun _ => ⟨fun _ => ⟨t, rt, tx.2.1, sp_last tx (an h.x (hq _ _ (fun Q2 h2 => ⟨h.L.z, fun c => absurd c w0, fun _ => ⟨fun c => absurd c w1, fun _ => ⟨fun c => absurd c w2, fun _ => ⟨fun c => absurd c w3, fun _ => ⟨fun c => absurd c w4, fun _ => ⟨fun _ => ⟨am 0, h.L.r 0, h.L.k 0, h.L.i 0 (p := 6) (by decide), ?_⟩, fun c => absurd rfl c⟩⟩⟩⟩⟩⟩)))⟩, fun c => absurd c (some_ne rt)⟩, fun c => absurd rfl c⟩⟩⟩⟩⟩⟩
      show P_X12_orNone m (upI (gI S) x 0 0 (am 0) 6) _ _
      rw [a0, tm.1]
      exact ⟨h.L.z, fun _ => gvm h.L.z Kp.rf h2, fun c => absurd c (N_ne ht.1)⟩
  · exact ⟨h.x, fun c => absurd c w0, fun _ => ⟨fun c => absurd c w1, fun _ => ⟨fun c => absurd c w2, fun _ => ⟨fun c => absurd c w3, fun _ => ⟨fun c => absurd c w4, fun _ => ⟨fun c => absurd c w5, fun _ => rf h.x (hq _ _ (fun Q2 h2 => ⟨h.L.z, fun c => absurd c w0, fun _ => ⟨fun c => absurd c w1, fun _ => ⟨fun c => absurd c w2, fun _ => ⟨fun c => absurd c w3, fun _ => ⟨fun c => absurd c w4, fun _ => ⟨fun c => absurd c w5, fun _ => rfm h.L.z Kp.rf h2⟩⟩⟩⟩⟩⟩))⟩⟩⟩⟩⟩⟩
end TL
/-! Trays. -/
abbrev Yt : Type := Option (Nat × Nat × (Nat → Int64))
def TrO (S : St) (tr q a : Nat) (am : Nat → Nat) (i : Nat) : Yt → Prop
  | none => gR S tr i = none ∧ gI S (am 6) i = -1
  | some (s, n, v) => s < 4 ∧ n ≤ 60 ∧ gR S tr i = some q ∧ kd S q = 10 ∧ gI S q 0 = nI s ∧ gR S q 1 = some a ∧ kd S a = 22 ∧ ln S a = n ∧ gI S (am 5) i = nI s ∧ gI S (am 6) i = nI n ∧ ∀ k, k < n → gJ S a k = v k ∧ gJ S (am 7) (60 * i + k) = v k
def TrX (S : St) (x tr : Nat) (tq ta : Nat → Nat) (am : Nat → Nat) (Y : Nat → Yt) : Prop := gR S x 3 = some tr ∧ kd S tr = 26 ∧ ln S tr = 4 ∧ ∀ i, i < 4 → TrO S tr (tq i) (ta i) am i (Y i)
theorem xTy {i : Nat} {Q : Int32 → Prop} (h : i < 4) (hq : Q 1) : P_X11_isTray (nI i) Q := ⟨fun c => absurd c (nI_pos (by omega)), fun _ => ⟨fun c => absurd c (nI_ge (b := 4) h (by decide)), fun _ => hq⟩⟩
theorem xTn {r : Int32} {Q : Int32 → Prop} (h : NR 4 r) (hq : Q 0) : P_X11_isTray r Q := ⟨fun _ => hq, fun h0 => ⟨fun _ => hq, fun c => absurd (nr_ix (N := 4) (by decide) h h0) c⟩⟩
theorem mTy {i : Nat} {Q : Int32 → Prop} (h : i < 4) (hq : Q 1) : P_X12_isTray (nI i) Q := ⟨fun c => absurd c (nI_pos (by omega)), fun _ => ⟨fun c => absurd c (nI_ge (b := 4) h (by decide)), fun _ => hq⟩⟩
theorem mTn {r : Int32} {Q : Int32 → Prop} (h : NR 4 r) (hq : Q 0) : P_X12_isTray r Q := ⟨fun _ => hq, fun h0 => ⟨fun _ => hq, fun c => absurd (nr_ix (N := 4) (by decide) h h0) c⟩⟩
theorem sp_hasY {S : St} {q a len k c : Nat} {Q : Int32 → Prop} (hq10 : kd S q = 10) (ra : gR S q 1 = some a) (ka : kd S a = 22) (la : ln S a = len) (hl : len ≤ 60) (hk : k ≤ len) (hc : c ≤ len - k) (hq : Q 1) : P_X10_has q (nI k) (nI c) S Q := by
  refine ⟨hq10, fun c => absurd c (nI_pos (by omega)), fun _ => ⟨a, ra, ka, ?_⟩⟩
  rw [la, le_sub1 hk]
  exact ⟨fun c => absurd c (nI_nlt hk (by omega)), fun _ => ⟨fun c => absurd c (nI_nlt hc (by omega)), fun _ => hq⟩⟩
theorem sp_hasN {S : St} {q a len : Nat} {r c : Int32} {Q : Int32 → Prop} (hq10 : kd S q = 10) (ra : gR S q 1 = some a) (ka : kd S a = 22) (la : ln S a = len) (hl : len ≤ 60) (h0c : ¬ c < 0) (hn : ∀ k, k ≤ len → r = nI k → nI (len - k) < c) (hq : Q 0) : P_X10_has q r c S Q := by
  refine ⟨hq10, fun _ => hq, fun h0 => ⟨a, ra, ka, ?_⟩⟩
  rw [la]
  refine ⟨fun _ => hq, fun h1 => ⟨fun _ => hq, fun h2 => ?_⟩⟩
  obtain ⟨k, hk, rfl⟩ := nI_of h0
  have hkl : k ≤ len := by
    rcases Nat.lt_or_ge len k with y | y
    · exact absurd (nI_lt y (by omega)) h1
    · exact y
  rw [le_sub1 hkl] at h2
  exact absurd (hn k hkl rfl) h2
section TY
variable {S : St} {x b m tr : Nat} {am tq ta : Nat → Nat} {Y : Nat → Yt}
/-- why a place is not there, as a number -/
def wp (Y : Nat → Yt) (i : Nat) (p : Int32) : Nat :=
  match Y i with
  | none => 2
  | some (_, n, _) => if ¬ p < 0 ∧ p < nI n then 0 else 3
theorem xWp {i : Nat} {p : Int32} {Q : Int32 → Prop} (hx : kd S x = 11) (h : TrX S x tr tq ta am Y) (hi : i < 4) (hq : Q (nI (wp Y i p))) : P_X11_whyNoPlace x (nI i) p S Q := by
  obtain ⟨h1, h2, h3, h4⟩ := h
  have hy := h4 i hi
  unfold wp at hq
  refine ⟨hx, xTy hi ⟨fun _ => ⟨tr, h1, h2, by rw [h3]; exact vp_in_nI hi (by decide), ?_⟩, fun c => absurd c one0⟩⟩
  rw [nI_clamp (by omega)]
  cases e : Y i with
  | none =>
    rw [e] at hy hq
    exact ⟨fun c => absurd hy.1 c, fun _ => hq⟩
  | some t =>
    obtain ⟨s, n, v⟩ := t
    rw [e] at hy hq
    replace hq : Q (nI (if ¬ p < 0 ∧ p < nI n then 0 else 3)) := hq
    obtain ⟨g1, g2, g3, g4, g5, g6, g7, g8, -⟩ := hy
    refine ⟨fun _ => ⟨tq i, g3, g4, ?_⟩, fun c => absurd c (some_ne g3)⟩
    by_cases hp : ¬ p < 0 ∧ p < nI n
    · rw [if_pos hp] at hq
      obtain ⟨k, hk, rfl⟩ := nI_of hp.1
      have : k < n := by
        rcases Nat.lt_or_ge k n with y | y
        · exact y
        · exact absurd hp.2 (nI_nlt y (by omega))
      exact sp_hasY (c := 1) g4 g6 g7 g8 g2 (by omega) (by omega) ⟨fun c => absurd c one0, fun _ => hq⟩
    · rw [if_neg hp] at hq
      refine sp_hasN (c := 1) g4 g6 g7 g8 g2 (by decide) (fun k hk e => ?_) ⟨fun _ => hq, fun c => absurd rfl c⟩
      subst e
      rcases Nat.lt_or_ge k n with y | y
      · exact absurd ⟨nI_pos (by omega), nI_lt y (by omega)⟩ hp
      · exact nI_lt (b := 1) (by omega) (by decide)
theorem mWp {i : Nat} {p : Int32} {Q : Int32 → Prop} (hL : LM S m am) (h : ∀ i, i < 4 → TrO S tr (tq i) (ta i) am i (Y i)) (hi : i < 4) (hq : Q (nI (wp Y i p))) : P_X12_wrongPlace m (nI i) p S Q := by
  have hy := h i hi
  unfold wp at hq
  refine ⟨hL.z, mTy hi ⟨fun _ => ⟨am 6, hL.r 6, hL.k 6, hL.i 6 (by show i < 4; omega), ?_⟩, fun c => absurd c one0⟩⟩
  rw [nI_clamp (by omega)]
  cases e : Y i with
  | none =>
    rw [e] at hy hq
    exact ⟨fun c => absurd hy.2 c, fun _ => hq⟩
  | some t =>
    obtain ⟨s, n, v⟩ := t
    rw [e] at hy hq
    replace hq : Q (nI (if ¬ p < 0 ∧ p < nI n then 0 else 3)) := hq
    obtain ⟨g1, g2, g3, g4, g5, g6, g7, g8, g9, g10, -⟩ := hy
    rw [g10]
    refine ⟨fun _ => ?_, fun c => absurd c (N_ne (by omega))⟩
    by_cases h0 : p < 0
    · rw [if_neg (fun c => c.1 h0)] at hq
      exact ⟨fun _ => hq, fun c => absurd h0 c⟩
    · refine ⟨fun c => absurd c h0, fun _ => ?_⟩
      by_cases h1 : p < nI n
      · rw [if_pos ⟨h0, h1⟩] at hq
        exact ⟨fun _ => hq, fun c => absurd h1 c⟩
      · rw [if_neg (fun c => h1 c.2)] at hq
        exact ⟨fun c => absurd c h1, fun _ => hq⟩
theorem wp_le (Y : Nat → Yt) (i : Nat) (p : Int32) : wp Y i p ≤ 3 := by
  unfold wp
  split
  · decide
  · split <;> decide
theorem wp_0 {i : Nat} {p : Int32} (h : wp Y i p = 0) : ∃ s n v k, Y i = some (s, n, v) ∧ p = nI k ∧ k < n := by
  unfold wp at h
  cases e : Y i with
  | none => rw [e] at h; cases h
  | some t =>
    obtain ⟨s, n, v⟩ := t
    rw [e] at h
    by_cases hp : ¬ p < 0 ∧ p < nI n
    · obtain ⟨k, hk, rfl⟩ := nI_of hp.1
      refine ⟨s, n, v, k, rfl, rfl, ?_⟩
      rcases Nat.lt_or_ge k n with y | y
      · exact y
      · exact absurd hp.2 (nI_nlt y (by omega))
    · simp only [hp, if_false] at h
      cases h
end TY
