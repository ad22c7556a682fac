/-! Texts: their bytes, and how they are cut. -/
def sb (c : Nat) : Int32 := (Int8.ofNat c).toInt32
theorem sb_and : ∀ c, c < 256 → sb c &&& 255 = nI c := by decide +kernel
theorem sb_lo : ∀ c, c < 128 → sb c = nI c := by decide +kernel
theorem sb_hi : ∀ c, c < 256 → 128 ≤ c → sb c < 0 := by decide +kernel
theorem sb_ex (w : Int8) : ∃ c, c < 256 ∧ w.toInt32 = sb c := ⟨w.toBitVec.toNat, w.toBitVec.isLt, by
  unfold sb
  congr 1
  apply Int8.toBitVec_inj.mp
  show w.toBitVec = BitVec.ofNat 8 w.toBitVec.toNat
  simp⟩
theorem sb_eq {c v : Nat} (hc : c < 256) (hv : v < 128) : sb c = nI v ↔ c = v := by
  rcases Nat.lt_or_ge c 128 with h | h
  · rw [sb_lo c h]; exact nI_eq (by omega) (by omega)
  · refine ⟨fun e => ?_, fun e => by omega⟩
    have := sb_hi c hc h
    rw [e] at this
    exact absurd this (nI_pos (by omega))
theorem sb_lt {c v : Nat} (hc : c < 256) (hv : v < 128) : ¬ sb c < nI v ↔ v ≤ c ∧ c < 128 := by
  rcases Nat.lt_or_ge c 128 with h | h
  · rw [sb_lo c h]
    refine ⟨fun e => ⟨?_, h⟩, fun e => nI_nlt e.1 (by omega)⟩
    rcases Nat.lt_or_ge c v with g | g
    · exact absurd (nI_lt g (by omega)) e
    · exact g
  · refine ⟨fun e => absurd ?_ e, fun e => by omega⟩
    have h1 := (fa_lt _ _).mp (sb_hi c hc h)
    rw [fa_lt]
    have h2 : (0 : Int32).toInt = 0 := rfl
    have h3 : ¬ nI v < 0 := nI_pos (by omega)
    rw [fa_lt] at h3
    omega
theorem sb_gt {c v : Nat} (hc : c < 256) (hv : v < 128) : nI v < sb c ↔ v < c ∧ c < 128 := by
  rcases Nat.lt_or_ge c 128 with h | h
  · rw [sb_lo c h]
    refine ⟨fun e => ⟨?_, h⟩, fun e => nI_lt e.1 (by omega)⟩
    rcases Nat.lt_or_ge v c with g | g
    · exact g
    · exact absurd e (nI_nlt g (by omega))
  · refine ⟨fun e => ?_, fun e => by omega⟩
    have h1 := (fa_lt _ _).mp (sb_hi c hc h)
    rw [fa_lt] at e
    have h2 : (0 : Int32).toInt = 0 := rfl
    have h3 : ¬ nI v < 0 := nI_pos (by omega)
    rw [fa_lt] at h3
    omega
def isL (c : Nat) : Bool := decide (97 ≤ c) && decide (c ≤ 122)
def isD (c : Nat) : Bool := decide (48 ≤ c) && decide (c ≤ 57)
def isS (c : Nat) : Bool := decide (c = 32) || decide (c = 10)
theorem isL_iff {c : Nat} : isL c = true ↔ 97 ≤ c ∧ c ≤ 122 := by unfold isL; simp
theorem isD_iff {c : Nat} : isD c = true ↔ 48 ≤ c ∧ c ≤ 57 := by unfold isD; simp
theorem isS_iff {c : Nat} : isS c = true ↔ c = 32 ∨ c = 10 := by unfold isS; simp
section TX
variable (tx : Nat → Nat) (L : Nat)
def rnf (q : Nat → Bool) : Nat → Nat → Nat
  | 0, s => s
  | f + 1, s => if s < L ∧ q (tx s) = true then rnf q f (s + 1) else s
def rnn (q : Nat → Bool) (s : Nat) : Nat := rnf tx L q (L - s) s
end TX
section TY
variable {tx : Nat → Nat} {L : Nat}
theorem rnf_eq {q : Nat → Bool} : ∀ f s e, s ≤ e → L - s ≤ f → (∀ j, s ≤ j → j < e → j < L ∧ q (tx j) = true) → ¬ (e < L ∧ q (tx e) = true) → rnf tx L q f s = e
  | 0, s, e, h1, h2, h3, h4 => by
    show s = e
    rcases Nat.lt_or_ge s e with h | h
    · have := (h3 s (Nat.le_refl _) h).1; omega
    · omega
  | f + 1, s, e, h1, h2, h3, h4 => by
    show (if s < L ∧ q (tx s) = true then rnf tx L q f (s + 1) else s) = e
    rcases Nat.lt_or_ge s e with h | h
    · have := h3 s (Nat.le_refl _) h
      rw [if_pos this]
      exact rnf_eq f (s + 1) e h (by omega) (fun j y1 y2 => h3 j (by omega) y2) h4
    · have : s = e := by omega
      subst this
      rw [if_neg h4]
theorem rnn_eq {q : Nat → Bool} {s e : Nat} (h1 : s ≤ e) (h3 : ∀ j, s ≤ j → j < e → j < L ∧ q (tx j) = true) (h4 : ¬ (e < L ∧ q (tx e) = true)) : rnn tx L q s = e := rnf_eq _ s e h1 (Nat.le_refl _) h3 h4
theorem rnf_sp (q : Nat → Bool) : ∀ f s, L - s ≤ f → s ≤ rnf tx L q f s ∧ (∀ j, s ≤ j → j < rnf tx L q f s → j < L ∧ q (tx j) = true) ∧ ¬ (rnf tx L q f s < L ∧ q (tx (rnf tx L q f s)) = true) ∧ (s ≤ L → rnf tx L q f s ≤ L)
  | 0, s, h => ⟨Nat.le_refl _, fun j y1 y2 => by have : j < s := y2; omega, fun y => by have : s < L := y.1; omega, fun y => y⟩
  | f + 1, s, h => by
    show s ≤ (if s < L ∧ q (tx s) = true then rnf tx L q f (s + 1) else s) ∧ (∀ j, s ≤ j → j < (if s < L ∧ q (tx s) = true then rnf tx L q f (s + 1) else s) → _) ∧ ¬ ((if s < L ∧ q (tx s) = true then rnf tx L q f (s + 1) else s) < L ∧ q (tx (if s < L ∧ q (tx s) = true then rnf tx L q f (s + 1) else s)) = true) ∧ (s ≤ L → (if s < L ∧ q (tx s) = true then rnf tx L q f (s + 1) else s) ≤ L)
    by_cases c : s < L ∧ q (tx s) = true
    · rw [if_pos c]
      obtain ⟨h1, h2, h3, h4⟩ := rnf_sp q f (s + 1) (by omega)
      refine ⟨by omega, fun j y1 y2 => ?_, h3, fun _ => h4 (by omega)⟩
      by_cases cj : j = s
      · subst cj; exact c
      · exact h2 j (by omega) y2
    · rw [if_neg c]
      exact ⟨Nat.le_refl _, fun j y1 y2 => by omega, c, fun y => y⟩
theorem rnn_sp (q : Nat → Bool) (s : Nat) : s ≤ rnn tx L q s ∧ (∀ j, s ≤ j → j < rnn tx L q s → j < L ∧ q (tx j) = true) ∧ ¬ (rnn tx L q s < L ∧ q (tx (rnn tx L q s)) = true) ∧ (s ≤ L → rnn tx L q s ≤ L) := rnf_sp q _ s (Nat.le_refl _)
end TY
/-- the letters of a word -/
def lw (tx : Nat → Nat) (s n : Nat) : List Nat := (List.range n).map (fun i => tx (s + i) - 96)
theorem lw_s (tx : Nat → Nat) (s n : Nat) : lw tx s (n + 1) = lw tx s n ++ [tx (s + n) - 96] := by
  unfold lw
  rw [List.range_succ, List.map_append]
  rfl
theorem lw_len (tx : Nat → Nat) (s n : Nat) : (lw tx s n).length = n := by unfold lw; rw [List.length_map, List.length_range]
theorem lw_get (tx : Nat → Nat) (s : Nat) {n i : Nat} (h : i < n) : (lw tx s n).getD i 0 = tx (s + i) - 96 := by
  unfold lw
  rw [List.getD_eq_getElem?_getD, List.getElem?_map, List.getElem?_range h]
  rfl
theorem list_eq {l k : List Nat} (h : l.length = k.length) (h2 : ∀ i, i < l.length → l.getD i 0 = k.getD i 0) : l = k := by
  refine List.ext_getElem h (fun i h1 h3 => ?_)
  have := h2 i h1
  rw [List.getD_eq_getElem?_getD, List.getD_eq_getElem?_getD, List.getElem?_eq_getElem h1, List.getElem?_eq_getElem h3] at this
  exact this
/-- the number that digits spell -/
def dgv (tx : Nat → Nat) (s : Nat) : Nat → Nat
  | 0 => 0
  | n + 1 => dgv tx s n * 10 + (tx (s + n) - 48)
def KC : List (List Nat) := [[19, 20, 1, 7, 5], [13, 5, 20, 8, 15, 4], [24], [2, 1, 3, 11], [2, 15, 2], [19, 9, 14, 7, 12, 5], [18, 9, 14, 7, 5, 18], [16, 12, 1, 9, 14], [16, 1, 18, 20], [12, 15, 15, 16], [5, 14, 4], [19, 20, 15, 16]]
def kcw (i : Nat) : List Nat := KC.getD i []
def kwr (l : List Nat) : Nat → Nat
  | 0 => 4
  | i + 1 => if l = kcw i then 6 + i else kwr l i
def kwk (l : List Nat) : Nat := kwr l 12
theorem kwk_y : ∀ i, i < 12 → kwk (kcw i) = 6 + i := by decide
theorem kwr_n (l : List Nat) : ∀ n, (∀ i, i < n → l ≠ kcw i) → kwr l n = 4
  | 0, _ => rfl
  | n + 1, h => by
    show (if l = kcw n then 6 + n else kwr l n) = 4
    rw [if_neg (h n (by omega))]
    exact kwr_n l n (fun i hi => h i (by omega))
theorem kwr_c (l : List Nat) : ∀ n, (kwr l n = 4 ∧ ∀ i, i < n → l ≠ kcw i) ∨ ∃ i, i < n ∧ l = kcw i ∧ kwr l n = 6 + i
  | 0 => Or.inl ⟨rfl, fun i hi => by omega⟩
  | n + 1 => by
    show ((if l = kcw n then 6 + n else kwr l n) = 4 ∧ _) ∨ ∃ i, i < n + 1 ∧ l = kcw i ∧ (if l = kcw n then 6 + n else kwr l n) = 6 + i
    by_cases c : l = kcw n
    · rw [if_pos c]; exact Or.inr ⟨n, by omega, c, rfl⟩
    · rw [if_neg c]
      rcases kwr_c l n with ⟨h1, h2⟩ | ⟨i, h1, h2, h3⟩
      · refine Or.inl ⟨h1, fun i hi => ?_⟩
        by_cases ci : i = n
        · subst ci; exact c
        · exact h2 i (by omega)
      · exact Or.inr ⟨i, by omega, h2, h3⟩
section TK
variable (tx : Nat → Nat) (L : Nat)
def sk (p : Nat) : Nat := rnn tx L isS p
def en (s : Nat) : Nat := if s < L then (if isL (tx s) = true then rnn tx L isL s else if isD (tx s) = true then rnn tx L isD s else s + 1) else s
def nx (p : Nat) : Nat := en tx L (sk tx L p)
def wd (p : Nat) : List Nat := lw tx (sk tx L p) (nx tx L p - sk tx L p)
def vl' (p : Nat) : Nat := dgv tx (sk tx L p) (nx tx L p - sk tx L p)
def tk (p : Nat) : Nat := if sk tx L p < L then (if isL (tx (sk tx L p)) = true then (if nx tx L p - sk tx L p ≤ 8 then kwk (wd tx L p) else 5) else if isD (tx (sk tx L p)) = true then (if nx tx L p - sk tx L p ≤ 8 then 3 else 0) else if tx (sk tx L p) = 59 then 2 else 0) else 1
end TK
/-- the class's text -/
def TxC (S : St) (F : FI) (J : Nat → Nat → Int64) (k tt rv : Nat) (tx : Nat → Nat) (L : Nat) : Prop := kd S k = 7 ∧ gR S k 0 = some tt ∧ kd S tt = 20 ∧ ln S tt = 900 ∧ L ≤ 900 ∧ F k 3 = nI L ∧ (∀ j, j < L → tx j < 256 ∧ F tt j = sb (tx j)) ∧ gR S k 2 = some rv ∧ kd S rv = 22 ∧ ln S rv = 12 ∧ ∀ i, i < 12 → J rv i = n27 (kcw i)
def TkC (F : FI) (J : Nat → Nat → Int64) (k : Nat) (tx : Nat → Nat) (L p : Nat) : Prop := F k 4 = nI (sk tx L p) ∧ F k 5 = nI (nx tx L p) ∧ F k 6 = nI (tk tx L p) ∧ (tk tx L p = 3 → F k 7 = nI (vl' tx L p)) ∧ (tk tx L p = 4 → J k 8 = n27 (wd tx L p))
