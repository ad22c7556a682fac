/-! A touch as steps: how they are gone through. -/
abbrev Pg : Type := Nat × (Nat → Nat) × (Nat → Nat) × (Nat → Nat)
def pgK (P : Pg) : Nat := P.1
def pgk (P : Pg) : Nat → Nat := P.2.1
def pgm (P : Pg) : Nat → Nat := P.2.2.1
def pgc (P : Pg) : Nat → Nat := P.2.2.2
/-- the loops that are open ahead of a step, the inmost first -/
def nst (P : Pg) : Nat → List Nat
  | 0 => []
  | k + 1 => if pgk P k = 9 then k :: nst P k else if pgk P k = 10 then (nst P k).tail else nst P k
theorem nst_9 {P : Pg} {k : Nat} (h : pgk P k = 9) : nst P (k + 1) = k :: nst P k := by
  show (if pgk P k = 9 then k :: nst P k else _) = _
  rw [if_pos h]
theorem nst_10 {P : Pg} {k : Nat} (h : pgk P k = 10) : nst P (k + 1) = (nst P k).tail := by
  show (if pgk P k = 9 then k :: nst P k else if pgk P k = 10 then (nst P k).tail else nst P k) = _
  rw [if_neg (by omega), if_pos h]
theorem nst_n {P : Pg} {k : Nat} (h : pgk P k ≠ 9) (h2 : pgk P k ≠ 10) : nst P (k + 1) = nst P k := by
  show (if pgk P k = 9 then k :: nst P k else if pgk P k = 10 then (nst P k).tail else nst P k) = _
  rw [if_neg h, if_neg h2]
theorem nst_head (P : Pg) : ∀ n k, k < n → ∀ o t, nst P k = o :: t → pgk P o = 9 ∧ nst P o = t ∧ o < k
  | 0, k, h => by omega
  | n + 1, 0, _ => fun o t e => by cases e
  | n + 1, k + 1, h => fun o t e => by
    by_cases c : pgk P k = 9
    · rw [nst_9 c] at e
      injection e with e1 e2
      subst e1
      exact ⟨c, e2, by omega⟩
    · by_cases c2 : pgk P k = 10
      · rw [nst_10 c2] at e
        cases hk : nst P k with
        | nil => rw [hk] at e; cases e
        | cons o' t' =>
          rw [hk] at e
          obtain ⟨h1, h2, h3⟩ := nst_head P n k (by omega) o' t' hk
          have e' : t' = o :: t := e
          obtain ⟨g1, g2, g3⟩ := nst_head P n o' (by omega) o t (h2.trans e')
          exact ⟨g1, g2, by omega⟩
      · rw [nst_n c c2] at e
        obtain ⟨h1, h2, h3⟩ := nst_head P n k (by omega) o t e
        exact ⟨h1, h2, by omega⟩
theorem nst_hd {P : Pg} {k o : Nat} {t : List Nat} (h : nst P k = o :: t) : pgk P o = 9 ∧ nst P o = t ∧ o < k ∧ nst P (o + 1) = o :: t := by
  obtain ⟨h1, h2, h3⟩ := nst_head P (k + 1) k (by omega) o t h
  exact ⟨h1, h2, h3, by rw [nst_9 h1, h2]⟩
theorem nst_lt (P : Pg) : ∀ k o, o ∈ nst P k → o < k
  | 0, o, h => by simp [nst] at h
  | k + 1, o, h => by
    by_cases c : pgk P k = 9
    · rw [nst_9 c] at h
      rcases List.mem_cons.mp h with e | e
      · omega
      · have := nst_lt P k o e; omega
    · by_cases c2 : pgk P k = 10
      · rw [nst_10 c2] at h
        have := nst_lt P k o (List.mem_of_mem_tail h); omega
      · rw [nst_n c c2] at h
        have := nst_lt P k o h; omega
theorem nst_dec {P : Pg} {k o : Nat} {t : List Nat} (h : nst P k = o :: t) : ∀ o', o' ∈ t → o' ≠ o := fun o' ho e => by
  obtain ⟨-, h2, -, -⟩ := nst_hd h
  have := nst_lt P o o' (by rw [h2]; exact ho)
  omega
def pgl (P : Pg) (k : Nat) : Nat := if pgk P k = 5 then 1 else if pgk P k = 6 then 2 else 0
theorem pgl_2 (P : Pg) (k : Nat) : pgl P k ≤ 2 := by unfold pgl; by_cases c : pgk P k = 5 <;> by_cases c2 : pgk P k = 6 <;> simp [c, c2]
def pgn (B : Bk) (P : Pg) (k : Nat) : Nat := if pgk P k = 8 then pgc P k else bl B (pgm P k)
abbrev Cf : Type := Nat × List Nat × Nat × Nat × (Nat → Nat → Bool)
def stp (B : Bk) (P : Pg) (c : Cf) : Cf :=
  if pgK P ≤ c.1 then c
  else if pgk P c.1 = 10 then
    match c.2.1 with
    | [] => (c.1 + 1, [], c.2.2)
    | l :: t => if 1 < l then ((nst P c.1).headD 0 + 1, (l - 1) :: t, c.2.2) else (c.1 + 1, t, c.2.2)
  else if pgk P c.1 = 11 ∨ 300 ≤ c.2.2.1 then c
  else if pgk P c.1 = 9 then (c.1 + 1, pgc P c.1 :: c.2.1, c.2.2.1 + 1, c.2.2.2)
  else (c.1 + 1, c.2.1, c.2.2.1 + 1, c.2.2.2.1 + min (pgn B P c.1) (2000 - c.2.2.2.1), fun j => if c.2.2.2.1 ≤ j then bch B (pgm P c.1) (pgl P c.1) (j - c.2.2.2.1) else c.2.2.2.2 j)
def itp (B : Bk) (P : Pg) : Nat → Cf
  | 0 => (0, [], 0, 0, fun _ _ => false)
  | i + 1 => stp B P (itp B P i)
def PW (B : Bk) (P : Pg) : Prop := pgK P ≤ 60 ∧ nst P (pgK P) = [] ∧ (∀ k, k ≤ pgK P → (nst P k).length ≤ 3) ∧ ∀ k, k < pgK P → ((pgk P k = 5 ∨ pgk P k = 6 ∨ pgk P k = 7) ∧ pgm P k < bM B) ∨ (pgk P k = 8 ∧ pgm P k < bM B ∧ 1 ≤ pgc P k ∧ pgc P k ≤ bl B (pgm P k)) ∨ (pgk P k = 9 ∧ 1 ≤ pgc P k ∧ pgc P k ≤ 99) ∨ (pgk P k = 10 ∧ nst P k ≠ []) ∨ pgk P k = 11
def sL : List Nat → Nat
  | [] => 0
  | l :: t => l + sL t
def lsk (ls : List Nat) : Prop := ∀ l, l ∈ ls → 1 ≤ l ∧ l ≤ 99
def CI (B : Bk) (P : Pg) (c : Cf) : Prop := c.1 ≤ pgK P ∧ c.2.1.length = (nst P c.1).length ∧ lsk c.2.1 ∧ c.2.2.1 ≤ 300 ∧ c.2.2.2.1 ≤ 2000 ∧ ∀ j, j < c.2.2.2.1 → Sw (bn B) (c.2.2.2.2 j)
def BI (i : Nat) (c : Cf) : Prop := i + sL c.2.1 ≤ 100 * c.2.2.1
/-- the cases of a step -/
theorem stp_halt {B : Bk} {P : Pg} {c : Cf} (h : pgK P ≤ c.1 ∨ (pgk P c.1 ≠ 10 ∧ (pgk P c.1 = 11 ∨ 300 ≤ c.2.2.1))) : stp B P c = c := by
  unfold stp
  rcases h with h | ⟨h1, h2⟩
  · rw [if_pos h]
  · by_cases c1 : pgK P ≤ c.1
    · rw [if_pos c1]
    · rw [if_neg c1, if_neg h1, if_pos h2]
theorem stp_c1 {B : Bk} {P : Pg} {c : Cf} {l : Nat} {t : List Nat} (h1 : c.1 < pgK P) (h2 : pgk P c.1 = 10) (h3 : c.2.1 = l :: t) (h4 : 1 < l) : stp B P c = ((nst P c.1).headD 0 + 1, (l - 1) :: t, c.2.2) := by
  unfold stp
  rw [if_neg (by omega), if_pos h2, h3]
  show (if 1 < l then _ else _) = _
  rw [if_pos h4]
theorem stp_c2 {B : Bk} {P : Pg} {c : Cf} {l : Nat} {t : List Nat} (h1 : c.1 < pgK P) (h2 : pgk P c.1 = 10) (h3 : c.2.1 = l :: t) (h4 : ¬ 1 < l) : stp B P c = (c.1 + 1, t, c.2.2) := by
  unfold stp
  rw [if_neg (by omega), if_pos h2, h3]
  show (if 1 < l then _ else _) = _
  rw [if_neg h4]
theorem stp_lo {B : Bk} {P : Pg} {c : Cf} (h1 : c.1 < pgK P) (h2 : pgk P c.1 = 9) (h3 : c.2.2.1 < 300) : stp B P c = (c.1 + 1, pgc P c.1 :: c.2.1, c.2.2.1 + 1, c.2.2.2) := by
  unfold stp
  rw [if_neg (by omega), if_neg (by omega), if_neg (by omega), if_pos h2]
theorem stp_le {B : Bk} {P : Pg} {c : Cf} (h1 : c.1 < pgK P) (h2 : pgk P c.1 ≠ 10) (h4 : pgk P c.1 ≠ 11) (h5 : pgk P c.1 ≠ 9) (h3 : c.2.2.1 < 300) : stp B P c = (c.1 + 1, c.2.1, c.2.2.1 + 1, c.2.2.2.1 + min (pgn B P c.1) (2000 - c.2.2.2.1), fun j => if c.2.2.2.1 ≤ j then bch B (pgm P c.1) (pgl P c.1) (j - c.2.2.2.1) else c.2.2.2.2 j) := by
  unfold stp
  rw [if_neg (by omega), if_neg h2, if_neg (fun e => e.elim h4 (by omega)), if_neg h5]
theorem pgn_ok {B : Bk} {P : Pg} (hb : bok B) (hW : PW B P) {k : Nat} (h1 : k < pgK P) (h2 : pgk P k ≠ 10) (h4 : pgk P k ≠ 11) (h5 : pgk P k ≠ 9) : pgm P k < bM B ∧ 1 ≤ pgn B P k ∧ pgn B P k ≤ bl B (pgm P k) := by
  unfold pgn
  rcases hW.2.2.2 k h1 with ⟨y1, y2⟩ | ⟨y1, y2, y3, y4⟩ | ⟨y1, -⟩ | ⟨y1, -⟩ | y1
  · obtain ⟨b1, b2⟩ := bl_32 hb y2
    rw [if_neg (by omega)]
    exact ⟨y2, b1, Nat.le_refl _⟩
  · rw [if_pos y1]
    exact ⟨y2, y3, y4⟩
  · exact absurd y1 h5
  · exact absurd y1 h2
  · exact absurd y1 h4
theorem CI_stp {B : Bk} {P : Pg} (hb : bok B) (hW : PW B P) {c : Cf} (h : CI B P c) : CI B P (stp B P c) := by
  obtain ⟨h1, h2, h3, h4, h5, h6⟩ := h
  by_cases c1 : pgK P ≤ c.1
  · rw [stp_halt (Or.inl c1)]; exact ⟨h1, h2, h3, h4, h5, h6⟩
  · have hk : c.1 < pgK P := by omega
    by_cases c2 : pgk P c.1 = 10
    · have hne : nst P c.1 ≠ [] := by
        rcases hW.2.2.2 c.1 hk with ⟨y1, -⟩ | ⟨y1, -⟩ | ⟨y1, -⟩ | ⟨-, y⟩ | y1
        · omega
        · omega
        · omega
        · exact y
        · omega
      cases hn : nst P c.1 with
      | nil => exact absurd hn hne
      | cons o t =>
        cases hl : c.2.1 with
        | nil => rw [hl, hn] at h2; cases h2
        | cons l lt =>
          have ll := h3 l (by rw [hl]; exact List.mem_cons_self ..)
          have e2 : lt.length = t.length := by
            rw [hl, hn, List.length_cons, List.length_cons] at h2
            omega
          by_cases c3 : 1 < l
          · rw [stp_c1 hk c2 hl c3, hn]
            obtain ⟨g1, g2, g3, g4⟩ := nst_hd hn
            refine ⟨?_, ?_, ?_, h4, h5, h6⟩
            · show o + 1 ≤ pgK P; omega
            · show ((l - 1) :: lt).length = (nst P (o + 1)).length
              rw [g4, List.length_cons, List.length_cons, e2]
            · intro y hy
              rcases List.mem_cons.mp hy with e | e
              · omega
              · exact h3 y (by rw [hl]; exact List.mem_cons_of_mem _ e)
          · rw [stp_c2 hk c2 hl c3]
            refine ⟨hk, ?_, ?_, h4, h5, h6⟩
            · show lt.length = (nst P (c.1 + 1)).length
              rw [nst_10 c2, hn]; exact e2
            · exact fun y hy => h3 y (by rw [hl]; exact List.mem_cons_of_mem _ hy)
    · by_cases c3 : pgk P c.1 = 11 ∨ 300 ≤ c.2.2.1
      · rw [stp_halt (Or.inr ⟨c2, c3⟩)]; exact ⟨h1, h2, h3, h4, h5, h6⟩
      · have c4 : pgk P c.1 ≠ 11 := fun e => c3 (Or.inl e)
        have c5 : c.2.2.1 < 300 := by
          rcases Nat.lt_or_ge c.2.2.1 300 with y | y
          · exact y
          · exact absurd (Or.inr y) c3
        by_cases c6 : pgk P c.1 = 9
        · rw [stp_lo hk c6 c5]
          have hc : 1 ≤ pgc P c.1 ∧ pgc P c.1 ≤ 99 := by
            rcases hW.2.2.2 c.1 hk with ⟨y1, -⟩ | ⟨y1, -⟩ | ⟨-, y⟩ | ⟨y, -⟩ | y1
            · omega
            · omega
            · exact y
            · omega
            · omega
          refine ⟨hk, ?_, ?_, by show c.2.2.1 + 1 ≤ 300; omega, h5, h6⟩
          · show (pgc P c.1 :: c.2.1).length = (nst P (c.1 + 1)).length
            rw [nst_9 c6, List.length_cons, List.length_cons, h2]
          · intro y hy
            rcases List.mem_cons.mp hy with e | e
            · rw [e]; exact hc
            · exact h3 y e
        · rw [stp_le hk c2 c4 c6 c5]
          obtain ⟨q1, q2, q3⟩ := pgn_ok hb hW hk c2 c4 c6
          refine ⟨hk, ?_, h3, by show c.2.2.1 + 1 ≤ 300; omega, ?_, ?_⟩
          · show c.2.1.length = (nst P (c.1 + 1)).length
            rw [nst_n c6 c2, h2]
          · show c.2.2.2.1 + min (pgn B P c.1) (2000 - c.2.2.2.1) ≤ 2000
            omega
          · intro j hj
            have hj' : j < c.2.2.2.1 + min (pgn B P c.1) (2000 - c.2.2.2.1) := hj
            show Sw (bn B) (if c.2.2.2.1 ≤ j then _ else _)
            by_cases c7 : c.2.2.2.1 ≤ j
            · rw [if_pos c7]
              exact bch_sw hb q1 (pgl_2 P _) (by omega)
            · rw [if_neg c7]
              exact h6 j (by omega)
theorem CI_it {B : Bk} {P : Pg} (hb : bok B) (hW : PW B P) : ∀ i, CI B P (itp B P i)
  | 0 => ⟨Nat.zero_le _, rfl, (fun l hl => by cases hl), Nat.zero_le _, Nat.zero_le _, (fun j hj => absurd hj (Nat.not_lt_zero j))⟩
  | i + 1 => CI_stp hb hW (CI_it hb hW i)
/-- what is rung stays rung -/
theorem stp_pre {B : Bk} {P : Pg} (c : Cf) : c.2.2.2.1 ≤ (stp B P c).2.2.2.1 ∧ (∀ j, j < c.2.2.2.1 → (stp B P c).2.2.2.2 j = c.2.2.2.2 j) ∧ (c.2.2.2.1 = 2000 → (stp B P c).2.2.2.1 = 2000) := by
  by_cases c1 : pgK P ≤ c.1
  · rw [stp_halt (Or.inl c1)]; exact ⟨Nat.le_refl _, fun _ _ => rfl, id⟩
  · by_cases c2 : pgk P c.1 = 10
    · cases hl : c.2.1 with
      | nil =>
        have : stp B P c = (c.1 + 1, [], c.2.2) := by
          unfold stp
          rw [if_neg c1, if_pos c2, hl]
        rw [this]; exact ⟨Nat.le_refl _, fun _ _ => rfl, id⟩
      | cons l lt =>
        by_cases c3 : 1 < l
        · rw [stp_c1 (by omega) c2 hl c3]; exact ⟨Nat.le_refl _, fun _ _ => rfl, id⟩
        · rw [stp_c2 (by omega) c2 hl c3]; exact ⟨Nat.le_refl _, fun _ _ => rfl, id⟩
    · by_cases c3 : pgk P c.1 = 11 ∨ 300 ≤ c.2.2.1
      · rw [stp_halt (Or.inr ⟨c2, c3⟩)]; exact ⟨Nat.le_refl _, fun _ _ => rfl, id⟩
      · have c4 : pgk P c.1 ≠ 11 := fun e => c3 (Or.inl e)
        have c5 : c.2.2.1 < 300 := by
          rcases Nat.lt_or_ge c.2.2.1 300 with y | y
          · exact y
          · exact absurd (Or.inr y) c3
        by_cases c6 : pgk P c.1 = 9
        · rw [stp_lo (by omega) c6 c5]; exact ⟨Nat.le_refl _, fun _ _ => rfl, id⟩
        · rw [stp_le (by omega) c2 c4 c6 c5]
          refine ⟨Nat.le_add_right _ _, fun j hj => if_neg (by omega), fun e => ?_⟩
          show c.2.2.2.1 + min (pgn B P c.1) (2000 - c.2.2.2.1) = 2000
          omega
theorem itp_pre {B : Bk} {P : Pg} (i : Nat) : ∀ n, (itp B P i).2.2.2.1 ≤ (itp B P (i + n)).2.2.2.1 ∧ (∀ j, j < (itp B P i).2.2.2.1 → (itp B P (i + n)).2.2.2.2 j = (itp B P i).2.2.2.2 j) ∧ ((itp B P i).2.2.2.1 = 2000 → (itp B P (i + n)).2.2.2.1 = 2000)
  | 0 => ⟨Nat.le_refl _, fun _ _ => rfl, id⟩
  | n + 1 => by
    obtain ⟨h1, h2, h3⟩ := itp_pre (B := B) (P := P) i n
    obtain ⟨g1, g2, g3⟩ := stp_pre (B := B) (P := P) (itp B P (i + n))
    exact ⟨Nat.le_trans h1 g1, fun j hj => (g2 j (by omega)).trans (h2 j hj), fun e => g3 (h3 e)⟩
theorem itp_halt {B : Bk} {P : Pg} {i : Nat} (h : stp B P (itp B P i) = itp B P i) : ∀ n, itp B P (i + n) = itp B P i
  | 0 => rfl
  | n + 1 => by
    show stp B P (itp B P (i + n)) = _
    rw [itp_halt h n, h]
/-- the touch that steps come to -/
def pgT (B : Bk) (P : Pg) (st : Nat) : Tc := (st, (itp B P 30300).2.2.2.1, (itp B P 30300).2.2.2.2)
theorem pgT_ok {B : Bk} {P : Pg} (hb : bok B) (hW : PW B P) (st : Nat) : tok (bn B) (pgT B P st) := by
  obtain ⟨-, -, -, -, h5, h6⟩ := CI_it hb hW 30300
  exact ⟨h5, h6⟩
theorem pgT_pre {B : Bk} {P : Pg} {st i : Nat} (h : i ≤ 30300) : (itp B P i).2.2.2.1 ≤ tN (pgT B P st) ∧ ∀ j, j < (itp B P i).2.2.2.1 → tv (pgT B P st) j = (itp B P i).2.2.2.2 j := by
  obtain ⟨h1, h2, -⟩ := itp_pre (B := B) (P := P) i (30300 - i)
  rw [show i + (30300 - i) = 30300 by omega] at h1 h2
  exact ⟨h1, h2⟩
theorem pgT_halt {B : Bk} {P : Pg} {st i : Nat} (h : i ≤ 30300) (hh : stp B P (itp B P i) = itp B P i) : tN (pgT B P st) = (itp B P i).2.2.2.1 := by
  have := itp_halt hh (30300 - i)
  rw [show i + (30300 - i) = 30300 by omega] at this
  show (itp B P 30300).2.2.2.1 = _
  rw [this]
theorem pgT_full {B : Bk} {P : Pg} {st i : Nat} (h : i ≤ 30300) (hh : (itp B P i).2.2.2.1 = 2000) : tN (pgT B P st) = 2000 := by
  obtain ⟨-, -, h3⟩ := itp_pre (B := B) (P := P) i (30300 - i)
  rw [show i + (30300 - i) = 30300 by omega] at h3
  exact h3 hh
/-! Ringers who go astray by draws. -/
def drw (sd : Nat) : Nat → Nat
  | 0 => sd
  | k + 1 => (drw sd k * 2693 + 10007) % 65536
theorem drw_lt {sd : Nat} (h : sd < 65536) : ∀ k, drw sd k < 65536
  | 0 => h
  | k + 1 => Nat.mod_lt _ (by decide)
def rwl (T : Tc) (l : Nat → Bool) : Nat → Nat → Nat
  | 0 => fun p => p
  | k + 1 => chd (swl (l k) (tv T k)) (rwl T l k)
theorem rwl_pm {n : Nat} {T : Tc} {l : Nat → Bool} (h : tok n T) : ∀ k, k ≤ tN T → Pm n (rwl T l k)
  | 0, _ => pm_id n
  | k + 1, hk => chd_pm (swl_sw (l k) (h.2 k (by omega))) (rwl_pm h k (by omega))
theorem rwl_f (T : Tc) : ∀ k, rwl T (fun _ => false) k = trw T k
  | 0 => rfl
  | k + 1 => by
    show chd (swl false (tv T k)) (rwl T (fun _ => false) k) = chd (tv T k) (trw T k)
    rw [swl_f, rwl_f T k]
def lst (sx : Option Nat) (sd k : Nat) : Bool :=
  match sx with
  | none => false
  | some z => decide (drw sd (k + 1) / 8 % 16 < z)
def sxI : Option Nat → Int32
  | none => -1
  | some z => nI z
/-! The reference goes through the steps. -/
def PMd (P : Pg) (A : Nat → Int32) : Prop := A 4 = nI (pgK P) ∧ ∀ k, k < pgK P → A (170 + 4 * k) = nI (pgk P k) ∧ A (170 + 4 * k + 1) = nI (pgm P k) ∧ A (170 + 4 * k + 2) = nI (pgc P k) ∧ (pgk P k = 10 → A (170 + 4 * k + 3) = nI ((nst P k).headD 0))
theorem ix170 (k : Nat) : (170 : Int32) + 4 * nI k = nI (170 + 4 * k) := by
  show nI 170 + nI 4 * nI k = _
  rw [mulN, nI_add]
def Rds (A : Nat → Int32) : List Nat → List Nat → Prop
  | [], [] => True
  | o :: os, l :: ls => A o = nI (l - 1) ∧ Rds A os ls
  | [], _ :: _ => False
  | _ :: _, [] => False
theorem Rds.cg {A A2 : Nat → Int32} : ∀ {os ls : List Nat}, Rds A os ls → (∀ o, o ∈ os → A2 o = A o) → Rds A2 os ls
  | [], [], _, _ => trivial
  | o :: os, l :: ls, h, ha => ⟨(ha o (List.mem_cons_self ..)).trans h.1, Rds.cg h.2 (fun o' ho => ha o' (List.mem_cons_of_mem _ ho))⟩
  | [], _ :: _, h, _ => h.elim
  | _ :: _, [], h, _ => h.elim
theorem pgk_le {B : Bk} {P : Pg} (hW : PW B P) {k : Nat} (h : k < pgK P) : pgk P k ≤ 11 := by
  rcases hW.2.2.2 k h with ⟨y1, -⟩ | ⟨y1, -⟩ | ⟨y1, -⟩ | ⟨y1, -⟩ | y1 <;> omega
theorem sm_behindEnds {S : St} {m i : Nat} {am : Nat → Nat} {B : Bk} {P : Pg} {c : Cf} {Q : Int32 → FI → Prop} (hL : LM S m am) (hb : bok B) (hW : PW B P) (hP : PMd P (gI S (am 0))) (hc : c = itp B P i) (hI : BI i c) (hr : Rds (gI S (am 30)) (nst P c.1) c.2.1)
    (hq : ∀ F' i' c', c' = itp B P i' → BI i' c' → On (am 30) (gI S) F' → Rds (F' (am 30)) (nst P c'.1) c'.2.1 → c'.2.2 = c.2.2 → (pgK P ≤ c'.1 ∨ pgk P c'.1 ≠ 10) → Q (nI c'.1) F') : P_X12_behindEnds m (nI c.1) S Q := by
  have hK := hW.1
  refine ⟨hL.z, fun t x2 F => ∃ i' c', c' = itp B P i' ∧ BI i' c' ∧ t = sL c'.2.1 ∧ x2 = nI c'.1 ∧ On (am 30) (gI S) F ∧ Rds (F (am 30)) (nst P c'.1) c'.2.1 ∧ c'.2.2 = c.2.2, ⟨_, i, c, hc, hI, rfl, rfl, On.rf, hr, rfl⟩, ?_⟩
  rintro t x2 F ⟨i', c', hc', hI', rfl, rfl, oF, rF, e22⟩
  have CI' := CI_it hb hW i'
  rw [← hc'] at CI'
  obtain ⟨g1, g2, g3, g4, g5, g6⟩ := CI'
  have e0 : F (am 0) = gI S (am 0) := oF _ (hL.n (by decide))
  refine ⟨am 0, hL.r 0, hL.k 0, hL.i 0 (p := 4) (by decide), ?_⟩
  rw [e0, hP.1]
  refine ⟨fun hcc => ?_, fun hcc => ?_⟩
  · have : pgK P ≤ c'.1 := (nI_leI (by omega) (by omega)).mp hcc
    exact hq F i' c' hc' hI' oF rF e22 (Or.inl this)
  · have hlt := nI_gtI (by omega) (by omega) hcc
    obtain ⟨a1, a2, a3, a4⟩ := hP.2 c'.1 hlt
    have hk11 := pgk_le hW hlt
    rw [ix170]
    refine ⟨hL.i 0 (by show 170 + 4 * c'.1 < 12100; omega), ?_⟩
    rw [nI_clamp (by omega), a1, show (10 : Int32) = nI 10 from rfl, nI_eq (by omega) (by omega)]
    refine ⟨fun hne => hq F i' c' hc' hI' oF rF e22 (Or.inr hne), fun h10 => ?_⟩
    have ix3 : nI (170 + 4 * c'.1) + 3 = nI (170 + 4 * c'.1 + 3) := nI_add _ 3
    rw [ix3]
    refine ⟨hL.i 0 (by show 170 + 4 * c'.1 + 3 < 12100; omega), fun v11 e11 => ?_⟩
    rw [nI_clamp (by omega), a4 h10] at e11
    have hne : nst P c'.1 ≠ [] := by
      rcases hW.2.2.2 c'.1 hlt with ⟨y1, -⟩ | ⟨y1, -⟩ | ⟨y1, -⟩ | ⟨-, y⟩ | y1
      · omega
      · omega
      · omega
      · exact y
      · omega
    cases hn : nst P c'.1 with
    | nil => exact absurd hn hne
    | cons o t =>
      cases hl : c'.2.1 with
      | nil => rw [hl, hn] at g2; cases g2
      | cons l lt =>
        obtain ⟨q1, q2, q3, q4⟩ := nst_hd hn
        rw [hn, hl] at rF
        rw [hn] at e11
        have e11' : v11 = nI o := e11
        subst e11'
        have ll := g3 l (by rw [hl]; exact List.mem_cons_self ..)
        refine ⟨am 30, hL.r 30, hL.k 30, hL.i 30 (by show o < 80; omega), ?_⟩
        rw [nI_clamp (by omega), rF.1]
        have rest : ∀ v, Rds (upI F (am 30) o v (am 30)) t lt := fun v => rF.2.cg (fun o' ho => up_no (nst_dec hn o' ho))
        by_cases c3 : 1 < l
        · refine ⟨fun t => t = 1, ?_, fun h0 => ?_, fun _ => rfl⟩
          · rintro _ rfl
            refine ⟨fun t => t = 1, ?_, fun h0 => absurd h0 one0, fun _ => rfl⟩
            rintro _ rfl
            intro v21 e21 F22 e22'
            refine ⟨fun h0 => absurd h0 one0, fun _ w ew => ?_⟩
            have hs := stp_c1 (B := B) hlt h10 hl c3
            rw [hn] at hs
            have hs' : stp B P c' = (o + 1, (l - 1) :: lt, c'.2.2) := hs
            have e21' : v21 = nI (l - 1 - 1) := by rw [e21, show (1 : Int32) = nI 1 from rfl, le_sub1 (by omega)]
            have hsl : sL c'.2.1 = l + sL lt := by rw [hl]; rfl
            refine ⟨l - 1 + sL lt, by show l - 1 + sL lt < l + sL lt; omega, i' + 1, stp B P c', by rw [hc']; rfl, ?_, ?_, ?_, ?_, ?_, ?_⟩
            · rw [hs']; unfold BI at hI' ⊢; show i' + 1 + (l - 1 + sL lt) ≤ 100 * c'.2.2.1; omega
            · rw [hs']; rfl
            · rw [hs', ew]; exact nI_1 o
            · rw [e22']; exact oF.tr On.up
            · rw [hs', e22']
              show Rds (upI F (am 30) o v21 (am 30)) (nst P (o + 1)) ((l - 1) :: lt)
              rw [q4]
              exact ⟨by rw [up_at, e21'], rest v21⟩
            · rw [hs']; exact e22
          · exact absurd ((nI_leI (b := 0) (by omega) (by decide)).mp h0) (by omega)
        · refine ⟨fun t => t = 0, ?_, fun h0 => rfl, fun h0 => absurd (nI_le (a := l - 1) (b := 0) (by omega) (by decide)) h0⟩
          rintro _ rfl
          refine ⟨fun t => t = 0, ?_, fun _ => rfl, fun h0 => absurd rfl h0⟩
          rintro _ rfl
          intro v21 e21 F22 e22'
          refine ⟨fun _ w ew => ?_, fun h0 => absurd rfl h0⟩
          have hs' := stp_c2 (B := B) hlt h10 hl c3
          have hsl : sL c'.2.1 = l + sL lt := by rw [hl]; rfl
          refine ⟨sL lt, by show sL lt < l + sL lt; omega, i' + 1, stp B P c', by rw [hc']; rfl, ?_, ?_, ?_, ?_, ?_, ?_⟩
          · rw [hs']; unfold BI at hI' ⊢; show i' + 1 + sL lt ≤ 100 * c'.2.2.1; omega
          · rw [hs']
          · rw [hs', ew]; exact nI_1 _
          · rw [e22']; exact oF.tr On.up
          · rw [hs', e22']
            show Rds (upI F (am 30) o v21 (am 30)) (nst P (c'.1 + 1)) lt
            rw [nst_10 h10, hn]
            exact rest v21
          · rw [hs']; exact e22
/-- the part of a lead's ringing that is told twice -/
def P_rl (th : Nat) (v_4 t_8 r_10 p1 p2 : Int32) (a_1 : Nat) (S : St) (Q : Int32 → (Nat → Nat → Int32) → Prop) : Prop := (∃ I_11 : Nat → Int32 → (Nat → Nat → Int32) → Prop, (∃ k : Nat, I_11 k 0 (gI S)) ∧ ∀ (n_11 : Nat) (x7_12 : Int32) (F_13 : Nat → Nat → Int32), I_11 n_11 x7_12 F_13 → ((r_10 ≤ x7_12 → Q 1 F_13) ∧ (¬ r_10 ≤ x7_12 → ((¬ (F_13 th 32) = 2000 → (P_X12_changeOf th v_4 t_8 x7_12 (wI S F_13) (fun (r_16 : Int32) => (P_X12_strays th p1 (wI S F_13) (fun (r_17 : Int32) (F_17 : Nat → Nat → Int32) => (P_X12_changes0 th r_16 r_17 (wI S F_17) (fun (F_18 : Nat → Nat → Int32) => (∀ v_19 : Int32, v_19 = (F_18 th 32) + 1 → (∀ F_20 : Nat → Nat → Int32, F_20 = upI F_18 th 32 v_19 → ((p2 = (-1) → (∀ v_22 : Int32, v_22 = x7_12 + 1 → (∃ k : Nat, k < n_11 ∧ I_11 k v_22 F_20))) ∧ (¬ p2 = (-1) → (∃ a_23 : Nat, gR S th 23 = some a_23 ∧ (P_X12_numberOf th a_23 (wI S F_20) (fun (r_24 : Int32) => (vp_in (p2 + (F_20 th 32)) (ln S a_1) ∧ (∀ F_26 : Nat → Nat → Int32, F_26 = upI F_20 a_1 ((p2 + (F_20 th 32)).toNatClampNeg) r_24 → (∀ v_27 : Int32, v_27 = x7_12 + 1 → (∃ k : Nat, k < n_11 ∧ I_11 k v_27 F_26)))))))))))))))))) ∧ ((F_13 th 32) = 2000 → Q 0 F_13)))))
def P_ra (th : Nat) (p0 p1 : Int32) (a_4 : Nat) (S : St) (F_8 : Nat → Nat → Int32) (Q : (Nat → Nat → Int32) → Prop) : Prop := (∃ I_10 : Nat → Int32 → Int32 → Int32 → (Nat → Nat → Int32) → Prop, (∃ k : Nat, I_10 k 0 1 0 F_8) ∧ ∀ (n_10 : Nat) (x3_11 : Int32) (x4_12 : Int32) (x5_13 : Int32) (F_14 : Nat → Nat → Int32), I_10 n_10 x3_11 x4_12 x5_13 F_14 → (∃ J_16 : Prop, (J_16 → (∃ a_17 : Nat, gR S th 23 = some a_17 ∧ (P_X12_numberOf th a_17 (wI S F_14) (fun (r_18 : Int32) => (∀ F_19 : Nat → Nat → Int32, F_19 = upI F_14 th 33 r_18 → Q F_19))))) ∧ ((300 ≤ x5_13 → J_16) ∧ (¬ 300 ≤ x5_13 → ((x4_12 = 0 → J_16) ∧ (¬ x4_12 = 0 → (vp_in 4 (ln S a_4) ∧ (((F_14 a_4 4) ≤ x3_11 → J_16) ∧ (¬ (F_14 a_4 4) ≤ x3_11 → (vp_in (170 + (4 * x3_11)) (ln S a_4) ∧ (((F_14 a_4 ((170 + (4 * x3_11)).toNatClampNeg)) = 11 → J_16) ∧ (¬ (F_14 a_4 ((170 + (4 * x3_11)).toNatClampNeg)) = 11 → (∀ v_25 : Int32, v_25 = 170 + (4 * x3_11) → (vp_in v_25 (ln S a_4) ∧ (∃ J_28 : Int32 → (Nat → Nat → Int32) → Prop, (∀ (x4_29 : Int32) (F_30 : Nat → Nat → Int32), J_28 x4_29 F_30 → (P_X12_behindEnds th (x3_11 + 1) (wI S F_30) (fun (r_31 : Int32) (F_31 : Nat → Nat → Int32) => (∀ v_32 : Int32, v_32 = x5_13 + 1 → (∃ k : Nat, k < n_10 ∧ I_10 k r_31 x4_29 v_32 F_31))))) ∧ ((¬ (F_14 a_4 v_25.toNatClampNeg) = 9 → (P_X12_rings th v_25 p0 p1 (wI S F_14) (fun (r_33 : Int32) (F_33 : Nat → Nat → Int32) => J_28 r_33 F_33))) ∧ ((F_14 a_4 v_25.toNatClampNeg) = 9 → (∃ a_34 : Nat, gR S th 30 = some a_34 ∧ (vp_in (v_25 + 2) (ln S a_4) ∧ (kd S a_34 = 21 ∧ (vp_in x3_11 (ln S a_34) ∧ (∀ v_38 : Int32, v_38 = (F_14 a_4 ((v_25 + 2).toNatClampNeg)) - 1 → (∀ F_39 : Nat → Nat → Int32, F_39 = upI F_14 a_34 x3_11.toNatClampNeg v_38 → J_28 x4_12 F_39)))))))))))))))))))))))
