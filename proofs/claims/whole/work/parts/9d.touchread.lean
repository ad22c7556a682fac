/-! The class reads a touch. -/
def dep (P : Pg) : Nat := (nst P (pgK P)).length
def addP (P : Pg) (c m n : Nat) : Pg := (pgK P + 1, setg (pgk P) (pgK P) c, setg (pgm P) (pgK P) m, setg (pgc P) (pgK P) n)
theorem nst_add (P : Pg) (c m n : Nat) : ∀ j, j ≤ pgK P → nst (addP P c m n) j = nst P j
  | 0, _ => rfl
  | j + 1, h => by
    have ih := nst_add P c m n j (by omega)
    have e : pgk (addP P c m n) j = pgk P j := setg_no (by omega)
    by_cases c9 : pgk P j = 9
    · rw [nst_9 c9, nst_9 (e.trans c9), ih]
    · by_cases c10 : pgk P j = 10
      · rw [nst_10 c10, nst_10 (e.trans c10), ih]
      · rw [nst_n c9 c10, nst_n (by rw [e]; exact c9) (by rw [e]; exact c10), ih]
theorem add_k (P : Pg) (c m n : Nat) : pgk (addP P c m n) (pgK P) = c := setg_at
theorem nst_add9 (P : Pg) (m n : Nat) : nst (addP P 9 m n) (pgK P + 1) = pgK P :: nst P (pgK P) := by rw [nst_9 (add_k P 9 m n), nst_add P 9 m n _ (Nat.le_refl _)]
theorem nst_add10 (P : Pg) (m n : Nat) : nst (addP P 10 m n) (pgK P + 1) = (nst P (pgK P)).tail := by rw [nst_10 (add_k P 10 m n), nst_add P 10 m n _ (Nat.le_refl _)]
theorem nst_addn (P : Pg) {c : Nat} (m n : Nat) (h9 : c ≠ 9) (h10 : c ≠ 10) : nst (addP P c m n) (pgK P + 1) = nst P (pgK P) := by rw [nst_n (by rw [add_k]; exact h9) (by rw [add_k]; exact h10), nst_add P c m n _ (Nat.le_refl _)]
theorem dep_9 (P : Pg) (m n : Nat) : dep (addP P 9 m n) = dep P + 1 := by
  show (nst (addP P 9 m n) (pgK P + 1)).length = _
  rw [nst_add9]; rfl
theorem dep_10 (P : Pg) (m n : Nat) : dep (addP P 10 m n) = dep P - 1 := by
  show (nst (addP P 10 m n) (pgK P + 1)).length = _
  rw [nst_add10, List.length_tail]; rfl
theorem dep_n (P : Pg) {c : Nat} (m n : Nat) (h9 : c ≠ 9) (h10 : c ≠ 10) : dep (addP P c m n) = dep P := by
  show (nst (addP P c m n) (pgK P + 1)).length = _
  rw [nst_addn P m n h9 h10]; rfl
def LnK (B : Bk) (P : Pg) (k : Nat) : Prop := ((pgk P k = 5 ∨ pgk P k = 6 ∨ pgk P k = 7) ∧ pgm P k < bM B) ∨ (pgk P k = 8 ∧ pgm P k < bM B ∧ 1 ≤ pgc P k ∧ pgc P k ≤ bl B (pgm P k)) ∨ (pgk P k = 9 ∧ 1 ≤ pgc P k ∧ pgc P k ≤ 99) ∨ (pgk P k = 10 ∧ nst P k ≠ []) ∨ pgk P k = 11
def OkT (B : Bk) (P : Pg) (st : Nat) : Prop := pgK P + dep P ≤ 2 * st ∧ st ≤ 30 ∧ (∀ k, k ≤ pgK P → (nst P k).length ≤ 3) ∧ ∀ k, k < pgK P → LnK B P k
theorem LnK.add {B : Bk} {P : Pg} {c m n k : Nat} (hk : k < pgK P) (h : LnK B P k) : LnK B (addP P c m n) k := by
  have e1 : pgk (addP P c m n) k = pgk P k := setg_no (by omega)
  have e2 : pgm (addP P c m n) k = pgm P k := setg_no (by omega)
  have e3 : pgc (addP P c m n) k = pgc P k := setg_no (by omega)
  unfold LnK at h ⊢
  rw [e1, e2, e3, nst_add P c m n k (by omega)]
  exact h
theorem OkT.add {B : Bk} {P : Pg} {c m n st st' : Nat} (h : OkT B P st) (hs : st' ≤ 30) (hd : pgK P + 1 + dep (addP P c m n) ≤ 2 * st') (h3 : dep (addP P c m n) ≤ 3) (hl : LnK B (addP P c m n) (pgK P)) : OkT B (addP P c m n) st' := by
  refine ⟨hd, hs, fun k hk => ?_, fun k hk => ?_⟩
  · have hk' : k ≤ pgK P + 1 := hk
    rcases Nat.lt_or_ge k (pgK P + 1) with z | z
    · rw [nst_add P c m n k (by omega)]; exact h.2.2.1 k (by omega)
    · have e : k = pgK P + 1 := by omega
      rw [e]; exact h3
  · have hk' : k < pgK P + 1 := hk
    rcases Nat.lt_or_ge k (pgK P) with z | z
    · exact (h.2.2.2 k z).add z
    · have e : k = pgK P := by omega
      rw [e]; exact hl
theorem OkT.pw {B : Bk} {P : Pg} {st : Nat} (h : OkT B P st) (hd : dep P = 0) : PW B P := ⟨by have := h.1; have := h.2.1; omega, List.eq_nil_of_length_eq_zero hd, h.2.2.1, h.2.2.2⟩
def rMN (B : Bk) (i : Nat) (tx : Nat → Nat) (L p : Nat) (o : Option Nat) (q : Nat) : Prop := (tk tx L p = 4 ∧ i < bM B ∧ bnm B i = wd tx L p ∧ (∀ j, j < i → bnm B j ≠ wd tx L p) ∧ o = none ∧ q = nx tx L p) ∨ (tk tx L p = 4 ∧ (∀ j, j < bM B → bnm B j ≠ wd tx L p) ∧ o = some 3 ∧ q = p) ∨ (tk tx L p ≠ 4 ∧ o = some (mis tx L p) ∧ q = p)
abbrev Sg : Type := Nat × Pg × Nat
def isT (t : Nat) : Prop := t = 10 ∨ t = 11 ∨ t = 13 ∨ t = 14 ∨ t = 15 ∨ t = 17
def rTs (B : Bk) (tx : Nat → Nat) (L : Nat) (s : Sg) (o : Option Nat) (q : Nat) (s' : Sg) : Prop :=
  (tk tx L s.1 = 16 ∧ ((dep s.2.1 = 0 ∧ o = some (mis tx L s.1) ∧ q = s.1) ∨ (dep s.2.1 ≠ 0 ∧ rSG tx L (nx tx L s.1) o q ∧ s' = (q, addP s.2.1 10 0 0, s.2.2)))) ∨
  (isT (tk tx L s.1) ∧ 30 ≤ s.2.2 ∧ o = some 6 ∧ q = s.1) ∨
  (tk tx L s.1 = 15 ∧ s.2.2 < 30 ∧ 3 ≤ dep s.2.1 ∧ o = some 7 ∧ q = s.1) ∨
  (tk tx L s.1 = 15 ∧ s.2.2 < 30 ∧ dep s.2.1 < 3 ∧ thn (rNU tx L 1 99 (nx tx L s.1)) (rSG tx L) o q ∧ s' = (q, addP s.2.1 9 0 (vl' tx L (nx tx L s.1)), s.2.2 + 1)) ∨
  (tk tx L s.1 = 17 ∧ s.2.2 < 30 ∧ rSG tx L (nx tx L s.1) o q ∧ s' = (q, addP s.2.1 11 0 0, s.2.2 + 1)) ∨
  (tk tx L s.1 = 14 ∧ s.2.2 < 30 ∧ ∃ i, thn (rMN B i tx L (nx tx L s.1)) (fun q1 => thn (rNU tx L 1 (bl B i) q1) (rSG tx L)) o q ∧ s' = (q, addP s.2.1 8 i (vl' tx L (nx tx L (nx tx L s.1))), s.2.2 + 1)) ∨
  (s.2.2 < 30 ∧ ∃ c i, (c = 5 ∨ c = 6 ∨ c = 7) ∧ tk tx L s.1 = 6 + cmi c ∧ thn (rMN B i tx L (nx tx L s.1)) (rSG tx L) o q ∧ s' = (q, addP s.2.1 c i 0, s.2.2 + 1)) ∨
  (tk tx L s.1 ≠ 16 ∧ ¬ isT (tk tx L s.1) ∧ o = some (mis tx L s.1) ∧ q = s.1)
/-- the reader's cells -/
def TrdX (S : St) (tr k : Nat) (ta : Nat → Nat) : Prop := kd S tr = 9 ∧ gR S tr 0 = some k ∧ (gR S tr 4 = some (ta 4) ∧ kd S (ta 4) = 21 ∧ ln S (ta 4) = 60) ∧ (gR S tr 5 = some (ta 5) ∧ kd S (ta 5) = 21 ∧ ln S (ta 5) = 60) ∧ (gR S tr 6 = some (ta 6) ∧ kd S (ta 6) = 24 ∧ ln S (ta 6) = 60) ∧ (gR S tr 7 = some (ta 7) ∧ kd S (ta 7) = 21 ∧ ln S (ta 7) = 3) ∧ (gR S tr 8 = some (ta 8) ∧ kd S (ta 8) = 21 ∧ ln S (ta 8) = 3) ∧ (gR S tr 9 = some (ta 9) ∧ kd S (ta 9) = 21 ∧ ln S (ta 9) = 2000) ∧ ta 4 ≠ ta 5 ∧ ta 4 ≠ ta 7 ∧ ta 4 ≠ ta 8 ∧ ta 4 ≠ ta 9 ∧ ta 5 ≠ ta 7 ∧ ta 5 ≠ ta 8 ∧ ta 5 ≠ ta 9 ∧ ta 7 ≠ ta 8 ∧ ta 7 ≠ ta 9 ∧ ta 8 ≠ ta 9
def WTr (k tr : Nat) (ta : Nat → Nat) (e : Nat) : Prop := e = k ∨ e = tr ∨ e = ta 4 ∨ e = ta 5 ∨ e = ta 6 ∨ e = ta 7 ∨ e = ta 8 ∨ e = ta 9
def FTk (k tr : Nat) (ta : Nat → Nat) (G F : FI) (GJ J : FJ) (GR R : FR) : Prop := (∀ a, ¬ WTr k tr ta a → F a = G a ∧ J a = GJ a) ∧ (∀ j, j ≠ 4 → j ≠ 5 → j ≠ 6 → j ≠ 7 → j ≠ 9 → j ≠ 10 → F k j = G k j) ∧ ∀ a, a ≠ ta 6 → R a = GR a
def Lns (S : St) (B : Bk) (im : Nat → Prop) (ta : Nat → Nat) (P : Pg) (F : FI) (R : FR) : Prop := ∀ k, k < pgK P → F (ta 4) k = nI (6 + cmi (pgk P k)) ∧ (5 ≤ pgk P k → pgk P k ≤ 8 → ∃ q, R (ta 6) k = some q ∧ MX B (pgm P k) im S q ∧ F (ta 5) k = nI (pgn B P k)) ∧ (pgk P k = 9 → F (ta 5) k = nI (pgc P k))
def RdT (S : St) (B : Bk) (im : Nat → Prop) (tr : Nat) (ta : Nat → Nat) (P : Pg) (st : Nat) (F : FI) (R : FR) : Prop := F tr 1 = nI st ∧ F tr 2 = nI (dep P) ∧ F tr 3 = nI (pgK P) ∧ Lns S B im ta P F R
theorem Lns.add {S : St} {B : Bk} {im : Nat → Prop} {ta : Nat → Nat} {P : Pg} {c m n : Nat} {G F : FI} {GR R : FR} (h : Lns S B im ta P G GR) (h4 : ∀ i, i < pgK P → F (ta 4) i = G (ta 4) i) (h5 : ∀ i, i < pgK P → F (ta 5) i = G (ta 5) i) (h6 : ∀ i, i < pgK P → R (ta 6) i = GR (ta 6) i) (k4 : F (ta 4) (pgK P) = nI (6 + cmi c)) (kl : 5 ≤ c → c ≤ 8 → ∃ q, R (ta 6) (pgK P) = some q ∧ MX B m im S q ∧ F (ta 5) (pgK P) = nI (if c = 8 then n else bl B m)) (k9 : c = 9 → F (ta 5) (pgK P) = nI n) : Lns S B im ta (addP P c m n) F R := fun k hk => by
  have hk' : k < pgK P + 1 := hk
  rcases Nat.lt_or_ge k (pgK P) with z | z
  · have e1 : pgk (addP P c m n) k = pgk P k := setg_no (by omega)
    have e2 : pgm (addP P c m n) k = pgm P k := setg_no (by omega)
    have e3 : pgc (addP P c m n) k = pgc P k := setg_no (by omega)
    have e4 : pgn B (addP P c m n) k = pgn B P k := by unfold pgn; rw [e1, e2, e3]
    rw [e1, e2, e3, e4, h4 k z, h5 k z, h6 k z]
    exact h k z
  · have e : k = pgK P := by omega
    subst e
    have e1 : pgk (addP P c m n) (pgK P) = c := setg_at
    have e2 : pgm (addP P c m n) (pgK P) = m := setg_at
    have e3 : pgc (addP P c m n) (pgK P) = n := setg_at
    have e4 : pgn B (addP P c m n) (pgK P) = if c = 8 then n else bl B m := by unfold pgn; rw [e1, e2, e3]
    rw [e1, e2, e3, e4]
    exact ⟨k4, kl, k9⟩
theorem FTk.tr {k rd : Nat} {ta : Nat → Nat} {G F F2 : FI} {GJ J J2 : FJ} {GR R R2 : FR} (h : FTk k rd ta G F GJ J GR R) (h2 : FTk k rd ta F F2 J J2 R R2) : FTk k rd ta G F2 GJ J2 GR R2 := ⟨fun a ha => ⟨((h2.1 a ha).1).trans (h.1 a ha).1, ((h2.1 a ha).2).trans (h.1 a ha).2⟩, fun j y1 y2 y3 y4 y5 y6 => (h2.2.1 j y1 y2 y3 y4 y5 y6).trans (h.2.1 j y1 y2 y3 y4 y5 y6), fun a ha => (h2.2.2 a ha).trans (h.2.2 a ha)⟩
section TT
variable {S : St} {k tr b rv tt : Nat} {ta : Nat → Nat} {tx : Nat → Nat} {L p : Nat} {G F F2 : FI} {GJ J J2 : FJ} {GR R R2 : FR} {B : Bk} {im : Nat → Prop} {P : Pg} {st : Nat}
theorem FTk.rf : FTk k tr ta G G GJ GJ GR GR := ⟨fun _ _ => ⟨rfl, rfl⟩, fun _ _ _ _ _ _ _ => rfl, fun _ _ => rfl⟩
theorem FTk.nx (h : NxF k G F) (hj : NxJ k GJ J) : FTk k tr ta G F GJ J GR GR := ⟨fun a ha => ⟨h.1 a (fun z => ha (Or.inl z)), hj.1 a (fun z => ha (Or.inl z))⟩, fun j y1 y2 y3 y4 _ _ => h.2 j y1 y2 y3 y4, fun _ _ => rfl⟩
theorem FTk.fl {f s : Nat} (h : FlC k f s G F) : FTk k tr ta G F GJ GJ GR GR := ⟨fun a ha => ⟨h.1 a (fun z => ha (Or.inl z)), rfl⟩, fun j _ _ _ _ y5 y6 => h.2.1 j y5 y6, fun _ _ => rfl⟩
theorem WTr.kk (hT : TrdX S tr k ta) (hk : kd S k = 7) {e : Nat} (h : WTr k tr ta e) : kd S e = 7 ∨ kd S e = 9 ∨ kd S e = 24 ∨ kd S e = 21 := by
  obtain ⟨h1, h2, ⟨-, h4, -⟩, ⟨-, h5, -⟩, ⟨-, h6, -⟩, ⟨-, h7, -⟩, ⟨-, h8, -⟩, ⟨-, h9, -⟩, -⟩ := hT
  rcases h with e1 | e1 | e1 | e1 | e1 | e1 | e1 | e1 <;> rw [e1]
  · exact Or.inl hk
  · exact Or.inr (Or.inl h1)
  · exact Or.inr (Or.inr (Or.inr h4))
  · exact Or.inr (Or.inr (Or.inr h5))
  · exact Or.inr (Or.inr (Or.inl h6))
  · exact Or.inr (Or.inr (Or.inr h7))
  · exact Or.inr (Or.inr (Or.inr h8))
  · exact Or.inr (Or.inr (Or.inr h9))
theorem WTr.n (hT : TrdX S tr k ta) (hk : kd S k = 7) {e : Nat} (h7 : kd S e ≠ 7) (h9 : kd S e ≠ 9) (h24 : kd S e ≠ 24) (h21 : kd S e ≠ 21) : ¬ WTr k tr ta e := fun h => by
  rcases WTr.kk hT hk h with y | y | y | y
  · exact h7 y
  · exact h9 y
  · exact h24 y
  · exact h21 y
theorem TrdX.e (hT : TrdX S tr k ta) (hk : kd S k = 7) : tr ≠ k ∧ ta 4 ≠ k ∧ ta 5 ≠ k ∧ ta 6 ≠ k ∧ ta 4 ≠ tr ∧ ta 5 ≠ tr ∧ ta 6 ≠ tr ∧ ta 4 ≠ ta 5 ∧ ta 4 ≠ ta 6 ∧ ta 5 ≠ ta 6 := by
  obtain ⟨h1, h2, ⟨-, h4, -⟩, ⟨-, h5, -⟩, ⟨-, h6, -⟩, -, -, -, n45, -⟩ := hT
  exact ⟨kd_ne h1 hk (by decide), kd_ne h4 hk (by decide), kd_ne h5 hk (by decide), kd_ne h6 hk (by decide), kd_ne h4 h1 (by decide), kd_ne h5 h1 (by decide), kd_ne h6 h1 (by decide), n45, kd_ne h4 h6 (by decide), kd_ne h5 h6 (by decide)⟩
/-- the text is still there -/
theorem TxC.ft (hX : TxC S G GJ k tt rv tx L) (hT : TrdX S tr k ta) (h : FTk k tr ta G F GJ J (gR S) R) : TxC (wA S F J R) F J k tt rv tx L := by
  have hX' := hX
  obtain ⟨k7, r0, k20, l9, L9, f3, hb, r2, kr, lr, hres⟩ := hX'
  have wt : ¬ WTr k tr ta tt := WTr.n hT k7 (by rw [k20]; decide) (by rw [k20]; decide) (by rw [k20]; decide) (by rw [k20]; decide)
  have wr : ¬ WTr k tr ta rv := WTr.n hT k7 (by rw [kr]; decide) (by rw [kr]; decide) (by rw [kr]; decide) (by rw [kr]; decide)
  have k6 : k ≠ ta 6 := Ne.symm (hT.e k7).2.2.2.1
  refine ⟨k7, ?_, k20, l9, L9, ?_, fun j hj => ⟨(hb j hj).1, ?_⟩, ?_, kr, lr, fun i hi => ?_⟩
  · show R k 0 = _
    rw [h.2.2 k k6]; exact r0
  · rw [h.2.1 3 (by decide) (by decide) (by decide) (by decide) (by decide) (by decide)]; exact f3
  · rw [(h.1 tt wt).1]; exact (hb j hj).2
  · show R k 2 = _
    rw [h.2.2 k k6]; exact r2
  · rw [(h.1 rv wr).2]; exact hres i hi
theorem TrdX.ft (hT : TrdX S tr k ta) (h : ∀ a, a ≠ ta 6 → R a = gR S a) : TrdX (wA S F J R) tr k ta := by
  have t6 : tr ≠ ta 6 := kd_ne hT.1 hT.2.2.2.2.1.2.1 (by decide)
  obtain ⟨h1, h2, ⟨a4, h4⟩, ⟨a5, h5⟩, ⟨a6, h6⟩, ⟨a7, h7⟩, ⟨a8, h8⟩, ⟨a9, h9⟩, hd⟩ := hT
  have e : ∀ j, gR (wA S F J R) tr j = gR S tr j := fun j => by show R tr j = _; rw [h tr t6]
  exact ⟨h1, (e 0).trans h2, ⟨(e 4).trans a4, h4⟩, ⟨(e 5).trans a5, h5⟩, ⟨(e 6).trans a6, h6⟩, ⟨(e 7).trans a7, h7⟩, ⟨(e 8).trans a8, h8⟩, ⟨(e 9).trans a9, h9⟩, hd⟩
theorem FTk.sim (h : FTk k tr ta (gI S) F (gJ S) J (gR S) R) (hi : ∀ e, im e → ¬ WTr k tr ta e) : Sim im S (wA S F J R) := fun a ha => ⟨rfl, rfl, (h.1 a (hi a ha)).1, (h.1 a (hi a ha)).2, h.2.2 a (fun z => hi a ha (Or.inr (Or.inr (Or.inr (Or.inr (Or.inl z))))))⟩
end TT
