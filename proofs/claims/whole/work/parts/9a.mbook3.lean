/-! The reference reads a book, from its first token to its end. -/
theorem mis_b (tx : Nat → Nat) (L p : Nat) : 1 ≤ mis tx L p ∧ mis tx L p ≤ 99 := by
  unfold mis
  by_cases c : tk tx L p = 0
  · rw [if_pos c]; exact ⟨by decide, by decide⟩
  · rw [if_neg c]; exact ⟨by decide, by decide⟩
def obf (o : Option Nat) : Prop := ∀ f, o = some f → 1 ≤ f ∧ f ≤ 99
theorem obf_n : obf none := fun _ h => by cases h
theorem obf_s {f : Nat} (h : 1 ≤ f ∧ f ≤ 99) : obf (some f) := fun g e => by cases e; exact h
theorem thn_b {r : Option Nat → Nat → Prop} {c : Nat → Option Nat → Nat → Prop} {o : Option Nat} {q : Nat} (hr : ∀ o q, r o q → obf o) (hc : ∀ q1 o q, c q1 o q → obf o) (h : thn r c o q) : obf o := by
  obtain ⟨o1, q1, h1, ⟨-, h2⟩ | ⟨f, h2, h3, -⟩⟩ := h
  · exact hc q1 o q h2
  · rw [h3, ← h2]; exact hr o1 q1 h1
section FB
variable {tx : Nat → Nat} {L n : Nat}
theorem PLf_b {p f : Nat} (h : PLf n tx L p f) : 1 ≤ f ∧ f ≤ 99 := by
  rcases h with ⟨-, e⟩ | ⟨-, -, e⟩
  · rw [e]; exact mis_b tx L p
  · rw [e]; exact ⟨by decide, by decide⟩
theorem rNN_b {U : List Nat → Prop} {p : Nat} {o : Option Nat} {q : Nat} (h : rNN tx L U p o q) : obf o := by
  rcases h with ⟨-, -, e, -⟩ | ⟨-, -, e, -⟩ | ⟨-, e, -⟩ <;> rw [e]
  · exact obf_n
  · exact obf_s ⟨by decide, by decide⟩
  · exact obf_s (mis_b tx L p)
theorem rPL_b {p : Nat} {o : Option Nat} {q : Nat} (h : rPL n tx L p o q) : obf o := by
  rcases h with ⟨-, e, -⟩ | ⟨f, h, e, -⟩ <;> rw [e]
  · exact obf_n
  · exact obf_s (PLf_b h)
theorem rSG_b {p : Nat} {o : Option Nat} {q : Nat} (h : rSG tx L p o q) : obf o := by
  rcases h with ⟨-, e, -⟩ | ⟨-, e, -⟩ <;> rw [e]
  · exact obf_n
  · exact obf_s (mis_b tx L p)
theorem rTK_b {c p : Nat} {o : Option Nat} {q : Nat} (h : rTK tx L c p o q) : obf o := by
  rcases h with ⟨-, e, -⟩ | ⟨-, e, -⟩ <;> rw [e]
  · exact obf_n
  · exact obf_s (mis_b tx L p)
theorem rNU_b {lo hi p : Nat} {o : Option Nat} {q : Nat} (h : rNU tx L lo hi p o q) : obf o := by
  rcases h with ⟨-, -, e, -⟩ | ⟨-, -, e, -⟩ | ⟨-, e, -⟩ <;> rw [e]
  · exact obf_n
  · exact obf_s ⟨by decide, by decide⟩
  · exact obf_s (mis_b tx L p)
theorem rNB_b {B : Bk} {p : Nat} {o : Option Nat} {q : Nat} (h : rNB n tx L B p o q) : obf o := by
  rcases h with ⟨-, -, -, e, -⟩ | ⟨-, -, -, e, -⟩ | ⟨-, -, e, -⟩ | ⟨-, e, -⟩ <;> rw [e]
  · exact obf_n
  · exact obf_s ⟨by decide, by decide⟩
  · exact obf_s ⟨by decide, by decide⟩
  · exact obf_s (mis_b tx L p)
theorem rCH_b {p k : Nat} {o : Option Nat} {q : Nat} (h : rCH n tx L p k o q) : obf o := by
  obtain ⟨-, -, -, ⟨e, -⟩ | ⟨f, e, -, h⟩ | ⟨e, -⟩⟩ := h <;> rw [e]
  · exact obf_n
  · exact obf_s (PLf_b h)
  · exact obf_s ⟨by decide, by decide⟩
theorem rBK_b {k p : Nat} {o : Option Nat} {q : Nat} (h : rBK n tx L k p o q) : obf o := by
  rcases h with ⟨-, e, -⟩ | ⟨-, -, e, -⟩ | ⟨-, -, h⟩
  · rw [e]; exact obf_n
  · rw [e]; exact obf_s ⟨by decide, by decide⟩
  · exact rPL_b h
theorem rCL_b {c p : Nat} {o : Option Nat} {q : Nat} (h : rCL n tx L c p o q) : obf o := by
  rcases h with ⟨-, e, -⟩ | ⟨-, h⟩
  · rw [e]; exact obf_n
  · exact rPL_b h
theorem rMD_b {U : List Nat → Prop} {p : Nat} {D : Md} {o : Option Nat} {q : Nat} (h : rMD n tx L U p D o q) : obf o :=
  thn_b (fun _ _ h => rNN_b h) (fun _ _ _ ⟨_, h⟩ => thn_b (fun _ _ h => rCH_b h) (fun _ _ _ h => thn_b (fun _ _ h => rBK_b h) (fun _ _ _ h => thn_b (fun _ _ h => rCL_b h) (fun _ _ _ h => thn_b (fun _ _ h => rCL_b h) (fun _ _ _ h => rSG_b h.1) h) h) h) h) h
theorem rIt_b {s s' : Sb} {o : Option Nat} {q : Nat} (h : rIt tx L s o q s') : obf o := by
  rcases h with ⟨-, ⟨-, e, -⟩ | ⟨-, D, h, -⟩⟩ | ⟨-, ⟨-, e, -⟩ | ⟨-, h, -⟩⟩ | ⟨-, -, e, -⟩
  · rw [e]; exact obf_s ⟨by decide, by decide⟩
  · exact rMD_b h
  · rw [e]; exact obf_s ⟨by decide, by decide⟩
  · exact thn_b (fun _ _ h => rNN_b h) (fun _ _ _ h => thn_b (fun _ _ h => rNB_b h) (fun _ _ _ h => rSG_b h) h) h
  · rw [e]; exact obf_s (mis_b tx L _)
theorem rST_b {o : Option Nat} {q : Nat} (h : rST tx L o q) : obf o := thn_b (fun _ _ h => rTK_b h) (fun _ _ _ h => thn_b (fun _ _ h => rNU_b h) (fun _ _ _ h => rSG_b h) h) h
end FB
/-- what a reading leaves of the reference -/
def MaF (m : Nat) (am : Nat → Nat) (G F : FI) (GJ J : FJ) : Prop := (∀ a, a ≠ m → a ≠ am 0 → a ≠ am 9 → F a = G a) ∧ (∀ j, j ≠ 2 → (j < 10 ∨ 20 ≤ j) → F m j = G m j) ∧ (∀ k, 2420 ≤ k → k < 9680 → F (am 0) k = G (am 0) k) ∧ (∀ a, a ≠ am 1 → J a = GJ a) ∧ ∀ k, 12 ≤ k → k < 48 → J (am 1) k = GJ (am 1) k
section BG
variable {S : St} {m t : Nat} {am : Nat → Nat} {tx : Nat → Nat} {L : Nat}
theorem sm_begins {mo : Nat} {Q : Int32 → FI → Prop} (hL : LM S m am) (h10 : gI S m 10 = nI t) (ht : t ≤ 900) (hLt : L ≤ t) (hmo : L ≤ mo) (hmo9 : mo ≤ 900) (htx : ∀ j, j < L → tx j < 256 ∧ gI S (am 8) j = sb (tx j))
    (hq : ∀ F, (∀ a, a ≠ m → a ≠ am 9 → F a = gI S a) → (∀ j, (j < 10 ∨ 20 ≤ j) → F m j = gI S m j) → F m 10 = 0 → F m 16 = gI S m 16 → F m 17 = -1 → F m 18 = 0 → F m 19 = 0 → TxM F m am tx L → TkM F m tx L 0 → Q 1 F) : P_X12_begins m (nI L) (nI mo) S Q := by
  refine ⟨hL.z, fun y => absurd y (nI_nlt (b := 0) (Nat.zero_le _) (by omega)), fun _ => ?_⟩
  rw [h10]
  refine ⟨fun y => absurd y (nI_nlt hLt (by omega)), fun _ => ⟨fun _ F4 e4 => ?_, fun y => absurd (nI_le hmo (by omega)) y⟩⟩
  refine ⟨fun u x3 F => ∃ c, c ≤ L ∧ u = L - c ∧ x3 = nI c ∧ On (am 9) F4 F ∧ ∀ k, k < c → F (am 9) k = sb (tx k), ⟨L, 0, Nat.zero_le _, rfl, rfl, On.rf, fun k hk => by omega⟩, ?_⟩
  rintro u x3 F ⟨c, hc, rfl, rfl, oF, hF⟩
  have m9 : m ≠ am 9 := Ne.symm (hL.o 9)
  refine ⟨fun hcc F9 e9 F10 e10 F11 e11 F12 e12 F13 e13 => ?_, fun hcc => ?_⟩
  · have e : c = L := by
      have : L ≤ c := (nI_leI (by omega) (by omega)).mp hcc
      omega
    subst e
    have on13 : ∀ a, a ≠ m → F13 a = F a := fun a ha => by rw [e13, up_ne ha, e12, up_ne ha, e11, up_ne ha, e10, up_ne ha, e9, up_ne ha]
    have Fm : ∀ j, j ≠ 11 → F m j = gI S m j := fun j hj => by rw [oF m m9, e4, up_no hj]
    have X13 : TxM F13 m am tx c := by
      refine ⟨?_, by omega, fun j hj => ⟨(htx j hj).1, ?_⟩⟩
      · rw [e13, up_no (by decide), e12, up_no (by decide), e11, up_no (by decide), e10, up_no (by decide), e9, up_no (by decide), oF m m9, e4, up_at]
      · rw [on13 _ (hL.o 9)]; exact hF j hj
    refine sm_ahead (S := wI S F13) (p := 0) hL X13 (by show F13 m 14 = _; rw [e13, up_no (by decide), e12, up_at]; rfl) (Nat.zero_le _) (fun F af t => ?_)
    have af' : AhF m F13 F := af
    refine hq F (fun a h1 h2 => ?_) (fun j hj => ?_) ?_ ?_ ?_ ?_ ?_ (X13.ah hL af') t
    · rw [af'.1 a h1, on13 a h1, oF a h2, e4, up_ne h1]
    · rw [af'.2 j (by omega) (by omega) (by omega) (by omega), e13, up_no (by omega), e12, up_no (by omega), e11, up_no (by omega), e10, up_no (by omega), e9, up_no (by omega), Fm j (by omega)]
    · rw [af'.2 10 (by decide) (by decide) (by decide) (by decide), e13, up_no (by decide), e12, up_no (by decide), e11, up_no (by decide), e10, up_no (by decide), e9, up_at]
    · rw [af'.2 16 (by decide) (by decide) (by decide) (by decide), e13, up_no (by decide), e12, up_no (by decide), e11, up_no (by decide), e10, up_no (by decide), e9, up_no (by decide), Fm 16 (by decide)]
    · rw [af'.2 17 (by decide) (by decide) (by decide) (by decide), e13, up_no (by decide), e12, up_no (by decide), e11, up_at]
    · rw [af'.2 18 (by decide) (by decide) (by decide) (by decide), e13, up_no (by decide), e12, up_no (by decide), e11, up_no (by decide), e10, up_at]
    · rw [af'.2 19 (by decide) (by decide) (by decide) (by decide), e13, up_at]
  · have hlt : c < L := nI_gtI (by omega) (by omega) hcc
    refine ⟨am 9, hL.r 9, am 8, hL.r 8, hL.k 8, hL.i 8 (by show c < 900; omega), hL.k 9, hL.i 9 (by show c < 900; omega), fun v ev F2 e2 w ew => ?_⟩
    rw [nI_clamp (by omega)] at ev e2
    have ev' : v = sb (tx c) := by rw [ev, oF _ (hL.n (by decide)), e4, up_ne (hL.o 8)]; exact (htx c hlt).2
    refine ⟨L - (c + 1), by omega, c + 1, by omega, rfl, by rw [ew]; exact nI_1 c, by rw [e2]; exact oF.tr On.up, fun k hk => ?_⟩
    rw [e2]
    by_cases ck : k = c
    · rw [ck, up_at, ev']; exact sb_cast _ (htx c hlt).1
    · rw [up_no ck]; exact hF k (by omega)
theorem sm_taken_f {f : Nat} {v : Int32} {Q : Int32 → FI → Prop} (hL : LM S m am) (h18 : gI S m 18 = nI f) (h1 : 1 ≤ f) (h99 : f ≤ 99)
    (hq : ∀ F, (∀ a, a ≠ m → F a = gI S a) → (∀ j, j ≠ 2 → j ≠ 16 → F m j = gI S m j) → F m 16 = nI f → F m 2 = 9 → Q (-1) F) : P_X12_taken m v S Q := by
  refine ⟨hL.z, fun v1 ev F2 e2 => ?_⟩
  have f18 : F2 m 18 = nI f := by rw [e2, up_no (by decide)]; exact h18
  rw [f18]
  refine ⟨fun y => absurd ((nI_leI (a := f) (b := 0) (by omega) (by decide)).mp y) (by omega), fun _ => ⟨hL.z, fun F1 e1 => ?_⟩⟩
  have e1' : F1 = upI F2 m 2 9 := e1
  refine hq F1 (fun a ha => by rw [e1', up_ne ha, e2, up_ne ha]) (fun j y1 y2 => by rw [e1', up_no y1, e2, up_no y2]) (by rw [e1', up_no (by decide), e2, up_at, ev]; exact h18) (by rw [e1', up_at])
theorem sm_taken_y {v : Int32} {Q : Int32 → FI → Prop} (hL : LM S m am) (h18 : gI S m 18 = 0)
    (hq : ∀ F, (∀ a, a ≠ m → F a = gI S a) → (∀ j, j ≠ 2 → j ≠ 16 → F m j = gI S m j) → F m 16 = 0 → F m 2 = 0 → Q v F) : P_X12_taken m v S Q := by
  refine ⟨hL.z, fun v1 ev F2 e2 => ?_⟩
  have f18 : F2 m 18 = 0 := by rw [e2, up_no (by decide)]; exact h18
  rw [f18]
  refine ⟨fun _ => ⟨hL.z, fun F1 e1 => ?_⟩, fun y => absurd (by decide) y⟩
  have e1' : F1 = upI F2 m 2 0 := e1
  refine hq F1 (fun a ha => by rw [e1', up_ne ha, e2, up_ne ha]) (fun j y1 y2 => by rw [e1', up_no y1, e2, up_no y2]) (by rw [e1', up_no (by decide), e2, up_at, ev]; exact h18) (by rw [e1', up_at])
theorem sm_bkl_f {f : Nat} {F0 : FI} {Q : Int32 → FI → FJ → Prop} (hL : LM S m am) (h18 : F0 m 18 = nI f) (h1 : 1 ≤ f) (h99 : f ≤ 99)
    (hq : ∀ F, (∀ a, a ≠ m → F a = F0 a) → (∀ j, j ≠ 2 → j ≠ 16 → F m j = F0 m j) → F m 16 = nI f → F m 2 = 9 → Q (-1) F (gJ S)) : P_bkl m (am 0) 0 F0 S Q := by
  refine ⟨fun _ x F J => x = 0 ∧ F = F0 ∧ J = gJ S, ⟨0, rfl, rfl, rfl⟩, ?_⟩
  rintro n x F J ⟨rfl, rfl, rfl⟩
  refine ⟨True, fun _ => ⟨fun F' J' => F' = F ∧ J' = gJ S, ?_, fun _ => ⟨rfl, rfl⟩, fun y => ?_⟩, fun _ => trivial, fun y => absurd rfl y⟩
  · rintro F' J' ⟨rfl, rfl⟩
    exact ⟨hL.i 0 (p := 1) (by decide), sm_taken_f (S := wA S F' (gJ S) (gR S)) hL h18 h1 h99 (fun F a b c d => hq F a b c d)⟩
  · rw [h18] at y
    exact absurd ((nI_z (by omega)).mp y) (by omega)
theorem sm_bkl_y {K : Nat} {st : Nat → Sb} {o : Option Nat} {q : Nat} {F0 : FI} {Q : Int32 → FI → FJ → Prop} (hL : LM S m am) (hX : TxM F0 m am tx L) (hT : TkM F0 m tx L (st 0).1) (hp : (st 0).1 ≤ L) (h18 : F0 m 18 = 0) (h17 : F0 m 17 = -1) (hR : RdM F0 (gJ S) am (st 0).2.1 (st 0).2.2.1 (st 0).2.2.2) (hO : OkB (st 0).2.1 (st 0).2.2.1 (st 0).2.2.2) (chain : ∀ i, i < K → tk tx L (st i).1 ≠ 1 ∧ rIt tx L (st i) none (st (i + 1)).1 (st (i + 1)))
    (hend : (tk tx L (st K).1 = 1 ∧ o = none) ∨ (tk tx L (st K).1 ≠ 1 ∧ ∃ f s', o = some f ∧ rIt tx L (st K) (some f) q s'))
    (hy : o = none → ∀ F J, MaF m am F0 F (gJ S) J → (∀ j, j ≠ 2 → j < 12 → F m j = F0 m j) → (∀ a, a ≠ m → a ≠ am 0 → F a = F0 a) → F m 16 = 0 → F m 17 = -1 → F m 2 = 0 → BM (st K).2.1 (F (am 0)) → F (am 0) 4 = -1 → F (am 0) 6 = -1 → (∀ i, i < bM (st K).2.1 → J (am 1) i = n256 (bnm (st K).2.1 i)) → Q (nI (bM (st K).2.1)) F J)
    (hf : ∀ f, o = some f → ∀ F J, MaF m am F0 F (gJ S) J → (∀ j, j ≠ 2 → j < 12 → F m j = F0 m j) → (∀ a, a ≠ m → a ≠ am 0 → F a = F0 a) → (∀ k, k < 9680 → F (am 0) k = F0 (am 0) k) → (∀ k, k < 48 → J (am 1) k = gJ S (am 1) k) → F m 16 = nI f → F m 17 = nI (sk tx L q) → F m 2 = 9 → Q (-1) F J) : P_bkl m (am 0) 1 F0 S Q := by
  refine ⟨fun n x F J => MbF m am F0 F (gJ S) J ∧ ((∃ i, i ≤ K ∧ n = 1 + (K - i) ∧ x = 1 ∧ F m 18 = 0 ∧ F m 17 = -1 ∧ TkM F m tx L (st i).1 ∧ (st i).1 ≤ L ∧ RdM F J am (st i).2.1 (st i).2.2.1 (st i).2.2.2 ∧ OkB (st i).2.1 (st i).2.2.1 (st i).2.2.2) ∨ (n = 0 ∧ x = 0 ∧ ∃ f, o = some f ∧ F m 18 = nI f ∧ 1 ≤ f ∧ f ≤ 99 ∧ F m 17 = nI (sk tx L q))), ⟨1 + (K - 0), MbF.rf, Or.inl ⟨0, Nat.zero_le _, rfl, rfl, h18, h17, hT, hp, hR, hO⟩⟩, ?_⟩
  rintro n x F J ⟨mb, ⟨i, hi, rfl, rfl, f18, f17, t, pL, rd, ok⟩ | ⟨rfl, rfl, f, ho, f18, f1, f99, f17⟩⟩
  · have t17 := tk_17 (tx := tx) (L := L) (st i).1
    refine ⟨i = K ∧ o = none, fun ⟨hiK, ho⟩ => ?_, fun y => absurd y one0, fun _ => ?_⟩
    · subst hiK
      refine ⟨fun F' J' => On (am 0) F F' ∧ (∀ k, k < 2420 → F' (am 0) k = F (am 0) (9680 + k)) ∧ (∀ k, 2420 ≤ k → F' (am 0) k = F (am 0) k) ∧ (∀ a, a ≠ am 1 → J' a = J a) ∧ (∀ k, k < 12 → J' (am 1) k = J (am 1) (48 + k)) ∧ ∀ k, 12 ≤ k → J' (am 1) k = J (am 1) k, ?_, fun y => absurd f18 y, fun _ => ?_⟩
      · rintro F' J' ⟨oF, lo, hi', ja, jlo, jhi⟩
        have mo : m ≠ am 0 := Ne.symm (hL.o 0)
        have v1 : F' (am 0) 1 = nI (bM (st i).2.1) := by rw [lo 1 (by decide)]; exact rd.1.2.1
        refine ⟨hL.i 0 (p := 1) (by decide), ?_⟩
        rw [v1]
        refine sm_taken_y (S := wA S F' J' (gR S)) hL (by show F' m 18 = 0; rw [oF m mo]; exact f18) (fun F2 g1 g2 g3 g4 => ?_)
        have g1' : ∀ a, a ≠ m → F2 a = F' a := g1
        have g2' : ∀ j, j ≠ 2 → j ≠ 16 → F2 m j = F' m j := g2
        have a0 : F2 (am 0) = F' (am 0) := g1' _ (hL.o 0)
        refine hy ho F2 J' ⟨fun a h1 h2 _ => by rw [g1' a h1, oF a h2]; exact mb.1 a h1 h2, fun j h1 h2 => by rw [g2' j h1 (by omega), oF m mo]; exact mb.2.1 j (by omega) (by omega) (by omega) (by omega) (by omega) (by omega), fun k h1 h2 => by rw [a0, hi' k h1]; exact mb.2.2.1 k h2, fun a ha => (ja a ha).trans (mb.2.2.2.1 a ha), fun k h1 h2 => (jhi k h1).trans (mb.2.2.2.2 k h2)⟩ (fun j h1 h2 => by rw [g2' j h1 (by omega), oF m mo]; exact mb.2.1 j (by omega) (by omega) (by omega) (by omega) (by omega) (by omega)) (fun a h1 h2 => by rw [g1' a h1, oF a h2]; exact mb.1 a h1 h2) g3 (by rw [g2' 17 (by decide) (by decide), oF m mo]; exact f17) g4 ?_ ?_ ?_ (fun j hj => ?_)
        · rw [a0]; exact rd.1.all ok.1 (fun k hk => lo k hk)
        · rw [a0, lo 4 (by decide)]; exact rd.2.2.1
        · rw [a0, lo 6 (by decide)]; exact rd.2.2.2.1
        · have := ok.1.2.2.1
          rw [jlo j (by omega)]; exact rd.2.2.2.2.1 j hj
      · refine ⟨fun u x3 F' => ∃ c, c ≤ 2420 ∧ u = 2420 - c ∧ x3 = nI c ∧ On (am 0) F F' ∧ ∀ k, F' (am 0) k = if k < c then F (am 0) (9680 + k) else F (am 0) k, ⟨2420, 0, by omega, rfl, rfl, On.rf, fun k => by rw [if_neg (by omega)]⟩, ?_⟩
        rintro u x3 F' ⟨c, hc, rfl, rfl, oF, hF⟩
        refine ⟨fun hcc => ?_, fun hcc => ?_⟩
        · have e : c = 2420 := by
            have : 2420 ≤ c := (nI_leI (a := 2420) (by decide) (by omega)).mp hcc
            omega
          subst e
          refine ⟨fun u x3 J' => ∃ c, c ≤ 12 ∧ u = 12 - c ∧ x3 = nI c ∧ (∀ a, a ≠ am 1 → J' a = J a) ∧ ∀ k, J' (am 1) k = if k < c then J (am 1) (48 + k) else J (am 1) k, ⟨12, 0, by omega, rfl, rfl, fun _ _ => rfl, fun k => by rw [if_neg (by omega)]⟩, ?_⟩
          rintro u x3 J' ⟨c, hc2, rfl, rfl, ja, jk⟩
          refine ⟨fun hcc2 => ?_, fun hcc2 => ?_⟩
          · have e : c = 12 := by
              have : 12 ≤ c := (nI_leI (a := 12) (by decide) (by omega)).mp hcc2
              omega
            subst e
            exact ⟨oF, fun k hk => by rw [hF, if_pos hk], fun k hk => by rw [hF, if_neg (by omega)], ja, fun k hk => by rw [jk, if_pos hk], fun k hk => by rw [jk, if_neg (by omega)]⟩
          · have hlt : c < 12 := nI_gtI (n := 12) (by decide) (by omega) hcc2
            rw [show (48 : Int32) + nI c = nI (48 + c) from nI_add 48 c]
            refine ⟨am 1, hL.r 1, hL.k 1, hL.i 1 (by show 48 + c < 70; omega), hL.i 1 (by show c < 70; omega), fun v ev J2 e2 w ew => ?_⟩
            rw [nI_clamp (by omega)] at ev e2
            have ev' : v = J (am 1) (48 + c) := by rw [ev, jk, if_neg (by omega)]
            refine ⟨12 - (c + 1), by omega, c + 1, by omega, rfl, by rw [ew]; exact nI_1 c, fun a ha => by rw [e2, upJ_ne ha]; exact ja a ha, fun k => ?_⟩
            rw [e2]
            by_cases ck : k = c
            · rw [ck, upJ_at, if_pos (by omega), ev']
            · rw [upJ_no ck, jk]
              by_cases cr : k < c
              · rw [if_pos cr, if_pos (by omega)]
              · rw [if_neg cr, if_neg (by omega)]
        · have hlt : c < 2420 := nI_gtI (n := 2420) (by decide) (by omega) hcc
          rw [show (9680 : Int32) + nI c = nI (9680 + c) from nI_add 9680 c]
          refine ⟨hL.i 0 (by show 9680 + c < 12100; omega), hL.i 0 (by show c < 12100; omega), fun v ev F2 e2 w ew => ?_⟩
          rw [nI_clamp (by omega)] at ev e2
          have ev' : v = F (am 0) (9680 + c) := by rw [ev, hF, if_neg (by omega)]
          refine ⟨2420 - (c + 1), by omega, c + 1, by omega, rfl, by rw [ew]; exact nI_1 c, by rw [e2]; exact oF.tr On.up, fun k => ?_⟩
          rw [e2]
          by_cases ck : k = c
          · rw [ck, up_at, if_pos (by omega), ev']
          · rw [up_no ck, hF]
            by_cases cr : k < c
            · rw [if_pos cr, if_pos (by omega)]
            · rw [if_neg cr, if_neg (by omega)]
    · rw [t.2.2.1]
      have m0 : nI (mtc (tk tx L (st i).1)) = 0 ↔ tk tx L (st i).1 = 1 := mtc_0 t17
      rw [m0]
      refine ⟨fun y => ?_, fun y => ?_⟩
      · have hiK : i = K := by
          rcases Nat.lt_or_ge i K with z | z
          · exact absurd y (chain i z).1
          · omega
        subst hiK
        rcases hend with ⟨-, ho⟩ | ⟨z, -⟩
        · exact ⟨rfl, ho⟩
        · exact absurd y z
      · rcases Nat.lt_or_ge i K with z | z
        · refine sm_bookPart (S := wA S F J (gR S)) (B := (st i).2.1) (R := (st i).2.2.1) (rn := (st i).2.2.2) hL (hX.mb hL mb) t pL f18 rd ok (chain i z).2 (fun _ F2 J2 mb2 u18 u17 qL _ t2 rd2 ok2 => ?_) (fun f F2 J2 ho => by cases ho)
          exact ⟨1 + (K - (i + 1)), by omega, mb.tr mb2, Or.inl ⟨i + 1, by omega, rfl, rfl, u18, u17.trans f17, t2, qL, rd2, ok2⟩⟩
        · have hiK : i = K := by omega
          subst hiK
          rcases hend with ⟨z, -⟩ | ⟨-, f, s', ho, it⟩
          · exact absurd z y
          · refine sm_bookPart (S := wA S F J (gR S)) (B := (st i).2.1) (R := (st i).2.2.1) (rn := (st i).2.2.2) hL (hX.mb hL mb) t pL f18 rd ok it (fun ho => by cases ho) (fun f' F2 J2 ho' mb2 u18 u17 => ?_)
            cases ho'
            have b := rIt_b it f rfl
            exact ⟨0, by omega, mb.tr mb2, Or.inr ⟨rfl, rfl, f, ho, u18, b.1, b.2, u17⟩⟩
  · refine ⟨True, fun _ => ⟨fun F' J' => F' = F ∧ J' = J, ?_, fun _ => ⟨rfl, rfl⟩, fun y => ?_⟩, fun _ => trivial, fun y => absurd rfl y⟩
    · rintro F' J' ⟨rfl, rfl⟩
      refine ⟨hL.i 0 (p := 1) (by decide), sm_taken_f (S := wA S F' J' (gR S)) hL f18 f1 f99 (fun F2 g1 g2 g3 g4 => ?_)⟩
      have g1' : ∀ a, a ≠ m → F2 a = F' a := g1
      have g2' : ∀ j, j ≠ 2 → j ≠ 16 → F2 m j = F' m j := g2
      have a0 : F2 (am 0) = F' (am 0) := g1' _ (hL.o 0)
      exact hf f ho F2 J' ⟨fun a h1 h2 _ => by rw [g1' a h1]; exact mb.1 a h1 h2, fun j h1 h2 => by rw [g2' j h1 (by omega)]; exact mb.2.1 j (by omega) (by omega) (by omega) (by omega) (by omega) (by omega), fun k h1 h2 => by rw [a0]; exact mb.2.2.1 k h2, mb.2.2.2.1, fun k _ h2 => mb.2.2.2.2 k h2⟩ (fun j h1 h2 => by rw [g2' j h1 (by omega)]; exact mb.2.1 j (by omega) (by omega) (by omega) (by omega) (by omega) (by omega)) (fun a h1 h2 => by rw [g1' a h1]; exact mb.1 a h1 h2) (fun k hk => by rw [a0]; exact mb.2.2.1 k hk) mb.2.2.2.2 g3 (by rw [g2' 17 (by decide) (by decide)]; exact f17) g4
    · rw [f18] at y
      exact absurd ((nI_z (by omega)).mp y) (by omega)
end BG
