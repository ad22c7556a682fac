/-! How the class holds a book. What is never changed again is told by im. -/
def n27 (l : List Nat) : Int64 := l.foldl (fun v c => v * 27 + lN c) 0
def n256 (l : List Nat) : Int64 := l.foldl (fun v c => (lshl v 8) ||| lN (c + 96)) 0
def Ar (im : Nat → Prop) (S : St) (a n : Nat) (f : Nat → Int32) : Prop := im a ∧ kd S a = 21 ∧ ln S a = n ∧ ∀ k, k < n → gI S a k = f k
def MX (B : Bk) (i : Nat) (im : Nat → Prop) (S : St) (q : Nat) : Prop := im q ∧ kd S q = 4 ∧ gJ S q 0 = n27 (bnm B i) ∧ (∃ a, gR S q 1 = some a ∧ Ar im S a (bl B i) (fun k => nI (pak (mvf (bv B i k)) (bn B)))) ∧ (∃ a, gR S q 2 = some a ∧ Ar im S a (bl B i + 1) (fun k => nI (pak (rl B i 0 (fun p => p) k) (bn B)))) ∧ (∃ a, gR S q 3 = some a ∧ Ar im S a 3 (fun c => nI (pak (mvf (bch B i c (bl B i - 1))) (bn B)))) ∧ (∃ a, gR S q 4 = some a ∧ Ar im S a 3 (fun c => nI (pak (hd B i c) (bn B))))
def BX (B : Bk) (im : Nat → Prop) (S : St) (b : Nat) : Prop := im b ∧ kd S b = 1 ∧ gI S b 0 = nI (bn B) ∧ gI S b 1 = nI (fac (bn B)) ∧ gI S b 2 = msk (fun p => !brr B p) (bn B) ∧ ∃ a, gR S b 3 = some a ∧ im a ∧ kd S a = 24 ∧ ln S a = bM B ∧ ∀ i, i < bM B → ∃ q, gR S a i = some q ∧ MX B i im S q
/-- what im tells of is the same in both -/
def Sim (im : Nat → Prop) (S S' : St) : Prop := ∀ a, im a → kd S' a = kd S a ∧ ln S' a = ln S a ∧ gI S' a = gI S a ∧ gJ S' a = gJ S a ∧ gR S' a = gR S a
theorem Ar.sm {im : Nat → Prop} {S S' : St} {a n : Nat} {f : Nat → Int32} (h : Ar im S a n f) (hs : Sim im S S') : Ar im S' a n f := by
  obtain ⟨h1, h2, h3, h4⟩ := h
  obtain ⟨s1, s2, s3, s4, s5⟩ := hs a h1
  exact ⟨h1, s1.trans h2, s2.trans h3, fun k hk => by rw [s3]; exact h4 k hk⟩
theorem MX.sm {B : Bk} {i : Nat} {im : Nat → Prop} {S S' : St} {q : Nat} (h : MX B i im S q) (hs : Sim im S S') : MX B i im S' q := by
  obtain ⟨h1, h2, h3, ⟨a4, r4, h4⟩, ⟨a5, r5, h5⟩, ⟨a6, r6, h6⟩, a7, r7, h7⟩ := h
  obtain ⟨s1, s2, s3, s4, s5⟩ := hs q h1
  exact ⟨h1, s1.trans h2, by rw [s4]; exact h3, ⟨a4, by rw [s5]; exact r4, h4.sm hs⟩, ⟨a5, by rw [s5]; exact r5, h5.sm hs⟩, ⟨a6, by rw [s5]; exact r6, h6.sm hs⟩, a7, by rw [s5]; exact r7, h7.sm hs⟩
theorem BX.sm {B : Bk} {im : Nat → Prop} {S S' : St} {b : Nat} (h : BX B im S b) (hs : Sim im S S') : BX B im S' b := by
  obtain ⟨h1, h2, h3, h4, h5, a, r, h6, h7, h8, h9⟩ := h
  obtain ⟨s1, s2, s3, s4, s5⟩ := hs b h1
  obtain ⟨t1, t2, t3, t4, t5⟩ := hs a h6
  refine ⟨h1, s1.trans h2, by rw [s3]; exact h3, by rw [s3]; exact h4, by rw [s3]; exact h5, a, by rw [s5]; exact r, h6, t1.trans h7, t2.trans h8, fun i hi => ?_⟩
  obtain ⟨q, hq, hm⟩ := h9 i hi
  exact ⟨q, by rw [t5]; exact hq, hm.sm hs⟩
/-- both sides, as far as a book goes -/
def CB (S : St) (x b m : Nat) (am : Nat → Nat) (im : Nat → Prop) (B : Bk) : Prop := kd S x = 11 ∧ gR S x 7 = some b ∧ bok B ∧ BX B im S b ∧ LM S m am ∧ BM B (gI S (am 0))
theorem x_am {S : St} {x m : Nat} {am : Nat → Nat} (hx : kd S x = 11) (hL : LM S m am) (f : Nat) (hf : mk f ≠ 0 := by decide) : am f ≠ x := fun e => by
  have h := hL.k f hf
  rw [e, hx] at h
  have : ∀ f, mk f ≠ 11 := fun f => by
    rcases Nat.lt_or_ge f 51 with h | h
    · have : ∀ f, f < 51 → mk f ≠ 11 := by decide
      exact this f h
    · rw [mk_big h]; decide
  exact this f h.symm
theorem x_m {S : St} {x m : Nat} {am : Nat → Nat} (hx : kd S x = 11) (hL : LM S m am) : m ≠ x := fun e => by
  have h := hL.z
  rw [e, hx] at h
  cases h
/-- how a question ends: both have the same status, and of the reference only what questions use is changed -/
def Gd (S : St) (x m : Nat) (am : Nat → Nat) (F' : Nat → Nat → Int32) : Prop := ∃ s, Kp tQ m am (upI (gI S) x 0 s) F' ∧ F' m 2 = s
theorem an {S : St} {x : Nat} {v : Int32} {Q : Int32 → (Nat → Nat → Int32) → Prop} (hx : kd S x = 11) (hq : Q v (upI (gI S) x 0 0)) : P_X11_answer x v S Q := ⟨hx, fun F e => by rw [e]; exact hq⟩
theorem rf {S : St} {x : Nat} {w : Int32} {Q : Int32 → (Nat → Nat → Int32) → Prop} (hx : kd S x = 11) (hq : Q (-1) (upI (gI S) x 0 w)) : P_X11_refuse x w S Q := ⟨hx, fun F e => by rw [e]; exact hq⟩
theorem gvm {S S1 : St} {x m : Nat} {am : Nat → Nat} {v : Int32} {Q : Int32 → (Nat → Nat → Int32) → Prop} (hz : kd S1 m = 12) (hk : Kp tQ m am (upI (gI S) x 0 0) (gI S1)) (hq : ∀ F', Gd S x m am F' → Q v F') : P_X12_gives m v S1 Q := ⟨hz, fun F e => by rw [e]; exact hq _ ⟨0, hk.tr (Kp.fd 2), up_at⟩⟩
theorem rfm {S S1 : St} {x m : Nat} {am : Nat → Nat} {w : Int32} {Q : Int32 → (Nat → Nat → Int32) → Prop} (hz : kd S1 m = 12) (hk : Kp tQ m am (upI (gI S) x 0 w) (gI S1)) (hq : ∀ F', Gd S x m am F' → Q (-1) F') : P_X12_refuse m w S1 Q := ⟨hz, fun F e => by rw [e]; exact hq _ ⟨w, hk.tr (Kp.fd 2), up_at⟩⟩
def NR (N : Nat) (r : Int32) : Prop := ∀ k, k < N → r ≠ nI k
def NB (N : Nat) (r : Int32) : Prop := ∀ k, k < N → r ≠ nI (k + 1)
theorem nr_case (N : Nat) (hN : N < 2 ^ 31) (r : Int32) : (∃ k, k < N ∧ r = nI k) ∨ NR N r := by
  rcases pk_ix r hN with h | h | ⟨j, hj, e⟩
  · exact Or.inr (fun k hk e => by rw [e] at h; exact nI_pos (by omega) h)
  · exact Or.inr (fun k hk e => by rw [e] at h; exact nI_ge hk hN h)
  · exact Or.inl ⟨j, hj, e⟩
theorem nb_case (N : Nat) (hN : N + 1 < 2 ^ 31) (r : Int32) : (∃ k, k < N ∧ r = nI (k + 1)) ∨ NB N r := by
  rcases nr_case (N + 1) hN r with ⟨k, hk, e⟩ | h
  · rcases Nat.eq_zero_or_pos k with h0 | h0
    · exact Or.inr (fun j hj e2 => by
        rw [e] at e2
        have := (nI_eq (by omega) (by omega)).mp e2
        omega)
    · exact Or.inl ⟨k - 1, by omega, by rw [e, show k - 1 + 1 = k by omega]⟩
  · exact Or.inr (fun j hj => h (j + 1) (by omega))
theorem nr_ix {N : Nat} (hN : N < 2 ^ 31) {r : Int32} (h : NR N r) (h0 : ¬ r < 0) : nI N ≤ r := by
  obtain ⟨k, hk, rfl⟩ := nI_of h0
  refine nI_le ?_ hk
  rcases Nat.lt_or_ge k N with c | c
  · exact absurd rfl (h k c)
  · exact c
theorem nb_ix {N : Nat} (hN : N < 2 ^ 31) {r : Int32} (h : NB N r) (h0 : ¬ r < 1) : nI N < r := by
  have h00 : ¬ r < 0 := fun c => h0 (by rw [fa_lt] at c ⊢; have e0 : (0 : Int32).toInt = 0 := rfl; have e1 : (1 : Int32).toInt = 1 := rfl; omega)
  obtain ⟨k, hk, rfl⟩ := nI_of h00
  have hk1 : 1 ≤ k := by
    rcases Nat.eq_zero_or_pos k with c | c
    · subst c; exact absurd (nI_lt (a := 0) (b := 1) (by decide) (by decide)) h0
    · exact c
  refine nI_lt ?_ hk
  rcases Nat.lt_or_ge N k with c | c
  · exact c
  · exact absurd (by rw [show k - 1 + 1 = k by omega]) (h (k - 1) (by omega))
theorem CB.x {S : St} {x b m : Nat} {am : Nat → Nat} {im : Nat → Prop} {B : Bk} (h : CB S x b m am im B) : kd S x = 11 := h.1
theorem CB.b {S : St} {x b m : Nat} {am : Nat → Nat} {im : Nat → Prop} {B : Bk} (h : CB S x b m am im B) : gR S x 7 = some b := h.2.1
theorem CB.o {S : St} {x b m : Nat} {am : Nat → Nat} {im : Nat → Prop} {B : Bk} (h : CB S x b m am im B) : bok B := h.2.2.1
theorem CB.B {S : St} {x b m : Nat} {am : Nat → Nat} {im : Nat → Prop} {B : Bk} (h : CB S x b m am im B) : BX B im S b := h.2.2.2.1
theorem CB.L {S : St} {x b m : Nat} {am : Nat → Nat} {im : Nat → Prop} {B : Bk} (h : CB S x b m am im B) : LM S m am := h.2.2.2.2.1
theorem CB.M {S : St} {x b m : Nat} {am : Nat → Nat} {im : Nat → Prop} {B : Bk} (h : CB S x b m am im B) : BM B (gI S (am 0)) := h.2.2.2.2.2
theorem CB.n8 {S : St} {x b m : Nat} {am : Nat → Nat} {im : Nat → Prop} {B : Bk} (h : CB S x b m am im B) : bn B ≤ 8 := h.o.2.1
theorem CB.n1 {S : St} {x b m : Nat} {am : Nat → Nat} {im : Nat → Prop} {B : Bk} (h : CB S x b m am im B) : 1 ≤ bn B := by have := h.o.1; omega
theorem CB.k {S : St} {x b m : Nat} {am : Nat → Nat} {im : Nat → Prop} {B : Bk} (h : CB S x b m am im B) : kd S b = 1 := h.B.2.1
theorem CB.s {S : St} {x b m : Nat} {am : Nat → Nat} {im : Nat → Prop} {B : Bk} (h : CB S x b m am im B) : gI S b 0 = nI (bn B) := h.B.2.2.1
theorem CB.r {S : St} {x b m : Nat} {am : Nat → Nat} {im : Nat → Prop} {B : Bk} (h : CB S x b m am im B) : gI S b 1 = nI (fac (bn B)) := h.B.2.2.2.1
/-- the reference's book, behind the class's answer -/
theorem CB.M1 {S : St} {x b m : Nat} {am : Nat → Nat} {im : Nat → Prop} {B : Bk} (h : CB S x b m am im B) (s : Int32) : BM B (upI (gI S) x 0 s (am 0)) := by
  rw [up_ne (x_am h.x h.L 0)]
  exact h.M
theorem CB.f {S : St} {x b m : Nat} {am : Nat → Nat} {im : Nat → Prop} {B : Bk} (h : CB S x b m am im B) : fac (bn B) < 2 ^ 31 := fac_lt h.n8
theorem one0 : ¬ (1 : Int32) = 0 := by decide
theorem xRy {S : St} {x b m k : Nat} {am : Nat → Nat} {im : Nat → Prop} {B : Bk} {Q : Int32 → Prop} (h : CB S x b m am im B) (hk : k < fac (bn B)) (hq : Q 1) : P_X11_isRow x (nI k) S Q := by
  have hf := h.f
  refine ⟨h.x, fun c => absurd c (nI_pos (by omega)), fun _ => ⟨b, h.b, h.k, ?_⟩⟩
  rw [h.r]
  exact ⟨fun c => absurd c (nI_ge hk hf), fun _ => hq⟩
theorem xRn {S : St} {x b m : Nat} {am : Nat → Nat} {im : Nat → Prop} {B : Bk} {r : Int32} {Q : Int32 → Prop} (h : CB S x b m am im B) (hr : NR (fac (bn B)) r) (hq : Q 0) : P_X11_isRow x r S Q := by
  refine ⟨h.x, fun _ => hq, fun h0 => ⟨b, h.b, h.k, ?_⟩⟩
  rw [h.r]
  exact ⟨fun _ => hq, fun c => absurd (nr_ix h.f hr h0) c⟩
theorem xBy {S : St} {x b m k : Nat} {am : Nat → Nat} {im : Nat → Prop} {B : Bk} {Q : Int32 → Prop} (h : CB S x b m am im B) (hk : k < bn B) (hq : Q 1) : P_X11_isBell x (nI (k + 1)) S Q := by
  have hn := h.n8
  refine ⟨h.x, fun c => absurd c (nI_nlt (b := 1) (by omega) (by omega)), fun _ => ⟨b, h.b, h.k, ?_⟩⟩
  rw [h.s]
  exact ⟨fun c => absurd c (nI_nlt (by omega) (by omega)), fun _ => hq⟩
theorem xBn {S : St} {x b m : Nat} {am : Nat → Nat} {im : Nat → Prop} {B : Bk} {r : Int32} {Q : Int32 → Prop} (h : CB S x b m am im B) (hr : NB (bn B) r) (hq : Q 0) : P_X11_isBell x r S Q := by
  have hn := h.n8
  refine ⟨h.x, fun _ => hq, fun h0 => ⟨b, h.b, h.k, ?_⟩⟩
  rw [h.s]
  exact ⟨fun _ => hq, fun c => absurd (nb_ix (by omega) hr h0) c⟩
theorem xMy {S : St} {x b m k : Nat} {am : Nat → Nat} {im : Nat → Prop} {B : Bk} {Q : Int32 → Prop} (h : CB S x b m am im B) (hk : k < bM B) (hq : Q 1) : P_X11_isMethod x (nI k) S Q := by
  have h4 := h.o.2.2.1
  obtain ⟨a, r, -, ka, la, -⟩ := h.B.2.2.2.2.2
  refine ⟨h.x, fun c => absurd c (nI_pos (by omega)), fun _ => ⟨b, h.b, h.k, a, r, ka, ?_⟩⟩
  rw [la]
  exact ⟨fun c => absurd c (nI_ge hk (by omega)), fun _ => hq⟩
theorem xMn {S : St} {x b m : Nat} {am : Nat → Nat} {im : Nat → Prop} {B : Bk} {r : Int32} {Q : Int32 → Prop} (h : CB S x b m am im B) (hr : NR (bM B) r) (hq : Q 0) : P_X11_isMethod x r S Q := by
  have h4 := h.o.2.2.1
  obtain ⟨a, ra, -, ka, la, -⟩ := h.B.2.2.2.2.2
  refine ⟨h.x, fun _ => hq, fun h0 => ⟨b, h.b, h.k, a, ra, ka, ?_⟩⟩
  rw [la]
  exact ⟨fun _ => hq, fun c => absurd (nr_ix (by omega) hr h0) c⟩
theorem xCy {c : Nat} {Q : Int32 → Prop} (hc : c < 3) (hq : Q 1) : P_X11_isCall (nI c) Q := ⟨fun h => absurd h (nI_pos (by omega)), fun _ => ⟨fun h => absurd h (nI_ge (b := 3) hc (by decide)), fun _ => hq⟩⟩
theorem xCn {r : Int32} {Q : Int32 → Prop} (hr : NR 3 r) (hq : Q 0) : P_X11_isCall r Q := ⟨fun _ => hq, fun h0 => ⟨fun _ => hq, fun c => absurd (nr_ix (N := 3) (by decide) hr h0) c⟩⟩
theorem mCy {c : Nat} {Q : Int32 → Prop} (hc : c < 3) (hq : Q 1) : P_X12_isCall (nI c) Q := ⟨fun h => absurd h (nI_pos (by omega)), fun _ => ⟨fun h => absurd h (nI_nlt (b := c) (a := 2) (by omega) (by decide)), fun _ => hq⟩⟩
theorem mCn {r : Int32} {Q : Int32 → Prop} (hr : NR 3 r) (hq : Q 0) : P_X12_isCall r Q := ⟨fun _ => hq, fun h0 => ⟨fun _ => hq, fun c => absurd (fa_trans (nI_lt (a := 2) (b := 3) (by decide) (by decide)) (nr_ix (N := 3) (by decide) hr h0)) c⟩⟩
theorem mRy {S : St} {m k : Nat} {am : Nat → Nat} {B : Bk} {Q : Int32 → Prop} (hL : LM S m am) (hb : bok B) (hB : BM B (gI S (am 0))) (hk : k < fac (bn B)) (hq : Q 1) : P_X12_isRow m (nI k) S Q := sm_isRow hL hb.2.1 (by have := hb.1; omega) hB.1 (fun _ _ _ => hq) (fun h => absurd rfl (h k hk))
theorem mRn {S : St} {m : Nat} {am : Nat → Nat} {B : Bk} {r : Int32} {Q : Int32 → Prop} (hL : LM S m am) (hb : bok B) (hB : BM B (gI S (am 0))) (hr : NR (fac (bn B)) r) (hq : Q 0) : P_X12_isRow m r S Q := sm_isRow hL hb.2.1 (by have := hb.1; omega) hB.1 (fun k hk e => absurd e (hr k hk)) (fun _ => hq)
theorem mBy {S : St} {m k : Nat} {am : Nat → Nat} {B : Bk} {Q : Int32 → Prop} (hL : LM S m am) (hb : bok B) (hB : BM B (gI S (am 0))) (hk : k < bn B) (hq : Q 1) : P_X12_isBell m (nI (k + 1)) S Q := by
  have hn := hb.2.1
  refine ⟨hL.z, fun c => absurd c (nI_nlt (b := 1) (by omega) (by omega)), fun _ => ⟨am 0, hL.r 0, hL.k 0, hL.i 0 (p := 0) (by decide), ?_⟩⟩
  rw [hB.1]
  exact ⟨fun c => absurd c (nI_nlt (by omega) (by omega)), fun _ => hq⟩
theorem mBn {S : St} {m : Nat} {am : Nat → Nat} {B : Bk} {r : Int32} {Q : Int32 → Prop} (hL : LM S m am) (hb : bok B) (hB : BM B (gI S (am 0))) (hr : NB (bn B) r) (hq : Q 0) : P_X12_isBell m r S Q := by
  have hn := hb.2.1
  refine ⟨hL.z, fun _ => hq, fun h0 => ⟨am 0, hL.r 0, hL.k 0, hL.i 0 (p := 0) (by decide), ?_⟩⟩
  rw [hB.1]
  exact ⟨fun _ => hq, fun c => absurd (nb_ix (by omega) hr h0) c⟩
theorem mMy {S : St} {m k : Nat} {am : Nat → Nat} {B : Bk} {Q : Int32 → Prop} (hL : LM S m am) (hb : bok B) (hB : BM B (gI S (am 0))) (hk : k < bM B) (hq : Q 1) : P_X12_isMethod m (nI k) S Q := by
  have h4 := hb.2.2.1
  refine ⟨hL.z, fun c => absurd c (nI_pos (by omega)), fun _ => ⟨am 0, hL.r 0, hL.k 0, hL.i 0 (p := 1) (by decide), ?_⟩⟩
  rw [hB.2.1]
  exact ⟨fun c => absurd c (nI_ge hk (by omega)), fun _ => hq⟩
theorem mMn {S : St} {m : Nat} {am : Nat → Nat} {B : Bk} {r : Int32} {Q : Int32 → Prop} (hL : LM S m am) (hb : bok B) (hB : BM B (gI S (am 0))) (hr : NR (bM B) r) (hq : Q 0) : P_X12_isMethod m r S Q := by
  have h4 := hb.2.2.1
  refine ⟨hL.z, fun _ => hq, fun h0 => ⟨am 0, hL.r 0, hL.k 0, hL.i 0 (p := 1) (by decide), ?_⟩⟩
  rw [hB.2.1]
  exact ⟨fun _ => hq, fun c => absurd (nr_ix (by omega) hr h0) c⟩
theorem xPk {S : St} {x b m k : Nat} {am : Nat → Nat} {im : Nat → Prop} {B : Bk} {Q : Int32 → Prop} (h : CB S x b m am im B) (hk : k < fac (bn B)) (hq : Q (nI (pak (lay (bn B) k) (bn B)))) : P_X11_packed x (nI k) S Q := by
  refine ⟨h.x, b, h.b, h.k, ?_⟩
  rw [h.s]
  exact sp_unrank h.n8 hk hq
theorem xNu {S : St} {x b m : Nat} {f : Nat → Nat} {am : Nat → Nat} {im : Nat → Prop} {B : Bk} {Q : Int32 → Prop} (h : CB S x b m am im B) (hf : Pm (bn B) f) (hq : Q (nI (num (bn B) f))) : P_X11_numbered x (nI (pak f (bn B))) S Q := by
  refine ⟨h.x, b, h.b, h.k, ?_⟩
  rw [h.s]
  exact sp_rank h.n8 hf hq
