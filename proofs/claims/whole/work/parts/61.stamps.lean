/-! Sets of row numbers by stamps, on both sides. -/
/-- what stays between two stores: all but what W tells, and what is new -/
def Fr (W : Nat → Prop) (S S' : St) : Prop := ∀ a, kd S a ≠ 0 → kd S' a = kd S a ∧ ln S' a = ln S a ∧ (¬ W a → gI S' a = gI S a ∧ gJ S' a = gJ S a ∧ gR S' a = gR S a)
theorem Fr.rf {W : Nat → Prop} {S : St} : Fr W S S := fun _ _ => ⟨rfl, rfl, fun _ => ⟨rfl, rfl, rfl⟩⟩
theorem Fr.tr {W : Nat → Prop} {S S' S'' : St} (h : Fr W S S') (h2 : Fr W S' S'') : Fr W S S'' := fun a ha => by
  obtain ⟨k, l, g⟩ := h a ha
  obtain ⟨k2, l2, g2⟩ := h2 a (by rw [k]; exact ha)
  refine ⟨k2.trans k, l2.trans l, fun hw => ?_⟩
  obtain ⟨x, y, z⟩ := g hw
  obtain ⟨x2, y2, z2⟩ := g2 hw
  exact ⟨x2.trans x, y2.trans y, z2.trans z⟩
theorem Fr.mono {W V : Nat → Prop} {S S' : St} (h : Fr W S S') (hv : ∀ a, kd S a ≠ 0 → W a → V a) : Fr V S S' := fun a ha => ⟨(h a ha).1, (h a ha).2.1, fun hn => (h a ha).2.2 (fun c => hn (hv a ha c))⟩
theorem Fr.wi {W : Nat → Prop} {S : St} {F : FI} (h : ∀ a, kd S a ≠ 0 → ¬ W a → F a = gI S a) : Fr W S (wI S F) := fun a ha => ⟨rfl, rfl, fun hw => ⟨h a ha hw, rfl, rfl⟩⟩
theorem Fr.on {W : Nat → Prop} {S : St} {b : Nat} {F : FI} (h : On b (gI S) F) (hb : W b) : Fr W S (wI S F) := Fr.wi (fun a _ hw => h a (fun e => hw (by rw [e]; exact hb)))
theorem Fr.sim {W : Nat → Prop} {im : Nat → Prop} {S S' : St} (h : Fr W S S') (hi : ∀ a, im a → kd S a ≠ 0 ∧ ¬ W a) : Sim im S S' := fun a ha => by
  obtain ⟨h1, h2⟩ := hi a ha
  obtain ⟨k, l, g⟩ := h a h1
  obtain ⟨x, y, z⟩ := g h2
  exact ⟨k, l, x, y, z⟩
def MS (A : Nat → Int32) (len p : Nat) (Z : Nat → Bool) : Prop := ∀ r, r < len → (∃ v, v ≤ p ∧ A r = nI v) ∧ (A r = nI p ↔ Z r = true)
def M0 (A : Nat → Int32) (len p : Nat) : Prop := ∀ r, r < len → ∃ v, v ≤ p ∧ A r = nI v
theorem MS.z {A : Nat → Int32} {len p : Nat} {Z : Nat → Bool} (h : MS A len p Z) : M0 A len p := fun r hr => (h r hr).1
theorem M0.mono {A : Nat → Int32} {len p q : Nat} (h : M0 A len p) (hq : p ≤ q) : M0 A len q := fun r hr => by
  obtain ⟨v, hv, e⟩ := h r hr
  exact ⟨v, by omega, e⟩
theorem M0.nw {A : Nat → Int32} {len p q : Nat} (h : M0 A len p) (hq : p < q) (h2 : q < 2 ^ 31) : MS A len q (fun _ => false) := fun r hr => by
  obtain ⟨v, hv, e⟩ := h r hr
  refine ⟨⟨v, by omega, e⟩, ?_⟩
  rw [e, nI_eq (by omega) (by omega)]
  exact ⟨fun c => by omega, fun c => by cases c⟩
theorem MS.up {F : FI} {a len p r : Nat} {Z : Nat → Bool} (h : MS (F a) len p Z) : MS (upI F a r (nI p) a) len p (fun q => Z q || decide (q = r)) := fun k hk => by
  by_cases c : k = r
  · subst c
    rw [up_at]
    show (∃ v, v ≤ p ∧ nI p = nI v) ∧ (nI p = nI p ↔ (Z k || decide (k = k)) = true)
    rw [decide_eq_true (rfl : k = k), Bool.or_true]
    exact ⟨⟨p, by omega, rfl⟩, ⟨fun _ => rfl, fun _ => rfl⟩⟩
  · rw [up_no c]
    show (∃ v, v ≤ p ∧ F a k = nI v) ∧ (F a k = nI p ↔ (Z k || decide (k = r)) = true)
    rw [decide_eq_false c, Bool.or_false]
    exact h k hk
theorem MS.cg {A A2 : Nat → Int32} {len p : Nat} {Z Z2 : Nat → Bool} (h : MS A len p Z) (ha : A2 = A) (hz : ∀ r, r < len → Z r = Z2 r) : MS A2 len p Z2 := fun r hr => by
  rw [ha, ← hz r hr]
  exact h r hr
/-- the class's stamps, with any marks -/
def SX (S : St) (s a len p : Nat) : Prop := kd S s = 6 ∧ gR S s 0 = some a ∧ kd S a = 21 ∧ ln S a = len ∧ gI S s 1 = nI p ∧ len ≤ 40320 ∧ M0 (gI S a) len p
/-- with these marks -/
def SZ (S : St) (s a len p : Nat) (Z : Nat → Bool) : Prop := kd S s = 6 ∧ gR S s 0 = some a ∧ kd S a = 21 ∧ ln S a = len ∧ gI S s 1 = nI p ∧ len ≤ 40320 ∧ MS (gI S a) len p Z
theorem SZ.x {S : St} {s a len p : Nat} {Z : Nat → Bool} (h : SZ S s a len p Z) : SX S s a len p := by
  obtain ⟨h1, h2, h3, h4, h5, h6, h7⟩ := h
  exact ⟨h1, h2, h3, h4, h5, h6, h7.z⟩
theorem upR_at {R : Nat → Nat → Option Nat} {a j : Nat} {v : Option Nat} : upR R a j v a j = v := by
  unfold upR
  rw [va_up_self]
  exact va_up_self ..
theorem upR_no {R : Nat → Nat → Option Nat} {a j k : Nat} {v : Option Nat} (h : k ≠ j) : upR R a j v a k = R a k := by
  unfold upR
  rw [va_up_self]
  exact va_up_ne _ _ h
theorem upR_ne {R : Nat → Nat → Option Nat} {a b j : Nat} {v : Option Nat} (h : b ≠ a) : upR R a j v b = R b := va_up_ne _ _ h
/-- a new cell, longer than before -/
def gz (S : St) (a' len len' : Nat) : Prop := kd S a' = 0 ∧ len < len'
theorem sp_begin {S : St} {s a len p n c d : Nat} {Q : St → Prop} (h : SX S s a len p) (hp : p + 1 < 2 ^ 31) (hn : n ≤ 8) (hb : fac n ≤ len ∨ (1 ≤ c ∧ fac n ≤ d))
    (hq : ∀ S' a' len' p', Fr (fun b => b = s) S S' → ((a' = a ∧ len' = len) ∨ gz S a' len len') → SZ S' s a' len' p' (fun _ => false) → fac n ≤ len' → p' ≤ p + 1 → Q S') : P_X6_begin s (nI (fac n)) S c d Q := by
  obtain ⟨h1, h2, h3, h4, h5, h6, h7⟩ := h
  have hf := fac_8 n (by omega)
  refine ⟨h1, a, h2, h3, fun S5 _ _ => ∃ a' len' p0, Fr (fun b => b = s) S S5 ∧ ((a' = a ∧ len' = len) ∨ gz S a' len len') ∧ SX S5 s a' len' p0 ∧ fac n ≤ len' ∧ p0 ≤ p, ?_, ?_, ?_⟩
  · rintro S5 _ _ ⟨a', len', p0, fr, hc, ⟨g1, g2, g3, g4, g5, g6, g7⟩, hl, hp0⟩
    refine ⟨g1, fun v ev F eF => ?_⟩
    rw [g5, nI_1] at ev
    subst ev
    subst eF
    have hne : a' ≠ s := fun e => by rw [e, g1] at g3; cases g3
    refine hq _ a' len' (p0 + 1) (fr.tr (Fr.on On.up rfl)) hc ⟨g1, g2, g3, g4, up_at, g6, ?_⟩ hl (by omega)
    show MS (upI (gI S5) s 1 (nI (p0 + 1)) a') len' (p0 + 1) _
    rw [up_ne hne]
    exact g7.nw (by omega) (by omega)
  · intro hc
    rw [h4] at hc
    have : fac n ≤ len := (nI_leI (by omega) (by omega)).mp hc
    exact ⟨a, len, p, Fr.rf, Or.inl ⟨rfl, rfl⟩, ⟨h1, h2, h3, h4, h5, h6, h7⟩, this, Nat.le_refl _⟩
  · intro hc
    rw [h4] at hc
    have hlt : ¬ fac n ≤ len := fun e => hc (nI_le e (by omega))
    obtain ⟨hc1, hd⟩ : 1 ≤ c ∧ fac n ≤ d := by
      rcases hb with e | e
      · exact absurd e hlt
      · exact e
    rw [nI_clamp (by omega)]
    refine ⟨nI_pos (by omega), by omega, hc1, hd, fun q hq0 S10 e10 => ?_⟩
    subst e10
    have hsq : s ≠ q := fun e => by rw [← e, h1] at hq0; cases hq0
    refine ⟨by rw [kd_alon hsq]; exact h1, fun R eR F eF => ?_⟩
    subst eR
    subst eF
    refine ⟨q, fac n, 0, ?_, Or.inr ⟨hq0, by omega⟩, ⟨?_, ?_, ?_, ?_, ?_, hf, ?_⟩, Nat.le_refl _, Nat.zero_le _⟩
    · intro b hb0
      have hbq : b ≠ q := fun e => hb0 (by rw [e]; exact hq0)
      refine ⟨kd_alon (k := 21) (n := fac n) hbq, ln_alon (k := 21) (n := fac n) hbq, fun hbs => ⟨?_, ?_, ?_⟩⟩
      · show upI (gI (alo S q 21 (fac n))) s 1 0 b = _
        rw [up_ne hbs, gI_alon hbq]
      · exact gJ_alon (k := 21) (n := fac n) hbq
      · show upR (gR (alo S q 21 (fac n))) s 0 (some q) b = _
        rw [upR_ne hbs, gR_alon hbq]
    · show kd (alo S q 21 (fac n)) s = 6
      rw [kd_alon hsq]; exact h1
    · show upR (gR (alo S q 21 (fac n))) s 0 (some q) s 0 = some q
      exact upR_at
    · exact kd_alo (n := fac n)
    · exact ln_alo (k := 21)
    · show upI (gI (alo S q 21 (fac n))) s 1 0 s 1 = nI 0
      exact up_at
    · intro r _
      refine ⟨0, by omega, ?_⟩
      show upI (gI (alo S q 21 (fac n))) s 1 0 q r = nI 0
      rw [up_ne (Ne.symm hsq), gI_alo]
      rfl
theorem sp_add {S : St} {s a len p r : Nat} {Z : Nat → Bool} {Q : Int32 → FI → Prop} (h : SZ S s a len p Z) (hr : r < len)
    (hq : Z r = true → Q 0 (gI S)) (hq2 : Z r = false → ∀ F, F = upI (gI S) a r (nI p) → SZ (wI S F) s a len p (fun q => Z q || decide (q = r)) → Q 1 F) : P_X6_add s (nI r) S Q := by
  obtain ⟨h1, h2, h3, h4, h5, h6, h7⟩ := h
  refine ⟨h1, fun c => absurd c (nI_pos (by omega)), fun _ => ⟨a, h2, h3, ?_⟩⟩
  rw [h4]
  refine ⟨fun c => absurd c (nI_ge hr (by omega)), fun _ => ⟨vp_in_nI hr (by omega), ?_⟩⟩
  rw [nI_clamp (by omega), h5, (h7 r hr).2]
  refine ⟨fun hne v ev F eF => ?_, hq⟩
  subst ev
  refine hq2 (ts_nt hne) F eF ?_
  have hne2 : s ≠ a := fun e => by rw [e, h3] at h1; cases h1
  refine ⟨h1, h2, h3, h4, ?_, h6, ?_⟩
  · show F s 1 = nI p
    rw [eF, up_ne hne2]; exact h5
  · show MS (F a) len p _
    rw [eF]; exact h7.up
theorem sp_has {S : St} {s a len p r : Nat} {Z : Nat → Bool} {Q : Int32 → Prop} (h : SZ S s a len p Z) (hr : r < len)
    (hq : Z r = true → Q 1) (hq2 : Z r = false → Q 0) : P_X6_has s (nI r) S Q := by
  obtain ⟨h1, h2, h3, h4, h5, h6, h7⟩ := h
  refine ⟨h1, fun c => absurd c (nI_pos (by omega)), fun _ => ⟨a, h2, h3, ?_⟩⟩
  rw [h4]
  refine ⟨fun c => absurd c (nI_ge hr (by omega)), fun _ => ⟨vp_in_nI hr (by omega), ?_⟩⟩
  rw [nI_clamp (by omega), h5, (h7 r hr).2]
  exact ⟨fun hne => hq2 (ts_nt hne), hq⟩
/-! Which rows a lead is false against: quotients of rows of a lead. -/
/-- the number of row u behind the undone row v -/
def qn (B : Bk) (i u v : Nat) : Nat := num (bn B) (fun p => rl B i 0 (fun p => p) u (inv (bn B) (rl B i 0 (fun p => p) v) p))
def Fz (B : Bk) (i fr : Nat) (r : Nat) : Prop := ∃ u v, fr ≤ u ∧ u < fr + bl B i ∧ fr ≤ v ∧ v < fr + bl B i ∧ qn B i u v = r
theorem qn_pm {B : Bk} (hb : bok B) {i u v : Nat} (hi : i < bM B) (hu : u ≤ bl B i) (hv : v ≤ bl B i) : Pm (bn B) (fun p => rl B i 0 (fun p => p) u (inv (bn B) (rl B i 0 (fun p => p) v) p)) := comp_pm (rl0_pm hb hi hu) (inv_pm (rl0_pm hb hi hv))
theorem qn_lt {B : Bk} (hb : bok B) {i u v : Nat} (hi : i < bM B) (hu : u ≤ bl B i) (hv : v ≤ bl B i) : qn B i u v < fac (bn B) := num_lt (qn_pm hb hi hu hv)
/-- how many but rounds -/
def cz (n : Nat) (Z : Nat → Bool) : Nat := fb_ct (fun r => decide (r ≠ 0) && Z r) (fac n)
theorem cz_cong {n : Nat} {Z Z2 : Nat → Bool} (h : ∀ r, r < fac n → r ≠ 0 → Z r = Z2 r) : cz n Z = cz n Z2 := fb_ct_cong (fun r hr => by
  by_cases c : r = 0
  · subst c; rfl
  · rw [h r hr c])
theorem cz_add {n r : Nat} {Z : Nat → Bool} (hr : r < fac n) (h0 : r ≠ 0) (hz : Z r = false) : cz n (fun q => Z q || decide (q = r)) = cz n Z + 1 := by
  unfold cz
  rw [← ct_met hr (met := fun q => decide (q ≠ 0) && Z q) (by rw [hz, Bool.and_false])]
  refine fb_ct_cong (fun q hq => ?_)
  by_cases c : q = r
  · subst c; simp [h0]
  · simp [c]
theorem cz_le (n : Nat) (Z : Nat → Bool) : cz n Z ≤ fac n := fb_ct_le _ _
theorem sp_stampFalse {S : St} {s a len p b q i fr c d : Nat} {im : Nat → Prop} {B : Bk} {Q : Int32 → St → Prop} (h : SX S s a len p) (hp : p + 1 < 2 ^ 31) (hb : bok B) (hB : BX B im S b) (hi : i < bM B) (hm : MX B i im S q) (hf : fr ≤ 1)
    (him : ∀ e, im e → kd S e ≠ 0 ∧ e ≠ s ∧ e ≠ a) (hbd : fac (bn B) ≤ len ∨ (1 ≤ c ∧ fac (bn B) ≤ d))
    (hq : ∀ S' a' len' p' Z, Fr (fun e => e = s ∨ e = a) S S' → ((a' = a ∧ len' = len) ∨ gz S a' len len') → SZ S' s a' len' p' Z → fac (bn B) ≤ len' → p' ≤ p + 1 → (∀ r, r < fac (bn B) → (Z r = true ↔ (r = 0 ∨ Fz B i fr r))) → Q (nI (cz (bn B) Z)) S') : P_X6_stampFalse s b q (nI fr) S c d Q := by
  have hn := hb.2.1
  have hn1 : 1 ≤ bn B := by have := hb.1; omega
  obtain ⟨b1, b2⟩ := bl_32 hb hi
  have hfac := fac_8 (bn B) (by omega)
  have hfp := fac_pos (bn B)
  have kb := hB.2.1
  refine ⟨h.1, kb, c, d, Nat.le_refl _, Nat.le_refl _, ?_⟩
  rw [hB.2.2.2.1]
  refine sp_begin h hp hn hbd (fun S3 a' len' p' fr3 hc3 z3 hl3 hp3 => ?_)
  have him3 : ∀ e, im e → kd S e ≠ 0 ∧ ¬ (e = s) := fun e he => ⟨(him e he).1, (him e he).2.1⟩
  have ia' : ∀ e, im e → e ≠ a' := fun e he c => by
    obtain ⟨x1, x2, x3⟩ := him e he
    rcases hc3 with ⟨y1, -⟩ | y
    · exact x3 (c.trans y1)
    · rw [c] at x1; exact x1 y.1
  have sim3 : Sim im S S3 := fr3.sim him3
  have W3 : ∀ F, On a' (gI S3) F → Fr (fun e => e = s ∨ e = a) S (wI S3 F) := fun F o e he => by
    obtain ⟨k, l, g⟩ := fr3 e he
    refine ⟨k, l, fun hw => ?_⟩
    obtain ⟨x, y, z⟩ := g (fun c => hw (Or.inl c))
    have hne : e ≠ a' := fun c => by
      rcases hc3 with ⟨y1, -⟩ | y0
      · exact hw (Or.inr (c.trans y1))
      · rw [c] at he; exact he y0.1
    exact ⟨(o e hne).trans x, y, z⟩
  have simF : ∀ F, On a' (gI S3) F → Sim im S (wI S3 F) := fun F o => (W3 F o).sim (fun e he => ⟨(him e he).1, fun c => c.elim (him e he).2.1 (him e he).2.2⟩)
  have hB3 := hB.sm sim3
  have hm3 := hm.sm sim3
  have bne : b ≠ a' := ia' b hB.1
  refine ⟨z3.1, sp_add (r := 0) z3 (by omega) (fun c => by cases c) (fun _ F eF zF => ⟨hm3.2.1, ?_⟩)⟩
  have oF : On a' (gI S3) F := by rw [eF]; exact On.up
  refine sp_length (hm.sm (simF F oF)) ?_
  obtain ⟨-, -, -, -, ⟨a8, r8, i8, k8, l8, g8⟩, -⟩ := hm3
  have ne8 : a8 ≠ a' := ia' a8 i8
  refine ⟨a8, r8, k8, fun v10 e10 => ?_⟩
  have e10' : v10 = nI (fr + bl B i) := by
    rw [e10, l8, nI_add, iminN (by omega) (by omega), Nat.min_eq_left (by omega)]
  subst e10'
  refine ⟨fun t x4 x6 F => ∃ v Z, fr ≤ v ∧ v ≤ fr + bl B i ∧ t = fr + bl B i - v ∧ x6 = nI v ∧ On a' (gI S3) F ∧ SZ (wI S3 F) s a' len' p' Z ∧ x4 = nI (cz (bn B) Z) ∧ ∀ r, r < fac (bn B) → (Z r = true ↔ (r = 0 ∨ ∃ u w, fr ≤ u ∧ u < fr + bl B i ∧ fr ≤ w ∧ w < v ∧ qn B i u w = r)), ⟨bl B i, fr, _, Nat.le_refl _, by omega, by omega, rfl, oF, zF, ?_, fun r hr => ?_⟩, ?_⟩
  · have : cz (bn B) (fun q => false || decide (q = 0)) = 0 := fb_ct_zero.mpr (fun r _ => by by_cases c : r = 0 <;> simp [c])
    rw [this]; rfl
  · rw [Bool.false_or, decide_eq_true_iff]
    exact ⟨fun e => Or.inl e, fun e => e.elim id (fun ⟨u, w, _, _, h3, h4, _⟩ => by omega)⟩
  rintro t x4 x6 F1 ⟨v, Z, hv1, hv2, rfl, rfl, o1, z1, rfl, hz⟩
  refine ⟨fun hc => ?_, fun hc => ?_⟩
  · have : fr + bl B i ≤ v := (nI_leI (by omega) (by omega)).mp hc
    refine hq _ a' len' p' Z (W3 F1 o1) hc3 z1 hl3 hp3 (fun r hr => (hz r hr).trans ?_)
    refine ⟨fun e => e.elim Or.inl (fun ⟨u, w, y1, y2, y3, y4, y5⟩ => Or.inr ⟨u, w, y1, y2, y3, by omega, y5⟩), fun e => e.elim Or.inl (fun ⟨u, w, y1, y2, y3, y4, y5⟩ => Or.inr ⟨u, w, y1, y2, y3, by omega, y5⟩)⟩
  · have hlt := nI_gtI (by omega) (by omega) hc
    refine ⟨by rw [l8]; exact vp_in_nI (by omega) (by omega), hB3.2.1, ?_⟩
    have row : ∀ F, On a' (gI S3) F → ∀ k, k ≤ bl B i → F a8 k = nI (pak (rl B i 0 (fun p => p) k) (bn B)) := fun F o k hk => by rw [o a8 ne8]; exact g8 k (by omega)
    have stg : ∀ F, On a' (gI S3) F → F b 0 = nI (bn B) := fun F o => by rw [o b bne]; exact hB3.2.2.1
    rw [nI_clamp (by omega), row F1 o1 v (by omega), stg F1 o1]
    have pv := rl0_pm hb hi (show v ≤ bl B i by omega)
    refine sp_invert hn pv ?_
    refine ⟨fun t x4 x8 F => ∃ u Z, fr ≤ u ∧ u ≤ fr + bl B i ∧ t = fr + bl B i - u ∧ x8 = nI u ∧ On a' (gI S3) F ∧ SZ (wI S3 F) s a' len' p' Z ∧ x4 = nI (cz (bn B) Z) ∧ ∀ r, r < fac (bn B) → (Z r = true ↔ ((r = 0 ∨ ∃ u w, fr ≤ u ∧ u < fr + bl B i ∧ fr ≤ w ∧ w < v ∧ qn B i u w = r) ∨ ∃ u', fr ≤ u' ∧ u' < u ∧ qn B i u' v = r)), ⟨bl B i, fr, Z, Nat.le_refl _, by omega, by omega, rfl, o1, z1, rfl, fun r hr => (hz r hr).trans ⟨Or.inl, fun e => e.elim id (fun ⟨u', y1, y2, _⟩ => by omega)⟩⟩, ?_⟩
    rintro t x4 x8 F2 ⟨u, Z2, hu1, hu2, rfl, rfl, o2, z2, rfl, hz2⟩
    refine ⟨fun hc2 w1 e1 => ?_, fun hc2 => ?_⟩
    · have : fr + bl B i ≤ u := (nI_leI (by omega) (by omega)).mp hc2
      refine ⟨fr + bl B i - (v + 1), by omega, v + 1, Z2, by omega, by omega, rfl, by rw [e1]; exact nI_1 v, o2, z2, rfl, fun r hr => (hz2 r hr).trans ?_⟩
      refine ⟨fun e => ?_, fun e => ?_⟩
      · rcases e with (e | ⟨u', w, y1, y2, y3, y4, y5⟩) | ⟨u', y1, y2, y3⟩
        · exact Or.inl e
        · exact Or.inr ⟨u', w, y1, y2, y3, by omega, y5⟩
        · exact Or.inr ⟨u', v, y1, by omega, by omega, by omega, y3⟩
      · rcases e with e | ⟨u', w, y1, y2, y3, y4, y5⟩
        · exact Or.inl (Or.inl e)
        · by_cases c : w = v
          · subst c; exact Or.inr ⟨u', y1, by omega, y5⟩
          · exact Or.inl (Or.inr ⟨u', w, y1, y2, y3, by omega, y5⟩)
    · have hlt2 := nI_gtI (by omega) (by omega) hc2
      have pu := rl0_pm hb hi (show u ≤ bl B i by omega)
      have hql := qn_lt hb hi (show u ≤ bl B i by omega) (show v ≤ bl B i by omega)
      refine ⟨by rw [l8]; exact vp_in_nI (by omega) (by omega), ?_⟩
      rw [nI_clamp (by omega), row F2 o2 u (by omega), stg F2 o2]
      refine sp_rankMultiplied hn (pm8 hn pu) (inv_pm pv).1 (qn_pm hb hi (by omega) (by omega)) ?_
      have nx : ∀ (Z3 : Nat → Bool), (∀ r, r < fac (bn B) → (Z3 r = true ↔ (Z2 r = true ∨ r = qn B i u v))) → ∀ r, r < fac (bn B) → (Z3 r = true ↔ ((r = 0 ∨ ∃ u w, fr ≤ u ∧ u < fr + bl B i ∧ fr ≤ w ∧ w < v ∧ qn B i u w = r) ∨ ∃ u', fr ≤ u' ∧ u' < u + 1 ∧ qn B i u' v = r)) := fun Z3 h3 r hr => by
        rw [h3 r hr, hz2 r hr]
        refine ⟨fun e => ?_, fun e => ?_⟩
        · rcases e with (e | ⟨u', y1, y2, y3⟩) | e
          · exact Or.inl e
          · exact Or.inr ⟨u', y1, by omega, y3⟩
          · exact Or.inr ⟨u, hu1, by omega, e.symm⟩
        · rcases e with e | ⟨u', y1, y2, y3⟩
          · exact Or.inl (Or.inl e)
          · by_cases c : u' = u
            · subst c; exact Or.inr y3.symm
            · exact Or.inl (Or.inr ⟨u', y1, by omega, y3⟩)
      refine sp_add (r := qn B i u v) z2 (by omega) (fun ht => ⟨fun _ w1 e1 => ⟨fr + bl B i - (u + 1), by omega, u + 1, Z2, by omega, by omega, rfl, by rw [e1]; exact nI_1 u, o2, z2, rfl, nx Z2 (fun r hr => ⟨Or.inl, fun e => e.elim id (fun e => by rw [e]; exact ht)⟩)⟩, fun c => absurd rfl c⟩) (fun hfz F3 e3 z3' => ⟨fun c => absurd c one0, fun _ w1 e1 w2 e2 => ⟨fr + bl B i - (u + 1), by omega, u + 1, _, by omega, by omega, rfl, by rw [e2]; exact nI_1 u, ?_, z3', ?_, nx _ (fun r hr => by rw [Bool.or_eq_true, decide_eq_true_iff])⟩⟩)
      · rw [e3]; exact o2.tr On.up
      · have h0 : qn B i u v ≠ 0 := fun e => by
          have := (hz2 (qn B i u v) hql).mpr (Or.inl (Or.inl e))
          rw [hfz] at this
          cases this
        rw [e1, nI_1, cz_add hql h0 hfz]
/-! The reference's. -/
def tZ (f : Nat) : Bool := [2, 23, 24, 25, 26, 27, 28, 29, 30, 31, 32, 33, 34, 35, 36, 37].contains f
theorem tQ_tZ (f : Nat) (h : tQ f = true) : tZ f = true := by
  unfold tQ at h
  unfold tZ
  simp at h ⊢
  omega
theorem tR_tZ (f : Nat) (h : tR f = true) : tZ f = true := tQ_tZ f (tR_tQ f h)
/-- the reference's stamps -/
def SM (F : FI) (m : Nat) (am : Nat → Nat) (q : Nat) : Prop := F m 29 = nI q ∧ M0 (F (am 28)) 40320 q
theorem SM.kp {U : Nat → Bool} {S : St} {m q : Nat} {am : Nat → Nat} {F G : FI} (hL : LM S m am) (h : SM F m am q) (k : Kp U m am F G) (h1 : U 28 = false := by decide) (h2 : U 29 = false := by decide) : SM G m am q := by
  refine ⟨?_, ?_⟩
  · rw [k.2 29 h2]; exact h.1
  · rw [k.ar hL 28 h1]; exact h.2
theorem sm_marksFalse {S : St} {m i q : Nat} {am : Nat → Nat} {B : Bk} {Q : Int32 → FI → Prop} (hL : LM S m am) (hb : bok B) (hB : BM B (gI S (am 0))) (hi : i < bM B) (hM : SM (gI S) m am q) (hq0 : q + 1 < 2 ^ 31)
    (hq : ∀ F' Z, Kp tZ m am (gI S) F' → F' m 29 = nI (q + 1) → MS (F' (am 28)) 40320 (q + 1) Z → (∀ r, r < fac (bn B) → (Z r = true ↔ (r ≠ 0 ∧ Fz B i 1 r))) → Q (nI (cz (bn B) Z)) F') : P_X12_marksFalse m (nI i) S Q := by
  have hn := hb.2.1
  have hn1 : 1 ≤ bn B := by have := hb.1; omega
  obtain ⟨b1, b2⟩ := bl_32 hb hi
  have hfac := fac_8 (bn B) (by omega)
  refine ⟨hL.z, sm_laysLead hL hb hB hi (fun F1 k1 w1 v1 v2 e2 F3 e3 => ?_)⟩
  have s1 := hM.kp hL k1
  rw [s1.1, nI_1] at e2
  subst e2
  have k3 : Kp tZ m am (gI S) F3 := by rw [e3]; exact (k1.mono tQ_tZ).tr (Kp.fd 29)
  have m3 : F3 m 29 = nI (q + 1) := by rw [e3]; exact up_at
  have off : ∀ f, mk f ≠ 0 → F3 (am f) = F1 (am f) := fun f hf => by rw [e3, up_ne (hL.o f hf)]
  have z3 : MS (F3 (am 28)) 40320 (q + 1) (fun _ => false) := by rw [off 28 (by decide)]; exact s1.2.nw (by omega) (by omega)
  have r3 : ∀ k, k < bl B i → F3 (am 26) k = nI (num (bn B) (rl B i 0 (fun p => p) (k + 1))) := fun k hk => by rw [off 26 (by decide)]; exact w1 k hk
  have b3 : ∀ k, k < bl B i → F3 (am 27) k = nI (num (bn B) (inv (bn B) (rl B i 0 (fun p => p) (k + 1)))) := fun k hk => by rw [off 27 (by decide)]; exact v1 k hk
  obtain ⟨Rows, hRows⟩ : ∃ Rows : FI → Prop, Rows = fun F => Kp tZ m am (gI S) F ∧ F m 29 = nI (q + 1) ∧ (∀ k, k < bl B i → F (am 26) k = nI (num (bn B) (rl B i 0 (fun p => p) (k + 1)))) ∧ ∀ k, k < bl B i → F (am 27) k = nI (num (bn B) (inv (bn B) (rl B i 0 (fun p => p) (k + 1)))) := ⟨_, rfl⟩
  have R3 : Rows F3 := by rw [hRows]; exact ⟨k3, m3, r3, b3⟩
  refine ⟨fun t x2 x3 F => ∃ u Z, u ≤ bl B i ∧ t = bl B i - u ∧ x3 = nI u ∧ Rows F ∧ MS (F (am 28)) 40320 (q + 1) Z ∧ x2 = nI (cz (bn B) Z) ∧ ∀ r, r < fac (bn B) → (Z r = true ↔ (r ≠ 0 ∧ ∃ u' w, u' < u ∧ w < bl B i ∧ qn B i (u' + 1) (w + 1) = r)), ⟨bl B i, 0, _, by omega, rfl, rfl, R3, z3, ?_, fun r hr => ⟨fun c => Bool.noConfusion c, fun ⟨_, u', w, y, _⟩ => by omega⟩⟩, ?_⟩
  · have : cz (bn B) (fun _ => false) = 0 := fb_ct_zero.mpr (fun r _ => Bool.and_false _)
    rw [this]; rfl
  rintro t x2 x3 F4 ⟨u, Z, hu, rfl, rfl, R4, z4, rfl, hz⟩
  have R4' := R4
  rw [hRows] at R4'
  obtain ⟨k4, m4, r4, b4⟩ := R4'
  have L4 : LM (wI S F4) m am := hL
  have B4 : BM B (F4 (am 0)) := hB.kp hL k4
  refine sm_changesOf L4 hb B4 hi ⟨fun hc => ?_, fun hc => ?_⟩
  · have : bl B i ≤ u := (nI_leI (by omega) (by omega)).mp hc
    refine hq F4 Z k4 m4 z4 (fun r hr => (hz r hr).trans ⟨fun ⟨y0, u', w, y1, y2, y3⟩ => ⟨y0, u' + 1, w + 1, by omega, by omega, by omega, by omega, y3⟩, fun ⟨y0, u', w, y1, y2, y3, y4, y5⟩ => ⟨y0, u' - 1, w - 1, by omega, by omega, ?_⟩⟩)
    rw [show u' - 1 + 1 = u' by omega, show w - 1 + 1 = w by omega]
    exact y5
  · have hlt := nI_gtI (by omega) (by omega) hc
    refine ⟨fun t x2 x4 F => ∃ v Z, v ≤ bl B i ∧ t = bl B i - v ∧ x4 = nI v ∧ Rows F ∧ MS (F (am 28)) 40320 (q + 1) Z ∧ x2 = nI (cz (bn B) Z) ∧ ∀ r, r < fac (bn B) → (Z r = true ↔ (r ≠ 0 ∧ ((∃ u' w, u' < u ∧ w < bl B i ∧ qn B i (u' + 1) (w + 1) = r) ∨ ∃ w, w < v ∧ qn B i (u + 1) (w + 1) = r))), ⟨bl B i, 0, Z, by omega, rfl, rfl, R4, z4, rfl, fun r hr => (hz r hr).trans ⟨fun ⟨y0, y⟩ => ⟨y0, Or.inl y⟩, fun ⟨y0, y⟩ => ⟨y0, y.elim id (fun ⟨w, y1, _⟩ => by omega)⟩⟩⟩, ?_⟩
    rintro t x2 x4 F5 ⟨v, Z2, hv, rfl, rfl, R5, z5, rfl, hz2⟩
    have R5' := R5
    rw [hRows] at R5'
    obtain ⟨k5, m5, r5, b5⟩ := R5'
    have L5 : LM (wI S F5) m am := hL
    have B5 : BM B (F5 (am 0)) := hB.kp hL k5
    refine sm_changesOf L5 hb B5 hi ⟨fun hc2 w1 e1 => ?_, fun hc2 => ?_⟩
    · have : bl B i ≤ v := (nI_leI (by omega) (by omega)).mp hc2
      refine ⟨bl B i - (u + 1), by omega, u + 1, Z2, by omega, rfl, by rw [e1]; exact nI_1 u, R5, z5, rfl, fun r hr => (hz2 r hr).trans ?_⟩
      refine ⟨fun ⟨y0, y⟩ => ⟨y0, ?_⟩, fun ⟨y0, u', w, y1, y2, y3⟩ => ⟨y0, ?_⟩⟩
      · rcases y with ⟨u', w, y1, y2, y3⟩ | ⟨w, y1, y2⟩
        · exact ⟨u', w, by omega, y2, y3⟩
        · exact ⟨u, w, by omega, by omega, y2⟩
      · by_cases c : u' = u
        · subst c; exact Or.inr ⟨w, by omega, y3⟩
        · exact Or.inl ⟨u', w, by omega, y2, y3⟩
    · have hlt2 := nI_gtI (by omega) (by omega) hc2
      have pu := rl0_pm hb hi (show u + 1 ≤ bl B i by omega)
      have pv := rl0_pm hb hi (show v + 1 ≤ bl B i by omega)
      have hql := qn_lt hb hi (show u + 1 ≤ bl B i by omega) (show v + 1 ≤ bl B i by omega)
      refine ⟨am 26, hL.r 26, hL.k 26, hL.i 26 (by show u < 32; omega), am 27, hL.r 27, hL.k 27, hL.i 27 (by show v < 32; omega), ?_⟩
      rw [nI_clamp (by omega), nI_clamp (by omega), r5 u hlt, b5 v hlt2]
      refine sm_productOf' L5 hn hn1 B5.1 (num_lt pu) (num_lt (inv_pm pv)) (fun F6 k6 => ?_)
      have eq : num (bn B) (fun p => lay (bn B) (num (bn B) (rl B i 0 (fun p => p) (u + 1))) (lay (bn B) (num (bn B) (inv (bn B) (rl B i 0 (fun p => p) (v + 1)))) p)) = qn B i (u + 1) (v + 1) := num_cong (fun p hp => by
        rw [lay_num hn (inv_pm pv) p hp, lay_num hn pu _ ((inv_pm pv).1 p hp)])
      rw [eq]
      have off6 : ∀ f, mk f ≠ 0 → tR f = false → F6 (am f) = F5 (am f) := fun f hf hT => k6.ar hL f hT hf
      have m6 : F6 m 29 = nI (q + 1) := by rw [k6.2 29 (by decide)]; exact m5
      have R6 : Rows F6 := by
        rw [hRows]
        exact ⟨k5.tr (k6.mono tR_tZ), m6, fun k hk => by rw [off6 26 (by decide) (by decide)]; exact r5 k hk, fun k hk => by rw [off6 27 (by decide) (by decide)]; exact b5 k hk⟩
      have z6 : MS (F6 (am 28)) 40320 (q + 1) Z2 := by rw [off6 28 (by decide) (by decide)]; exact z5
      have nx : ∀ (Z3 : Nat → Bool), (∀ r, r < fac (bn B) → (Z3 r = true ↔ (Z2 r = true ∨ (r ≠ 0 ∧ r = qn B i (u + 1) (v + 1))))) → ∀ r, r < fac (bn B) → (Z3 r = true ↔ (r ≠ 0 ∧ ((∃ u' w, u' < u ∧ w < bl B i ∧ qn B i (u' + 1) (w + 1) = r) ∨ ∃ w, w < v + 1 ∧ qn B i (u + 1) (w + 1) = r))) := fun Z3 h3 r hr => by
        rw [h3 r hr, hz2 r hr]
        refine ⟨fun e => ?_, fun ⟨y0, y⟩ => ?_⟩
        · rcases e with ⟨y0, y | ⟨w, y1, y2⟩⟩ | ⟨y0, y⟩
          · exact ⟨y0, Or.inl y⟩
          · exact ⟨y0, Or.inr ⟨w, by omega, y2⟩⟩
          · exact ⟨y0, Or.inr ⟨v, by omega, y.symm⟩⟩
        · rcases y with y | ⟨w, y1, y2⟩
          · exact Or.inl ⟨y0, Or.inl y⟩
          · by_cases c : w = v
            · subst c; exact Or.inr ⟨y0, y2.symm⟩
            · exact Or.inl ⟨y0, Or.inr ⟨w, by omega, y2⟩⟩
      refine ⟨fun h0 w1 e1 => ⟨bl B i - (v + 1), by omega, v + 1, Z2, by omega, rfl, by rw [e1]; exact nI_1 v, R6, z6, rfl, nx Z2 (fun r hr => ⟨Or.inl, fun e => e.elim id (fun ⟨y0, y⟩ => ?_)⟩)⟩, fun h0 => ?_⟩
      · have : qn B i (u + 1) (v + 1) = 0 := (nI_eq (b := 0) (by omega) (by decide)).mp h0
        omega
      · have hne0 : qn B i (u + 1) (v + 1) ≠ 0 := fun e => h0 (by rw [e]; rfl)
        refine ⟨am 28, hL.r 28, hL.k 28, hL.i 28 (by show qn B i (u + 1) (v + 1) < 40320; omega), ?_⟩
        rw [nI_clamp (by omega), m6, (z6 _ (by omega)).2]
        refine ⟨fun hne w1 e1 F7 e7 w2 e2 w3 e3 => ?_, fun ht w1 e1 => ⟨bl B i - (v + 1), by omega, v + 1, Z2, by omega, rfl, by rw [e1]; exact nI_1 v, R6, z6, rfl, nx Z2 (fun r hr => ⟨Or.inl, fun e => e.elim id (fun ⟨y0, y⟩ => by rw [y]; exact ht)⟩)⟩⟩
        subst e1
        have R7 : Rows F7 := by
          have R6' := R6
          rw [hRows] at R6' ⊢
          obtain ⟨g1, g2, g3, g4⟩ := R6'
          refine ⟨?_, ?_, fun k hk => ?_, fun k hk => ?_⟩
          · rw [e7]; exact g1.tr (Kp.on hL 28 On.up)
          · rw [e7, up_ne (Ne.symm (hL.o 28))]; exact g2
          · rw [e7, up_ne (hL.n (by decide))]; exact g3 k hk
          · rw [e7, up_ne (hL.n (by decide))]; exact g4 k hk
        refine ⟨bl B i - (v + 1), by omega, v + 1, _, by omega, rfl, by rw [e3]; exact nI_1 v, R7, by rw [e7]; exact z6.up, ?_, nx _ (fun r hr => ?_)⟩
        · rw [e2, nI_1, cz_add hql hne0 (ts_nt hne)]
        · rw [Bool.or_eq_true, decide_eq_true_iff]
          exact ⟨fun e => e.elim Or.inl (fun e => Or.inr ⟨by omega, e⟩), fun e => e.elim Or.inl (fun ⟨_, e⟩ => Or.inr e)⟩
