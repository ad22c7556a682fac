/-! The class's search, run over a book, and the way kept. -/
def bfi (B : Bk) : Bs := bfin (bn B) (hb3 B) (3 * bM B)
def SeR (S : St) (se : Nat) (sa : Nat → Nat) (len : Nat) (B : Bk) : Prop := fac (bn B) ≤ len ∧ gI S se 6 = nI (bC (bfi B)) ∧ (∀ j, 1 ≤ j → j < bC (bfi B) → gI S (sa 2) (bF (bfi B) j) = nI (12 * bF (bfi B) (bP (bfi B) j) + (bW (bfi B) j + 1))) ∧ gI S (sa 2) 0 = 1 ∧ ∀ r, r < fac (bn B) → us (bF (bfi B)) (bC (bfi B)) r = false → gI S (sa 2) r = 0
def SeO (S : St) (se : Nat) (sa : Nat → Nat) (im : Nat → Prop) (len : Nat) : Prop := ∀ b0, gR S se 0 = some b0 → ∃ B0, bok B0 ∧ BX B0 im S b0 ∧ SeR S se sa len B0
theorem inn_cg {n A : Nat} {h g : Nat → Nat → Nat} (e : ∀ a, a < A → Eqn n (h a) (g a)) (k : Nat) (s : Bs) : ∀ a, a ≤ A → inn n h k a s = inn n g k a s
  | 0, _ => rfl
  | a + 1, ha => by
    have nx : ∀ r, nxr n h r a = nxr n g r a := fun r => num_cong (fun p hp => by rw [e a (by omega) p hp])
    show tr1 n h k a (inn n h k a s) = tr1 n g k a (inn n g k a s)
    rw [inn_cg e k s a (by omega)]
    unfold tr1
    rw [nx]
theorem ob_cg {n A : Nat} {h g : Nat → Nat → Nat} (e : ∀ a, a < A → Eqn n (h a) (g a)) : ∀ k, ob n h A k = ob n g A k
  | 0 => rfl
  | k + 1 => by
    show (if k < bC (ob n h A k) then inn n h k A (ob n h A k) else ob n h A k) = if k < bC (ob n g A k) then inn n g k A (ob n g A k) else ob n g A k
    rw [ob_cg e k, inn_cg e k _ A (Nat.le_refl _)]
/-- one book object has one search -/
theorem bx_bfi {B B0 : Bk} {im : Nat → Prop} {S : St} {b : Nat} (ho : bok B) (ho0 : bok B0) (h : BX B im S b) (h0 : BX B0 im S b) : bn B = bn B0 ∧ bfi B = bfi B0 := by
  obtain ⟨-, -, s0, -, -, a, ra, -, -, la, hm⟩ := h
  obtain ⟨-, -, t0, -, -, a2, ra2, -, -, la2, hm2⟩ := h0
  have e1 : bn B = bn B0 := by
    have := s0.symm.trans t0
    exact (nI_eq (by have := ho.2.1; omega) (by have := ho0.2.1; omega)).mp this
  have ea : a = a2 := by rw [ra] at ra2; exact Option.some.inj ra2
  subst ea
  have e2 : bM B = bM B0 := la.symm.trans la2
  refine ⟨e1, ?_⟩
  unfold bfi bfin
  rw [← e1, ← e2]
  refine ob_cg (fun c hc => ?_) _
  obtain ⟨q, rq, mq⟩ := hm (c / 3) (by omega)
  obtain ⟨q2, rq2, mq2⟩ := hm2 (c / 3) (by omega)
  have eq : q = q2 := by rw [rq] at rq2; exact Option.some.inj rq2
  subst eq
  obtain ⟨-, -, -, -, -, -, ⟨a7, r7, -, -, -, g7⟩⟩ := mq
  obtain ⟨-, -, -, -, -, -, ⟨a8, r8, -, -, -, g8⟩⟩ := mq2
  have e7 : a7 = a8 := by rw [r7] at r8; exact Option.some.inj r8
  subst e7
  have := (g7 (c % 3) (by omega)).symm.trans (g8 (c % 3) (by omega))
  rw [← e1] at this
  refine (pak_eq ho.2.1 (pm8 ho.2.1 (hb3_pm ho c hc)) (pm8 ho.2.1 ?_)).mp this
  rw [e1]
  exact hb3_pm ho0 c (by omega)
section OV
variable {S : St} {se b len wl : Nat} {sa : Nat → Nat} {im : Nat → Prop} {B : Bk}
theorem sp_fill {a l : Nat} {v : Int32} {Q : FI → Prop} (hk : kd S a = 21) (hl : ln S a = l) (h4 : l ≤ 40320) (hq : ∀ F, On a (gI S) F → (∀ j, j < l → F a j = v) → Q F) : P_J7_fill_53178 a v S Q := by
  refine ⟨hk, fun w ew => ⟨fun t x F => ∃ i, i ≤ l ∧ t = l - i ∧ x = nI i ∧ On a (gI S) F ∧ ∀ j, j < i → F a j = v, ⟨l, 0, by omega, rfl, rfl, fun _ _ => rfl, fun j hj => by omega⟩, ?_⟩⟩
  rw [hl] at ew
  subst ew
  rintro t x F ⟨i, hi, rfl, rfl, on, hv⟩
  refine ⟨fun hc => ?_, fun hc => ⟨?_, fun F8 e8 w ew => ?_⟩⟩
  · have : l ≤ i := (nI_leI (by omega) (by omega)).mp hc
    exact hq F on (fun j hj => hv j (by omega))
  · rw [hl]; exact vp_in_nI (nI_gtI (by omega) (by omega) hc) (by omega)
  · have hlt := nI_gtI (by omega) (by omega) hc
    rw [nI_clamp (by omega)] at e8
    refine ⟨l - (i + 1), by omega, i + 1, by omega, rfl, by rw [ew]; exact nI_1 i, fun e he => by rw [e8, up_ne he]; exact on e he, fun j hj => ?_⟩
    by_cases c : j = i
    · rw [e8, c, up_at]
    · rw [e8, up_no c]; exact hv j (by omega)
theorem sp_over {c d : Nat} {Q : St → Prop} (hX : SeX S se sa len wl) (hb : bok B) (hB : BX B im S b) (him : ∀ e, im e → kd S e ≠ 0 ∧ ¬ WS se sa e) (hR : SeO S se sa im len) (hbd : fac (bn B) ≤ len ∨ (2 ≤ c ∧ 2 * fac (bn B) ≤ d))
    (hq : ∀ S1 sa1 len1, Fr (WS se sa) S S1 → (∀ f, seF f = true → sa1 f = sa f ∨ kd S (sa1 f) = 0) → SeX S1 se sa1 len1 wl → (len1 = len ∨ (len < len1 ∧ len1 = fac (bn B))) → sa1 7 = sa 7 → gI S1 se 8 = gI S se 8 → gI S1 (sa 7) = gI S (sa 7) → gR S1 se 0 = some b → SeR S1 se sa1 len1 B → Q S1) : P_X5_over se b S c d Q := by
  have hn := hb.2.1
  have hM4 := hb.2.2.1
  have hp := hb3_pm hb
  have hfac := fac_8 (bn B) (by omega)
  have hl4 := hX.le.1
  refine ⟨hX.z, fun hne R2 e2 => ?_, fun he => ?_⟩
  · have r2 : ∀ f, f ≠ 0 → R2 se f = gR S se f := fun f hf => by rw [e2]; exact upR_no hf
    have r20 : R2 se 0 = some b := by rw [e2]; exact upR_at
    refine ⟨sa 1, by rw [r2 1 (by decide)]; exact hX.r 1, hX.k 1, hB.2.1, fun S8 _ _ => ∃ sa1 len1, Fr (WS se sa) S S8 ∧ (∀ f, seF f = true → sa1 f = sa f ∨ kd S (sa1 f) = 0) ∧ SeX S8 se sa1 len1 wl ∧ fac (bn B) ≤ len1 ∧ (len1 = len ∨ (len < len1 ∧ len1 = fac (bn B))) ∧ sa1 7 = sa 7 ∧ gI S8 se = gI S se ∧ gI S8 (sa 7) = gI S (sa 7) ∧ gR S8 se 0 = some b ∧ ∀ r, r < len1 → gI S8 (sa1 2) r = 0, ?_, ?_, ?_⟩
    · rintro S8 _ _ ⟨sa1, len1, fr, fs, X8, hl1, hlc, s7, gse, g7, r80, hz⟩
      have im8 : ∀ e, im e → ¬ WS se sa1 e := fun e he hw => by
        rcases hw with z | ⟨f, hf, z⟩
        · exact (him e he).2 (Or.inl z)
        · rcases fs f hf with y | y
          · exact (him e he).2 (Or.inr ⟨f, hf, z.trans y⟩)
          · exact (him e he).1 (by rw [z]; exact y)
      have B8 := hB.sm (fr.sim him)
      have l14 := X8.le.1
      refine ⟨X8.z, sp_gather X8 hb B8 im8 (fun F T lt fse f6 f1 f2 gh => ⟨B8.2.1, ?_⟩)⟩
      have Fb : F b 0 = nI (bn B) := by rw [fse.1 b (im8 b B8.1)]; exact B8.2.2.1
      rw [Fb]
      refine sp_roundsOf hn (sp_keepFound (S := wI S8 F) (C := 0) (to := 0) X8 f6 (by have := fac_pos (bn B); omega) (by have := fac_pos (bn B); omega) (fun F14 e14 => ?_))
      have e14' : F14 = upI (upI (upI F (sa1 1) 0 (nI (pak (fun p => p) (bn B)))) (sa1 2) 0 (0 + 1)) se 6 (nI 1) := e14
      have init : CBs (bn B) (gI S8) F14 se sa1 (ob (bn B) (hb3 B) (3 * bM B) 0) := by
        refine ⟨by rw [e14']; exact ((fse.up X8 (f := 1)).up X8 (f := 2)).us X8, by rw [e14', up_at]; rfl, fun j hj => ?_, fun j h1 h2 => by have : j < 1 := h2; omega, ?_, fun r hr hu => ?_⟩
        · have : j = 0 := by have : j < 1 := hj; omega
          subst this
          rw [e14', up_ne (X8.o 1), up_ne (X8.n (by decide)), up_at]
          exact congrArg nI (pak_cong (fun p hp' => (lay_0 hn p hp').symm))
        · rw [e14', up_ne (X8.o 2), up_at]; rfl
        · have r0 : r ≠ 0 := fun e => by
            subst e
            exact us_no.mp hu 0 (show 0 < 1 by decide) rfl
          rw [e14', up_ne (X8.o 2), up_no r0, up_ne (X8.n (by decide)), f2]
          exact hz r (by omega)
      have gh0 : GH B se sa1 (3 * bM B) T lt F14 := gh.cg (by rw [e14', up_no (by decide), up_ne (Ne.symm (X8.o 2)), up_ne (Ne.symm (X8.o 1))]) (by rw [e14', up_ne (X8.o 3), up_ne (X8.n (by decide)), up_ne (X8.n (by decide))]) (by rw [e14', up_ne (X8.o 4), up_ne (X8.n (by decide)), up_ne (X8.n (by decide))])
      refine ⟨fun t x2 F => ∃ k, k ≤ bC (ob (bn B) (hb3 B) (3 * bM B) k) ∧ t = 40321 - k ∧ x2 = nI k ∧ CBs (bn B) (gI S8) F se sa1 (ob (bn B) (hb3 B) (3 * bM B) k) ∧ GH B se sa1 (3 * bM B) T lt F, ⟨40321, 0, Nat.zero_le _, rfl, rfl, init, gh0⟩, ?_⟩
      rintro t x2 F17 ⟨k, hk, rfl, rfl, cb, gh'⟩
      have hC := ob_C hn hp k
      obtain ⟨hbv, -⟩ := ob_bv hn hp k
      have eC := cb.2.1
      rw [eC]
      refine ⟨fun hc => ?_, fun hc => ?_⟩
      · have hle : bC (ob (bn B) (hb3 B) (3 * bM B) k) ≤ k := (nI_leI (by omega) (by omega)).mp hc
        rw [ob_end hn hp hle (by omega)] at cb
        obtain ⟨c1, c6, cq, cf, c0, cz⟩ := cb
        refine hq _ sa1 len1 (fun a ha => ⟨(fr a ha).1, (fr a ha).2.1, fun hw => ⟨?_, ((fr a ha).2.2 hw).2⟩⟩) fs X8 hlc s7 ?_ ?_ r80 ⟨hl1, c6, cf, c0, cz⟩
        · refine (c1.1 a (fun z => ?_)).trans ((fr a ha).2.2 hw).1
          rcases z with z | ⟨f, hf, z⟩
          · exact hw (Or.inl z)
          · rcases fs f hf with y | y
            · exact hw (Or.inr ⟨f, hf, z.trans y⟩)
            · exact ha (by rw [z]; exact y)
        · show F17 se 8 = _
          rw [c1.2.1, gse]
        · show F17 (sa 7) = _
          rw [← s7, c1.2.2, s7, g7]
      · have hlt := nI_gtI (by omega) (by omega) hc
        refine ⟨sa1 1, X8.r 1, X8.k 1, ?_⟩
        rw [X8.l1]
        refine ⟨fun y => absurd y (nI_ge (show k < len1 by omega) (by omega)), fun _ => ⟨vp_in_nI (by omega) (by omega), ?_⟩⟩
        rw [nI_clamp (by omega), cb.2.2.1 k hlt, cb.1.1 b (im8 b B8.1), B8.2.2.1]
        have eob : ob (bn B) (hb3 B) (3 * bM B) (k + 1) = inn (bn B) (hb3 B) k (3 * bM B) (ob (bn B) (hb3 B) (3 * bM B) k) := if_pos hlt
        refine sp_spread (S := wI S8 F17) X8 hb hl1 hbv hlt cb gh' (fun F23 cb23 gh23 v ev => ⟨40321 - (k + 1), by omega, k + 1, ?_, rfl, by rw [ev]; exact nI_1 k, ?_, gh23⟩)
        · rw [eob]
          have := (inn_ex (bn B) (hb3 B) k (ob (bn B) (hb3 B) (3 * bM B) k) (3 * bM B)).1
          omega
        · rw [eob]; exact cb23
    · intro hc
      rw [hB.2.2.2.1, hX.l1] at hc
      have hle : fac (bn B) ≤ len := (nI_leI (by omega) (by omega)).mp hc
      refine ⟨sa 2, by rw [r2 2 (by decide)]; exact hX.r 2, sp_fill (S := wA S (gI S) (gJ S) R2) (hX.k 2) hX.l2 hl4 (fun F on hz => ⟨sa, len, ?_, fun f _ => Or.inl rfl, ?_, hle, Or.inl rfl, rfl, on se (Ne.symm (hX.o 2)), on (sa 7) (hX.n (by decide)), r20, hz⟩)⟩
      · intro a ha
        refine ⟨rfl, rfl, fun hw => ⟨on a (fun z => hw (Or.inr ⟨2, by decide, z⟩)), rfl, ?_⟩⟩
        show R2 a = _
        rw [e2, upR_ne (fun z => hw (Or.inl z))]
      · obtain ⟨x1, x2, x3⟩ := hX
        refine ⟨x1, fun f hf => ⟨?_, (x2 f hf).2⟩, x3⟩
        show R2 se f = _
        rw [r2 f (by intro z; subst z; cases hf)]
        exact (x2 f hf).1
    · intro hc v28 e28
      rw [hB.2.2.2.1] at hc e28
      rw [hX.l1] at hc
      have hlt : ¬ fac (bn B) ≤ len := fun e => hc (nI_le e (by omega))
      obtain ⟨hc2, hd2⟩ : 2 ≤ c ∧ 2 * fac (bn B) ≤ d := by
        rcases hbd with e | e
        · exact absurd e hlt
        · exact e
      subst e28
      rw [nI_clamp (by omega)]
      refine ⟨nI_pos (by omega), by omega, by omega, by omega, fun q1 hq1 S27 e27 => ?_⟩
      have sq1 : ∀ e, kd S e ≠ 0 → e ≠ q1 := fun e he z => he (by rw [z]; exact hq1)
      have kb : kd S b ≠ 0 := by rw [hB.2.1]; decide
      have ks : kd S se ≠ 0 := by rw [hX.z]; decide
      have A27 : ∀ e, e ≠ q1 → kd S27 e = kd S e ∧ ln S27 e = ln S e ∧ gI S27 e = gI S e ∧ gJ S27 e = gJ S e ∧ gR S27 e = R2 e := fun e he => by
        rw [e27]; exact ⟨kd_alon he, ln_alon he, gI_alon he, gJ_alon he, gR_alon he⟩
      have B27 : kd S27 q1 = 21 ∧ ln S27 q1 = fac (bn B) := by rw [e27]; exact ⟨kd_alo, ln_alo⟩
      refine ⟨by rw [(A27 se (sq1 se ks)).1]; exact hX.z, fun R34 e34 => ⟨by rw [(A27 b (sq1 b kb)).1]; exact hB.2.1, fun v37 e37 => ?_⟩⟩
      have e37' : v37 = nI (fac (bn B)) := by
        rw [e37, (A27 b (sq1 b kb)).2.2.1]
        exact hB.2.2.2.1
      subst e37'
      rw [nI_clamp (by omega)]
      refine ⟨nI_pos (by omega), by omega, by omega, by omega, fun q2 hq2 S36 e36 => ?_⟩
      have n12 : q2 ≠ q1 := fun z => by
        rw [z, B27.1] at hq2; cases hq2
      have hq2' : kd S q2 = 0 := by rw [(A27 q2 n12).1] at hq2; exact hq2
      have sq2 : ∀ e, kd S e ≠ 0 → e ≠ q2 := fun e he z => he (by rw [z]; exact hq2')
      have A36 : ∀ e, e ≠ q2 → kd S36 e = kd S27 e ∧ ln S36 e = ln S27 e ∧ gI S36 e = gI S27 e ∧ gJ S36 e = gJ S27 e ∧ gR S36 e = R34 e := fun e he => by
        rw [e36]; exact ⟨kd_alon he, ln_alon he, gI_alon he, gJ_alon he, gR_alon he⟩
      have B36 : kd S36 q2 = 21 ∧ ln S36 q2 = fac (bn B) ∧ gI S36 q2 = fun _ => 0 := by rw [e36]; exact ⟨kd_alo, ln_alo, gI_alo⟩
      have C36 : ∀ e, kd S e ≠ 0 → kd S36 e = kd S e ∧ ln S36 e = ln S e ∧ gI S36 e = gI S e ∧ gJ S36 e = gJ S e := fun e he => by
        obtain ⟨y1, y2, y3, y4, y5⟩ := A36 e (sq2 e he)
        obtain ⟨z1, z2, z3, z4, z5⟩ := A27 e (sq1 e he)
        exact ⟨y1.trans z1, y2.trans z2, y3.trans z3, y4.trans z4⟩
      have D36 : ∀ e, kd S e ≠ 0 → e ≠ se → gR S36 e = gR S e := fun e he hes => by
        rw [(A36 e (sq2 e he)).2.2.2.2, e34, upR_ne hes, (A27 e (sq1 e he)).2.2.2.2, e2, upR_ne hes]
      have E36 : ∀ f, f ≠ 1 → gR S36 se f = R2 se f := fun f hf => by
        rw [(A36 se (sq2 se ks)).2.2.2.2, e34, upR_no hf, (A27 se (sq1 se ks)).2.2.2.2]
      have E36' : gR S36 se 1 = some q1 := by
        rw [(A36 se (sq2 se ks)).2.2.2.2, e34]; exact upR_at
      refine ⟨by rw [(C36 se ks).1]; exact hX.z, fun R43 e43 => ?_⟩
      have kf : ∀ f, seF f = true → kd S (sa f) ≠ 0 := fun f hf => by rw [hX.k f hf]; decide
      obtain ⟨sa1, hsa⟩ : ∃ sa1 : Nat → Nat, sa1 = fun f => if f = 1 then q1 else if f = 2 then q2 else sa f := ⟨_, rfl⟩
      have s1 : sa1 1 = q1 := by rw [hsa]; rfl
      have s2 : sa1 2 = q2 := by rw [hsa]; rfl
      have so : ∀ f, f ≠ 1 → f ≠ 2 → sa1 f = sa f := fun f h1 h2 => by rw [hsa]; show (if f = 1 then q1 else if f = 2 then q2 else sa f) = sa f; rw [if_neg h1, if_neg h2]
      refine ⟨sa1, fac (bn B), fun a ha => ?_, fun f hf => ?_, ⟨?_, fun f hf => ?_, ?_, ?_, ?_, ?_, ?_, fun f g hf hg hfg => ?_, hfac, hX.le.2⟩, Nat.le_refl _, Or.inr ⟨by omega, rfl⟩, so 7 (by decide) (by decide), ?_, ?_, ?_, fun r hr => ?_⟩
      · obtain ⟨y1, y2, y3, y4⟩ := C36 a ha
        refine ⟨y1, y2, fun hw => ⟨y3, y4, ?_⟩⟩
        show R43 a = _
        rw [e43, upR_ne (fun z => hw (Or.inl z))]
        exact D36 a ha (fun z => hw (Or.inl z))
      · by_cases c1 : f = 1
        · subst c1; rw [s1]; exact Or.inr hq1
        · by_cases c2 : f = 2
          · subst c2; rw [s2]; exact Or.inr hq2'
          · exact Or.inl (so f c1 c2)
      · show kd S36 se = 5
        rw [(C36 se ks).1]; exact hX.z
      · by_cases c2 : f = 2
        · subst c2
          rw [s2]
          exact ⟨by show R43 se 2 = _; rw [e43]; exact upR_at, B36.1⟩
        · have hr : R43 se f = gR S36 se f := by rw [e43, upR_no c2]
          by_cases c1 : f = 1
          · subst c1
            rw [s1]
            exact ⟨hr.trans E36', by show kd S36 q1 = 21; rw [(A36 q1 (Ne.symm n12)).1]; exact B27.1⟩
          · rw [so f c1 c2]
            refine ⟨?_, by show kd S36 (sa f) = 21; rw [(C36 _ (kf f hf)).1]; exact hX.k f hf⟩
            show R43 se f = _
            rw [hr, E36 f c1, r2 f (by intro z; subst z; cases hf)]
            exact hX.r f hf
      · rw [s1]; show ln S36 q1 = _; rw [(A36 q1 (Ne.symm n12)).2.1]; exact B27.2
      · rw [s2]; exact B36.2.1
      · rw [so 3 (by decide) (by decide)]; show ln S36 _ = _; rw [(C36 _ (kf 3 (by decide))).2.1]; exact hX.l3
      · rw [so 4 (by decide) (by decide)]; show ln S36 _ = _; rw [(C36 _ (kf 4 (by decide))).2.1]; exact hX.l4
      · rw [so 7 (by decide) (by decide)]; show ln S36 _ = _; rw [(C36 _ (kf 7 (by decide))).2.1]; exact hX.l7
      · have q1n : ∀ f, seF f = true → sa f ≠ q1 := fun f hf => sq1 _ (kf f hf)
        have q2n : ∀ f, seF f = true → sa f ≠ q2 := fun f hf => sq2 _ (kf f hf)
        rw [hsa]
        show (if f = 1 then q1 else if f = 2 then q2 else sa f) ≠ if g = 1 then q1 else if g = 2 then q2 else sa g
        by_cases f1 : f = 1
        · rw [if_pos f1, if_neg (show g ≠ 1 by omega)]
          by_cases g2 : g = 2
          · rw [if_pos g2]; exact Ne.symm n12
          · rw [if_neg g2]; exact Ne.symm (q1n g hg)
        · rw [if_neg f1]
          by_cases f2 : f = 2
          · rw [if_pos f2, if_neg (show ¬ g = 2 by omega)]
            by_cases g1 : g = 1
            · rw [if_pos g1]; exact n12
            · rw [if_neg g1]; exact Ne.symm (q2n g hg)
          · rw [if_neg f2]
            by_cases g1 : g = 1
            · rw [if_pos g1]; exact q1n f hf
            · rw [if_neg g1]
              by_cases g2 : g = 2
              · rw [if_pos g2]; exact q2n f hf
              · rw [if_neg g2]; exact hX.n hfg hf hg
      · show gI S36 se = _
        exact (C36 se ks).2.2.1
      · show gI S36 (sa 7) = _
        exact (C36 _ (kf 7 (by decide))).2.2.1
      · show R43 se 0 = _
        rw [e43, upR_no (by decide), E36 0 (by decide)]; exact r20
      · rw [s2]; show gI S36 q2 r = 0; rw [B36.2.2]
  · obtain ⟨B0, o0, x0, sr⟩ := hR b he
    obtain ⟨en, eb⟩ := bx_bfi hb o0 hB x0
    refine hq S sa len Fr.rf (fun f _ => Or.inl rfl) hX (Or.inl rfl) rfl rfl rfl he ?_
    unfold SeR
    rw [en, eb]
    exact sr
theorem sp_isFound {r : Nat} {Q : Int32 → Prop} (hX : SeX S se sa len wl) (hb : bok B) (hR : SeR S se sa len B) (hr : r < fac (bn B))
    (hy : us (bF (bfi B)) (bC (bfi B)) r = true → Q 1) (hno : us (bF (bfi B)) (bC (bfi B)) r = false → Q 0) : P_X5_isFound se (nI r) S Q := by
  obtain ⟨hl, h6, hf, h0, hz⟩ := hR
  have hfac := fac_8 (bn B) (by have := hb.2.1; omega)
  have hl4 := hX.le.1
  have hM4 := hb.2.2.1
  obtain ⟨hbv, -⟩ := fin_bv hb.2.1 (hb3_pm hb)
  refine ⟨hX.z, fun y => absurd y (nI_pos (by omega)), fun _ => ⟨sa 2, hX.r 2, hX.k 2, ?_⟩⟩
  rw [hX.l2]
  refine ⟨fun y => absurd y (nI_ge (show r < len by omega) (by omega)), fun _ => ⟨vp_in_nI (by omega) (by omega), ?_⟩⟩
  rw [nI_clamp (by omega)]
  by_cases hu : us (bF (bfi B)) (bC (bfi B)) r = true
  · refine ⟨fun e => ?_, fun _ => hy hu⟩
    obtain ⟨j, h1, h2⟩ := (us_iff _ _ _).mp hu
    rcases Nat.eq_zero_or_pos j with z | z
    · subst z
      have : bF (bfi B) 0 = 0 := hbv.2.1
      rw [this] at h2
      rw [← h2, h0] at e
      exact absurd e (by decide)
    · have e' := hf j z h1
      rw [h2, e] at e'
      obtain ⟨y1, y2, y3, y4⟩ := hbv.2.2.2.2.1 j z h1
      have y5 := hbv.2.2.1 (bP (bfi B) j) (by have : bP (bfi B) j < j := y1; have : j < bC (bfin (bn B) (hb3 B) (3 * bM B)) := h1; unfold bfi at *; omega)
      have y5' : bF (bfi B) (bP (bfi B) j) < fac (bn B) := y5
      have y3' : bW (bfi B) j < 3 * bM B := y3
      have := (nI_z (show 12 * bF (bfi B) (bP (bfi B) j) + (bW (bfi B) j + 1) < 2 ^ 31 by omega)).mp e'.symm
      omega
  · exact ⟨fun _ => hno (ts_nt hu), fun y => absurd (hz r hr (ts_nt hu)) y⟩
end OV
