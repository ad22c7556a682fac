/-! The way kept. -/
section KW
variable {S : St} {se b len wl : Nat} {sa : Nat → Nat} {im : Nat → Prop} {B : Bk}
/-- what is written of a row that another comes to -/
theorem fby {j : Nat} (hb : bok B) (h1 : 1 ≤ j) (hj : j < bC (bfi B)) : bP (bfi B) j < j ∧ bF (bfi B) (bP (bfi B) j) < fac (bn B) ∧ bW (bfi B) j < 12 := by
  have hM4 := hb.2.2.1
  obtain ⟨hbv, -⟩ := fin_bv hb.2.1 (hb3_pm hb)
  obtain ⟨y1, y2, y3, y4⟩ := hbv.2.2.2.2.1 j h1 hj
  have y1' : bP (bfi B) j < j := y1
  have y3' : bW (bfi B) j < 3 * bM B := y3
  exact ⟨y1', hbv.2.2.1 (bP (bfi B) j) (Nat.lt_trans y1 hj), by omega⟩
theorem sp_rowAhead {j : Nat} {Q : Int32 → Prop} (hX : SeX S se sa len wl) (hb : bok B) (hR : SeR S se sa len B) (h1 : 1 ≤ j) (hj : j < bC (bfi B)) (hq : Q (nI (bF (bfi B) (bP (bfi B) j)))) : P_X5_rowAhead se (nI (bF (bfi B) j)) S Q := by
  have hfac := fac_8 (bn B) (by have := hb.2.1; omega)
  obtain ⟨hbv, -⟩ := fin_bv hb.2.1 (hb3_pm hb)
  have fj : bF (bfi B) j < fac (bn B) := hbv.2.2.1 j hj
  obtain ⟨y1, y2, y3⟩ := fby hb h1 hj
  refine ⟨hX.z, sp_isFound hX hb hR fj (fun _ => ⟨fun y => absurd y one0, fun _ => ⟨sa 2, hX.r 2, hX.k 2, by rw [hX.l2]; exact vp_in_nI (by have := hR.1; omega) (by have := hX.le.1; omega), ?_⟩⟩) (fun hu => ?_)⟩
  · rw [nI_clamp (by omega), hR.2.2.1 j h1 hj, sub1 (by omega), show (12 : Int32) = nI 12 from rfl, pk_div (by omega) (by decide) (by decide), show (12 * bF (bfi B) (bP (bfi B) j) + (bW (bfi B) j + 1) - 1) / 12 = bF (bfi B) (bP (bfi B) j) by omega]
    exact hq
  · exact absurd rfl (us_no.mp hu j hj)
theorem sp_keepWay {j c d : Nat} {Q : St → Prop} (hX : SeX S se sa len wl) (hb : bok B) (hR : SeR S se sa len B) (hj : j < bC (bfi B)) (hbd : dp (bfi B) j ≤ wl ∨ (1 ≤ c ∧ dp (bfi B) j ≤ d))
    (hq : ∀ S1 sa1 wl1, Fr (WS se sa) S S1 → (∀ f, seF f = true → sa1 f = sa f ∨ kd S (sa1 f) = 0) → SeX S1 se sa1 len wl1 → dp (bfi B) j ≤ wl1 → gR S1 se 0 = gR S se 0 → SeR S1 se sa1 len B → (∀ f, f ≠ 7 → sa1 f = sa f) → gI S1 se 8 = nI (dp (bfi B) j) → (∀ t, t < dp (bfi B) j → gI S1 (sa1 7) t = nI (wvy (bfi B) j t)) → Q S1) : P_X5_keepWay se (nI (bF (bfi B) j)) S c d Q := by
  have hfac := fac_8 (bn B) (by have := hb.2.1; omega)
  obtain ⟨hbv, -⟩ := fin_bv hb.2.1 (hb3_pm hb)
  have hC : bC (bfi B) ≤ fac (bn B) := ob_C hb.2.1 (hb3_pm hb) _
  have hl4 := hX.le.1
  have dj : dp (bfi B) j ≤ j := dp_le hbv (j + 1) j (by omega) hj
  have dl : dp (bfi B) j ≤ 12602 := depth_le hb.2.1 (by have := hb.2.2.1; omega) (hb3_pm hb) hj
  obtain ⟨s, hs⟩ : ∃ s, s = bfi B := ⟨_, rfl⟩
  have hbv' : BV (bn B) (hb3 B) (3 * bM B) (fac (bn B)) s := by rw [hs]; exact hbv
  rw [← hs] at dj dl hj hC hq hbd ⊢
  have hl := hR.1
  have fl : ∀ i, i ≤ dp s j → bF s (anc s j i) < 40320 := fun i hi => by
    have := hbv'.2.2.1 _ (anc_dp hbv' hj i hi).1
    omega
  have ne0 : ∀ i, i < dp s j → 1 ≤ anc s j i := fun i hi => by
    rcases Nat.eq_zero_or_pos (anc s j i) with z | z
    · have := (anc_dp hbv' hj i (by omega)).2
      rw [z, dp_0] at this; omega
    · exact z
  refine ⟨hX.z, fun t x2 x3 => ∃ i, i ≤ dp s j ∧ t = dp s j - i ∧ x2 = nI i ∧ x3 = nI (bF s (anc s j i)), ⟨dp s j, 0, by omega, rfl, rfl, rfl⟩, ?_⟩
  rintro t x2 x3 ⟨i, hi, rfl, rfl, rfl⟩
  have fi := fl i hi
  refine ⟨i = dp s j, fun e => ⟨sa 7, hX.r 7, hX.k 7, fun S10 _ _ => ∃ sa1 wl1, Fr (WS se sa) S S10 ∧ (∀ f, seF f = true → sa1 f = sa f ∨ kd S (sa1 f) = 0) ∧ SeX S10 se sa1 len wl1 ∧ dp s j ≤ wl1 ∧ gR S10 se 0 = gR S se 0 ∧ gI S10 se = gI S se ∧ gI S10 (sa 2) = gI S (sa 2) ∧ (∀ f, f ≠ 7 → sa1 f = sa f), ?_, ?_, ?_⟩, ?_, ?_⟩
  · subst e
    rintro S10 _ _ ⟨sa1, wl1, fr, fs, X1, hw1, r0, gs, g2, so⟩
    refine ⟨X1.z, fun F13 e13 v14 e14 => ⟨fun t x3 x4 F => ∃ i, i ≤ dp s j ∧ t = dp s j - i ∧ x3 = nI (bF s (anc s j i)) ∧ (i < dp s j → x4 = nI (dp s j - 1 - i)) ∧ (i = dp s j → x4 = -1) ∧ (∀ e, e ≠ se → e ≠ sa1 7 → F e = gI S10 e) ∧ F se = F13 se ∧ ∀ t, dp s j - i ≤ t → t < dp s j → F (sa1 7) t = nI (wvy s j t), ⟨dp s j, 0, by omega, rfl, rfl, fun h => by rw [e14, sub1 (by omega), Nat.sub_zero], fun h => by rw [e14, ← h]; rfl, fun e h1 _ => by rw [e13, up_ne h1], rfl, fun t h1 h2 => by omega⟩, ?_⟩⟩
    rintro t x3 x4 F ⟨i, hi, rfl, rfl, hx4, hx4', fo, fse, fw⟩
    have fi := fl i hi
    have sr : SeR (wI S10 F) se sa1 len B := by
      obtain ⟨y1, y2, y3, y4, y5⟩ := hR
      have q2 : F (sa1 2) = gI S (sa 2) := by rw [fo _ (X1.o 2) (X1.n (f := 2) (g := 7) (by decide))]; exact (congrArg (gI S10) (so 2 (by omega))).trans g2
      refine ⟨y1, ?_, fun j h1 h2 => ?_, ?_, fun r h1 h2 => ?_⟩
      · show F se 6 = _
        rw [fse, e13, up_no (by decide), gs]; exact y2
      · show F (sa1 2) _ = _
        rw [q2]; exact y3 j h1 h2
      · show F (sa1 2) _ = _
        rw [q2]; exact y4
      · show F (sa1 2) _ = _
        rw [q2]; exact y5 r h1 h2
    rcases Nat.lt_or_ge i (dp s j) with hlt | hge
    · have x4e := hx4 hlt
      subst x4e
      have pos := ne0 i hlt
      have aj := (anc_dp hbv' hj i hi).1
      have aj' : anc s j i < bC (bfi B) := by rw [← hs]; exact aj
      obtain ⟨y1, y2, y3⟩ := fby hb pos aj'
      refine ⟨fun y => absurd y (nI_pos (by omega)), fun _ => ⟨sa1 7, X1.r 7, ?_⟩⟩
      refine sp_isFound (S := wI S10 F) X1 hb sr (by have := hbv'.2.2.1 _ aj; omega) (fun _ => ⟨fun t => t = nI (bW s (anc s j i)), ?_, fun y => absurd y one0, fun _ => ⟨sa1 2, X1.r 2, X1.k 2, by rw [X1.l2]; exact vp_in_nI (by have := hbv'.2.2.1 _ aj; omega) (by omega), ?_⟩⟩) (fun hu => ?_)
      · rintro _ rfl
        refine ⟨X1.k 7, by rw [X1.l7]; exact vp_in_nI (by omega) (by have := X1.le.2; omega), fun F27 e27 => ?_⟩
        rw [nI_clamp (by omega)] at e27
        have sr2 : SeR (wI S10 F27) se sa1 len B := by
          obtain ⟨z1, z2, z3, z4, z5⟩ := sr
          have q2 : F27 (sa1 2) = F (sa1 2) := by rw [e27, up_ne (X1.n (by decide))]
          refine ⟨z1, ?_, fun j h1 h2 => ?_, ?_, fun r h1 h2 => ?_⟩
          · show F27 se 6 = _
            rw [e27, up_ne (Ne.symm (X1.o 7))]; exact z2
          · show F27 (sa1 2) _ = _
            rw [q2]; exact z3 j h1 h2
          · show F27 (sa1 2) _ = _
            rw [q2]; exact z4
          · show F27 (sa1 2) _ = _
            rw [q2]; exact z5 r h1 h2
        have := sp_rowAhead (S := wI S10 F27) (Q := fun r_28 => ∀ v_29 : Int32, v_29 = nI (dp s j - 1 - i) + (-1) → ∃ k, k < dp s j - i ∧ ∃ i', i' ≤ dp s j ∧ k = dp s j - i' ∧ r_28 = nI (bF s (anc s j i')) ∧ (i' < dp s j → v_29 = nI (dp s j - 1 - i')) ∧ (i' = dp s j → v_29 = -1) ∧ (∀ e, e ≠ se → e ≠ sa1 7 → F27 e = gI S10 e) ∧ F27 se = F13 se ∧ ∀ t, dp s j - i' ≤ t → t < dp s j → F27 (sa1 7) t = nI (wvy s j t)) X1 hb sr2 pos aj' ?_
        · rw [← hs] at this; exact this
        · intro v29 e29
          refine ⟨dp s j - (i + 1), by omega, i + 1, by omega, rfl, by rw [← hs]; rfl, fun h => ?_, fun h => ?_, fun e h1 h2 => by rw [e27, up_ne h2]; exact fo e h1 h2, by rw [e27, up_ne (Ne.symm (X1.o 7))]; exact fse, fun t h1 h2 => ?_⟩
          · rw [e29, show dp s j - 1 - i = dp s j - 1 - (i + 1) + 1 by omega]; exact pk_m1 _
          · rw [e29, show dp s j - 1 - i = 0 by omega]; rfl
          · rw [e27]
            by_cases c : t = dp s j - 1 - i
            · rw [c, up_at]
              unfold wvy
              rw [show dp s j - 1 - (dp s j - 1 - i) = i by omega]
            · rw [up_no c]; exact fw t (by omega) h2
      · have e1 := sr.2.2.1 (anc s j i) pos aj'
        rw [← hs] at e1 y2 y3
        have e2 : F (sa1 2) (bF s (anc s j i)) = nI (12 * bF s (bP s (anc s j i)) + (bW s (anc s j i) + 1)) := e1
        show irm (F (sa1 2) (nI (bF s (anc s j i))).toNatClampNeg - 1) 12 = _
        rw [nI_clamp (by omega), e2, sub1 (by omega), show (12 : Int32) = nI 12 from rfl, irmN (by omega) (by decide) (by decide), show (12 * bF s (bP s (anc s j i)) + (bW s (anc s j i) + 1) - 1) % 12 = bW s (anc s j i) by omega]
      · rw [← hs] at hu
        exact absurd rfl (us_no.mp hu (anc s j i) aj)
    · have e : i = dp s j := by omega
      rw [hx4' e]
      refine ⟨fun _ => hq (wI S10 F) sa1 wl1 (fun a ha => ⟨(fr a ha).1, (fr a ha).2.1, fun hw => ⟨?_, ((fr a ha).2.2 hw).2⟩⟩) fs X1 hw1 r0 sr so ?_ (fun t ht => fw t (by omega) ht), fun y => absurd (by decide) y⟩
      · refine (fo a (fun z => hw (Or.inl z)) (fun z => ?_)).trans ((fr a ha).2.2 hw).1
        rcases fs 7 (by decide) with y | y
        · exact hw (Or.inr ⟨7, by decide, z.trans y⟩)
        · exact ha (by rw [z]; exact y)
      · show F se 8 = _
        rw [fse, e13, up_at]
  · subst e
    intro hc
    rw [hX.l7] at hc
    exact ⟨sa, wl, Fr.rf, fun f _ => Or.inl rfl, hX, (nI_leI (by omega) (by have := hX.le.2; omega)).mp hc, rfl, rfl, rfl, fun _ _ => rfl⟩
  · subst e
    intro hc
    rw [hX.l7] at hc
    have hlt : ¬ dp s j ≤ wl := fun e => hc (nI_le e (by have := hX.le.2; omega))
    obtain ⟨hc1, hd1⟩ : 1 ≤ c ∧ dp s j ≤ d := by
      rcases hbd with e | e
      · exact absurd e hlt
      · exact e
    rw [nI_clamp (by omega)]
    refine ⟨nI_pos (by omega), by omega, hc1, hd1, fun q hq0 S33 e33 => ?_⟩
    have ks : kd S se ≠ 0 := by rw [hX.z]; decide
    have sq : ∀ e, kd S e ≠ 0 → e ≠ q := fun e he z => he (by rw [z]; exact hq0)
    have A : ∀ e, kd S e ≠ 0 → kd S33 e = kd S e ∧ ln S33 e = ln S e ∧ gI S33 e = gI S e ∧ gJ S33 e = gJ S e ∧ gR S33 e = gR S e := fun e he => by
      rw [e33]; exact ⟨kd_alon (sq e he), ln_alon (sq e he), gI_alon (sq e he), gJ_alon (sq e he), gR_alon (sq e he)⟩
    have Bq : kd S33 q = 21 ∧ ln S33 q = dp s j := by rw [e33]; exact ⟨kd_alo, ln_alo⟩
    refine ⟨by rw [(A se ks).1]; exact hX.z, fun R39 e39 => ?_⟩
    have kf : ∀ f, seF f = true → kd S (sa f) ≠ 0 := fun f hf => by rw [hX.k f hf]; decide
    obtain ⟨sa1, hsa⟩ : ∃ sa1 : Nat → Nat, sa1 = fun f => if f = 7 then q else sa f := ⟨_, rfl⟩
    have s7 : sa1 7 = q := by rw [hsa]; rfl
    have so : ∀ f, f ≠ 7 → sa1 f = sa f := fun f h1 => by rw [hsa]; show (if f = 7 then q else sa f) = sa f; rw [if_neg h1]
    refine ⟨sa1, dp s j, fun a ha => ?_, fun f hf => ?_, ⟨?_, fun f hf => ?_, ?_, ?_, ?_, ?_, ?_, fun f g hf hg hfg => ?_, hl4, by omega⟩, Nat.le_refl _, ?_, ?_, ?_, so⟩
    · obtain ⟨y1, y2, y3, y4, y5⟩ := A a ha
      refine ⟨y1, y2, fun hw => ⟨y3, y4, ?_⟩⟩
      show R39 a = _
      rw [e39, upR_ne (fun z => hw (Or.inl z))]
      exact y5
    · by_cases c1 : f = 7
      · subst c1; rw [s7]; exact Or.inr hq0
      · exact Or.inl (so f c1)
    · show kd S33 se = 5
      rw [(A se ks).1]; exact hX.z
    · by_cases c1 : f = 7
      · subst c1
        rw [s7]
        exact ⟨by show R39 se 7 = _; rw [e39]; exact upR_at, Bq.1⟩
      · rw [so f c1]
        refine ⟨?_, by show kd S33 (sa f) = 21; rw [(A _ (kf f hf)).1]; exact hX.k f hf⟩
        show R39 se f = _
        rw [e39, upR_no c1, (A se ks).2.2.2.2]
        exact hX.r f hf
    · rw [so 1 (by decide)]; show ln S33 _ = _; rw [(A _ (kf 1 (by decide))).2.1]; exact hX.l1
    · rw [so 2 (by decide)]; show ln S33 _ = _; rw [(A _ (kf 2 (by decide))).2.1]; exact hX.l2
    · rw [so 3 (by decide)]; show ln S33 _ = _; rw [(A _ (kf 3 (by decide))).2.1]; exact hX.l3
    · rw [so 4 (by decide)]; show ln S33 _ = _; rw [(A _ (kf 4 (by decide))).2.1]; exact hX.l4
    · rw [s7]; exact Bq.2
    · rw [hsa]
      show (if f = 7 then q else sa f) ≠ if g = 7 then q else sa g
      by_cases f1 : f = 7
      · rw [if_pos f1, if_neg (show g ≠ 7 by omega)]; exact Ne.symm (sq _ (kf g hg))
      · rw [if_neg f1]
        by_cases g1 : g = 7
        · rw [if_pos g1]; exact sq _ (kf f hf)
        · rw [if_neg g1]; exact hX.n hfg hf hg
    · show R39 se 0 = _
      rw [e39, upR_no (by decide), (A se ks).2.2.2.2]
    · show gI S33 se = _
      exact (A se ks).2.2.1
    · show gI S33 (sa 2) = _
      exact (A _ (kf 2 (by decide))).2.2.1
  · rw [nI_z (by omega), anc_z hbv' hj hi]
    exact fun e => e
  · rw [nI_z (by omega), anc_z hbv' hj hi]
    intro hne
    have hlt : i < dp s j := by omega
    refine ⟨sa 2, hX.r 2, hX.k 2, ?_⟩
    rw [hX.l2]
    refine ⟨fun y => absurd y (nI_ge (show i < len by omega) (by omega)), fun _ v43 e43 => ?_⟩
    have aj := (anc_dp hbv' hj i hi).1
    have := sp_rowAhead (Q := fun r => ∃ k, k < dp s j - i ∧ ∃ i', i' ≤ dp s j ∧ k = dp s j - i' ∧ v43 = nI i' ∧ r = nI (bF s (anc s j i'))) hX hb hR (ne0 i hlt) (by rw [← hs]; exact aj) ⟨dp s j - (i + 1), by omega, i + 1, by omega, rfl, by rw [e43]; exact nI_1 i, by rw [← hs]; rfl⟩
    rw [← hs] at this
    exact this
end KW

/-- the way on both sides -/
def WyR (S : St) (se m : Nat) (sa am : Nat → Nat) (wl : Nat) : Prop := ∃ wL, wL ≤ wl ∧ wL ≤ 40320 ∧ gI S se 8 = nI wL ∧ (gI S m 43 = nI wL ∨ (wL = 0 ∧ gI S m 43 = -1)) ∧ ∀ t, t < wL → gI S (sa 7) t = gI S (am 42) t
theorem mk_5 (f : Nat) : mk f ≠ 5 := by
  rcases Nat.lt_or_ge f 51 with z | z
  · have : ∀ f, f < 51 → mk f ≠ 5 := by decide
    exact this f z
  · rw [mk_big z]; decide
theorem Fr.ws {S S7 S14 : St} {se : Nat} {sa sa1 : Nat → Nat} (h : Fr (WS se sa) S S7) (fs : ∀ f, seF f = true → sa1 f = sa f ∨ kd S (sa1 f) = 0) (h2 : Fr (WS se sa1) S7 S14) : Fr (WS se sa) S S14 := fun a ha => by
  obtain ⟨k, l, g⟩ := h a ha
  obtain ⟨k2, l2, g2⟩ := h2 a (by rw [k]; exact ha)
  refine ⟨k2.trans k, l2.trans l, fun hw => ?_⟩
  obtain ⟨x1, y1, z1⟩ := g hw
  obtain ⟨x2, y2, z2⟩ := g2 (fun z => by
    rcases z with z | ⟨f, hf, z⟩
    · exact hw (Or.inl z)
    · rcases fs f hf with y | y
      · exact hw (Or.inr ⟨f, hf, z.trans y⟩)
      · exact ha (by rw [z]; exact y))
  exact ⟨x2.trans x1, y2.trans y1, z2.trans z1⟩
section CW
variable {S : St} {x b m q se len wl : Nat} {am sa : Nat → Nat} {im : Nat → Prop} {B : Bk}
def WW (x se : Nat) (sa : Nat → Nat) (e : Nat) : Prop := e = x ∨ WS se sa e
theorem call_way {c d : Nat} {Q : Int32 → St → Prop} (h : CB S x b m am im B) (hse : gR S x 15 = some se) (hX : SeX S se sa len wl) (hR : SeO S se sa im len) (hW : WyR S se m sa am wl) (hM : SM (gI S) m am q) (hq0 : q + 1 < 2 ^ 31) (hj : Dj im S x m am) (him : ∀ e, im e → ¬ WS se sa e) (hma : ∀ f, mk f ≠ 0 → ∀ g, seF g = true → am f ≠ sa g) (r : Int32) (hbd : (∃ k, k < fac (bn B) ∧ r = nI k) → (fac (bn B) ≤ len ∧ 1 ≤ c ∧ 12602 ≤ d) ∨ (3 ≤ c ∧ 2 * fac (bn B) + 12602 ≤ d))
    (hq : ∀ v S1 sa1 len1 wl1, ((∃ k, k < fac (bn B) ∧ r = nI k) → fac (bn B) ≤ len1) → Fr (WW x se sa) S S1 → Xk S S1 x → (∀ f, seF f = true → sa1 f = sa f ∨ kd S (sa1 f) = 0) → SeX S1 se sa1 len1 wl1 → (len1 = len ∨ (len < len1 ∧ len1 = fac (bn B))) → SeO S1 se sa1 im len1 → (∀ Q2 : Int32 → FI → Prop, (∀ F' q', Kp tF m am (gI S1) F' → F' m 2 = gI S1 x 0 → q ≤ q' → q' ≤ q + 1 → SM F' m am q' → WyR (wI S1 F') se m sa1 am wl1 → Q2 v F') → P_X12_way m r S1 Q2) → Q v S1) : P_X11_way x r S c d Q := by
  have hn := h.n8
  have hfac := fac_8 (bn B) (by omega)
  have sex : se ≠ x := kd_ne hX.z h.x (by decide)
  have sax : ∀ f, seF f = true → sa f ≠ x := fun f hf => kd_ne (hX.k f hf) h.x (by decide)
  have xW : ¬ WS se sa x := fun e => by
    rcases e with e | ⟨f, hf, e⟩
    · exact sex e.symm
    · exact sax f hf e.symm
  have mW : ¬ WW x se sa m := fun e => by
    rcases e with e | e | ⟨f, hf, e⟩
    · exact x_m h.x h.L e
    · exact kd_ne h.L.z hX.z (by decide) e
    · exact kd_ne h.L.z (hX.k f hf) (by decide) e
  have aW : ∀ f, mk f ≠ 0 → ¬ WW x se sa (am f) := fun f hf e => by
    rcases e with e | e | ⟨g, hg, e⟩
    · exact x_am h.x h.L f hf e
    · exact mk_5 f (by rw [← h.L.k f hf, e]; exact hX.z)
    · exact hma f hf g hg e
  have imS : ∀ e, im e → kd S e ≠ 0 ∧ ¬ WS se sa e := fun e he => ⟨(hj e he).1, him e he⟩
  have imW : ∀ e, im e → kd S e ≠ 0 ∧ ¬ WW x se sa e := fun e he => ⟨(hj e he).1, fun z => z.elim (hj e he).2.1 (him e he)⟩
  have kx : kd S x ≠ 0 := by rw [h.x]; decide
  have kse : kd S se ≠ 0 := by rw [hX.z]; decide
  -- what a store later keeps of the reference
  have later : ∀ S2, Fr (WW x se sa) S S2 → gR S2 x 7 = gR S x 7 → CB S2 x b m am im B ∧ SM (gI S2) m am q := fun S2 fr e7 => ⟨h.fr fr e7 imW mW (aW 0 (by decide)), hM.fr h.L fr mW (aW 28 (by decide))⟩
  have nosa : ∀ (sa1 : Nat → Nat), (∀ f, seF f = true → sa1 f = sa f ∨ kd S (sa1 f) = 0) → ∀ g, seF g = true → sa1 g ≠ m ∧ sa1 g ≠ x ∧ ∀ f, mk f ≠ 0 → sa1 g ≠ am f := fun sa1 fs g hg => by
    rcases fs g hg with y | y
    · rw [y]
      exact ⟨kd_ne (hX.k g hg) h.L.z (by decide), sax g hg, fun f hf e => hma f hf g hg e.symm⟩
    · exact ⟨(fun e => by rw [e, h.L.z] at y; cases y), (fun e => by rw [e, h.x] at y; cases y), (fun f hf e => by rw [e, h.L.k f hf] at y; exact hf y)⟩
  have nose : ∀ f, mk f ≠ 0 → se ≠ am f := fun f hf e => mk_5 f (by rw [← h.L.k f hf, ← e]; exact hX.z)
  have sem : se ≠ m := kd_ne hX.z h.L.z (by decide)
  rcases nr_case (fac (bn B)) (by omega) r with ⟨k, hk, rfl⟩ | hrn
  · obtain ⟨c6, s6, hc6, hs6, hov, hc13, hs13⟩ : ∃ c6 s6, c6 ≤ c ∧ s6 ≤ d ∧ (fac (bn B) ≤ len ∨ (2 ≤ c6 ∧ 2 * fac (bn B) ≤ s6)) ∧ 1 ≤ c - c6 ∧ 12602 ≤ d - s6 := by
      rcases hbd ⟨k, hk, rfl⟩ with ⟨h1, h2, h3⟩ | ⟨h2, h3⟩
      · exact ⟨0, 0, by omega, by omega, Or.inl h1, by omega, by omega⟩
      · exact ⟨2, 2 * fac (bn B), by omega, by omega, Or.inr ⟨Nat.le_refl _, Nat.le_refl _⟩, by omega, by omega⟩
    refine ⟨h.x, xRy h hk ⟨fun _ => ⟨se, hse, b, h.b, hX.z, c6, s6, hc6, hs6, sp_over hX h.o h.B imS hR hov (fun S7 sa7 len7 fr7 fs7 X7 hl7 s77 g78 g77 r70 sr7 => ?_)⟩, fun y => absurd y one0⟩⟩
    have x7 := (fr7 x kx).2.2 xW
    have kx7 : kd S7 x = 11 := (fr7 x kx).1.trans h.x
    refine ⟨kx7, se, by rw [x7.2.2]; exact hse, X7.z, sp_isFound X7 h.o sr7 hk (fun hu => ⟨fun _ => ?_, fun y => absurd y one0⟩) (fun hu => ⟨fun y => absurd rfl y, fun _ => ?_⟩)⟩
    · obtain ⟨j, hj0, ej⟩ := (us_iff _ _ _).mp hu
      have dl : dp (bfi B) j ≤ 12602 := depth_le hn (by have := h.o.2.2.1; omega) (hb3_pm h.o) hj0
      refine ⟨1, 12602, hc13, hs13, ?_⟩
      rw [← ej]
      refine sp_keepWay X7 h.o sr7 hj0 (Or.inr ⟨Nat.le_refl _, dl⟩) (fun S14 sa14 wl14 fr14 fs14 X14 hw14 r140 sr14 so14 g8 gw => ?_)
      have fr : Fr (WS se sa) S S14 := fr7.ws fs7 fr14
      have fs : ∀ f, seF f = true → sa14 f = sa f ∨ kd S (sa14 f) = 0 := fun f hf => by
        by_cases c7 : f = 7
        · subst c7
          rcases fs14 7 (by decide) with y | y
          · rw [y, s77]; exact Or.inl rfl
          · right
            rcases Nat.eq_zero_or_pos (kd S (sa14 7)) with z | z
            · exact z
            · rw [(fr7 _ (by omega)).1] at y; exact y
        · rw [so14 f c7]; exact fs7 f hf
      have x14 := (fr x kx).2.2 xW
      have kx14 : kd S14 x = 11 := (fr x kx).1.trans h.x
      refine ⟨kx14, se, by rw [x14.2.2]; exact hse, X14.z, ?_⟩
      rw [g8]
      have frx : Fr (WW x se sa) S (wI S14 (upI (gI S14) x 0 0)) := (fr.mono (fun _ _ z => Or.inr z)).tr (Fr.on On.up (Or.inl rfl))
      obtain ⟨C1, M1⟩ := later _ frx (by show gR S14 x 7 = _; rw [x14.2.2])
      have B14 := h.B.sm (fr.sim imS)
      have sr : SeR (wI S14 (upI (gI S14) x 0 0)) se sa14 len7 B := by
        obtain ⟨y1, y2, y3, y4, y5⟩ := sr14
        have e2 : upI (gI S14) x 0 0 (sa14 2) = gI S14 (sa14 2) := up_ne (nosa sa14 fs 2 (by decide)).2.1
        exact ⟨y1, by show upI (gI S14) x 0 0 se 6 = _; rw [up_ne sex]; exact y2, fun j h1 h2 => by show upI (gI S14) x 0 0 (sa14 2) _ = _; rw [e2]; exact y3 j h1 h2, by show upI (gI S14) x 0 0 (sa14 2) _ = _; rw [e2]; exact y4, fun r h1 h2 => by show upI (gI S14) x 0 0 (sa14 2) _ = _; rw [e2]; exact y5 r h1 h2⟩
      refine an kx14 (hq _ _ sa14 len7 wl14 (fun _ => sr7.1) frx ⟨x14.2.1, x14.2.2, fun z hz => ?_⟩ fs X14 hl7 (fun b0 hb0 => ?_) (fun Q2 h2 => ?_))
      · show upI (gI S14) x 0 0 x z = _
        rw [up_no hz, x14.1]
      · have e0 : gR S14 se 0 = some b0 := hb0
        rw [r140, r70] at e0
        obtain rfl := Option.some.inj e0
        exact ⟨B, h.o, C1.B, sr⟩
      · obtain ⟨hbv, -⟩ := fin_bv hn (hb3_pm h.o)
        refine sm_way C1.L C1.o C1.M M1 hq0 hk (fun j2 hj2 ej2 F kk sm' f43 f42 => ?_) (fun hu2 => absurd hu (by show ¬ us (bF (bfi B)) (bC (bfi B)) k = true; unfold bfi; rw [hu2]; decide))
        have ejj : j2 = j := by
          rcases Nat.lt_trichotomy j2 j with z | z | z
          · exact absurd (ej2.trans ej.symm) (hbv.2.2.2.1 j2 j z hj0)
          · exact z
          · exact absurd (ej.trans ej2.symm) (hbv.2.2.2.1 j j2 z hj2)
        subst ejj
        refine gvT (S1 := S) (T := tF) C1.L.z kk (by decide) (fun F' k' e' o' j' => h2 F' (q + 1) k' (e'.trans up_at.symm) (by omega) (Nat.le_refl _) ⟨by rw [j' 29 (by decide)]; exact sm'.1, by rw [o' _ (h.L.o 28)]; exact sm'.2⟩ ⟨dp (bfi B) j2, hw14, by omega, ?_, Or.inl ?_, fun t ht => ?_⟩)
        · show F' se 8 = _
          rw [k'.1 se sem (fun f hf _ => nose f hf)]
          show upI (gI S14) x 0 0 se 8 = _
          rw [up_ne sex]; exact g8
        · show F' m 43 = _
          rw [j' 43 (by decide)]; exact f43
        · obtain ⟨y1, y2, y3⟩ := nosa sa14 fs 7 (by decide)
          show F' (sa14 7) t = F' (am 42) t
          rw [k'.1 (sa14 7) y1 (fun f hf _ => y3 f hf), o' _ (h.L.o 42)]
          show upI (gI S14) x 0 0 (sa14 7) t = F (am 42) t
          rw [up_ne y2, gw t ht]
          exact (f42 t ht).symm
    · have frx : Fr (WW x se sa) S (wI S7 (upI (gI S7) x 0 6)) := (fr7.mono (fun _ _ z => Or.inr z)).tr (Fr.on On.up (Or.inl rfl))
      obtain ⟨C1, M1⟩ := later _ frx (by show gR S7 x 7 = _; rw [x7.2.2])
      have sr : SeR (wI S7 (upI (gI S7) x 0 6)) se sa7 len7 B := by
        obtain ⟨y1, y2, y3, y4, y5⟩ := sr7
        have e2 : upI (gI S7) x 0 6 (sa7 2) = gI S7 (sa7 2) := up_ne (nosa sa7 fs7 2 (by decide)).2.1
        exact ⟨y1, by show upI (gI S7) x 0 6 se 6 = _; rw [up_ne sex]; exact y2, fun j h1 h2 => by show upI (gI S7) x 0 6 (sa7 2) _ = _; rw [e2]; exact y3 j h1 h2, by show upI (gI S7) x 0 6 (sa7 2) _ = _; rw [e2]; exact y4, fun r h1 h2 => by show upI (gI S7) x 0 6 (sa7 2) _ = _; rw [e2]; exact y5 r h1 h2⟩
      refine rf kx7 (hq _ _ sa7 len7 wl (fun _ => sr7.1) frx ⟨x7.2.1, x7.2.2, fun z hz => ?_⟩ fs7 X7 hl7 (fun b0 hb0 => ?_) (fun Q2 h2 => ?_))
      · show upI (gI S7) x 0 6 x z = _
        rw [up_no hz, x7.1]
      · have e0 : gR S7 se 0 = some b0 := hb0
        rw [r70] at e0
        obtain rfl := Option.some.inj e0
        exact ⟨B, h.o, C1.B, sr⟩
      · refine sm_way C1.L C1.o C1.M M1 hq0 hk (fun j2 hj2 ej2 => absurd ((us_iff _ _ _).mpr ⟨j2, hj2, ej2⟩) (by show ¬ us (bF (bfi B)) (bC (bfi B)) k = true; rw [hu]; decide)) (fun hu2 F kk sm' f43 f42 => ?_)
        refine rfT (T := tF) C1.L.z kk (by decide) (fun F' k' e' o' j' => h2 F' (q + 1) k' (e'.trans up_at.symm) (by omega) (Nat.le_refl _) ⟨by rw [j' 29 (by decide)]; exact sm'.1, by rw [o' _ (h.L.o 28)]; exact sm'.2⟩ ?_)
        obtain ⟨wL, w1, w2, w3, w4, w5⟩ := hW
        have gm : gI (wI S7 (upI (gI S7) x 0 6)) m = gI S m := ((frx m (by rw [h.L.z]; decide)).2.2 mW).1
        have ga : gI (wI S7 (upI (gI S7) x 0 6)) (am 42) = gI S (am 42) := ((frx _ (by rw [h.L.k 42]; decide)).2.2 (aW 42 (by decide))).1
        refine ⟨wL, w1, w2, ?_, ?_, fun t ht => ?_⟩
        · show F' se 8 = _
          rw [k'.1 se sem (fun f hf _ => nose f hf)]
          show upI (gI S7) x 0 6 se 8 = _
          rw [up_ne sex, g78]; exact w3
        · show F' m 43 = _ ∨ _ ∧ F' m 43 = _
          rw [j' 43 (by decide)]
          show F m 43 = _ ∨ _ ∧ F m 43 = _
          rw [f43, gm]; exact w4
        · obtain ⟨y1, y2, y3⟩ := nosa sa7 fs7 7 (by decide)
          show F' (sa7 7) t = F' (am 42) t
          rw [k'.1 (sa7 7) y1 (fun f hf _ => y3 f hf), o' _ (h.L.o 42)]
          show upI (gI S7) x 0 6 (sa7 7) t = F (am 42) t
          rw [up_ne y2, f42, ga, s77, g77]
          exact w5 t ht
  · have frx : Fr (WW x se sa) S (wI S (upI (gI S) x 0 1)) := Fr.on On.up (Or.inl rfl)
    obtain ⟨C1, M1⟩ := later _ frx rfl
    have u : ∀ e, e ≠ x → upI (gI S) x 0 1 e = gI S e := fun e he => up_ne he
    refine ⟨h.x, xRn h hrn ⟨fun y => absurd rfl y, fun _ => rf h.x (hq _ _ sa len wl (fun ⟨k, hk, e⟩ => absurd e (hrn k hk)) frx Xk.st (fun _ _ => Or.inl rfl) hX (Or.inl rfl) (fun b0 hb0 => ?_) (fun Q2 h2 => ⟨C1.L.z, mRn C1.L C1.o C1.M hrn ⟨fun y => absurd rfl y, fun _ => ?_⟩⟩))⟩⟩
    · obtain ⟨B0, o0, x0, y1, y2, y3, y4, y5⟩ := hR b0 hb0
      refine ⟨B0, o0, x0.sm (frx.sim imW), y1, ?_, fun j h1 h2 => ?_, ?_, fun r h1 h2 => ?_⟩
      · show upI (gI S) x 0 1 se 6 = _
        rw [u se sex]; exact y2
      · show upI (gI S) x 0 1 (sa 2) _ = _
        rw [u _ (sax 2 (by decide))]; exact y3 j h1 h2
      · show upI (gI S) x 0 1 (sa 2) _ = _
        rw [u _ (sax 2 (by decide))]; exact y4
      · show upI (gI S) x 0 1 (sa 2) _ = _
        rw [u _ (sax 2 (by decide))]; exact y5 r h1 h2
    · refine rfT (T := tF) C1.L.z Kp.rf (by decide) (fun F' k' e' o' j' => h2 F' q k' (e'.trans up_at.symm) (Nat.le_refl _) (by omega) ⟨by rw [j' 29 (by decide)]; exact M1.1, by rw [o' _ (h.L.o 28)]; exact M1.2⟩ ?_)
      obtain ⟨wL, w1, w2, w3, w4, w5⟩ := hW
      refine ⟨wL, w1, w2, ?_, ?_, fun t ht => ?_⟩
      · show F' se 8 = _
        rw [o' se sem]
        show upI (gI S) x 0 1 se 8 = _
        rw [u se sex]; exact w3
      · show F' m 43 = _ ∨ _ ∧ F' m 43 = _
        rw [j' 43 (by decide)]
        show upI (gI S) x 0 1 m 43 = _ ∨ _ ∧ upI (gI S) x 0 1 m 43 = _
        rw [u m (x_m h.x h.L)]; exact w4
      · show F' (sa 7) t = F' (am 42) t
        rw [o' _ (kd_ne (hX.k 7) h.L.z (by decide)), o' _ (h.L.o 42)]
        show upI (gI S) x 0 1 (sa 7) t = upI (gI S) x 0 1 (am 42) t
        rw [u _ (sax 7 (by decide)), u _ (x_am h.x h.L 42)]; exact w5 t ht
theorem call_extent {c d : Nat} {Q : Int32 → St → Prop} (h : CB S x b m am im B) (hse : gR S x 15 = some se) (hX : SeX S se sa len wl) (hR : SeO S se sa im len) (hW : WyR S se m sa am wl) (hM : SM (gI S) m am q) (hq0 : q + 1 < 2 ^ 31) (hj : Dj im S x m am) (him : ∀ e, im e → ¬ WS se sa e) (hma : ∀ f, mk f ≠ 0 → ∀ g, seF g = true → am f ≠ sa g) (hbd : fac (bn B) ≤ len ∨ (2 ≤ c ∧ 2 * fac (bn B) ≤ d))
    (hq : ∀ v S1 sa1 len1, fac (bn B) ≤ len1 → Fr (WW x se sa) S S1 → Xk S S1 x → (∀ f, seF f = true → sa1 f = sa f ∨ kd S (sa1 f) = 0) → SeX S1 se sa1 len1 wl → (len1 = len ∨ (len < len1 ∧ len1 = fac (bn B))) → SeO S1 se sa1 im len1 → (∀ Q2 : Int32 → FI → Prop, (∀ F' q', Kp tF m am (gI S1) F' → F' m 2 = gI S1 x 0 → q ≤ q' → q' ≤ q + 1 → SM F' m am q' → WyR (wI S1 F') se m sa1 am wl → Q2 v F') → P_X12_extent m S1 Q2) → Q v S1) : P_X11_extent x S c d Q := by
  have hn := h.n8
  have hfac := fac_8 (bn B) (by omega)
  have sex : se ≠ x := kd_ne hX.z h.x (by decide)
  have sax : ∀ f, seF f = true → sa f ≠ x := fun f hf => kd_ne (hX.k f hf) h.x (by decide)
  have xW : ¬ WS se sa x := fun e => by
    rcases e with e | ⟨f, hf, e⟩
    · exact sex e.symm
    · exact sax f hf e.symm
  have mW : ¬ WW x se sa m := fun e => by
    rcases e with e | e | ⟨f, hf, e⟩
    · exact x_m h.x h.L e
    · exact kd_ne h.L.z hX.z (by decide) e
    · exact kd_ne h.L.z (hX.k f hf) (by decide) e
  have aW : ∀ f, mk f ≠ 0 → ¬ WW x se sa (am f) := fun f hf e => by
    rcases e with e | e | ⟨g, hg, e⟩
    · exact x_am h.x h.L f hf e
    · exact mk_5 f (by rw [← h.L.k f hf, e]; exact hX.z)
    · exact hma f hf g hg e
  have imS : ∀ e, im e → kd S e ≠ 0 ∧ ¬ WS se sa e := fun e he => ⟨(hj e he).1, him e he⟩
  have imW : ∀ e, im e → kd S e ≠ 0 ∧ ¬ WW x se sa e := fun e he => ⟨(hj e he).1, fun z => z.elim (hj e he).2.1 (him e he)⟩
  have kx : kd S x ≠ 0 := by rw [h.x]; decide
  have nose : ∀ f, mk f ≠ 0 → se ≠ am f := fun f hf e => mk_5 f (by rw [← h.L.k f hf, ← e]; exact hX.z)
  have sem : se ≠ m := kd_ne hX.z h.L.z (by decide)
  refine ⟨h.x, se, hse, b, h.b, hX.z, c, d, Nat.le_refl _, Nat.le_refl _, sp_over hX h.o h.B imS hR hbd (fun S7 sa7 len7 fr7 fs7 X7 hl7 s77 g78 g77 r70 sr7 => ?_)⟩
  have x7 := (fr7 x kx).2.2 xW
  have kx7 : kd S7 x = 11 := (fr7 x kx).1.trans h.x
  have n7 : ∀ g, seF g = true → sa7 g ≠ m ∧ sa7 g ≠ x ∧ ∀ f, mk f ≠ 0 → sa7 g ≠ am f := fun g hg => by
    rcases fs7 g hg with y | y
    · rw [y]
      exact ⟨kd_ne (hX.k g hg) h.L.z (by decide), sax g hg, fun f hf e => hma f hf g hg e.symm⟩
    · exact ⟨(fun e => by rw [e, h.L.z] at y; cases y), (fun e => by rw [e, h.x] at y; cases y), (fun f hf e => by rw [e, h.L.k f hf] at y; exact hf y)⟩
  refine ⟨kx7, se, by rw [x7.2.2]; exact hse, X7.z, ?_⟩
  rw [sr7.2.1]
  have frx : Fr (WW x se sa) S (wI S7 (upI (gI S7) x 0 0)) := (fr7.mono (fun _ _ z => Or.inr z)).tr (Fr.on On.up (Or.inl rfl))
  have C1 := h.fr frx (by show gR S7 x 7 = _; rw [x7.2.2]) imW mW (aW 0 (by decide))
  have M1 := hM.fr h.L frx mW (aW 28 (by decide))
  have sr : SeR (wI S7 (upI (gI S7) x 0 0)) se sa7 len7 B := by
    obtain ⟨y1, y2, y3, y4, y5⟩ := sr7
    have e2 : upI (gI S7) x 0 0 (sa7 2) = gI S7 (sa7 2) := up_ne (n7 2 (by decide)).2.1
    exact ⟨y1, by show upI (gI S7) x 0 0 se 6 = _; rw [up_ne sex]; exact y2, fun j h1 h2 => by show upI (gI S7) x 0 0 (sa7 2) _ = _; rw [e2]; exact y3 j h1 h2, by show upI (gI S7) x 0 0 (sa7 2) _ = _; rw [e2]; exact y4, fun r h1 h2 => by show upI (gI S7) x 0 0 (sa7 2) _ = _; rw [e2]; exact y5 r h1 h2⟩
  refine an kx7 (hq _ _ sa7 len7 sr7.1 frx ⟨x7.2.1, x7.2.2, fun z hz => ?_⟩ fs7 X7 hl7 (fun b0 hb0 => ?_) (fun Q2 h2 => ⟨C1.L.z, ?_⟩))
  · show upI (gI S7) x 0 0 x z = _
    rw [up_no hz, x7.1]
  · have e0 : gR S7 se 0 = some b0 := hb0
    rw [r70] at e0
    obtain rfl := Option.some.inj e0
    exact ⟨B, h.o, C1.B, sr⟩
  · refine sm_findsAll C1.L C1.o C1.M M1 hq0 (fun F ms => ?_)
    obtain ⟨kk, m41, m29, z28, r38, r39, r43, r42⟩ := ms
    rw [m41]
    refine gvT (S1 := S) (T := tF) (S2 := wI (wI S7 (upI (gI S7) x 0 0)) F) C1.L.z kk (by decide) (fun F' k' e' o' j' => h2 F' (q + 1) k' (e'.trans up_at.symm) (by omega) (Nat.le_refl _) ⟨by rw [j' 29 (by decide)]; exact m29, by rw [o' _ (h.L.o 28)]; exact z28.z⟩ ?_)
    obtain ⟨wL, w1, w2, w3, w4, w5⟩ := hW
    have gm : gI (wI S7 (upI (gI S7) x 0 0)) m = gI S m := ((frx m (by rw [h.L.z]; decide)).2.2 mW).1
    have ga : gI (wI S7 (upI (gI S7) x 0 0)) (am 42) = gI S (am 42) := ((frx _ (by rw [h.L.k 42]; decide)).2.2 (aW 42 (by decide))).1
    refine ⟨wL, w1, w2, ?_, ?_, fun t ht => ?_⟩
    · show F' se 8 = _
      rw [k'.1 se sem (fun f hf _ => nose f hf)]
      show upI (gI S7) x 0 0 se 8 = _
      rw [up_ne sex, g78]; exact w3
    · show F' m 43 = _ ∨ _ ∧ F' m 43 = _
      rw [j' 43 (by decide)]
      show F m 43 = _ ∨ _ ∧ F m 43 = _
      rw [r43, gm]; exact w4
    · obtain ⟨y1, y2, y3⟩ := n7 7 (by decide)
      show F' (sa7 7) t = F' (am 42) t
      rw [k'.1 (sa7 7) y1 (fun f hf _ => y3 f hf), o' _ (h.L.o 42)]
      show upI (gI S7) x 0 0 (sa7 7) t = F (am 42) t
      rw [up_ne y2, r42, ga, s77, g77]
      exact w5 t ht
theorem call_wayAt {Q1 : Int32 → FI → Prop} (h : CB S x b m am im B) (hse : gR S x 15 = some se) (hX : SeX S se sa len wl) (hW : WyR S se m sa am wl) (r p : Int32) (hq : ∀ v F, Th S x m am v (P_X12_wayAt m r p (wI S F)) → Q1 v F) : P_X11_wayAt x r p S Q1 := by
  obtain ⟨wL, w1, w2, w3, w4, w5⟩ := hW
  have wl4 := hX.le.2
  have m43 : ∀ s, gI (wI S (upI (gI S) x 0 s)) m 43 = gI S m 43 := fun s => by show upI (gI S) x 0 s m 43 = _; rw [up_ne (x_m h.x h.L)]
  have rfB : ∀ (s : Int32), (∀ Q2 : Int32 → FI → Prop, P_X12_refuse m s (wI S (upI (gI S) x 0 s)) Q2 → P_X12_wayAt m r p (wI S (upI (gI S) x 0 s)) Q2) → P_X11_refuse x s S Q1 := fun s hm => rf h.x (hq _ _ (fun Q2 h2 => hm Q2 (rfm h.L.z Kp.rf h2)))
  rcases nr_case 2 (by decide) p with ⟨k, hk, rfl⟩ | hp
  · have kc : k = 0 ∨ k = 1 := by omega
    have p0 : ¬ nI k < 0 := nI_pos (by omega)
    have p1 : nI k ≤ 1 := (nI_leI (b := 1) (by omega) (by decide)).mpr (by omega)
    have mid : ∃ J_4 : Prop, (J_4 → P_X11_refuse x 6 S (fun (r_5 : Int32) (F_5 : FI) => Q1 r_5 F_5)) ∧ ((r < 0 → J_4) ∧ (¬ r < 0 → (∃ a_6 : Nat, gR S x 15 = some a_6 ∧ (kd S a_6 = 5 ∧ ((r < (gI S a_6 8) → (∃ a_9 : Nat, gR S a_6 7 = some a_9 ∧ (kd S a_9 = 21 ∧ (vp_in r (ln S a_9) ∧ (∀ v_12 : Int32, v_12 = gI S a_9 r.toNatClampNeg → (∃ J_14 : Int32 → Prop, (∀ (t_15 : Int32), J_14 t_15 → (P_X11_answer x t_15 S (fun (r_16 : Int32) (F_16 : FI) => Q1 r_16 F_16))) ∧ ((¬ nI k = 0 → J_14 (irm v_12 3)) ∧ (nI k = 0 → J_14 (v_12 / 3))))))))) ∧ (¬ r < (gI S a_6 8) → J_4)))))) := by
      refine ⟨(r < 0 ∨ ¬ r < nI wL), fun hbad => rfB 6 (fun Q2 hr => ⟨h.L.z, False, False.elim, fun y => absurd y p0, fun _ => ⟨fun _ => ⟨True, fun _ => hr, fun _ => trivial, fun hr0 => ?_⟩, fun y => absurd p1 y⟩⟩), fun y => Or.inl y, fun hr0 => ⟨se, hse, hX.z, ?_, ?_⟩⟩
      · rw [m43]
        refine ⟨fun y => ?_, fun _ => trivial⟩
        exfalso
        rcases hbad with z | z
        · exact hr0 z
        · rcases w4 with e | ⟨e1, e⟩
          · rw [e] at y; exact z y
          · rw [e] at y
            refine hr0 ((fa_lt _ _).mpr ?_)
            have z1 := (fa_lt _ _).mp y
            have z3 : (-1 : Int32).toInt = -1 := rfl
            have z4 : (0 : Int32).toInt = 0 := rfl
            omega
      · rw [w3]
        intro hl
        obtain ⟨i, hi, rfl⟩ := nI_of hr0
        have il : i < wL := by rcases Nat.lt_or_ge i wL with z | z; exact z; exact absurd hl (nI_nlt z (by omega))
        refine ⟨sa 7, hX.r 7, hX.k 7, by rw [hX.l7]; exact vp_in_nI (by omega) (by omega), fun v ev => ?_⟩
        rw [nI_clamp hi, w5 i il] at ev
        have w4' : gI S m 43 = nI wL := by
          rcases w4 with e | ⟨e1, e⟩
          · exact e
          · omega
        have fin : ∀ t, (¬ nI k = 0 → t = irm v 3) → (nI k = 0 → t = v / 3) → P_X11_answer x t S (fun r F => Q1 r F) := fun t h1 h2 => an h.x (hq _ _ (fun Q2 hq2 => ⟨h.L.z, False, False.elim, fun y => absurd y p0, fun _ => ⟨fun _ => ⟨False, False.elim, fun y => absurd y hr0, fun _ => ?_⟩, fun y => absurd p1 y⟩⟩))
        · refine ⟨fun t => (¬ nI k = 0 → t = irm v 3) ∧ (nI k = 0 → t = v / 3), fun t ht => fin t ht.1 ht.2, fun y => ⟨fun _ => rfl, fun z => absurd z y⟩, fun y => ⟨fun z => absurd y z, fun _ => rfl⟩⟩
        rw [m43, w4']
        have e42 : upI (gI S) x 0 0 (am 42) = gI S (am 42) := up_ne (x_am h.x h.L 42)
        refine ⟨fun _ => ⟨fun u => u = t, fun u hu => by rw [hu]; exact gvm h.L.z Kp.rf hq2, fun y => ⟨am 42, h.L.r 42, h.L.k 42, h.L.i 42 (by show i < 40320; omega), ?_⟩, fun y => ⟨am 42, h.L.r 42, h.L.k 42, h.L.i 42 (by show i < 40320; omega), ?_⟩⟩, fun y => absurd hl y⟩
        · show irm (upI (gI S) x 0 0 (am 42) (nI i).toNatClampNeg) 3 = t
          rw [nI_clamp hi, e42, ← ev]; exact (h1 y).symm
        · show upI (gI S) x 0 0 (am 42) (nI i).toNatClampNeg / 3 = t
          rw [nI_clamp hi, e42, ← ev]; exact (h2 y).symm
      · rw [w3]; exact fun y => Or.inr y
    refine ⟨h.x, True, fun _ => mid, fun _ => trivial, fun y => ⟨fun _ => trivial, fun z => ?_⟩⟩
    exfalso
    rcases kc with e | e
    · subst e; exact y rfl
    · subst e; exact z rfl
  · refine ⟨h.x, False, False.elim, fun y => absurd y (hp 0 (by decide)), fun _ => ⟨fun y => absurd y (hp 1 (by decide)), fun _ => rfB 1 (fun Q2 hr => ⟨h.L.z, True, fun _ => hr, fun _ => trivial, fun y0 => ⟨fun y1 => ?_, fun _ => trivial⟩⟩)⟩⟩
    exfalso
    have := nr_ix (by decide) hp y0
    rw [fa_le] at this y1
    have e1 : (nI 2).toInt = 2 := rfl
    have e2 : (1 : Int32).toInt = 1 := rfl
    omega
end CW
