/-! The law holds of every script. -/
theorem gr_start {x m : Nat} {T S6 S' : St} {z ra mv tb ca sa am ow : Nat → Nat} {a b ba : Nat} (ch : Ch x T z ra mv tb ca sa a b ba ow) (h6 : kd T m = 0) (e6 : S6 = alo T m 12 0) (fr : Fr (fun e => e = m) S6 S') (lm : LM S' m am) (dam : ∀ f, mk f ≠ 0 → kd S6 (am f) = 0) (hi : ∀ j, gI S' m j = if j = 43 then -1 else if j = 17 then -1 else if j = 16 then -1 else 0) (hj : ∀ j, gJ S' m j = if j = 4 then 1 else 0) (hc : ∀ f, mk f ≠ 0 → f ≠ 0 → gI S' (am f) = c12 f) (h0 : ∀ k, gI S' (am 0) k = if k = 6 then -1 else if k = 4 then -1 else if k = 0 then 4 else 0) : GR x m z (fun i => if i = 0 then am else if i = 1 then ra else if i = 2 then mv else if i = 3 then tb else ca) S' 0 0 0 0 := by
  obtain ⟨⟨x1, x2⟩, ⟨i0, i13, j1, j2⟩, ⟨r3, r4, r5, r6, r7, r8, r9, r10, r11, r12, r14, r15, r16⟩, ⟨t1, t2, t3, t4⟩, ⟨k1, k2, k3, k4, k5, k6, k7⟩, ⟨b1, b2, b3, b4⟩, ⟨d1, d2, d3⟩, ⟨o1, o2, o3, o4, o5, o6, o7, o8, o9⟩, ⟨m1, m2, m3, m4, m5, m6, m7, m8, m9, m10⟩, ⟨s1, s2, s3⟩, ⟨e1, e2, e3, e4, e5⟩, ⟨c1, c2, c3, c4⟩⟩ := ch
  have al : ∀ e, kd T e ≠ 0 → kd S' e = kd T e ∧ ln S' e = ln T e ∧ gI S' e = gI T e ∧ gJ S' e = gJ T e ∧ gR S' e = gR T e := fun e he => by
    have hn := kd_nq he h6
    have a1 : kd S6 e = kd T e := by rw [e6, kd_alon hn]
    obtain ⟨y1, y2, y3⟩ := fr e (by rw [a1]; exact he)
    obtain ⟨y4, y5, y6⟩ := y3 hn
    exact ⟨y1.trans a1, y2.trans (by rw [e6, ln_alon hn]), y4.trans (by rw [e6, gI_alon hn]), y5.trans (by rw [e6, gJ_alon hn]), y6.trans (by rw [e6, gR_alon hn])⟩
  have kx : Kx T S' := fun e he _ => al e he
  have ho : ∀ e, kd T e ≠ 0 → nl T 2 ow e = ow e := fun e he => nl_o he
  have X := al x (nz x1 (by decide))
  have xr : ∀ j, gR S' x j = gR T x j := fun j => by rw [X.2.2.2.2]
  have dT : ∀ f, mk f ≠ 0 → kd T (am f) = 0 := fun f hf => al_dd e6 h6 (dam f hf)
  have gb := kx.g o1 (by decide) (by decide)
  have gba := kx.g o6 (by decide) (by decide)
  have g13 := kx.g t1 (by decide) (by decide)
  have g2 := kx.g k1.1 (by decide) (by decide)
  have g7 := kx.g m1 (by decide) (by decide)
  have g8 := kx.g m2 (by decide) (by decide)
  have g9 := kx.g m3 (by decide) (by decide)
  have g11 := kx.g e1.1 (by decide) (by decide)
  have g12 := kx.g c1.1 (by decide) (by decide)
  have k1' := k1.kx kx
  have msk15 : nI 15 = msk (fun p => !brr (Bk0 4) p) (bn (Bk0 4)) := by
    show nI 15 = msk (fun _ => true) 4
    decide +kernel
  refine ⟨nl T 2 ow, fun e => e = b ∨ e = ba, (b, Bk0 4, none, none), 0, fun _ => (b, Bk0 4, none, none), fun _ => 0, fun _ => 0, fun _ => none, 0, a, sa, 32, X.1.trans x1, (ho x (nz x1 (by decide))).trans x2, ⟨lm, nl_n h6, fun f hf => nl_n (dT f hf), ?_, fun r hr => ⟨0, Nat.le_refl _, ?_⟩⟩, ⟨?_, ?_, ?_⟩, ⟨⟨⟨Nat.le_refl 4, show 4 ≤ 8 by decide, Nat.zero_le 4, fun i hi => by have : i < 0 := hi; omega⟩, (xr 7).trans r7, ⟨Or.inl rfl, gb.1, ?_, ?_, ?_, ba, ?_, Or.inr rfl, gba.1, gba.2.1.trans o7, fun i hi => by have : i < 0 := hi; omega⟩, (xr 8).trans r8, (xr 9).trans r9⟩, ⟨⟨h0 0, h0 1, (h0 3).trans (msk_nil 4), fun i hi => by have : i < 0 := hi; omega⟩, h0 4, h0 6, fun i hi => by have : i < 0 := hi; omega⟩⟩, ⟨⟨(xr 10).trans r10, (xr 11).trans r11, (xr 12).trans r12, g7.1, g8.1, g9.1, g7.2.1.trans m4, g8.2.1.trans m5, g9.2.1.trans m6, m7, by decide, ?_, hi 50, fun i hi => by omega⟩, (ho _ (nz m1 (by decide))).trans m8, (ho _ (nz m2 (by decide))).trans m9, (ho _ (nz m3 (by decide))).trans m10⟩, ⟨⟨(xr 3).trans r3, g13.1, g13.2.1.trans t2, fun i hi' => ⟨?_, ?_⟩⟩, ⟨fun i j _ _ _ y => absurd rfl y, fun i f _ y => absurd rfl y⟩, (ho _ (nz t1 (by decide))).trans t4, fun i _ y => absurd rfl y⟩, ⟨⟨(xr 4).trans r4, k1'.1, k1'.2.1, k1'.2.2.1, k1'.2.2.2.1, kd_nq (nz k1.2.2.1 (by decide)) (dT 8 (by decide)), by decide, ?_, hi 10, fun j hj => by omega⟩, k1', ⟨?_, ?_⟩, (ho _ (nz k1.1 (by decide))).trans k5, (ho _ (nz k1.2.2.1 (by decide))).trans k6, (ho _ (nz k1.2.2.2.2.2.1 (by decide))).trans k7⟩, ⟨(xr 5).trans r5, b1.kx kx, (ho _ (nz b1.1 (by decide))).trans b2, fun i i1 i2 => ?_, fun i hi' => (ho _ (nz (b1.2.2.2.2.2.2.2.2.1 i hi').2.1 (by decide))).trans (b4 i hi')⟩, ⟨(xr 6).trans r6, d1.kx kx, (ho _ (nz d1.1 (by decide))).trans d2, fun i i1 i2 => ?_⟩, ⟨(xr 14).trans r14, s1.kx kx, (ho _ (nz s1.1 (by decide))).trans s2, (ho _ (nz s1.2.2.1 (by decide))).trans s3⟩, ⟨(xr 15).trans r15, e1.kx kx, fun b0 hb0 => ?_, ⟨0, by decide, by decide, ?_, Or.inr ⟨rfl, hi 43⟩, fun t ht => by omega⟩, (ho _ (nz e1.1 (by decide))).trans e4, fun f hf => (ho _ (nz (e1.2.1 f hf).2 (by decide))).trans (e5 f hf)⟩, ⟨(xr 16).trans r16, c1.kx kx, ⟨0, by decide, ?_, hi 48, fun j hj => by omega⟩, (ho _ (nz c1.1 (by decide))).trans c3, fun f hf => (ho _ (nz (c1.k f hf) (by decide))).trans (c4 f hf)⟩, fun e he => ?_⟩
  · exact hi 29
  · show gI S' (am 28) r = _
    rw [hc 28 (by decide) (by decide)]; rfl
  · rw [hi 2, X.2.2.1]; exact i0.symm
  · rw [hj 3, X.2.2.2.1]; exact j1.symm
  · rw [hj 4, X.2.2.2.1]; exact j2.symm
  · rw [gb.2.2.1]; exact o2
  · rw [gb.2.2.1]; exact o3
  · rw [gb.2.2.1]; exact o4.trans msk15
  · rw [gb.2.2.2.2]; exact o5
  · rw [X.2.2.1]; exact i13
  · rw [g13.2.2.2.2]; exact t3 i
  · show gI S' (am 6) i = _
    rw [hc 6 (by decide) (by decide)]
    show (if i < 4 then (-1 : Int32) else 0) = -1
    rw [if_pos hi']
  · rw [g2.2.2.1]; exact k2
  · rw [hi 16, g2.2.2.1]; exact k3.symm
  · rw [hi 17, g2.2.2.1]; exact k4.symm
  · obtain ⟨-, -, ⟨-, y6, -⟩, ⟨-, y7, -⟩, ⟨-, y8, -⟩, ⟨-, y9, -⟩, ⟨-, y10, -⟩, ⟨-, y11, -⟩, -⟩ := b1
    have hk : kd T (ra i) ≠ 0 := by
      rcases (show i = 6 ∨ i = 7 ∨ i = 8 ∨ i = 9 ∨ i = 10 ∨ i = 11 by omega) with rfl | rfl | rfl | rfl | rfl | rfl
      · exact nz y6 (by decide)
      · exact nz y7 (by decide)
      · exact nz y8 (by decide)
      · exact nz y9 (by decide)
      · exact nz y10 (by decide)
      · exact nz y11 (by decide)
    exact (ho _ hk).trans (b3 i i1 i2)
  · obtain ⟨-, -, ⟨-, y4, -⟩, ⟨-, y5, -⟩, ⟨-, y6, -⟩, ⟨-, y7, -⟩, ⟨-, y8, -⟩, ⟨-, y9, -⟩, -⟩ := d1
    have hk : kd T (tb i) ≠ 0 := by
      rcases (show i = 4 ∨ i = 5 ∨ i = 6 ∨ i = 7 ∨ i = 8 ∨ i = 9 by omega) with rfl | rfl | rfl | rfl | rfl | rfl
      · exact nz y4 (by decide)
      · exact nz y5 (by decide)
      · exact nz y6 (by decide)
      · exact nz y7 (by decide)
      · exact nz y8 (by decide)
      · exact nz y9 (by decide)
    exact (ho _ hk).trans (d3 i i1 i2)
  · rw [g11.2.2.2.2, e2] at hb0; cases hb0
  · rw [g11.2.2.1]; exact e3
  · rw [g12.2.2.1]; exact c2
  · rcases he with rfl | rfl
    · exact ⟨nz gb.1 (by decide), (ho _ (nz o1 (by decide))).trans o8⟩
    · exact ⟨nz gba.1 (by decide), (ho _ (nz o6 (by decide))).trans o9⟩
theorem plaw_ok {L : Nat} (hL : L ≤ 3072) (xs : Nat → Int32) : P_law L xs := by
  refine ⟨by omega, by omega, fun q1 h1 S1 e1 => ⟨100, 5000, by omega, by omega, sp_init11 (by rw [e1, kd_alo]) (Nat.le_refl _) (Nat.le_refl _) (fun T z ra mv tb ca sa a b ba ow ch => ⟨by omega, by omega, fun q6 h6 S6 e6 => ⟨24, 218273, by omega, by omega, sp_init12 (by rw [e6, kd_alo]) (by rw [e6, gI_alo]) (by rw [e6, gJ_alo]) (Nat.le_refl _) (Nat.le_refl _) (fun S' am fr lm dam hi hj hc h0 _ => ?_)⟩⟩)⟩⟩
  have pz : pot 0 = 46224 := rfl
  exact law_loop hL (gr_start ch h6 e6 fr lm dam hi hj hc h0) (by omega) (by rw [pz]; omega)
