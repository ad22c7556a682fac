/-! The chamber at the start. -/
def Kx (S S2 : St) : Prop := ∀ e, kd S e ≠ 0 → kd S e ≠ 11 → kd S2 e = kd S e ∧ ln S2 e = ln S e ∧ gI S2 e = gI S e ∧ gJ S2 e = gJ S e ∧ gR S2 e = gR S e
section KX
variable {S S2 S3 T Sa Sz : St} {x q k l : Nat} {F' : FI} {J' : FJ} {R' : FR}
theorem Kx.tr (h : Kx S S2) (h2 : Kx S2 S3) : Kx S S3 := fun e he h11 => by
  obtain ⟨a1, a2, a3, a4, a5⟩ := h e he h11
  obtain ⟨b1, b2, b3, b4, b5⟩ := h2 e (by rw [a1]; exact he) (by rw [a1]; exact h11)
  exact ⟨b1.trans a1, b2.trans a2, b3.trans a3, b4.trans a4, b5.trans a5⟩
theorem Fr.kx (h : Fr (fun e => e = x) S S2) (hx : kd S x = 11) : Kx S S2 := fun e he h11 => by
  obtain ⟨a1, a2, a3⟩ := h e he
  obtain ⟨a4, a5, a6⟩ := a3 (fun e' => h11 (by rw [e']; exact hx))
  exact ⟨a1, a2, a4, a5, a6⟩
theorem Al.kx (h : Al S S2) : Kx S S2 := fun _ he _ => h.g he
theorem Kx.g (h : Kx S S2) {e i : Nat} (he : kd S e = i) (h0 : i ≠ 0) (h11 : i ≠ 11) : kd S2 e = i ∧ ln S2 e = ln S e ∧ gI S2 e = gI S e ∧ gJ S2 e = gJ S e ∧ gR S2 e = gR S e := by
  obtain ⟨a1, a2⟩ := h e (nz he h0) (by rw [he]; exact h11)
  exact ⟨a1.trans he, a2⟩
theorem TkX.kx {k tt rv : Nat} (h : TkX S k tt rv) (f : Kx S S2) : TkX S2 k tt rv := by
  obtain ⟨h1, h2, h3, h4, h5, h6, h7, h8⟩ := h
  have a := f.g h1 (by decide) (by decide)
  have b := f.g h3 (by decide) (by decide)
  have c := f.g h6 (by decide) (by decide)
  exact ⟨a.1, by rw [a.2.2.2.2]; exact h2, b.1, b.2.1.trans h4, by rw [a.2.2.2.2]; exact h5, c.1, c.2.1.trans h7, fun i hi => by rw [c.2.2.2.1]; exact h8 i hi⟩
theorem BrX.kx {br k rv : Nat} {ra mv : Nat → Nat} (h : BrX S br k rv ra mv) (f : Kx S S2) : BrX S2 br k rv ra mv := by
  obtain ⟨h1, h2, ⟨a6, b6, c6⟩, ⟨a7, b7, c7⟩, ⟨a8, b8, c8⟩, ⟨a9, b9, c9⟩, ⟨a10, b10, c10⟩, ⟨a11, b11, c11⟩, hm, hd⟩ := h
  have g := f.g h1 (by decide) (by decide)
  have e6 := f.g b6 (by decide) (by decide)
  have e7 := f.g b7 (by decide) (by decide)
  have e8 := f.g b8 (by decide) (by decide)
  have e9 := f.g b9 (by decide) (by decide)
  have e10 := f.g b10 (by decide) (by decide)
  have e11 := f.g b11 (by decide) (by decide)
  have r := g.2.2.2.2
  refine ⟨g.1, by rw [r]; exact h2, ⟨by rw [r]; exact a6, e6.1, e6.2.1.trans c6⟩, ⟨by rw [r]; exact a7, e7.1, e7.2.1.trans c7⟩, ⟨by rw [r]; exact a8, e8.1, e8.2.1.trans c8⟩, ⟨by rw [r]; exact a9, e9.1, e9.2.1.trans c9⟩, ⟨by rw [r]; exact a10, e10.1, e10.2.1.trans c10⟩, ⟨by rw [r]; exact a11, e11.1, e11.2.1.trans c11⟩, fun i hi => ?_, hd⟩
  obtain ⟨u1, u2, u3⟩ := hm i hi
  have eu := f.g u2 (by decide) (by decide)
  exact ⟨by rw [e8.2.2.2.2]; exact u1, eu.1, eu.2.1.trans u3⟩
theorem TrdX.kx {tr k : Nat} {ta : Nat → Nat} (h : TrdX S tr k ta) (f : Kx S S2) : TrdX S2 tr k ta := by
  obtain ⟨h1, h2, ⟨a4, b4, c4⟩, ⟨a5, b5, c5⟩, ⟨a6, b6, c6⟩, ⟨a7, b7, c7⟩, ⟨a8, b8, c8⟩, ⟨a9, b9, c9⟩, hd⟩ := h
  have g := f.g h1 (by decide) (by decide)
  have r := g.2.2.2.2
  have e4 := f.g b4 (by decide) (by decide)
  have e5 := f.g b5 (by decide) (by decide)
  have e6 := f.g b6 (by decide) (by decide)
  have e7 := f.g b7 (by decide) (by decide)
  have e8 := f.g b8 (by decide) (by decide)
  have e9 := f.g b9 (by decide) (by decide)
  exact ⟨g.1, by rw [r]; exact h2, ⟨by rw [r]; exact a4, e4.1, e4.2.1.trans c4⟩, ⟨by rw [r]; exact a5, e5.1, e5.2.1.trans c5⟩, ⟨by rw [r]; exact a6, e6.1, e6.2.1.trans c6⟩, ⟨by rw [r]; exact a7, e7.1, e7.2.1.trans c7⟩, ⟨by rw [r]; exact a8, e8.1, e8.2.1.trans c8⟩, ⟨by rw [r]; exact a9, e9.1, e9.2.1.trans c9⟩, hd⟩
theorem SX.kx {s a len p : Nat} (h : SX S s a len p) (f : Kx S S2) : SX S2 s a len p := by
  obtain ⟨h1, h2, h3, h4, h5, h6, h7⟩ := h
  have g := f.g h1 (by decide) (by decide)
  have e := f.g h3 (by decide) (by decide)
  exact ⟨g.1, by rw [g.2.2.2.2]; exact h2, e.1, e.2.1.trans h4, by rw [g.2.2.1]; exact h5, h6, by rw [e.2.2.1]; exact h7⟩
theorem SeX.kx {se len wl : Nat} {sa : Nat → Nat} (h : SeX S se sa len wl) (f : Kx S S2) : SeX S2 se sa len wl := by
  obtain ⟨h1, h2, h3, h4, h5, h6, h7, h8⟩ := h
  have g := f.g h1 (by decide) (by decide)
  have e : ∀ f', seF f' = true → kd S2 (sa f') = 21 ∧ ln S2 (sa f') = ln S (sa f') := fun f' hf => by
    obtain ⟨u1, u2, -⟩ := f.g (h2 f' hf).2 (by decide) (by decide)
    exact ⟨u1, u2⟩
  exact ⟨g.1, fun f' hf => ⟨by rw [g.2.2.2.2]; exact (h2 f' hf).1, (e f' hf).1⟩, (e 1 (by decide)).2.trans h3, (e 2 (by decide)).2.trans h4, (e 3 (by decide)).2.trans h5, (e 4 (by decide)).2.trans h6, (e 7 (by decide)).2.trans h7, h8⟩
theorem CoX.kx {co : Nat} {ca : Nat → Nat} (h : CoX S co ca) (f : Kx S S2) : CoX S2 co ca := by
  have g := f.g h.1 (by decide) (by decide)
  refine ⟨g.1, fun f' hf => ?_, h.2.2⟩
  obtain ⟨u1, u2, -⟩ := f.g (h.k f' hf) (by decide) (by decide)
  exact ⟨by rw [g.2.2.2.2]; exact h.r f' hf, u1, u2.trans (h.l f' hf)⟩
/-- a new object, made ready, and a reference to it set in the chamber -/
theorem stg (kx : kd T x = 11) (hq : kd T q = 0) (ea : Sa = alo T q k l) (fr : Fr (fun e => e = q) Sa Sz) : (∀ e, kd T e ≠ 0 → kd Sz e = kd T e ∧ ln Sz e = ln T e ∧ gI Sz e = gI T e ∧ gJ Sz e = gJ T e ∧ gR Sz e = gR T e) ∧ kd Sz x = 11 := by
  have A : ∀ e, kd T e ≠ 0 → kd Sz e = kd T e ∧ ln Sz e = ln T e ∧ gI Sz e = gI T e ∧ gJ Sz e = gJ T e ∧ gR Sz e = gR T e := fun e he => by
    have hn := kd_nq he hq
    have a1 : kd Sa e = kd T e := by rw [ea, kd_alon hn]
    obtain ⟨b1, b2, b3⟩ := fr e (by rw [a1]; exact he)
    obtain ⟨b4, b5, b6⟩ := b3 hn
    exact ⟨b1.trans a1, b2.trans (by rw [ea, ln_alon hn]), b4.trans (by rw [ea, gI_alon hn]), b5.trans (by rw [ea, gJ_alon hn]), b6.trans (by rw [ea, gR_alon hn])⟩
  exact ⟨A, (A x (nz kx (by decide))).1.trans kx⟩
theorem stg2 (A : ∀ e, kd T e ≠ 0 → kd Sz e = kd T e ∧ ln Sz e = ln T e ∧ gI Sz e = gI T e ∧ gJ Sz e = gJ T e ∧ gR Sz e = gR T e) (hF : ∀ a, a ≠ x → F' a = gI Sz a) (hR : ∀ a, a ≠ x → R' a = gR Sz a) : Fr (fun e => e = x) T (wA Sz F' (gJ Sz) R') ∧ Fr (fun e => e = x) Sz (wA Sz F' (gJ Sz) R') := ⟨fun e he => by
  obtain ⟨a1, a2, a3, a4, a5⟩ := A e he
  exact ⟨a1, a2, fun hw => ⟨(hF e hw).trans a3, a4, (hR e hw).trans a5⟩⟩, fun e _ => ⟨rfl, rfl, fun hw => ⟨hF e hw, rfl, hR e hw⟩⟩⟩
end KX
/-- all that the chamber holds -/
def Ch (x : Nat) (T : St) (z : Nat → Nat) (ra mv tb ca sa : Nat → Nat) (a b ba : Nat) (ow : Nat → Nat) : Prop :=
  (kd T x = 11 ∧ ow x = 1) ∧ (gI T x 0 = 0 ∧ gI T x 13 = 0 ∧ gJ T x 1 = 0 ∧ gJ T x 2 = 1) ∧
  (gR T x 3 = some (z 13) ∧ gR T x 4 = some (z 2) ∧ gR T x 5 = some (z 5) ∧ gR T x 6 = some (z 6) ∧ gR T x 7 = some b ∧ gR T x 8 = none ∧ gR T x 9 = none ∧ gR T x 10 = some (z 7) ∧ gR T x 11 = some (z 8) ∧ gR T x 12 = some (z 9) ∧ gR T x 14 = some (z 10) ∧ gR T x 15 = some (z 11) ∧ gR T x 16 = some (z 12)) ∧
  (kd T (z 13) = 26 ∧ ln T (z 13) = 4 ∧ (∀ i, gR T (z 13) i = none) ∧ ow (z 13) = 3) ∧
  (TkX T (z 2) (z 3) (z 4) ∧ gI T (z 2) 1 = 0 ∧ gI T (z 2) 9 = -1 ∧ gI T (z 2) 10 = -1 ∧ ow (z 2) = 4 ∧ ow (z 3) = 4 ∧ ow (z 4) = 4) ∧
  (BrX T (z 5) (z 2) (z 4) ra mv ∧ ow (z 5) = 5 ∧ (∀ i, 6 ≤ i → i ≤ 11 → ow (ra i) = 5) ∧ ∀ i, i < 4 → ow (mv i) = 5) ∧
  (TrdX T (z 6) (z 2) tb ∧ ow (z 6) = 6 ∧ ∀ i, 4 ≤ i → i ≤ 9 → ow (tb i) = 6) ∧
  (kd T b = 1 ∧ gI T b 0 = nI 4 ∧ gI T b 1 = nI 24 ∧ gI T b 2 = nI 15 ∧ gR T b 3 = some ba ∧ kd T ba = 24 ∧ ln T ba = 0 ∧ ow b = 11 ∧ ow ba = 11) ∧
  (kd T (z 7) = 23 ∧ kd T (z 8) = 25 ∧ kd T (z 9) = 25 ∧ ln T (z 7) = 3 ∧ ln T (z 8) = 3 ∧ ln T (z 9) = 3 ∧ z 8 ≠ z 9 ∧ ow (z 7) = 7 ∧ ow (z 8) = 7 ∧ ow (z 9) = 7) ∧
  (SX T (z 10) a 0 0 ∧ ow (z 10) = 8 ∧ ow a = 8) ∧
  (SeX T (z 11) sa 0 32 ∧ gR T (z 11) 0 = none ∧ gI T (z 11) 8 = 0 ∧ ow (z 11) = 9 ∧ ∀ f, seF f = true → ow (sa f) = 9) ∧
  (CoX T (z 12) ca ∧ gI T (z 12) 4 = 0 ∧ ow (z 12) = 10 ∧ ∀ f, f < 4 → ow (ca f) = 10)
theorem al_dd {T Sa : St} {q k l e : Nat} (ea : Sa = alo T q k l) (hq : kd T q = 0) (h : kd Sa e = 0) : kd T e = 0 := by
  by_cases c : e = q
  · rw [c]; exact hq
  · rw [ea, kd_alon c] at h; exact h
theorem sp_init11 {S : St} {x c d : Nat} {Q : St → Prop} (hx : kd S x = 11) (hc : 100 ≤ c) (hd : 5000 ≤ d) (hq : ∀ T z ra mv tb ca sa a b ba ow, Ch x T z ra mv tb ca sa a b ba ow → Q T) : P_X11_init x S c d Q := by
  have kx0 := nz hx (by decide)
  refine ⟨hx, fun F1 e1 J2 e2 J3 e3 => ⟨by omega, by omega, fun q4 h4 S4 e4 => ?_⟩⟩
  -- trays
  have kT0 : kd (wA S F1 J3 (gR S)) x = 11 := hx
  obtain ⟨A4, x4⟩ := stg (Sz := S4) kT0 h4 e4 Fr.rf
  have b4 : kd S4 q4 = 26 ∧ ln S4 q4 = 4 ∧ gR S4 q4 = fun _ => none := by rw [e4]; exact ⟨kd_alo, ln_alo, gR_alo⟩
  refine ⟨x4, fun R8 e8 => ⟨by omega, by omega, fun q9 h9 S9 e9 => ⟨2, 912, by omega, by omega, ?_⟩⟩⟩
  obtain ⟨f01, g4⟩ := stg2 (x := x) (F' := gI S4) (R' := R8) A4 (fun _ _ => rfl) (fun a ha => by rw [e8, upR_ne ha])
  obtain ⟨T1, hT1⟩ : ∃ T, T = wA S4 (gI S4) (gJ S4) R8 := ⟨_, rfl⟩
  have k9 : kd S9 q9 = 7 := by rw [e9, kd_alo]
  refine sp_init7 k9 (by omega) (by omega) (fun S13 tt rv fr13 tk13 t1 t9 t10 dtt drv => ?_)
  -- tokens
  have kT1 : kd (wA S4 (gI S4) (gJ S4) R8) x = 11 := x4
  obtain ⟨A13, x13⟩ := stg (T := wA S4 (gI S4) (gJ S4) R8) kT1 h9 e9 fr13
  refine ⟨x13, fun R15 e15 => ⟨by omega, by omega, fun q16 h16 S16 e16 => ?_⟩⟩
  obtain ⟨f12, g13⟩ := stg2 (x := x) (F' := gI S13) (R' := R15) A13 (fun _ _ => rfl) (fun a ha => by rw [e15, upR_ne ha])
  have kT2 : kd (wA S13 (gI S13) (gJ S13) R15) x = 11 := x13
  have x16 : kd S16 x = 11 := by rw [e16, kd_alon (kd_nq (nz kT2 (by decide)) h16)]; exact x13
  have r16 : gR S16 x 4 = some q9 := by rw [e16, gR_alon (kd_nq (nz kT2 (by decide)) h16)]; show R15 x 4 = _; rw [e15, upR_at]
  have k16 : kd S16 q16 = 2 := by rw [e16, kd_alo]
  have rv16 : kd S16 rv ≠ 0 := by
    have : kd S13 rv = 22 := tk13.2.2.2.2.2.1
    rw [e16, kd_alon (kd_nq (show kd (wA S13 (gI S13) (gJ S13) R15) rv ≠ 0 from nz this (by decide)) h16)]; exact nz this (by decide)
  refine ⟨x16, q9, r16, 10, 160, by omega, by omega, sp_init1 (rv := rv) k16 rv16 (by omega) (by omega) (fun S22 ra mv fr22 br22 dra dmv => ?_)⟩
  -- the book's reader
  obtain ⟨A22, x22⟩ := stg (T := wA S13 (gI S13) (gJ S13) R15) kT2 h16 e16 fr22
  refine ⟨x22, fun R24 e24 => ⟨by omega, by omega, fun q25 h25 S25 e25 => ?_⟩⟩
  obtain ⟨f23, g22⟩ := stg2 (x := x) (F' := gI S22) (R' := R24) A22 (fun _ _ => rfl) (fun a ha => by rw [e24, upR_ne ha])
  have kT3 : kd (wA S22 (gI S22) (gJ S22) R24) x = 11 := x22
  have nx25 : x ≠ q25 := kd_nq (nz kT3 (by decide)) h25
  have x25 : kd S25 x = 11 := by rw [e25, kd_alon nx25]; exact x22
  have r24 : R24 x 4 = some q9 := by rw [e24, upR_no (by decide), (A22 x (nz kT2 (by decide))).2.2.2.2]; show R15 x 4 = _; rw [e15, upR_at]
  have r25 : gR S25 x 4 = some q9 := by rw [e25, gR_alon nx25]; exact r24
  have k25 : kd S25 q25 = 9 := by rw [e25, kd_alo]
  refine ⟨x25, q9, r25, 6, 2186, by omega, by omega, sp_init9 k25 (by omega) (by omega) (fun S31 tb fr31 td31 dtb => ?_)⟩
  -- the touch's reader
  obtain ⟨A31, x31⟩ := stg (T := wA S22 (gI S22) (gJ S22) R24) kT3 h25 e25 fr31
  refine ⟨x31, fun R33 e33 => ⟨by omega, by omega, fun q34 h34 S34 e34 => ?_⟩⟩
  obtain ⟨f34, g31⟩ := stg2 (x := x) (F' := gI S31) (R' := R33) A31 (fun _ _ => rfl) (fun a ha => by rw [e33, upR_ne ha])
  have kT4 : kd (wA S31 (gI S31) (gJ S31) R33) x = 11 := x31
  -- the first book
  refine ⟨by omega, by omega, fun q38 h38 S38 e38 => ?_⟩
  obtain ⟨A34, x34⟩ := stg (T := wA S31 (gI S31) (gJ S31) R33) (Sz := S34) kT4 h34 e34 Fr.rf
  have b34 : kd S34 q34 = 1 := by rw [e34, kd_alo]
  obtain ⟨A38', x38⟩ := stg (T := S34) (Sz := S38) x34 h38 e38 Fr.rf
  have b38 : kd S38 q38 = 24 ∧ ln S38 q38 = 0 := by rw [e38]; exact ⟨kd_alo, ln_alo⟩
  have c34 : kd S38 q34 = 1 := (A38' q34 (nz b34 (by decide))).1.trans b34
  refine ⟨c34, fun F1' u1 => ?_⟩
  refine sp_many (n := 4) (by decide) (fun F3' u3 F4' u4 R5' u5 => ⟨x38, fun R43 e43 R44 e44 R45 e45 => ⟨by omega, by omega, fun q46 h46 S46 e46 => ?_⟩⟩)
  have q34x : q34 ≠ x := kd_ne c34 x38 (by decide)
  have q38x : q38 ≠ x := kd_ne b38.1 x38 (by decide)
  have d38 : kd (wA S31 (gI S31) (gJ S31) R33) q38 = 0 := by
    rcases Nat.eq_zero_or_pos (kd (wA S31 (gI S31) (gJ S31) R33) q38) with y | y
    · exact y
    · have := (A34 q38 (by omega)).1
      omega
  have A38 : ∀ e, kd (wA S31 (gI S31) (gJ S31) R33) e ≠ 0 → kd S38 e = kd (wA S31 (gI S31) (gJ S31) R33) e ∧ ln S38 e = ln (wA S31 (gI S31) (gJ S31) R33) e ∧ gI S38 e = gI (wA S31 (gI S31) (gJ S31) R33) e ∧ gJ S38 e = gJ (wA S31 (gI S31) (gJ S31) R33) e ∧ gR S38 e = gR (wA S31 (gI S31) (gJ S31) R33) e := fun e he => by
    obtain ⟨a1, a2, a3, a4, a5⟩ := A34 e he
    obtain ⟨y1, y2, y3, y4, y5⟩ := A38' e (by rw [a1]; exact he)
    exact ⟨y1.trans a1, y2.trans a2, y3.trans a3, y4.trans a4, y5.trans a5⟩
  have f45 : Fr (fun e => e = x) (wA S31 (gI S31) (gJ S31) R33) (wA S38 F4' (gJ S38) R45) := fun e he => by
    obtain ⟨a1, a2, a3, a4, a5⟩ := A38 e he
    have n34 : e ≠ q34 := kd_nq he h34
    refine ⟨a1, a2, fun hw => ⟨?_, a4, ?_⟩⟩
    · show F4' e = _
      rw [u4, up_ne n34, u3, up_ne n34, u1, up_ne n34]; exact a3
    · show R45 e = _
      rw [e45, upR_ne hw, e44, upR_ne hw, e43, upR_ne hw, u5, upR_ne n34]; exact a5
  have bk5 : F4' q34 0 = nI 4 ∧ F4' q34 1 = nI 24 ∧ F4' q34 2 = nI 15 ∧ R45 q34 3 = some q38 := by
    refine ⟨?_, ?_, ?_, ?_⟩
    · rw [u4, up_no (by decide), u3, up_no (by decide), u1, up_at]; rfl
    · rw [u4, up_no (by decide), u3, up_at]; rfl
    · rw [u4, up_at]; exact allBells_eq 4 (by decide)
    · rw [e45, upR_ne q34x, e44, upR_ne q34x, e43, upR_ne q34x, u5, upR_at]
  have rx5 : R45 x = fun j => if j = 9 then none else if j = 8 then none else if j = 7 then some q34 else R33 x j := by
    funext j
    rw [e45]
    by_cases c9 : j = 9
    · rw [c9, upR_at, if_pos rfl]
    · rw [upR_no c9, if_neg c9, e44]
      by_cases c8 : j = 8
      · rw [c8, upR_at, if_pos rfl]
      · rw [upR_no c8, if_neg c8, e43]
        by_cases c7 : j = 7
        · rw [c7, upR_at, if_pos rfl]
        · rw [upR_no c7, if_neg c7, u5, upR_ne (Ne.symm q34x), (A38 x (nz kT4 (by decide))).2.2.2.2]; rfl
  have ix5 : F4' x = gI S31 x := by rw [u4, up_ne (Ne.symm q34x), u3, up_ne (Ne.symm q34x), u1, up_ne (Ne.symm q34x)]; exact (A38 x (nz kT4 (by decide))).2.2.1
  have kT5 : kd (wA S38 F4' (gJ S38) R45) x = 11 := x38
  -- marks
  obtain ⟨A46, x46⟩ := stg (T := wA S38 F4' (gJ S38) R45) (Sz := S46) kT5 h46 e46 Fr.rf
  have b46 : kd S46 q46 = 23 ∧ ln S46 q46 = 3 := by rw [e46]; exact ⟨kd_alo, ln_alo⟩
  refine ⟨x46, fun R50 e50 => ⟨by omega, by omega, fun q51 h51 S51 e51 => ?_⟩⟩
  obtain ⟨f46, g46⟩ := stg2 (x := x) (F' := gI S46) (R' := R50) A46 (fun _ _ => rfl) (fun a ha => by rw [e50, upR_ne ha])
  have kT46 : kd (wA S46 (gI S46) (gJ S46) R50) x = 11 := x46
  obtain ⟨A51, x51⟩ := stg (T := wA S46 (gI S46) (gJ S46) R50) (Sz := S51) kT46 h51 e51 Fr.rf
  have b51 : kd S51 q51 = 25 ∧ ln S51 q51 = 3 := by rw [e51]; exact ⟨kd_alo, ln_alo⟩
  refine ⟨x51, fun R55 e55 => ⟨by omega, by omega, fun q56 h56 S56 e56 => ?_⟩⟩
  obtain ⟨f51, g51⟩ := stg2 (x := x) (F' := gI S51) (R' := R55) A51 (fun _ _ => rfl) (fun a ha => by rw [e55, upR_ne ha])
  have kT51 : kd (wA S51 (gI S51) (gJ S51) R55) x = 11 := x51
  obtain ⟨A56, x56⟩ := stg (T := wA S51 (gI S51) (gJ S51) R55) (Sz := S56) kT51 h56 e56 Fr.rf
  have b56 : kd S56 q56 = 25 ∧ ln S56 q56 = 3 := by rw [e56]; exact ⟨kd_alo, ln_alo⟩
  refine ⟨x56, fun R60 e60 F61 e61 => ⟨by omega, by omega, fun q62 h62 S62 e62 => ⟨1, 0, by omega, by omega, ?_⟩⟩⟩
  obtain ⟨f56, g56⟩ := stg2 (x := x) (F' := F61) (R' := R60) A56 (fun a ha => by rw [e61, up_ne ha]) (fun a ha => by rw [e60, upR_ne ha])
  have kT6 : kd (wA S56 F61 (gJ S56) R60) x = 11 := x56
  have k62 : kd S62 q62 = 6 := by rw [e62, kd_alo]
  -- stamps
  refine sp_init6 k62 (by omega) (fun S66 a fr66 sx66 da => ?_)
  obtain ⟨A66, x66⟩ := stg (T := wA S56 F61 (gJ S56) R60) kT6 h62 e62 fr66
  refine ⟨x66, fun R68 e68 => ⟨by omega, by omega, fun q69 h69 S69 e69 => ⟨5, 56, by omega, by omega, ?_⟩⟩⟩
  obtain ⟨f67, g66⟩ := stg2 (x := x) (F' := gI S66) (R' := R68) A66 (fun _ _ => rfl) (fun a ha => by rw [e68, upR_ne ha])
  have kT7 : kd (wA S66 (gI S66) (gJ S66) R68) x = 11 := x66
  have k69 : kd S69 q69 = 5 := by rw [e69, kd_alo]
  -- search
  refine sp_init5 k69 (by omega) (by omega) (fun S73 sa fr73 se73 s730 s738 dsa => ?_)
  obtain ⟨A73, x73⟩ := stg (T := wA S66 (gI S66) (gJ S66) R68) kT7 h69 e69 fr73
  refine ⟨x73, fun R75 e75 => ⟨by omega, by omega, fun q76 h76 S76 e76 => ⟨4, 32, by omega, by omega, ?_⟩⟩⟩
  obtain ⟨f78, g73⟩ := stg2 (x := x) (F' := gI S73) (R' := R75) A73 (fun _ _ => rfl) (fun a ha => by rw [e75, upR_ne ha])
  have kT8 : kd (wA S73 (gI S73) (gJ S73) R75) x = 11 := x73
  have k76 : kd S76 q76 = 3 := by rw [e76, kd_alo]
  -- compositions
  refine sp_init2 k76 (by omega) (by omega) (fun S80 ca fr80 co80 c804 dca => ?_)
  obtain ⟨A80, x80⟩ := stg (T := wA S73 (gI S73) (gJ S73) R75) kT8 h76 e76 fr80
  refine ⟨x80, fun R82 e82 => ?_⟩
  obtain ⟨f89, g80⟩ := stg2 (x := x) (F' := gI S80) (R' := R82) A80 (fun _ _ => rfl) (fun a ha => by rw [e82, upR_ne ha])
  have E8 := f89.kx kT8
  have E7 := (f78.kx kT7).tr E8
  have E6 := (f67.kx kT6).tr E7
  have E51 := (f56.kx kT51).tr E6
  have E46 := (f51.kx kT46).tr E51
  have E5 := (f46.kx kT5).tr E46
  have E4 := (f45.kx kT4).tr E5
  have E3 := (f34.kx kT3).tr E4
  have E2 := (f23.kx kT2).tr E3
  have E1 := (f12.kx kT1).tr E2
  -- the chamber's own cells
  have ax : ∀ {T Sz : St}, (∀ e, kd T e ≠ 0 → kd Sz e = kd T e ∧ ln Sz e = ln T e ∧ gI Sz e = gI T e ∧ gJ Sz e = gJ T e ∧ gR Sz e = gR T e) → kd T x = 11 → gI Sz x = gI T x ∧ gJ Sz x = gJ T x ∧ gR Sz x = gR T x := fun A h => (A x (nz h (by decide))).2.2
  have X4 := ax A4 kT0
  have X13 := ax A13 kT1
  have X22 := ax A22 kT2
  have X31 := ax A31 kT3
  have X38 := ax A38 kT4
  have X46 := ax A46 kT5
  have X51 := ax A51 kT46
  have X56 := ax A56 kT51
  have X66 := ax A66 kT6
  have X73 := ax A73 kT7
  have X80 := ax A80 kT8
  have rX : ∀ j, R82 x j = if j = 16 then some q76 else if j = 15 then some q69 else if j = 14 then some q62 else if j = 12 then some q56 else if j = 11 then some q51 else if j = 10 then some q46 else if j = 9 then none else if j = 8 then none else if j = 7 then some q34 else if j = 6 then some q25 else if j = 5 then some q16 else if j = 4 then some q9 else if j = 3 then some q4 else gR S x j := fun j => by
    rw [e82]
    by_cases c16 : j = 16
    · rw [c16, upR_at, if_pos rfl]
    rw [upR_no c16, if_neg c16, X80.2.2]
    show R75 x j = _
    rw [e75]
    by_cases c15 : j = 15
    · rw [c15, upR_at, if_pos rfl]
    rw [upR_no c15, if_neg c15, X73.2.2]
    show R68 x j = _
    rw [e68]
    by_cases c14 : j = 14
    · rw [c14, upR_at, if_pos rfl]
    rw [upR_no c14, if_neg c14, X66.2.2]
    show R60 x j = _
    rw [e60]
    by_cases c12 : j = 12
    · rw [c12, upR_at, if_pos rfl]
    rw [upR_no c12, if_neg c12, X56.2.2]
    show R55 x j = _
    rw [e55]
    by_cases c11 : j = 11
    · rw [c11, upR_at, if_pos rfl]
    rw [upR_no c11, if_neg c11, X51.2.2]
    show R50 x j = _
    rw [e50]
    by_cases c10 : j = 10
    · rw [c10, upR_at, if_pos rfl]
    rw [upR_no c10, if_neg c10, X46.2.2]
    show R45 x j = _
    rw [rx5]
    show (if j = 9 then none else if j = 8 then none else if j = 7 then some q34 else R33 x j) = _
    by_cases c9 : j = 9
    · rw [if_pos c9, if_pos c9]
    rw [if_neg c9, if_neg c9]
    by_cases c8 : j = 8
    · rw [if_pos c8, if_pos c8]
    rw [if_neg c8, if_neg c8]
    by_cases c7 : j = 7
    · rw [if_pos c7, if_pos c7]
    rw [if_neg c7, if_neg c7, e33]
    by_cases c6 : j = 6
    · rw [c6, upR_at, if_pos rfl]
    rw [upR_no c6, if_neg c6, X31.2.2]
    show R24 x j = _
    rw [e24]
    by_cases c5 : j = 5
    · rw [c5, upR_at, if_pos rfl]
    rw [upR_no c5, if_neg c5, X22.2.2]
    show R15 x j = _
    rw [e15]
    by_cases c4 : j = 4
    · rw [c4, upR_at, if_pos rfl]
    rw [upR_no c4, if_neg c4, X13.2.2]
    show R8 x j = _
    rw [e8]
    by_cases c3 : j = 3
    · rw [c3, upR_at, if_pos rfl]
    rw [upR_no c3, if_neg c3, X4.2.2]; rfl
  have iX : gI S80 x = F61 x := X80.1.trans (X73.1.trans X66.1)
  have iY : gI S56 x = F1 x := X56.1.trans (X51.1.trans (X46.1.trans (ix5.trans (X31.1.trans (X22.1.trans (X13.1.trans X4.1))))))
  have jX : gJ S80 x = J3 x := X80.2.1.trans (X73.2.1.trans (X66.2.1.trans (X56.2.1.trans (X51.2.1.trans (X46.2.1.trans (X38.2.1.trans (X31.2.1.trans (X22.2.1.trans (X13.2.1.trans X4.2.1)))))))))
  -- labels
  let T1' : St := wA S4 (gI S4) (gJ S4) R8
  let T2 : St := wA S13 (gI S13) (gJ S13) R15
  let T3 : St := wA S22 (gI S22) (gJ S22) R24
  let T4 : St := wA S31 (gI S31) (gJ S31) R33
  let T5 : St := wA S38 F4' (gJ S38) R45
  let T46 : St := wA S46 (gI S46) (gJ S46) R50
  let T51 : St := wA S51 (gI S51) (gJ S51) R55
  let T6 : St := wA S56 F61 (gJ S56) R60
  let T7 : St := wA S66 (gI S66) (gJ S66) R68
  let T8 : St := wA S73 (gI S73) (gJ S73) R75
  have up : ∀ {A B : St}, Fr (fun e => e = x) A B → ∀ e, kd A e ≠ 0 → kd B e ≠ 0 := fun f e he => by rw [(f e he).1]; exact he
  let w1 := nl S 3 (fun _ => 1)
  let w2 := nl T1' 4 w1
  let w3 := nl T2 5 w2
  let w4 := nl T3 6 w3
  let w5 := nl T4 11 w4
  let w6 := nl T5 7 w5
  let w7 := nl T6 8 w6
  let w8 := nl T7 9 w7
  let ow := nl T8 10 w8
  have c8 : ∀ e, kd T8 e ≠ 0 → ow e = w8 e := fun e he => nl_o he
  have c7 : ∀ e, kd T7 e ≠ 0 → ow e = w7 e := fun e he => (c8 e (up f78 e he)).trans (nl_o he)
  have c6 : ∀ e, kd T6 e ≠ 0 → ow e = w6 e := fun e he => (c7 e (up f67 e he)).trans (nl_o he)
  have c51 : ∀ e, kd T51 e ≠ 0 → kd T6 e ≠ 0 := up f56
  have c46 : ∀ e, kd T46 e ≠ 0 → kd T6 e ≠ 0 := fun e he => c51 e (up f51 e he)
  have c5 : ∀ e, kd T5 e ≠ 0 → ow e = w5 e := fun e he => (c6 e (c46 e (up f46 e he))).trans (nl_o he)
  have c4 : ∀ e, kd T4 e ≠ 0 → ow e = w4 e := fun e he => (c5 e (up f45 e he)).trans (nl_o he)
  have c3 : ∀ e, kd T3 e ≠ 0 → ow e = w3 e := fun e he => (c4 e (up f34 e he)).trans (nl_o he)
  have c2 : ∀ e, kd T2 e ≠ 0 → ow e = w2 e := fun e he => (c3 e (up f23 e he)).trans (nl_o he)
  have c1 : ∀ e, kd T1' e ≠ 0 → ow e = w1 e := fun e he => (c2 e (up f12 e he)).trans (nl_o he)
  have c0 : ∀ e, kd S e ≠ 0 → ow e = 1 := fun e he => (c1 e (up f01 e he)).trans (nl_o he)
  have L3 : ∀ e, kd S e = 0 → kd T1' e ≠ 0 → ow e = 3 := fun e h1 h2 => (c1 e h2).trans (nl_n h1)
  have L4 : ∀ e, kd T1' e = 0 → kd T2 e ≠ 0 → ow e = 4 := fun e h1 h2 => (c2 e h2).trans (nl_n h1)
  have L5 : ∀ e, kd T2 e = 0 → kd T3 e ≠ 0 → ow e = 5 := fun e h1 h2 => (c3 e h2).trans (nl_n h1)
  have L6 : ∀ e, kd T3 e = 0 → kd T4 e ≠ 0 → ow e = 6 := fun e h1 h2 => (c4 e h2).trans (nl_n h1)
  have L11 : ∀ e, kd T4 e = 0 → kd T5 e ≠ 0 → ow e = 11 := fun e h1 h2 => (c5 e h2).trans (nl_n h1)
  have L7 : ∀ e, kd T5 e = 0 → kd T6 e ≠ 0 → ow e = 7 := fun e h1 h2 => (c6 e h2).trans (nl_n h1)
  have L8 : ∀ e, kd T6 e = 0 → kd T7 e ≠ 0 → ow e = 8 := fun e h1 h2 => (c7 e h2).trans (nl_n h1)
  have L9 : ∀ e, kd T7 e = 0 → kd T8 e ≠ 0 → ow e = 9 := fun e h1 h2 => (c8 e h2).trans (nl_n h1)
  have L10 : ∀ e, kd T8 e = 0 → ow e = 10 := fun e h1 => nl_n h1
  have K4 := (g4.kx x4).tr E1
  have K13 := (g13.kx x13).tr E2
  have K22 := (g22.kx x22).tr E3
  have K31 := (g31.kx x31).tr E4
  have K46 := (g46.kx x46).tr E46
  have K51 := (g51.kx x51).tr E51
  have K56 := (g56.kx x56).tr E6
  have K66 := (g66.kx x66).tr E7
  have K73 := (g73.kx x73).tr E8
  have K80 := g80.kx x80
  have t4 := K4.g b4.1 (by decide) (by decide)
  have tkk := K13.g tk13.1 (by decide) (by decide)
  have bb := E5.g (show kd T5 q34 = 1 from c34) (by decide) (by decide)
  have bba := E5.g (show kd T5 q38 = 24 from b38.1) (by decide) (by decide)
  have m46 := K46.g b46.1 (by decide) (by decide)
  have m51 := K51.g b51.1 (by decide) (by decide)
  have m56 := K56.g b56.1 (by decide) (by decide)
  have see := K73.g se73.1 (by decide) (by decide)
  have coo := K80.g co80.1 (by decide) (by decide)
  have d46 : kd T5 q46 = 0 := h46
  have d51 : kd T5 q51 = 0 := f46.dead (show kd T46 q51 = 0 from h51)
  have d56 : kd T5 q56 = 0 := f46.dead (f51.dead (show kd T51 q56 = 0 from h56))
  have al46 : kd T6 q46 ≠ 0 := c46 q46 (show kd S46 q46 ≠ 0 from nz b46.1 (by decide))
  have al51 : kd T6 q51 ≠ 0 := c51 q51 (show kd S51 q51 ≠ 0 from nz b51.1 (by decide))
  have al56 : kd T6 q56 ≠ 0 := show kd S56 q56 ≠ 0 from nz b56.1 (by decide)
  have n5156 : q51 ≠ q56 := kd_nq (show kd T51 q51 ≠ 0 from nz b51.1 (by decide)) h56
  have ra5 : ∀ i, 6 ≤ i → i ≤ 11 → kd S22 (ra i) ≠ 0 := fun i i1 i2 => by
    obtain ⟨-, -, ⟨-, y6, -⟩, ⟨-, y7, -⟩, ⟨-, y8, -⟩, ⟨-, y9, -⟩, ⟨-, y10, -⟩, ⟨-, y11, -⟩, -⟩ := br22
    rcases (show i = 6 ∨ i = 7 ∨ i = 8 ∨ i = 9 ∨ i = 10 ∨ i = 11 by omega) with rfl | rfl | rfl | rfl | rfl | rfl
    · exact nz y6 (by decide)
    · exact nz y7 (by decide)
    · exact nz y8 (by decide)
    · exact nz y9 (by decide)
    · exact nz y10 (by decide)
    · exact nz y11 (by decide)
  have tb6 : ∀ i, 4 ≤ i → i ≤ 9 → kd S31 (tb i) ≠ 0 := fun i i1 i2 => by
    obtain ⟨-, -, ⟨-, y4, -⟩, ⟨-, y5, -⟩, ⟨-, y6, -⟩, ⟨-, y7, -⟩, ⟨-, y8, -⟩, ⟨-, y9, -⟩, -⟩ := td31
    rcases (show i = 4 ∨ i = 5 ∨ i = 6 ∨ i = 7 ∨ i = 8 ∨ i = 9 by omega) with rfl | rfl | rfl | rfl | rfl | rfl
    · exact nz y4 (by decide)
    · exact nz y5 (by decide)
    · exact nz y6 (by decide)
    · exact nz y7 (by decide)
    · exact nz y8 (by decide)
    · exact nz y9 (by decide)
  refine hq _ (fun i => if i = 2 then q9 else if i = 3 then tt else if i = 4 then rv else if i = 5 then q16 else if i = 6 then q25 else if i = 7 then q46 else if i = 8 then q51 else if i = 9 then q56 else if i = 10 then q62 else if i = 11 then q69 else if i = 12 then q76 else q4) ra mv tb ca sa a q34 q38 ow ⟨⟨x80, c0 x kx0⟩, ⟨?_, ?_, ?_, ?_⟩, ⟨rX 3, rX 4, rX 5, rX 6, rX 7, rX 8, rX 9, rX 10, rX 11, rX 12, rX 14, rX 15, rX 16⟩, ⟨t4.1, t4.2.1.trans b4.2.1, fun i => ?_, L3 _ h4 (show kd S4 q4 ≠ 0 from nz b4.1 (by decide))⟩, ⟨tk13.kx K13, ?_, ?_, ?_, L4 _ h9 (show kd S13 q9 ≠ 0 from nz tk13.1 (by decide)), L4 _ (al_dd e9 h9 dtt) (show kd S13 tt ≠ 0 from nz tk13.2.2.1 (by decide)), L4 _ (al_dd e9 h9 drv) (show kd S13 rv ≠ 0 from nz tk13.2.2.2.2.2.1 (by decide))⟩, ⟨br22.kx K22, L5 _ h16 (show kd S22 q16 ≠ 0 from nz br22.1 (by decide)), fun i i1 i2 => L5 _ (al_dd e16 h16 (dra i i1 i2)) (ra5 i i1 i2), fun i hi => L5 _ (al_dd e16 h16 (dmv i hi)) (show kd S22 (mv i) ≠ 0 from nz (br22.2.2.2.2.2.2.2.2.1 i hi).2.1 (by decide))⟩, ⟨td31.kx K31, L6 _ h25 (show kd S31 q25 ≠ 0 from nz td31.1 (by decide)), fun i i1 i2 => L6 _ (al_dd e25 h25 (dtb i i1 i2)) (tb6 i i1 i2)⟩, ⟨bb.1, ?_, ?_, ?_, ?_, bba.1, bba.2.1.trans b38.2, L11 _ h34 (show kd S38 q34 ≠ 0 from nz c34 (by decide)), L11 _ d38 (show kd S38 q38 ≠ 0 from nz b38.1 (by decide))⟩, ⟨m46.1, m51.1, m56.1, m46.2.1.trans b46.2, m51.2.1.trans b51.2, m56.2.1.trans b56.2, n5156, L7 _ d46 al46, L7 _ d51 al51, L7 _ d56 al56⟩, ⟨sx66.kx K66, L8 _ h62 (show kd S66 q62 ≠ 0 from nz sx66.1 (by decide)), L8 _ (al_dd e62 h62 da) (show kd S66 a ≠ 0 from nz sx66.2.2.1 (by decide))⟩, ⟨se73.kx K73, ?_, ?_, L9 _ h69 (show kd S73 q69 ≠ 0 from nz se73.1 (by decide)), fun f hf => L9 _ (al_dd e69 h69 (dsa f hf)) (show kd S73 (sa f) ≠ 0 from nz (se73.2.1 f hf).2 (by decide))⟩, ⟨co80.kx K80, ?_, L10 _ h76, fun f hf => L10 _ (al_dd e76 h76 (dca f hf))⟩⟩
  · show gI S80 x 0 = _
    rw [iX, e61, up_no (by decide), iY, e1, up_at]
  · show gI S80 x 13 = _
    rw [iX, e61, up_at]
  · show gJ S80 x 1 = _
    rw [jX, e3, upJ_no (by decide), e2, upJ_at]
  · show gJ S80 x 2 = _
    rw [jX, e3, upJ_at]
  · show gR _ q4 i = _
    rw [t4.2.2.2.2, b4.2.2]
  · show gI _ q9 1 = _
    rw [tkk.2.2.1]; exact t1
  · show gI _ q9 9 = _
    rw [tkk.2.2.1]; exact t9
  · show gI _ q9 10 = _
    rw [tkk.2.2.1]; exact t10
  · rw [bb.2.2.1]; exact bk5.1
  · rw [bb.2.2.1]; exact bk5.2.1
  · rw [bb.2.2.1]; exact bk5.2.2.1
  · rw [bb.2.2.2.2]; exact bk5.2.2.2
  · show gR _ q69 0 = _
    rw [see.2.2.2.2]; exact s730
  · show gI _ q69 8 = _
    rw [see.2.2.1]; exact s738
  · show gI _ q76 4 = _
    rw [coo.2.2.1]; exact c804
