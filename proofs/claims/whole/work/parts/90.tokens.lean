/-! The class's tokens. -/
section CK
variable {S : St} {k tt rv : Nat} {tx : Nat → Nat} {L : Nat}
theorem dif_nI {a b : Nat} (h : b ≤ a) : nI a - nI b = nI (a - b) := by
  rw [show nI a = nI (a - b + b) by rw [Nat.sub_add_cancel h], ← nI_add]; exact Int32.add_sub_cancel _ _
theorem sp_readWord {s : Nat} {Q : FI → (Nat → Nat → Int64) → Prop} (hX : TxC S (gI S) (gJ S) k tt rv tx L) (h4 : gI S k 4 = nI s) (h5 : gI S k 5 = nI s) (hs : s < L) (hD : isL (tx s) = true)
    (hq : ∀ F J, NxF k (gI S) F → NxJ k (gJ S) J → F k 4 = nI s → F k 5 = nI (en tx L s) → F k 6 = nI (if en tx L s - s ≤ 8 then kwk (lw tx s (en tx L s - s)) else 5) → J k 8 = n27 (lw tx s (en tx L s - s)) → Q F J) : P_X7_readWord k S Q := by
  have hX' := hX
  obtain ⟨k7, r0, k20, l9, L9, f3, hb, r2, kr, lr, hres⟩ := hX'
  have een : en tx L s = rnn tx L isL s := by unfold en; rw [if_pos hs, if_pos hD]
  have nf0 : NxF k (gI S) (gI S) := ⟨fun _ _ => rfl, fun _ _ _ _ _ => rfl⟩
  refine ⟨k7, fun J1 e1 => ⟨fun n F J => ∃ e, s ≤ e ∧ e ≤ L ∧ n = L - e ∧ (∀ j, s ≤ j → j < e → j < L ∧ isL (tx j) = true) ∧ NxF k (gI S) F ∧ NxJ k (gJ S) J ∧ F k 4 = nI s ∧ F k 5 = nI e ∧ J k 8 = n27 (lw tx s (e - s)), ⟨L - s, s, Nat.le_refl _, by omega, rfl, fun j y1 y2 => by omega, nf0, ⟨fun a ha => by rw [e1, upJ_ne ha], fun j hj => by rw [e1, upJ_no hj]⟩, h4, h5, by rw [e1, upJ_at, Nat.sub_self]; rfl⟩, ?_⟩⟩
  rintro n F J ⟨e, he, heL, rfl, hall, nf, nj, g4, g5, g8⟩
  have f3' : F k 3 = nI L := by rw [nf.2 3 (by decide) (by decide) (by decide) (by decide)]; exact f3
  have hX2 : TxC S F J k tt rv tx L := hX.cg (nf.2 3 (by decide) (by decide) (by decide) (by decide)) (nf.1 _ hX.kt.1) (nj.1 _ hX.kt.2)
  rw [f3', g5]
  refine ⟨¬ (e < L ∧ isL (tx e) = true), fun hend => ?_, fun hc => ?_, fun hc => ?_⟩
  · have ee : en tx L s = e := een.trans (rnn_eq he hall hend)
    rw [ee] at hq
    have wl : wok (lw tx s (e - s)) := lw_ok (fun j y1 y2 => (hall j y1 (by omega)).2)
    obtain ⟨l, hl⟩ : ∃ l, l = lw tx s (e - s) := ⟨_, rfl⟩
    have ll : l.length = e - s := by rw [hl]; exact lw_len _ _ _
    rw [← hl] at wl hq g8
    rw [g4, dif_nI he]
    refine ⟨fun t => t = if e - s ≤ 8 then 4 else 5, fun t ht F10 e10 => ⟨fun n x F => ∃ i, i ≤ 12 ∧ n = 12 - i ∧ x = nI i ∧ NxF k (gI S) F ∧ F k 4 = nI s ∧ F k 5 = nI e ∧ ((¬ e - s ≤ 8 ∧ F k 6 = 5) ∨ (e - s ≤ 8 ∧ ((F k 6 = 4 ∧ ∀ j, j < i → l ≠ kcw j) ∨ ∃ j, j < 12 ∧ l = kcw j ∧ F k 6 = nI (6 + j)))), ⟨12, 0, by omega, rfl, rfl, by rw [e10]; exact nf.up (by decide), by rw [e10, up_no (by decide)]; exact g4, by rw [e10, up_no (by decide)]; exact g5, ?_⟩, ?_⟩, fun c => ?_, fun c => ?_⟩
    · rw [e10, up_at, ht]
      by_cases c : e - s ≤ 8
      · rw [if_pos c]; exact Or.inr ⟨c, Or.inl ⟨rfl, fun j hj => by omega⟩⟩
      · rw [if_neg c]; exact Or.inl ⟨c, rfl⟩
    · rintro n x F13 ⟨i, hi, rfl, rfl, nf3, g43, g53, hst⟩
      refine ⟨rv, r2, kr, ?_⟩
      rw [lr]
      refine ⟨fun hc => hq F13 J nf3 nj g43 g53 ?_ g8, fun hc => ⟨fun hn4 => hq F13 J nf3 nj g43 g53 ?_ g8, fun h64 => ⟨vp_in_nI (nI_gtI (by decide) (by omega) hc) (by decide), ?_⟩⟩⟩
      · have : i = 12 := by
          have : 12 ≤ i := (nI_leI (a := 12) (by decide) (by omega)).mp hc
          omega
        subst this
        rcases hst with ⟨c, h⟩ | ⟨c, ⟨h, hno⟩ | ⟨j, j1, j2, j3⟩⟩
        · rw [if_neg c]; exact h
        · rw [if_pos c, show kwk l = 4 from kwr_n l 12 hno]; exact h
        · rw [if_pos c, j2, kwk_y j j1]; exact j3
      · rcases hst with ⟨c, h⟩ | ⟨c, ⟨h, hno⟩ | ⟨j, j1, j2, j3⟩⟩
        · rw [if_neg c]; exact h
        · exact absurd h hn4
        · rw [if_pos c, j2, kwk_y j j1]; exact j3
      · have hlt : i < 12 := nI_gtI (n := 12) (by decide) (by omega) hc
        obtain ⟨c8, hno⟩ : e - s ≤ 8 ∧ ∀ j, j < i → l ≠ kcw j := by
          rcases hst with ⟨c, h⟩ | ⟨c, ⟨h, hno⟩ | ⟨j, j1, j2, j3⟩⟩
          · rw [h64] at h; exact absurd h (by decide)
          · exact ⟨c, hno⟩
          · rw [h64] at j3
            have := (nI_eq (a := 4) (by decide) (show 6 + j < 2 ^ 31 by omega)).mp j3
            omega
        rw [nI_clamp (by omega), lg_cmp_eq, nj.1 _ hX.kt.2, hres i hlt, g8, n27_inj (fun c hc => (kcw_ok i hlt).2 c hc) wl (kcw_ok i hlt).1 (by omega)]
        refine ⟨fun hne v ev => ⟨12 - (i + 1), by omega, i + 1, by omega, rfl, by rw [ev]; exact nI_1 i, nf3, g43, g53, Or.inr ⟨c8, Or.inl ⟨h64, fun j hj => ?_⟩⟩⟩, fun he' v21 e21 F22 e22 v ev => ⟨12 - (i + 1), by omega, i + 1, by omega, rfl, by rw [ev]; exact nI_1 i, by rw [e22]; exact nf3.up (by decide), by rw [e22, up_no (by decide)]; exact g43, by rw [e22, up_no (by decide)]; exact g53, Or.inr ⟨c8, Or.inr ⟨i, hlt, he'.symm, ?_⟩⟩⟩⟩
        · by_cases cj : j = i
          · subst cj; exact fun z => hne z.symm
          · exact hno j (by omega)
        · rw [e22, up_at, e21]
          show nI 6 + nI i = _
          rw [nI_add]
    · rw [if_pos ((nI_leI (b := 8) (by omega) (by decide)).mp c)]
    · rw [if_neg (fun z => c (nI_le (b := 8) z (by decide)))]
  · have : L ≤ e := (nI_leI (by omega) (by omega)).mp hc
    exact fun y => by omega
  · have hlt := nI_gtI (by omega) (by omega) hc
    refine sp_isLetter (S := wA S F J (gR S)) (J := J) hX2 hlt (fun hd => ⟨fun y => absurd y one0, fun _ => ⟨tt, r0, k20, by rw [l9]; exact vp_in_nI (by omega) (by decide), fun v29 e29 J30 e30 v31 e31 F32 e32 => ?_⟩⟩) (fun hd => ⟨fun _ y => by rw [hd] at y; exact absurd y.2 (by decide), fun y => absurd rfl y⟩)
    obtain ⟨cb, ce⟩ := hb e hlt
    have dd := isL_iff.mp hd
    have v29e : v29 = n27 (lw tx s (e + 1 - s)) := by
      rw [e29, g8, nI_clamp (by omega), nf.1 _ hX.kt.1, ce, sb_lo _ (by omega), show (97 : Int32) = nI 97 from rfl, dif_nI dd.1, nI_1, nI_l (by omega), show e + 1 - s = e - s + 1 by omega, lw_s, n27_s, show s + (e - s) = e by omega, show tx e - 97 + 1 = tx e - 96 by omega]
    rw [nI_1] at e31
    refine ⟨L - (e + 1), by omega, e + 1, by omega, by omega, rfl, fun j y1 y2 => ?_, by rw [e32]; exact nf.up (by decide), ⟨fun a ha => by rw [e30, upJ_ne ha]; exact nj.1 a ha, fun j hj => by rw [e30, upJ_no hj]; exact nj.2 j hj⟩, by rw [e32, up_no (by decide)]; exact g4, by rw [e32, up_at, e31], by rw [e30, upJ_at]; exact v29e⟩
    by_cases cj : j = e
    · subst cj; exact ⟨hlt, hd⟩
    · exact hall j y1 (by omega)
theorem sp_next {p : Nat} {Q : FI → (Nat → Nat → Int64) → Prop} (hX : TxC S (gI S) (gJ S) k tt rv tx L) (h5 : gI S k 5 = nI p) (hp : p ≤ L)
    (hq : ∀ F J, NxF k (gI S) F → NxJ k (gJ S) J → TkC F J k tx L p → Q F J) : P_X7_next k S Q := by
  have hX' := hX
  obtain ⟨k7, r0, k20, l9, L9, f3, hb, r2, kr, lr, hres⟩ := hX'
  have nf0 : NxF k (gI S) (gI S) := ⟨fun _ _ => rfl, fun _ _ _ _ _ => rfl⟩
  have nj0 : NxJ k (gJ S) (gJ S) := ⟨fun _ _ => rfl, fun _ _ => rfl⟩
  refine ⟨k7, fun v1 e1 F2 e2 => ⟨fun n F => ∃ s, p ≤ s ∧ s ≤ L ∧ n = L - s ∧ (∀ j, p ≤ j → j < s → j < L ∧ isS (tx j) = true) ∧ NxF k (gI S) F ∧ F k 4 = nI s, ⟨L - p, p, Nat.le_refl _, hp, rfl, fun j y1 y2 => by omega, by rw [e2]; exact nf0.up (by decide), by rw [e2, up_at, e1]; exact h5⟩, ?_⟩⟩
  rintro n F ⟨s, hs, hsL, rfl, hall, nf, g4⟩
  have f3' : F k 3 = nI L := by rw [nf.2 3 (by decide) (by decide) (by decide) (by decide)]; exact f3
  rw [f3', g4]
  refine ⟨¬ (s < L ∧ isS (tx s) = true), fun hend v7 e7 F8 e8 => ?_, fun hc => ?_, fun hc => ?_⟩
  · have es : sk tx L p = s := rnn_eq hs hall hend
    have en' : nx tx L p = en tx L s := by unfold nx; rw [es]
    subst e7
    have nf8 : NxF k (gI S) F8 := by rw [e8]; exact nf.up (by decide)
    have g48 : F8 k 4 = nI s := by rw [e8, up_no (by decide)]; exact g4
    have g38 : F8 k 3 = nI L := by rw [e8, up_no (by decide)]; exact f3'
    have g58 : F8 k 5 = nI s := by rw [e8, up_at]
    have hX8 : TxC S F8 (gJ S) k tt rv tx L := hX.cg (nf8.2 3 (by decide) (by decide) (by decide) (by decide)) (nf8.1 _ hX.kt.1) rfl
    rw [g48, g38]
    refine ⟨fun hlt0 => ?_, fun hge F25 e25 => ?_⟩
    · have hlt : s < L := by
        rcases Nat.lt_or_ge s L with z | z
        · exact z
        · exact absurd hlt0 (nI_nlt z (by omega))
      refine sp_isLetter (S := wI S F8) (J := gJ S) hX8 hlt (fun hL => ⟨fun y => absurd y one0, fun _ => ?_⟩) (fun hL => ⟨fun _ => ?_, fun y => absurd rfl y⟩)
      · refine sp_readWord (S := wI S F8) hX8 g48 g58 hlt hL (fun F J nf9 nj9 q4 q5 q6 q8 => hq F J ⟨fun a ha => (nf9.1 a ha).trans (nf8.1 a ha), fun j y4 y5 y6 y7 => (nf9.2 j y4 y5 y6 y7).trans (nf8.2 j y4 y5 y6 y7)⟩ nj9 ⟨by rw [es]; exact q4, by rw [en']; exact q5, ?_, fun e3 => ?_, fun _ => ?_⟩)
        · rw [q6]; unfold tk wd
          rw [es, en', if_pos hlt, if_pos hL]
        · exfalso
          unfold tk wd at e3
          rw [es, en', if_pos hlt, if_pos hL] at e3
          by_cases c : en tx L s - s ≤ 8
          · rw [if_pos c] at e3
            rcases kwr_c (lw tx s (en tx L s - s)) 12 with ⟨y, -⟩ | ⟨i, -, -, y⟩ <;> (unfold kwk at e3; omega)
          · rw [if_neg c] at e3; omega
        · unfold wd; rw [es, en']; exact q8
      · have wdn : ∀ (v : Nat), tk tx L p = v → v ≠ 4 → (tk tx L p = 4 → gJ S k 8 = n27 (wd tx L p)) := fun v h1 h2 h3 => by omega
        refine sp_isDigit (S := wI S F8) (J := gJ S) hX8 hlt (fun hD => ⟨fun y => absurd y one0, fun _ => ?_⟩) (fun hD => ⟨fun _ => ⟨tt, r0, k20, by rw [l9]; exact vp_in_nI (by omega) (by decide), ?_⟩, fun y => absurd rfl y⟩)
        · have tke : tk tx L p = if en tx L s - s ≤ 8 then 3 else 0 := by
            unfold tk; rw [es, en', if_pos hlt, hL, if_neg (by decide), if_pos hD]
          refine sp_readNumber (S := wI S F8) (J := gJ S) hX8 g48 g58 hlt hD (fun F nf9 q4 q5 q6 q7 => hq F (gJ S) ⟨fun a ha => (nf9.1 a ha).trans (nf8.1 a ha), fun j y4 y5 y6 y7 => (nf9.2 j y4 y5 y6 y7).trans (nf8.2 j y4 y5 y6 y7)⟩ nj0 ⟨by rw [es]; exact q4, by rw [en']; exact q5, ?_, fun _ => ?_, fun e4 => ?_⟩)
          · rw [q6, tke]
            by_cases c : en tx L s - s ≤ 8
            · rw [if_pos c, if_pos c]; rfl
            · rw [if_neg c, if_neg c]; rfl
          · unfold vl'; rw [es, en']; exact q7
          · rw [tke] at e4
            by_cases c : en tx L s - s ≤ 8
            · rw [if_pos c] at e4; omega
            · rw [if_neg c] at e4; omega
        · obtain ⟨cb, ce⟩ := hb s hlt
          have een : en tx L s = s + 1 := by unfold en; rw [if_pos hlt, hL, hD, if_neg (by decide), if_neg (by decide)]
          have tke : tk tx L p = if tx s = 59 then 2 else 0 := by
            unfold tk; rw [es, if_pos hlt, hL, hD, if_neg (by decide), if_neg (by decide)]
          rw [nI_clamp (by omega), nf8.1 _ hX.kt.1, ce]
          have go : ∀ t : Int32, t = (if tx s = 59 then 2 else 0) → ∀ F20, F20 = upI F8 k 6 t → ∀ v21, v21 = F20 k 5 + 1 → ∀ F22, F22 = upI F20 k 5 v21 → Q F22 (gJ S) := fun t ht F20 e20 v21 e21 F22 e22 => by
            have v21e : v21 = nI (s + 1) := by rw [e21, e20, up_no (by decide), g58, nI_1]
            refine hq F22 (gJ S) (by rw [e22, e20]; exact (nf8.up (by decide)).up (by decide)) nj0 ⟨by rw [e22, up_no (by decide), e20, up_no (by decide), es]; exact g48, by rw [e22, up_at, v21e, en', een], ?_, fun e3 => ?_, fun e4 => ?_⟩
            · rw [e22, up_no (by decide), e20, up_at, ht, tke]
              by_cases c : tx s = 59
              · rw [if_pos c, if_pos c]; rfl
              · rw [if_neg c, if_neg c]; rfl
            · rw [tke] at e3
              by_cases c : tx s = 59
              · rw [if_pos c] at e3; omega
              · rw [if_neg c] at e3; omega
            · rw [tke] at e4
              by_cases c : tx s = 59
              · rw [if_pos c] at e4; omega
              · rw [if_neg c] at e4; omega
          refine ⟨fun t => t = if tx s = 59 then 2 else 0, go, fun c => ?_, fun c => ?_⟩
          · rw [if_neg (fun z => c ((sb_eq (v := 59) cb (by decide)).mpr z))]
          · rw [if_pos ((sb_eq (v := 59) cb (by decide)).mp c)]
    · have hle : L ≤ s := by
        rcases Nat.lt_or_ge s L with z | z
        · exact absurd (nI_lt z (by omega)) hge
        · exact z
      have tke : tk tx L p = 1 := by unfold tk; rw [es, if_neg (by omega)]
      refine hq F25 (gJ S) (by rw [e25]; exact nf8.up (by decide)) nj0 ⟨by rw [e25, up_no (by decide), es]; exact g48, by rw [e25, up_no (by decide), en', show en tx L s = s by unfold en; rw [if_neg (by omega)]]; exact g58, by rw [e25, up_at, tke]; rfl, fun e3 => by omega, fun e4 => by omega⟩
  · have : L ≤ s := (nI_leI (by omega) (by omega)).mp hc
    exact fun y => by omega
  · have hlt := nI_gtI (by omega) (by omega) hc
    obtain ⟨cb, ce⟩ := hb s hlt
    refine ⟨tt, r0, k20, by rw [l9]; exact vp_in_nI (by omega) (by decide), ?_⟩
    rw [nI_clamp (by omega), nf.1 _ hX.kt.1, ce, show (32 : Int32) = nI 32 from rfl, show (10 : Int32) = nI 10 from rfl, sb_eq cb (by decide), sb_eq cb (by decide)]
    refine ⟨isS (tx s) = true, fun hsp v31 e31 F32 e32 => ⟨L - (s + 1), by omega, s + 1, by omega, by omega, rfl, fun j y1 y2 => ?_, by rw [e32]; exact nf.up (by decide), by rw [e32, up_at, e31]; exact nI_1 s⟩, fun c => isS_iff.mpr (Or.inl c), fun c1 => ⟨fun c2 y => ?_, fun c2 => isS_iff.mpr (Or.inr c2)⟩⟩
    · by_cases cj : j = s
      · subst cj; exact ⟨hlt, hsp⟩
      · exact hall j y1 (by omega)
    · rcases isS_iff.mp y.2 with z | z
      · exact c1 z
      · exact c2 z
theorem nx_le {p : Nat} (hp : p ≤ L) : p ≤ sk tx L p ∧ sk tx L p ≤ nx tx L p ∧ nx tx L p ≤ L ∧ (tk tx L p ≠ 1 → p < nx tx L p) ∧ (L ≤ p → tk tx L p = 1) := by
  obtain ⟨a1, a2, a3, a4⟩ := rnn_sp (tx := tx) (L := L) isS p
  have sl : sk tx L p ≤ L := a4 hp
  have e1 : p ≤ sk tx L p := a1
  have e2 : sk tx L p ≤ en tx L (sk tx L p) ∧ en tx L (sk tx L p) ≤ L ∧ (sk tx L p < L → sk tx L p < en tx L (sk tx L p)) := by
    unfold en
    by_cases c : sk tx L p < L
    · rw [if_pos c]
      by_cases c1 : isL (tx (sk tx L p)) = true
      · rw [if_pos c1]
        obtain ⟨b1, b2, b3, b4⟩ := rnn_sp (tx := tx) (L := L) isL (sk tx L p)
        refine ⟨b1, b4 sl, fun _ => ?_⟩
        rcases Nat.lt_or_ge (sk tx L p) (rnn tx L isL (sk tx L p)) with z | z
        · exact z
        · have : rnn tx L isL (sk tx L p) = sk tx L p := by omega
          rw [this] at b3
          exact absurd ⟨c, c1⟩ b3
      · rw [if_neg c1]
        by_cases c2 : isD (tx (sk tx L p)) = true
        · rw [if_pos c2]
          obtain ⟨b1, b2, b3, b4⟩ := rnn_sp (tx := tx) (L := L) isD (sk tx L p)
          refine ⟨b1, b4 sl, fun _ => ?_⟩
          rcases Nat.lt_or_ge (sk tx L p) (rnn tx L isD (sk tx L p)) with z | z
          · exact z
          · have : rnn tx L isD (sk tx L p) = sk tx L p := by omega
            rw [this] at b3
            exact absurd ⟨c, c2⟩ b3
        · rw [if_neg c2]; exact ⟨by omega, by omega, fun _ => by omega⟩
    · rw [if_neg c]; exact ⟨by omega, sl, fun z => absurd z c⟩
  refine ⟨e1, e2.1, e2.2.1, fun h1 => ?_, fun h1 => ?_⟩
  · have : sk tx L p < L := by
      rcases Nat.lt_or_ge (sk tx L p) L with z | z
      · exact z
      · exfalso; apply h1; unfold tk; rw [if_neg (by omega)]
    have := e2.2.2 this
    show p < en tx L (sk tx L p)
    omega
  · unfold tk; rw [if_neg (by omega)]
end CK
