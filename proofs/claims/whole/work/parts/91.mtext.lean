/-! The reference's text and tokens. -/
def TxM (F : FI) (m : Nat) (am : Nat → Nat) (tx : Nat → Nat) (L : Nat) : Prop := F m 11 = nI L ∧ L ≤ 900 ∧ ∀ j, j < L → tx j < 256 ∧ F (am 9) j = sb (tx j)
def mtc (t : Nat) : Nat := if t = 0 then 1 else if t = 1 then 0 else if t = 2 then 4 else if t = 3 then 3 else 2
def TkM (F : FI) (m : Nat) (tx : Nat → Nat) (L p : Nat) : Prop := F m 13 = nI (sk tx L p) ∧ F m 14 = nI (nx tx L p) ∧ F m 12 = nI (mtc (tk tx L p)) ∧ (tk tx L p = 3 → F m 15 = nI (vl' tx L p)) ∧ (tk tx L p = 2 → F m 15 = 59)
def AhF (m : Nat) (G F : FI) : Prop := (∀ a, a ≠ m → F a = G a) ∧ ∀ j, j ≠ 12 → j ≠ 13 → j ≠ 14 → j ≠ 15 → F m j = G m j
theorem AhF.rf {m : Nat} {G : FI} : AhF m G G := ⟨fun _ _ => rfl, fun _ _ _ _ _ => rfl⟩
theorem AhF.up {m : Nat} {G F : FI} {j : Nat} {v : Int32} (h : AhF m G F) (hj : j = 12 ∨ j = 13 ∨ j = 14 ∨ j = 15) : AhF m G (upI F m j v) := ⟨fun a ha => by rw [up_ne ha]; exact h.1 a ha, fun i h4 h5 h6 h7 => by rw [up_no (by omega)]; exact h.2 i h4 h5 h6 h7⟩
theorem AhF.tr {m : Nat} {G F H : FI} (h : AhF m G F) (h2 : AhF m F H) : AhF m G H := ⟨fun a ha => (h2.1 a ha).trans (h.1 a ha), fun j y1 y2 y3 y4 => (h2.2 j y1 y2 y3 y4).trans (h.2 j y1 y2 y3 y4)⟩
def wst (k : Nat) : Nat := [1, 7, 14, 21, 23, 28, 32, 39, 45, 50, 55, 59, 64].getD k 0
def cmi (k : Nat) : Nat := [0, 1, 6, 2, 3, 4, 5, 7, 8, 9, 10, 11].getD k 0
def mki (t : Nat) : Int32 := if t = 6 then 0 else if t = 7 then 1 else if t = 12 then 2 else if t = 8 then 3 else if t = 9 then 4 else if t = 10 then 5 else if t = 11 then 6 else if t = 13 then 7 else if t = 14 then 8 else if t = 15 then 9 else if t = 16 then 10 else if t = 17 then 11 else -1
theorem mki_y : ∀ k, k < 12 → mki (6 + cmi k) = nI k ∧ cmi k < 12 ∧ wst k < 64 ∧ wst (k + 1) = wst k + (kcw (cmi k)).length + 1 ∧ sCh 12 (nI (wst k + (kcw (cmi k)).length)) = 32 ∧ (kcw (cmi k)).length ≤ 6 ∧ ∀ i, i < (kcw (cmi k)).length → sCh 12 (nI (wst k + i)) = nI ((kcw (cmi k)).getD i 0 + 96) ∧ ¬ sCh 12 (nI (wst k + i)) = 32 := by decide +kernel
theorem cmi_on : ∀ i, i < 12 → ∃ k, k < 12 ∧ cmi k = i := by decide +kernel
section WF
variable {tx : Nat → Nat} {L : Nat}
/-- what a token that is a word is like -/
theorem tk_word {p : Nat} (h : 4 ≤ tk tx L p) : sk tx L p < L ∧ nx tx L p ≤ L ∧ sk tx L p < nx tx L p ∧ (∀ j, sk tx L p ≤ j → j < nx tx L p → j < L ∧ isL (tx j) = true) ∧ tk tx L p = (if nx tx L p - sk tx L p ≤ 8 then kwk (wd tx L p) else 5) := by
  have h0 := h
  unfold tk at h
  by_cases c : sk tx L p < L
  · rw [if_pos c] at h
    by_cases c1 : isL (tx (sk tx L p)) = true
    · have e1 : nx tx L p = rnn tx L isL (sk tx L p) := by unfold nx en; rw [if_pos c, if_pos c1]
      obtain ⟨b1, b2, b3, b4⟩ := rnn_sp (tx := tx) (L := L) isL (sk tx L p)
      rw [← e1] at b1 b2 b3 b4
      refine ⟨c, b4 (by omega), ?_, b2, by unfold tk; rw [if_pos c, if_pos c1]⟩
      rcases Nat.lt_or_ge (sk tx L p) (nx tx L p) with z | z
      · exact z
      · have : nx tx L p = sk tx L p := by omega
        rw [this] at b3
        exact absurd ⟨c, c1⟩ b3
    · rw [if_neg c1] at h
      exfalso
      by_cases c2 : isD (tx (sk tx L p)) = true
      · rw [if_pos c2] at h
        by_cases c3 : nx tx L p - sk tx L p ≤ 8
        · rw [if_pos c3] at h; omega
        · rw [if_neg c3] at h; omega
      · rw [if_neg c2] at h
        by_cases c3 : tx (sk tx L p) = 59
        · rw [if_pos c3] at h; omega
        · rw [if_neg c3] at h; omega
  · rw [if_neg c] at h; omega
theorem tk_num {p : Nat} (h : tk tx L p = 3) : sk tx L p < L ∧ nx tx L p ≤ L ∧ sk tx L p < nx tx L p ∧ nx tx L p - sk tx L p ≤ 8 ∧ ∀ j, sk tx L p ≤ j → j < nx tx L p → j < L ∧ isD (tx j) = true := by
  unfold tk at h
  by_cases c : sk tx L p < L
  · rw [if_pos c] at h
    by_cases c1 : isL (tx (sk tx L p)) = true
    · rw [if_pos c1] at h
      exfalso
      by_cases c3 : nx tx L p - sk tx L p ≤ 8
      · rw [if_pos c3] at h
        unfold kwk at h
        rcases kwr_c (wd tx L p) 12 with ⟨y, -⟩ | ⟨i, -, -, y⟩ <;> omega
      · rw [if_neg c3] at h; omega
    · rw [if_neg c1] at h
      by_cases c2 : isD (tx (sk tx L p)) = true
      · rw [if_pos c2] at h
        have e1 : nx tx L p = rnn tx L isD (sk tx L p) := by unfold nx en; rw [if_pos c, if_neg c1, if_pos c2]
        obtain ⟨b1, b2, b3, b4⟩ := rnn_sp (tx := tx) (L := L) isD (sk tx L p)
        rw [← e1] at b1 b2 b3 b4
        refine ⟨c, b4 (by omega), ?_, ?_, b2⟩
        · rcases Nat.lt_or_ge (sk tx L p) (nx tx L p) with z | z
          · exact z
          · have : nx tx L p = sk tx L p := by omega
            rw [this] at b3
            exact absurd ⟨c, c2⟩ b3
        · by_cases c3 : nx tx L p - sk tx L p ≤ 8
          · exact c3
          · rw [if_neg c3] at h; omega
      · rw [if_neg c2] at h
        exfalso
        by_cases c3 : tx (sk tx L p) = 59
        · rw [if_pos c3] at h; omega
        · rw [if_neg c3] at h; omega
  · rw [if_neg c] at h; omega
theorem wd_ok {p : Nat} (h : 4 ≤ tk tx L p) : wok (wd tx L p) ∧ (wd tx L p).length = nx tx L p - sk tx L p := by
  obtain ⟨h1, h2, h3, h4, h5⟩ := tk_word h
  exact ⟨lw_ok (fun j y1 y2 => (h4 j y1 (by omega)).2), lw_len _ _ _⟩
theorem tk_kw {p i : Nat} (h : 4 ≤ tk tx L p) (hi : i < 12) (e : wd tx L p = kcw i) : tk tx L p = 6 + i := by
  obtain ⟨h1, h2, h3, h4, h5⟩ := tk_word h
  have hl := (wd_ok h).2
  have := (kcw_ok i hi).1
  rw [e] at hl
  rw [h5, if_pos (by omega), e, kwk_y i hi]
theorem tk_nkw {p : Nat} (h : 4 ≤ tk tx L p) (e : ∀ i, i < 12 → wd tx L p ≠ kcw i) : tk tx L p = 4 ∨ tk tx L p = 5 := by
  obtain ⟨h1, h2, h3, h4, h5⟩ := tk_word h
  rw [h5]
  by_cases c : nx tx L p - sk tx L p ≤ 8
  · rw [if_pos c]; left; exact kwr_n _ 12 e
  · rw [if_neg c]; right; rfl
theorem tk_17 (p : Nat) : tk tx L p ≤ 17 := by
  rcases Nat.lt_or_ge (tk tx L p) 4 with h | h
  · omega
  · obtain ⟨h1, h2, h3, h4, h5⟩ := tk_word h
    rw [h5]
    by_cases c : nx tx L p - sk tx L p ≤ 8
    · rw [if_pos c]
      unfold kwk
      rcases kwr_c (wd tx L p) 12 with ⟨y, -⟩ | ⟨i, y1, -, y⟩ <;> omega
    · rw [if_neg c]; omega
theorem dgv_lt {s : Nat} : ∀ n, (∀ j, s ≤ j → j < s + n → isD (tx j) = true) → dgv tx s n < 10 ^ n
  | 0, _ => Nat.one_pos
  | n + 1, h => by
    have ih := dgv_lt n (fun j y1 y2 => h j y1 (by omega))
    have := isD_iff.mp (h (s + n) (by omega) (by omega))
    show dgv tx s n * 10 + (tx (s + n) - 48) < 10 ^ (n + 1)
    rw [Nat.pow_succ]
    omega
theorem vlx_lt {p : Nat} (h : tk tx L p = 3) : vl' tx L p < 100000000 := by
  obtain ⟨h1, h2, h3, h4, h5⟩ := tk_num h
  have := dgv_lt (tx := tx) (s := sk tx L p) (nx tx L p - sk tx L p) (fun j y1 y2 => (h5 j y1 (by omega)).2)
  have h6 : 10 ^ (nx tx L p - sk tx L p) ≤ 10 ^ 8 := Nat.pow_le_pow_right (by decide) h4
  unfold vl'
  omega
end WF
section MT
variable {S : St} {m : Nat} {am : Nat → Nat} {tx : Nat → Nat} {L : Nat}
theorem TxM.cg {F F2 : FI} (h : TxM F m am tx L) (e : F2 m 11 = F m 11) (e9 : F2 (am 9) = F (am 9)) : TxM F2 m am tx L := ⟨e.trans h.1, h.2.1, fun j hj => ⟨(h.2.2 j hj).1, by rw [e9]; exact (h.2.2 j hj).2⟩⟩
theorem TxM.ah {F F2 : FI} (hL : LM S m am) (h : TxM F m am tx L) (hf : AhF m F F2) : TxM F2 m am tx L := h.cg (hf.2 11 (by decide) (by decide) (by decide) (by decide)) (hf.1 _ (hL.o 9))
theorem sm_byteAt {i : Nat} {Q : Int32 → Prop} (hL : LM S m am) (hX : TxM (gI S) m am tx L) (hi : i < 2 ^ 31) (hy : i < L → Q (nI (tx i))) (hn : L ≤ i → Q (-1)) : P_X12_byteAt m (nI i) S Q := by
  obtain ⟨h1, h2, h3⟩ := hX
  refine ⟨hL.z, ?_⟩
  rw [h1]
  refine ⟨fun c => hn ((nI_leI (by omega) hi).mp c), fun c => ?_⟩
  have hlt := nI_gtI (by omega) hi c
  refine ⟨am 9, hL.r 9, hL.k 9, hL.i 9 (by show i < 900; omega), ?_⟩
  rw [nI_clamp hi, (h3 i hlt).2, sb_and _ (h3 i hlt).1]
  exact hy hlt
theorem sm_isSmall {c : Nat} {Q : Int32 → Prop} (hc : c < 256) (hy : isL c = true → Q 1) (hn : isL c = false → Q 0) : P_X12_isSmall (nI c) Q := by
  by_cases e : isL c = true
  · have := isL_iff.mp e
    exact ⟨fun y => absurd y (nI_nlt (b := 97) this.1 (by omega)), fun _ => ⟨fun y => absurd y (nI_nlt (a := 122) this.2 (by decide)), fun _ => hy e⟩⟩
  · refine ⟨fun _ => hn (ts_nt e), fun h1 => ⟨fun _ => hn (ts_nt e), fun h2 => absurd (isL_iff.mpr ⟨?_, ?_⟩) e⟩⟩
    · rcases Nat.lt_or_ge c 97 with z | z
      · exact absurd (nI_lt (b := 97) z (by decide)) h1
      · exact z
    · rcases Nat.lt_or_ge 122 c with z | z
      · exact absurd (nI_lt (a := 122) z (by omega)) h2
      · exact z
theorem sm_isDigit {c : Nat} {Q : Int32 → Prop} (hc : c < 256) (hy : isD c = true → Q 1) (hn : isD c = false → Q 0) : P_X12_isDigit (nI c) Q := by
  by_cases e : isD c = true
  · have := isD_iff.mp e
    exact ⟨fun y => absurd y (nI_nlt (b := 48) this.1 (by omega)), fun _ => ⟨fun y => absurd y (nI_nlt (a := 57) this.2 (by decide)), fun _ => hy e⟩⟩
  · refine ⟨fun _ => hn (ts_nt e), fun h1 => ⟨fun _ => hn (ts_nt e), fun h2 => absurd (isD_iff.mpr ⟨?_, ?_⟩) e⟩⟩
    · rcases Nat.lt_or_ge c 48 with z | z
      · exact absurd (nI_lt (b := 48) z (by decide)) h1
      · exact z
    · rcases Nat.lt_or_ge 57 c with z | z
      · exact absurd (nI_lt (a := 57) z (by omega)) h2
      · exact z
/-- a test of the byte at a place, off the end too -/
theorem sm_smallAt {e : Nat} {Q : Int32 → Prop} (hL : LM S m am) (hX : TxM (gI S) m am tx L) (he : e < 2 ^ 31) (hy : e < L ∧ isL (tx e) = true → Q 1) (hn : ¬ (e < L ∧ isL (tx e) = true) → Q 0) : P_X12_byteAt m (nI e) S (fun r => P_X12_isSmall r Q) := by
  refine sm_byteAt hL hX he (fun h => sm_isSmall (hX.2.2 e h).1 (fun y => hy ⟨h, y⟩) (fun y => hn (fun z => by rw [y] at z; exact absurd z.2 (by decide)))) (fun h => ⟨fun _ => hn (fun z => by omega), fun c => absurd (by decide) c⟩)
theorem sm_digitAt {e : Nat} {Q : Int32 → Prop} (hL : LM S m am) (hX : TxM (gI S) m am tx L) (he : e < 2 ^ 31) (hy : e < L ∧ isD (tx e) = true → Q 1) (hn : ¬ (e < L ∧ isD (tx e) = true) → Q 0) : P_X12_byteAt m (nI e) S (fun r => P_X12_isDigit r Q) := by
  refine sm_byteAt hL hX he (fun h => sm_isDigit (hX.2.2 e h).1 (fun y => hy ⟨h, y⟩) (fun y => hn (fun z => by rw [y] at z; exact absurd z.2 (by decide)))) (fun h => ⟨fun _ => hn (fun z => by omega), fun c => absurd (by decide) c⟩)
theorem sm_ahead {p : Nat} {Q : FI → Prop} (hL : LM S m am) (hX : TxM (gI S) m am tx L) (h14 : gI S m 14 = nI p) (hp : p ≤ L)
    (hq : ∀ F, AhF m (gI S) F → TkM F m tx L p → Q F) : P_X12_ahead m S Q := by
  have L9 := hX.2.1
  refine ⟨hL.z, fun n F => ∃ s, p ≤ s ∧ s ≤ L ∧ n = L - s ∧ (∀ j, p ≤ j → j < s → j < L ∧ isS (tx j) = true) ∧ AhF m (gI S) F ∧ F m 14 = nI s, ⟨L - p, p, Nat.le_refl _, hp, rfl, fun j y1 y2 => by omega, AhF.rf, h14⟩, ?_⟩
  rintro n F ⟨s, hs, hsL, rfl, hall, af, g14⟩
  have hX2 := hX.ah hL af
  rw [g14]
  -- going on behind the spaces
  have rest : ¬ (s < L ∧ isS (tx s) = true) → ∀ v_10 : Int32, v_10 = nI s → ∀ F_11 : FI, F_11 = upI F m 13 v_10 → (P_X12_byteAt m (F_11 m 14) (wI S F_11) (fun (r_12 : Int32) => (∀ F_13 : Nat → Nat → Int32, F_13 = upI F_11 m 15 r_12 → ((¬ r_12 = (-1) → (P_X12_isSmall r_12 (fun (r_15 : Int32) => ((r_15 = 0 → (P_X12_isDigit r_12 (fun (r_17 : Int32) => ((r_17 = 0 → (∀ v_19 : Int32, v_19 = (F_13 m 14) + 1 → (∀ F_20 : Nat → Nat → Int32, F_20 = upI F_13 m 14 v_19 → (∃ J_22 : Int32 → Prop, (∀ (t_23 : Int32), J_22 t_23 → (∀ F_24 : Nat → Nat → Int32, F_24 = upI F_20 m 12 t_23 → Q F_24)) ∧ ((¬ r_12 = 59 → J_22 1) ∧ (r_12 = 59 → J_22 4)))))) ∧ (¬ r_17 = 0 → (∀ F_25 : Nat → Nat → Int32, F_25 = upI F_13 m 15 0 → (∃ I_26 : Nat → (Nat → Nat → Int32) → Prop, (∃ k : Nat, I_26 k F_25) ∧ ∀ (n_26 : Nat) (F_27 : Nat → Nat → Int32), I_26 n_26 F_27 → (P_X12_byteAt m (F_27 m 14) (wI S F_27) (fun (r_28 : Int32) => (P_X12_isDigit r_28 (fun (r_29 : Int32) => ((r_29 = 0 → (∃ J_32 : Int32 → Prop, (∀ (t_33 : Int32), J_32 t_33 → (∀ F_34 : Nat → Nat → Int32, F_34 = upI F_27 m 12 t_33 → Q F_34)) ∧ ((((F_27 m 14) - (F_27 m 13)) ≤ 8 → J_32 3) ∧ (¬ ((F_27 m 14) - (F_27 m 13)) ≤ 8 → J_32 1)))) ∧ (¬ r_29 = 0 → (P_X12_byteAt m (F_27 m 14) (wI S F_27) (fun (r_35 : Int32) => (∀ v_36 : Int32, v_36 = imin 100000000 (((10 * (F_27 m 15)) + r_35) - 48) → (∀ F_37 : Nat → Nat → Int32, F_37 = upI F_27 m 15 v_36 → (∀ v_38 : Int32, v_38 = (F_37 m 14) + 1 → (∀ F_39 : Nat → Nat → Int32, F_39 = upI F_37 m 14 v_38 → (∃ k : Nat, k < n_26 ∧ I_26 k F_39)))))))))))))))))))) ∧ (¬ r_15 = 0 → (∃ I_40 : Nat → (Nat → Nat → Int32) → Prop, (∃ k : Nat, I_40 k F_13) ∧ ∀ (n_40 : Nat) (F_41 : Nat → Nat → Int32), I_40 n_40 F_41 → (P_X12_byteAt m (F_41 m 14) (wI S F_41) (fun (r_42 : Int32) => (P_X12_isSmall r_42 (fun (r_43 : Int32) => ((r_43 = 0 → (∀ F_45 : Nat → Nat → Int32, F_45 = upI F_41 m 12 2 → Q F_45)) ∧ (¬ r_43 = 0 → (∀ v_46 : Int32, v_46 = (F_41 m 14) + 1 → (∀ F_47 : Nat → Nat → Int32, F_47 = upI F_41 m 14 v_46 → (∃ k : Nat, k < n_40 ∧ I_40 k F_47))))))))))))))) ∧ (r_12 = (-1) → (∀ F_48 : Nat → Nat → Int32, F_48 = upI F_13 m 12 0 → Q F_48)))))) := by
    intro hend v10 e10 F11 e11
    subst e10
    have es : sk tx L p = s := rnn_eq hs hall hend
    have en' : nx tx L p = en tx L s := by unfold nx; rw [es]
    have a11 : AhF m (gI S) F11 := by rw [e11]; exact af.up (by decide)
    have g11 : F11 m 14 = nI s := by rw [e11, up_no (by decide)]; exact g14
    have q13 : F11 m 13 = nI s := by rw [e11, up_at]
    have X11 := hX.ah hL a11
    rw [g11]
    refine sm_byteAt (S := wI S F11) hL X11 (by omega) (fun hlt F13 e13 => ⟨fun _ => ?_, fun y => ?_⟩) (fun hge F13 e13 => ⟨fun y => absurd rfl y, fun _ F48 e48 => ?_⟩)
    · have cb := (hX.2.2 s hlt).1
      have a13 : AhF m (gI S) F13 := by rw [e13]; exact a11.up (by decide)
      have g13 : F13 m 14 = nI s := by rw [e13, up_no (by decide)]; exact g11
      have q13' : F13 m 13 = nI s := by rw [e13, up_no (by decide)]; exact q13
      refine sm_isSmall cb (fun hL' => ⟨fun y => absurd y one0, fun _ => ?_⟩) (fun hL' => ⟨fun _ => ?_, fun y => absurd rfl y⟩)
      · have een : en tx L s = rnn tx L isL s := by unfold en; rw [if_pos hlt, if_pos hL']
        refine ⟨fun n F => ∃ e, s ≤ e ∧ e ≤ L ∧ n = L - e ∧ (∀ j, s ≤ j → j < e → j < L ∧ isL (tx j) = true) ∧ AhF m (gI S) F ∧ F m 13 = nI s ∧ F m 14 = nI e, ⟨L - s, s, Nat.le_refl _, by omega, rfl, fun j y1 y2 => by omega, a13, q13', g13⟩, ?_⟩
        rintro n F41 ⟨e, he, heL, rfl, hall2, a41, q41, g41⟩
        rw [g41]
        refine sm_smallAt (S := wI S F41) hL (hX.ah hL a41) (by omega) (fun hy => ⟨fun y => absurd y one0, fun _ v46 e46 F47 e47 => ⟨L - (e + 1), by omega, e + 1, by omega, by omega, rfl, fun j y1 y2 => ?_, by rw [e47]; exact a41.up (by decide), by rw [e47, up_no (by decide)]; exact q41, by rw [e47, up_at, e46]; exact nI_1 e⟩⟩) (fun hn => ⟨fun _ F45 e45 => ?_, fun y => absurd rfl y⟩)
        · by_cases cj : j = e
          · subst cj; exact hy
          · exact hall2 j y1 (by omega)
        · have ee : en tx L s = e := een.trans (rnn_eq he hall2 hn)
          have tke : tk tx L p = if e - s ≤ 8 then kwk (wd tx L p) else 5 := by unfold tk; rw [es, en', ee, if_pos hlt, if_pos hL']
          have t4 : 4 ≤ tk tx L p := by
            rw [tke]
            by_cases c : e - s ≤ 8
            · rw [if_pos c]
              unfold kwk
              rcases kwr_c (wd tx L p) 12 with ⟨y, -⟩ | ⟨i, -, -, y⟩ <;> omega
            · rw [if_neg c]; omega
          refine hq F45 (by rw [e45]; exact a41.up (by decide)) ⟨by rw [e45, up_no (by decide), es]; exact q41, by rw [e45, up_no (by decide), en', ee]; exact g41, ?_, fun y => by omega, fun y => by omega⟩
          rw [e45, up_at]
          unfold mtc
          rw [if_neg (by omega), if_neg (by omega), if_neg (by omega), if_neg (by omega)]
          rfl
      · refine sm_isDigit cb (fun hD => ⟨fun y => absurd y one0, fun _ F25 e25 => ?_⟩) (fun hD => ⟨fun _ v19 e19 F20 e20 => ?_, fun y => absurd rfl y⟩)
        · have een : en tx L s = rnn tx L isD s := by unfold en; rw [if_pos hlt, hL', if_neg (by decide), if_pos hD]
          refine ⟨fun n F => ∃ e, s ≤ e ∧ e ≤ L ∧ n = L - e ∧ (∀ j, s ≤ j → j < e → j < L ∧ isD (tx j) = true) ∧ AhF m (gI S) F ∧ F m 13 = nI s ∧ F m 14 = nI e ∧ F m 15 = nI (min 100000000 (dgv tx s (e - s))), ⟨L - s, s, Nat.le_refl _, by omega, rfl, fun j y1 y2 => by omega, by rw [e25]; exact a13.up (by decide), by rw [e25, up_no (by decide)]; exact q13', by rw [e25, up_no (by decide)]; exact g13, by rw [e25, up_at, Nat.sub_self]; rfl⟩, ?_⟩
          rintro n F27 ⟨e, he, heL, rfl, hall2, a27, q27, g27, v27⟩
          rw [g27]
          refine sm_digitAt (S := wI S F27) hL (hX.ah hL a27) (by omega) (fun hy => ⟨fun y => absurd y one0, fun _ => sm_byteAt (S := wI S F27) hL (hX.ah hL a27) (by omega) (fun _ v36 e36 F37 e37 v38 e38 F39 e39 => ?_) (fun y => by omega)⟩) (fun hn => ⟨fun _ => ?_, fun y => absurd rfl y⟩)
          · have dd := isD_iff.mp hy.2
            have v36e : v36 = nI (min 100000000 (dgv tx s (e + 1 - s))) := by
              rw [e36, v27, show (10 : Int32) = nI 10 from rfl, mulN, nI_add, show (48 : Int32) = nI 48 from rfl, dif_nI (by omega), show (100000000 : Int32) = nI 100000000 from rfl, iminN (by decide) (by omega), show e + 1 - s = e - s + 1 by omega]
              show _ = nI (min 100000000 (dgv tx s (e - s) * 10 + (tx (s + (e - s)) - 48)))
              rw [show s + (e - s) = e by omega]
              congr 1
              omega
            have v38e : v38 = nI (e + 1) := by rw [e38, e37, up_no (by decide), g27, nI_1]
            refine ⟨L - (e + 1), by omega, e + 1, by omega, by omega, rfl, fun j y1 y2 => ?_, by rw [e39, e37]; exact (a27.up (by decide)).up (by decide), by rw [e39, up_no (by decide), e37, up_no (by decide)]; exact q27, by rw [e39, up_at, v38e], by rw [e39, up_no (by decide), e37, up_at]; exact v36e⟩
            by_cases cj : j = e
            · subst cj; exact hy
            · exact hall2 j y1 (by omega)
          · have ee : en tx L s = e := een.trans (rnn_eq he hall2 hn)
            have tke : tk tx L p = if e - s ≤ 8 then 3 else 0 := by unfold tk; rw [es, en', ee, if_pos hlt, hL', if_neg (by decide), if_pos hD]
            rw [q27, dif_nI he]
            have go : ∀ t : Int32, t = nI (mtc (tk tx L p)) → ∀ F34, F34 = upI F27 m 12 t → Q F34 := fun t ht F34 e34 => hq F34 (by rw [e34]; exact a27.up (by decide)) ⟨by rw [e34, up_no (by decide), es]; exact q27, by rw [e34, up_no (by decide), en', ee]; exact g27, by rw [e34, up_at]; exact ht, fun h3 => by
              rw [e34, up_no (by decide), v27]
              have := vlx_lt h3
              unfold vl' at this ⊢
              rw [es, en', ee] at this ⊢
              rw [Nat.min_eq_right (by omega)], fun h2 => by
              rw [tke] at h2
              by_cases c : e - s ≤ 8
              · rw [if_pos c] at h2; omega
              · rw [if_neg c] at h2; omega⟩
            refine ⟨fun t => t = nI (mtc (tk tx L p)), go, fun c => ?_, fun c => ?_⟩
            · rw [tke, if_pos ((nI_leI (b := 8) (by omega) (by decide)).mp c)]; rfl
            · rw [tke, if_neg (fun z => c (nI_le (b := 8) z (by decide)))]; rfl
        · have een : en tx L s = s + 1 := by unfold en; rw [if_pos hlt, hL', hD, if_neg (by decide), if_neg (by decide)]
          have tke : tk tx L p = if tx s = 59 then 2 else 0 := by unfold tk; rw [es, if_pos hlt, hL', hD, if_neg (by decide), if_neg (by decide)]
          have v19e : v19 = nI (s + 1) := by rw [e19, g13, nI_1]
          have q15 : F13 m 15 = nI (tx s) := by rw [e13, up_at]
          have go : ∀ t : Int32, t = nI (mtc (tk tx L p)) → ∀ F24, F24 = upI F20 m 12 t → Q F24 := fun t ht F24 e24 => hq F24 (by rw [e24, e20]; exact (a13.up (by decide)).up (by decide)) ⟨by rw [e24, up_no (by decide), e20, up_no (by decide), es]; exact q13', by rw [e24, up_no (by decide), e20, up_at, en', een, v19e], by rw [e24, up_at]; exact ht, fun h3 => by
            rw [tke] at h3
            by_cases c : tx s = 59
            · rw [if_pos c] at h3; omega
            · rw [if_neg c] at h3; omega, fun h2 => by
            rw [tke] at h2
            by_cases c : tx s = 59
            · rw [e24, up_no (by decide), e20, up_no (by decide), q15, c]; rfl
            · rw [if_neg c] at h2; omega⟩
          refine ⟨fun t => t = nI (mtc (tk tx L p)), go, fun c => ?_, fun c => ?_⟩
          · rw [tke, if_neg (fun z => c (by rw [z]; rfl))]; rfl
          · rw [tke, if_pos ((nI_eq (b := 59) (by omega) (by decide)).mp c)]; rfl
    · have := (hX.2.2 s hlt).1
      exfalso
      have z : ¬ nI (tx s) < 0 := nI_pos (by omega)
      rw [y] at z
      exact z (by decide)
    · have tke : tk tx L p = 1 := by unfold tk; rw [es, if_neg (by omega)]
      refine hq F48 (by rw [e48, e13]; exact (a11.up (by decide)).up (by decide)) ⟨by rw [e48, up_no (by decide), e13, up_no (by decide), es]; exact q13, by rw [e48, up_no (by decide), e13, up_no (by decide), en', show en tx L s = s by unfold en; rw [if_neg (by omega)]]; exact g11, by rw [e48, up_at, tke]; rfl, fun y => by omega, fun y => by omega⟩
  have step : s < L ∧ isS (tx s) = true → ∀ v_6 : Int32, v_6 = nI s + 1 → ∀ F_7 : FI, F_7 = upI F m 14 v_6 → ∃ k, k < L - s ∧ ∃ s', p ≤ s' ∧ s' ≤ L ∧ k = L - s' ∧ (∀ j, p ≤ j → j < s' → j < L ∧ isS (tx j) = true) ∧ AhF m (gI S) F_7 ∧ F_7 m 14 = nI s' := fun hsp v6 e6 F7 e7 => ⟨L - (s + 1), by omega, s + 1, by omega, by omega, rfl, fun j y1 y2 => by
    by_cases cj : j = s
    · subst cj; exact hsp
    · exact hall j y1 (by omega), by rw [e7]; exact af.up (by decide), by rw [e7, up_at, e6]; exact nI_1 s⟩
  refine sm_byteAt (S := wI S F) hL hX2 (by omega) (fun hlt => ⟨s < L ∧ isS (tx s) = true, step, fun c => ?_, fun c1 => sm_byteAt (S := wI S F) hL hX2 (by omega) (fun _ => ⟨fun c2 => rest (fun y => ?_), fun c2 => ?_⟩) (fun y => by omega)⟩) (fun hge => ⟨False, False.elim, fun c => absurd c (by decide), fun _ => sm_byteAt (S := wI S F) hL hX2 (by omega) (fun y => by omega) (fun _ => ⟨fun _ => rest (fun y => by omega), fun c => absurd c (by decide)⟩)⟩)
  · exact ⟨hlt, isS_iff.mpr (Or.inl ((nI_eq (b := 32) (by have := (hX.2.2 s hlt).1; omega) (by decide)).mp c))⟩
  · rcases isS_iff.mp y.2 with z | z
    · exact c1 (by rw [z]; rfl)
    · exact c2 (by rw [z]; rfl)
  · exact ⟨hlt, isS_iff.mpr (Or.inr ((nI_eq (b := 10) (by have := (hX.2.2 s hlt).1; omega) (by decide)).mp c2))⟩
end MT
