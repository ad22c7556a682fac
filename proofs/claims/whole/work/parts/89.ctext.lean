/-! Words as numbers, on both sides. -/
def vb (b o : Nat) (l : List Nat) : Nat := l.foldl (fun v c => v * b + (c + o)) 0
theorem vb_s (b o : Nat) (l : List Nat) (c : Nat) : vb b o (l ++ [c]) = vb b o l * b + (c + o) := by unfold vb; rw [List.foldl_append]; rfl
def wok (l : List Nat) : Prop := ∀ c, c ∈ l → 1 ≤ c ∧ c ≤ 26
theorem vb_lt {b o : Nat} (hb : 27 + o ≤ b) : ∀ n (l : List Nat), l.length = n → wok l → vb b o l < b ^ n
  | 0, l, hl, _ => by
    have : l = [] := List.eq_nil_of_length_eq_zero hl
    subst this
    exact Nat.one_pos
  | n + 1, l, hl, hw => by
    rcases List.eq_nil_or_concat l with e | ⟨a, c, e⟩
    · rw [e] at hl; cases hl
    · have e' : l = a ++ [c] := by rw [e, List.concat_eq_append]
      subst e'
      rw [vb_s]
      have la : a.length = n := by rw [List.length_append] at hl; simp at hl; exact hl
      have ih := vb_lt hb n a la (fun c hc => hw c (List.mem_append_left _ hc))
      have hc := hw c (List.mem_append_right _ (List.mem_singleton.mpr rfl))
      have h1 : vb b o a + 1 ≤ b ^ n := ih
      have h2 : (vb b o a + 1) * b ≤ b ^ n * b := Nat.mul_le_mul_right b h1
      rw [Nat.pow_succ]
      rw [Nat.add_mul] at h2
      omega
theorem vb_inj {b o : Nat} (hb : 27 + o ≤ b) : ∀ n (l k : List Nat), l.length = n → wok l → wok k → vb b o l = vb b o k → l = k
  | 0, l, k, hl, _, hk, h => by
    have : l = [] := List.eq_nil_of_length_eq_zero hl
    subst this
    rcases List.eq_nil_or_concat k with e | ⟨a, c, e⟩
    · exact e.symm
    · have e' : k = a ++ [c] := by rw [e, List.concat_eq_append]
      subst e'
      rw [vb_s] at h
      have hc := hk c (List.mem_append_right _ (List.mem_singleton.mpr rfl))
      have : vb b o [] = 0 := rfl
      omega
  | n + 1, l, k, hl, hw, hk, h => by
    rcases List.eq_nil_or_concat l with e | ⟨a, c, e⟩
    · rw [e] at hl; cases hl
    · have e' : l = a ++ [c] := by rw [e, List.concat_eq_append]
      subst e'
      have hc := hw c (List.mem_append_right _ (List.mem_singleton.mpr rfl))
      rcases List.eq_nil_or_concat k with g | ⟨a2, c2, g⟩
      · rw [g, vb_s] at h
        have : vb b o [] = 0 := rfl
        omega
      · have g' : k = a2 ++ [c2] := by rw [g, List.concat_eq_append]
        subst g'
        have hc2 := hk c2 (List.mem_append_right _ (List.mem_singleton.mpr rfl))
        rw [vb_s, vb_s] at h
        have m1 : (vb b o a * b + (c + o)) % b = c + o := by rw [Nat.mul_comm, Nat.mul_add_mod]; exact Nat.mod_eq_of_lt (by omega)
        have m2 : (vb b o a2 * b + (c2 + o)) % b = c2 + o := by rw [Nat.mul_comm, Nat.mul_add_mod]; exact Nat.mod_eq_of_lt (by omega)
        have hcc : c = c2 := by rw [h, m2] at m1; omega
        subst hcc
        have ha : vb b o a = vb b o a2 := by
          have : vb b o a * b = vb b o a2 * b := by omega
          exact Nat.eq_of_mul_eq_mul_right (by omega) this
        have la : a.length = n := by rw [List.length_append] at hl; simp at hl; exact hl
        rw [vb_inj hb n a a2 la (fun c hc => hw c (List.mem_append_left _ hc)) (fun c hc => hk c (List.mem_append_left _ hc)) ha]
theorem lN_mulA (a b c : Nat) : lN a * lN b + lN c = lN (a * b + c) := by
  apply Int64.toBitVec_inj.mp
  rw [Int64.toBitVec_add, Int64.toBitVec_mul, lN_bv, lN_bv, lN_bv, lN_bv, BitVec.ofNat_add, BitVec.ofNat_mul]
theorem n27_s (l : List Nat) (c : Nat) : n27 (l ++ [c]) = n27 l * 27 + lN c := by unfold n27; rw [List.foldl_append]; rfl
theorem n256_s (l : List Nat) (c : Nat) : n256 (l ++ [c]) = (lshl (n256 l) 8) ||| lN (c + 96) := by unfold n256; rw [List.foldl_append]; rfl
theorem n27_v : ∀ n (l : List Nat), l.length = n → n27 l = lN (vb 27 0 l)
  | 0, l, hl => by
    have : l = [] := List.eq_nil_of_length_eq_zero hl
    subst this; rfl
  | n + 1, l, hl => by
    rcases List.eq_nil_or_concat l with e | ⟨a, c, e⟩
    · rw [e] at hl; cases hl
    · have e' : l = a ++ [c] := by rw [e, List.concat_eq_append]
      subst e'
      have la : a.length = n := by rw [List.length_append] at hl; simp at hl; exact hl
      rw [n27_s, vb_s, n27_v n a la]
      exact lN_mulA _ 27 _
theorem n256_v : ∀ n (l : List Nat), l.length = n → n ≤ 8 → wok l → n256 l = lN (vb 256 96 l)
  | 0, l, hl, _, _ => by
    have : l = [] := List.eq_nil_of_length_eq_zero hl
    subst this; rfl
  | n + 1, l, hl, h8, hw => by
    rcases List.eq_nil_or_concat l with e | ⟨a, c, e⟩
    · rw [e] at hl; cases hl
    · have e' : l = a ++ [c] := by rw [e, List.concat_eq_append]
      subst e'
      have la : a.length = n := by rw [List.length_append] at hl; simp at hl; exact hl
      have hwa : wok a := fun c hc => hw c (List.mem_append_left _ hc)
      have hc := hw c (List.mem_append_right _ (List.mem_singleton.mpr rfl))
      have h1 := vb_lt (b := 256) (o := 96) (by decide) n a la hwa
      have h2 : 256 ^ n ≤ 256 ^ 7 := Nat.pow_le_pow_right (by decide) (by omega)
      rw [n256_s, vb_s, n256_v n a la (by omega) hwa]
      have e8 : lshl (lN (vb 256 96 a)) 8 = lN (vb 256 96 a * 256) := wb_shl (vb 256 96 a) (k := 8) (by decide)
      rw [e8]
      have h3 : (256 : Nat) ^ 7 = 72057594037927936 := by decide
      exact g_or (k := 8) (p := 256) rfl (by omega) (by omega)
theorem n27_inj {l k : List Nat} (hl : wok l) (hk : wok k) (h8 : l.length ≤ 8) (k8 : k.length ≤ 8) : n27 l = n27 k ↔ l = k := by
  refine ⟨fun h => ?_, fun h => by rw [h]⟩
  rw [n27_v _ l rfl, n27_v _ k rfl] at h
  have h1 := vb_lt (b := 27) (o := 0) (by decide) _ l rfl hl
  have h2 := vb_lt (b := 27) (o := 0) (by decide) _ k rfl hk
  have h3 : (27 : Nat) ^ l.length ≤ 27 ^ 8 := Nat.pow_le_pow_right (by decide) h8
  have h4 : (27 : Nat) ^ k.length ≤ 27 ^ 8 := Nat.pow_le_pow_right (by decide) k8
  have h5 : (27 : Nat) ^ 8 = 282429536481 := by decide
  rw [fb_lN_inj (by omega) (by omega)] at h
  exact vb_inj (b := 27) (o := 0) (by decide) _ l k rfl hl hk h
theorem vb_hi {l : List Nat} (hl : wok l) (h8 : l.length ≤ 8) : vb 256 96 l < 2 ^ 63 := by
  rcases List.eq_nil_or_concat l with e | ⟨a, c, e⟩
  · rw [e]; decide
  · -- the first letter is below 128
    have key : ∀ n (l : List Nat), l.length = n → wok l → 1 ≤ n → vb 256 96 l < 123 * 256 ^ (n - 1) := fun n => by
      induction n with
      | zero => intro l _ _ h; omega
      | succ n ih =>
        intro l hl hw _
        rcases List.eq_nil_or_concat l with e | ⟨a, c, e⟩
        · rw [e] at hl; cases hl
        · have e' : l = a ++ [c] := by rw [e, List.concat_eq_append]
          subst e'
          have la : a.length = n := by rw [List.length_append] at hl; simp at hl; exact hl
          have hwa : wok a := fun c hc => hw c (List.mem_append_left _ hc)
          have hc := hw c (List.mem_append_right _ (List.mem_singleton.mpr rfl))
          rw [vb_s]
          rcases Nat.eq_zero_or_pos n with z | z
          · subst z
            have : a = [] := List.eq_nil_of_length_eq_zero la
            subst this
            have : vb 256 96 [] = 0 := rfl
            simp
            omega
          · have i1 := ih a la hwa z
            have i2 : (vb 256 96 a + 1) * 256 ≤ 123 * 256 ^ (n - 1) * 256 := Nat.mul_le_mul_right 256 i1
            have i3 : 123 * 256 ^ (n - 1) * 256 = 123 * 256 ^ n := by
              rw [Nat.mul_assoc, ← Nat.pow_succ, show (n - 1).succ = n by omega]
            rw [show n + 1 - 1 = n by omega]
            omega
    have h1 : 1 ≤ l.length := by rw [e]; simp
    have h2 := key _ l rfl hl h1
    have h3 : (256 : Nat) ^ (l.length - 1) ≤ 256 ^ 7 := Nat.pow_le_pow_right (by decide) (by omega)
    have h4 : (256 : Nat) ^ 7 = 72057594037927936 := by decide
    have h5 : (2 : Nat) ^ 63 = 9223372036854775808 := by decide
    omega
theorem n256_inj {l k : List Nat} (hl : wok l) (hk : wok k) (h8 : l.length ≤ 8) (k8 : k.length ≤ 8) : n256 l = n256 k ↔ l = k := by
  refine ⟨fun h => ?_, fun h => by rw [h]⟩
  rw [n256_v _ l rfl h8 hl, n256_v _ k rfl k8 hk] at h
  rw [fb_lN_inj (vb_hi hl h8) (vb_hi hk k8)] at h
  exact vb_inj (b := 256) (o := 96) (by decide) _ l k rfl hl hk h
theorem lw_ok {tx : Nat → Nat} {s n : Nat} (h : ∀ j, s ≤ j → j < s + n → isL (tx j) = true) : wok (lw tx s n) := fun c hc => by
  unfold lw at hc
  obtain ⟨i, hi, e⟩ := List.mem_map.mp hc
  have hi' := List.mem_range.mp hi
  have := isL_iff.mp (h (s + i) (by omega) (by omega))
  omega
theorem kcw_ok : ∀ i, i < 12 → (kcw i).length ≤ 8 ∧ ∀ c, c ∈ kcw i → 1 ≤ c ∧ c ≤ 26 := by decide
section CT
variable {S : St} {k tt rv : Nat} {tx : Nat → Nat} {L : Nat} {J : Nat → Nat → Int64}
theorem TxC.kt {F : FI} (h : TxC S F J k tt rv tx L) : tt ≠ k ∧ rv ≠ k := ⟨kd_ne h.2.2.1 h.1 (by decide), kd_ne h.2.2.2.2.2.2.2.2.1 h.1 (by decide)⟩
theorem TxC.cg {F F2 : FI} {J2 : Nat → Nat → Int64} (h : TxC S F J k tt rv tx L) (e3 : F2 k 3 = F k 3) (et : F2 tt = F tt) (er : J2 rv = J rv) : TxC S F2 J2 k tt rv tx L := by
  obtain ⟨h1, h2, h3, h4, h5, h6, h7, h8, h9, h10, h11⟩ := h
  exact ⟨h1, h2, h3, h4, h5, e3.trans h6, fun j hj => ⟨(h7 j hj).1, by rw [et]; exact (h7 j hj).2⟩, h8, h9, h10, fun i hi => by rw [er]; exact h11 i hi⟩
theorem sp_isLetter {i : Nat} {Q : Int32 → Prop} (hX : TxC S (gI S) J k tt rv tx L) (hi : i < L) (hy : isL (tx i) = true → Q 1) (hn : isL (tx i) = false → Q 0) : P_X7_isLetter k (nI i) S Q := by
  obtain ⟨k7, r0, k20, l9, L9, f3, hb, -⟩ := hX
  obtain ⟨c1, c2⟩ := hb i hi
  refine ⟨k7, tt, r0, k20, by rw [l9]; exact vp_in_nI (by omega) (by decide), ?_⟩
  rw [nI_clamp (by omega), c2]
  by_cases c : isL (tx i) = true
  · have := isL_iff.mp c
    exact ⟨fun y => absurd y ((sb_lt (v := 97) c1 (by decide)).mpr ⟨this.1, by omega⟩), fun _ => ⟨fun y => absurd ((sb_gt (v := 122) c1 (by decide)).mp y) (by omega), fun _ => hy c⟩⟩
  · refine ⟨fun _ => hn (ts_nt c), fun h97 => ⟨fun _ => hn (ts_nt c), fun h122 => absurd ?_ c⟩⟩
    have h1 := (sb_lt (v := 97) c1 (by decide)).mp h97
    refine isL_iff.mpr ⟨h1.1, ?_⟩
    rcases Nat.lt_or_ge 122 (tx i) with z | z
    · exact absurd ((sb_gt (v := 122) c1 (by decide)).mpr ⟨z, h1.2⟩) h122
    · exact z
theorem sp_isDigit {i : Nat} {Q : Int32 → Prop} (hX : TxC S (gI S) J k tt rv tx L) (hi : i < L) (hy : isD (tx i) = true → Q 1) (hn : isD (tx i) = false → Q 0) : P_X7_isDigit k (nI i) S Q := by
  obtain ⟨k7, r0, k20, l9, L9, f3, hb, -⟩ := hX
  obtain ⟨c1, c2⟩ := hb i hi
  refine ⟨k7, tt, r0, k20, by rw [l9]; exact vp_in_nI (by omega) (by decide), ?_⟩
  rw [nI_clamp (by omega), c2]
  by_cases c : isD (tx i) = true
  · have := isD_iff.mp c
    exact ⟨fun y => absurd y ((sb_lt (v := 48) c1 (by decide)).mpr ⟨this.1, by omega⟩), fun _ => ⟨fun y => absurd ((sb_gt (v := 57) c1 (by decide)).mp y) (by omega), fun _ => hy c⟩⟩
  · refine ⟨fun _ => hn (ts_nt c), fun h97 => ⟨fun _ => hn (ts_nt c), fun h122 => absurd ?_ c⟩⟩
    have h1 := (sb_lt (v := 48) c1 (by decide)).mp h97
    refine isD_iff.mpr ⟨h1.1, ?_⟩
    rcases Nat.lt_or_ge 57 (tx i) with z | z
    · exact absurd ((sb_gt (v := 57) c1 (by decide)).mpr ⟨z, h1.2⟩) h122
    · exact z
/-- what the tokens change when they go on -/
def NxF (k : Nat) (G F : FI) : Prop := (∀ a, a ≠ k → F a = G a) ∧ ∀ j, j ≠ 4 → j ≠ 5 → j ≠ 6 → j ≠ 7 → F k j = G k j
def NxJ (k : Nat) (G J : Nat → Nat → Int64) : Prop := (∀ a, a ≠ k → J a = G a) ∧ ∀ j, j ≠ 8 → J k j = G k j
theorem NxF.up {G F : FI} {j : Nat} {v : Int32} (h : NxF k G F) (hj : j = 4 ∨ j = 5 ∨ j = 6 ∨ j = 7) : NxF k G (upI F k j v) := ⟨fun a ha => by rw [up_ne ha]; exact h.1 a ha, fun i h4 h5 h6 h7 => by rw [up_no (by omega)]; exact h.2 i h4 h5 h6 h7⟩
theorem sp_readNumber {s : Nat} {Q : FI → Prop} (hX : TxC S (gI S) J k tt rv tx L) (h4 : gI S k 4 = nI s) (h5 : gI S k 5 = nI s) (hs : s < L) (hD : isD (tx s) = true)
    (hq : ∀ F, NxF k (gI S) F → F k 4 = nI s → F k 5 = nI (en tx L s) → F k 6 = (if en tx L s - s ≤ 8 then 3 else 0) → F k 7 = nI (dgv tx s (en tx L s - s)) → Q F) : P_X7_readNumber k S Q := by
  have hX' := hX
  obtain ⟨k7, r0, k20, l9, L9, f3, hb, -⟩ := hX'
  have hL : isL (tx s) = false := ts_nt (fun c => by have := isL_iff.mp c; have := isD_iff.mp hD; omega)
  have een : en tx L s = rnn tx L isD s := by unfold en; rw [if_pos hs, hL, if_neg (by decide), if_pos hD]
  refine ⟨k7, fun F1 e1 => ⟨fun n F => ∃ e, s ≤ e ∧ e ≤ L ∧ n = L - e ∧ (∀ j, s ≤ j → j < e → j < L ∧ isD (tx j) = true) ∧ NxF k (gI S) F ∧ F k 4 = nI s ∧ F k 5 = nI e ∧ F k 7 = nI (dgv tx s (e - s)), ⟨L - s, s, Nat.le_refl _, by omega, rfl, fun j y1 y2 => by omega, by rw [e1]; exact NxF.up ⟨fun _ _ => rfl, fun _ _ _ _ _ => rfl⟩ (by decide), by rw [e1, up_no (by decide)]; exact h4, by rw [e1, up_no (by decide)]; exact h5, by rw [e1, up_at, Nat.sub_self]; rfl⟩, ?_⟩⟩
  rintro n F ⟨e, he, heL, rfl, hall, nf, g4, g5, g7⟩
  have f3' : F k 3 = nI L := by rw [nf.2 3 (by decide) (by decide) (by decide) (by decide)]; exact f3
  have hX2 : TxC S F J k tt rv tx L := hX.cg (nf.2 3 (by decide) (by decide) (by decide) (by decide)) (nf.1 _ hX.kt.1) rfl
  rw [f3', g5]
  refine ⟨¬ (e < L ∧ isD (tx e) = true), fun hend => ?_, fun hc => ?_, fun hc => ?_⟩
  · have ee : en tx L s = e := een.trans (rnn_eq he hall hend)
    rw [ee] at hq
    have d1 : (nI e - nI s : Int32) = nI (e - s) := by rw [show nI e = nI (e - s + s) by rw [Nat.sub_add_cancel he], ← nI_add]; exact Int32.add_sub_cancel _ _
    rw [g4, d1]
    have go : ∀ t : Int32, t = (if e - s ≤ 8 then 3 else 0) → ∀ F9, F9 = upI F k 6 t → Q F9 := fun t ht F9 e9 => hq F9 (by rw [e9]; exact nf.up (by decide)) (by rw [e9, up_no (by decide)]; exact g4) (by rw [e9, up_no (by decide)]; exact g5) (by rw [e9, up_at]; exact ht) (by rw [e9, up_no (by decide)]; exact g7)
    refine ⟨fun t => t = (if e - s ≤ 8 then 3 else 0), go, fun c => ?_, fun c => ?_⟩
    · rw [if_pos ((nI_leI (b := 8) (by omega) (by decide)).mp c)]
    · rw [if_neg (fun z => c (nI_le (b := 8) z (by decide)))]
  · have : L ≤ e := (nI_leI (by omega) (by omega)).mp hc
    exact fun y => by omega
  · have hlt := nI_gtI (by omega) (by omega) hc
    refine sp_isDigit (S := wI S F) hX2 hlt (fun hd => ⟨fun y => absurd y one0, fun _ => ⟨tt, r0, k20, by rw [l9]; exact vp_in_nI (by omega) (by decide), fun v15 e15 F16 e16 v17 e17 F18 e18 => ?_⟩⟩) (fun hd => ⟨fun _ y => by rw [hd] at y; exact absurd y.2 (by decide), fun y => absurd rfl y⟩)
    obtain ⟨cb, ce⟩ := hb e hlt
    have dd := isD_iff.mp hd
    have v15e : v15 = nI (dgv tx s (e + 1 - s)) := by
      rw [e15, g7, nI_clamp (by omega), nf.1 _ hX.kt.1, ce, sb_lo _ (by omega)]
      have s48 : nI (tx e) - 48 = nI (tx e - 48) := by
        rw [show nI (tx e) = nI (tx e - 48 + 48) by rw [Nat.sub_add_cancel dd.1], ← nI_add]; exact Int32.add_sub_cancel _ _
      rw [s48, show (10 : Int32) = nI 10 from rfl, mulN, nI_add, show e + 1 - s = e - s + 1 by omega]
      show _ = nI (dgv tx s (e - s) * 10 + (tx (s + (e - s)) - 48))
      rw [show s + (e - s) = e by omega]
    have g5' : F16 k 5 = nI e := by rw [e16, up_no (by decide)]; exact g5
    rw [g5', nI_1] at e17
    refine ⟨L - (e + 1), by omega, e + 1, by omega, by omega, rfl, fun j y1 y2 => ?_, by rw [e18, e16]; exact (nf.up (by decide)).up (by decide), by rw [e18, up_no (by decide), e16, up_no (by decide)]; exact g4, by rw [e18, up_at, e17], by rw [e18, up_no (by decide), e16, up_at]; exact v15e⟩
    by_cases cj : j = e
    · subst cj; exact ⟨hlt, hd⟩
    · exact hall j y1 (by omega)
end CT
