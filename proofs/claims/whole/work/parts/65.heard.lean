/-! What is heard of a row with bells missing. -/
def gd (l : List Nat) (i : Nat) : Nat := l.getD i 0
theorem gd_lo {l : List Nat} {v i : Nat} (h : i < l.length) : gd (l ++ [v]) i = gd l i := by
  unfold gd
  simp [List.getElem?_append_left h]
theorem gd_hi {l : List Nat} {v : Nat} : gd (l ++ [v]) l.length = v := by
  unfold gd
  simp
theorem gd_ext {l l2 : List Nat} (hl : l.length = l2.length) (h : ∀ i, i < l.length → gd l i = gd l2 i) : l = l2 := by
  apply List.ext_getElem hl
  intro i h1 h2
  have := h i h1
  unfold gd at this
  simpa [List.getD, h1, h2] using this
def ND (l : List Nat) : Prop := ∀ i j, i < j → j < l.length → gd l i ≠ gd l j
theorem nd_snoc {l : List Nat} {v : Nat} (h : ND l) (hv : ∀ i, i < l.length → gd l i ≠ v) : ND (l ++ [v]) := fun i j hij hj => by
  rw [List.length_append] at hj
  have hj' : j < l.length + 1 := hj
  rw [gd_lo (show i < l.length by omega)]
  by_cases c : j = l.length
  · rw [c, gd_hi]
    exact hv i (by omega)
  · rw [gd_lo (show j < l.length by omega)]
    exact h i j hij (by omega)
def hl (rr : Nat → Bool) (f : Nat → Nat) : Nat → List Nat
  | 0 => []
  | p + 1 => if rr (f p) then hl rr f p ++ [f p] else hl rr f p
def sl (rr : Nat → Bool) : Nat → List Nat
  | 0 => []
  | p + 1 => if rr p then sl rr p else sl rr p ++ [p]
theorem hl_len (rr : Nat → Bool) (f : Nat → Nat) : ∀ p, (hl rr f p).length = fb_ct (fun q => rr (f q)) p
  | 0 => rfl
  | p + 1 => by
    show (if rr (f p) then hl rr f p ++ [f p] else hl rr f p).length = fb_ct (fun q => rr (f q)) p + (if rr (f p) then 1 else 0)
    rw [← hl_len rr f p]
    cases rr (f p) <;> simp
theorem sl_len (rr : Nat → Bool) : ∀ p, (sl rr p).length = fb_ct (fun q => !rr q) p
  | 0 => rfl
  | p + 1 => by
    show (if rr p then sl rr p else sl rr p ++ [p]).length = fb_ct (fun q => !rr q) p + (if !rr p then 1 else 0)
    rw [← sl_len rr p]
    cases rr p <;> simp
theorem hl_at (rr : Nat → Bool) (f : Nat → Nat) : ∀ p i, i < (hl rr f p).length → ∃ q, q < p ∧ gd (hl rr f p) i = f q ∧ rr (f q) = true
  | 0, i, h => by simp [hl] at h
  | p + 1, i, h => by
    unfold hl at h ⊢
    cases e : rr (f p) with
    | false =>
      rw [e] at h
      simp only [Bool.false_eq_true, if_false] at h ⊢
      obtain ⟨q, h1, h2, h3⟩ := hl_at rr f p i h
      exact ⟨q, by omega, h2, h3⟩
    | true =>
      rw [e] at h
      simp only [if_true] at h ⊢
      rw [List.length_append] at h
      have h' : i < (hl rr f p).length + 1 := h
      by_cases c : i = (hl rr f p).length
      · exact ⟨p, by omega, by rw [c]; exact gd_hi, e⟩
      · obtain ⟨q, h1, h2, h3⟩ := hl_at rr f p i (by omega)
        exact ⟨q, by omega, by rw [gd_lo (by omega)]; exact h2, h3⟩
theorem hl_nd {n : Nat} {rr : Nat → Bool} {f : Nat → Nat} (hf : Pm n f) : ∀ p, p ≤ n → ND (hl rr f p)
  | 0, _ => fun i j _ hj => by simp [hl] at hj
  | p + 1, hp => by
    unfold hl
    cases e : rr (f p) with
    | false => simp only [Bool.false_eq_true, if_false]; exact hl_nd hf p (by omega)
    | true =>
      simp only [if_true]
      refine nd_snoc (hl_nd hf p (by omega)) (fun i hi c => ?_)
      obtain ⟨q, h1, h2, -⟩ := hl_at rr f p i hi
      exact hf.2 q p h1 (by omega) (h2.symm.trans c)
/-- all bells: those heard, then the others in their order -/
def cl (rr : Nat → Bool) (f : Nat → Nat) (n b : Nat) : List Nat := hl rr f n ++ sl rr b
theorem cl_s (rr : Nat → Bool) (f : Nat → Nat) (n b : Nat) : cl rr f n (b + 1) = if rr b then cl rr f n b else cl rr f n b ++ [b] := by
  show hl rr f n ++ (if rr b then sl rr b else sl rr b ++ [b]) = if rr b then hl rr f n ++ sl rr b else hl rr f n ++ sl rr b ++ [b]
  cases rr b with
  | true => rfl
  | false => simp
theorem cl_len (rr : Nat → Bool) (f : Nat → Nat) (n b : Nat) : (cl rr f n b).length = fb_ct (fun q => rr (f q)) n + fb_ct (fun q => !rr q) b := by
  unfold cl
  rw [List.length_append, hl_len, sl_len]
theorem ct_pmi {n : Nat} {f : Nat → Nat} (hf : Pm n f) (rr : Nat → Bool) : fb_ct (fun q => rr (f q)) n = fb_ct rr n := by
  rw [← sm_ct, ← sm_ct]
  exact sm_perm hf (fun b => if rr b then 1 else 0)
theorem cl_n {n : Nat} {f : Nat → Nat} (hf : Pm n f) (rr : Nat → Bool) : (cl rr f n n).length = n := by
  rw [cl_len, ct_pmi hf]
  exact fb_ct_not rr n
theorem cl_at {n : Nat} {f : Nat → Nat} (hf : Pm n f) (rr : Nat → Bool) : ∀ b i, i < (cl rr f n b).length → (rr (gd (cl rr f n b) i) = true ∧ gd (cl rr f n b) i < n) ∨ (rr (gd (cl rr f n b) i) = false ∧ gd (cl rr f n b) i < b)
  | 0, i, h => by
    have e : cl rr f n 0 = hl rr f n := by unfold cl sl; simp
    rw [e] at h ⊢
    obtain ⟨q, h1, h2, h3⟩ := hl_at rr f n i h
    rw [h2]
    exact Or.inl ⟨h3, hf.1 q h1⟩
  | b + 1, i, h => by
    rw [cl_s] at h ⊢
    cases e : rr b with
    | true =>
      rw [e] at h
      simp only [if_true] at h ⊢
      rcases cl_at hf rr b i h with y | ⟨y1, y2⟩
      · exact Or.inl y
      · exact Or.inr ⟨y1, by omega⟩
    | false =>
      rw [e] at h
      simp only [Bool.false_eq_true, if_false] at h ⊢
      rw [List.length_append] at h
      have h' : i < (cl rr f n b).length + 1 := h
      by_cases c : i = (cl rr f n b).length
      · rw [c, gd_hi]
        exact Or.inr ⟨e, by omega⟩
      · rw [gd_lo (by omega)]
        rcases cl_at hf rr b i (by omega) with y | ⟨y1, y2⟩
        · exact Or.inl y
        · exact Or.inr ⟨y1, by omega⟩
theorem cl_nd {n : Nat} {f : Nat → Nat} (hf : Pm n f) (rr : Nat → Bool) : ∀ b, ND (cl rr f n b)
  | 0 => by
    have e : cl rr f n 0 = hl rr f n := by unfold cl sl; simp
    rw [e]
    exact hl_nd hf n (Nat.le_refl _)
  | b + 1 => by
    rw [cl_s]
    cases e : rr b with
    | true => simp only [if_true]; exact cl_nd hf rr b
    | false =>
      simp only [Bool.false_eq_true, if_false]
      refine nd_snoc (cl_nd hf rr b) (fun i hi c => ?_)
      rcases cl_at hf rr b i hi with ⟨y1, -⟩ | ⟨-, y2⟩
      · rw [c, e] at y1; cases y1
      · omega
theorem cl_pm {n : Nat} {f : Nat → Nat} (hf : Pm n f) (rr : Nat → Bool) : Pm n (gd (cl rr f n n)) := by
  have hl := cl_n hf rr
  refine ⟨fun p hp => ?_, fun p q hpq hq => cl_nd hf rr n p q hpq (by omega)⟩
  rcases cl_at hf rr n p (by omega) with ⟨-, y⟩ | ⟨-, y⟩
  · exact y
  · exact y
theorem pak_snoc {l : List Nat} {v : Nat} : pak (gd (l ++ [v])) (l ++ [v]).length = pak (gd l) l.length + v * 16 ^ l.length := by
  rw [List.length_append]
  show pak (gd (l ++ [v])) l.length + gd (l ++ [v]) l.length * 16 ^ l.length = _
  rw [gd_hi, pak_cong (fun p hp => gd_lo hp)]
theorem or_snoc {l : List Nat} {v : Nat} (h : ∀ i, i < l.length → gd l i < 16) (hl : l.length < 8) : nI (pak (gd l) l.length) ||| shl (nI v) (nI (4 * l.length)) = nI (pak (gd (l ++ [v])) (l ++ [v]).length) := by
  rw [pak_snoc, ← mulN 4 l.length]
  exact pak_or h hl
theorem len4 {l : List Nat} {v : Nat} : nI (4 * l.length) + 4 = nI (4 * (l ++ [v]).length) := by
  rw [List.length_append]
  exact nI_add (4 * l.length) 4
theorem sp_silentLast {n t : Nat} {rr : Nat → Bool} {f : Nat → Nat} {S : St} {Q : Int32 → Prop} (hn : n ≤ 8) (hf : Pm n f) (h8 : kd S t = 8) (hs : gI S t 0 = nI n) (hq : Q (nI (pak (gd (cl rr f n n)) n))) : P_X8_silentLast t (nI (pak f n)) (msk (fun p => !rr p) n) S Q := by
  have hlen := cl_n hf rr
  refine ⟨h8, fun u x3 x4 x5 => ∃ p, p ≤ n ∧ u = n - p ∧ x3 = nI (pak (gd (hl rr f p)) (hl rr f p).length) ∧ x4 = nI (4 * (hl rr f p).length) ∧ x5 = nI p, ⟨n, 0, by omega, rfl, rfl, rfl, rfl⟩, ?_⟩
  rintro u x3 x4 x5 ⟨p, hp, rfl, rfl, rfl, rfl⟩
  rw [hs]
  refine ⟨fun hc => ?_, fun hc => ?_⟩
  · have e : p = n := by
      have : n ≤ p := (nI_leI (by omega) (by omega)).mp hc
      omega
    subst e
    refine ⟨fun u x3 x4 x5 => ∃ b, b ≤ p ∧ u = p - b ∧ x3 = nI (pak (gd (cl rr f p b)) (cl rr f p b).length) ∧ x4 = nI (4 * (cl rr f p b).length) ∧ x5 = nI b, ⟨p, 0, by omega, rfl, ?_, ?_, rfl⟩, ?_⟩
    · have e : cl rr f p 0 = hl rr f p := by unfold cl sl; simp
      rw [e]
    · have e : cl rr f p 0 = hl rr f p := by unfold cl sl; simp
      rw [e]
    rintro u x3 x4 x5 ⟨b, hb, rfl, rfl, rfl, rfl⟩
    refine ⟨fun hc2 => ?_, fun hc2 => ?_⟩
    · have e : b = p := by
        have : p ≤ b := (nI_leI (by omega) (by omega)).mp hc2
        omega
      subst e
      rw [hlen]
      exact hq
    · have hlt := nI_gtI (by omega) (by omega) hc2
      rw [tb1 (by omega), msk_bt _ _ (by omega), decide_eq_true hlt, Bool.true_and]
      have cs := cl_s rr f p b
      cases e : rr b with
      | true =>
        rw [e, if_pos rfl] at cs
        refine ⟨fun _ w ew => ⟨p - (b + 1), by omega, b + 1, by omega, rfl, by rw [cs], by rw [cs], by rw [ew]; exact nI_1 b⟩, fun c => absurd rfl c⟩
      | false =>
        rw [e, if_neg (by decide)] at cs
        have l1 := cl_len rr f p (b + 1)
        have l2 := cl_len rr f p p
        have l3 := fb_ct_mono (fun q => !rr q) (show b + 1 ≤ p by omega)
        rw [cs, List.length_append] at l1
        have l1' : (cl rr f p b).length + 1 = fb_ct (fun q => rr (f q)) p + fb_ct (fun q => !rr q) (b + 1) := l1
        refine ⟨fun c => absurd c (by decide), fun _ w1 e1 w2 e2 w3 e3 => ⟨p - (b + 1), by omega, b + 1, by omega, rfl, ?_, ?_, by rw [e3]; exact nI_1 b⟩⟩
        · rw [e1, cs]
          refine or_snoc (fun i hi => ?_) (by omega)
          rcases cl_at hf rr b i hi with ⟨-, y⟩ | ⟨-, y⟩ <;> omega
        · rw [e2, cs]
          exact len4
  · have hlt := nI_gtI (by omega) (by omega) hc
    have hb := hf.1 p hlt
    refine sp_bellAt hn (pm8 hn hf) hlt ?_
    rw [tb1 (by omega), msk_bt _ _ (by omega), decide_eq_true hb, Bool.true_and]
    have hs1 : hl rr f (p + 1) = if rr (f p) then hl rr f p ++ [f p] else hl rr f p := rfl
    have l1 := hl_len rr f p
    have l2 := fb_ct_le (fun q => rr (f q)) p
    cases e : rr (f p) with
    | true =>
      rw [e, if_pos rfl] at hs1
      refine ⟨fun c => absurd rfl c, fun _ w1 e1 w2 e2 w3 e3 => ⟨n - (p + 1), by omega, p + 1, by omega, rfl, ?_, ?_, by rw [e3]; exact nI_1 p⟩⟩
      · rw [e1, hs1]
        refine or_snoc (fun i hi => ?_) (by omega)
        obtain ⟨q, h1, h2, -⟩ := hl_at rr f p i hi
        have := hf.1 q (by omega)
        omega
      · rw [e2, hs1]
        exact len4
    | false =>
      rw [e, if_neg (by decide)] at hs1
      exact ⟨fun _ w ew => ⟨n - (p + 1), by omega, p + 1, by omega, rfl, by rw [hs1], by rw [hs1], by rw [ew]; exact nI_1 p⟩, fun c => absurd c (by decide)⟩
/-! The reference's numbers of what is heard. -/
def h9 (l : List Nat) : Nat := l.foldl (fun v c => 9 * v + c + 1) 0
theorem h9_s (l : List Nat) (c : Nat) : h9 (l ++ [c]) = 9 * h9 l + c + 1 := by
  unfold h9
  rw [List.foldl_append]
  rfl
theorem h9_lt (rr : Nat → Bool) {n : Nat} {f : Nat → Nat} (hn : n ≤ 8) (hf : Pm n f) : ∀ p, p ≤ n → h9 (hl rr f p) < 9 ^ p
  | 0, _ => Nat.zero_lt_one
  | p + 1, hp => by
    have ih := h9_lt rr hn hf p (by omega)
    have hb := hf.1 p (by omega)
    rw [Nat.pow_succ]
    unfold hl
    split
    · rw [h9_s]; omega
    · omega
theorem h9_inj : ∀ k (l l2 : List Nat), l.length ≤ k → (∀ i, i < l.length → gd l i < 8) → (∀ i, i < l2.length → gd l2 i < 8) → h9 l = h9 l2 → l = l2
  | 0, l, l2, hk, h1, h2, e => by
    have : l = [] := List.eq_nil_of_length_eq_zero (by omega)
    subst this
    rcases List.eq_nil_or_concat l2 with c | ⟨L, b, c⟩
    · exact c.symm
    · rw [List.concat_eq_append] at c
      subst c
      rw [h9_s] at e
      have : h9 [] = 0 := rfl
      omega
  | k + 1, l, l2, hk, h1, h2, e => by
    rcases List.eq_nil_or_concat l with c | ⟨L, b, c⟩
    · subst c
      rcases List.eq_nil_or_concat l2 with c | ⟨L, b, c⟩
      · exact c.symm
      · rw [List.concat_eq_append] at c
        subst c
        rw [h9_s] at e
        have : h9 [] = 0 := rfl
        omega
    · rw [List.concat_eq_append] at c
      subst c
      rcases List.eq_nil_or_concat l2 with c | ⟨L2, b2, c⟩
      · subst c
        rw [h9_s] at e
        have : h9 [] = 0 := rfl
        omega
      · rw [List.concat_eq_append] at c
        subst c
        rw [h9_s, h9_s] at e
        have y1 := h1 L.length (by rw [List.length_append]; exact Nat.lt_succ_self _)
        have y2 := h2 L2.length (by rw [List.length_append]; exact Nat.lt_succ_self _)
        rw [gd_hi] at y1 y2
        rw [List.length_append] at hk
        have hk' : L.length + 1 ≤ k + 1 := hk
        have eb : b = b2 := by omega
        subst eb
        rw [h9_inj k L L2 (by omega) (fun i hi => by rw [← gd_lo (v := b) hi]; exact h1 i (by rw [List.length_append]; exact Nat.lt_succ_of_lt hi)) (fun i hi => by rw [← gd_lo (v := b) hi]; exact h2 i (by rw [List.length_append]; exact Nat.lt_succ_of_lt hi)) (by omega)]
theorem sm_heardOf {S : St} {m n : Nat} {rr : Nat → Bool} {f : Nat → Nat} {am : Nat → Nat} {Q : Int32 → FI → Prop} (hL : LM S m am) (hn : n ≤ 8) (hn1 : 1 ≤ n) (h0 : gI S (am 0) 0 = nI n) (h3 : gI S (am 0) 3 = msk rr n) (hf : Pm n f)
    (hq : ∀ F', On (am 24) (gI S) F' → Q (nI (h9 (hl rr f n))) F') : P_X12_heardOf m (nI (num n f)) S Q := by
  refine ⟨hL.z, am 24, hL.r 24, sm_laysRow hL hn hn1 h0 (num_lt hf) (hL.k 24) (hL.l 24) (fun F' o' r' => ?_)⟩
  have e0 : F' (am 0) = gI S (am 0) := o' _ (hL.n (by decide))
  refine ⟨fun u x2 x3 => ∃ p, p ≤ n ∧ u = n - p ∧ x2 = nI (h9 (hl rr f p)) ∧ x3 = nI p, ⟨n, 0, by omega, rfl, rfl, rfl⟩, ?_⟩
  rintro u x2 x3 ⟨p, hp, rfl, rfl, rfl⟩
  refine ⟨am 0, hL.r 0, hL.k 0, hL.i 0 (p := 0) (by decide), ?_⟩
  rw [e0, h0]
  refine ⟨fun hc => ?_, fun hc => ?_⟩
  · have e : p = n := by
      have : n ≤ p := (nI_leI (by omega) (by omega)).mp hc
      omega
    subst e
    exact hq F' o'
  · have hlt := nI_gtI (by omega) (by omega) hc
    have hb := hf.1 p hlt
    refine ⟨hL.i 0 (p := 3) (by decide), hL.k 24, hL.i 24 (by show p < 8; omega), ?_⟩
    rw [nI_clamp (by omega), r' p hlt, lay_num hn hf p hlt, h3, tb2 (by omega), msk_bt _ _ (by omega), decide_eq_true hb, Bool.true_and]
    have hs1 : hl rr f (p + 1) = if rr (f p) then hl rr f p ++ [f p] else hl rr f p := rfl
    cases e : rr (f p) with
    | true =>
      rw [e, if_pos rfl] at hs1
      refine ⟨fun c => absurd rfl c, fun _ w1 e1 w2 e2 => ⟨n - (p + 1), by omega, p + 1, by omega, rfl, ?_, by rw [e2]; exact nI_1 p⟩⟩
      rw [e1, hs1, h9_s]
      show nI 9 * nI (h9 (hl rr f p)) + nI (f p) + 1 = _
      rw [mulN, nI_add, nI_1]
    | false =>
      rw [e, if_neg (by decide)] at hs1
      exact ⟨fun _ w ew => ⟨n - (p + 1), by omega, p + 1, by omega, rfl, by rw [hs1], by rw [ew]; exact nI_1 p⟩, fun c => absurd c (by decide)⟩
theorem heard_eq {n : Nat} {rr : Nat → Bool} {f g : Nat → Nat} (hn : n ≤ 8) (hf : Pm n f) (hg : Pm n g) : num n (gd (cl rr f n n)) = num n (gd (cl rr g n n)) ↔ h9 (hl rr f n) = h9 (hl rr g n) := by
  have l1 := cl_n hf rr
  have l2 := cl_n hg rr
  have d : ∀ {f : Nat → Nat}, Pm n f → ∀ i, i < (hl rr f n).length → gd (hl rr f n) i < 8 := fun hf i hi => by
    obtain ⟨q, h1, h2, -⟩ := hl_at rr _ n i hi
    have := hf.1 q h1
    omega
  refine ⟨fun e => ?_, fun e => ?_⟩
  · have e2 : cl rr f n n = cl rr g n n := gd_ext (l1.trans l2.symm) (fun i hi => num_inj hn (cl_pm hf rr) (cl_pm hg rr) e i (by omega))
    unfold cl at e2
    rw [List.append_cancel_right e2]
  · have e2 := h9_inj _ _ _ (Nat.le_refl _) (d hf) (d hg) e
    unfold cl
    rw [e2]
theorem lk_cong {key key2 : Nat → Nat} {N : Nat} (h : ∀ i j, 1 ≤ i → i < N → 1 ≤ j → j < N → (key i = key j ↔ key2 i = key2 j)) : fb_ct (lk key) N = fb_ct (lk key2) N := fb_ct_cong (fun k hk => by
  have y : lk key k = true ↔ lk key2 k = true := by
    rw [lk_iff, lk_iff]
    exact ⟨fun ⟨h1, j, h2, h3, h4⟩ => ⟨h1, j, h2, h3, (h j k h2 (by omega) h1 hk).mp h4⟩, fun ⟨h1, j, h2, h3, h4⟩ => ⟨h1, j, h2, h3, (h j k h2 (by omega) h1 hk).mpr h4⟩⟩
  cases e1 : lk key k <;> cases e2 : lk key2 k
  · rfl
  · have := y.mpr e2; rw [e1] at this; cases this
  · have := y.mp e1; rw [e2] at this; cases this
  · rfl)
theorem hl_all {n : Nat} {rr : Nat → Bool} {f : Nat → Nat} (hf : Pm n f) (h : ∀ b, b < n → rr b = true) : ∀ p, p ≤ n → (hl rr f p).length = p ∧ ∀ i, i < p → gd (hl rr f p) i = f i
  | 0, _ => ⟨rfl, fun i hi => by omega⟩
  | p + 1, hp => by
    obtain ⟨h1, h2⟩ := hl_all hf h p (by omega)
    unfold hl
    rw [h _ (hf.1 p (by omega))]
    simp only [if_true]
    refine ⟨by rw [List.length_append, h1]; rfl, fun i hi => ?_⟩
    by_cases c : i = p
    · have : gd (hl rr f p ++ [f p]) (hl rr f p).length = f p := gd_hi
      rw [h1] at this
      rw [c]; exact this
    · rw [gd_lo (by omega)]; exact h2 i (by omega)
theorem cl_all {n : Nat} {rr : Nat → Bool} {f : Nat → Nat} (hf : Pm n f) (h : ∀ b, b < n → rr b = true) : ∀ p, p < n → f p = gd (cl rr f n n) p := fun p hp => by
  have : ∀ b, b ≤ n → sl rr b = [] := fun b => by
    induction b with
    | zero => intro _; rfl
    | succ b ih => intro hb; unfold sl; rw [h b (by omega)]; simp only [if_true]; exact ih (by omega)
  unfold cl
  rw [this n (Nat.le_refl _), List.append_nil]
  exact ((hl_all hf h n (Nat.le_refl _)).2 p hp).symm
section HA
variable {S : St} {x b m q s a len p c d : Nat} {am : Nat → Nat} {im : Nat → Prop} {B : Bk} {o : Option Tc} {Q : Int32 → St → Prop}
theorem call_heardAlike (h : CB S x b m am im B) (hr : RC S x am im (bn B) o) (hC : StC S x m am im q s a len p) (hbd : o ≠ none → fac (bn B) ≤ len ∨ (1 ≤ c ∧ fac (bn B) ≤ d))
    (hq : ∀ v S1 a' len' p', (o ≠ none → fac (bn B) ≤ len') → EndS S x s a len p S1 a' len' p' → ThZ S1 x m q am v (P_X12_heardAlike m S1) → Q v S1) : P_X11_heardAlike x S c d Q := by
  have hn := h.n8
  have hC' := hC
  obtain ⟨hM, hq0, hs, hS, hp, him, hma⟩ := hC'
  cases o with
  | none =>
    refine ⟨h.x, fun c => absurd hr.1 c, fun _ => rf h.x ?_⟩
    obtain ⟨k2, E, C1, R1, M1, e3⟩ := stc_end (S2 := S) h hr hC 6 Fr.rf (Or.inl ⟨rfl, rfl⟩) hS (by omega)
    refine hq _ _ a len p (fun c => absurd rfl c) E (fun Q2 h2 => ?_)
    exact ⟨C1.L.z, am 0, C1.L.r 0, C1.L.k 0, C1.L.i 0 (p := 6) (by decide), fun c => absurd R1.2 c, fun _ => rZ (S1 := wI S (upI (gI S) x 0 6)) C1.L.z C1.L e3 Kp.rf (Nat.le_refl _) (by omega) M1 h2⟩
  | some T =>
    have hr' := hr
    obtain ⟨ht, t, rt, tx, -⟩ := hr'
    have hN := ht.1
    refine ⟨h.x, fun _ => ⟨t, rt, s, hs, b, h.b, h.k, tx.2.1, c, d, Nat.le_refl _, Nat.le_refl _, ?_⟩, fun c => absurd c (some_ne rt)⟩
    rw [h.B.2.2.2.2.1]
    have zero : msk (fun p => !brr B p) (bn B) = 0 → ∀ j, j < bn B → brr B j = true := fun e j hj => by
      have y := msk_bt (fun p => !brr B p) (bn B) (j := j) (by omega)
      rw [e, b_0, decide_eq_true hj, Bool.true_and] at y
      cases e2 : brr B j
      · rw [e2] at y; cases y
      · rfl
    refine sp_alike (g := fun k => gd (cl (brr B) (trw T k) (bn B) (bn B))) tx ht hn hS hp (fun e he => ⟨(him e he).1, (him e he).2.2.1, (him e he).2.2.2⟩) (hbd (fun z => by cases z)) (fun k _ hk => cl_pm (trw_pm ht k hk) _) (fun e k _ hk => congrArg nI (pak_cong (cl_all (trw_pm ht k hk) (zero e)))) (fun _ k _ hk S2 Q2 g1 g2 g3 => sp_silentLast hn (trw_pm ht k hk) g1 g2 g3) (fun S2 a' len' p' fr2 hc2 sx2 hl2 hp2 => ?_)
    obtain ⟨k2, E, C1, R1, M1, e3⟩ := stc_end (S2 := S2) h hr hC 0 fr2 hc2 sx2 hp2
    obtain ⟨-, t1, rt1, tx1, tm1⟩ := R1
    have e6 := tm1.1
    obtain ⟨key, hkey⟩ : ∃ key : Nat → Nat, key = fun k => h9 (hl (brr B) (trw T k) (bn B)) := ⟨_, rfl⟩
    rw [lk_cong (key2 := key) (fun i j _ hi _ hj => by rw [hkey]; exact heard_eq hn (trw_pm ht i (by omega)) (trw_pm ht j (by omega)))]
    have klt : ∀ k, k ≤ tN T → key k < 2 ^ 31 := fun k hk => by
      rw [hkey]
      have y := h9_lt (brr B) hn (trw_pm ht k hk) (bn B) (Nat.le_refl _)
      have : 9 ^ (bn B) ≤ 9 ^ 8 := Nat.pow_le_pow_right (by decide) hn
      show h9 (hl (brr B) (trw T k) (bn B)) < 2 ^ 31
      omega
    refine ⟨k2, an k2 (hq _ _ a' len' p' (fun _ => hl2) E (fun Q2 h2 => ?_))⟩
    obtain ⟨S1, hS1⟩ : ∃ S1, S1 = wI S2 (upI (gI S2) x 0 0) := ⟨_, rfl⟩
    rw [← hS1] at C1 M1 e3 tm1 e6 h2 ⊢
    refine ⟨C1.L.z, am 0, C1.L.r 0, C1.L.k 0, C1.L.i 0 (p := 6) (by decide), fun _ => ?_, fun c => absurd (e6.symm.trans c) (N_ne hN)⟩
    refine ⟨fun u x1 x2 F => ∃ k, 1 ≤ k ∧ k ≤ tN T + 1 ∧ u = tN T + 1 - k ∧ x1 = nI (fb_ct (lk key) k) ∧ x2 = nI k ∧ Kp tQ m am (gI S1) F ∧ ∀ j, 1 ≤ j → j < k → F (am 37) j = nI (key j), ⟨tN T, 1, by omega, by omega, rfl, by rw [ct_from1 rfl]; rfl, rfl, Kp.rf, fun j h1 h2 => by omega⟩, ?_⟩
    rintro u x1 x2 F ⟨k, hk1, hk2, rfl, rfl, rfl, kk, h37⟩
    have T2 : TM T (bn B) (F (am 0)) := tm1.kp C1.L kk
    have B2 : BM B (F (am 0)) := C1.M.kp C1.L kk
    rw [T2.1]
    refine ⟨fun hc => ?_, fun hc => ?_⟩
    · have e : tN T + 1 = k := by
        rcases Nat.lt_or_ge (tN T) k with c | c
        · omega
        · exact absurd hc (nI_nlt c (by omega))
      subst e
      exact gZ C1.L.z C1.L e3 (kk.mono tQ_tZ) (Nat.le_refl _) (by omega) (M1.kp C1.L kk) h2
    · have hle : k ≤ tN T := by
        rcases Nat.lt_or_ge (tN T) k with c | c
        · exact absurd (nI_lt c (by omega)) hc
        · exact c
      have L2 : LM (wI S1 F) m am := C1.L
      rw [ix410]
      refine ⟨am 37, C1.L.r 37, C1.L.i 0 (by show 410 + k < 12100; omega), ?_⟩
      rw [nI_clamp (by omega), T2.2 k hle]
      refine sm_heardOf L2 hn C1.n1 B2.1 B2.2.2.1 (trw_pm ht k hle) (fun F3 o3 => ⟨C1.L.k 37, C1.L.i 37 (by show k < 2001; omega), fun F4 e4 => ?_⟩)
      rw [nI_clamp (by omega)] at e4
      have ek : h9 (hl (brr B) (trw T k) (bn B)) = key k := by rw [hkey]
      rw [ek] at e4
      have k4 : Kp tQ m am (gI S1) F4 := by rw [e4]; exact (kk.tr (Kp.on C1.L 24 o3)).tr (Kp.on C1.L 37 On.up)
      have f37 : ∀ j, 1 ≤ j → j < k + 1 → F4 (am 37) j = nI (key j) := fun j h1 h2 => by
        rw [e4]
        by_cases c : j = k
        · rw [c, up_at]
        · rw [up_no c, o3 _ (C1.L.n (by decide))]
          exact h37 j h1 (by omega)
      refine ⟨fun u x3 => ∃ i, 1 ≤ i ∧ i ≤ k ∧ u = k - i ∧ x3 = nI i ∧ ∀ j, 1 ≤ j → j < i → key j ≠ key k, ⟨k - 1, 1, by omega, by omega, rfl, rfl, fun j h1 h2 => by omega⟩, ?_⟩
      rintro u x3 ⟨i, hi1, hi2, rfl, rfl, hno⟩
      refine ⟨C1.L.i 37 (by show i < 2001; omega), ?_⟩
      have a1 := klt i (by omega)
      have a2 := klt k hle
      rw [nI_clamp (by omega), nI_clamp (by omega), f37 i hi1 (by omega), f37 k hk1 (by omega), nI_eq a1 a2]
      refine ⟨fun he => ⟨fun hc2 w1 e1 w2 e2 => ⟨tN T + 1 - (k + 1), by omega, k + 1, by omega, by omega, rfl, e1.trans (ct_no0 (fun cl => ?_)), by rw [e2]; exact nI_1 k, k4, f37⟩, fun hc2 w1 e1 w2 e2 => ⟨tN T + 1 - (k + 1), by omega, k + 1, by omega, by omega, rfl, e1.trans (ct_yes ((lk_iff key k).mpr ⟨hk1, i, hi1, ?_, he⟩)), by rw [e2]; exact nI_1 k, k4, f37⟩⟩, fun hne w1 e1 => ⟨k - (i + 1), ?_, i + 1, by omega, ?_, rfl, by rw [e1]; exact nI_1 i, fun j h1 h2 => ?_⟩⟩
      · have : k ≤ i := (nI_leI (by omega) (by omega)).mp hc2
        obtain ⟨-, j, y1, y2, y3⟩ := (lk_iff key k).mp cl
        exact hno j y1 (by omega) y3
      · exact nI_gtI (by omega) (by omega) hc2
      · have : i ≠ k := fun e => hne (by rw [e])
        omega
      · have : i ≠ k := fun e => hne (by rw [e])
        omega
      · by_cases c : j = i
        · subst c; exact hne
        · exact hno j h1 (by omega)
end HA
