/-! Words, names and faults on both sides. -/
section MW3
variable {S : St} {m : Nat} {am : Nat → Nat} {tx : Nat → Nat} {L p : Nat}
theorem mtc_2 {t : Nat} (h : t ≤ 17) : nI (mtc t) = 2 ↔ 4 ≤ t := by
  have : ∀ t, t < 18 → (nI (mtc t) = 2 ↔ 4 ≤ t) := by decide
  exact this t (by omega)
theorem mtc_3 {t : Nat} (h : t ≤ 17) : nI (mtc t) = 3 ↔ t = 3 := by
  have : ∀ t, t < 18 → (nI (mtc t) = 3 ↔ t = 3) := by decide
  exact this t (by omega)
theorem mtc_4 {t : Nat} (h : t ≤ 17) : nI (mtc t) = 4 ↔ t = 2 := by
  have : ∀ t, t < 18 → (nI (mtc t) = 4 ↔ t = 2) := by decide
  exact this t (by omega)
theorem mtc_1 {t : Nat} (h : t ≤ 17) : nI (mtc t) = 1 ↔ t = 0 := by
  have : ∀ t, t < 18 → (nI (mtc t) = 1 ↔ t = 0) := by decide
  exact this t (by omega)
theorem mtc_0 {t : Nat} (h : t ≤ 17) : nI (mtc t) = 0 ↔ t = 1 := by
  have : ∀ t, t < 18 → (nI (mtc t) = 0 ↔ t = 1) := by decide
  exact this t (by omega)
theorem mki_lo {t : Nat} (h : t < 6) : mki t = -1 := by
  have : ∀ t, t < 6 → mki t = -1 := by decide
  exact this t h
theorem sm_inWords {Q : Int32 → Prop} (hL : LM S m am) (hX : TxM (gI S) m am tx L) (hT : TkM (gI S) m tx L p) (hq : Q (mki (tk tx L p))) : P_X12_inWords m 12 S Q := by
  obtain ⟨t13, t14, t12, -, -⟩ := hT
  have t17 := tk_17 (tx := tx) (L := L) p
  have L9 := hX.2.1
  refine ⟨hL.z, ?_⟩
  rw [t12]
  refine ⟨fun hw => ?_, fun hw => ?_⟩
  · have h4 : 4 ≤ tk tx L p := (mtc_2 t17).mp hw
    obtain ⟨w1, w2, w3, w4, w5⟩ := tk_word h4
    obtain ⟨wo, wl⟩ := wd_ok h4
    refine ⟨fun n x2 x3 => ∃ k, k ≤ 12 ∧ n = 12 - k ∧ x2 = nI k ∧ x3 = nI (wst k) ∧ ∀ j, j < k → wd tx L p ≠ kcw (cmi j), ⟨12, 0, by omega, rfl, rfl, rfl, fun j hj => by omega⟩, ?_⟩
    rintro n x2 x3 ⟨k, hk, rfl, rfl, rfl, hno⟩
    refine ⟨by decide, fun hc => ?_, fun hc => ?_⟩
    · have k12 : k = 12 := by
        rcases Nat.lt_or_ge k 12 with z | z
        · have h1 := (mki_y k z).2.2.1
          exact absurd hc (nI_ge (b := 64) h1 (by decide))
        · omega
      subst k12
      rcases tk_nkw h4 (fun i hi e => by
        obtain ⟨k, k1, k2⟩ := cmi_on i hi
        exact hno k k1 (by rw [k2]; exact e)) with e | e
      · rw [e] at hq; exact hq
      · rw [e] at hq; exact hq
    · have k12 : k < 12 := by
        rcases Nat.lt_or_ge k 12 with z | z
        · exact z
        · have : k = 12 := by omega
          subst this
          exact absurd (by decide : nI (sLen.getD 12 0) ≤ nI (wst 12)) hc
      obtain ⟨y1, y2, y3, y4, y5, y6, y7⟩ := mki_y k k12
      obtain ⟨wl', hwl⟩ : ∃ w, w = (kcw (cmi k)).length := ⟨_, rfl⟩
      rw [← hwl] at y4 y5 y6 y7
      have w64 : wst k + wl' < 64 := by
        have : ∀ k, k < 13 → wst k ≤ 64 := by decide
        have := this (k + 1) (by omega)
        omega
      refine ⟨fun n x4 => ∃ e, wst k ≤ e ∧ e ≤ wst k + wl' ∧ n = wst k + wl' - e ∧ x4 = nI e, ⟨wl', wst k, Nat.le_refl _, by omega, by omega, rfl⟩, ?_⟩
      rintro n x4 ⟨e, he1, he2, rfl, rfl⟩
      refine ⟨by decide, vp_in_nI (show e < 64 by omega) (by decide), fun h32 => ?_, fun h32 v ev => ?_⟩
      · have ee : e = wst k + wl' := by
          rcases Nat.lt_or_ge e (wst k + wl') with z | z
          · have := (y7 (e - wst k) (by omega)).2
            rw [show wst k + (e - wst k) = e by omega] at this
            exact absurd h32 this
          · omega
        subst ee
        rw [t14, t13, dif_nI (by omega), dif_nI (by omega), show wst k + wl' - wst k = wl' by omega]
        -- the next word
        have nxt : wd tx L p ≠ kcw (cmi k) → ∀ v_19 : Int32, v_19 = nI k + 1 → ∀ v_20 : Int32, v_20 = nI (wst k + wl') + 1 → ∃ n', n' < 12 - k ∧ ∃ k', k' ≤ 12 ∧ n' = 12 - k' ∧ v_19 = nI k' ∧ v_20 = nI (wst k') ∧ ∀ j, j < k' → wd tx L p ≠ kcw (cmi j) := fun hne v19 e19 v20 e20 => ⟨12 - (k + 1), by omega, k + 1, by omega, rfl, by rw [e19]; exact nI_1 k, by rw [e20, y4]; exact nI_1 _, fun j hj => by
          by_cases cj : j = k
          · subst cj; exact hne
          · exact hno j (by omega)⟩
        refine ⟨fun hne => ?_, fun heq => ?_⟩
        · have lne : wd tx L p ≠ kcw (cmi k) := fun e => hne (by rw [← wl, e, ← hwl])
          refine ⟨fun _ x5 _ => x5 = 0, ⟨0, rfl⟩, ?_⟩
          rintro _ _ x6 rfl
          exact ⟨True, fun _ => ⟨fun _ => nxt lne, fun y => absurd rfl y⟩, fun _ => trivial, fun _ => ⟨fun _ => trivial, fun y => absurd rfl y⟩⟩
        · have leq : wl' = nx tx L p - sk tx L p := (nI_eq (by omega) (by omega)).mp heq
          refine ⟨fun n x5 x6 => ∃ i, i ≤ wl' ∧ n = wl' - i ∧ x6 = nI (wst k + i) ∧ ((x5 = 1 ∧ ∀ j, j < i → (wd tx L p).getD j 0 = (kcw (cmi k)).getD j 0) ∨ (x5 = 0 ∧ wd tx L p ≠ kcw (cmi k))), ⟨wl', 0, by omega, rfl, rfl, Or.inl ⟨rfl, fun j hj => by omega⟩⟩, ?_⟩
          rintro n x5 x6 ⟨i, hi, rfl, rfl, hst⟩
          refine ⟨(x5 = 0 ∧ wd tx L p ≠ kcw (cmi k)) ∨ (x5 = 1 ∧ wd tx L p = kcw (cmi k)), fun hj => ⟨fun h0 => ?_, fun h0 => ?_⟩, fun hc => ?_, fun hc => ⟨fun h0 => ?_, fun h0 => ?_⟩⟩
          · rcases hj with ⟨-, y⟩ | ⟨y, -⟩
            · exact nxt y
            · rw [h0] at y; exact absurd y (by decide)
          · rcases hj with ⟨y, -⟩ | ⟨-, y⟩
            · exact absurd y h0
            · rw [tk_kw h4 y2 y, y1] at hq; exact hq
          · have ie : i = wl' := by
              have : wst k + wl' ≤ wst k + i := (nI_leI (by omega) (by omega)).mp hc
              omega
            subst ie
            rcases hst with ⟨y, z⟩ | ⟨y, z⟩
            · exact Or.inr ⟨y, list_eq (by rw [wl, ← hwl, leq]) (fun j hj => z j (by omega))⟩
            · exact Or.inl ⟨y, z⟩
          · rcases hst with ⟨y, z⟩ | ⟨y, z⟩
            · rw [h0] at y; exact absurd y (by decide)
            · exact Or.inl ⟨y, z⟩
          · have hlt : wst k + i < wst k + wl' := nI_gtI (by omega) (by omega) hc
            obtain ⟨u1, u2⟩ := y7 i (by omega)
            have hall : ∀ j, j < i → (wd tx L p).getD j 0 = (kcw (cmi k)).getD j 0 := by
              rcases hst with ⟨y, z⟩ | ⟨y, z⟩
              · exact z
              · exact absurd y h0
            refine ⟨by decide, vp_in_nI (show wst k + i < 64 by omega) (by decide), ?_⟩
            rw [nI_add, dif_nI (by omega), show sk tx L p + (wst k + i) - wst k = sk tx L p + i by omega]
            obtain ⟨lt, ll⟩ := w4 (sk tx L p + i) (by omega) (by omega)
            have lr := isL_iff.mp ll
            have gd : (wd tx L p).getD i 0 = tx (sk tx L p + i) - 96 := lw_get tx (sk tx L p) (by omega)
            have kc := (kcw_ok (cmi k) y2).2 ((kcw (cmi k)).getD i 0) (by
              rw [List.getD_eq_getElem?_getD, List.getElem?_eq_getElem (by omega)]
              exact List.getElem_mem _)
            refine sm_byteAt hL hX (by omega) (fun _ => ?_) (fun y => by omega)
            rw [u1, nI_eq (by omega) (by omega)]
            refine ⟨fun hne v ev => ⟨wl' - (i + 1), by omega, i + 1, by omega, rfl, by rw [ev, show wst k + (i + 1) = wst k + i + 1 by omega]; exact nI_1 _, Or.inr ⟨rfl, fun e => hne ?_⟩⟩, fun heq2 v ev => ⟨wl' - (i + 1), by omega, i + 1, by omega, rfl, by rw [ev, show wst k + (i + 1) = wst k + i + 1 by omega]; exact nI_1 _, Or.inl ⟨rfl, fun j hj => ?_⟩⟩⟩
            · rw [e] at gd; omega
            · by_cases cj : j = i
              · subst cj; rw [gd]; omega
              · exact hall j (by omega)
      · have elt : e < wst k + wl' := by
          rcases Nat.lt_or_ge e (wst k + wl') with z | z
          · exact z
          · have : e = wst k + wl' := by omega
            subst this
            exact absurd y5 h32
        exact ⟨wst k + wl' - (e + 1), by omega, e + 1, by omega, by omega, rfl, by rw [ev]; exact nI_1 e⟩
  · have : ¬ 4 ≤ tk tx L p := fun z => hw ((mtc_2 t17).mpr z)
    rw [mki_lo (by omega)] at hq
    exact hq
/-- a keyword or none -/
theorem mki_eq {t c : Nat} (h : t ≤ 17) (hc : c < 12) : mki t = nI c ↔ t = 6 + cmi c := by
  have : ∀ t, t < 18 → ∀ c, c < 12 → (mki t = nI c ↔ t = 6 + cmi c) := by decide
  exact this t (by omega) c hc
theorem mki_m1 {t : Nat} (h : t ≤ 17) : mki t = -1 ↔ t < 6 := by
  have : ∀ t, t < 18 → (mki t = -1 ↔ t < 6) := by decide
  exact this t (by omega)
theorem sm_isName {Q : Int32 → Prop} (hL : LM S m am) (hX : TxM (gI S) m am tx L) (hT : TkM (gI S) m tx L p) (hy : tk tx L p = 4 → Q 1) (hn : tk tx L p ≠ 4 → Q 0) : P_X12_isName m 12 S Q := by
  have t17 := tk_17 (tx := tx) (L := L) p
  have L9 := hX.2.1
  refine ⟨hL.z, ?_⟩
  rw [hT.2.2.1, mtc_2 t17]
  refine ⟨fun c => hn (by omega), fun h4 => ?_⟩
  obtain ⟨w1, w2, w3, w4, w5⟩ := tk_word h4
  rw [hT.2.1, hT.1, dif_nI (by omega)]
  refine ⟨fun c => hn (fun e => ?_), fun c => sm_inWords hL hX hT ?_⟩
  · have : 8 < nx tx L p - sk tx L p := by
      rcases Nat.lt_or_ge 8 (nx tx L p - sk tx L p) with z | z
      · exact z
      · exact absurd c (nI_nlt (a := 8) z (by decide))
    rw [w5, if_neg (by omega)] at e; omega
  · rw [mki_m1 t17]
    have h8 : nx tx L p - sk tx L p ≤ 8 := by
      rcases Nat.lt_or_ge 8 (nx tx L p - sk tx L p) with z | z
      · exact absurd (nI_lt (a := 8) z (by omega)) c
      · exact z
    have n5 : tk tx L p ≠ 5 := fun e => by
      rw [w5, if_pos h8] at e
      unfold kwk at e
      rcases kwr_c (wd tx L p) 12 with ⟨y, -⟩ | ⟨i, -, -, y⟩ <;> omega
    exact ⟨fun z => hn (by omega), fun z => hy (by omega)⟩
theorem sm_nameHere {Q : Int64 → Prop} (hL : LM S m am) (hX : TxM (gI S) m am tx L) (hT : TkM (gI S) m tx L p) (h4 : tk tx L p = 4) (hq : Q (n256 (wd tx L p))) : P_X12_nameHere m S Q := by
  have L9 := hX.2.1
  obtain ⟨w1, w2, w3, w4, w5⟩ := tk_word (show 4 ≤ tk tx L p by omega)
  refine ⟨hL.z, fun v ev => ⟨fun n x1 x3 => ∃ i, i ≤ nx tx L p - sk tx L p ∧ n = nx tx L p - sk tx L p - i ∧ x1 = n256 (lw tx (sk tx L p) i) ∧ x3 = nI (sk tx L p + i), ⟨nx tx L p - sk tx L p, 0, by omega, by omega, rfl, by rw [ev]; exact hT.1⟩, ?_⟩⟩
  rintro n x1 x3 ⟨i, hi, rfl, rfl, rfl⟩
  rw [hT.2.1]
  refine ⟨fun hc => ?_, fun hc => ?_⟩
  · have : nx tx L p ≤ sk tx L p + i := (nI_leI (by omega) (by omega)).mp hc
    have : i = nx tx L p - sk tx L p := by omega
    subst this
    exact hq
  · have hlt : sk tx L p + i < nx tx L p := nI_gtI (by omega) (by omega) hc
    obtain ⟨lt, ll⟩ := w4 (sk tx L p + i) (by omega) hlt
    have lr := isL_iff.mp ll
    refine sm_byteAt hL hX (by omega) (fun _ v7 e7 v8 e8 => ⟨nx tx L p - sk tx L p - (i + 1), by omega, i + 1, by omega, rfl, ?_, by rw [e8, show sk tx L p + (i + 1) = sk tx L p + i + 1 by omega]; exact nI_1 _⟩) (fun y => by omega)
    rw [e7, lw_s, n256_s, nI_l (by omega), show tx (sk tx L p + i) - 96 + 96 = tx (sk tx L p + i) by omega]
theorem sm_findHere {base many : Nat} {nm : Nat → List Nat} {Q : Int32 → Prop} (hL : LM S m am) (hX : TxM (gI S) m am tx L) (hT : TkM (gI S) m tx L p) (h4 : tk tx L p = 4) (hb : base + many ≤ 70) (hN : ∀ k, k < many → gJ S (am 1) (base + k) = n256 (nm k) ∧ wok (nm k) ∧ (nm k).length ≤ 8)
    (hy : ∀ k, k < many → nm k = wd tx L p → (∀ j, j < k → nm j ≠ wd tx L p) → Q (nI k)) (hn : (∀ j, j < many → nm j ≠ wd tx L p) → Q (-1)) : P_X12_findHere m (nI base) (nI many) S Q := by
  have h4' : 4 ≤ tk tx L p := by omega
  obtain ⟨w1, w2, w3, w4, w5⟩ := tk_word h4'
  obtain ⟨wo, wl⟩ := wd_ok h4'
  have w8 : (wd tx L p).length ≤ 8 := by
    rw [wl]
    by_cases c : nx tx L p - sk tx L p ≤ 8
    · exact c
    · rw [if_neg c] at w5; omega
  refine ⟨hL.z, fun n x3 => ∃ k, k ≤ many ∧ n = many - k ∧ x3 = nI k ∧ ∀ j, j < k → nm j ≠ wd tx L p, ⟨many, 0, by omega, rfl, rfl, fun j hj => by omega⟩, ?_⟩
  rintro n x3 ⟨k, hk, rfl, rfl, hno⟩
  refine ⟨fun hc => hn (fun j hj => hno j (by have := (nI_leI (by omega) (by omega)).mp hc; omega)), fun hc => ?_⟩
  have hlt := nI_gtI (by omega) (by omega) hc
  obtain ⟨n1, n2, n3⟩ := hN k hlt
  rw [nI_add]
  refine ⟨am 1, hL.r 1, hL.k 1, hL.i 1 (by show base + k < 70; omega), sm_nameHere hL hX hT h4 ?_⟩
  rw [nI_clamp (by omega), lg_cmp_eq, n1, n256_inj n2 wo n3 w8]
  refine ⟨fun hne v ev => ⟨many - (k + 1), by omega, k + 1, by omega, rfl, by rw [ev]; exact nI_1 k, fun j hj => ?_⟩, fun he => hy k hlt he hno⟩
  by_cases cj : j = k
  · subst cj; exact hne
  · exact hno j (by omega)
/-- what a fault changes in the reference -/
def FlM (m : Nat) (tx : Nat → Nat) (L p kn : Nat) (G F : FI) : Prop := (∀ a, a ≠ m → F a = G a) ∧ (∀ j, j ≠ 17 → j ≠ 18 → F m j = G m j) ∧ F m 18 = nI (if tk tx L p = 0 then 1 else kn) ∧ F m 17 = nI (sk tx L p)
theorem sm_fails {kn : Nat} {Q : Int32 → FI → Prop} (hL : LM S m am) (hT : TkM (gI S) m tx L p) (h18 : gI S m 18 = 0) (hq : ∀ F, FlM m tx L p kn (gI S) F → Q 0 F) : P_X12_fails m (nI kn) S Q := by
  have t17 := tk_17 (tx := tx) (L := L) p
  refine ⟨hL.z, fun y => absurd h18 y, fun _ => ⟨fun t => t = nI (if tk tx L p = 0 then 1 else kn), fun t ht F5 e5 v6 e6 F7 e7 => hq F7 ⟨fun a ha => by rw [e7, up_ne ha, e5, up_ne ha], fun j h1 h2 => by rw [e7, up_no h1, e5, up_no h2], by rw [e7, up_no (by decide), e5, up_at]; exact ht, by rw [e7, up_at, e6, e5, up_no (by decide)]; exact hT.1⟩, ?_, ?_⟩⟩
  · rw [hT.2.2.1, mtc_1 t17]
    intro c
    rw [if_neg c]
  · rw [hT.2.2.1, mtc_1 t17]
    intro c
    rw [if_pos c]
    rfl
end MW3
section CF
variable {S : St} {k tt rv : Nat} {tx : Nat → Nat} {L p : Nat}
/-- what a fault changes in the class -/
def FlC (k : Nat) (f s : Nat) (G F : FI) : Prop := (∀ a, a ≠ k → F a = G a) ∧ (∀ j, j ≠ 9 → j ≠ 10 → F k j = G k j) ∧ F k 9 = nI f ∧ F k 10 = nI s
def mis (tx : Nat → Nat) (L p : Nat) : Nat := if tk tx L p = 0 then 1 else 2
theorem sp_wrong {f s : Nat} {Q : Int32 → FI → Prop} (hk : kd S k = 7) (h4 : gI S k 4 = nI s) (hq : ∀ F, FlC k f s (gI S) F → Q 0 F) : P_X7_wrong k (nI f) S Q := ⟨hk, fun F1 e1 v2 e2 F3 e3 => hq F3 ⟨fun a ha => by rw [e3, up_ne ha, e1, up_ne ha], fun j h1 h2 => by rw [e3, up_no h2, e1, up_no h1], by rw [e3, up_no (by decide), e1, up_at], by rw [e3, up_at, e2, e1, up_no (by decide)]; exact h4⟩⟩
theorem nI_tk {p c : Nat} (hc : c < 100) : nI (tk tx L p) = nI c ↔ tk tx L p = c := nI_eq (by have := tk_17 (tx := tx) (L := L) p; omega) (by omega)
theorem sp_misplaced {Q : Int32 → FI → Prop} (hk : kd S k = 7) (hT : TkC (gI S) (gJ S) k tx L p) (hq : ∀ F, FlC k (mis tx L p) (sk tx L p) (gI S) F → Q 0 F) : P_X7_misplaced k S Q := by
  refine ⟨hk, fun t => t = nI (mis tx L p), ?_, ?_, ?_⟩
  · rintro _ rfl
    exact sp_wrong hk hT.1 (fun F h => ⟨Or.inl rfl, hq F h⟩)
  · rw [hT.2.2.1]
    intro c
    unfold mis
    rw [if_neg (fun z => c (by rw [z]; rfl))]; rfl
  · rw [hT.2.2.1]
    intro c
    unfold mis
    rw [if_pos ((nI_tk (c := 0) (by decide)).mp c)]; rfl
theorem sp_isAt {c : Nat} {J : Nat → Nat → Int64} {Q : Int32 → Prop} (hk : kd S k = 7) (hT : TkC (gI S) J k tx L p) (hc : c < 100) (hy : tk tx L p = c → Q 1) (hn : tk tx L p ≠ c → Q 0) : P_X7_isAt k (nI c) S Q := by
  refine ⟨hk, ?_⟩
  rw [hT.2.2.1, nI_tk hc]
  exact ⟨hn, hy⟩
theorem sp_take {c : Nat} {Q : Int32 → FI → (Nat → Nat → Int64) → Prop} (hX : TxC S (gI S) (gJ S) k tt rv tx L) (hT : TkC (gI S) (gJ S) k tx L p) (hp : p ≤ L) (hc : c < 100) (hy : tk tx L p = c → ∀ F J, NxF k (gI S) F → NxJ k (gJ S) J → TkC F J k tx L (nx tx L p) → Q 1 F J) (hn : tk tx L p ≠ c → ∀ F, FlC k (mis tx L p) (sk tx L p) (gI S) F → Q 0 F (gJ S)) : P_X7_take k (nI c) S Q := by
  refine ⟨hX.1, ?_⟩
  rw [hT.2.2.1, nI_tk hc]
  exact ⟨fun e => sp_next hX hT.2.1 (nx_le hp).2.2.1 (hy e), fun e => sp_misplaced hX.1 hT (fun F h => ⟨Or.inl rfl, hn e F h⟩)⟩
end CF
