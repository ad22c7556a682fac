/-! The class's search. -/
def seF (f : Nat) : Bool := [1, 2, 3, 4, 7].contains f
def SeX (S : St) (se : Nat) (sa : Nat → Nat) (len wl : Nat) : Prop := kd S se = 5 ∧ (∀ f, seF f = true → gR S se f = some (sa f) ∧ kd S (sa f) = 21) ∧ ln S (sa 1) = len ∧ ln S (sa 2) = len ∧ ln S (sa 3) = 12 ∧ ln S (sa 4) = 12 ∧ ln S (sa 7) = wl ∧ (∀ f g, seF f = true → seF g = true → f ≠ g → sa f ≠ sa g) ∧ len ≤ 40320 ∧ wl ≤ 40320
section SE
variable {S : St} {se b len wl : Nat} {sa : Nat → Nat} {im : Nat → Prop} {B : Bk}
theorem SeX.z (h : SeX S se sa len wl) : kd S se = 5 := h.1
theorem SeX.r (h : SeX S se sa len wl) (f : Nat) (hf : seF f = true := by decide) : gR S se f = some (sa f) := (h.2.1 f hf).1
theorem SeX.k (h : SeX S se sa len wl) (f : Nat) (hf : seF f = true := by decide) : kd S (sa f) = 21 := (h.2.1 f hf).2
theorem SeX.n (h : SeX S se sa len wl) {f g : Nat} (hn : f ≠ g) (hf : seF f = true := by decide) (hg : seF g = true := by decide) : sa f ≠ sa g := h.2.2.2.2.2.2.2.1 f g hf hg hn
theorem SeX.o (h : SeX S se sa len wl) (f : Nat) (hf : seF f = true := by decide) : sa f ≠ se := kd_ne (h.k f hf) h.z (by decide)
theorem SeX.l1 (h : SeX S se sa len wl) : ln S (sa 1) = len := h.2.2.1
theorem SeX.l2 (h : SeX S se sa len wl) : ln S (sa 2) = len := h.2.2.2.1
theorem SeX.l3 (h : SeX S se sa len wl) : ln S (sa 3) = 12 := h.2.2.2.2.1
theorem SeX.l4 (h : SeX S se sa len wl) : ln S (sa 4) = 12 := h.2.2.2.2.2.1
theorem SeX.l7 (h : SeX S se sa len wl) : ln S (sa 7) = wl := h.2.2.2.2.2.2.1
theorem SeX.le (h : SeX S se sa len wl) : len ≤ 40320 ∧ wl ≤ 40320 := h.2.2.2.2.2.2.2.2
def WS (se : Nat) (sa : Nat → Nat) (e : Nat) : Prop := e = se ∨ ∃ f, seF f = true ∧ e = sa f
def FSe (G : FI) (se : Nat) (sa : Nat → Nat) (F : FI) : Prop := (∀ a, ¬ WS se sa a → F a = G a) ∧ F se 8 = G se 8 ∧ F (sa 7) = G (sa 7)
theorem FSe.up {G F : FI} {f j : Nat} {v : Int32} (hX : SeX S se sa len wl) (h : FSe G se sa F) (hf : seF f = true := by decide) (h7 : f ≠ 7 := by decide) : FSe G se sa (upI F (sa f) j v) := ⟨fun a ha => by rw [up_ne (fun e => ha (Or.inr ⟨f, hf, e⟩))]; exact h.1 a ha, by rw [up_ne (Ne.symm (hX.o f hf))]; exact h.2.1, by rw [up_ne (hX.n (Ne.symm h7) (by decide) hf)]; exact h.2.2⟩
theorem FSe.us {G F : FI} {j : Nat} {v : Int32} (hX : SeX S se sa len wl) (h : FSe G se sa F) (hj : j ≠ 8 := by decide) : FSe G se sa (upI F se j v) := ⟨fun a ha => by rw [up_ne (fun e => ha (Or.inl e))]; exact h.1 a ha, by rw [up_no (Ne.symm hj)]; exact h.2.1, by rw [up_ne (hX.o 7)]; exact h.2.2⟩
/-- heads gathered, when a leads are looked at -/
def GH (B : Bk) (se : Nat) (sa : Nat → Nat) (a T : Nat) (lt : Nat → Nat) (F : FI) : Prop := F se 5 = nI T ∧ T ≤ a ∧ (∀ i, i < T → lt i < a ∧ F (sa 3) i = nI (pak (hb3 B (lt i)) (bn B)) ∧ F (sa 4) i = nI (lt i)) ∧ (∀ i j, i < j → j < T → lt i < lt j) ∧ ∀ c, c < a → (∃ i, i < T ∧ lt i = c) ∨ idn (bn B) (hb3 B c) ∨ ∃ i, i < T ∧ lt i < c ∧ Eqn (bn B) (hb3 B (lt i)) (hb3 B c)
theorem GH.cg {a T : Nat} {lt : Nat → Nat} {F F2 : FI} (h : GH B se sa a T lt F) (e5 : F2 se 5 = F se 5) (e3 : F2 (sa 3) = F (sa 3)) (e4 : F2 (sa 4) = F (sa 4)) : GH B se sa a T lt F2 := ⟨e5.trans h.1, h.2.1, fun i hi => by rw [e3, e4]; exact h.2.2.1 i hi, h.2.2.2⟩
theorem sp_gather {Q : FI → Prop} (hX : SeX S se sa len wl) (hb : bok B) (hB : BX B im S b) (him : ∀ e, im e → ¬ WS se sa e)
    (hq : ∀ F T lt, FSe (gI S) se sa F → F se 6 = 0 → F (sa 1) = gI S (sa 1) → F (sa 2) = gI S (sa 2) → GH B se sa (3 * bM B) T lt F → Q F) : P_X5_gatherHeads se b S Q := by
  have hn := hb.2.1
  have hM4 := hb.2.2.1
  have hp := hb3_pm hb
  have hB' := hB
  obtain ⟨ib, kb, s0, -, -, am, ra, ia, ka, la, hm⟩ := hB'
  refine ⟨hX.z, fun F1 e1 F2 e2 => ?_⟩
  have f0 : FSe (gI S) se sa (gI S) := ⟨fun _ _ => rfl, rfl, rfl⟩
  have f2 : FSe (gI S) se sa F2 := by rw [e2, e1]; exact (f0.us hX).us hX
  have o2 : ∀ e, e ≠ se → F2 e = gI S e := fun e he => by rw [e2, up_ne he, e1, up_ne he]
  obtain ⟨Iv, hIv⟩ : ∃ Iv : Nat → FI → Prop, Iv = fun a F => ∃ T lt, FSe (gI S) se sa F ∧ F se 6 = 0 ∧ F (sa 1) = gI S (sa 1) ∧ F (sa 2) = gI S (sa 2) ∧ GH B se sa a T lt F := ⟨_, rfl⟩
  have i0 : Iv 0 F2 := by
    rw [hIv]
    exact ⟨0, fun _ => 0, f2, by rw [e2, up_at], o2 _ (hX.o 1), o2 _ (hX.o 2), by rw [e2, up_no (by decide), e1, up_at]; rfl, Nat.le_refl _, fun i hi => by omega, fun i j _ hj => by omega, fun c hc => by omega⟩
  refine ⟨fun t x2 F => ∃ m, m ≤ bM B ∧ t = bM B - m ∧ x2 = nI m ∧ Iv (3 * m) F, ⟨bM B, 0, by omega, rfl, rfl, i0⟩, ?_⟩
  rintro t x2 F ⟨m, hm2, rfl, rfl, iv⟩
  refine ⟨kb, am, ra, ka, ?_⟩
  rw [la]
  refine ⟨fun hc => ?_, fun hc => ?_⟩
  · have e : m = bM B := by
      have : bM B ≤ m := (nI_leI (by omega) (by omega)).mp hc
      omega
    subst e
    rw [hIv] at iv
    obtain ⟨T, lt, y1, y2, y3, y4, y5⟩ := iv
    exact hq F T lt y1 y2 y3 y4 y5
  · have hlt := nI_gtI (by omega) (by omega) hc
    obtain ⟨q, rq, mq⟩ := hm m hlt
    obtain ⟨-, kq, -, -, -, -, ⟨a7, r7, i7, k7, l7, g7⟩⟩ := mq
    refine ⟨fun t x3 F => ∃ c, c ≤ 3 ∧ t = 3 - c ∧ x3 = nI c ∧ Iv (3 * m + c) F, ⟨3, 0, by omega, rfl, rfl, iv⟩, ?_⟩
    rintro t x3 F3 ⟨c, hc3, rfl, rfl, iv3⟩
    refine ⟨fun hcc w ew => ?_, fun hcc => ?_⟩
    · have e : c = 3 := by
        have : 3 ≤ c := (nI_leI (a := 3) (by decide) (by omega)).mp hcc
        omega
      subst e
      exact ⟨bM B - (m + 1), by omega, m + 1, by omega, rfl, by rw [ew]; exact nI_1 m, by rw [show 3 * (m + 1) = 3 * m + 3 by omega]; exact iv3⟩
    · have hlc : c < 3 := nI_gtI (n := 3) (by decide) (by omega) hcc
      have hst := iv3
      rw [hIv] at hst
      obtain ⟨T, lt, y1, y2, y3, y4, y5⟩ := hst
      obtain ⟨t1, t2, t3, t4, t5⟩ := y5
      have hbc : hb3 B (3 * m + c) = hd B m c := by unfold hb3; rw [show (3 * m + c) / 3 = m by omega, show (3 * m + c) % 3 = c by omega]
      have pc : Pm (bn B) (hb3 B (3 * m + c)) := hp _ (by omega)
      refine ⟨vp_in_nI hlt (by omega), q, by rw [nI_clamp (by omega)]; exact rq, kq, a7, r7, k7, by rw [l7]; exact vp_in_nI hlc (by decide), fun v21 e21 => ?_⟩
      have v21e : v21 = nI (pak (hb3 B (3 * m + c)) (bn B)) := by rw [e21, nI_clamp (by omega), y1.1 a7 (him a7 i7), g7 c hlc, hbc]
      subst v21e
      rw [t1]
      refine ⟨fun y => absurd ((nI_leI (a := 12) (by decide) (by omega)).mp y) (by omega), fun _ => ?_⟩
      rw [y1.1 b (him b ib), s0]
      refine sp_roundsOf hn ?_
      have nx : ∀ F4, Iv (3 * m + c + 1) F4 → ∀ w, w = nI c + 1 → ∃ k, k < 3 - c ∧ ∃ c', c' ≤ 3 ∧ k = 3 - c' ∧ w = nI c' ∧ Iv (3 * m + c') F4 := fun F4 h4 w ew => ⟨3 - (c + 1), by omega, c + 1, by omega, rfl, by rw [ew]; exact nI_1 c, h4⟩
      have dup : (idn (bn B) (hb3 B (3 * m + c)) ∨ ∃ i, i < T ∧ lt i < 3 * m + c ∧ Eqn (bn B) (hb3 B (lt i)) (hb3 B (3 * m + c))) → Iv (3 * m + c + 1) F3 := fun hd' => by
        rw [hIv]
        refine ⟨T, lt, y1, y2, y3, y4, t1, by omega, fun i hi => ⟨by have := (t3 i hi).1; omega, (t3 i hi).2⟩, t4, fun z hz => ?_⟩
        by_cases cz : z = 3 * m + c
        · subst cz; exact Or.inr hd'
        · exact t5 z (by omega)
      rw [pak_id hn (pm8 hn pc)]
      refine ⟨fun hid w ew => nx F3 (dup (Or.inl hid)) w ew, fun hid => ⟨hX.z, ?_⟩⟩
      refine ⟨fun t x2 => ∃ i, i ≤ T ∧ t = T - i ∧ x2 = nI i ∧ ∀ z, z < i → ¬ Eqn (bn B) (hb3 B (lt z)) (hb3 B (3 * m + c)), ⟨T, 0, by omega, rfl, rfl, fun z hz => by omega⟩, ?_⟩
      rintro t x2 ⟨i, hi, rfl, rfl, hno⟩
      have e5 : gI (wI S F3) se 5 = nI T := t1
      rw [e5]
      refine ⟨fun hci => ⟨fun y => absurd rfl y, fun _ => ⟨sa 3, hX.r 3, hX.k 3, ?_⟩⟩, fun hci => ?_⟩
      · have e : i = T := by
          have : T ≤ i := (nI_leI (by omega) (by omega)).mp hci
          omega
        subst e
        refine ⟨by rw [hX.l3]; exact vp_in_nI (by omega) (by decide), fun F33 e33 => ⟨sa 4, hX.r 4, hX.k 4, ?_⟩⟩
        rw [nI_clamp (by omega)] at e33
        have t33 : F33 se 5 = nI i := by rw [e33, up_ne (Ne.symm (hX.o 3))]; exact t1
        rw [t33]
        refine ⟨by rw [hX.l4]; exact vp_in_nI (by omega) (by decide), fun v37 e37 F38 e38 v39 e39 F40 e40 w ew => ?_⟩
        rw [nI_clamp (by omega)] at e38
        have v37e : v37 = nI (3 * m + c) := by
          rw [e37]; show nI m * nI 3 + nI c = _; rw [mulN, nI_add, Nat.mul_comm]
        subst v37e
        have v39e : v39 = nI (i + 1) := by rw [e39, e38, up_ne (Ne.symm (hX.o 4)), t33, nI_1]
        subst v39e
        refine nx F40 ?_ w ew
        rw [hIv]
        have c3 : F40 (sa 3) = F33 (sa 3) := by rw [e40, up_ne (hX.o 3), e38, up_ne (hX.n (by decide))]
        have c4 : F40 (sa 4) = F38 (sa 4) := by rw [e40, up_ne (hX.o 4)]
        refine ⟨i + 1, fun z => if z = i then 3 * m + c else lt z, by rw [e40, e38, e33]; exact ((y1.up hX (f := 3)).up hX (f := 4)).us hX, ?_, ?_, ?_, by rw [e40, up_at], by omega, fun z hz => ?_, fun z1 z2 h12 h2 => ?_, fun z hz => ?_⟩
        · rw [e40, up_no (by decide), e38, up_ne (Ne.symm (hX.o 4)), e33, up_ne (Ne.symm (hX.o 3))]; exact y2
        · rw [e40, up_ne (hX.o 1), e38, up_ne (hX.n (by decide)), e33, up_ne (hX.n (by decide))]; exact y3
        · rw [e40, up_ne (hX.o 2), e38, up_ne (hX.n (by decide)), e33, up_ne (hX.n (by decide))]; exact y4
        · show (if z = i then 3 * m + c else lt z) < 3 * m + c + 1 ∧ F40 (sa 3) z = nI (pak (hb3 B (if z = i then 3 * m + c else lt z)) (bn B)) ∧ F40 (sa 4) z = nI (if z = i then 3 * m + c else lt z)
          rw [c3, c4]
          by_cases cz : z = i
          · rw [if_pos cz, cz, e33, up_at, e38, up_at]
            exact ⟨by omega, rfl, rfl⟩
          · obtain ⟨q1, q2, q3⟩ := t3 z (by omega)
            rw [if_neg cz, e33, up_no cz, e38, up_no cz, e33, up_ne (hX.n (by decide))]
            exact ⟨by omega, q2, q3⟩
        · show (if z1 = i then 3 * m + c else lt z1) < if z2 = i then 3 * m + c else lt z2
          rw [if_neg (show z1 ≠ i by omega)]
          by_cases cz : z2 = i
          · rw [if_pos cz]; exact (t3 z1 (by omega)).1
          · rw [if_neg cz]; exact t4 z1 z2 h12 (by omega)
        · by_cases cz : z = 3 * m + c
          · exact Or.inl ⟨i, by omega, by show (if i = i then 3 * m + c else lt i) = z; rw [if_pos rfl, cz]⟩
          · rcases t5 z (by omega) with ⟨i1, h1, h2⟩ | hh | ⟨i1, h1, h2, h3⟩
            · exact Or.inl ⟨i1, by omega, by show (if i1 = i then 3 * m + c else lt i1) = z; rw [if_neg (by omega)]; exact h2⟩
            · exact Or.inr (Or.inl hh)
            · exact Or.inr (Or.inr ⟨i1, by omega, by show (if i1 = i then 3 * m + c else lt i1) < z; rw [if_neg (by omega)]; exact h2, by show Eqn (bn B) (hb3 B (if i1 = i then 3 * m + c else lt i1)) _; rw [if_neg (by omega)]; exact h3⟩)
      · have hli := nI_gtI (by omega) (by omega) hci
        obtain ⟨q1, q2, q3⟩ := t3 i hli
        refine ⟨sa 3, hX.r 3, hX.k 3, by show vp_in _ (ln S (sa 3)); rw [hX.l3]; exact vp_in_nI (by omega) (by decide), ?_⟩
        rw [nI_clamp (by omega)]
        show (¬ F3 (sa 3) i = _ → _) ∧ (F3 (sa 3) i = _ → _)
        rw [q2, pak_eq hn (pm8 hn (hp (lt i) (by omega))) (pm8 hn pc)]
        refine ⟨fun hne w ew => ⟨T - (i + 1), by omega, i + 1, by omega, rfl, by rw [ew]; exact nI_1 i, fun z hz => ?_⟩, fun he => ⟨fun _ w ew => nx F3 (dup (Or.inr ⟨i, hli, q1, he⟩)) w ew, fun y => absurd y one0⟩⟩
        by_cases cz : z = i
        · subst cz; exact hne
        · exact hno z (by omega)
/-- rows found so far, in the class -/
def CBs (n : Nat) (G0 F : FI) (se : Nat) (sa : Nat → Nat) (s : Bs) : Prop := FSe G0 se sa F ∧ F se 6 = nI (bC s) ∧ (∀ j, j < bC s → F (sa 1) j = nI (pak (lay n (bF s j)) n)) ∧ (∀ j, 1 ≤ j → j < bC s → F (sa 2) (bF s j) = nI (12 * bF s (bP s j) + (bW s j + 1))) ∧ F (sa 2) 0 = 1 ∧ ∀ r, r < fac n → us (bF s) (bC s) r = false → F (sa 2) r = 0
theorem sp_keepFound {C to : Nat} {row ld ah : Int32} {Q : FI → Prop} (hX : SeX S se sa len wl) (h6 : gI S se 6 = nI C) (hC : C < len) (ht : to < len)
    (hq : ∀ F, F = upI (upI (upI (gI S) (sa 1) C row) (sa 2) to (ah + ld)) se 6 (nI (C + 1)) → Q F) : P_X5_keepFound se row (nI to) ld ah S Q := by
  have hl := hX.le.1
  refine ⟨hX.z, sa 1, hX.r 1, hX.k 1, ?_⟩
  rw [h6, hX.l1]
  refine ⟨fun c => absurd c (nI_ge hC (by omega)), fun _ => ⟨sa 2, hX.r 2, hX.k 2, ?_⟩⟩
  rw [hX.l2]
  refine ⟨fun c => absurd c (nI_ge ht (by omega)), fun _ => ⟨vp_in_nI hC (by omega), fun F8 e8 => ⟨vp_in_nI ht (by omega), fun v10 e10 F11 e11 v12 e12 F13 e13 => hq F13 ?_⟩⟩⟩
  rw [nI_clamp (by omega)] at e8 e11
  have v12e : v12 = nI (C + 1) := by rw [e12, e11, up_ne (Ne.symm (hX.o 2)), e8, up_ne (Ne.symm (hX.o 1)), h6, nI_1]
  rw [e13, v12e, e11, e10, e8]
theorem dup_run {n A : Nat} {h : Nat → Nat → Nat} (hn : n ≤ 8) (hp : ∀ a, a < A → Pm n (h a)) {k : Nat} {s : Bs} (hbv : BV n h A k s) (hk : k < bC s) {a : Nat} : ∀ d, a + d ≤ A → (∀ c, a ≤ c → c < a + d → idn n (h c) ∨ ∃ b, b < c ∧ Eqn n (h b) (h c)) → inn n h k (a + d) s = inn n h k a s
  | 0, _, _ => rfl
  | d + 1, hA, hd => by
    have := inn_dup hn hp hbv hk (a := a + d) (by omega) (hd (a + d) (by omega) (by omega))
    rw [show a + (d + 1) = a + d + 1 by omega, this]
    exact dup_run hn hp hbv hk d (by omega) (fun c h1 h2 => hd c h1 (by omega))
theorem sp_spread {k T : Nat} {lt : Nat → Nat} {s : Bs} {Q : FI → Prop} {G0 : FI} (hX : SeX S se sa len wl) (hb : bok B) (hl : fac (bn B) ≤ len) (hbv : BV (bn B) (hb3 B) (3 * bM B) k s) (hk : k < bC s) (hc : CBs (bn B) G0 (gI S) se sa s) (hg : GH B se sa (3 * bM B) T lt (gI S))
    (hq : ∀ F, CBs (bn B) G0 F se sa (inn (bn B) (hb3 B) k (3 * bM B) s) → GH B se sa (3 * bM B) T lt F → Q F) : P_X5_spread se (nI (pak (lay (bn B) (bF s k)) (bn B))) (nI (bn B)) S Q := by
  have hn := hb.2.1
  have hM4 := hb.2.2.1
  have hp := hb3_pm hb
  have hfac := fac_8 (bn B) (by omega)
  have hl4 := hX.le.1
  have fk := hbv.2.2.1 k hk
  have pk := lay_pm hn fk
  refine ⟨hX.z, sp_rank hn pk (fun v2 e2 => ?_)⟩
  rw [num_lay hn fk] at e2
  have v2e : v2 = nI (12 * bF s k) := by rw [e2]; show nI (bF s k) * nI 12 = _; rw [mulN, Nat.mul_comm]
  subst v2e
  obtain ⟨g1, g2, g3, g4, g5⟩ := hg
  -- a lead that is not in the list finds nothing
  have dupc : ∀ c, c < 3 * bM B → (∀ i, i < T → lt i ≠ c) → idn (bn B) (hb3 B c) ∨ ∃ b, b < c ∧ Eqn (bn B) (hb3 B b) (hb3 B c) := fun c hc hno => by
    rcases g5 c hc with ⟨i, h1, h2⟩ | hh | ⟨i, h1, h2, h3⟩
    · exact absurd h2 (hno i h1)
    · exact Or.inl hh
    · exact Or.inr ⟨lt i, h2, h3⟩
  obtain ⟨al, hal⟩ : ∃ al : Nat → Nat, al = fun i => if i < T then lt i else 3 * bM B := ⟨_, rfl⟩
  have al_le : ∀ i, al i ≤ 3 * bM B := fun i => by
    rw [hal]; show (if i < T then lt i else 3 * bM B) ≤ _
    by_cases c : i < T
    · rw [if_pos c]; have := (g3 i c).1; omega
    · rw [if_neg c]; exact Nat.le_refl _
  have run0 : inn (bn B) (hb3 B) k (al 0) s = s := by
    have := dup_run hn hp hbv hk (a := 0) (al 0) (by have := al_le 0; omega) (fun c _ hc => dupc c (by have := al_le 0; omega) (fun i hi e => by
      have h0 : 0 < T := by omega
      have ea : al 0 = lt 0 := by rw [hal]; show (if 0 < T then lt 0 else _) = _; rw [if_pos h0]
      rcases Nat.eq_zero_or_pos i with z | z
      · subst z; omega
      · have := g4 0 i z hi; omega))
    rw [Nat.zero_add] at this
    exact this
  have runs : ∀ i, i < T → inn (bn B) (hb3 B) k (al (i + 1)) s = tr1 (bn B) (hb3 B) k (lt i) (inn (bn B) (hb3 B) k (al i) s) := fun i hi => by
    have ea : al i = lt i := by rw [hal]; show (if i < T then lt i else _) = _; rw [if_pos hi]
    have hli := (g3 i hi).1
    have hle : lt i + 1 ≤ al (i + 1) := by
      rw [hal]; show lt i + 1 ≤ if i + 1 < T then lt (i + 1) else 3 * bM B
      by_cases c : i + 1 < T
      · rw [if_pos c]; exact g4 i (i + 1) (by omega) c
      · rw [if_neg c]; omega
    have := dup_run hn hp hbv hk (a := lt i + 1) (al (i + 1) - (lt i + 1)) (by have := al_le (i + 1); omega) (fun c h1 h2 => dupc c (by have := al_le (i + 1); omega) (fun z hz e => by
      rcases Nat.lt_trichotomy z i with y | y | y
      · have := g4 z i y hi; omega
      · subst y; omega
      · have h3 : al (i + 1) ≤ lt z := by
          rw [hal]; show (if i + 1 < T then lt (i + 1) else 3 * bM B) ≤ lt z
          rw [if_pos (by omega)]
          rcases Nat.lt_or_ge (i + 1) z with y2 | y2
          · have := g4 (i + 1) z y2 hz; omega
          · rw [show z = i + 1 by omega]; exact Nat.le_refl _
        omega))
    rw [show lt i + 1 + (al (i + 1) - (lt i + 1)) = al (i + 1) by omega] at this
    rw [this, ea]
    rfl
  refine ⟨fun t x4 F => ∃ i, i ≤ T ∧ t = T - i ∧ x4 = nI i ∧ CBs (bn B) G0 F se sa (inn (bn B) (hb3 B) k (al i) s) ∧ F se 5 = nI T ∧ F (sa 3) = gI S (sa 3) ∧ F (sa 4) = gI S (sa 4), ⟨T, 0, by omega, rfl, rfl, by rw [run0]; exact hc, g1, rfl, rfl⟩, ?_⟩
  rintro t x4 F ⟨i, hi, rfl, rfl, cb, f5, f3, f4⟩
  rw [f5]
  refine ⟨fun hci => ?_, fun hci => ?_⟩
  · have e : i = T := by
      have : T ≤ i := (nI_leI (by omega) (by omega)).mp hci
      omega
    subst e
    have ea : al i = 3 * bM B := by rw [hal]; show (if i < i then lt i else _) = _; rw [if_neg (by omega)]
    rw [ea] at cb
    exact hq F cb ⟨f5, g2, fun z hz => by rw [f3, f4]; exact g3 z hz, g4, g5⟩
  · have hli := nI_gtI (by omega) (by omega) hci
    obtain ⟨q1, q2, q3⟩ := g3 i hli
    have ph := hp (lt i) q1
    obtain ⟨iv, -⟩ := inn_bv hn hp hbv hk (al i) (al_le i)
    have ex := inn_ex (bn B) (hb3 B) k s (al i)
    obtain ⟨w, hw⟩ : ∃ w, w = inn (bn B) (hb3 B) k (al i) s := ⟨_, rfl⟩
    have rn := runs i hli
    rw [← hw] at cb iv ex rn
    have kw : k < bC w := Nat.lt_of_lt_of_le hk ex.1
    have fkw := (ex.2 k hk).1
    obtain ⟨c1, c6, cq, cf, c0, cz⟩ := cb
    refine ⟨sa 3, hX.r 3, hX.k 3, by rw [hX.l3]; exact vp_in_nI (by omega) (by decide), ?_⟩
    rw [nI_clamp (by omega), f3, q2]
    have pm := comp_pm pk ph
    refine sp_rankMultiplied hn (pm8 hn pk) ph.1 pm ⟨sa 2, hX.r 2, hX.k 2, ?_⟩
    obtain ⟨to, hto⟩ : ∃ to, to = nxr (bn B) (hb3 B) (bF w k) (lt i) := ⟨_, rfl⟩
    have et : num (bn B) (fun p => lay (bn B) (bF s k) (hb3 B (lt i) p)) = to := by rw [hto, fkw]; rfl
    rw [et, hX.l2]
    have tol : to < fac (bn B) := by rw [← et]; exact num_lt pm
    refine ⟨fun y => absurd y (nI_ge (show to < len by omega) (by omega)), fun _ => ⟨vp_in_nI (by omega) (by omega), ?_⟩⟩
    rw [nI_clamp (by omega)]
    have go : ∀ F2, CBs (bn B) G0 F2 se sa (inn (bn B) (hb3 B) k (al (i + 1)) s) → F2 se 5 = nI T → F2 (sa 3) = gI S (sa 3) → F2 (sa 4) = gI S (sa 4) → ∀ v, v = nI i + 1 → ∃ k', k' < T - i ∧ ∃ i', i' ≤ T ∧ k' = T - i' ∧ v = nI i' ∧ CBs (bn B) G0 F2 se sa (inn (bn B) (hb3 B) k (al i') s) ∧ F2 se 5 = nI T ∧ F2 (sa 3) = gI S (sa 3) ∧ F2 (sa 4) = gI S (sa 4) := fun F2 h1 h2 h3 h4 v ev => ⟨T - (i + 1), by omega, i + 1, by omega, rfl, by rw [ev]; exact nI_1 i, h1, h2, h3, h4⟩
    by_cases hu : us (bF w) (bC w) to = true
    · have nz : ¬ F (sa 2) to = 0 := fun e => by
        obtain ⟨j, h1, h2⟩ := (us_iff _ _ _).mp hu
        rcases Nat.eq_zero_or_pos j with z | z
        · subst z
          rw [iv.2.1] at h2
          rw [← h2, c0] at e
          exact absurd e (by decide)
        · have := cf j z h1
          rw [h2, e] at this
          obtain ⟨y1, y2, y3, y4⟩ := iv.2.2.2.2.1 j z h1
          have := iv.2.2.1 (bP w j) (by omega)
          have z := (nI_z (show 12 * bF w (bP w j) + (bW w j + 1) < 2 ^ 31 by omega)).mp (by assumption : (0 : Int32) = _).symm
          omega
      refine ⟨fun _ v ev => go F (by rw [rn, tr1_y (by rw [← hto]; exact hu)]; exact ⟨c1, c6, cq, cf, c0, cz⟩) f5 f3 f4 v ev, fun e => absurd e nz⟩
    · have hno := us_no.mp (ts_nt hu)
      have hz := cz to tol (ts_nt hu)
      have hC1 : bC w + 1 ≤ fac (bn B) := by
        have := (tr1_bv hn hp iv kw q1).1
        rw [tr1_n (by rw [← hto]; exact hu)] at this
        exact fb_holes _ _ _ this.2.2.1 this.2.2.2.1
      refine ⟨fun y => absurd hz y, fun _ => sp_multiply hn (pm8 hn pk) ph.1 ⟨sa 4, hX.r 4, hX.k 4, by rw [hX.l4]; exact vp_in_nI (by omega) (by decide), ?_⟩⟩
      rw [f4, q3, nI_1]
      refine sp_keepFound (S := wI S F) hX c6 (by omega) (by omega) (fun F2 e2' v ev => ?_)
      have e2'' : F2 = upI (upI (upI F (sa 1) (bC w) (nI (pak (fun p => lay (bn B) (bF s k) (hb3 B (lt i) p)) (bn B)))) (sa 2) to (nI (12 * bF s k) + nI (lt i + 1))) se 6 (nI (bC w + 1)) := e2'
      have s2 : F2 (sa 2) = upI F (sa 2) to (nI (12 * bF s k) + nI (lt i + 1)) (sa 2) := by
        rw [e2'', up_ne (hX.o 2)]
        funext z
        by_cases cz' : z = to
        · rw [cz', up_at, up_at]
        · rw [up_no cz', up_no cz', up_ne (hX.n (by decide))]
      have s1 : ∀ z, z ≠ bC w → F2 (sa 1) z = F (sa 1) z := fun z hz => by rw [e2'', up_ne (hX.o 1), up_ne (hX.n (by decide)), up_no hz]
      have to0 : to ≠ 0 := fun e => hno 0 (by have := iv.1; omega) (by rw [iv.2.1, e])
      refine go F2 ?_ (by rw [e2'', up_no (by decide), up_ne (Ne.symm (hX.o 2)), up_ne (Ne.symm (hX.o 1))]; exact f5) (by rw [e2'', up_ne (hX.o 3), up_ne (hX.n (by decide)), up_ne (hX.n (by decide))]; exact f3) (by rw [e2'', up_ne (hX.o 4), up_ne (hX.n (by decide)), up_ne (hX.n (by decide))]; exact f4) v ev
      rw [rn, tr1_n (by rw [← hto]; exact hu), ← hto]
      refine ⟨by rw [e2'']; exact ((c1.up hX (f := 1)).up hX (f := 2)).us hX, by rw [e2'', up_at]; rfl, fun j hj => ?_, fun j h1 hj => ?_, by rw [s2, up_no (Ne.symm to0)]; exact c0, fun r hr hur => ?_⟩
      · have hj' : j < bC w + 1 := hj
        show F2 (sa 1) j = nI (pak (lay (bn B) (setf (bF w) (bC w) to j)) (bn B))
        by_cases c : j = bC w
        · rw [c, setf_at, e2'', up_ne (hX.o 1), up_ne (hX.n (by decide)), up_at]
          refine congrArg nI (pak_cong (fun p hp' => ?_))
          rw [← et]
          exact (lay_num hn pm p hp').symm
        · rw [setf_no c, s1 j c]; exact cq j (by omega)
      · have hj' : j < bC w + 1 := hj
        show F2 (sa 2) (setf (bF w) (bC w) to j) = nI (12 * setf (bF w) (bC w) to (setf (bP w) (bC w) k j) + (setf (bW w) (bC w) (lt i) j + 1))
        by_cases c : j = bC w
        · rw [c, setf_at, setf_at, setf_at, setf_no (show k ≠ bC w by omega), s2, up_at, nI_add, fkw]
        · have pj := (iv.2.2.2.2.1 j h1 (by omega)).1
          rw [setf_no c, setf_no c, setf_no c, setf_no (show bP w j ≠ bC w by omega), s2, up_no (hno j (by omega))]
          exact cf j h1 (by omega)
      · have hur' := us_no.mp hur
        have r1 : r ≠ to := fun e => hur' (bC w) (Nat.lt_succ_self _) (by show setf (bF w) (bC w) to (bC w) = r; rw [setf_at, e])
        rw [s2, up_no r1]
        refine cz r hr (us_no.mpr (fun j hj e => hur' j (by show j < bC w + 1; omega) (by show setf (bF w) (bC w) to j = r; rw [setf_no (by omega)]; exact e)))
end SE
