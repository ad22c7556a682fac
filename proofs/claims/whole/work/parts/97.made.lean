/-! A book is made of what was read. -/
abbrev FJ : Type := Nat → Nat → Int64
abbrev FR : Type := Nat → Nat → Option Nat
theorem alA {S S' : St} {F : FI} {J : FJ} {R : FR} {q k n : Nat} (h : S' = alo (wA S F J R) q k n) : ∀ e, e ≠ q → kd S' e = kd S e ∧ ln S' e = ln S e ∧ gI S' e = F e ∧ gJ S' e = J e ∧ gR S' e = R e := fun e he => by
  rw [h]; exact ⟨kd_alon he, ln_alon he, gI_alon he, gJ_alon he, gR_alon he⟩
theorem alB {S S' : St} {F : FI} {J : FJ} {R : FR} {q k n : Nat} (h : S' = alo (wA S F J R) q k n) : kd S' q = k ∧ ln S' q = n ∧ gI S' q = (fun _ => 0) ∧ gJ S' q = (fun _ => 0) ∧ gR S' q = fun _ => none := by
  rw [h]; exact ⟨kd_alo, ln_alo, gI_alo, gJ_alo, gR_alo⟩
def Al (S S' : St) : Prop := Fr (fun _ => False) S S'
theorem Al.tr {S S' S'' : St} (h : Al S S') (h2 : Al S' S'') : Al S S'' := Fr.tr h h2
theorem Al.g {S S' : St} (h : Al S S') {e : Nat} (he : kd S e ≠ 0) : kd S' e = kd S e ∧ ln S' e = ln S e ∧ gI S' e = gI S e ∧ gJ S' e = gJ S e ∧ gR S' e = gR S e := by
  obtain ⟨h1, h2, h3⟩ := h e he
  obtain ⟨h4, h5, h6⟩ := h3 (fun z => z)
  exact ⟨h1, h2, h4, h5, h6⟩
theorem Al.of {S S' : St} (h : ∀ e, kd S e ≠ 0 → kd S' e = kd S e ∧ ln S' e = ln S e ∧ gI S' e = gI S e ∧ gJ S' e = gJ S e ∧ gR S' e = gR S e) : Al S S' := fun e he => by
  obtain ⟨h1, h2, h3, h4, h5⟩ := h e he
  exact ⟨h1, h2, fun _ => ⟨h3, h4, h5⟩⟩
theorem kd_nq {S : St} {e q : Nat} (he : kd S e ≠ 0) (hq : kd S q = 0) : e ≠ q := fun z => he (by rw [z]; exact hq)
theorem sp_copyOf {S : St} {a l n c d : Nat} {Q : Option Nat → St → Prop} (hk : kd S a = 21) (hl : ln S a = l) (hl2 : l < 2 ^ 31) (hn : n ≤ l) (h4 : n * 4 ≤ 536870912) (hc : 1 ≤ c) (hd : n ≤ d)
    (hq : ∀ q S', kd S q = 0 → Al S S' → kd S' q = 21 → ln S' q = n → (∀ j, j < n → gI S' q j = gI S a j) → Q (some q) S') : P_J7_copyOf_59c91 a (nI n) S c d Q := by
  have e : (nI n).toNatClampNeg = n := nI_clamp (by omega)
  refine ⟨hk, nI_pos (by omega), by rw [e]; exact h4, by rw [hl]; exact hl2, hc, by rw [e]; exact hd, fun q f hq0 hf S1 e1 => ?_⟩
  rw [e] at hf e1
  have up : ∀ b, b ≠ q → va_up (gI S) q f b = gI S b := fun b hb => va_up_ne _ _ hb
  refine hq q S1 hq0 (Al.of (fun b hb => ?_)) ?_ ?_ (fun j hj => ?_)
  · have hbq := kd_nq hb hq0
    rw [e1]
    exact ⟨kd_alon (k := 21) (n := n) hbq, ln_alon (k := 21) (n := n) hbq, up b hbq, gJ_alon (k := 21) (n := n) hbq, gR_alon (k := 21) (n := n) hbq⟩
  · rw [e1]; exact kd_alo (n := n)
  · rw [e1]; exact ln_alo (k := 21)
  · rw [e1]
    show va_up (gI S) q f q j = _
    rw [va_up_self, hf j hj, hl, if_pos (by omega)]
theorem bch_last {B : Bk} {i c : Nat} (h : 1 ≤ bl B i) (hc : c ≤ 2) : bch B i c (bl B i - 1) = if c = 0 then bv B i (bl B i - 1) else bc B i c := by
  unfold bch
  by_cases e : c = 0
  · rw [if_pos e, if_pos (Or.inr e)]
  · rw [if_neg e, if_neg (by omega)]
theorem rl_0c {B : Bk} {i c : Nat} : ∀ k, k + 1 ≤ bl B i → rl B i c (fun p => p) k = rl B i 0 (fun p => p) k
  | 0, _ => rfl
  | k + 1, h => by
    show chd (bch B i c k) (rl B i c (fun p => p) k) = chd (bch B i 0 k) (rl B i 0 (fun p => p) k)
    rw [rl_0c k (by omega)]
    unfold bch
    rw [if_pos (Or.inl (by omega)), if_pos (Or.inl (by omega))]
/-- a method object -/
theorem sp_method {S : St} {th a c d i : Nat} {B : Bk} {Q : St → Prop} (hb : bok B) (hi : i < bM B) (ht : kd S th = 4) (ha : kd S a = 21) (hl : ln S a = bl B i) (hg : ∀ k, k < bl B i → gI S a k = nI (pak (mvf (bv B i k)) (bn B))) (hc : 3 ≤ c) (hdd : bl B i + 7 ≤ d)
    (hq : ∀ S' q2 q3 q4, kd S q2 = 0 → kd S q3 = 0 → kd S q4 = 0 → kd S' q2 ≠ 0 → kd S' q3 ≠ 0 → kd S' q4 ≠ 0 → Fr (fun e => e = th) S S' → MX B i (fun e => e = th ∨ e = a ∨ e = q2 ∨ e = q3 ∨ e = q4) S' th → Q S') : P_X3_init th (n27 (bnm B i)) (nI (bn B)) a (nI (pak (mvf (bc B i 1)) (bn B))) (nI (pak (mvf (bc B i 2)) (bn B))) S c d Q := by
  have n8 := hb.2.1
  obtain ⟨l1, l32, hsw, hsc⟩ := hb.2.2.2 i hi
  have tk0 : kd S th ≠ 0 := by rw [ht]; decide
  have ak0 : kd S a ≠ 0 := by rw [ha]; decide
  have ta : th ≠ a := kd_ne ht ha (by decide)
  refine ⟨ht, fun J1 e1 R2 e2 => ⟨ha, fun v5 e5 => ?_⟩⟩
  rw [hl, nI_1] at e5
  subst e5
  rw [nI_clamp (by omega)]
  refine ⟨nI_pos (by omega), by omega, by omega, by omega, fun q2 hq2 S4 e4 => ?_⟩
  have A4 := alA e4
  have B4 := alB e4
  have t2 := kd_nq tk0 hq2
  have a2 := kd_nq ak0 hq2
  refine ⟨by rw [(A4 th t2).1]; exact ht, fun R11 e11 => ⟨by omega, by omega, fun q3 hq3 S12 e12 => ?_⟩⟩
  have A12 := alA e12
  have B12 := alB e12
  have n23 : q2 ≠ q3 := kd_nq (by rw [B4.1]; decide) hq3
  have hq3' : kd S q3 = 0 := by rw [← (A4 q3 (Ne.symm n23)).1]; exact hq3
  have t3 := kd_nq tk0 hq3'
  have a3 := kd_nq ak0 hq3'
  refine ⟨by rw [(A12 th t3).1, (A4 th t2).1]; exact ht, fun R16 e16 => ⟨by omega, by omega, fun q4 hq4 S17 e17 => ?_⟩⟩
  have A17 := alA e17
  have B17 := alB e17
  have n24 : q2 ≠ q4 := kd_nq (by rw [(A12 q2 n23).1, B4.1]; decide) hq4
  have n34 : q3 ≠ q4 := kd_nq (by rw [B12.1]; decide) hq4
  have hq4' : kd S q4 = 0 := by rw [← (A4 q4 (Ne.symm n24)).1, ← (A12 q4 (Ne.symm n34)).1]; exact hq4
  have t4 := kd_nq tk0 hq4'
  have a4 := kd_nq ak0 hq4'
  refine ⟨by rw [(A17 th t4).1, (A12 th t3).1, (A4 th t2).1]; exact ht, fun R21 e21 => ?_⟩
  -- references
  have R4 : R21 th 4 = some q4 := by rw [e21]; exact upR_at
  have R3 : R21 th 3 = some q3 := by rw [e21, upR_no (by decide), (A17 th t4).2.2.2.2, e16]; exact upR_at
  have Rr2 : R21 th 2 = some q2 := by rw [e21, upR_no (by decide), (A17 th t4).2.2.2.2, e16, upR_no (by decide), (A12 th t3).2.2.2.2, e11]; exact upR_at
  have R1 : R21 th 1 = some a := by rw [e21, upR_no (by decide), (A17 th t4).2.2.2.2, e16, upR_no (by decide), (A12 th t3).2.2.2.2, e11, upR_no (by decide), (A4 th t2).2.2.2.2, e2]; exact upR_at
  have k2 : kd S17 q2 = 21 ∧ ln S17 q2 = bl B i + 1 := ⟨by rw [(A17 q2 n24).1, (A12 q2 n23).1]; exact B4.1, by rw [(A17 q2 n24).2.1, (A12 q2 n23).2.1]; exact B4.2.1⟩
  have k3 : kd S17 q3 = 21 ∧ ln S17 q3 = 3 := ⟨by rw [(A17 q3 n34).1]; exact B12.1, by rw [(A17 q3 n34).2.1]; exact B12.2.1⟩
  have k4 : kd S17 q4 = 21 ∧ ln S17 q4 = 3 := ⟨B17.1, B17.2.1⟩
  have al : ∀ e, kd S e ≠ 0 → kd S17 e = kd S e ∧ ln S17 e = ln S e ∧ gI S17 e = gI S e ∧ gJ S17 e = J1 e := fun e he => by
    obtain ⟨y1, y2, y3, y4, y5⟩ := A17 e (kd_nq he hq4')
    obtain ⟨z1, z2, z3, z4, z5⟩ := A12 e (kd_nq he hq3')
    obtain ⟨w1, w2, w3, w4, w5⟩ := A4 e (kd_nq he hq2)
    exact ⟨y1.trans (z1.trans w1), y2.trans (z2.trans w2), y3.trans (z3.trans w3), y4.trans (z4.trans w4)⟩
  have alR : ∀ e, kd S e ≠ 0 → e ≠ th → R21 e = gR S e := fun e he het => by
    rw [e21, upR_ne het, (A17 e (kd_nq he hq4')).2.2.2.2, e16, upR_ne het, (A12 e (kd_nq he hq3')).2.2.2.2, e11, upR_ne het, (A4 e (kd_nq he hq2)).2.2.2.2, e2, upR_ne het]
  have ka : kd S17 a = 21 ∧ ln S17 a = bl B i := ⟨(al a ak0).1.trans ha, (al a ak0).2.1.trans hl⟩
  refine ⟨q2, Rr2, sp_roundsOf n8 ⟨k2.1, by rw [k2.2]; exact vp_in_nI (n := 0) (by omega) (by omega), fun F26 e26 => ?_⟩⟩
  have o26 : ∀ e, e ≠ q2 → F26 e = gI S17 e := fun e he => by rw [e26, up_ne he]
  refine ⟨fun t x7 F => ∃ k, k ≤ bl B i ∧ t = bl B i - k ∧ x7 = nI k ∧ (∀ e, e ≠ q2 → F e = gI S17 e) ∧ ∀ j, j ≤ k → F q2 j = nI (pak (rl B i 0 (fun p => p) j) (bn B)), ⟨bl B i, 0, by omega, rfl, rfl, o26, fun j hj => ?_⟩, ?_⟩
  · have : j = 0 := by omega
    subst this
    rw [e26]
    exact up_at
  rintro t x7 F ⟨k, hk, rfl, rfl, on, hr⟩
  refine ⟨ka.1, ?_⟩
  rw [ka.2]
  refine ⟨fun hc' v32 e32 => ?_, fun hc' => ?_⟩
  · have ke : k = bl B i := by
      have := (nI_leI (by omega) (by omega)).mp hc'
      omega
    subst ke
    rw [sub1 l1] at e32
    subst e32
    refine ⟨fun y => absurd y (nI_pos (by omega)), fun _ => ⟨q3, R3, vp_in_nI (by omega) (by omega), k3.1, by rw [k3.2]; exact vp_in_nI (n := 0) (by decide) (by decide), fun v38 e38 F39 e39 => ⟨by rw [k3.2]; exact vp_in_nI (n := 1) (by decide) (by decide), fun F41 e41 => ⟨by rw [k3.2]; exact vp_in_nI (n := 2) (by decide) (by decide), fun F43 e43 => ?_⟩⟩⟩⟩
    rw [nI_clamp (by omega), on a a2, (al a ak0).2.2.1, hg _ (by omega)] at e38
    have o43 : ∀ e, e ≠ q3 → F43 e = F e := fun e he => by rw [e43, up_ne he, e41, up_ne he, e39, up_ne he]
    have la : ∀ cc, cc < 3 → F43 q3 cc = nI (pak (mvf (bch B i cc (bl B i - 1))) (bn B)) := fun cc hcc => by
      rw [bch_last l1 (by omega), e43]
      by_cases c2 : cc = 2
      · subst c2; exact up_at
      · rw [up_no c2, e41]
        by_cases c1 : cc = 1
        · subst c1; exact up_at
        · rw [up_no c1, e39]
          have : cc = 0 := by omega
          subst this
          rw [if_pos rfl]
          exact up_at.trans e38
    refine ⟨fun t x8 F => ∃ cc, cc ≤ 3 ∧ t = 3 - cc ∧ x8 = nI cc ∧ (∀ e, e ≠ q4 → F e = F43 e) ∧ ∀ j, j < cc → F q4 j = nI (pak (hd B i j) (bn B)), ⟨3, 0, by omega, rfl, rfl, fun _ _ => rfl, fun j hj => by omega⟩, ?_⟩
    rintro t x8 F46 ⟨cc, hcc, rfl, rfl, on4, hh⟩
    refine ⟨fun h3 => ?_, fun h3 => ?_⟩
    · have ce : cc = 3 := by
        have : 3 ≤ cc := (nI_leI (a := 3) (by decide) (by omega)).mp h3
        omega
      subst ce
      have FF : ∀ e, e ≠ q2 → e ≠ q3 → e ≠ q4 → F46 e = gI S17 e := fun e h1 h2 h3 => by rw [on4 e h3, o43 e h2, on e h1]
      refine hq _ q2 q3 q4 hq2 hq3' hq4' (by show kd S17 q2 ≠ 0; rw [k2.1]; decide) (by show kd S17 q3 ≠ 0; rw [k3.1]; decide) (by show kd S17 q4 ≠ 0; rw [k4.1]; decide) (fun e he => ?_) ⟨Or.inl rfl, ?_, ?_, ⟨a, R1, Or.inr (Or.inl rfl), ka.1, ka.2, fun k hk => ?_⟩, ⟨q2, Rr2, Or.inr (Or.inr (Or.inl rfl)), k2.1, k2.2, fun k hk => ?_⟩, ⟨q3, R3, Or.inr (Or.inr (Or.inr (Or.inl rfl))), k3.1, k3.2, fun k hk => ?_⟩, ⟨q4, R4, Or.inr (Or.inr (Or.inr (Or.inr rfl))), k4.1, k4.2, fun k hk => ?_⟩⟩
      · obtain ⟨y1, y2, y3, y4⟩ := al e he
        refine ⟨y1, y2, fun het => ⟨?_, ?_, alR e he het⟩⟩
        · show F46 e = _
          rw [FF e (kd_nq he hq2) (kd_nq he hq3') (kd_nq he hq4')]; exact y3
        · show gJ S17 e = _
          rw [y4, e1, upJ_ne het]
      · show kd S17 th = 4
        rw [(al th tk0).1]; exact ht
      · show gJ S17 th 0 = _
        rw [(al th tk0).2.2.2, e1, upJ_at]
      · show F46 a k = _
        rw [FF a a2 a3 a4, (al a ak0).2.2.1]; exact hg k hk
      · show F46 q2 k = _
        rw [on4 _ n24, o43 _ n23]; exact hr k (by omega)
      · show F46 q3 k = _
        rw [on4 _ n34]; exact la k hk
      · show F46 q4 k = _
        exact hh k hk
    · have hlt : cc < 3 := nI_gtI (n := 3) (by decide) (by omega) h3
      refine ⟨q4, R4, by rw [k2.2]; exact vp_in_nI (by omega) (by omega), by rw [k3.2]; exact vp_in_nI hlt (by decide), ?_⟩
      rw [nI_clamp (by omega), nI_clamp (by omega), on4 _ n24, o43 _ n23, hr _ (by omega), on4 _ n34, la cc hlt]
      have pm := rl_pm hb hi (c := 0) (by omega) (pm_id (bn B)) (bl B i - 1) (by omega)
      refine sp_moved n8 (bch_sw hb hi (by omega) (by omega)) (pm8 n8 pm) ⟨k4.1, by rw [k4.2]; exact vp_in_nI hlt (by decide), fun F54 e54 v55 e55 => ⟨3 - (cc + 1), by omega, cc + 1, by omega, rfl, by rw [e55]; exact nI_1 cc, fun e he => by rw [e54, up_ne he]; exact on4 e he, fun j hj => ?_⟩⟩
      by_cases cj : j = cc
      · rw [e54, cj, up_at]
        unfold hd
        have : rl B i cc (fun p => p) (bl B i) = chd (bch B i cc (bl B i - 1)) (rl B i 0 (fun p => p) (bl B i - 1)) := by
          rw [← rl_0c (c := cc) (bl B i - 1) (by omega)]
          show rl B i cc (fun p => p) (bl B i) = rl B i cc (fun p => p) (bl B i - 1 + 1)
          rw [Nat.sub_add_cancel l1]
        rw [this]
      · rw [e54, up_no cj]; exact hh j (by omega)
  · have hlt := nI_gtI (by omega) (by omega) hc'
    refine ⟨by rw [k2.2]; exact vp_in_nI (by omega) (by omega), vp_in_nI hlt (by omega), ?_⟩
    rw [nI_clamp (by omega), hr k (Nat.le_refl _), on a a2, (al a ak0).2.2.1, hg k hlt]
    have pm := rl_pm hb hi (c := 0) (by omega) (pm_id (bn B)) k (by omega)
    refine sp_moved n8 (hsw k hlt) (pm8 n8 pm) ?_
    rw [nI_1, k2.2]
    refine ⟨vp_in_nI (by omega) (by omega), fun F60 e60 v61 e61 => ⟨bl B i - (k + 1), by omega, k + 1, by omega, rfl, e61, fun e he => by rw [e60, up_ne he]; exact on e he, fun j hj => ?_⟩⟩
    rw [e60, nI_clamp (by omega)]
    by_cases cj : j = k + 1
    · rw [cj, up_at]
      show _ = nI (pak (chd (bch B i 0 k) (rl B i 0 (fun p => p) k)) (bn B))
      rw [show bch B i 0 k = bv B i k by unfold bch; rw [if_pos (Or.inr rfl)]]
    · rw [up_no cj]; exact hr j (by omega)

theorem Ar.mono {im im2 : Nat → Prop} {S : St} {a n : Nat} {f : Nat → Int32} (h : Ar im S a n f) (hi : ∀ e, im e → im2 e) : Ar im2 S a n f := ⟨hi _ h.1, h.2⟩
theorem MX.mono {B : Bk} {i : Nat} {im im2 : Nat → Prop} {S : St} {q : Nat} (h : MX B i im S q) (hi : ∀ e, im e → im2 e) : MX B i im2 S q := by
  obtain ⟨h1, h2, h3, ⟨a4, r4, h4⟩, ⟨a5, r5, h5⟩, ⟨a6, r6, h6⟩, a7, r7, h7⟩ := h
  exact ⟨hi _ h1, h2, h3, ⟨a4, r4, h4.mono hi⟩, ⟨a5, r5, h5.mono hi⟩, ⟨a6, r6, h6.mono hi⟩, a7, r7, h7.mono hi⟩
theorem BX.mono {B : Bk} {im im2 : Nat → Prop} {S : St} {b : Nat} (h : BX B im S b) (hi : ∀ e, im e → im2 e) : BX B im2 S b := by
  obtain ⟨h1, h2, h3, h4, h5, a, r, h6, h7, h8, h9⟩ := h
  refine ⟨hi _ h1, h2, h3, h4, h5, a, r, hi _ h6, h7, h8, fun i hi' => ?_⟩
  obtain ⟨q, hq, hm⟩ := h9 i hi'
  exact ⟨q, hq, hm.mono hi⟩
section MA
variable {S : St} {k br rv : Nat} {ra mv : Nat → Nat} {B : Bk} {R : Nat} {rn : Nat → List Nat}
theorem BrX.al {S' : St} (h : BrX S br k rv ra mv) (ha : Al S S') : BrX S' br k rv ra mv := by
  obtain ⟨h1, h2, ⟨a6, b6, c6⟩, ⟨a7, b7, c7⟩, ⟨a8, b8, c8⟩, ⟨a9, b9, c9⟩, ⟨a10, b10, c10⟩, ⟨a11, b11, c11⟩, hm, rest⟩ := h
  have g := ha.g (e := br) (by rw [h1]; decide)
  have g' : ∀ {a kk l : Nat}, kd S a = kk → kk ≠ 0 → ln S a = l → kd S' a = kk ∧ ln S' a = l := fun {a kk l} y1 y2 y3 => by
    have := ha.g (e := a) (by rw [y1]; exact y2)
    exact ⟨this.1.trans y1, this.2.1.trans y3⟩
  have r : ∀ j, gR S' br j = gR S br j := fun j => by rw [g.2.2.2.2]
  refine ⟨g.1.trans h1, (r 0).trans h2, ⟨(r 6).trans a6, g' b6 (by decide) c6⟩, ⟨(r 7).trans a7, g' b7 (by decide) c7⟩, ⟨(r 8).trans a8, g' b8 (by decide) c8⟩, ⟨(r 9).trans a9, g' b9 (by decide) c9⟩, ⟨(r 10).trans a10, g' b10 (by decide) c10⟩, ⟨(r 11).trans a11, g' b11 (by decide) c11⟩, fun i hi => ?_, rest⟩
  obtain ⟨y1, y2, y3⟩ := hm i hi
  have g8 := ha.g (e := ra 8) (by rw [b8]; decide)
  exact ⟨by rw [g8.2.2.2.2]; exact y1, g' y2 (by decide) y3⟩
theorem sp_made {c d : Nat} {Q : Option Nat → St → Prop} (hB : BrX S br k rv ra mv) (hR : RdC (gI S) (gJ S) br ra mv B R rn) (hb : bok B) (hc : 22 ≤ c) (hd' : 320 ≤ d)
    (hq : ∀ b S' (nw : Nat → Prop), Al S S' → (∀ e, nw e → kd S e = 0 ∧ kd S' e ≠ 0) → BX B nw S' b → Q (some b) S') : P_X1_made br S c d Q := by
  have hM4 := hb.2.2.1
  have n4 := hb.1
  have n8 := hb.2.1
  obtain ⟨d1, d2, d3, d4, -, dM⟩ := hR
  have bk0 : kd S br ≠ 0 := by rw [hB.1]; decide
  refine ⟨hB.1, fun v2 e2 => ?_⟩
  rw [d2] at e2
  subst e2
  rw [nI_clamp (by omega)]
  refine ⟨nI_pos (by omega), by omega, by omega, by omega, fun q1 hq1 S1 e1 => ?_⟩
  have A1 : ∀ e, e ≠ q1 → kd S1 e = kd S e ∧ ln S1 e = ln S e ∧ gI S1 e = gI S e ∧ gJ S1 e = gJ S e ∧ gR S1 e = gR S e := fun e he => by
    rw [e1]; exact ⟨kd_alon he, ln_alon he, gI_alon he, gJ_alon he, gR_alon he⟩
  have B1 : kd S1 q1 = 24 ∧ ln S1 q1 = bM B := by rw [e1]; exact ⟨kd_alo, ln_alo⟩
  have al1 : Al S S1 := Al.of (fun e he => A1 e (kd_nq he hq1))
  refine ⟨fun t x2 S9 b9 d9 => ∃ i, ∃ nw : Nat → Prop, i ≤ bM B ∧ t = bM B - i ∧ x2 = nI i ∧ 5 * (bM B - i) + 1 ≤ b9 ∧ 78 * (bM B - i) + 4 ≤ d9 ∧ Al S S9 ∧ kd S9 q1 = 24 ∧ ln S9 q1 = bM B ∧ (∀ e, nw e → kd S e = 0 ∧ kd S9 e ≠ 0 ∧ e ≠ q1) ∧ ∀ j, j < i → ∃ q, gR S9 q1 j = some q ∧ MX B j nw S9 q, ⟨bM B, 0, fun _ => False, by omega, rfl, rfl, by omega, by omega, al1, B1.1, B1.2, fun e he => he.elim, fun j hj => by omega⟩, ?_⟩
  rintro t x2 S9 b9 d9 ⟨i, nw, hi, rfl, rfl, hb9, hd9, al9, k9, l9, hnw, hms⟩
  have B9 := hB.al al9
  have g9 := al9.g bk0
  refine ⟨B9.1, ?_⟩
  rw [g9.2.2.1, d2]
  refine ⟨fun hc' => ⟨by omega, by omega, fun q13 hq13 S13 e13 => ?_⟩, fun hc' => ?_⟩
  · have ie : i = bM B := by
      have := (nI_leI (by omega) (by omega)).mp hc'
      omega
    subst ie
    have hq13' : kd S q13 = 0 := by
      rcases Nat.eq_zero_or_pos (kd S q13) with z | z
      · exact z
      · rw [(al9.g (e := q13) (by omega)).1] at hq13; exact hq13
    have A13 : ∀ e, e ≠ q13 → kd S13 e = kd S9 e ∧ ln S13 e = ln S9 e ∧ gI S13 e = gI S9 e ∧ gJ S13 e = gJ S9 e ∧ gR S13 e = gR S9 e := fun e he => by
      rw [e13]; exact ⟨kd_alon he, ln_alon he, gI_alon he, gJ_alon he, gR_alon he⟩
    have kq : kd S13 q13 = 1 := by rw [e13]; exact kd_alo (n := 0)
    have q113 : q1 ≠ q13 := kd_nq (by rw [k9]; decide) hq13
    have al13 : Al S9 S13 := Al.of (fun e he => A13 e (kd_nq he hq13))
    have gb := (al9.tr al13).g bk0
    refine ⟨gb.1.trans hB.1, ?_⟩
    rw [gb.2.2.1, d1, d4]
    refine ⟨kq, fun F1 e1' => sp_many n8 (fun F3 e3 F4 e4 R5 e5 => ?_)⟩
    have o4 : ∀ e, e ≠ q13 → F4 e = gI S13 e := fun e he => by rw [e4, up_ne he, e3, up_ne he, e1', up_ne he]
    have sil : (shl 1 (nI (bn B)) - 1) &&& (msk (brr B) (bn B) ^^^ (-1)) = msk (fun p => !brr B p) (bn B) := b_ext (fun j hj => by
      rw [b_and, allBells_eq _ (by omega), b_xor, msk_bt _ _ hj, b_m1 j hj, msk_bt _ _ hj]
      have : bt (nI (2 ^ bn B - 1)) j = decide (j < bn B) := by
        have : ∀ n, n < 9 → ∀ j, j < 32 → bt (nI (2 ^ n - 1)) j = decide (j < n) := by decide +kernel
        exact this _ (by omega) j hj
      rw [this]
      cases decide (j < bn B) <;> cases brr B j <;> rfl)
    refine hq q13 _ (fun e => nw e ∨ e = q1 ∨ e = q13) (Al.of (fun e he => ?_)) (fun e he => ?_) ⟨Or.inr (Or.inr rfl), kq, ?_, ?_, ?_, q1, ?_, Or.inr (Or.inl rfl), ?_, ?_, fun j hj => ?_⟩
    · obtain ⟨y1, y2, y3, y4, y5⟩ := (al9.tr al13).g he
      refine ⟨y1, y2, ?_, y4, ?_⟩
      · show F4 e = _
        rw [o4 e (kd_nq he hq13')]; exact y3
      · show R5 e = _
        rw [e5, upR_ne (kd_nq he hq13')]; exact y5
    · rcases he with z | z | z
      · obtain ⟨y1, y2, y3⟩ := hnw e z
        exact ⟨y1, by show kd S13 e ≠ 0; rw [(A13 e (kd_nq y2 hq13)).1]; exact y2⟩
      · rw [z]; exact ⟨hq1, by show kd S13 q1 ≠ 0; rw [(A13 q1 q113).1, k9]; decide⟩
      · rw [z]; exact ⟨hq13', by show kd S13 q13 ≠ 0; rw [kq]; decide⟩
    · show F4 q13 0 = _
      rw [e4, up_no (by decide), e3, up_no (by decide), e1', up_at]
    · show F4 q13 1 = _
      rw [e4, up_no (by decide), e3, up_at]
    · show F4 q13 2 = _
      rw [e4, up_at]; exact sil
    · show R5 q13 3 = _
      rw [e5]; exact upR_at
    · show kd S13 q1 = 24
      rw [(A13 q1 q113).1]; exact k9
    · show ln S13 q1 = _
      rw [(A13 q1 q113).2.1]; exact l9
    · obtain ⟨q, q1', q2'⟩ := hms j hj
      refine ⟨q, ?_, (q2'.sm (fun e he => ?_)).mono (fun e he => Or.inl he)⟩
      · show R5 q1 j = _
        rw [e5, upR_ne q113, (A13 q1 q113).2.2.2.2]; exact q1'
      · obtain ⟨y1, y2, y3⟩ := hnw e he
        have hne := kd_nq y2 hq13
        obtain ⟨z1, z2, z3, z4, z5⟩ := A13 e hne
        refine ⟨z1, z2, ?_, z4, ?_⟩
        · show F4 e = _
          rw [o4 e hne]; exact z3
        · show R5 e = _
          rw [e5, upR_ne hne]; exact z5
  · have hlt := nI_gtI (by omega) (by omega) hc'
    obtain ⟨m1, m2, m3, m4, m5⟩ := dM i hlt
    obtain ⟨l1, l32, -, -⟩ := hb.2.2.2 i hlt
    have B9' := B9
    obtain ⟨-, -, -, ⟨r7, k7, l7⟩, ⟨r8, k8, l8⟩, ⟨r9, k9', l9'⟩, ⟨r10, k10, l10⟩, ⟨r11, k11, l11⟩, hmv, -⟩ := B9'
    obtain ⟨rM, kM, lM⟩ := hmv i (by omega)
    have gg : ∀ {a kk : Nat}, kd S a = kk → kk ≠ 0 → gI S9 a = gI S a ∧ gJ S9 a = gJ S a := fun {a kk} y1 y2 => by
      have := al9.g (e := a) (by rw [y1]; exact y2)
      exact ⟨this.2.2.1, this.2.2.2.1⟩
    have hB' := hB
    obtain ⟨-, -, -, ⟨-, kk7, -⟩, -, ⟨-, kk9, -⟩, ⟨-, kk10, -⟩, ⟨-, kk11, -⟩, hmv0, -⟩ := hB'
    refine ⟨ra 8, r8, k8, by rw [l8]; exact vp_in_nI (by omega) (by decide), mv i, by rw [nI_clamp (by omega)]; exact rM, ra 9, r9, k9', by rw [l9']; exact vp_in_nI (by omega) (by decide), 1, 32, by omega, by omega, ?_⟩
    rw [nI_clamp (by omega), (gg kk9 (by decide)).1, m2]
    refine sp_copyOf kM lM (by decide) l32 (by omega) (by decide) l32 (fun q27 S27 hq27 al27 kq27 lq27 hg27 => ⟨by omega, by omega, fun q28 hq28 S28 e28 => ?_⟩)
    have A28 : ∀ e, e ≠ q28 → kd S28 e = kd S27 e ∧ ln S28 e = ln S27 e ∧ gI S28 e = gI S27 e ∧ gJ S28 e = gJ S27 e ∧ gR S28 e = gR S27 e := fun e he => by
      rw [e28]; exact ⟨kd_alon he, ln_alon he, gI_alon he, gJ_alon he, gR_alon he⟩
    have k28 : kd S28 q28 = 4 := by rw [e28]; exact kd_alo (n := 0)
    have al28 : Al S27 S28 := Al.of (fun e he => A28 e (kd_nq he hq28))
    have al928 : Al S9 S28 := al27.tr al28
    have B28 := B9.al al928
    have als := al9.tr al928
    have gs : ∀ {a kk : Nat}, kd S a = kk → kk ≠ 0 → gI S28 a = gI S a ∧ gJ S28 a = gJ S a := fun {a kk} y1 y2 => by
      have := als.g (e := a) (by rw [y1]; exact y2)
      exact ⟨this.2.2.1, this.2.2.2.1⟩
    have B28' := B28
    obtain ⟨-, -, -, ⟨r7', k7', l7'⟩, -, -, ⟨r10', k10', l10'⟩, ⟨r11', k11', l11'⟩, -⟩ := B28'
    have q2728 : q27 ≠ q28 := kd_nq (by rw [kq27]; decide) hq28
    refine ⟨B28.1, ra 7, r7', k7', by rw [l7']; exact vp_in_nI (by omega) (by decide), q27, rfl, ra 10, r10', k10', by rw [l10']; exact vp_in_nI (by omega) (by decide), ra 11, r11', k11', by rw [l11']; exact vp_in_nI (by omega) (by decide), 3, 40, by omega, by omega, ?_⟩
    rw [(gs kk7 (by decide)).2, m1, (gs hB.1 (by decide)).1, d1, (gs kk10 (by decide)).1, m4, (gs kk11 (by decide)).1, m5]
    have hg28 : ∀ j, j < bl B i → gI S28 q27 j = nI (pak (mvf (bv B i j)) (bn B)) := fun j hj => by
      rw [(A28 q27 q2728).2.2.1, hg27 j hj, (gg (hmv0 i (by omega)).2.1 (by decide)).1]; exact m3 j hj
    refine sp_method hb hlt k28 (by rw [(A28 q27 q2728).1]; exact kq27) (by rw [(A28 q27 q2728).2.1]; exact lq27) hg28 (by decide) (by omega) (fun S43 q2 q3 q4 h2 h3 h4 a2 a3 a4 fr43 mx => ?_)
    have q1a : kd S28 q1 ≠ 0 := by rw [(al928.g (e := q1) (by rw [k9]; decide)).1, k9]; decide
    have q1q28 : q1 ≠ q28 := kd_nq (by rw [(al27.g (e := q1) (by rw [k9]; decide)).1, k9]; decide) hq28
    have f43 : ∀ e, kd S28 e ≠ 0 → e ≠ q28 → kd S43 e = kd S28 e ∧ ln S43 e = ln S28 e ∧ gI S43 e = gI S28 e ∧ gJ S43 e = gJ S28 e ∧ gR S43 e = gR S28 e := fun e he hne => by
      obtain ⟨y1, y2, y3⟩ := fr43 e he
      exact ⟨y1, y2, y3 hne⟩
    have kq1 : kd S43 q1 = 24 := by rw [(f43 q1 q1a q1q28).1, (al928.g (e := q1) (by rw [k9]; decide)).1]; exact k9
    have lq1 : ln S43 q1 = bM B := by rw [(f43 q1 q1a q1q28).2.1, (al928.g (e := q1) (by rw [k9]; decide)).2.1]; exact l9
    have dead : ∀ {e : Nat}, kd S9 e = 0 → kd S e = 0 := fun {e} h => by
      rcases Nat.eq_zero_or_pos (kd S e) with z | z
      · exact z
      · rw [(al9.g (e := e) (by omega)).1] at h; exact h
    have dead9 : ∀ {e : Nat}, kd S28 e = 0 → kd S9 e = 0 := fun {e} h => by
      rcases Nat.eq_zero_or_pos (kd S9 e) with z | z
      · exact z
      · rw [(al928.g (e := e) (by omega)).1] at h; exact h
    have q28d : kd S9 q28 = 0 := by
      rcases Nat.eq_zero_or_pos (kd S9 q28) with z | z
      · exact z
      · rw [(al27.g (e := q28) (by omega)).1] at hq28; exact hq28
    have live : ∀ e, kd S9 e ≠ 0 → kd S43 e = kd S9 e ∧ ln S43 e = ln S9 e ∧ gI S43 e = gI S9 e ∧ gJ S43 e = gJ S9 e ∧ gR S43 e = gR S9 e := fun e he => by
      obtain ⟨y1, y2, y3, y4, y5⟩ := al928.g he
      obtain ⟨z1, z2, z3, z4, z5⟩ := f43 e (by rw [y1]; exact he) (kd_nq he q28d)
      exact ⟨z1.trans y1, z2.trans y2, z3.trans y3, z4.trans y4, z5.trans y5⟩
    have hq28' : kd S43 q28 = 4 := mx.2.1
    refine ⟨kq1, by rw [lq1]; exact vp_in_nI hlt (by omega), hq28', fun R47 e47 v48 e48 => ⟨bM B - (i + 1), by omega, i + 1, fun e => nw e ∨ (e = q28 ∨ e = q27 ∨ e = q2 ∨ e = q3 ∨ e = q4), by omega, rfl, by rw [e48]; exact nI_1 i, by omega, by omega, Al.of (fun e he => ?_), kq1, lq1, fun e he => ?_, fun j hj => ?_⟩⟩
    · obtain ⟨w1, w2, w3, w4, w5⟩ := al9.g he
      obtain ⟨z1, z2, z3, z4, z5⟩ := live e (by rw [w1]; exact he)
      refine ⟨z1.trans w1, z2.trans w2, z3.trans w3, z4.trans w4, ?_⟩
      show R47 e = _
      rw [e47, upR_ne (kd_nq he hq1)]
      exact z5.trans w5
    · rcases he with z | z | z | z | z | z
      · obtain ⟨y1, y2, y3⟩ := hnw e z
        exact ⟨y1, by show kd S43 e ≠ 0; rw [(live e y2).1]; exact y2, y3⟩
      · subst z; exact ⟨dead q28d, by show kd S43 _ ≠ 0; rw [hq28']; decide, Ne.symm q1q28⟩
      · subst z
        have : kd S28 e ≠ 0 := by rw [(A28 e q2728).1, kq27]; decide
        exact ⟨dead hq27, by show kd S43 _ ≠ 0; rw [(f43 e this q2728).1]; exact this, fun y => by rw [y, k9] at hq27; cases hq27⟩
      · subst z; exact ⟨dead (dead9 h2), a2, fun y => q1a (by rw [← y]; exact h2)⟩
      · subst z; exact ⟨dead (dead9 h3), a3, fun y => q1a (by rw [← y]; exact h3)⟩
      · subst z; exact ⟨dead (dead9 h4), a4, fun y => q1a (by rw [← y]; exact h4)⟩
    · have simR : ∀ e, e ≠ q1 → R47 e = gR S43 e := fun e he => by rw [e47, upR_ne he]
      by_cases cj : j = i
      · subst cj
        refine ⟨q28, ?_, (mx.sm (S' := wA S43 (gI S43) (gJ S43) R47) (fun e he => ⟨rfl, rfl, rfl, rfl, ?_⟩)).mono (fun e he => Or.inr he)⟩
        · show R47 q1 j = _
          rw [e47]; exact upR_at
        · refine simR e (fun y => ?_)
          rcases he with z | z | z | z | z
          · exact q1q28 (y.symm.trans z)
          · rw [y] at z; rw [← z, k9] at hq27; cases hq27
          · rw [y] at z; rw [← z] at h2; exact q1a h2
          · rw [y] at z; rw [← z] at h3; exact q1a h3
          · rw [y] at z; rw [← z] at h4; exact q1a h4
      · obtain ⟨q, y1, y2⟩ := hms j (by omega)
        refine ⟨q, ?_, (y2.sm (fun e he => ?_)).mono (fun e he => Or.inl he)⟩
        · show R47 q1 j = _
          rw [e47, upR_no cj, (live q1 (by rw [k9]; decide)).2.2.2.2]; exact y1
        · obtain ⟨w1, w2, w3⟩ := hnw e he
          obtain ⟨z1, z2, z3, z4, z5⟩ := live e w2
          refine ⟨z1, z2, z3, z4, ?_⟩
          show R47 e = _
          rw [simR e w3]; exact z5
end MA
