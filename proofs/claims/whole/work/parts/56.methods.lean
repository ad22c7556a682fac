/-! The calls that ask of methods. -/
theorem CB.me {S : St} {x b m : Nat} {am : Nat → Nat} {im : Nat → Prop} {B : Bk} (h : CB S x b m am im B) {i : Nat} (hi : i < bM B) : ∃ a q, gR S b 3 = some a ∧ kd S a = 24 ∧ vp_in (nI i) (ln S a) ∧ gR S a (nI i).toNatClampNeg = some q ∧ MX B i im S q := by
  have h4 := h.o.2.2.1
  obtain ⟨a, r, -, ka, la, hm⟩ := h.B.2.2.2.2.2
  obtain ⟨q, rq, mq⟩ := hm i hi
  refine ⟨a, q, r, ka, by rw [la]; exact vp_in_nI hi (by omega), by rw [nI_clamp (by omega)]; exact rq, mq⟩
theorem bl_32 {B : Bk} (h : bok B) {i : Nat} (hi : i < bM B) : 1 ≤ bl B i ∧ bl B i ≤ 32 := ⟨(h.2.2.2 i hi).1, (h.2.2.2 i hi).2.1⟩
theorem sp_length {B : Bk} {i q : Nat} {im : Nat → Prop} {S : St} {Q : Int32 → Prop} (h : MX B i im S q) (hq : Q (nI (bl B i))) : P_X3_length q S Q := by
  obtain ⟨h1, h2, h3, ⟨a4, r4, -, k4, l4, -⟩, -⟩ := h
  refine ⟨h2, a4, r4, k4, ?_⟩
  rw [l4]
  exact hq
theorem sp_moveAt {B : Bk} {i q c k : Nat} {im : Nat → Prop} {S : St} {Q : Int32 → Prop} (hb : bok B) (hi : i < bM B) (h : MX B i im S q) (hc : c ≤ 2) (hk : k < bl B i) (hq : Q (nI (pak (mvf (bch B i c k)) (bn B)))) : P_X3_moveAt q (nI c) (nI k) S Q := by
  obtain ⟨h1, h2, h3, ⟨a4, r4, -, k4, l4, g4⟩, -, ⟨a6, r6, -, k6, l6, g6⟩, -⟩ := h
  obtain ⟨b1, b2⟩ := bl_32 hb hi
  refine ⟨h2, a4, r4, k4, ?_⟩
  rw [l4, show nI (bl B i) - 1 = nI (bl B i - 1) from le_sub1 b1, nI_eq (by omega) (by omega)]
  refine ⟨fun hne => ⟨vp_in_nI hk (by omega), ?_⟩, fun he => ⟨a6, r6, k6, by rw [l6]; exact vp_in_nI (by omega) (by decide), ?_⟩⟩
  · rw [nI_clamp (by omega), g4 k hk]
    unfold bch at hq
    rw [if_pos (Or.inl (by omega))] at hq
    exact hq
  · rw [nI_clamp (by omega), g6 c (by omega), ← he]
    exact hq
def Eqn (n : Nat) (f g : Nat → Nat) : Prop := ∀ p, p < n → f p = g p
theorem rl0_pm {B : Bk} (h : bok B) {i : Nat} (hi : i < bM B) {k : Nat} (hk : k ≤ bl B i) : Pm (bn B) (rl B i 0 (fun p => p) k) := rl_pm h hi (by omega) (pm_id _) k hk
theorem sp_isUnlike {B : Bk} {i q fr : Nat} {im : Nat → Prop} {S : St} {Q : Int32 → Prop} (hb : bok B) (hi : i < bM B) (h : MX B i im S q) (hf : fr ≤ 1)
    (hq : (∀ u v, fr ≤ u → u < v → v < fr + bl B i → ¬ Eqn (bn B) (rl B i 0 (fun p => p) u) (rl B i 0 (fun p => p) v)) → Q 1)
    (hq2 : (∃ u v, fr ≤ u ∧ u < v ∧ v < fr + bl B i ∧ Eqn (bn B) (rl B i 0 (fun p => p) u) (rl B i 0 (fun p => p) v)) → Q 0) : P_X3_isUnlike q (nI fr) S Q := by
  obtain ⟨h1, h2, h3, ⟨a4, r4, -, k4, l4, g4⟩, ⟨a5, r5, -, k5, l5, g5⟩, -⟩ := h
  obtain ⟨b1, b2⟩ := bl_32 hb hi
  have hn := hb.2.1
  refine ⟨h2, a4, r4, k4, a5, r5, k5, ?_⟩
  intro v5 e5
  have e5' : v5 = nI (fr + bl B i) := by
    rw [e5, l4, l5, nI_add, iminN (by omega) (by omega), Nat.min_eq_left (by omega)]
  subst e5'
  refine ⟨fun t x3 => ∃ u, fr ≤ u ∧ u ≤ fr + bl B i ∧ t = fr + bl B i - u ∧ x3 = nI u ∧ ∀ u2 v, fr ≤ u2 → u2 < u → u2 < v → v < fr + bl B i → ¬ Eqn (bn B) (rl B i 0 (fun p => p) u2) (rl B i 0 (fun p => p) v), ⟨bl B i, fr, Nat.le_refl _, by omega, by omega, rfl, fun u2 v g1 g2 => by omega⟩, ?_⟩
  rintro t x3 ⟨u, hu1, hu2, rfl, rfl, hno⟩
  refine ⟨fun hc => ?_, fun hc v9 e9 => ?_⟩
  · have : fr + bl B i ≤ u := (nI_leI (by omega) (by omega)).mp hc
    exact hq (fun u2 v g1 g2 g3 => hno u2 v g1 (by omega) g2 g3)
  · have hlt := nI_gtI (by omega) (by omega) hc
    refine ⟨fun t x4 => ∃ v, u < v ∧ v ≤ fr + bl B i ∧ t = fr + bl B i - v ∧ x4 = nI v ∧ ∀ w, u < w → w < v → ¬ Eqn (bn B) (rl B i 0 (fun p => p) u) (rl B i 0 (fun p => p) w), ⟨fr + bl B i - (u + 1), u + 1, by omega, by omega, rfl, by rw [e9]; exact nI_1 u, fun w g1 g2 => by omega⟩, ?_⟩
    rintro t x4 ⟨v, hv1, hv2, rfl, rfl, hno2⟩
    refine ⟨fun hc2 v13 e13 => ?_, fun hc2 => ?_⟩
    · have : fr + bl B i ≤ v := (nI_leI (by omega) (by omega)).mp hc2
      refine ⟨fr + bl B i - (u + 1), by omega, u + 1, by omega, by omega, rfl, by rw [e13]; exact nI_1 u, ?_⟩
      intro u2 w g1 g2 g3 g4
      by_cases c : u2 = u
      · subst c; exact hno2 w g3 (by omega)
      · exact hno u2 w g1 (by omega) g3 g4
    · have hlt2 := nI_gtI (by omega) (by omega) hc2
      refine ⟨by rw [l5]; exact vp_in_nI (by omega) (by omega), by rw [l5]; exact vp_in_nI (by omega) (by omega), ?_⟩
      rw [nI_clamp (by omega), nI_clamp (by omega), g5 u (by omega), g5 v (by omega), pak_eq hn (pm8 hn (rl0_pm hb hi (by omega))) (pm8 hn (rl0_pm hb hi (by omega)))]
      refine ⟨fun hne w ew => ⟨fr + bl B i - (v + 1), by omega, v + 1, by omega, by omega, rfl, by rw [ew]; exact nI_1 v, ?_⟩, fun he => hq2 ⟨u, v, hu1, hv1, hlt2, he⟩⟩
      intro w g1 g2
      by_cases c : w = v
      · subst c; exact hne
      · exact hno2 w g1 (by omega)
theorem sp_behind {B : Bk} {i q : Nat} {g : Nat → Nat} {im : Nat → Prop} {S : St} {Q : Int32 → Prop} (hb : bok B) (hi : i < bM B) (h : MX B i im S q) (hg : ∀ p, p < bn B → g p < 8)
    (hq : ∀ k, k < bl B i → Eqn (bn B) (rl B i 0 (fun p => p) (k + 1)) g → (∀ j, j < k → ¬ Eqn (bn B) (rl B i 0 (fun p => p) (j + 1)) g) → Q (nI (k + 1)))
    (hq2 : (∀ k, k < bl B i → ¬ Eqn (bn B) (rl B i 0 (fun p => p) (k + 1)) g) → Q (-1)) : P_X3_behind q (nI (pak g (bn B))) S Q := by
  obtain ⟨h1, h2, h3, -, ⟨a5, r5, -, k5, l5, g5⟩, -⟩ := h
  obtain ⟨b1, b2⟩ := bl_32 hb hi
  have hn := hb.2.1
  refine ⟨h2, fun t x2 => ∃ k, k ≤ bl B i ∧ t = bl B i - k ∧ x2 = nI (k + 1) ∧ ∀ j, j < k → ¬ Eqn (bn B) (rl B i 0 (fun p => p) (j + 1)) g, ⟨bl B i, 0, by omega, rfl, rfl, fun j hj => by omega⟩, ?_⟩
  rintro t x2 ⟨k, hk, rfl, rfl, hno⟩
  refine ⟨a5, r5, k5, ?_⟩
  rw [l5]
  refine ⟨fun hc => ?_, fun hc => ?_⟩
  · have : bl B i + 1 ≤ k + 1 := (nI_leI (by omega) (by omega)).mp hc
    exact hq2 (fun j hj => hno j (by omega))
  · have hlt := nI_gtI (by omega) (by omega) hc
    refine ⟨vp_in_nI (by omega) (by omega), ?_⟩
    rw [nI_clamp (by omega), g5 (k + 1) (by omega), pak_eq hn (pm8 hn (rl0_pm hb hi (by omega))) hg]
    refine ⟨fun hne w ew => ⟨bl B i - (k + 1), by omega, k + 1, by omega, rfl, by rw [ew]; exact nI_1 _, ?_⟩, fun he => hq k (by omega) he hno⟩
    intro j hj
    by_cases c : j = k
    · subst c; exact hne
    · exact hno j (by omega)
theorem sm_laysLead {S : St} {m i : Nat} {am : Nat → Nat} {B : Bk} {Q : FI → Prop} (hL : LM S m am) (hb : bok B) (hB : BM B (gI S (am 0))) (hi : i < bM B)
    (hq : ∀ F', Kp tQ m am (gI S) F' → (∀ k, k < bl B i → F' (am 26) k = nI (num (bn B) (rl B i 0 (fun p => p) (k + 1)))) → (∀ k, k < bl B i → F' (am 27) k = nI (num (bn B) (inv (bn B) (rl B i 0 (fun p => p) (k + 1))))) → Q F') : P_X12_laysLead m (nI i) S Q := by
  obtain ⟨b1, b2⟩ := bl_32 hb hi
  have hn := hb.2.1
  have hn4 := hb.1
  unfold P_X12_laysLead
  refine ⟨hL.z, fun t x2 F => ∃ p, p ≤ bn B ∧ t = bn B - p ∧ x2 = nI p ∧ On (am 23) (gI S) F ∧ Rw F (am 23) p (fun p => p), ⟨bn B, 0, Nat.zero_le _, rfl, rfl, On.rf, fun q hq => absurd hq (Nat.not_lt_zero q)⟩, ?_⟩
  rintro t x2 F ⟨p, hp, rfl, rfl, hon, hrw⟩
  have k0 : Kp tQ m am (gI S) F := Kp.on hL 23 hon
  have hF0 : F (am 0) 0 = nI (bn B) := (hB.kp hL k0).1
  refine ⟨am 0, hL.r 0, hL.k 0, hL.i 0 (p := 0) (by decide), ?_⟩
  rw [hF0]
  refine ⟨fun hc => ?_, fun hc => ?_⟩
  · have : bn B ≤ p := (nI_leI (by omega) (by omega)).mp hc
    have e : p = bn B := by omega
    subst e
    refine ⟨fun t x2 F => ∃ k, k ≤ bl B i ∧ t = bl B i - k ∧ x2 = nI k ∧ Kp tQ m am (gI S) F ∧ Rw F (am 23) (bn B) (rl B i 0 (fun p => p) k) ∧ ∀ j, j < k → F (am 26) j = nI (num (bn B) (rl B i 0 (fun p => p) (j + 1))), ⟨bl B i, 0, Nat.zero_le _, rfl, rfl, k0, hrw, fun j hj => absurd hj (Nat.not_lt_zero j)⟩, ?_⟩
    rintro t x2 F1 ⟨k, hk, rfl, rfl, k1, rw1, w1⟩
    have L1 : LM (wI S F1) m am := hL
    have B1 := hB.kp hL k1
    refine sm_changesOf L1 hb B1 hi ⟨fun hc2 => ?_, fun hc2 => ?_⟩
    · have : bl B i ≤ k := (nI_leI (by omega) (by omega)).mp hc2
      have e : k = bl B i := by omega
      subst e
      refine ⟨fun t x2 F => ∃ k, k ≤ bl B i ∧ t = bl B i - k ∧ x2 = nI k ∧ Kp tQ m am (gI S) F ∧ (∀ j, j < bl B i → F (am 26) j = nI (num (bn B) (rl B i 0 (fun p => p) (j + 1)))) ∧ ∀ j, j < k → F (am 27) j = nI (num (bn B) (inv (bn B) (rl B i 0 (fun p => p) (j + 1)))), ⟨bl B i, 0, Nat.zero_le _, rfl, rfl, k1, w1, fun j hj => absurd hj (Nat.not_lt_zero j)⟩, ?_⟩
      rintro t x2 F2 ⟨k, hk, rfl, rfl, k2, w2, v2⟩
      have L2 : LM (wI S F2) m am := hL
      have B2 := hB.kp hL k2
      refine sm_changesOf L2 hb B2 hi ⟨fun hc3 => ?_, fun hc3 => ?_⟩
      · have : bl B i ≤ k := (nI_leI (by omega) (by omega)).mp hc3
        have e : k = bl B i := by omega
        subst e
        exact hq F2 k2 w2 v2
      · have hlt := nI_gtI (by omega) (by omega) hc3
        have hpm := rl0_pm hb hi (show k + 1 ≤ bl B i by omega)
        refine ⟨am 27, hL.r 27, am 26, hL.r 26, hL.k 26, hL.i 26 (by show k < 32; omega), ?_⟩
        rw [nI_clamp (by omega), w2 k hlt]
        refine sm_inverseOf' L2 hn (by omega) B2.1 (num_lt hpm) (fun F3 k3 _ => ⟨hL.k 27, hL.i 27 (by show k < 32; omega), fun F4 e4 w ew => ?_⟩)
        have c26 : F3 (am 26) = F2 (am 26) := k3.ar hL 26
        have c27 : F3 (am 27) = F2 (am 27) := k3.ar hL 27
        refine ⟨bl B i - (k + 1), by omega, k + 1, by omega, rfl, by rw [ew]; exact nI_1 k, ?_, ?_, ?_⟩
        · rw [e4]; exact (k2.tr (k3.mono tR_tQ)).tr (Kp.on hL 27 On.up)
        · intro j hj
          rw [e4, up_ne (hL.n (by decide)), c26]
          exact w2 j hj
        · intro j hj
          rw [e4]
          by_cases c : j = k
          · subst c
            rw [up_at]
            exact congrArg nI (num_cong (fun p _ => inv_cong (lay_num hn hpm) p))
          · rw [up_no c, c27]
            exact v2 j (by omega)
    · have hlt := nI_gtI (by omega) (by omega) hc2
      refine sm_changeOf (c := 0) L1 hb B1 hi (by omega) hlt ?_
      refine sm_changes0 (l := false) L1 hn B1.1 (bch_sw hb hi (by omega) hlt) (msk_stf hn _) rw1 (fun F2 o2 r2 => ⟨am 26, hL.r 26, am 23, hL.r 23, ?_⟩)
      rw [swl_f] at r2
      have k2 : Kp tQ m am (gI S) F2 := k1.tr (Kp.on hL 23 o2)
      have L2 : LM (wI S F2) m am := hL
      refine sm_numberOf L2 hn (hB.kp hL k2).1 (rl0_pm hb hi (show k + 1 ≤ bl B i by omega)) (hL.k 23) (hL.l 23) r2 ⟨hL.k 26, hL.i 26 (by show k < 32; omega), fun F3 e3 w ew => ?_⟩
      rw [nI_clamp (by omega)] at e3
      refine ⟨bl B i - (k + 1), by omega, k + 1, by omega, rfl, by rw [ew]; exact nI_1 k, ?_, ?_, ?_⟩
      · rw [e3]; exact k2.tr (Kp.on hL 26 On.up)
      · rw [e3]; exact rw_on r2 On.up (hL.n (by decide))
      · intro j hj
        rw [e3]
        by_cases c : j = k
        · subst c; exact up_at
        · rw [up_no c, o2 _ (hL.n (by decide))]
          exact w1 j (by omega)
  · have hlt := nI_gtI (by omega) (by omega) hc
    refine ⟨am 23, hL.r 23, hL.k 23, hL.i 23 (by show p < 8; omega), fun F2 e2 w ew => ?_⟩
    rw [nI_clamp (by omega)] at e2
    refine ⟨bn B - (p + 1), by omega, p + 1, by omega, rfl, by rw [ew]; exact nI_1 p, by rw [e2]; exact hon.tr On.up, ?_⟩
    intro q hq'
    rw [e2]
    by_cases c : q = p
    · subst c; exact up_at
    · rw [up_no c]; exact hrw q (by omega)
section CM
variable {S : St} {x b m : Nat} {am : Nat → Nat} {im : Nat → Prop} {B : Bk} {Q1 : Int32 → FI → Prop}
theorem call_changes (h : CB S x b m am im B) (r : Int32) (hq : ∀ v F, Th S x m am v (P_X12_changes m r (wI S F)) → Q1 v F) : P_X11_changes x r S Q1 := by
  have L1 : ∀ s, LM (wI S (upI (gI S) x 0 s)) m am := fun _ => h.L
  have h4 := h.o.2.2.1
  rcases nr_case (bM B) (by omega) r with ⟨i, hi, rfl⟩ | hr
  · obtain ⟨a, q, ra, ka, va, rq, mq⟩ := h.me hi
    refine ⟨h.x, xMy h hi ⟨fun _ => ⟨b, h.b, h.k, a, ra, ka, va, q, rq, mq.2.1, sp_length mq (an h.x (hq _ _ (fun Q2 h2 => ?_)))⟩, fun c => absurd c one0⟩⟩
    exact ⟨h.L.z, mMy (L1 0) h.o (h.M1 0) hi ⟨fun c => absurd c one0, fun _ => sm_changesOf (L1 0) h.o (h.M1 0) hi (gvm h.L.z Kp.rf h2)⟩⟩
  · refine ⟨h.x, xMn h hr ⟨fun c => absurd rfl c, fun _ => rf h.x (hq _ _ (fun Q2 h2 => ?_))⟩⟩
    exact ⟨h.L.z, mMn (L1 1) h.o (h.M1 1) hr ⟨fun _ => rfm h.L.z Kp.rf h2, fun c => absurd rfl c⟩⟩
theorem call_change (h : CB S x b m am im B) (r c0 k0 : Int32) (hq : ∀ v F, Th S x m am v (P_X12_change m r c0 k0 (wI S F)) → Q1 v F) : P_X11_change x r c0 k0 S Q1 := by
  have L1 : ∀ s, LM (wI S (upI (gI S) x 0 s)) m am := fun _ => h.L
  have h4 := h.o.2.2.1
  have hn := h.n8
  rcases nr_case (bM B) (by omega) r with ⟨i, hi, rfl⟩ | hr
  · obtain ⟨a, q, ra, ka, va, rq, mq⟩ := h.me hi
    obtain ⟨b1, b2⟩ := bl_32 h.o hi
    rcases nr_case 3 (by decide) c0 with ⟨c, hc, rfl⟩ | hcn
    · rcases nr_case (bl B i) (by omega) k0 with ⟨k, hk, rfl⟩ | hkn
      · refine ⟨h.x, xMy h hi ⟨False, False.elim, fun c => absurd c one0, fun _ => xCy hc ⟨fun c => absurd c one0, fun _ => ⟨fun c => absurd c (nI_pos (by omega)), fun _ => ⟨b, h.b, h.k, a, ra, ka, va, q, rq, mq.2.1, sp_length mq ⟨fun _ => ?_, fun c => absurd (nI_lt hk (by omega)) c⟩⟩⟩⟩⟩⟩
        refine sp_moveAt h.o hi mq (by omega) hk ?_
        rw [h.s]
        refine sp_placesOf hn (bch_sw h.o hi (by omega) hk) (an h.x (hq _ _ (fun Q2 h2 => ?_)))
        refine ⟨h.L.z, mMy (L1 0) h.o (h.M1 0) hi ⟨False, False.elim, fun c => absurd c one0, fun _ => mCy hc ⟨fun c => absurd c one0, fun _ => ⟨fun c => absurd c (nI_pos (by omega)), fun _ => sm_changesOf (L1 0) h.o (h.M1 0) hi ⟨fun _ => ?_, fun c => absurd (nI_lt hk (by omega)) c⟩⟩⟩⟩⟩
        exact sm_changeOf (L1 0) h.o (h.M1 0) hi (by omega) hk (sm_numberOfPlaces (L1 0) hn (h.M1 0).1 (msk_stf hn _) (gvm h.L.z Kp.rf h2))
      · have hnl : ¬ k0 < 0 → ¬ k0 < nI (bl B i) := fun h0 c => by
          have := nr_ix (by omega) hkn h0
          rw [fa_le] at this; rw [fa_lt] at c; omega
        refine ⟨h.x, xMy h hi ⟨True, fun _ => rf h.x (hq _ _ (fun Q2 h2 => ?_)), fun c => absurd c one0, fun _ => xCy hc ⟨fun c => absurd c one0, fun _ => ⟨fun _ => trivial, fun h0 => ⟨b, h.b, h.k, a, ra, ka, va, q, rq, mq.2.1, sp_length mq ⟨fun c => absurd c (hnl h0), fun _ => trivial⟩⟩⟩⟩⟩⟩
        exact ⟨h.L.z, mMy (L1 1) h.o (h.M1 1) hi ⟨True, fun _ => rfm h.L.z Kp.rf h2, fun c => absurd c one0, fun _ => mCy hc ⟨fun c => absurd c one0, fun _ => ⟨fun _ => trivial, fun h0 => sm_changesOf (L1 1) h.o (h.M1 1) hi ⟨fun c => absurd c (hnl h0), fun _ => trivial⟩⟩⟩⟩⟩
    · refine ⟨h.x, xMy h hi ⟨True, fun _ => rf h.x (hq _ _ (fun Q2 h2 => ?_)), fun c => absurd c one0, fun _ => xCn hcn ⟨fun _ => trivial, fun c => absurd rfl c⟩⟩⟩
      exact ⟨h.L.z, mMy (L1 1) h.o (h.M1 1) hi ⟨True, fun _ => rfm h.L.z Kp.rf h2, fun c => absurd c one0, fun _ => mCn hcn ⟨fun _ => trivial, fun c => absurd rfl c⟩⟩⟩
  · refine ⟨h.x, xMn h hr ⟨True, fun _ => rf h.x (hq _ _ (fun Q2 h2 => ?_)), fun _ => trivial, fun c => absurd rfl c⟩⟩
    exact ⟨h.L.z, mMn (L1 1) h.o (h.M1 1) hr ⟨True, fun _ => rfm h.L.z Kp.rf h2, fun _ => trivial, fun c => absurd rfl c⟩⟩
theorem lay0_hd {B : Bk} (h : bok B) {i c : Nat} (hi : i < bM B) (hc : c ≤ 2) : num (bn B) (fun p => lay (bn B) 0 (hd B i c p)) = num (bn B) (hd B i c) := num_cong (fun p hp => lay_0 h.2.1 _ ((hd_pm h hi hc).1 p hp))
/-- calls of a method and a call: what is common -/
theorem call_head (h : CB S x b m am im B) (r c0 : Int32) (hq : ∀ v F, Th S x m am v (P_X12_head m r c0 (wI S F)) → Q1 v F) : P_X11_head x r c0 S Q1 := by
  have L1 : ∀ s, LM (wI S (upI (gI S) x 0 s)) m am := fun _ => h.L
  have h4 := h.o.2.2.1
  have hn := h.n8
  rcases nr_case (bM B) (by omega) r with ⟨i, hi, rfl⟩ | hr
  · obtain ⟨a, q, ra, ka, va, rq, mq⟩ := h.me hi
    rcases nr_case 3 (by decide) c0 with ⟨c, hc, rfl⟩ | hcn
    · have hp := hd_pm h.o hi (show c ≤ 2 by omega)
      obtain ⟨-, q2, -, -, -, -, ⟨a7, r7, -, k7, l7, g7⟩⟩ := mq
      refine ⟨h.x, xMy h hi ⟨False, False.elim, fun c => absurd c one0, fun _ => xCy hc ⟨fun _ => ⟨b, h.b, h.k, a, ra, ka, va, q, rq, q2, a7, r7, k7, by rw [l7]; exact vp_in_nI hc (by decide), ?_⟩, fun c => absurd c one0⟩⟩⟩
      rw [nI_clamp (by omega), g7 c hc]
      refine xNu h hp (an h.x (hq _ _ (fun Q2 h2 => ?_)))
      refine ⟨h.L.z, mMy (L1 0) h.o (h.M1 0) hi ⟨False, False.elim, fun c => absurd c one0, fun _ => mCy hc ⟨fun c => absurd c one0, fun _ => sm_leadFrom (k := 0) (L1 0) h.o (h.M1 0) hi (by omega) (fac_pos _) (fun F' k' => ?_)⟩⟩⟩
      rw [lay0_hd h.o hi (by omega)]
      exact gvm h.L.z k' h2
    · refine ⟨h.x, xMy h hi ⟨True, fun _ => rf h.x (hq _ _ (fun Q2 h2 => ?_)), fun c => absurd c one0, fun _ => xCn hcn ⟨fun c => absurd rfl c, fun _ => trivial⟩⟩⟩
      exact ⟨h.L.z, mMy (L1 1) h.o (h.M1 1) hi ⟨True, fun _ => rfm h.L.z Kp.rf h2, fun c => absurd c one0, fun _ => mCn hcn ⟨fun _ => trivial, fun c => absurd rfl c⟩⟩⟩
  · refine ⟨h.x, xMn h hr ⟨True, fun _ => rf h.x (hq _ _ (fun Q2 h2 => ?_)), fun _ => trivial, fun c => absurd rfl c⟩⟩
    exact ⟨h.L.z, mMn (L1 1) h.o (h.M1 1) hr ⟨True, fun _ => rfm h.L.z Kp.rf h2, fun _ => trivial, fun c => absurd rfl c⟩⟩
theorem ord_cong {n k : Nat} {f g : Nat → Nat} (hf : Pm n f) (h : ∀ p, p < n → f p = g p) (ho : Ord n f k) : Ord n g k := by
  have hp : ∀ t p, p < n → pw f t p = pw g t p := by
    intro t
    induction t with
    | zero => intro p _; rfl
    | succ t ih => intro p hp; show pw f t (f p) = pw g t (g p); rw [← h p hp]; exact ih _ (hf.1 p hp)
  obtain ⟨k1, k2, k3, k4⟩ := ho
  exact ⟨k1, k2, fun p hp' => by rw [← hp k p hp']; exact k3 p hp', fun j hj hjk hid => k4 j hj hjk (fun p hp' => by rw [hp j p hp']; exact hid p hp')⟩
theorem call_course (h : CB S x b m am im B) (r c0 : Int32) (hq : ∀ v F, Th S x m am v (P_X12_course m r c0 (wI S F)) → Q1 v F) : P_X11_course x r c0 S Q1 := by
  have L1 : ∀ s, LM (wI S (upI (gI S) x 0 s)) m am := fun _ => h.L
  have h4 := h.o.2.2.1
  have hn := h.n8
  rcases nr_case (bM B) (by omega) r with ⟨i, hi, rfl⟩ | hr
  · obtain ⟨a, q, ra, ka, va, rq, mq⟩ := h.me hi
    rcases nr_case 3 (by decide) c0 with ⟨c, hc, rfl⟩ | hcn
    · have hp := hd_pm h.o hi (show c ≤ 2 by omega)
      obtain ⟨o, ho⟩ := ord_ex hn hp
      obtain ⟨-, q2, -, -, -, -, ⟨a7, r7, -, k7, l7, g7⟩⟩ := mq
      refine ⟨h.x, xMy h hi ⟨False, False.elim, fun c => absurd c one0, fun _ => xCy hc ⟨fun _ => ⟨b, h.b, h.k, a, ra, ka, va, q, rq, q2, a7, r7, k7, by rw [l7]; exact vp_in_nI hc (by decide), ?_⟩, fun c => absurd c one0⟩⟩⟩
      rw [nI_clamp (by omega), g7 c hc, h.s]
      refine sp_orderOf hn hp ho (an h.x (hq _ _ (fun Q2 h2 => ?_)))
      refine ⟨h.L.z, mMy (L1 0) h.o (h.M1 0) hi ⟨False, False.elim, fun c => absurd c one0, fun _ => mCy hc ⟨fun c => absurd c one0, fun _ => sm_leadFrom (k := 0) (L1 0) h.o (h.M1 0) hi (by omega) (fac_pos _) (fun F' k' => ?_)⟩⟩⟩
      rw [lay0_hd h.o hi (by omega)]
      have L2 : LM (wI (wI S (upI (gI S) x 0 0)) F') m am := h.L
      exact sm_orderOf L2 hn h.n1 ((h.M1 0).kp h.L k').1 (num_lt hp) (ord_cong hp (fun p hp' => (lay_num hn hp p hp').symm) ho) (fun F3 k3 => gvm h.L.z (k'.tr k3) h2)
    · refine ⟨h.x, xMy h hi ⟨True, fun _ => rf h.x (hq _ _ (fun Q2 h2 => ?_)), fun c => absurd c one0, fun _ => xCn hcn ⟨fun c => absurd rfl c, fun _ => trivial⟩⟩⟩
      exact ⟨h.L.z, mMy (L1 1) h.o (h.M1 1) hi ⟨True, fun _ => rfm h.L.z Kp.rf h2, fun c => absurd c one0, fun _ => mCn hcn ⟨fun _ => trivial, fun c => absurd rfl c⟩⟩⟩
  · refine ⟨h.x, xMn h hr ⟨True, fun _ => rf h.x (hq _ _ (fun Q2 h2 => ?_)), fun _ => trivial, fun c => absurd rfl c⟩⟩
    exact ⟨h.L.z, mMn (L1 1) h.o (h.M1 1) hr ⟨True, fun _ => rfm h.L.z Kp.rf h2, fun _ => trivial, fun c => absurd rfl c⟩⟩
theorem call_fixed (h : CB S x b m am im B) (r c0 : Int32) (hq : ∀ v F, Th S x m am v (P_X12_fixed m r c0 (wI S F)) → Q1 v F) : P_X11_fixed x r c0 S Q1 := by
  have L1 : ∀ s, LM (wI S (upI (gI S) x 0 s)) m am := fun _ => h.L
  have h4 := h.o.2.2.1
  have hn := h.n8
  rcases nr_case (bM B) (by omega) r with ⟨i, hi, rfl⟩ | hr
  · obtain ⟨a, q, ra, ka, va, rq, mq⟩ := h.me hi
    rcases nr_case 3 (by decide) c0 with ⟨c, hc, rfl⟩ | hcn
    · have hp := hd_pm h.o hi (show c ≤ 2 by omega)
      obtain ⟨-, q2, -, -, -, -, ⟨a7, r7, -, k7, l7, g7⟩⟩ := mq
      refine ⟨h.x, xMy h hi ⟨False, False.elim, fun c => absurd c one0, fun _ => xCy hc ⟨fun _ => ⟨b, h.b, h.k, a, ra, ka, va, q, rq, q2, a7, r7, k7, by rw [l7]; exact vp_in_nI hc (by decide), ?_⟩, fun c => absurd c one0⟩⟩⟩
      rw [nI_clamp (by omega), g7 c hc, h.s]
      refine sp_fixedOf hn hp (an h.x (hq _ _ (fun Q2 h2 => ?_)))
      refine ⟨h.L.z, mMy (L1 0) h.o (h.M1 0) hi ⟨False, False.elim, fun c => absurd c one0, fun _ => mCy hc ⟨fun _ => sm_leadFrom (k := 0) (L1 0) h.o (h.M1 0) hi (by omega) (fac_pos _) (fun F' k' => ⟨am 24, h.L.r 24, ?_⟩), fun c => absurd c one0⟩⟩⟩
      rw [lay0_hd h.o hi (by omega)]
      have L2 : LM (wI (wI S (upI (gI S) x 0 0)) F') m am := h.L
      refine sm_laysRow L2 hn h.n1 ((h.M1 0).kp h.L k').1 (num_lt hp) (h.L.k 24) (h.L.l 24) (fun F9 o9 r9 => ?_)
      have k9 : Kp tQ m am (upI (gI S) x 0 0) F9 := k'.tr (Kp.on h.L 24 o9)
      have hF0 : F9 (am 0) 0 = nI (bn B) := ((h.M1 0).kp h.L k9).1
      refine ⟨fun t x2 x3 => ∃ p, p ≤ bn B ∧ t = bn B - p ∧ x2 = msk (fun p => decide (hd B i c p = p)) p ∧ x3 = nI p, ⟨bn B, 0, Nat.zero_le _, rfl, rfl, rfl⟩, ?_⟩
      rintro t x2 x3 ⟨p, hpb, rfl, rfl, rfl⟩
      refine ⟨am 0, h.L.r 0, h.L.k 0, h.L.i 0 (p := 0) (by decide), ?_⟩
      rw [hF0]
      refine ⟨fun hc => ?_, fun hc => ?_⟩
      · have : bn B ≤ p := (nI_leI (by omega) (by omega)).mp hc
        have e : p = bn B := by omega
        subst e
        exact gvm h.L.z k9 h2
      · have hlt := nI_gtI (by omega) (by omega) hc
        have hp1 := hp.1 p hlt
        refine ⟨h.L.k 24, h.L.i 24 (by show p < 8; omega), ?_⟩
        rw [nI_clamp (by omega), r9 p hlt, lay_num hn hp p hlt, nI_eq (by omega) (by omega)]
        refine ⟨fun hne v ev w ew => ⟨bn B - (p + 1), by omega, p + 1, by omega, rfl, ?_, by rw [ew]; exact nI_1 p⟩, fun he v ev w ew => ⟨bn B - (p + 1), by omega, p + 1, by omega, rfl, ?_, by rw [ew]; exact nI_1 p⟩⟩
        · rw [ev, msk_no _ (decide_eq_false hne)]
          exact b_ext (fun j _ => by rw [b_or, b_0, Bool.or_false])
        · rw [ev, msk_in _ (by omega) (decide_eq_true he)]
    · refine ⟨h.x, xMy h hi ⟨True, fun _ => rf h.x (hq _ _ (fun Q2 h2 => ?_)), fun c => absurd c one0, fun _ => xCn hcn ⟨fun c => absurd rfl c, fun _ => trivial⟩⟩⟩
      exact ⟨h.L.z, mMy (L1 1) h.o (h.M1 1) hi ⟨True, fun _ => rfm h.L.z Kp.rf h2, fun c => absurd c one0, fun _ => mCn hcn ⟨fun c => absurd rfl c, fun _ => trivial⟩⟩⟩
  · refine ⟨h.x, xMn h hr ⟨True, fun _ => rf h.x (hq _ _ (fun Q2 h2 => ?_)), fun _ => trivial, fun c => absurd rfl c⟩⟩
    exact ⟨h.L.z, mMn (L1 1) h.o (h.M1 1) hr ⟨True, fun _ => rfm h.L.z Kp.rf h2, fun _ => trivial, fun c => absurd rfl c⟩⟩
end CM
