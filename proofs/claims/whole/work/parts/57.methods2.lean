/-! More calls that ask of methods. -/
theorem sub1 {a : Nat} (h : 1 ≤ a) : nI a - 1 = nI (a - 1) := le_sub1 h
theorem nI_z {a : Nat} (h : a < 2 ^ 31) : nI a = 0 ↔ a = 0 := nI_eq (b := 0) h (by decide)
theorem mv_bits {n : Nat} {s1 s2 : Nat → Bool} (hn : n ≤ 8) : nI (pak (mvf s1) n) = nI (pak (mvf s2) n) ↔ ∀ p, p < n → s1 p = s2 p := by
  refine ⟨fun e p hp => ?_, fun h => congrArg nI (pak_cong (fun p hp => by unfold mvf; rw [h p hp]))⟩
  have h1 := bt_pak (f := mvf s1) (n := n) (fun p _ => mvf_lt s1 p) (p := p) (i := 0) (by omega) (by decide)
  have h2 := bt_pak (f := mvf s2) (n := n) (fun p _ => mvf_lt s2 p) (p := p) (i := 0) (by omega) (by decide)
  rw [e, h2, decide_eq_true hp, Bool.true_and, Bool.true_and, mvf_bit (by decide), mvf_bit (by decide)] at h1
  exact h1.symm
theorem stf_bits {n : Nat} {s1 s2 : Nat → Bool} (hn : n ≤ 8) (h1 : Sw n s1) (h2 : Sw n s2) : msk (stf s1) n = msk (stf s2) n ↔ ∀ p, p < n → s1 p = s2 p := by
  refine ⟨fun e p hp => ?_, fun h => msk_cong (fun p hp => ?_)⟩
  · have : ∀ q, q < n → stf s1 q = stf s2 q := fun q hq => by
      rw [← msk_stf hn s1 q hq, ← msk_stf hn s2 q hq, e]
    rw [← swm_stf h1 p, ← swm_stf h2 p]
    exact swm_cong this p
  · unfold stf
    rw [h p hp]
    rcases Nat.eq_zero_or_pos p with c | c
    · subst c; rfl
    · rw [h (p - 1) (by omega)]
theorem mv_st {n : Nat} {s1 s2 : Nat → Bool} (hn : n ≤ 8) (h1 : Sw n s1) (h2 : Sw n s2) : nI (pak (mvf s1) n) = nI (pak (mvf s2) n) ↔ msk (stf s1) n = msk (stf s2) n := (mv_bits hn).trans (stf_bits hn h1 h2).symm
theorem sp_readsBackward {S : St} {a c : Nat} {f : Nat → Int32} {Q : Int32 → Prop} (ka : kd S a = 21) (hc : c ≤ ln S a) (hl : ln S a < 2 ^ 30) (hf : ∀ k, k < c → gI S a k = f k)
    (hq : (∀ k, k < c → f k = f (c - 1 - k)) → Q 1) (hq2 : ¬ (∀ k, k < c → f k = f (c - 1 - k)) → Q 0) : P_X11_readsBackward a (nI c) S Q := by
  have e2 : nI c / 2 = nI (c / 2) := pk_div (d := 2) (by omega) (by decide) (by decide)
  unfold P_X11_readsBackward
  rw [e2]
  refine ⟨fun t x2 => ∃ k, k ≤ c / 2 ∧ t = c / 2 - k ∧ x2 = nI k ∧ ∀ j, j < k → f j = f (c - 1 - j), ⟨c / 2, 0, Nat.zero_le _, rfl, rfl, fun j hj => absurd hj (Nat.not_lt_zero j)⟩, ?_⟩
  rintro t x2 ⟨k, hk, rfl, rfl, hj⟩
  refine ⟨fun hc1 => ?_, fun hc1 => ?_⟩
  · have : c / 2 ≤ k := (nI_leI (by omega) (by omega)).mp hc1
    refine hq (fun j hjc => ?_)
    rcases Nat.lt_or_ge j k with c1 | c1
    · exact hj j c1
    · rcases Nat.lt_or_ge (c - 1 - j) k with c2 | c2
      · have := hj (c - 1 - j) c2
        rw [show c - 1 - (c - 1 - j) = j by omega] at this
        exact this.symm
      · rw [show c - 1 - j = j by omega]
  · have hlt := nI_gtI (by omega) (by omega) hc1
    have e3 : nI c - 1 - nI k = nI (c - 1 - k) := by
      rw [sub1 (by omega), le_sub1 (by omega)]
    rw [e3]
    refine ⟨ka, vp_in_nI (by omega) (by omega), vp_in_nI (by omega) (by omega), ?_⟩
    rw [nI_clamp (by omega), nI_clamp (by omega), hf k (by omega), hf (c - 1 - k) (by omega)]
    refine ⟨fun he w ew => ⟨c / 2 - (k + 1), by omega, k + 1, by omega, rfl, by rw [ew]; exact nI_1 k, fun j hjk => ?_⟩, fun hne => hq2 (fun h => hne (h k (by omega)))⟩
    by_cases c1 : j = k
    · subst c1; exact he
    · exact hj j (by omega)
theorem num_layeq {n r : Nat} {f : Nat → Nat} (hn : n ≤ 8) (hf : Pm n f) (hr : r < fac n) : (∀ p, p < n → f p = lay n r p) ↔ num n f = r :=
  ⟨fun h => by rw [num_cong h, num_lay hn hr], fun e p hp => by rw [← e, lay_num hn hf p hp]⟩
theorem sm_symmetric {S : St} {m i : Nat} {am : Nat → Nat} {B : Bk} {Q : Int32 → FI → Prop} (hL : LM S m am) (hb : bok B) (hB : BM B (gI S (am 0))) (hi : i < bM B)
    (hq : (∀ k, k < bl B i - 1 → msk (stf (bv B i k)) (bn B) = msk (stf (bv B i (bl B i - 1 - 1 - k))) (bn B)) → P_X12_gives m 1 S Q)
    (hq2 : ¬ (∀ k, k < bl B i - 1 → msk (stf (bv B i k)) (bn B) = msk (stf (bv B i (bl B i - 1 - 1 - k))) (bn B)) → P_X12_gives m 0 S Q) : P_X12_symmetric m (nI i) S Q := by
  obtain ⟨b1, b2⟩ := bl_32 hb hi
  have hch : ∀ k, bch B i 0 k = bv B i k := fun k => by unfold bch; rw [if_pos (Or.inr rfl)]
  refine ⟨hL.z, mMy hL hb hB hi ⟨fun _ => sm_changesOf hL hb hB hi (fun v4 e4 => ?_), fun c => absurd c one0⟩⟩
  have e4' : v4 = nI (bl B i - 1) := by rw [e4]; exact le_sub1 b1
  subst e4'
  obtain ⟨N, hN⟩ : ∃ N, N = bl B i - 1 := ⟨_, rfl⟩
  rw [← hN] at hq hq2 ⊢
  refine ⟨fun t x3 x4 => ∃ k, k ≤ N ∧ t = N - k ∧ x4 = nI k ∧ ((x3 = 1 ∧ ∀ j, j < k → msk (stf (bv B i j)) (bn B) = msk (stf (bv B i (N - 1 - j))) (bn B)) ∨ (x3 = 0 ∧ ¬ (∀ j, j < N → msk (stf (bv B i j)) (bn B) = msk (stf (bv B i (N - 1 - j))) (bn B)))), ⟨N, 0, Nat.zero_le _, rfl, rfl, Or.inl ⟨rfl, fun j hj => absurd hj (Nat.not_lt_zero j)⟩⟩, ?_⟩
  rintro t x3 x4 ⟨k, hk, rfl, rfl, hx⟩
  refine ⟨fun hc => ?_, fun hc => ⟨fun h0 w ew => ?_, fun h0 => ?_⟩⟩
  · have : N ≤ k := (nI_leI (by omega) (by omega)).mp hc
    have e : k = N := by omega
    subst e
    rcases hx with ⟨rfl, hx⟩ | ⟨rfl, hx⟩
    · exact ⟨fun t => t = 1, by rintro _ rfl; exact hq hx, fun c => absurd c one0, fun _ => rfl⟩
    · exact ⟨fun t => t = 0, by rintro _ rfl; exact hq2 hx, fun _ => rfl, fun c => absurd rfl c⟩
  · have hlt := nI_gtI (by omega) (by omega) hc
    rcases hx with ⟨rfl, hx⟩ | ⟨rfl, hx⟩
    · exact absurd h0 one0
    · exact ⟨N - (k + 1), by omega, k + 1, by omega, rfl, by rw [ew]; exact nI_1 k, Or.inr ⟨rfl, hx⟩⟩
  · have hlt := nI_gtI (by omega) (by omega) hc
    rcases hx with ⟨rfl, hx⟩ | ⟨rfl, hx⟩
    · refine sm_changeOf (c := 0) hL hb hB hi (by decide) (show k < bl B i by omega) ?_
      have e3 : nI N - 1 - nI k = nI (N - 1 - k) := by
        rw [sub1 (by omega), le_sub1 (by omega)]
      rw [e3]
      refine sm_changeOf (c := 0) hL hb hB hi (by decide) (show N - 1 - k < bl B i by omega) ?_
      rw [hch, hch]
      refine ⟨fun hne w ew => ⟨N - (k + 1), by omega, k + 1, by omega, rfl, by rw [ew]; exact nI_1 k, Or.inr ⟨rfl, fun h => hne (h k hlt)⟩⟩, fun he w ew => ⟨N - (k + 1), by omega, k + 1, by omega, rfl, by rw [ew]; exact nI_1 k, Or.inl ⟨rfl, fun j hj => ?_⟩⟩⟩
      by_cases c1 : j = k
      · subst c1; exact he
      · exact hx j (by omega)
    · exact absurd rfl h0
theorem sm_leadTrue {S : St} {m i : Nat} {am : Nat → Nat} {B : Bk} {Q : Int32 → FI → Prop} (hL : LM S m am) (hb : bok B) (hB : BM B (gI S (am 0))) (hi : i < bM B)
    (hq : (∀ u v, 1 ≤ u → u < v → v < 1 + bl B i → ¬ Eqn (bn B) (rl B i 0 (fun p => p) u) (rl B i 0 (fun p => p) v)) → ∀ F, Kp tQ m am (gI S) F → P_X12_gives m 1 (wI S F) Q)
    (hq2 : (∃ u v, 1 ≤ u ∧ u < v ∧ v < 1 + bl B i ∧ Eqn (bn B) (rl B i 0 (fun p => p) u) (rl B i 0 (fun p => p) v)) → ∀ F, Kp tQ m am (gI S) F → P_X12_gives m 0 (wI S F) Q) : P_X12_leadTrue m (nI i) S Q := by
  obtain ⟨b1, b2⟩ := bl_32 hb hi
  have hn := hb.2.1
  refine ⟨hL.z, mMy hL hb hB hi ⟨fun _ => sm_laysLead hL hb hB hi (fun F k w _ => ?_), fun c => absurd c one0⟩⟩
  have L1 : LM (wI S F) m am := hL
  have B1 := hB.kp hL k
  have eqn : ∀ u v, u < bl B i → v < bl B i → (F (am 26) u = F (am 26) v ↔ Eqn (bn B) (rl B i 0 (fun p => p) (u + 1)) (rl B i 0 (fun p => p) (v + 1))) := fun u v hu hv => by
    have hf := fac_lt hn
    have p1 := rl0_pm hb hi (show u + 1 ≤ bl B i by omega)
    have p2 := rl0_pm hb hi (show v + 1 ≤ bl B i by omega)
    have q1 := num_lt p1
    have q2 := num_lt p2
    rw [w u hu, w v hv, nI_eq (by omega) (by omega)]
    exact ⟨fun e => num_inj hn p1 p2 e, fun e => num_cong e⟩
  refine ⟨fun t x2 => ∃ v, v ≤ bl B i ∧ t = bl B i - v ∧ x2 = nI v ∧ ∀ u w, u < w → w < v → ¬ Eqn (bn B) (rl B i 0 (fun p => p) (u + 1)) (rl B i 0 (fun p => p) (w + 1)), ⟨bl B i, 0, Nat.zero_le _, rfl, rfl, fun u w h1 h2 => by omega⟩, ?_⟩
  rintro t x2 ⟨v, hv, rfl, rfl, hno⟩
  refine sm_changesOf L1 hb B1 hi ⟨fun hc => ?_, fun hc => ?_⟩
  · have : bl B i ≤ v := (nI_leI (by omega) (by omega)).mp hc
    refine hq (fun u w g1 g2 g3 => ?_) F k
    have := hno (u - 1) (w - 1) (by omega) (by omega)
    rw [show u - 1 + 1 = u by omega, show w - 1 + 1 = w by omega] at this
    exact this
  · have hlt := nI_gtI (by omega) (by omega) hc
    refine ⟨fun t x3 => ∃ u, u ≤ v ∧ t = v - u ∧ x3 = nI u ∧ ∀ w, w < u → ¬ Eqn (bn B) (rl B i 0 (fun p => p) (w + 1)) (rl B i 0 (fun p => p) (v + 1)), ⟨v, 0, Nat.zero_le _, rfl, rfl, fun w h1 => by omega⟩, ?_⟩
    rintro t x3 ⟨u, hu, rfl, rfl, hno2⟩
    refine ⟨fun hc2 w ew => ?_, fun hc2 => ?_⟩
    · have : v ≤ u := (nI_leI (by omega) (by omega)).mp hc2
      refine ⟨bl B i - (v + 1), by omega, v + 1, by omega, rfl, by rw [ew]; exact nI_1 v, fun u2 w2 g1 g2 => ?_⟩
      by_cases c : w2 = v
      · subst c; exact hno2 u2 (by omega)
      · exact hno u2 w2 g1 (by omega)
    · have hlt2 := nI_gtI (by omega) (by omega) hc2
      refine ⟨am 26, hL.r 26, hL.k 26, hL.i 26 (by show u < 32; omega), hL.i 26 (by show v < 32; omega), ?_⟩
      rw [nI_clamp (by omega), nI_clamp (by omega), eqn u v (by omega) hlt]
      refine ⟨fun hne w ew => ⟨v - (u + 1), by omega, u + 1, by omega, rfl, by rw [ew]; exact nI_1 u, fun w2 hw => ?_⟩, fun he => hq2 ⟨u + 1, v + 1, by omega, by omega, by omega, he⟩ F k⟩
      by_cases c : w2 = u
      · subst c; exact hne
      · exact hno2 w2 (by omega)
theorem sm_inLead {S : St} {m i r : Nat} {am : Nat → Nat} {B : Bk} {Q : Int32 → FI → Prop} (hL : LM S m am) (hb : bok B) (hB : BM B (gI S (am 0))) (hi : i < bM B) (hr : r < fac (bn B))
    (hq : ∀ k, k < bl B i → Eqn (bn B) (rl B i 0 (fun p => p) (k + 1)) (lay (bn B) r) → (∀ j, j < k → ¬ Eqn (bn B) (rl B i 0 (fun p => p) (j + 1)) (lay (bn B) r)) → ∀ F, Kp tQ m am (gI S) F → P_X12_gives m (nI (k + 1)) (wI S F) Q)
    (hq2 : (∀ k, k < bl B i → ¬ Eqn (bn B) (rl B i 0 (fun p => p) (k + 1)) (lay (bn B) r)) → ∀ F, Kp tQ m am (gI S) F → P_X12_refuse m 6 (wI S F) Q) : P_X12_inLead m (nI i) (nI r) S Q := by
  obtain ⟨b1, b2⟩ := bl_32 hb hi
  have hn := hb.2.1
  refine ⟨hL.z, mMy hL hb hB hi ⟨False, False.elim, fun c => absurd c one0, fun _ => mRy hL hb hB hr ⟨fun _ => sm_laysLead hL hb hB hi (fun F k w _ => ?_), fun c => absurd c one0⟩⟩⟩
  have L1 : LM (wI S F) m am := hL
  have B1 := hB.kp hL k
  have eqn : ∀ u, u < bl B i → (F (am 26) u = nI r ↔ Eqn (bn B) (rl B i 0 (fun p => p) (u + 1)) (lay (bn B) r)) := fun u hu => by
    have hf := fac_lt hn
    have p1 := rl0_pm hb hi (show u + 1 ≤ bl B i by omega)
    have q1 := num_lt p1
    rw [w u hu, nI_eq (by omega) (by omega)]
    exact (num_layeq hn p1 hr).symm
  refine ⟨fun t x2 => ∃ v, v ≤ bl B i ∧ t = bl B i - v ∧ x2 = nI v ∧ ∀ u, u < v → ¬ Eqn (bn B) (rl B i 0 (fun p => p) (u + 1)) (lay (bn B) r), ⟨bl B i, 0, Nat.zero_le _, rfl, rfl, fun u h1 => by omega⟩, ?_⟩
  rintro t x2 ⟨v, hv, rfl, rfl, hno⟩
  refine sm_changesOf L1 hb B1 hi ⟨fun hc => ?_, fun hc => ?_⟩
  · have : bl B i ≤ v := (nI_leI (by omega) (by omega)).mp hc
    exact hq2 (fun j hj => hno j (by omega)) F k
  · have hlt := nI_gtI (by omega) (by omega) hc
    refine ⟨am 26, hL.r 26, hL.k 26, hL.i 26 (by show v < 32; omega), ?_⟩
    rw [nI_clamp (by omega), eqn v hlt]
    refine ⟨fun hne w ew => ⟨bl B i - (v + 1), by omega, v + 1, by omega, rfl, by rw [ew]; exact nI_1 v, fun u hu => ?_⟩, fun he => ?_⟩
    · by_cases c : u = v
      · subst c; exact hne
      · exact hno u (by omega)
    · rw [nI_1]
      exact hq v hlt he hno F k
theorem sm_leadsTo {S : St} {m i r o : Nat} {am : Nat → Nat} {B : Bk} {Q : Int32 → FI → Prop} (hL : LM S m am) (hb : bok B) (hB : BM B (gI S (am 0))) (hi : i < bM B) (hr : r < fac (bn B)) (ho : Ord (bn B) (hd B i 0) o)
    (hq : ∀ k, k < o → num (bn B) (pw (hd B i 0) k) = r → (∀ j, j < k → ¬ num (bn B) (pw (hd B i 0) j) = r) → ∀ F, Kp tQ m am (gI S) F → P_X12_gives m (nI k) (wI S F) Q)
    (hq2 : (∀ k, k < o → ¬ num (bn B) (pw (hd B i 0) k) = r) → ∀ F, Kp tQ m am (gI S) F → P_X12_refuse m 6 (wI S F) Q) : P_X12_leadsTo m (nI i) (nI r) S Q := by
  have hn := hb.2.1
  have hn4 := hb.1
  have hf := fac_lt hn
  have hp := hd_pm hb hi (show 0 ≤ 2 by omega)
  obtain ⟨o1, o2, o3, o4⟩ := ho
  refine ⟨hL.z, mMy hL hb hB hi ⟨False, False.elim, fun c => absurd c one0, fun _ => mRy hL hb hB hr ⟨fun _ => sm_leadFrom (k := 0) (c := 0) hL hb hB hi (by omega) (fac_pos _) (fun F' k' => ?_), fun c => absurd c one0⟩⟩⟩
  rw [lay0_hd hb hi (by omega)]
  refine ⟨fun t x4 x5 F => ∃ k, k < o ∧ t = o - k ∧ x4 = nI (num (bn B) (pw (hd B i 0) k)) ∧ x5 = nI k ∧ Kp tQ m am (gI S) F ∧ ∀ j, j < k → ¬ num (bn B) (pw (hd B i 0) j) = r, ⟨o, 0, by omega, rfl, ?_, rfl, k', fun j hj => by omega⟩, ?_⟩
  · rw [show pw (hd B i 0) 0 = fun p => p from rfl, num_id]; rfl
  rintro t x4 x5 F ⟨k, hk, rfl, rfl, rfl, k1, hno⟩
  have L1 : LM (wI S F) m am := hL
  have B1 := hB.kp hL k1
  have pk := pw_pm hp k
  have pk1 := pw_pm hp (k + 1)
  have q1 := num_lt pk
  have q2 := num_lt pk1
  rw [nI_eq (by omega) (by omega)]
  refine ⟨fun he => hq k hk he hno F k1, fun hne => ?_⟩
  refine sm_productOf L1 hn (by omega) B1.1 (num_lt pk) (num_lt hp) (fun F2 k2 v15 e15 => ?_)
  have e : num (bn B) (fun p => lay (bn B) (num (bn B) (pw (hd B i 0) k)) (lay (bn B) (num (bn B) (hd B i 0)) p)) = num (bn B) (pw (hd B i 0) (k + 1)) := num_cong (fun p hp' => by
    rw [lay_num hn hp p hp', lay_num hn pk _ (hp.1 p hp')]
    rfl)
  have hno' : ∀ j, j < k + 1 → ¬ num (bn B) (pw (hd B i 0) j) = r := fun j hj => by
    by_cases c : j = k
    · subst c; exact hne
    · exact hno j (by omega)
  rw [e, nI_z (by omega), num_0 hn pk1]
  have kk : Kp tQ m am (gI S) F2 := k1.tr k2
  refine ⟨fun h0 => ⟨o - (k + 1), by omega, k + 1, ?_, rfl, rfl, by rw [e15]; exact nI_1 k, kk, hno'⟩, fun h0 => ?_⟩
  · rcases Nat.lt_or_ge (k + 1) o with c | c
    · exact c
    · exact absurd (by rw [show k + 1 = o by omega]; exact o3) h0
  · have e9 : k + 1 = o := by
      rcases Nat.lt_or_ge (k + 1) o with c | c
      · exact absurd h0 (o4 (k + 1) (by omega) c)
      · omega
    exact hq2 (fun j hj => hno' j (by omega)) F2 kk
section CM2
variable {S : St} {x b m : Nat} {am : Nat → Nat} {im : Nat → Prop} {B : Bk} {Q1 : Int32 → FI → Prop}
theorem call_symmetric (h : CB S x b m am im B) (r : Int32) (hq : ∀ v F, Th S x m am v (P_X12_symmetric m r (wI S F)) → Q1 v F) : P_X11_symmetric x r S Q1 := by
  have L1 : ∀ s, LM (wI S (upI (gI S) x 0 s)) m am := fun _ => h.L
  have h4 := h.o.2.2.1
  have hn := h.n8
  rcases nr_case (bM B) (by omega) r with ⟨i, hi, rfl⟩ | hr
  · obtain ⟨a, q, ra, ka, va, rq, mq⟩ := h.me hi
    obtain ⟨b1, b2⟩ := bl_32 h.o hi
    obtain ⟨-, q2, -, ⟨a4, r4, -, k4, l4, g4⟩, -⟩ := mq
    have hsw : ∀ k, k < bl B i → Sw (bn B) (bv B i k) := (h.o.2.2.2 i hi).2.2.1
    have hiff : (∀ k, k < bl B i - 1 → nI (pak (mvf (bv B i k)) (bn B)) = nI (pak (mvf (bv B i (bl B i - 1 - 1 - k))) (bn B))) ↔ ∀ k, k < bl B i - 1 → msk (stf (bv B i k)) (bn B) = msk (stf (bv B i (bl B i - 1 - 1 - k))) (bn B) :=
      ⟨fun hh k hk => (mv_st hn (hsw k (by omega)) (hsw _ (by omega))).mp (hh k hk), fun hh k hk => (mv_st hn (hsw k (by omega)) (hsw _ (by omega))).mpr (hh k hk)⟩
    refine ⟨h.x, xMy h hi ⟨fun _ => ⟨b, h.b, h.k, a, ra, ka, va, q, rq, q2, a4, r4, k4, ?_⟩, fun c => absurd c one0⟩⟩
    rw [l4, show nI (bl B i) - 1 = nI (bl B i - 1) from le_sub1 b1]
    refine sp_readsBackward (f := fun k => nI (pak (mvf (bv B i k)) (bn B))) k4 (by rw [l4]; omega) (by rw [l4]; omega) (fun k hk => g4 k (by omega)) (fun hE => ⟨fun t => t = 1, ?_, fun c => absurd c one0, fun _ => rfl⟩) (fun hE => ⟨fun t => t = 0, ?_, fun _ => rfl, fun c => absurd rfl c⟩)
    · rintro _ rfl
      exact an h.x (hq _ _ (fun Q2 h2 => sm_symmetric (L1 0) h.o (h.M1 0) hi (fun _ => gvm h.L.z Kp.rf h2) (fun hE2 => absurd (hiff.mp hE) hE2)))
    · rintro _ rfl
      exact an h.x (hq _ _ (fun Q2 h2 => sm_symmetric (L1 0) h.o (h.M1 0) hi (fun hE2 => absurd (hiff.mpr hE2) hE) (fun _ => gvm h.L.z Kp.rf h2)))
  · refine ⟨h.x, xMn h hr ⟨fun c => absurd rfl c, fun _ => rf h.x (hq _ _ (fun Q2 h2 => ?_))⟩⟩
    exact ⟨h.L.z, mMn (L1 1) h.o (h.M1 1) hr ⟨fun c => absurd rfl c, fun _ => rfm h.L.z Kp.rf h2⟩⟩
theorem call_leadTrue (h : CB S x b m am im B) (r : Int32) (hq : ∀ v F, Th S x m am v (P_X12_leadTrue m r (wI S F)) → Q1 v F) : P_X11_leadTrue x r S Q1 := by
  have L1 : ∀ s, LM (wI S (upI (gI S) x 0 s)) m am := fun _ => h.L
  have h4 := h.o.2.2.1
  rcases nr_case (bM B) (by omega) r with ⟨i, hi, rfl⟩ | hr
  · obtain ⟨a, q, ra, ka, va, rq, mq⟩ := h.me hi
    refine ⟨h.x, xMy h hi ⟨fun _ => ⟨b, h.b, h.k, a, ra, ka, va, q, rq, mq.2.1, ?_⟩, fun c => absurd c one0⟩⟩
    refine sp_isUnlike (fr := 1) h.o hi mq (by decide) (fun hE => ⟨fun t => t = 1, ?_, fun c => absurd c one0, fun _ => rfl⟩) (fun hE => ⟨fun t => t = 0, ?_, fun _ => rfl, fun c => absurd rfl c⟩)
    · rintro _ rfl
      exact an h.x (hq _ _ (fun Q2 h2 => sm_leadTrue (L1 0) h.o (h.M1 0) hi (fun _ F k => gvm h.L.z k h2) (fun ⟨u, v, g1, g2, g3, g4⟩ => absurd g4 (hE u v g1 g2 g3))))
    · rintro _ rfl
      obtain ⟨u, v, g1, g2, g3, g4⟩ := hE
      exact an h.x (hq _ _ (fun Q2 h2 => sm_leadTrue (L1 0) h.o (h.M1 0) hi (fun hE2 => absurd g4 (hE2 u v g1 g2 g3)) (fun _ F k => gvm h.L.z k h2)))
  · refine ⟨h.x, xMn h hr ⟨fun c => absurd rfl c, fun _ => rf h.x (hq _ _ (fun Q2 h2 => ?_))⟩⟩
    exact ⟨h.L.z, mMn (L1 1) h.o (h.M1 1) hr ⟨fun c => absurd rfl c, fun _ => rfm h.L.z Kp.rf h2⟩⟩
theorem call_inLead (h : CB S x b m am im B) (r p : Int32) (hq : ∀ v F, Th S x m am v (P_X12_inLead m r p (wI S F)) → Q1 v F) : P_X11_inLead x r p S Q1 := by
  have L1 : ∀ s, LM (wI S (upI (gI S) x 0 s)) m am := fun _ => h.L
  have h4 := h.o.2.2.1
  have hn := h.n8
  rcases nr_case (bM B) (by omega) r with ⟨i, hi, rfl⟩ | hr
  · obtain ⟨a, q, ra, ka, va, rq, mq⟩ := h.me hi
    obtain ⟨b1, b2⟩ := bl_32 h.o hi
    rcases nr_case _ h.f p with ⟨j, hj, rfl⟩ | hp
    · refine ⟨h.x, xMy h hi ⟨False, False.elim, fun c => absurd c one0, fun _ => xRy h hj ⟨fun _ => ⟨b, h.b, h.k, a, ra, ka, va, q, rq, xPk h hj ⟨mq.2.1, ?_⟩⟩, fun c => absurd c one0⟩⟩⟩
      refine sp_behind h.o hi mq (pm8 hn (lay_pm hn hj)) (fun k hk he hno => ⟨fun _ => an h.x (hq _ _ (fun Q2 h2 => ?_)), fun c => ?_⟩) (fun hno => ⟨fun c => absurd rfl c, fun _ => rf h.x (hq _ _ (fun Q2 h2 => ?_))⟩)
      · refine sm_inLead (L1 0) h.o (h.M1 0) hi hj (fun k2 hk2 he2 hno2 F kk => ?_) (fun hno2 => absurd he (hno2 k hk))
        have e : k2 = k := fb_first_one (p := fun k => Eqn (bn B) (rl B i 0 (fun p => p) (k + 1)) (lay (bn B) j)) he2 hno2 he hno
        subst e
        exact gvm h.L.z kk h2
      · have := nI_pos (n := k + 1) (by omega)
        rw [c] at this
        exact absurd (by decide) this
      · exact sm_inLead (L1 6) h.o (h.M1 6) hi hj (fun k2 hk2 he2 _ => absurd he2 (hno k2 hk2)) (fun _ F kk => rfm h.L.z kk h2)
    · refine ⟨h.x, xMy h hi ⟨True, fun _ => rf h.x (hq _ _ (fun Q2 h2 => ?_)), fun c => absurd c one0, fun _ => xRn h hp ⟨fun c => absurd rfl c, fun _ => trivial⟩⟩⟩
      exact ⟨h.L.z, mMy (L1 1) h.o (h.M1 1) hi ⟨True, fun _ => rfm h.L.z Kp.rf h2, fun c => absurd c one0, fun _ => mRn (L1 1) h.o (h.M1 1) hp ⟨fun c => absurd rfl c, fun _ => trivial⟩⟩⟩
  · refine ⟨h.x, xMn h hr ⟨True, fun _ => rf h.x (hq _ _ (fun Q2 h2 => ?_)), fun _ => trivial, fun c => absurd rfl c⟩⟩
    exact ⟨h.L.z, mMn (L1 1) h.o (h.M1 1) hr ⟨True, fun _ => rfm h.L.z Kp.rf h2, fun _ => trivial, fun c => absurd rfl c⟩⟩
theorem call_leadsTo (h : CB S x b m am im B) (r p : Int32) (hq : ∀ v F, Th S x m am v (P_X12_leadsTo m r p (wI S F)) → Q1 v F) : P_X11_leadsTo x r p S Q1 := by
  have L1 : ∀ s, LM (wI S (upI (gI S) x 0 s)) m am := fun _ => h.L
  have h4 := h.o.2.2.1
  have hn := h.n8
  rcases nr_case (bM B) (by omega) r with ⟨i, hi, rfl⟩ | hr
  · obtain ⟨a, q, ra, ka, va, rq, mq⟩ := h.me hi
    obtain ⟨b1, b2⟩ := bl_32 h.o hi
    have hp := hd_pm h.o hi (show 0 ≤ 2 by omega)
    obtain ⟨o, ho⟩ := ord_ex hn hp
    rcases nr_case _ h.f p with ⟨j, hj, rfl⟩ | hpn
    · obtain ⟨-, q2, -, -, -, -, ⟨a7, r7, -, k7, l7, g7⟩⟩ := mq
      refine ⟨h.x, xMy h hi ⟨False, False.elim, fun c => absurd c one0, fun _ => xRy h hj ⟨fun _ => ⟨b, h.b, h.k, a, ra, ka, va, q, rq, q2, a7, r7, k7, by rw [l7]; exact vp_in_nI (n := 0) (by decide) (by decide), fun v17 e17 => xPk h hj ?_⟩, fun c => absurd c one0⟩⟩⟩
      rw [g7 0 (by decide)] at e17
      subst e17
      rw [h.s]
      refine sp_roundsOf hn (sp_orderOf hn hp ho ?_)
      have o2 := ho.2.1
      refine ⟨fun t x5 x7 => ∃ k, k ≤ o ∧ t = o - k ∧ x5 = nI (pak (pw (hd B i 0) k) (bn B)) ∧ x7 = nI k ∧ ∀ u, u < k → ¬ num (bn B) (pw (hd B i 0) u) = j, ⟨o, 0, by omega, rfl, rfl, rfl, fun u hu => by omega⟩, ?_⟩
      rintro t x5 x7 ⟨k, hk, rfl, rfl, rfl, hno⟩
      have pk := pw_pm hp k
      refine ⟨fun hc => ?_, fun hc => ?_⟩
      · have : o ≤ k := (nI_leI (by omega) (by omega)).mp hc
        refine rf h.x (hq _ _ (fun Q2 h2 => ?_))
        exact sm_leadsTo (L1 6) h.o (h.M1 6) hi hj ho (fun k2 hk2 he2 _ => absurd he2 (hno k2 (by omega))) (fun _ F kk => rfm h.L.z kk h2)
      · have hlt := nI_gtI (by omega) (by omega) hc
        rw [pak_eq hn (pm8 hn pk) (pm8 hn (lay_pm hn hj)), num_layeq hn pk hj]
        refine ⟨fun hne => sp_multiply hn (pm8 hn pk) hp.1 (fun w ew => ⟨o - (k + 1), by omega, k + 1, by omega, rfl, rfl, by rw [ew]; exact nI_1 k, fun u hu => ?_⟩), fun he => an h.x (hq _ _ (fun Q2 h2 => ?_))⟩
        · by_cases c : u = k
          · subst c; exact hne
          · exact hno u (by omega)
        · refine sm_leadsTo (L1 0) h.o (h.M1 0) hi hj ho (fun k2 hk2 he2 hno2 F kk => ?_) (fun hno2 => absurd he (hno2 k hlt))
          have e : k2 = k := fb_first_one (p := fun k => num (bn B) (pw (hd B i 0) k) = j) he2 hno2 he hno
          subst e
          exact gvm h.L.z kk h2
    · refine ⟨h.x, xMy h hi ⟨True, fun _ => rf h.x (hq _ _ (fun Q2 h2 => ?_)), fun c => absurd c one0, fun _ => xRn h hpn ⟨fun c => absurd rfl c, fun _ => trivial⟩⟩⟩
      exact ⟨h.L.z, mMy (L1 1) h.o (h.M1 1) hi ⟨True, fun _ => rfm h.L.z Kp.rf h2, fun c => absurd c one0, fun _ => mRn (L1 1) h.o (h.M1 1) hpn ⟨fun c => absurd rfl c, fun _ => trivial⟩⟩⟩
  · refine ⟨h.x, xMn h hr ⟨True, fun _ => rf h.x (hq _ _ (fun Q2 h2 => ?_)), fun _ => trivial, fun c => absurd rfl c⟩⟩
    exact ⟨h.L.z, mMn (L1 1) h.o (h.M1 1) hr ⟨True, fun _ => rfm h.L.z Kp.rf h2, fun _ => trivial, fun c => absurd rfl c⟩⟩
end CM2
