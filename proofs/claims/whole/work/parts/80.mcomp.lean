/-! The reference's compositions. -/
def tC (f : Nat) : Bool := [2, 23, 24, 25, 26, 27, 30, 31, 32, 33, 37, 44, 45, 46, 47, 48, 49].contains f
def sv (B : Bk) (i : Nat) (cf : Nat → Nat) (j : Nat) : Nat := num (bn B) (Rm B i cf (j / bl B i) (j % bl B i))
theorem ixd {L a k : Nat} (hk : k < L) : (L * a + k) / L = a ∧ (L * a + k) % L = k := by
  refine ⟨?_, ?_⟩
  · rw [Nat.mul_add_div (by omega), Nat.div_eq_of_lt hk, Nat.add_zero]
  · rw [Nat.mul_add_mod, Nat.mod_eq_of_lt hk]
theorem Rm_pm {B : Bk} {i : Nat} {cf : Nat → Nat} (hb : bok B) (hi : i < bM B) {a k d : Nat} (hcf : ∀ j, j < d → cf j < 3) (ha : a < d) (hk : k < bl B i) : Pm (bn B) (Rm B i cf a k) := by
  have h3 := hcf a ha
  show Pm (bn B) (fun p => hrw B i cf a (rl B i (cf a) (fun p => p) (k + 1) p))
  exact comp_pm (hrw_pm hb hi a (fun j hj => hcf j (by omega))) (rl_pm hb hi (c := cf a) (by omega) (pm_id _) (k + 1) (by omega))
theorem RD_sv {B : Bk} {i d : Nat} {cf : Nat → Nat} (hb : bok B) (hi : i < bM B) (hcf : ∀ j, j < d → cf j < 3) : RD B i cf d ↔ ∀ x y, x < y → y < bl B i * d → sv B i cf x ≠ sv B i cf y := by
  have hn := hb.2.1
  obtain ⟨b1, b2⟩ := bl_32 hb hi
  have dl : ∀ x, x < bl B i * d → x / bl B i < d ∧ x % bl B i < bl B i := fun x hx => ⟨(Nat.div_lt_iff_lt_mul (by omega)).mpr (by rw [Nat.mul_comm]; exact hx), Nat.mod_lt _ (by omega)⟩
  refine ⟨fun h x y hxy hy e => ?_, fun h a k b l h1 h2 h3 h4 h5 he => ?_⟩
  · obtain ⟨x1, x2⟩ := dl x (by omega)
    obtain ⟨y1, y2⟩ := dl y hy
    refine h _ _ _ _ x1 x2 y1 y2 ?_ (num_inj hn (Rm_pm hb hi hcf x1 x2) (Rm_pm hb hi hcf y1 y2) e)
    have e1 := Nat.div_add_mod x (bl B i)
    have e2 := Nat.div_add_mod y (bl B i)
    by_cases c : x / bl B i = y / bl B i
    · right; intro c2; rw [c, c2] at e1; omega
    · left; exact c
  · have up : ∀ a k, a < d → k < bl B i → bl B i * a + k < bl B i * d := fun a k ha hk => by
      have : bl B i * (a + 1) ≤ bl B i * d := Nat.mul_le_mul_left _ ha
      rw [Nat.mul_add, Nat.mul_one] at this
      omega
    have ne : bl B i * a + k ≠ bl B i * b + l := fun e => by
      have z1 := ixd (a := a) h2
      have z2 := ixd (a := b) h4
      rw [e] at z1
      omega
    have sa : sv B i cf (bl B i * a + k) = num (bn B) (Rm B i cf a k) := by unfold sv; rw [(ixd h2).1, (ixd h2).2]
    have sb : sv B i cf (bl B i * b + l) = num (bn B) (Rm B i cf b l) := by unfold sv; rw [(ixd h4).1, (ixd h4).2]
    have e : sv B i cf (bl B i * a + k) = sv B i cf (bl B i * b + l) := by rw [sa, sb]; exact num_cong he
    rcases Nat.lt_or_gt_of_ne ne with z | z
    · exact h _ _ z (up b l h3 h4) e
    · exact h _ _ z (up a k h1 h2) e.symm
section MC
variable {S : St} {m i : Nat} {am : Nat → Nat} {B : Bk}
theorem sm_ringsLead {d : Nat} {cg : Nat → Nat} {Q : Int32 → FI → Prop} (hL : LM S m am) (hb : bok B) (hB : BM B (gI S (am 0))) (hi : i < bM B) (hd8 : d < 8) (hcg : ∀ j, j < d + 1 → cg j < 3)
    (hrow : Rw (gI S) (am 23) (bn B) (hrw B i cg d)) (h49 : gI S m 49 = nI (bl B i * d)) (hseen : ∀ j, j < bl B i * d → gI S (am 47) j = nI (sv B i cg j)) (hRD : RD B i cg d)
    (hq : RD B i cg (d + 1) → ∀ F, Kp tC m am (gI S) F → (∀ f, mk f ≠ 0 → f ≠ 23 → f ≠ 47 → F (am f) = gI S (am f)) → (∀ j, j ≠ 49 → F m j = gI S m j) → Rw F (am 23) (bn B) (hrw B i cg (d + 1)) → (∀ j, j < bl B i * (d + 1) → F (am 47) j = nI (sv B i cg j)) → Q 1 F)
    (hq2 : ¬ RD B i cg (d + 1) → ∀ F, Kp tC m am (gI S) F → (∀ f, mk f ≠ 0 → f ≠ 23 → f ≠ 47 → F (am f) = gI S (am f)) → (∀ j, j ≠ 49 → F m j = gI S m j) → (∀ j, j < bl B i * d → F (am 47) j = nI (sv B i cg j)) → Q 0 F) : P_X12_ringsLead m (nI i) (nI (cg d)) S Q := by
  have hn := hb.2.1
  have hn4 := hb.1
  obtain ⟨b1, b2⟩ := bl_32 hb hi
  have hL256 : bl B i * d ≤ 32 * 7 := Nat.mul_le_mul b2 (by omega)
  have hfac := fac_8 (bn B) (by omega)
  have cd := hcg d (by omega)
  have svl : ∀ j, j < bl B i * (d + 1) → sv B i cg j < 40320 := fun j hj => by
    have h1 : j / bl B i < d + 1 := (Nat.div_lt_iff_lt_mul (by omega)).mpr (by rw [Nat.mul_comm]; exact hj)
    have := num_lt (Rm_pm hb hi hcg h1 (Nat.mod_lt j (show 0 < bl B i by omega)))
    unfold sv
    omega
  have hLd : bl B i * (d + 1) = bl B i * d + bl B i := by rw [Nat.mul_add, Nat.mul_one]
  refine ⟨hL.z, fun t x3 F => ∃ k, k ≤ bl B i ∧ t = bl B i - k ∧ x3 = nI k ∧ Kp tC m am (gI S) F ∧ (∀ f, mk f ≠ 0 → f ≠ 23 → f ≠ 47 → F (am f) = gI S (am f)) ∧ (∀ j, j ≠ 49 → F m j = gI S m j) ∧ Rw F (am 23) (bn B) (fun p => hrw B i cg d (rl B i (cg d) (fun p => p) k p)) ∧ F m 49 = nI (bl B i * d + k) ∧ (∀ j, j < bl B i * d + k → F (am 47) j = nI (sv B i cg j)) ∧ ∀ x y, x < y → y < bl B i * d + k → sv B i cg x ≠ sv B i cg y, ⟨bl B i, 0, by omega, rfl, rfl, Kp.rf, fun _ _ _ _ => rfl, fun _ _ => rfl, hrow, h49, hseen, fun x y hxy hy => (RD_sv hb hi (fun j hj => hcg j (by omega))).mp hRD x y hxy hy⟩, ?_⟩
  rintro t x3 F ⟨k, hk, rfl, rfl, kk, af, mf, rw1, f49, f47, hds⟩
  have L1 : LM (wI S F) m am := hL
  have B1 : BM B (F (am 0)) := by rw [af 0 (by decide) (by decide) (by decide)]; exact hB
  refine sm_changesOf L1 hb B1 hi ⟨fun hc => ?_, fun hc => ?_⟩
  · have e : k = bl B i := by
      have : bl B i ≤ k := (nI_leI (by omega) (by omega)).mp hc
      omega
    subst e
    refine hq ((RD_sv hb hi hcg).mpr (fun x y hxy hy => hds x y hxy (by omega))) F kk af mf rw1 (fun j hj => f47 j (by omega))
  · have hlt := nI_gtI (by omega) (by omega) hc
    refine sm_changeOf L1 hb B1 hi (show cg d ≤ 2 by omega) hlt ?_
    refine sm_changes0 (l := false) L1 hn B1.1 (bch_sw hb hi (by omega) hlt) (msk_stf hn _) rw1 (fun F2 o2 r2 => ⟨am 23, hL.r 23, ?_⟩)
    rw [swl_f, chd_comp] at r2
    have pk : Pm (bn B) (Rm B i cg d k) := Rm_pm hb hi hcg (by omega) hlt
    have r2' : Rw F2 (am 23) (bn B) (Rm B i cg d k) := r2
    have L2 : LM (wI S F2) m am := hL
    have m2 : F2 m = F m := o2 m (Ne.symm (hL.o 23))
    have a2 : ∀ f, mk f ≠ 0 → f ≠ 23 → F2 (am f) = F (am f) := fun f hf h => o2 _ (hL.n h hf)
    have k2 : Kp tC m am (gI S) F2 := kk.tr (Kp.on hL 23 o2)
    refine sm_numberOf L2 hn (by show F2 (am 0) 0 = _; rw [a2 0 (by decide) (by decide)]; exact B1.1) pk (hL.k 23) (hL.l 23) r2' ?_
    have sk : sv B i cg (bl B i * d + k) = num (bn B) (Rm B i cg d k) := by unfold sv; rw [(ixd hlt).1, (ixd hlt).2]
    rw [← sk]
    have e49 : F2 m 49 = nI (bl B i * d + k) := by rw [m2]; exact f49
    refine ⟨fun t x5 => ∃ j, j ≤ bl B i * d + k ∧ t = bl B i * d + k - j ∧ x5 = nI j ∧ ∀ x, x < j → sv B i cg x ≠ sv B i cg (bl B i * d + k), ⟨bl B i * d + k, 0, by omega, rfl, rfl, fun x hx => by omega⟩, ?_⟩
    rintro t x5 ⟨j, hj, rfl, rfl, hno⟩
    rw [e49]
    refine ⟨fun hcj => ?_, fun hcj => ?_⟩
    · have e : j = bl B i * d + k := by
        have : bl B i * d + k ≤ j := (nI_leI (by omega) (by omega)).mp hcj
        omega
      subst e
      refine ⟨am 47, hL.r 47, hL.k 47, hL.i 47 (by show bl B i * d + k < 257; omega), fun F3 e3 v17 e17 F4 e4 w ew => ?_⟩
      rw [nI_clamp (by omega)] at e3
      have f3m : F3 m = F2 m := by rw [e3, up_ne (Ne.symm (hL.o 47))]
      have v17e : v17 = nI (bl B i * d + k + 1) := by rw [e17, f3m, e49, nI_1]
      subst v17e
      refine ⟨bl B i - (k + 1), by omega, k + 1, by omega, rfl, by rw [ew]; exact nI_1 k, by rw [e4, e3]; exact (k2.tr (Kp.on hL 47 On.up)).tr (Kp.fd 49), fun f hf h1 h2 => ?_, fun z hz => ?_, fun p hp => ?_, ?_, fun z hz => ?_, fun x y hxy hy => ?_⟩
      · rw [e4, up_ne (hL.o f hf), e3, up_ne (hL.n h2 hf), a2 f hf h1]; exact af f hf h1 h2
      · rw [e4, up_no hz, f3m, m2]; exact mf z hz
      · rw [e4, up_ne (hL.o 23), e3, up_ne (hL.n (by decide))]
        exact r2' p hp
      · rw [e4, up_at]; rfl
      · rw [e4, up_ne (hL.o 47), e3]
        by_cases c : z = bl B i * d + k
        · rw [c, up_at]
        · rw [up_no c, a2 47 (by decide) (by decide)]; exact f47 z (by omega)
      · by_cases c : y = bl B i * d + k
        · subst c; exact hno x hxy
        · exact hds x y hxy (by omega)
    · have hlj := nI_gtI (by omega) (by omega) hcj
      have s1 := svl j (by omega)
      have s2 := svl (bl B i * d + k) (by omega)
      refine ⟨am 47, hL.r 47, hL.k 47, hL.i 47 (by show j < 257; omega), ?_⟩
      rw [nI_clamp (by omega), a2 47 (by decide) (by decide), f47 j hlj, nI_eq (by omega) (by omega)]
      refine ⟨fun hne w ew => ⟨bl B i * d + k - (j + 1), by omega, j + 1, by omega, rfl, by rw [ew]; exact nI_1 j, fun x hx => ?_⟩, fun he => ?_⟩
      · by_cases c : x = j
        · subst c; exact hne
        · exact hno x (by omega)
      · refine hq2 (fun hR => (RD_sv hb hi hcg).mp hR j (bl B i * d + k) hlj (by omega) he) F2 k2 (fun f hf h1 h2 => by rw [a2 f hf h1]; exact af f hf h1 h2) (fun z hz => by rw [m2]; exact mf z hz) (fun z hz => by rw [a2 47 (by decide) (by decide)]; exact f47 z (by omega))
/-- the reference at work on compositions -/
def CM (B : Bk) (i ld : Nat) (al : Nat → Bool) (G : Nat → Bool) (G0 : FI) (m : Nat) (am : Nat → Nat) (cf : Nat → Nat) (d t : Nat) (n : Int32) (F : FI) : Prop :=
  Kp tC m am G0 F ∧ (∀ j, j < d → F (am 44) j = nI (cf j)) ∧ F (am 44) d = (if t = 0 then -1 else nI (t - 1)) ∧ (∀ j, j ≤ d → F (am 46) j = nI (num (bn B) (hrw B i cf j))) ∧ (∀ j, j < bl B i * d → F (am 47) j = nI (sv B i cf j)) ∧ RD B i cf d ∧ (∀ j, j < d → cf j < 3 ∧ al (cf j) = true) ∧ n = nI (fb_ct G (frn ld cf d t)) ∧ ∃ fl g, Fst G ld (frn ld cf d t) fl g ∧ F m 48 = nI fl ∧ fl ≤ 8 ∧ ∀ j, j < fl → F (am 45) j = nI (g j)
theorem sv_cong {B : Bk} {i d : Nat} {cf cg : Nat → Nat} (hL : 0 < bl B i) (h : ∀ j, j < d → cf j = cg j) : ∀ j, j < bl B i * d → sv B i cf j = sv B i cg j := fun j hj => by
  have h1 : j / bl B i < d := (Nat.div_lt_iff_lt_mul hL).mpr (by rw [Nat.mul_comm]; exact hj)
  unfold sv Rm
  rw [hrw_cong (j / bl B i) (fun k hk => h k (by omega)), h _ h1]
theorem sm_compositions {ld : Nat} {p2 : Int32} {G : Nat → Bool} {Q : Int32 → FI → Prop} (hL : LM S m am) (hb : bok B) (hB : BM B (gI S (am 0))) (hi : i < bM B) (hld : 1 ≤ ld) (hld8 : ld ≤ 8) (hp2 : ∃ k, 1 ≤ k ∧ k ≤ 7 ∧ p2 = nI k) (hG : ∀ q, G q = true ↔ Gq B i ld (bt p2) q)
    (hq : ∀ F fl g, Kp tC m am (gI S) F → Fst G ld (3 ^ ld) fl g → F m 48 = nI fl → fl ≤ 8 → (∀ j, j < fl → F (am 45) j = nI (g j)) → P_X12_gives m (nI (fb_ct G (3 ^ ld))) (wI S F) Q) : P_X12_compositions m (nI i) (nI ld) p2 S Q := by
  have hn := hb.2.1
  have hn4 := hb.1
  obtain ⟨b1, b2⟩ := bl_32 hb hi
  have hfac := fac_8 (bn B) (by omega)
  have p38 : 3 ^ ld ≤ 6561 := by
    have : 3 ^ ld ≤ 3 ^ 8 := Nat.pow_le_pow_right (by decide) hld8
    exact this
  have czle : ∀ f, fb_ct G f ≤ f := fb_ct_le G
  have nf : ∀ j cf, (∀ k, k < j → cf k < 3) → num (bn B) (hrw B i cf j) < 40320 := fun j cf h => by
    have := num_lt (hrw_pm hb hi (cf := cf) j h)
    omega
  have g1 : ∀ {Q : Int32 → Prop}, Q 1 → P_X12_isFrom (nI ld).toInt64 1 8 Q := fun hq => by
    rw [nI_l (by omega)]
    exact mFy ((lN_le (a := 1) (by decide) (by omega)).mpr hld) ((lN_le (b := 8) (by omega) (by decide)).mpr hld8) hq
  have g2 : ∀ {Q : Int32 → Prop}, Q 1 → P_X12_isFrom p2.toInt64 1 7 Q := fun hq => by
    obtain ⟨k, k1, k7, e⟩ := hp2
    rw [e, nI_l (by omega)]
    exact mFy ((lN_le (a := 1) (by decide) (by omega)).mpr k1) ((lN_le (b := 7) (by omega) (by decide)).mpr k7) hq
  refine ⟨hL.z, mMy hL hb hB hi ⟨False, False.elim, fun c => absurd c one0, fun _ => g1 ⟨fun c => absurd c one0, fun _ => g2 ⟨fun _ F9 e9 => ⟨am 46, hL.r 46, hL.k 46, hL.i 46 (p := 0) (by decide), fun F13 e13 => ⟨am 44, hL.r 44, hL.k 44, hL.i 44 (p := 0) (by decide), fun F17 e17 => ?_⟩⟩, fun c => absurd c one0⟩⟩⟩⟩
  have fz : frn ld (fun _ => 0) 0 0 = 0 := by unfold frn; show (3 * 0 + 0) * _ = 0; rw [Nat.zero_mul]
  have init : CM B i ld (bt p2) G (gI S) m am (fun _ => 0) 0 0 0 F17 := by
    refine ⟨by rw [e17, e13, e9]; exact ((Kp.fd 48).tr (Kp.on hL 46 On.up)).tr (Kp.on hL 44 On.up), fun j hj => by omega, by rw [e17, up_at]; rfl, fun j hj => ?_, fun j hj => by rw [Nat.mul_zero] at hj; omega, fun a k b l h1 => by omega, fun j hj => by omega, by rw [fz]; rfl, 0, fun _ => 0, Or.inl ⟨fun q hq => by rw [fz] at hq; omega, rfl⟩, ?_, by omega, fun j hj => by omega⟩
    · have : j = 0 := by omega
      subst this
      rw [e17, up_ne (hL.n (by decide)), e13, up_at]
      show (0 : Int32) = nI (num (bn B) (fun p => p))
      rw [num_id]; rfl
    · rw [e17, up_ne (Ne.symm (hL.o 44)), e13, up_ne (Ne.symm (hL.o 46)), e9, up_at]; rfl
  refine ⟨fun t0 x4 x5 F => (∃ d t cf, d < ld ∧ t ≤ 3 ∧ x5 = nI d ∧ CM B i ld (bt p2) G (gI S) m am cf d t x4 F ∧ t0 = mu ld (frn ld cf d t) d t + 1) ∨ (x5 = -1 ∧ t0 = 0 ∧ Kp tC m am (gI S) F ∧ x4 = nI (fb_ct G (3 ^ ld)) ∧ ∃ fl g, Fst G ld (3 ^ ld) fl g ∧ F m 48 = nI fl ∧ fl ≤ 8 ∧ ∀ j, j < fl → F (am 45) j = nI (g j)), ⟨_, Or.inl ⟨0, 0, fun _ => 0, by omega, by omega, rfl, init, rfl⟩⟩, ?_⟩
  rintro t0 x4 x5 F (⟨d, t, cf, hdd, ht, rfl, cm, rfl⟩ | ⟨rfl, rfl, kk, rfl, fl, g, fst, s48, fl8, s45⟩)
  · obtain ⟨kk, s0, s0d, s46, s47, rd, sc, rfl, fl, g, fst, s48, fl8, s45⟩ := cm
    have dig : ∀ j, j < d → cf j < 3 := fun j hj => (sc j hj).1
    refine ⟨fun c => absurd c (nI_pos (by omega)), fun _ => ⟨hL.i 44 (by show d < 9; omega), fun v25 e25 F26 e26 => ?_⟩⟩
    rw [nI_clamp (by omega)] at e25 e26
    have v25e : v25 = nI t := by
      rw [e25, s0d]
      by_cases c : t = 0
      · rw [if_pos c, c]; rfl
      · rw [if_neg c, nI_1, show t - 1 + 1 = t by omega]
    subst v25e
    have f26 : F26 (am 44) d = nI t := by rw [e26, up_at]
    have k26 : Kp tC m am (gI S) F26 := by rw [e26]; exact kk.tr (Kp.on hL 44 On.up)
    have a26 : ∀ f, mk f ≠ 0 → f ≠ 44 → F26 (am f) = F (am f) := fun f hf h => by rw [e26, up_ne (hL.n h hf)]
    have m26 : F26 m = F m := by rw [e26, up_ne (Ne.symm (hL.o 44))]
    have k0 : ∀ j, j < d → F26 (am 44) j = nI (cf j) := fun j hj => by rw [e26, up_no (by omega)]; exact s0 j hj
    rw [nI_clamp (show d < 2 ^ 31 by omega), f26]
    obtain ⟨cg, hcg⟩ : ∃ cg : Nat → Nat, cg = fun j => if j = d then t else cf j := ⟨_, rfl⟩
    have cgd : cg d = t := by rw [hcg]; show (if d = d then t else cf d) = t; rw [if_pos rfl]
    have cgj : ∀ j, j < d → cg j = cf j := fun j hj => by rw [hcg]; show (if j = d then t else cf j) = cf j; rw [if_neg (by omega)]
    by_cases t3 : t = 3
    · subst t3
      refine ⟨fun c => absurd c (by decide), fun _ w ew => ?_⟩
      cases d with
      | zero =>
        refine ⟨0, by omega, Or.inr ⟨by rw [ew]; rfl, rfl, k26, by rw [fr_end hld], fl, g, by rw [fr_end hld] at fst; exact fst, by rw [m26]; exact s48, fl8, fun j hj => by rw [a26 45 (by decide) (by decide)]; exact s45 j hj⟩⟩
      | succ e =>
        have hpop := mu_pop (ld := ld) (f := frn ld cf (e + 1) 3) (d := e) (t := cf e + 1) hld8 hdd
        have hfp := fr_pop (cf := cf) hdd
        have ce := dig e (by omega)
        rw [hfp] at hpop fst ⊢
        refine ⟨_, Nat.add_lt_add_right hpop 1, Or.inl ⟨e, cf e + 1, cf, by omega, by omega, by rw [ew]; exact pk_m1 e, ⟨k26, fun j hj => k0 j (by omega), ?_, fun j hj => by rw [a26 46 (by decide) (by decide)]; exact s46 j (by omega), fun j hj => by rw [a26 47 (by decide) (by decide)]; exact s47 j (by rw [Nat.mul_add]; omega), rd.mono (by omega), fun j hj => sc j (by omega), rfl, fl, g, fst, by rw [m26]; exact s48, fl8, fun j hj => by rw [a26 45 (by decide) (by decide)]; exact s45 j hj⟩, rfl⟩⟩
        rw [if_neg (by omega), k0 e (by omega)]; rfl
    · have t3' : t < 3 := by omega
      have skf := fr_skip ld cf d t
      have lef := fr_le (t := t + 1) hdd dig (by omega)
      have pw3 : 0 < 3 ^ (ld - 1 - d) := Nat.pow_pos (by decide)
      have msk' := mu_skip (ld := ld) (f := frn ld cf d t) (f' := frn ld cf d (t + 1)) (d := d) (t := t) (t' := t + 1) hld8 hdd (by omega) lef
      have blk : ∀ q, frn ld cf d t ≤ q → q < frn ld cf d (t + 1) → ∀ j, j ≤ d → dgt ld q j = cg j := fun q h1 h2 j hj => by rw [hcg]; exact fr_blk hdd dig t3' h1 h2 j hj
      have go : ∀ (n' : Int32) F14, CM B i ld (bt p2) G (gI S) m am cf d (t + 1) n' F14 → ∃ k, k < mu ld (frn ld cf d t) d t + 1 ∧ ((∃ d' t' cf', d' < ld ∧ t' ≤ 3 ∧ nI d = nI d' ∧ CM B i ld (bt p2) G (gI S) m am cf' d' t' n' F14 ∧ k = mu ld (frn ld cf' d' t') d' t' + 1) ∨ (nI d = -1 ∧ k = 0 ∧ Kp tC m am (gI S) F14 ∧ n' = nI (fb_ct G (3 ^ ld)) ∧ ∃ fl g, Fst G ld (3 ^ ld) fl g ∧ F14 m 48 = nI fl ∧ fl ≤ 8 ∧ ∀ j, j < fl → F14 (am 45) j = nI (g j))) := fun n' F14 cs' => ⟨_, Nat.add_lt_add_right msk' 1, Or.inl ⟨d, t + 1, cf, hdd, by omega, rfl, cs', rfl⟩⟩
      have skip : ∀ F14, Kp tC m am (gI S) F14 → F14 (am 44) = F26 (am 44) → F14 (am 46) = F (am 46) → (∀ j, j < bl B i * d → F14 (am 47) j = F (am 47) j) → F14 m 48 = F m 48 → F14 (am 45) = F (am 45) → (∀ q, frn ld cf d t ≤ q → q < frn ld cf d (t + 1) → ¬ G q = true) → CM B i ld (bt p2) G (gI S) m am cf d (t + 1) (nI (fb_ct G (frn ld cf d t))) F14 := fun F14 y1 y2 y3 y4 y5 y6 hno => by
        refine ⟨y1, fun j hj => by rw [y2]; exact k0 j hj, ?_, fun j hj => by rw [y3]; exact s46 j hj, fun j hj => by rw [y4 j hj]; exact s47 j hj, rd, sc, ?_, fl, g, fst.skip (by omega) hno, by rw [y5]; exact s48, fl8, fun j hj => by rw [y6]; exact s45 j hj⟩
        · rw [if_neg (by omega), y2, f26]; rfl
        · rw [ct_blk (by omega) hno]
      refine ⟨fun _ => ?_, fun c => absurd (nI_le (a := t) (b := 2) (by omega) (by decide)) c⟩
      rw [tb2z (by omega)]
      refine ⟨fun hal => ?_, fun hal => go _ F26 (skip F26 k26 rfl (a26 46 (by decide) (by decide)) (fun j _ => by rw [a26 47 (by decide) (by decide)]) (by rw [m26]) (a26 45 (by decide) (by decide)) (fun q h1 h2 hg => ?_))⟩
      · have hal' : bt p2 t = true := ts_nf hal
        have pd := hrw_pm hb hi (cf := cf) d dig
        have cg3 : ∀ j, j < d + 1 → cg j < 3 ∧ bt p2 (cg j) = true := fun j hj => by
          by_cases c : j = d
          · rw [c, cgd]; exact ⟨t3', hal'⟩
          · rw [cgj j (by omega)]; exact sc j (by omega)
        have pr := hrw_pm hb hi (cf := cg) (d + 1) (fun j hj => (cg3 j hj).1)
        have hcd : hrw B i cg d = hrw B i cf d := hrw_cong d cgj
        have L26 : LM (wI S F26) m am := hL
        have B26 : BM B (F26 (am 0)) := hB.kp hL k26
        refine ⟨hL.i 46 (by show d < 9; omega), am 23, hL.r 23, ?_⟩
        rw [a26 46 (by decide) (by decide), s46 d (Nat.le_refl _)]
        refine sm_laysRow L26 hn (by omega) B26.1 (num_lt pd) (hL.k 23) (hL.l 23) (fun F31 o31 r31 => ?_)
        have k31 : Kp tC m am (gI S) F31 := k26.tr (Kp.on hL 23 o31)
        have L31 : LM (wI S F31) m am := hL
        have B31 : BM B (F31 (am 0)) := hB.kp hL k31
        have a31 : ∀ f, mk f ≠ 0 → f ≠ 23 → F31 (am f) = F26 (am f) := fun f hf h => o31 _ (hL.n h hf)
        have m31 : F31 m = F26 m := o31 m (Ne.symm (hL.o 23))
        refine sm_changesOf L31 hb B31 hi (fun v33 e33 F34 e34 => ?_)
        have v33e : v33 = nI (bl B i * d) := by rw [e33]; exact mulN _ _
        subst v33e
        have a34 : ∀ f, mk f ≠ 0 → F34 (am f) = F31 (am f) := fun f hf => by rw [e34, up_ne (hL.o f hf)]
        have k34 : Kp tC m am (gI S) F34 := by rw [e34]; exact k31.tr (Kp.fd 49)
        have f44 : F34 (am 44) = F26 (am 44) := by rw [a34 44 (by decide), a31 44 (by decide) (by decide)]
        rw [f44, f26]
        have L34 : LM (wI S F34) m am := hL
        have B34 : BM B (F34 (am 0)) := hB.kp hL k34
        have e47 : ∀ j, j < bl B i * d → F34 (am 47) j = nI (sv B i cg j) := fun j hj => by
          rw [a34 47 (by decide), a31 47 (by decide) (by decide), a26 47 (by decide) (by decide), s47 j hj, sv_cong (by omega) (fun k hk => (cgj k hk).symm) j hj]
        have res := @sm_ringsLead (wI S F34) m i am B d cg
        rw [cgd] at res
        refine res L34 hb B34 hi (by omega) (fun j hj => (cg3 j hj).1) (fun p hp => ?_) (by show F34 m 49 = _; rw [e34, up_at]) e47 (rd.cg (fun j hj => (cgj j hj).symm)) (fun hRD F35 k35 af mf rw35 f47 => ⟨fun _ => ?_, fun c => absurd c one0⟩) (fun hnR F35 k35 af mf f47 => ⟨fun c => absurd rfl c, fun _ => ?_⟩)
        · show F34 (am 23) p = nI (hrw B i cg d p)
          rw [a34 23 (by decide), hcd]
          rw [r31 p hp, lay_num hn pd p hp]
        · have kk35 : Kp tC m am (gI S) F35 := k34.tr k35
          have B35 : BM B (F35 (am 0)) := hB.kp hL kk35
          have c46 : F35 (am 46) = F (am 46) := by rw [af 46 (by decide) (by decide) (by decide)]; show F34 (am 46) = _; rw [a34 46 (by decide), a31 46 (by decide) (by decide), a26 46 (by decide) (by decide)]
          have c44 : F35 (am 44) = F26 (am 44) := by rw [af 44 (by decide) (by decide) (by decide)]; exact f44
          have c45 : F35 (am 45) = F (am 45) := by rw [af 45 (by decide) (by decide) (by decide)]; show F34 (am 45) = _; rw [a34 45 (by decide), a31 45 (by decide) (by decide), a26 45 (by decide) (by decide)]
          have c48 : F35 m 48 = F m 48 := by rw [mf 48 (by decide)]; show F34 m 48 = _; rw [e34, up_no (by decide), m31, m26]
          have c47 : ∀ j, j < bl B i * d → F35 (am 47) j = F (am 47) j := fun j hj => by rw [f47 j (by rw [Nat.mul_add]; omega), s47 j hj, sv_cong (by omega) cgj j hj]
          refine sm_numberOf (S := wI S F35) hL hn B35.1 pr (hL.k 23) (hL.l 23) rw35 ?_
          rw [nI_1]
          refine ⟨fun hleaf => ?_, fun hin v55 e55 => ?_⟩
          · have hdl : d + 1 = ld := by
              have : ld ≤ d + 1 := (nI_leI (by omega) (by omega)).mp hleaf
              omega
            have e1 : frn ld cf d (t + 1) = frn ld cf d t + 1 := by rw [skf, show ld - 1 - d = 0 by omega]
            have dq : ∀ j, j < ld → dgt ld (frn ld cf d t) j = cg j := fun j hj => blk _ (Nat.le_refl _) (by omega) j (by omega)
            have gi : G (frn ld cf d t) = true ↔ idn (bn B) (hrw B i cg (d + 1)) := by
              rw [hG]
              unfold Gq
              have he : hrw B i (dgt ld (frn ld cf d t)) ld = hrw B i cg (d + 1) := by rw [hdl]; exact hrw_cong ld dq
              refine ⟨fun y => by rw [← he]; exact y.2.1, fun y => ⟨fun j hj => by rw [dq j hj]; exact (cg3 j (by omega)).2, by rw [he]; exact y, ?_⟩⟩
              refine (FD_RD (by rw [he]; exact y) b1 hld).mpr ?_
              exact (hRD.mono (show ld ≤ d + 1 by omega)).cg (fun j hj => (dq j hj).symm)
            have one : ∀ q, frn ld cf d t ≤ q → q < frn ld cf d (t + 1) → q = frn ld cf d t := fun q h1 h2 => by omega
            have nlt := nf (d + 1) cg (fun j hj => (cg3 j hj).1)
            rw [nI_z (by omega), num_0 hn pr, ← gi]
            refine ⟨fun hg v40 e40 => ?_, fun hng => go _ F35 (skip F35 kk35 c44 c46 c47 c48 c45 (fun q h1 h2 => by rw [one q h1 h2]; exact hng))⟩
            have cts : v40 = nI (fb_ct G (frn ld cf d (t + 1))) := by rw [e40, e1]; exact ct_yes hg
            have c1 : v40 = 1 ↔ fb_ct G (frn ld cf d t) = 0 := by
              have := czle (frn ld cf d t)
              rw [e40, nI_1]
              constructor
              · intro y
                have := (nI_eq (b := 1) (by omega) (by decide)).mp y
                omega
              · intro y; rw [y]; rfl
            have endS : ∀ F43 F46 g', Kp tC m am (gI S) F43 → F43 (am 44) = F26 (am 44) → F43 (am 46) = F (am 46) → (∀ j, j < bl B i * d → F43 (am 47) j = F (am 47) j) → F46 = upI F43 m 48 (nI ld) → Fst G ld (frn ld cf d (t + 1)) ld g' → (∀ j, j < ld → F43 (am 45) j = nI (g' j)) → CM B i ld (bt p2) G (gI S) m am cf d (t + 1) v40 F46 := fun F43 F46 g' y1 y2 y3 y4 y5 y6 y7 => by
              have ao : ∀ f, mk f ≠ 0 → F46 (am f) = F43 (am f) := fun f hf => by rw [y5, up_ne (hL.o f hf)]
              refine ⟨by rw [y5]; exact y1.tr (Kp.fd 48), fun j hj => by rw [ao 44 (by decide), y2]; exact k0 j hj, ?_, fun j hj => by rw [ao 46 (by decide), y3]; exact s46 j hj, fun j hj => by rw [ao 47 (by decide), y4 j hj]; exact s47 j hj, rd, sc, cts, ld, g', y6, by rw [y5, up_at], hld8, fun j hj => by rw [ao 45 (by decide)]; exact y7 j hj⟩
              rw [if_neg (by omega), ao 44 (by decide), y2, f26]; rfl
            by_cases hz : fb_ct G (frn ld cf d t) = 0
            · have znone := fb_ct_zero.mp hz
              refine ⟨fun u x7 F43 => ∃ k, k ≤ ld ∧ u = ld - k ∧ x7 = nI k ∧ Kp tC m am (gI S) F43 ∧ F43 (am 44) = F26 (am 44) ∧ F43 (am 46) = F (am 46) ∧ (∀ j, j < bl B i * d → F43 (am 47) j = F (am 47) j) ∧ ∀ j, j < k → F43 (am 45) j = nI (cg j), ⟨ld, 0, by omega, rfl, rfl, kk35, c44, c46, c47, fun j hj => by omega⟩, ?_⟩
              rintro u x7 F43 ⟨k, hk, rfl, rfl, y1, y2, y3, y4, y5⟩
              refine ⟨k = ld, fun e F46 e46 => ?_, fun c => ?_, fun c => ⟨fun c2 => absurd (c1.mpr hz) c2, fun _ => ?_⟩⟩
              · subst e
                exact go _ F46 (endS F43 F46 cg y1 y2 y3 y4 e46 (Or.inr ⟨frn k cf d t, by omega, hg, (fun r hr c => by rw [znone r hr] at c; cases c), rfl, fun j hj => (dq j hj).symm⟩) y5)
              · have : ld ≤ k := (nI_leI (by omega) (by omega)).mp c
                omega
              · have hkl := nI_gtI (by omega) (by omega) c
                refine ⟨am 45, hL.r 45, hL.i 44 (by show k < 9; omega), hL.k 45, hL.i 45 (by show k < 8; omega), fun v52 e52 F53 e53 w ew => ?_⟩
                rw [nI_clamp (by omega)] at e52 e53
                have v52e : v52 = nI (cg k) := by
                  rw [e52, y2]
                  by_cases ck : k = d
                  · rw [ck, f26, cgd]
                  · rw [k0 k (by omega), cgj k (by omega)]
                subst v52e
                have ao : ∀ f, mk f ≠ 0 → f ≠ 45 → F53 (am f) = F43 (am f) := fun f hf h => by rw [e53, up_ne (hL.n h hf)]
                refine ⟨ld - (k + 1), by omega, k + 1, by omega, rfl, by rw [ew]; exact nI_1 k, by rw [e53]; exact y1.tr (Kp.on hL 45 On.up), by rw [ao 44 (by decide) (by decide)]; exact y2, by rw [ao 46 (by decide) (by decide)]; exact y3, fun j hj => by rw [ao 47 (by decide) (by decide)]; exact y4 j hj, fun j hj => ?_⟩
                rw [e53]
                by_cases cj : j = k
                · rw [cj, up_at]
                · rw [up_no cj]; exact y5 j (by omega)
            · refine ⟨fun u x7 F43 => u = 0 ∧ x7 = 0 ∧ F43 = F35, ⟨0, rfl, rfl, rfl⟩, ?_⟩
              rintro u x7 F43 ⟨rfl, rfl, rfl⟩
              refine ⟨True, fun _ F46 e46 => ?_, fun _ => trivial, fun _ => ⟨fun _ => trivial, fun c2 => absurd (c1.mp c2) hz⟩⟩
              rcases fst with ⟨z1, -⟩ | ⟨q0, z1, z2, z3, z4, z5⟩
              · exact absurd (fb_ct_zero.mpr (fun k hk => ts_nt (z1 k hk))) hz
              · subst z4
                exact go _ F46 (endS F43 F46 g kk35 c44 c46 c47 e46 (Or.inr ⟨q0, by omega, z2, z3, rfl, z5⟩) (fun j hj => by rw [c45]; exact s45 j hj))
          · have hdl : d + 1 < ld := nI_gtI (by omega) (by omega) hin
            subst e55
            refine ⟨hL.i 46 (by show d + 1 < 9; omega), fun F57 e57 => ⟨hL.i 44 (by show d + 1 < 9; omega), fun F59 e59 => ?_⟩⟩
            rw [nI_clamp (by omega)] at e57 e59
            have pf := fr_push (ld := ld) (cf := cf) (cg := cg) hdl cgj cgd
            have mp := mu_push (ld := ld) (f := frn ld cf d t) hdl t3'
            have mp' : mu ld (frn ld cg (d + 1) 0) (d + 1) 0 < mu ld (frn ld cf d t) d t := by rw [pf]; exact mp
            have ao : ∀ f, mk f ≠ 0 → f ≠ 44 → f ≠ 46 → F59 (am f) = F35 (am f) := fun f hf h1 h2 => by rw [e59, up_ne (hL.n h1 hf), e57, up_ne (hL.n h2 hf)]
            refine ⟨_, Nat.add_lt_add_right mp' 1, Or.inl ⟨d + 1, 0, cg, hdl, by omega, rfl, ⟨by rw [e59, e57]; exact (kk35.tr (Kp.on hL 46 On.up)).tr (Kp.on hL 44 On.up), fun j hj => ?_, by rw [e59, up_at]; rfl, fun j hj => ?_, fun j hj => by rw [ao 47 (by decide) (by decide) (by decide)]; exact f47 j hj, hRD, cg3, by rw [pf], fl, g, by rw [pf]; exact fst, ?_, fl8, fun j hj => by rw [ao 45 (by decide) (by decide) (by decide), c45]; exact s45 j hj⟩, rfl⟩⟩
            · rw [e59, up_no (by omega), e57, up_ne (hL.n (by decide)), c44]
              by_cases c : j = d
              · rw [c, f26, cgd]
              · rw [k0 j (by omega), cgj j (by omega)]
            · rw [e59, up_ne (hL.n (by decide)), e57]
              by_cases c : j = d + 1
              · rw [c, up_at]
              · rw [up_no c, c46, s46 j (by omega), hrw_cong j (fun k hk => (cgj k (by omega)).symm)]
            · rw [e59, up_ne (Ne.symm (hL.o 44)), e57, up_ne (Ne.symm (hL.o 46)), c48]; exact s48
        · have kk35 : Kp tC m am (gI S) F35 := k34.tr k35
          refine go _ F35 (skip F35 kk35 ?_ ?_ (fun j hj => ?_) ?_ ?_ (fun q h1 h2 hg => ?_))
          · rw [af 44 (by decide) (by decide) (by decide)]; exact f44
          · rw [af 46 (by decide) (by decide) (by decide)]; show F34 (am 46) = _; rw [a34 46 (by decide), a31 46 (by decide) (by decide), a26 46 (by decide) (by decide)]
          · rw [f47 j hj, s47 j hj, sv_cong (by omega) cgj j hj]
          · rw [mf 48 (by decide)]; show F34 m 48 = _; rw [e34, up_no (by decide), m31, m26]
          · rw [af 45 (by decide) (by decide) (by decide)]; show F34 (am 45) = _; rw [a34 45 (by decide), a31 45 (by decide) (by decide), a26 45 (by decide) (by decide)]
          · obtain ⟨-, q2, q3⟩ := (hG q).mp hg
            have qr := (FD_RD q2 b1 hld).mp q3
            exact hnR ((qr.mono (show d + 1 ≤ ld by omega)).cg (fun j hj => blk q h1 h2 j (by omega)))
      · have := ((hG q).mp hg).1 d hdd
        rw [blk q h1 h2 d (Nat.le_refl _), cgd, hal] at this
        cases this
  · exact ⟨fun _ => hq F fl g kk fst s48 fl8 s45, fun c => absurd (by decide) c⟩
end MC
