/-! The class's composer. -/
def CoX (S : St) (co : Nat) (ca : Nat → Nat) : Prop := kd S co = 3 ∧ (∀ f, f < 4 → gR S co f = some (ca f) ∧ kd S (ca f) = 21 ∧ ln S (ca f) = 8) ∧ ∀ f g, f < 4 → g < 4 → f ≠ g → ca f ≠ ca g
theorem CoX.r {S : St} {co : Nat} {ca : Nat → Nat} (h : CoX S co ca) (f : Nat) (hf : f < 4 := by decide) : gR S co f = some (ca f) := (h.2.1 f hf).1
theorem CoX.k {S : St} {co : Nat} {ca : Nat → Nat} (h : CoX S co ca) (f : Nat) (hf : f < 4 := by decide) : kd S (ca f) = 21 := (h.2.1 f hf).2.1
theorem CoX.l {S : St} {co : Nat} {ca : Nat → Nat} (h : CoX S co ca) (f : Nat) (hf : f < 4 := by decide) : ln S (ca f) = 8 := (h.2.1 f hf).2.2
theorem CoX.i {S : St} {co : Nat} {ca : Nat → Nat} (h : CoX S co ca) (f : Nat) {p : Nat} (hp : p < 8) (hf : f < 4 := by decide) : vp_in (nI p) (ln S (ca f)) := by rw [h.l f hf]; exact vp_in_nI hp (by decide)
theorem CoX.n {S : St} {co : Nat} {ca : Nat → Nat} (h : CoX S co ca) {f g : Nat} (hn : f ≠ g) (hf : f < 4 := by decide) (hg : g < 4 := by decide) : ca f ≠ ca g := h.2.2 f g hf hg hn
theorem CoX.o {S : St} {co : Nat} {ca : Nat → Nat} (h : CoX S co ca) (f : Nat) (hf : f < 4 := by decide) : ca f ≠ co := kd_ne (h.k f hf) h.1 (by decide)
/-- only the composer's own is another -/
def FC (G : FI) (co : Nat) (ca : Nat → Nat) (F : FI) : Prop := ∀ a, a ≠ co → (∀ f, f < 4 → a ≠ ca f) → F a = G a
theorem FC.up {G F : FI} {co : Nat} {ca : Nat → Nat} {f j : Nat} {v : Int32} (h : FC G co ca F) (hf : f < 4 := by decide) : FC G co ca (upI F (ca f) j v) := fun a h1 h2 => by rw [up_ne (h2 f hf)]; exact h a h1 h2
theorem FC.uc {G F : FI} {co : Nat} {ca : Nat → Nat} {j : Nat} {v : Int32} (h : FC G co ca F) : FC G co ca (upI F co j v) := fun a h1 h2 => by rw [up_ne h1]; exact h a h1 h2
theorem false_iff {B : Bk} (hb : bok B) {i : Nat} (hi : i < bM B) {ha r : Nat → Nat} (pa : Pm (bn B) ha) (pr : Pm (bn B) r) : (num (bn B) (fun p => inv (bn B) ha (r p)) = 0 ∨ Fz B i 0 (num (bn B) (fun p => inv (bn B) ha (r p)))) ↔ ∃ u v, u < bl B i ∧ v < bl B i ∧ Eqn (bn B) (fun p => ha (rl B i 0 (fun p => p) u p)) (fun p => r (rl B i 0 (fun p => p) v p)) := by
  have hn := hb.2.1
  obtain ⟨b1, b2⟩ := bl_32 hb hi
  have pi := comp_pm (inv_pm pa) pr
  refine ⟨fun h => ?_, fun ⟨u, v, hu, hv, he⟩ => Or.inr ⟨u, v, by omega, by omega, by omega, by omega, ?_⟩⟩
  · rcases h with h | ⟨u, v, h1, h2, h3, h4, h5⟩
    · refine ⟨0, 0, by omega, by omega, fun p hp => ?_⟩
      have e : inv (bn B) ha (r p) = p := (num_0 hn pi).mp h p hp
      have := (inv_lt pa (pr.1 p hp)).2
      rw [e] at this
      exact this
    · refine ⟨u, v, by omega, by omega, fun p hp => ?_⟩
      have pv := rl0_pm hb hi (show v ≤ bl B i by omega)
      have e := num_inj hn (qn_pm hb hi (show u ≤ bl B i by omega) (show v ≤ bl B i by omega)) pi h5 (rl B i 0 (fun p => p) v p) (pv.1 p hp)
      rw [inv_at pv hp] at e
      show ha (rl B i 0 (fun p => p) u p) = r (rl B i 0 (fun p => p) v p)
      rw [e]
      exact (inv_lt pa (pr.1 _ (pv.1 p hp))).2
  · refine num_cong (fun p hp => ?_)
    have pv := rl0_pm hb hi (show v ≤ bl B i by omega)
    have pu := rl0_pm hb hi (show u ≤ bl B i by omega)
    obtain ⟨y1, y2⟩ := inv_lt pv hp
    have e := he _ y1
    have e' : ha (rl B i 0 (fun p => p) u (inv (bn B) (rl B i 0 (fun p => p) v) p)) = r (rl B i 0 (fun p => p) v (inv (bn B) (rl B i 0 (fun p => p) v) p)) := e
    rw [y2] at e'
    show _ = inv (bn B) ha (r p)
    rw [← e', inv_at pa (pu.1 _ y1)]
section CO
variable {S : St} {co s a len p q i ld : Nat} {ca : Nat → Nat} {im : Nat → Prop} {B : Bk} {Z : Nat → Bool}
theorem sp_cbegin {d : Nat} {f : Nat → Nat} {Q : FI → Prop} (hC : CoX S co ca) (hn : bn B ≤ 8) (hd : d < 8) (hf : Pm (bn B) f) (hq : ∀ F, F = upI (upI (upI (gI S) (ca 1) d (nI (pak f (bn B)))) (ca 2) d (nI (pak (inv (bn B) f) (bn B)))) (ca 0) d (-1) → Q F) : P_X2_begin co (nI d) (nI (pak f (bn B))) (nI (bn B)) S Q := by
  refine ⟨hC.1, ca 1, hC.r 1, hC.k 1, hC.i 1 hd, fun F4 e4 => ⟨ca 2, hC.r 2, sp_invert hn hf ⟨hC.k 2, hC.i 2 hd, fun F9 e9 => ⟨ca 0, hC.r 0, hC.k 0, hC.i 0 hd, fun F13 e13 => ?_⟩⟩⟩⟩
  rw [nI_clamp (by omega)] at e4 e9 e13
  refine hq F13 ?_
  rw [e13, e9, e4]
theorem sp_isFalse {d : Nat} {h : Nat → Nat → Nat} {r : Nat → Nat} {Q : Int32 → Prop} (hC : CoX S co ca) (hb : bok B) (hi : i < bM B) (hZ : SZ S s a len p Z) (hl : fac (bn B) ≤ len) (hz : ∀ r, r < fac (bn B) → (Z r = true ↔ (r = 0 ∨ Fz B i 0 r))) (hd : d ≤ 8) (hr : Pm (bn B) r) (hh : ∀ j, j < d → Pm (bn B) (h j)) (h2 : ∀ j, j < d → gI S (ca 2) j = nI (pak (inv (bn B) (h j)) (bn B)))
    (hq : (∃ j, j < d ∧ ∃ u v, u < bl B i ∧ v < bl B i ∧ Eqn (bn B) (fun p => h j (rl B i 0 (fun p => p) u p)) (fun p => r (rl B i 0 (fun p => p) v p))) → Q 1)
    (hq2 : (∀ j, j < d → ∀ u v, u < bl B i → v < bl B i → ¬ Eqn (bn B) (fun p => h j (rl B i 0 (fun p => p) u p)) (fun p => r (rl B i 0 (fun p => p) v p))) → Q 0) : P_X2_isFalse co (nI d) (nI (pak r (bn B))) (nI (bn B)) s S Q := by
  have hn := hb.2.1
  refine ⟨hC.1, fun t x5 => ∃ j, j ≤ d ∧ t = d - j ∧ x5 = nI j ∧ ∀ k, k < j → ∀ u v, u < bl B i → v < bl B i → ¬ Eqn (bn B) (fun p => h k (rl B i 0 (fun p => p) u p)) (fun p => r (rl B i 0 (fun p => p) v p)), ⟨d, 0, by omega, rfl, rfl, fun k hk => by omega⟩, ?_⟩
  rintro t x5 ⟨j, hj, rfl, rfl, hno⟩
  refine ⟨fun hc => ?_, fun hc => ?_⟩
  · have : d ≤ j := (nI_leI (by omega) (by omega)).mp hc
    exact hq2 (fun k hk => hno k (by omega))
  · have hlt := nI_gtI (by omega) (by omega) hc
    refine ⟨ca 2, hC.r 2, hC.k 2, hC.i 2 (by omega), ?_⟩
    rw [nI_clamp (by omega), h2 j hlt]
    have pj := hh j hlt
    have pi := comp_pm (inv_pm pj) hr
    have nl := num_lt pi
    refine sp_rankMultiplied hn (pm8 hn (inv_pm pj)) hr.1 pi ⟨hZ.1, sp_has hZ (by omega) (fun ht => ⟨fun c => absurd c one0, fun _ => hq ⟨j, hlt, (false_iff hb hi pj hr).mp ((hz _ nl).mp ht)⟩⟩) (fun ht => ⟨fun _ w ew => ⟨d - (j + 1), by omega, j + 1, by omega, rfl, by rw [ew]; exact nI_1 j, fun k hk u v hu hv he => ?_⟩, fun c => absurd rfl c⟩)⟩
    by_cases c : k = j
    · subst c
      have := (hz _ nl).mpr ((false_iff hb hi pj hr).mpr ⟨u, v, hu, hv, he⟩)
      rw [ht] at this; cases this
    · exact hno k (by omega) u v hu hv he
/-- the composer at work -/
def CS (B : Bk) (i ld : Nat) (al : Nat → Bool) (G : Nat → Bool) (G0 : FI) (co : Nat) (ca : Nat → Nat) (cf : Nat → Nat) (d t : Nat) (F : FI) : Prop :=
  FC G0 co ca F ∧ (∀ j, j < d → F (ca 0) j = nI (cf j)) ∧ F (ca 0) d = (if t = 0 then -1 else nI (t - 1)) ∧ (∀ j, j ≤ d → F (ca 1) j = nI (pak (hrw B i cf j) (bn B))) ∧ (∀ j, j ≤ d → F (ca 2) j = nI (pak (inv (bn B) (hrw B i cf j)) (bn B))) ∧ FD B i cf (d + 1) ∧ (∀ j, j < d → cf j < 3 ∧ al (cf j) = true) ∧ F co 5 = nI (fb_ct G (frn ld cf d t)) ∧ ∃ fl g, Fst G ld (frn ld cf d t) fl g ∧ F co 4 = nI fl ∧ fl ≤ 8 ∧ ∀ j, j < fl → F (ca 3) j = nI (g j)
theorem sp_tryCalls {p3 : Int32} {G : Nat → Bool} {Q : FI → Prop} (hC : CoX S co ca) (hb : bok B) (hi : i < bM B) (hm : MX B i im S q) (hZ : SZ S s a len p Z) (hl : fac (bn B) ≤ len) (hz : ∀ r, r < fac (bn B) → (Z r = true ↔ (r = 0 ∨ Fz B i 0 r))) (hld : 1 ≤ ld) (hld8 : ld ≤ 8) (hG : ∀ q, G q = true ↔ Gq B i ld (bt p3) q)
    (hun : FD B i (fun _ => 0) 1) (him : ∀ e, im e → e ≠ co ∧ ∀ f, f < 4 → e ≠ ca f) (hs : s ≠ co ∧ ∀ f, f < 4 → s ≠ ca f) (ha : a ≠ co ∧ ∀ f, f < 4 → a ≠ ca f) (h5 : gI S co 5 = 0) (h4 : gI S co 4 = 0)
    (hq : ∀ F fl g, FC (gI S) co ca F → F co 5 = nI (fb_ct G (3 ^ ld)) → Fst G ld (3 ^ ld) fl g → F co 4 = nI fl → fl ≤ 8 → (∀ j, j < fl → F (ca 3) j = nI (g j)) → Q F) : P_X2_tryCalls co (nI (bn B)) q (nI ld) p3 s S Q := by
  have hn := hb.2.1
  have hn4 := hb.1
  obtain ⟨b1, b2⟩ := bl_32 hb hi
  have p38 : 3 ^ ld ≤ 6561 := by
    have : 3 ^ ld ≤ 3 ^ 8 := Nat.pow_le_pow_right (by decide) hld8
    exact this
  obtain ⟨-, q4, -, -, -, -, ⟨a7, r7, i7, k7, l7, g7⟩⟩ := hm
  have a7n := him a7 i7
  have czle : ∀ f, fb_ct G f ≤ f := fb_ct_le G
  refine ⟨hC.1, sp_roundsOf hn (sp_cbegin (d := 0) hC hn (by decide) (pm_id _) (fun F0 e0 => ?_))⟩
  have init : CS B i ld (bt p3) G (gI S) co ca (fun _ => 0) 0 0 F0 := by
    have f5 : ∀ j, F0 co j = gI S co j := fun j => by rw [e0, up_ne (Ne.symm (hC.o 0)), up_ne (Ne.symm (hC.o 2)), up_ne (Ne.symm (hC.o 1))]
    have fz : frn ld (fun _ => 0) 0 0 = 0 := by unfold frn; show (3 * 0 + 0) * _ = 0; rw [Nat.zero_mul]
    refine ⟨by rw [e0]; exact ((FC.up (f := 1) (fun _ _ _ => rfl)).up (f := 2)).up (f := 0), fun j hj => by omega, by rw [e0, up_at]; rfl, fun j hj => ?_, fun j hj => ?_, hun, fun j hj => by omega, ?_, 0, fun _ => 0, Or.inl ⟨fun q hq => by rw [fz] at hq; omega, rfl⟩, ?_, by omega, fun j hj => by omega⟩
    · have : j = 0 := by omega
      subst this
      rw [e0, up_ne (hC.n (by decide)), up_ne (hC.n (by decide)), up_at]; rfl
    · have : j = 0 := by omega
      subst this
      rw [e0, up_ne (hC.n (by decide)), up_at]; rfl
    · rw [f5, h5, fz]; rfl
    · rw [f5, h4]; rfl
  have mu0 : mu ld (frn ld (fun _ => 0) 0 0) 0 0 ≤ 40 * 6561 + 8 := by
    unfold mu
    rw [if_neg (by decide)]
    omega
  refine ⟨fun t0 x7 x8 F => (∃ d t cf τ, d < ld ∧ t ≤ 3 ∧ x7 = nI d ∧ x8 = nI τ ∧ CS B i ld (bt p3) G (gI S) co ca cf d t F ∧ t0 = mu ld (frn ld cf d t) d t + 1 ∧ τ + mu ld (frn ld cf d t) d t ≤ 262448) ∨ (x7 = -1 ∧ t0 = 0 ∧ ∃ cf, frn ld cf 0 3 = 3 ^ ld ∧ FC (gI S) co ca F ∧ F co 5 = nI (fb_ct G (3 ^ ld)) ∧ ∃ fl g, Fst G ld (3 ^ ld) fl g ∧ F co 4 = nI fl ∧ fl ≤ 8 ∧ ∀ j, j < fl → F (ca 3) j = nI (g j)), ⟨_, Or.inl ⟨0, 0, fun _ => 0, 0, by omega, by omega, rfl, rfl, init, rfl, by omega⟩⟩, ?_⟩
  rintro t0 x7 x8 F (⟨d, t, cf, τ, hdd, ht, rfl, rfl, cs, rfl, hτ⟩ | ⟨rfl, rfl, cf, -, fc, c5, fl, g, fst, c4, fl8, c3⟩)
  · obtain ⟨fc, s0, s0d, s1, s2, fd, sc, s5, fl, g, fst, s4, fl8, s3⟩ := cs
    have dig : ∀ j, j < d → cf j < 3 := fun j hj => (sc j hj).1
    refine ⟨fun c => absurd ((nI_leI (a := 1000000) (by decide) (by omega)).mp c) (by omega), fun _ => ⟨fun c => absurd c (nI_pos (by omega)), fun _ => ⟨ca 0, hC.r 0, hC.k 0, hC.i 0 (by omega), fun v12 e12 F13 e13 => ?_⟩⟩⟩
    rw [nI_clamp (by omega)] at e12 e13
    have v12e : v12 = nI t := by
      rw [e12, s0d]
      by_cases c : t = 0
      · rw [if_pos c, c]; rfl
      · rw [if_neg c, nI_1, show t - 1 + 1 = t by omega]
    subst v12e
    have f13 : F13 (ca 0) d = nI t := by rw [e13, up_at]
    rw [nI_clamp (show d < 2 ^ 31 by omega), f13]
    have fc13 : FC (gI S) co ca F13 := by rw [e13]; exact fc.up (f := 0)
    have k13 : ∀ f, f < 4 → f ≠ 0 → F13 (ca f) = F (ca f) := fun f hf hn => by rw [e13, up_ne (hC.n hn hf (by decide))]
    have kco : ∀ j, F13 co j = F co j := fun j => by rw [e13, up_ne (Ne.symm (hC.o 0))]
    have k0 : ∀ j, j < d → F13 (ca 0) j = nI (cf j) := fun j hj => by rw [e13, up_no (by omega)]; exact s0 j hj
    obtain ⟨cg, hcg⟩ : ∃ cg : Nat → Nat, cg = fun j => if j = d then t else cf j := ⟨_, rfl⟩
    have cgd : cg d = t := by rw [hcg]; show (if d = d then t else cf d) = t; rw [if_pos rfl]
    have cgj : ∀ j, j < d → cg j = cf j := fun j hj => by rw [hcg]; show (if j = d then t else cf j) = cf j; rw [if_neg (by omega)]
    by_cases t3 : t = 3
    · subst t3
      refine ⟨fun c => absurd c (by decide), fun _ w ew w2 ew2 => ?_⟩
      cases d with
      | zero =>
        refine ⟨0, by omega, Or.inr ⟨by rw [ew]; rfl, rfl, cf, fr_end hld, fc13, ?_, fl, g, ?_, ?_, fl8, fun j hj => ?_⟩⟩
        · rw [kco, s5, fr_end hld]
        · rw [fr_end hld] at fst; exact fst
        · rw [kco]; exact s4
        · rw [k13 3 (by decide) (by decide)]; exact s3 j hj
      | succ e =>
        have hpop := mu_pop (ld := ld) (f := frn ld cf (e + 1) 3) (d := e) (t := cf e + 1) hld8 hdd
        have hfp := fr_pop (cf := cf) hdd
        have ce := dig e (by omega)
        rw [hfp] at hpop hτ s5 fst ⊢
        refine ⟨_, Nat.add_lt_add_right hpop 1, Or.inl ⟨e, cf e + 1, cf, τ + 1, by omega, by omega, by rw [ew]; exact pk_m1 e, by rw [ew2]; exact nI_1 τ, ⟨fc13, fun j hj => k0 j (by omega), ?_, fun j hj => by rw [k13 1 (by decide) (by decide)]; exact s1 j (by omega), fun j hj => by rw [k13 2 (by decide) (by decide)]; exact s2 j (by omega), fd.mono (by omega), fun j hj => sc j (by omega), by rw [kco]; exact s5, fl, g, fst, by rw [kco]; exact s4, fl8, fun j hj => by rw [k13 3 (by decide) (by decide)]; exact s3 j hj⟩, rfl, by omega⟩⟩
        rw [if_neg (by omega), k0 e (by omega)]; rfl
    · have t3' : t < 3 := by omega
      have skf := fr_skip ld cf d t
      have lef := fr_le (t := t + 1) hdd dig (by omega)
      have pw3 : 0 < 3 ^ (ld - 1 - d) := Nat.pow_pos (by decide)
      have msk' := mu_skip (ld := ld) (f := frn ld cf d t) (f' := frn ld cf d (t + 1)) (d := d) (t := t) (t' := t + 1) hld8 hdd (by omega) lef
      have blk : ∀ q, frn ld cf d t ≤ q → q < frn ld cf d (t + 1) → ∀ j, j ≤ d → dgt ld q j = cg j := fun q h1 h2 j hj => by rw [hcg]; exact fr_blk hdd dig t3' h1 h2 j hj
      -- going on behind a block without any
      have skip : ∀ F14, FC (gI S) co ca F14 → (∀ j, F14 co j = F co j) → F14 (ca 3) = F (ca 3) → (∀ j, j ≤ d → F14 (ca 0) j = F13 (ca 0) j) → F14 (ca 1) = F (ca 1) → F14 (ca 2) = F (ca 2) → (∀ q, frn ld cf d t ≤ q → q < frn ld cf d (t + 1) → ¬ G q = true) → CS B i ld (bt p3) G (gI S) co ca cf d (t + 1) F14 := fun F14 y1 y2 y3 y4 y5 y6 hno => by
        refine ⟨y1, fun j hj => by rw [y4 j (by omega)]; exact k0 j hj, ?_, fun j hj => by rw [y5]; exact s1 j hj, fun j hj => by rw [y6]; exact s2 j hj, fd, sc, ?_, fl, g, fst.skip (by omega) hno, by rw [y2]; exact s4, fl8, fun j hj => by rw [y3]; exact s3 j hj⟩
        · rw [if_neg (by omega), y4 d (Nat.le_refl _), f13]; rfl
        · rw [y2, s5, ct_blk (by omega) hno]
      have go : ∀ (x8' : Int32) F14, x8' = nI τ + 1 → CS B i ld (bt p3) G (gI S) co ca cf d (t + 1) F14 → ∃ k, k < mu ld (frn ld cf d t) d t + 1 ∧ ((∃ d' t' cf' τ', d' < ld ∧ t' ≤ 3 ∧ nI d = nI d' ∧ x8' = nI τ' ∧ CS B i ld (bt p3) G (gI S) co ca cf' d' t' F14 ∧ k = mu ld (frn ld cf' d' t') d' t' + 1 ∧ τ' + mu ld (frn ld cf' d' t') d' t' ≤ 262448) ∨ (nI d = -1 ∧ k = 0 ∧ ∃ cf, frn ld cf 0 3 = 3 ^ ld ∧ FC (gI S) co ca F14 ∧ F14 co 5 = nI (fb_ct G (3 ^ ld)) ∧ ∃ fl g, Fst G ld (3 ^ ld) fl g ∧ F14 co 4 = nI fl ∧ fl ≤ 8 ∧ ∀ j, j < fl → F14 (ca 3) j = nI (g j))) := fun x8' F14 ex cs' => ⟨_, Nat.add_lt_add_right msk' 1, Or.inl ⟨d, t + 1, cf, τ + 1, hdd, by omega, rfl, by rw [ex]; exact nI_1 τ, cs', rfl, by omega⟩⟩
      refine ⟨fun _ => ?_, fun c => absurd (nI_lt (b := 3) t3' (by decide)) c⟩
      rw [tb1 (by omega)]
      refine ⟨fun hal w ew => go w F13 ew (skip F13 fc13 kco (k13 3 (by decide) (by decide)) (fun _ _ => rfl) (k13 1 (by decide) (by decide)) (k13 2 (by decide) (by decide)) (fun q h1 h2 hg => ?_)), fun hal => ?_⟩
      · have := ((hG q).mp hg).1 d hdd
        rw [blk q h1 h2 d (Nat.le_refl _), cgd, hal] at this
        cases this
      · have hal' : bt p3 t = true := ts_nf hal
        have pd := hrw_pm hb hi (cf := cf) d dig
        have ph := hd_pm hb hi (c := t) (by omega)
        have ha7 : F13 a7 = gI S a7 := fc13 a7 a7n.1 a7n.2
        have row : hrw B i cg (d + 1) = fun p => hrw B i cf d (hd B i t p) := by
          show (fun p => hrw B i cg d (hd B i (cg d) p)) = _
          rw [hrw_cong d cgj, cgd]
        have cg3 : ∀ j, j < d + 1 → cg j < 3 ∧ bt p3 (cg j) = true := fun j hj => by
          by_cases c : j = d
          · rw [c, cgd]; exact ⟨t3', hal'⟩
          · rw [cgj j (by omega)]; exact sc j (by omega)
        have pr := hrw_pm hb hi (cf := cg) (d + 1) (fun j hj => (cg3 j hj).1)
        refine ⟨ca 1, hC.r 1, hC.k 1, hC.i 1 (by omega), q4, a7, r7, k7, by rw [l7]; exact vp_in_nI (by omega) (by decide), ?_⟩
        rw [nI_clamp (show t < 2 ^ 31 by omega), k13 1 (by decide) (by decide), s1 d (Nat.le_refl _), ha7, g7 t t3']
        refine sp_multiply hn (pm8 hn pd) ph.1 ?_
        rw [← row, nI_1]
        refine ⟨fun hleaf => ?_, fun hin => ?_⟩
        · have hdl : d + 1 = ld := by
            have : ld ≤ d + 1 := (nI_leI (by omega) (by omega)).mp hleaf
            omega
          have e1 : frn ld cf d (t + 1) = frn ld cf d t + 1 := by rw [skf, show ld - 1 - d = 0 by omega]
          have dq : ∀ j, j < ld → dgt ld (frn ld cf d t) j = cg j := fun j hj => blk _ (Nat.le_refl _) (by omega) j (by omega)
          have fdg : FD B i cg ld := by rw [← hdl]; exact fd.cg (fun j hj => (cgj j hj).symm)
          have gi : G (frn ld cf d t) = true ↔ idn (bn B) (hrw B i cg (d + 1)) := by
            rw [hG]
            unfold Gq
            rw [hdl, hrw_cong ld dq]
            refine ⟨fun y => y.2.1, fun y => ⟨fun j hj => by rw [dq j hj]; exact (cg3 j (by omega)).2, y, ?_⟩⟩
            exact ((fd.cg (fun j hj => (cgj j hj).symm)).cg (fun j hj => (dq j (by omega)).symm)).mono (by omega)
          have one : ∀ q, frn ld cf d t ≤ q → q < frn ld cf d (t + 1) → q = frn ld cf d t := fun q h1 h2 => by omega
          rw [pak_id hn (pm8 hn pr), ← gi]
          refine ⟨fun hng w ew => go w F13 ew (skip F13 fc13 kco (k13 3 (by decide) (by decide)) (fun _ _ => rfl) (k13 1 (by decide) (by decide)) (k13 2 (by decide) (by decide)) (fun q h1 h2 => by rw [one q h1 h2]; exact hng)), fun hg => ?_⟩
          have cts : nI (fb_ct G (frn ld cf d t)) + 1 = nI (fb_ct G (frn ld cf d (t + 1))) := by rw [e1]; exact ct_yes hg
          have base : ∀ F14 fl' g', FC (gI S) co ca F14 → (∀ j, j ≤ d → F14 (ca 0) j = F13 (ca 0) j) → F14 (ca 1) = F (ca 1) → F14 (ca 2) = F (ca 2) → F14 co 5 = nI (fb_ct G (frn ld cf d (t + 1))) → Fst G ld (frn ld cf d (t + 1)) fl' g' → F14 co 4 = nI fl' → fl' ≤ 8 → (∀ j, j < fl' → F14 (ca 3) j = nI (g' j)) → CS B i ld (bt p3) G (gI S) co ca cf d (t + 1) F14 := fun F14 fl' g' y1 y4 y5 y6 y7 y8 y9 y10 y11 => by
            refine ⟨y1, fun j hj => by rw [y4 j (by omega)]; exact k0 j hj, ?_, fun j hj => by rw [y5]; exact s1 j hj, fun j hj => by rw [y6]; exact s2 j hj, fd, sc, y7, fl', g', y8, y9, y10, y11⟩
            rw [if_neg (by omega), y4 d (Nat.le_refl _), f13]; rfl
          refine ⟨hC.1, fun F3 => FC (gI S) co ca F3 ∧ (∀ j, j ≤ d → F3 (ca 0) j = F13 (ca 0) j) ∧ F3 (ca 1) = F (ca 1) ∧ F3 (ca 2) = F (ca 2) ∧ F3 co 5 = nI (fb_ct G (frn ld cf d t)) ∧ ∃ fl' g', Fst G ld (frn ld cf d (t + 1)) fl' g' ∧ F3 co 4 = nI fl' ∧ fl' ≤ 8 ∧ ∀ j, j < fl' → F3 (ca 3) j = nI (g' j), ?_, fun hne => ?_, fun h0 => ?_⟩
          · rintro F3 ⟨y1, y4, y5, y6, y7, fl', g', y8, y9, y10, y11⟩ v4 e4 F5 e5 w ew
            rw [y7, cts] at e4
            subst e4
            refine go w F5 ew (base F5 fl' g' (by rw [e5]; exact y1.uc) (fun j hj => by rw [e5, up_ne (hC.o 0)]; exact y4 j hj) (by rw [e5, up_ne (hC.o 1)]; exact y5) (by rw [e5, up_ne (hC.o 2)]; exact y6) (by rw [e5, up_at]) y8 (by rw [e5, up_no (by decide)]; exact y9) y10 (fun j hj => by rw [e5, up_ne (hC.o 3)]; exact y11 j hj))
          · have hne' : ¬ F13 co 5 = 0 := hne
            rw [kco, s5] at hne'
            refine ⟨fc13, fun _ _ => rfl, k13 1 (by decide) (by decide), k13 2 (by decide) (by decide), by show F13 co 5 = _; rw [kco]; exact s5, fl, g, ?_, by show F13 co 4 = _; rw [kco]; exact s4, fl8, fun j hj => by show F13 (ca 3) j = _; rw [k13 3 (by decide) (by decide)]; exact s3 j hj⟩
            rcases fst with ⟨z1, -⟩ | ⟨q0, z1, z2, z3, z4, z5⟩
            · exact absurd (by rw [fb_ct_zero.mpr (fun k hk => ts_nt (z1 k hk))]; rfl) hne'
            · exact Or.inr ⟨q0, by omega, z2, z3, z4, z5⟩
          · have h0' : F13 co 5 = 0 := h0
            rw [kco, s5] at h0'
            have z : fb_ct G (frn ld cf d t) = 0 := (nI_z (by have := czle (frn ld cf d t); omega)).mp h0'
            have znone := fb_ct_zero.mp z
            refine ⟨ca 0, hC.r 0, ca 3, hC.r 3, hC.k 0, hC.k 3, nI_pos (by omega), ?_⟩
            rw [nI_clamp (by omega), show ln (wI S F13) (ca 0) = 8 from hC.l 0, show ln (wI S F13) (ca 3) = 8 from hC.l 3]
            refine ⟨by omega, by omega, fun F14 e14 F15 e15 => ?_⟩
            have e14' : F14 = va_up F13 (ca 3) (va_cpy (F13 (ca 0)) (F13 (ca 3)) 0 0 ld) := e14
            have o14 : ∀ b, b ≠ ca 3 → F14 b = F13 b := fun b hb => by rw [e14']; exact va_up_ne _ _ hb
            have a14 : F14 (ca 3) = va_cpy (F13 (ca 0)) (F13 (ca 3)) 0 0 ld := by rw [e14']; exact va_up_self ..
            refine ⟨fun b h1 h2 => by rw [e15, up_ne h1, o14 b (h2 3 (by decide))]; exact fc13 b h1 h2, fun j hj => by rw [e15, up_ne (hC.o 0), o14 _ (hC.n (by decide))], by rw [e15, up_ne (hC.o 1), o14 _ (hC.n (by decide)), k13 1 (by decide) (by decide)], by rw [e15, up_ne (hC.o 2), o14 _ (hC.n (by decide)), k13 2 (by decide) (by decide)], by rw [e15, up_no (by decide), o14 _ (Ne.symm (hC.o 3)), kco]; exact s5, ld, cg, Or.inr ⟨frn ld cf d t, by omega, hg, (fun r hr c => by rw [znone r hr] at c; cases c), rfl, fun j hj => (dq j hj).symm⟩, by rw [e15, up_at], hld8, fun j hj => ?_⟩
            rw [e15, up_ne (hC.o 3), a14, pk_cpy_in (by omega) (by omega), show 0 + (j - 0) = j by omega]
            by_cases c : j = d
            · rw [c, f13, cgd]
            · rw [k0 j (by omega), cgj j (by omega)]
        · have hdl : d + 1 < ld := nI_gtI (by omega) (by omega) hin
          have hZ13 : SZ (wI S F13) s a len p Z := by
            obtain ⟨z1, z2, z3, z4, z5, z6, z7⟩ := hZ
            refine ⟨z1, z2, z3, z4, ?_, z6, ?_⟩
            · show F13 s 1 = _
              rw [fc13 s hs.1 hs.2]; exact z5
            · show MS (F13 a) len p Z
              rw [fc13 a ha.1 ha.2]; exact z7
          refine sp_isFalse (S := wI S F13) (h := hrw B i cf) (d := d + 1) hC hb hi hZ13 hl hz (by omega) pr (fun j hj => hrw_pm hb hi j (fun k hk => dig k (by omega))) (fun j hj => by show F13 (ca 2) j = _; rw [k13 2 (by decide) (by decide)]; exact s2 j (by omega)) (fun hbad => ⟨fun _ w ew => go w F13 ew (skip F13 fc13 kco (k13 3 (by decide) (by decide)) (fun _ _ => rfl) (k13 1 (by decide) (by decide)) (k13 2 (by decide) (by decide)) (fun q h1 h2 hg => ?_)), fun c => absurd c one0⟩) (fun hgood => ⟨fun c => absurd rfl c, fun _ w ew => ?_⟩)
          · obtain ⟨j, hj, u, v, hu, hv, he⟩ := hbad
            have fq := ((hG q).mp hg).2.2
            refine fq j u (d + 1) v (by omega) hu hdl hv (Or.inl (by omega)) ?_
            unfold Fm
            rw [hrw_cong j (cg := cf) (fun k hk => (blk q h1 h2 k (by omega)).trans (cgj k (by omega))), hrw_cong (d + 1) (cg := cg) (fun k hk => blk q h1 h2 k (by omega))]
            exact he
          · have w' : w = nI (d + 1) := ew
            subst w'
            refine sp_cbegin (S := wI S F13) (d := d + 1) hC hn (by omega) pr (fun F14 e14 w2 ew2 => ?_)
            have e14' : F14 = upI (upI (upI F13 (ca 1) (d + 1) (nI (pak (hrw B i cg (d + 1)) (bn B)))) (ca 2) (d + 1) (nI (pak (inv (bn B) (hrw B i cg (d + 1))) (bn B)))) (ca 0) (d + 1) (-1) := e14
            have pf := fr_push (ld := ld) (cf := cf) (cg := cg) hdl cgj cgd
            have mp := mu_push (ld := ld) (f := frn ld cf d t) hdl t3'
            have mp' : mu ld (frn ld cg (d + 1) 0) (d + 1) 0 < mu ld (frn ld cf d t) d t := by rw [pf]; exact mp
            refine ⟨_, Nat.add_lt_add_right mp' 1, Or.inl ⟨d + 1, 0, cg, τ + 1, hdl, by omega, rfl, by rw [ew2]; exact nI_1 τ, ⟨by rw [e14']; exact ((fc13.up (f := 1)).up (f := 2)).up (f := 0), fun j hj => ?_, by rw [e14', up_at]; rfl, fun j hj => ?_, fun j hj => ?_, ?_, cg3, ?_, fl, g, by rw [pf]; exact fst, ?_, fl8, fun j hj => ?_⟩, ?_, ?_⟩⟩
            · rw [e14', up_no (by omega), up_ne (hC.n (by decide)), up_ne (hC.n (by decide))]
              by_cases c : j = d
              · rw [c, f13, cgd]
              · rw [k0 j (by omega), cgj j (by omega)]
            · rw [e14', up_ne (hC.n (by decide)), up_ne (hC.n (by decide))]
              by_cases c : j = d + 1
              · rw [c, up_at]
              · rw [up_no c, k13 1 (by decide) (by decide), s1 j (by omega), hrw_cong j (fun k hk => (cgj k (by omega)).symm)]
            · rw [e14', up_ne (hC.n (by decide))]
              by_cases c : j = d + 1
              · rw [c, up_at]
              · rw [up_no c, up_ne (hC.n (by decide)), k13 2 (by decide) (by decide), s2 j (by omega), hrw_cong j (fun k hk => (cgj k (by omega)).symm)]
            · have fdg : FD B i cg (d + 1) := fd.cg (fun j hj => (cgj j hj).symm)
              have cross : ∀ j u v, j < d + 1 → u < bl B i → v < bl B i → ¬ Eqn (bn B) (Fm B i cg j u) (Fm B i cg (d + 1) v) := fun j u v hj hu hv he => by
                refine hgood j hj u v hu hv ?_
                unfold Fm at he
                rw [hrw_cong j (cg := cf) (fun k hk => cgj k (by omega))] at he
                exact he
              intro a' u b' v y1 y2 y3 y4 y5 he
              by_cases ca' : a' < d + 1
              · by_cases cb' : b' < d + 1
                · exact fdg a' u b' v ca' y2 cb' y4 y5 he
                · rw [show b' = d + 1 by omega] at he
                  exact cross a' u v ca' y2 y4 he
              · by_cases cb' : b' < d + 1
                · rw [show a' = d + 1 by omega] at he
                  exact cross b' v u cb' y4 y2 he.sy
                · have ea : a' = d + 1 := by omega
                  have eb : b' = d + 1 := by omega
                  subst ea
                  subst eb
                  have huv : u ≠ v := by omega
                  refine hun 0 u 0 v (by decide) y2 (by decide) y4 (Or.inr huv) (fun p hp => ?_)
                  have := he p hp
                  unfold Fm at this ⊢
                  exact pm_inj pr ((rl0_pm hb hi (show u ≤ bl B i by omega)).1 p hp) ((rl0_pm hb hi (show v ≤ bl B i by omega)).1 p hp) this
            · rw [e14', up_ne (Ne.symm (hC.o 0)), up_ne (Ne.symm (hC.o 2)), up_ne (Ne.symm (hC.o 1)), kco, s5, pf]
            · rw [e14', up_ne (Ne.symm (hC.o 0)), up_ne (Ne.symm (hC.o 2)), up_ne (Ne.symm (hC.o 1)), kco]; exact s4
            · rw [e14', up_ne (hC.n (by decide)), up_ne (hC.n (by decide)), up_ne (hC.n (by decide)), k13 3 (by decide) (by decide)]; exact s3 j hj
            · rfl
            · omega
  · exact ⟨fun _ => hq F fl g fc c5 fst c4 fl8 c3, fun _ => ⟨fun _ => hq F fl g fc c5 fst c4 fl8 c3, fun c => absurd (by decide) c⟩⟩
end CO
