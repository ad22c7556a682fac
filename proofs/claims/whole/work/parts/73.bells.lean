/-! A tray made. -/
def Gt (p0 p1 p2 : Int32) : Prop := ¬ NR 4 p0 ∧ ¬ NR 4 p1 ∧ ¬ NR 61 p2
theorem gate_tray {p0 p1 p2 : Int32} {A D inner : Prop} (hA : ¬ p1 < 0 → (A ↔ NR 4 p1)) (hb : ¬ Gt p0 p1 p2 → D) (hg : Gt p0 p1 p2 → inner) : P_X11_isTray p0 (fun r1 => ∃ J3 : Prop, (J3 → D) ∧ ((r1 = 0 → J3) ∧ (¬ r1 = 0 → ((p1 < 0 → J3) ∧ (¬ p1 < 0 → ((A → J3) ∧ (¬ A → ((p2 < 0 → J3) ∧ (¬ p2 < 0 → ((p2 ≤ 60 → inner) ∧ (¬ p2 ≤ 60 → J3)))))))))) ) := by
  have neg : ∀ {z : Int32} {N : Nat}, N < 2 ^ 31 → z < 0 → NR N z := fun hN h k hk e => by rw [e] at h; exact nI_pos (by omega) h
  rcases nr_case 4 (by decide) p0 with ⟨i, hi, rfl⟩ | h0
  · have n0 : ¬ NR 4 (nI i) := fun h => h i hi rfl
    refine xTy hi ⟨¬ Gt (nI i) p1 p2, hb, fun c => absurd c one0, fun _ => ⟨fun c g => g.2.1 (neg (by decide) c), fun c1 => ⟨fun a g => g.2.1 ((hA c1).mp a), fun a => ⟨fun c g => g.2.2 (neg (by decide) c), fun c2 => ⟨fun c60 => hg ⟨n0, fun y => a ((hA c1).mpr y), fun y => ?_⟩, fun c60 g => g.2.2 (fun k hk e => c60 (by rw [e]; exact nI_le (b := 60) (by omega) (by decide)))⟩⟩⟩⟩⟩
    obtain ⟨k, hk, rfl⟩ := nI_of c2
    have : k ≤ 60 := (nI_leI (b := 60) hk (by decide)).mp c60
    exact y k (by omega) rfl
  · exact xTn h0 ⟨¬ Gt p0 p1 p2, hb, fun _ g => g.1 h0, fun c => absurd rfl c⟩
theorem gt_4 {z : Int32} (h : ¬ z < 0) : (4 ≤ z ↔ NR 4 z) := by
  obtain ⟨k, hk, rfl⟩ := nI_of h
  refine ⟨fun c j hj e => ?_, fun y => nr_ix (N := 4) (by decide) y h⟩
  have h1 : 4 ≤ k := (nI_leI (a := 4) (by decide) hk).mp c
  have := (nI_eq hk (by omega)).mp e
  omega
theorem gt_3 {z : Int32} (h : ¬ z < 0) : (3 < z ↔ NR 4 z) := by
  rw [← gt_4 h]
  obtain ⟨k, hk, rfl⟩ := nI_of h
  refine ⟨fun c => nI_le (a := 4) ?_ hk, fun c => nI_lt (a := 3) ?_ hk⟩
  · rcases Nat.lt_or_ge 3 k with y | y
    · exact y
    · exact absurd c (nI_nlt (a := 3) y (by decide))
  · have : 4 ≤ k := (nI_leI (a := 4) (by decide) hk).mp c
    omega
theorem Gt.get {p0 p1 p2 : Int32} (h : Gt p0 p1 p2) : ∃ i s n, i < 4 ∧ s < 4 ∧ n ≤ 60 ∧ p0 = nI i ∧ p1 = nI s ∧ p2 = nI n := by
  obtain ⟨h0, h1, h2⟩ := h
  rcases nr_case 4 (by decide) p0 with ⟨i, hi, e0⟩ | y
  · rcases nr_case 4 (by decide) p1 with ⟨s, hs, e1⟩ | y
    · rcases nr_case 61 (by decide) p2 with ⟨n, hn, e2⟩ | y
      · exact ⟨i, s, n, hi, hs, by omega, e0, e1, e2⟩
      · exact absurd y h2
    · exact absurd y h1
  · exact absurd y h0
def tY (f : Nat) : Bool := [2, 5, 6].contains f
section TM2
variable {S : St} {x b m tr : Nat} {am tq ta : Nat → Nat} {im : Nat → Prop} {B : Bk} {Y : Nat → Yt}
theorem call_tray {c d : Nat} {Q : Int32 → St → Prop} (h : CB S x b m am im B) (hY : TrX S x tr tq ta am Y) (hD : TrD Y ta am) (hc : 2 ≤ c) (hd : 62 ≤ d) (p0 p1 p2 : Int32)
    (hq : ∀ v S1 tq' ta' Y', Fr (fun e => e = x ∨ e = tr) S S1 → Xk S S1 x → TrD Y' ta' am → (∀ k, k < 4 → Y' k ≠ none → (Y k ≠ none ∧ tq' k = tq k ∧ ta' k = ta k) ∨ (kd S (tq' k) = 0 ∧ kd S (ta' k) = 0)) → (∀ Q2 : Int32 → FI → (Nat → Nat → Int64) → Prop, (∀ F' J', Kp tY m am (gI S1) F' → F' m 2 = gI S1 x 0 → (∀ a, a ≠ am 7 → J' a = gJ S1 a) → TrX (wA S1 F' J' (gR S1)) x tr tq' ta' am Y' → Q2 v F' J') → P_X12_tray m p0 p1 p2 S1 Q2) → Q v S1) : P_X11_tray x p0 p1 p2 S c d Q := by
  have mtr : m ≠ tr := fun e => by have := h.L.z; rw [e, hY.2.1] at this; cases this
  have xtr : x ≠ tr := fun e => by have := h.x; rw [e, hY.2.1] at this; cases this
  have tra : ∀ f, mk f ≠ 0 → mk f ≠ 26 → am f ≠ tr := fun f hf h26 e => by have := h.L.k f hf; rw [e, hY.2.1] at this; exact h26 this.symm
  refine ⟨h.x, gate_tray gt_4 (fun hb => ⟨h.x, fun F e => ⟨Or.inl rfl, ?_⟩⟩) (fun hg => ?_)⟩
  · subst e
    refine hq _ (wI S (upI (gI S) x 0 1)) tq ta Y (Fr.on On.up (Or.inl rfl)) Xk.st hD (fun k _ hk => Or.inl ⟨hk, rfl, rfl⟩) (fun Q2 h2 => ⟨h.L.z, gate_tray gt_3 (fun _ => ⟨h.L.z, fun F e => ⟨fun _ => ⟨Or.inl rfl, ?_⟩, fun c => absurd c one0⟩⟩) (fun g => absurd g hb)⟩)
    have e' : F = upI (upI (gI S) x 0 1) m 2 1 := e
    refine h2 F _ (by rw [e']; exact Kp.fd 2) (by rw [e', up_at]; exact up_at.symm) (fun _ _ => rfl) (TrX.same h hY e')
  · obtain ⟨i, s, n, hi, hs, hn, rfl, rfl, rfl⟩ := hg.get
    refine ⟨tr, hY.1, by omega, by omega, fun q hq0 S10 e10 => ⟨c - 1, d - 2, Nat.le_refl _, Nat.le_refl _, ?_⟩⟩
    subst e10
    have q10 : kd (alo S q 10 0) q = 10 := kd_alo
    refine ⟨q10, fun F1 e1 => ?_⟩
    rw [nI_clamp (show n < 2 ^ 31 by omega), nI_clamp (show i < 2 ^ 31 by omega)]
    refine ⟨nI_pos (by omega), by omega, by omega, by omega, fun q2 hq2 S2 e2 => ?_⟩
    have q2q : q2 ≠ q := fun e => by rw [e, q10] at hq2; cases hq2
    have hq20 : kd S q2 = 0 := by rw [kd_alon q2q] at hq2; exact hq2
    subst e2
    have live : ∀ a, kd S a ≠ 0 → a ≠ q ∧ a ≠ q2 := fun a ha => ⟨fun e => ha (by rw [e]; exact hq0), fun e => ha (by rw [e]; exact hq20)⟩
    have KK : ∀ a, a ≠ q → a ≠ q2 → kd (alo (wI (alo S q 10 0) F1) q2 22 n) a = kd S a := fun a h1 h2 => by
      rw [kd_alon h2]; show kd (alo S q 10 0) a = _; rw [kd_alon h1]
    have LL : ∀ a, a ≠ q → a ≠ q2 → ln (alo (wI (alo S q 10 0) F1) q2 22 n) a = ln S a := fun a h1 h2 => by
      rw [ln_alon h2]; show ln (alo S q 10 0) a = _; rw [ln_alon h1]
    have II : ∀ a, a ≠ q → a ≠ q2 → gI (alo (wI (alo S q 10 0) F1) q2 22 n) a = gI S a := fun a h1 h2 => by
      rw [gI_alon h2]; show F1 a = _; rw [e1, up_ne h1, gI_alon h1]
    have JJ : ∀ a, a ≠ q → a ≠ q2 → gJ (alo (wI (alo S q 10 0) F1) q2 22 n) a = gJ S a := fun a h1 h2 => by
      rw [gJ_alon h2]; show gJ (alo S q 10 0) a = _; rw [gJ_alon h1]
    have RR : ∀ a, a ≠ q → a ≠ q2 → gR (alo (wI (alo S q 10 0) F1) q2 22 n) a = gR S a := fun a h1 h2 => by
      rw [gR_alon h2]; show gR (alo S q 10 0) a = _; rw [gR_alon h1]
    have kq : kd (alo (wI (alo S q 10 0) F1) q2 22 n) q = 10 := by rw [kd_alon (Ne.symm q2q)]; exact q10
    have kq2 : kd (alo (wI (alo S q 10 0) F1) q2 22 n) q2 = 22 := kd_alo
    have lq2 : ln (alo (wI (alo S q 10 0) F1) q2 22 n) q2 = n := ln_alo
    have iq : gI (alo (wI (alo S q 10 0) F1) q2 22 n) q 0 = nI s := by
      rw [gI_alon (Ne.symm q2q)]; show F1 q 0 = _; rw [e1, up_at]
    have jq2 : ∀ k, gJ (alo (wI (alo S q 10 0) F1) q2 22 n) q2 k = 0 := fun k => by rw [gJ_alo]
    obtain ⟨A, hA⟩ : ∃ A, A = alo (wI (alo S q 10 0) F1) q2 22 n := ⟨_, rfl⟩
    rw [← hA] at KK LL II JJ RR kq kq2 lq2 iq jq2 ⊢
    have xl := live x (by rw [h.x]; decide)
    have tl := live tr (by rw [hY.2.1]; decide)
    refine ⟨kq, fun R8 e8 => ⟨by show kd A tr = 26; rw [KK tr tl.1 tl.2]; exact hY.2.1, by show vp_in (nI i) (ln A tr); rw [LL tr tl.1 tl.2, hY.2.2.1]; exact vp_in_nI hi (by decide), kq, fun R18 e18 => ⟨by show kd A x = 11; rw [KK x xl.1 xl.2]; exact h.x, ⟨by show kd A x = 11; rw [KK x xl.1 xl.2]; exact h.x, fun F20 e20 => ⟨Or.inr rfl, ?_⟩⟩⟩⟩⟩
    have e18' : R18 = upR (upR (gR A) q 1 (some q2)) tr i (some q) := by rw [e18, e8]; rfl
    have e20' : F20 = upI (gI A) x 0 0 := e20
    have eS : wA (wA A (gI A) (gJ A) R8) F20 (gJ (wA A (gI A) (gJ A) R8)) R18 = wA A F20 (gJ A) R18 := rfl
    rw [eS]
    obtain ⟨S1, hS1⟩ : ∃ S1, S1 = wA A F20 (gJ A) R18 := ⟨_, rfl⟩
    rw [← hS1]
    have k1 : ∀ a, kd S1 a = kd A a := fun a => by rw [hS1]; rfl
    have l1 : ∀ a, ln S1 a = ln A a := fun a => by rw [hS1]; rfl
    have i1 : ∀ a, a ≠ x → gI S1 a = gI A a := fun a ha => by rw [hS1]; show F20 a = _; rw [e20', up_ne ha]
    have j1 : ∀ a, gJ S1 a = gJ A a := fun a => by rw [hS1]; rfl
    have r1 : ∀ a, a ≠ tr → a ≠ q → gR S1 a = gR A a := fun a h1 h2 => by rw [hS1]; show R18 a = _; rw [e18', upR_ne h1, upR_ne h2]
    have fr : Fr (fun e => e = x ∨ e = tr) S S1 := fun a ha => by
      obtain ⟨y1, y2⟩ := live a ha
      refine ⟨by rw [k1, KK a y1 y2], by rw [l1, LL a y1 y2], fun hw => ⟨?_, ?_, ?_⟩⟩
      · rw [i1 a (fun e => hw (Or.inl e)), II a y1 y2]
      · rw [j1, JJ a y1 y2]
      · rw [r1 a (fun e => hw (Or.inr e)) y1, RR a y1 y2]
    have xk : Xk S S1 x := by
      refine ⟨by rw [j1, JJ x xl.1 xl.2], by rw [r1 x xtr xl.1, RR x xl.1 xl.2], fun j hj => ?_⟩
      rw [hS1]; show F20 x j = _
      rw [e20', up_no hj, II x xl.1 xl.2]
    have trr : ∀ k, gR S1 tr k = if k = i then some q else gR S tr k := fun k => by
      rw [hS1]; show R18 tr k = _
      rw [e18']
      by_cases ck : k = i
      · rw [ck, upR_at, if_pos rfl]
      · rw [upR_no ck, if_neg ck, upR_ne tl.1, RR tr tl.1 tl.2]
    have rq : gR S1 q 1 = some q2 := by
      rw [hS1]; show R18 q 1 = _
      rw [e18', upR_ne (Ne.symm tl.1), upR_at]
    have L1 : LM S1 m am := h.L.fr fr (fun e => e.elim (x_m h.x h.L) mtr)
    have aml : ∀ f, mk f ≠ 0 → am f ≠ q ∧ am f ≠ q2 := fun f hf => live _ (by rw [h.L.k f hf]; exact hf)
    have amx : ∀ f, mk f ≠ 0 → am f ≠ x := fun f hf => x_am h.x h.L f hf
    have x0 : gI S1 x 0 = 0 := by rw [hS1]; show F20 x 0 = _; rw [e20', up_at]
    have nx : ∀ k, k < 4 → Y k ≠ none → (tq k ≠ q ∧ tq k ≠ q2 ∧ tq k ≠ x ∧ tq k ≠ tr) ∧ ta k ≠ q ∧ ta k ≠ q2 := fun k hk hy => by
      obtain ⟨y1, y2⟩ := (hY.2.2.2 k hk).k hy
      have z1 := live (tq k) (by rw [y1]; decide)
      have z2 := live (ta k) (by rw [y2]; decide)
      refine ⟨⟨z1.1, z1.2, fun e => ?_, fun e => ?_⟩, z2⟩
      · rw [e, h.x] at y1; cases y1
      · rw [e, hY.2.1] at y1; cases y1
    refine hq _ S1 (fun k => if k = i then q else tq k) (fun k => if k = i then q2 else ta k) (fun k => if k = i then some (s, n, fun _ => 0) else Y k) fr xk ⟨fun j k hj hk hjk y1 y2 => ?_, fun j f hj y1 hf => ?_⟩ (fun k hk hy => ?_) (fun Q2 h2 => ⟨L1.z, gate_tray gt_3 (fun g => absurd hg g) (fun _ => ?_)⟩)
    · show (if j = i then q2 else ta j) ≠ (if k = i then q2 else ta k)
      by_cases c1 : j = i
      · rw [if_pos c1, if_neg (by omega)]
        have y2' : Y k ≠ none := fun e => y2 (by show (if k = i then _ else Y k) = none; rw [if_neg (by omega)]; exact e)
        exact Ne.symm (nx k hk y2').2.2
      · have y1' : Y j ≠ none := fun e => y1 (by show (if j = i then _ else Y j) = none; rw [if_neg c1]; exact e)
        rw [if_neg c1]
        by_cases c2 : k = i
        · rw [if_pos c2]; exact (nx j hj y1').2.2
        · rw [if_neg c2]
          have y2' : Y k ≠ none := fun e => y2 (by show (if k = i then _ else Y k) = none; rw [if_neg c2]; exact e)
          exact hD.1 j k hj hk hjk y1' y2'
    · show (if j = i then q2 else ta j) ≠ am f
      by_cases c1 : j = i
      · rw [if_pos c1]; exact Ne.symm (aml f hf).2
      · rw [if_neg c1]
        have y1' : Y j ≠ none := fun e => y1 (by show (if j = i then _ else Y j) = none; rw [if_neg c1]; exact e)
        exact hD.2 j f hj y1' hf
    · show _ ∨ (kd S (if k = i then q else tq k) = 0 ∧ kd S (if k = i then q2 else ta k) = 0)
      by_cases c1 : k = i
      · right; rw [if_pos c1, if_pos c1]; exact ⟨hq0, hq20⟩
      · left
        have y1' : Y k ≠ none := fun e => hy (by show (if k = i then _ else Y k) = none; rw [if_neg c1]; exact e)
        exact ⟨y1', if_neg c1, if_neg c1⟩
    · refine ⟨am 5, L1.r 5, L1.k 5, L1.i 5 (by show i < 4; omega), fun F12 e12 => ⟨am 6, L1.r 6, L1.k 6, L1.i 6 (by show i < 4; omega), fun F16 e16 => ?_⟩⟩
      rw [nI_clamp (by omega)] at e12 e16
      refine ⟨fun t x4 J => ∃ k, k ≤ n ∧ t = n - k ∧ x4 = nI k ∧ (∀ a, a ≠ am 7 → J a = gJ S1 a) ∧ ∀ z, J (am 7) z = if 60 * i ≤ z ∧ z < 60 * i + k then 0 else gJ S1 (am 7) z, ⟨n, 0, by omega, rfl, rfl, fun _ _ => rfl, fun z => by rw [if_neg (by omega)]⟩, ?_⟩
      rintro t x4 J ⟨k, hk, rfl, rfl, ja, jz⟩
      refine ⟨fun hck => ?_, fun hck => ?_⟩
      · have e : k = n := by
          have : n ≤ k := (nI_leI (by omega) (by omega)).mp hck
          omega
        subst e
        refine ⟨L1.z, fun F21 e21 => ⟨fun c => absurd rfl c, fun _ => ⟨Or.inr rfl, ?_⟩⟩⟩
        have e21' : F21 = upI F16 m 2 0 := e21
        have kp : Kp tY m am (gI S1) F21 := by rw [e21', e16, e12]; exact ((Kp.on L1 5 On.up).tr (Kp.on L1 6 On.up)).tr (Kp.fd 2)
        have f5 : ∀ z, F21 (am 5) z = if z = i then nI s else gI S (am 5) z := fun z => by
          rw [e21', up_ne (L1.o 5), e16, up_ne (L1.n (by decide)), e12]
          by_cases cz : z = i
          · rw [cz, up_at, if_pos rfl]
          · rw [up_no cz, if_neg cz, i1 _ (amx 5 (by decide)), II _ (aml 5 (by decide)).1 (aml 5 (by decide)).2]
        have f6 : ∀ z, F21 (am 6) z = if z = i then nI k else gI S (am 6) z := fun z => by
          rw [e21', up_ne (L1.o 6), e16]
          by_cases cz : z = i
          · rw [cz, up_at, if_pos rfl]
          · rw [up_no cz, if_neg cz, e12, up_ne (L1.n (by decide)), i1 _ (amx 6 (by decide)), II _ (aml 6 (by decide)).1 (aml 6 (by decide)).2]
        have fo : ∀ a, a ≠ x → a ≠ m → a ≠ am 5 → a ≠ am 6 → F21 a = gI A a := fun a h1 h2 h3 h4 => by
          rw [e21', up_ne h2, e16, up_ne h4, e12, up_ne h3, i1 a h1]
        have no56 : ∀ a, kd A a = 10 → a ≠ x ∧ a ≠ m ∧ a ≠ am 5 ∧ a ≠ am 6 := fun a ha => by
          have kx : kd A x = 11 := by rw [KK x xl.1 xl.2]; exact h.x
          refine ⟨fun e => ?_, fun e => ?_, fun e => ?_, fun e => ?_⟩
          · rw [e, kx] at ha; cases ha
          · have := L1.z; rw [k1] at this; rw [e, this] at ha; cases ha
          · have := L1.k 5; rw [k1] at this; rw [e, this] at ha; exact absurd ha (by decide)
          · have := L1.k 6; rw [k1] at this; rw [e, this] at ha; exact absurd ha (by decide)
        refine h2 F21 J kp (by rw [e21', up_at, x0]) ja ⟨by show gR S1 x 3 = _; rw [xk.2.1]; exact hY.1, by show kd S1 tr = 26; rw [k1, KK tr tl.1 tl.2]; exact hY.2.1, by show ln S1 tr = 4; rw [l1, LL tr tl.1 tl.2]; exact hY.2.2.1, fun z hz => ?_⟩
        show TrO (wA S1 F21 J (gR S1)) tr (if z = i then q else tq z) (if z = i then q2 else ta z) am z (if z = i then some (s, k, fun _ => 0) else Y z)
        by_cases cz : z = i
        · subst cz
          rw [if_pos rfl, if_pos rfl, if_pos rfl]
          obtain ⟨n1, n2, n3, n4⟩ := no56 q kq
          refine ⟨hs, by omega, ?_, ?_, ?_, rq, ?_, ?_, ?_, ?_, fun z' hz' => ⟨?_, ?_⟩⟩
          · show gR S1 tr z = some q
            rw [trr, if_pos rfl]
          · show kd S1 q = 10
            rw [k1]; exact kq
          · show F21 q 0 = nI s
            rw [fo q n1 n2 n3 n4]; exact iq
          · show kd S1 q2 = 22
            rw [k1]; exact kq2
          · show ln S1 q2 = k
            rw [l1]; exact lq2
          · show F21 (am 5) z = nI s
            rw [f5, if_pos rfl]
          · show F21 (am 6) z = nI k
            rw [f6, if_pos rfl]
          · show J q2 z' = 0
            rw [ja q2 (Ne.symm (aml 7 (by decide)).2), j1]; exact jq2 z'
          · show J (am 7) (60 * z + z') = 0
            rw [jz, if_pos (by omega)]
        · rw [if_neg cz, if_neg cz, if_neg cz]
          refine (hY.2.2.2 z hz).cg ?_ ?_ ?_ (fun hne => ?_) (fun z' hz' => ?_)
          · show gR S1 tr z = _
            rw [trr, if_neg cz]
          · show F21 (am 5) z = _
            rw [f5, if_neg cz]
          · show F21 (am 6) z = _
            rw [f6, if_neg cz]
          · obtain ⟨⟨y1, y2, y3, y4⟩, y5, y6⟩ := nx z hz hne
            obtain ⟨kz, kz2⟩ := (hY.2.2.2 z hz).k hne
            obtain ⟨n1, n2, n3, n4⟩ := no56 (tq z) (by rw [KK _ y1 y2]; exact kz)
            refine ⟨by show kd S1 (tq z) = _; rw [k1, KK _ y1 y2], by show F21 (tq z) 0 = _; rw [fo _ n1 n2 n3 n4, II _ y1 y2], by show gR S1 (tq z) 1 = _; rw [r1 _ y4 y1, RR _ y1 y2], by show kd S1 (ta z) = _; rw [k1, KK _ y5 y6], by show ln S1 (ta z) = _; rw [l1, LL _ y5 y6], fun z' => ?_⟩
            show J (ta z) z' = _
            rw [ja _ (hD.2 z 7 hz hne (by decide)), j1, JJ _ y5 y6]
          · show J (am 7) (60 * z + z') = _
            rw [jz, if_neg (by omega), j1, JJ _ (aml 7 (by decide)).1 (aml 7 (by decide)).2]
      · have hlt := nI_gtI (by omega) (by omega) hck
        rw [ix60]
        refine ⟨am 7, L1.r 7, L1.k 7, L1.i 7 (by show 60 * i + k < 240; omega), fun J2 e2 w ew => ?_⟩
        rw [nI_clamp (by omega)] at e2
        refine ⟨n - (k + 1), by omega, k + 1, by omega, rfl, by rw [ew]; exact nI_1 k, fun a ha => by rw [e2, upJ_ne ha]; exact ja a ha, fun z => ?_⟩
        rw [e2]
        by_cases cz : z = 60 * i + k
        · rw [cz, upJ_at, if_pos (by omega)]
        · rw [upJ_no cz, jz]
          by_cases cr : 60 * i ≤ z ∧ z < 60 * i + k
          · rw [if_pos cr, if_pos (by omega)]
          · rw [if_neg cr, if_neg (by omega)]
end TM2
