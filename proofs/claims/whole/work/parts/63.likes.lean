/-! Rows that come again. -/
def lk (key : Nat → Nat) (k : Nat) : Bool := decide (1 ≤ k) && decide (0 < fb_ct (fun j => decide (1 ≤ j) && decide (key j = key k)) k)
theorem lk_iff (key : Nat → Nat) (k : Nat) : lk key k = true ↔ 1 ≤ k ∧ ∃ j, 1 ≤ j ∧ j < k ∧ key j = key k := by
  unfold lk
  rw [Bool.and_eq_true, decide_eq_true_iff, decide_eq_true_iff, fb_ct_pos]
  refine ⟨fun ⟨h1, j, h2, h3⟩ => ?_, fun ⟨h1, j, h2, h3, h4⟩ => ⟨h1, j, h3, by rw [decide_eq_true h2, decide_eq_true h4]; rfl⟩⟩
  rw [Bool.and_eq_true, decide_eq_true_iff, decide_eq_true_iff] at h3
  exact ⟨h1, j, h3.1, h2, h3.2⟩
theorem beg_fr {S S3 : St} {s a a' len len' : Nat} (fr3 : Fr (fun e => e = s) S S3) (hc3 : (a' = a ∧ len' = len) ∨ gz S a' len len') : ∀ F, On a' (gI S3) F → Fr (fun e => e = s ∨ e = a) S (wI S3 F) := fun F o e he => by
  obtain ⟨k, l, g⟩ := fr3 e he
  refine ⟨k, l, fun hw => ?_⟩
  obtain ⟨x, y, z⟩ := g (fun c => hw (Or.inl c))
  have hne : e ≠ a' := fun c => by
    rcases hc3 with ⟨y1, -⟩ | y0
    · exact hw (Or.inr (c.trans y1))
    · rw [c] at he; exact he y0.1
  exact ⟨(o e hne).trans x, y, z⟩
theorem beg_im {S : St} {im : Nat → Prop} {s a a' len len' : Nat} (him : ∀ e, im e → kd S e ≠ 0 ∧ e ≠ s ∧ e ≠ a) (hc3 : (a' = a ∧ len' = len) ∨ gz S a' len len') : ∀ e, im e → e ≠ a' := fun e he c => by
  obtain ⟨x1, x2, x3⟩ := him e he
  rcases hc3 with ⟨y1, -⟩ | y
  · exact x3 (c.trans y1)
  · rw [c] at x1; exact x1 y.1
section LK
variable {T : Tc} {n t s a len p c d : Nat} {im : Nat → Prop} {S : St} {Q : Int32 → St → Prop}
theorem sp_secondAlike (h : TX T n im S t) (ht : tok n T) (hn : n ≤ 8) (hS : SX S s a len p) (hp : p + 1 < 2 ^ 31) (him : ∀ e, im e → kd S e ≠ 0 ∧ e ≠ s ∧ e ≠ a) (hbd : fac n ≤ len ∨ (1 ≤ c ∧ fac n ≤ d))
    (hq : ∀ S' a' len' p' r, Fr (fun e => e = s ∨ e = a) S S' → ((a' = a ∧ len' = len) ∨ gz S a' len len') → SX S' s a' len' p' → fac n ≤ len' → p' ≤ p + 1 → ((∃ k, k ≤ tN T ∧ r = nI k ∧ lk (fun k => num n (trw T k)) k = true ∧ ∀ j, j < k → ¬ lk (fun k => num n (trw T k)) j = true) ∨ (r = -1 ∧ ∀ k, k ≤ tN T → ¬ lk (fun k => num n (trw T k)) k = true)) → Q r S') : P_X8_secondAlike t s S c d Q := by
  have hN := ht.1
  have hfac := fac_8 n (by omega)
  refine ⟨h.2.1, ?_⟩
  rw [h.2.2.1]
  refine sp_many hn ⟨hS.1, c, d, Nat.le_refl _, Nat.le_refl _, sp_begin hS hp hn hbd (fun S3 a' len' p' fr3 hc3 z3 hl3 hp3 => ?_)⟩
  have W3 := beg_fr (S3 := S3) fr3 hc3
  have ia' := beg_im him hc3
  have tx3 := h.sm (fr3.sim (fun e he => ⟨(him e he).1, (him e he).2.1⟩))
  obtain ⟨i1, h2, h3, -, -, a9, r9, i9, k9, l9, g9⟩ := tx3
  have tne : t ≠ a' := ia' t i1
  have ane : a9 ≠ a' := ia' a9 i9
  obtain ⟨key, hkey⟩ : ∃ key : Nat → Nat, key = fun k => num n (trw T k) := ⟨_, rfl⟩
  rw [← hkey] at hq
  refine ⟨fun u x2 F => ∃ k Z, 1 ≤ k ∧ k ≤ tN T + 1 ∧ u = tN T + 1 - k ∧ x2 = nI k ∧ On a' (gI S3) F ∧ SZ (wI S3 F) s a' len' p' Z ∧ (∀ r, r < fac n → (Z r = true ↔ ∃ j, 1 ≤ j ∧ j < k ∧ key j = r)) ∧ ∀ j, j < k → ¬ lk key j = true, ⟨tN T, 1, fun _ => false, by omega, by omega, rfl, rfl, On.rf, z3, fun r hr => ⟨fun c => Bool.noConfusion c, fun ⟨j, h1, h2, _⟩ => by omega⟩, fun j hj c => by have := (lk_iff key j).mp c; omega⟩, ?_⟩
  rintro u x2 F ⟨k, Z, hk1, hk2, rfl, rfl, oF, zF, hz, hno⟩
  refine ⟨h2, a9, r9, k9, ?_⟩
  rw [l9]
  refine ⟨fun hc => ?_, fun hc => ?_⟩
  · have : tN T + 1 ≤ k := (nI_leI (by omega) (by omega)).mp hc
    exact hq _ a' len' p' _ (W3 F oF) hc3 zF.x hl3 hp3 (Or.inr ⟨rfl, fun j hj => hno j (by omega)⟩)
  · have hlt := nI_gtI (by omega) (by omega) hc
    have pk := trw_pm ht k (by omega)
    have hkl := num_lt pk
    refine ⟨vp_in_nI (by omega) (by omega), ?_⟩
    rw [nI_clamp (by omega), oF a9 ane, g9 k (by omega), oF t tne, h3]
    refine sp_rank hn pk ⟨zF.1, ?_⟩
    have ek : num n (trw T k) = key k := by rw [hkey]
    rw [ek] at hkl ⊢
    refine sp_add (r := key k) zF (by omega) (fun hZ => ⟨fun c => absurd rfl c, fun _ => hq _ a' len' p' _ (W3 F oF) hc3 zF.x hl3 hp3 (Or.inl ⟨k, by omega, rfl, (lk_iff key k).mpr ⟨hk1, (hz _ hkl).mp hZ⟩, hno⟩)⟩) (fun hZ F2 e2 z2 => ⟨fun _ w ew => ⟨tN T + 1 - (k + 1), by omega, k + 1, _, by omega, by omega, rfl, by rw [ew]; exact nI_1 k, by rw [e2]; exact oF.tr On.up, z2, fun r hr => ?_, fun j hj c => ?_⟩, fun c => absurd c one0⟩)
    · rw [Bool.or_eq_true, decide_eq_true_iff, hz r hr]
      refine ⟨fun e => e.elim (fun ⟨j, y1, y2, y3⟩ => ⟨j, y1, by omega, y3⟩) (fun e => ⟨k, hk1, by omega, e.symm⟩), fun ⟨j, y1, y2, y3⟩ => ?_⟩
      by_cases c : j = k
      · subst c; exact Or.inr y3.symm
      · exact Or.inl ⟨j, y1, by omega, y3⟩
    · by_cases c2 : j = k
      · subst c2
        have := (hz _ hkl).mpr ((lk_iff key j).mp c).2
        rw [hZ] at this
        cases this
      · exact hno j (by omega) c
theorem sp_alike {g : Nat → Nat → Nat} {p1 : Int32} (h : TX T n im S t) (ht : tok n T) (hn : n ≤ 8) (hS : SX S s a len p) (hp : p + 1 < 2 ^ 31) (him : ∀ e, im e → kd S e ≠ 0 ∧ e ≠ s ∧ e ≠ a) (hbd : fac n ≤ len ∨ (1 ≤ c ∧ fac n ≤ d))
    (hg : ∀ k, 1 ≤ k → k ≤ tN T → Pm n (g k)) (hg0 : p1 = 0 → ∀ k, 1 ≤ k → k ≤ tN T → nI (pak (trw T k) n) = nI (pak (g k) n)) (hg1 : ¬ p1 = 0 → ∀ k, 1 ≤ k → k ≤ tN T → ∀ (S2 : St) (Q2 : Int32 → Prop), kd S2 t = 8 → gI S2 t 0 = nI n → Q2 (nI (pak (g k) n)) → P_X8_silentLast t (nI (pak (trw T k) n)) p1 S2 Q2)
    (hq : ∀ S' a' len' p', Fr (fun e => e = s ∨ e = a) S S' → ((a' = a ∧ len' = len) ∨ gz S a' len len') → SX S' s a' len' p' → fac n ≤ len' → p' ≤ p + 1 → Q (nI (fb_ct (lk (fun k => num n (g k))) (tN T + 1))) S') : P_X8_alike t s p1 S c d Q := by
  have hN := ht.1
  have hfac := fac_8 n (by omega)
  refine ⟨h.2.1, ?_⟩
  rw [h.2.2.1]
  refine sp_many hn ⟨hS.1, c, d, Nat.le_refl _, Nat.le_refl _, sp_begin hS hp hn hbd (fun S3 a' len' p' fr3 hc3 z3 hl3 hp3 => ?_)⟩
  have W3 := beg_fr (S3 := S3) fr3 hc3
  have ia' := beg_im him hc3
  have tx3 := h.sm (fr3.sim (fun e he => ⟨(him e he).1, (him e he).2.1⟩))
  obtain ⟨i1, h2, h3, -, -, a9, r9, i9, k9, l9, g9⟩ := tx3
  have tne : t ≠ a' := ia' t i1
  have ane : a9 ≠ a' := ia' a9 i9
  obtain ⟨key, hkey⟩ : ∃ key : Nat → Nat, key = fun k => num n (g k) := ⟨_, rfl⟩
  rw [← hkey] at hq
  refine ⟨fun u x3 x4 F => ∃ k Z, 1 ≤ k ∧ k ≤ tN T + 1 ∧ u = tN T + 1 - k ∧ x3 = nI (fb_ct (lk key) k) ∧ x4 = nI k ∧ On a' (gI S3) F ∧ SZ (wI S3 F) s a' len' p' Z ∧ (∀ r, r < fac n → (Z r = true ↔ ∃ j, 1 ≤ j ∧ j < k ∧ key j = r)), ⟨tN T, 1, fun _ => false, by omega, by omega, rfl, by rw [ct_from1 rfl]; rfl, rfl, On.rf, z3, fun r hr => ⟨fun c => Bool.noConfusion c, fun ⟨j, h1, h2, _⟩ => by omega⟩⟩, ?_⟩
  rintro u x3 x4 F ⟨k, Z, hk1, hk2, rfl, rfl, rfl, oF, zF, hz⟩
  refine ⟨h2, a9, r9, k9, ?_⟩
  rw [l9]
  refine ⟨fun hc => ?_, fun hc => ?_⟩
  · have : tN T + 1 ≤ k := (nI_leI (by omega) (by omega)).mp hc
    have e : k = tN T + 1 := by omega
    subst e
    exact hq _ a' len' p' (W3 F oF) hc3 zF.x hl3 hp3
  · have hlt := nI_gtI (by omega) (by omega) hc
    have pk := hg k hk1 (by omega)
    have hkl := num_lt pk
    refine ⟨fun v => v = nI (pak (g k) n), ?_, fun hne => ⟨vp_in_nI (by omega) (by omega), ?_⟩, fun h0 => ⟨vp_in_nI (by omega) (by omega), ?_⟩⟩
    · rintro _ rfl
      rw [oF t tne, h3]
      refine sp_rank hn pk ⟨zF.1, ?_⟩
      have ek : num n (g k) = key k := by rw [hkey]
      rw [ek] at hkl ⊢
      refine sp_add (r := key k) zF (by omega) (fun hZ => ⟨fun c => absurd rfl c, fun _ w1 e1 w2 e2 => ⟨tN T + 1 - (k + 1), by omega, k + 1, Z, by omega, by omega, rfl, e1.trans (ct_yes ((lk_iff key k).mpr ⟨hk1, (hz _ hkl).mp hZ⟩)), by rw [e2]; exact nI_1 k, oF, zF, fun r hr => ?_⟩⟩) (fun hZ F2 e2 z2 => ⟨fun _ w ew => ⟨tN T + 1 - (k + 1), by omega, k + 1, _, by omega, by omega, rfl, ct_no (fun c => ?_), by rw [ew]; exact nI_1 k, by rw [e2]; exact oF.tr On.up, z2, fun r hr => ?_⟩, fun c => absurd c one0⟩)
      · rw [hz r hr]
        refine ⟨fun ⟨j, y1, y2, y3⟩ => ⟨j, y1, by omega, y3⟩, fun ⟨j, y1, y2, y3⟩ => ?_⟩
        by_cases c : j = k
        · subst c
          rw [← y3]
          exact (hz _ hkl).mp hZ
        · exact ⟨j, y1, by omega, y3⟩
      · have := (hz _ hkl).mpr ((lk_iff key k).mp c).2
        rw [hZ] at this
        cases this
      · rw [Bool.or_eq_true, decide_eq_true_iff, hz r hr]
        refine ⟨fun e => e.elim (fun ⟨j, y1, y2, y3⟩ => ⟨j, y1, by omega, y3⟩) (fun e => ⟨k, hk1, by omega, e.symm⟩), fun ⟨j, y1, y2, y3⟩ => ?_⟩
        by_cases c : j = k
        · subst c; exact Or.inr y3.symm
        · exact Or.inl ⟨j, y1, by omega, y3⟩
    · rw [nI_clamp (by omega), oF a9 ane, g9 k (by omega)]
      exact hg1 hne k hk1 (by omega) _ _ h2 (by show F t 0 = nI n; rw [oF t tne]; exact h3) rfl
    · rw [nI_clamp (by omega), oF a9 ane, g9 k (by omega)]
      exact hg0 h0 k hk1 (by omega)
end LK
/-! The reference's search for rows alike. -/
def Ff (key : Nat → Nat) (k j : Nat) : Prop := 1 ≤ j ∧ j < k ∧ key j = key k ∧ ∀ j', 1 ≤ j' → j' < j → key j' ≠ key k
def Sec (key : Nat → Nat) (N : Nat) (F : FI) (m : Nat) : Prop := ((∀ k, k < N → ¬ lk key k = true) ∧ F m 35 = -1 ∧ F m 34 = -1) ∨ ∃ k j, k < N ∧ lk key k = true ∧ (∀ i, i < k → ¬ lk key i = true) ∧ F m 35 = nI k ∧ Ff key k j ∧ F m 34 = nI j
theorem sm_findsLikes {S : St} {m n q : Nat} {T : Tc} {am : Nat → Nat} {Q : FI → Prop} (hL : LM S m am) (hn : n ≤ 8) (ht : tok n T) (hT : TM T n (gI S (am 0))) (hM : SM (gI S) m am q) (hq0 : q + 2003 < 2 ^ 31)
    (hq : ∀ F', Kp tZ m am (gI S) F' → SM F' m am (q + 2002) → F' m 36 = nI (fb_ct (lk (fun k => num n (trw T k))) (tN T + 1)) → Sec (fun k => num n (trw T k)) (tN T + 1) F' m → Q F') : P_X12_findsLikes m S Q := by
  have hN := ht.1
  have hfac := fac_8 n (by omega)
  obtain ⟨key, hkey⟩ : ∃ key : Nat → Nat, key = fun k => num n (trw T k) := ⟨_, rfl⟩
  rw [← hkey] at hq
  have klt : ∀ k, k ≤ tN T → key k < 40320 := fun k hk => by
    rw [hkey]
    have := num_lt (trw_pm ht k hk)
    show num n (trw T k) < 40320
    omega
  refine ⟨hL.z, fun v1 e1 F2 e2 F3 e3 F4 e4 => ?_⟩
  rw [hM.1, nI_1] at e1
  subst e1
  have k4 : Kp tZ m am (gI S) F4 := by rw [e4, e3, e2]; exact ((Kp.fd 34).tr (Kp.fd 35)).tr (Kp.fd 36)
  have o4 : On m (gI S) F4 := by rw [e4, e3, e2]; exact (On.up.tr On.up).tr On.up
  refine ⟨fun u x2 F => ∃ k, 1 ≤ k ∧ k ≤ tN T + 1 ∧ u = tN T + 1 - k ∧ x2 = nI k ∧ Kp tZ m am (gI S) F ∧ F m 36 = nI (fb_ct (lk key) k) ∧ Sec key k F m ∧ ∀ r, r < 40320 → (∃ v, v ≤ q ∧ F (am 28) r = nI v ∧ ∀ j, 1 ≤ j → j < k → key j ≠ r) ∨ (∃ j, 1 ≤ j ∧ j < k ∧ key j = r ∧ (∀ j', 1 ≤ j' → j' < j → key j' ≠ r) ∧ F (am 28) r = nI (q + 1 + j)), ⟨tN T, 1, by omega, by omega, rfl, rfl, k4, ?_, Or.inl ⟨fun k hk c => ?_, ?_, ?_⟩, fun r hr => ?_⟩, ?_⟩
  · rw [e4, up_at, ct_from1 rfl]; rfl
  · have := (lk_iff key k).mp c
    omega
  · rw [e4, up_no (by decide), e3, up_at]
  · rw [e4, up_no (by decide), e3, up_no (by decide), e2, up_at]
  · obtain ⟨v, hv, e⟩ := hM.2 r hr
    exact Or.inl ⟨v, hv, by rw [o4 _ (hL.o 28)]; exact e, fun j h1 h2 => by omega⟩
  rintro u x2 F ⟨k, hk1, hk2, rfl, rfl, kk, h36, hsec, hst⟩
  have T2 : TM T n (F (am 0)) := hT.kp hL kk
  refine ⟨am 0, hL.r 0, hL.k 0, hL.i 0 (p := 6) (by decide), ?_⟩
  rw [T2.1]
  refine ⟨fun hc w1 e1 F5 e5 => ?_, fun hc => ?_⟩
  · have e : tN T + 1 = k := by
      rcases Nat.lt_or_ge (tN T) k with c | c
      · omega
      · exact absurd hc (nI_nlt c (by omega))
    subst e
    have e1' : w1 = nI (q + 2002) := by
      rw [e1]
      show nI (q + 1) + nI 2000 + 1 = _
      rw [nI_add, nI_1]
    subst e1'
    refine hq F5 (by rw [e5]; exact kk.tr (Kp.fd 29)) ⟨by rw [e5]; exact up_at, fun r hr => ?_⟩ (by rw [e5, up_no (by decide)]; exact h36) ?_
    · rw [e5, up_ne (hL.o 28)]
      rcases hst r hr with ⟨v, hv, e, -⟩ | ⟨j, -, hj, -, -, e⟩
      · exact ⟨v, by omega, e⟩
      · exact ⟨q + 1 + j, by omega, e⟩
    · rcases hsec with ⟨y1, y2, y3⟩ | ⟨k', j', y1, y2, y3, y4, y5, y6⟩
      · exact Or.inl ⟨y1, by rw [e5, up_no (by decide)]; exact y2, by rw [e5, up_no (by decide)]; exact y3⟩
      · exact Or.inr ⟨k', j', y1, y2, y3, by rw [e5, up_no (by decide)]; exact y4, y5, by rw [e5, up_no (by decide)]; exact y6⟩
  · have hle : k ≤ tN T := by
      rcases Nat.lt_or_ge (tN T) k with c | c
      · exact absurd (nI_lt c (by omega)) hc
      · exact c
    have hkl := klt k hle
    rw [ix410]
    refine ⟨hL.i 0 (by show 410 + k < 12100; omega), fun v15 e15 => ?_⟩
    have e15' : v15 = nI (key k) := by rw [e15, nI_clamp (by omega), T2.2 k hle, hkey]
    subst e15'
    refine ⟨am 28, hL.r 28, hL.k 28, hL.i 28 (by show key k < 40320; omega), ?_⟩
    rw [nI_clamp (by omega)]
    have stx : ∀ (G : FI), G (am 28) = F (am 28) → lk key k = true → ∀ r, r < 40320 → (∃ v, v ≤ q ∧ G (am 28) r = nI v ∧ ∀ j, 1 ≤ j → j < k + 1 → key j ≠ r) ∨ (∃ j, 1 ≤ j ∧ j < k + 1 ∧ key j = r ∧ (∀ j', 1 ≤ j' → j' < j → key j' ≠ r) ∧ G (am 28) r = nI (q + 1 + j)) := fun G eG hl r hr => by
      rw [eG]
      rcases hst r hr with ⟨v, hv, e, hno⟩ | ⟨j, y1, y2, y3, y4, y5⟩
      · refine Or.inl ⟨v, hv, e, fun j h1 h2 c => ?_⟩
        by_cases c2 : j = k
        · subst c2
          obtain ⟨-, i, z1, z2, z3⟩ := (lk_iff key j).mp hl
          exact hno i z1 z2 (z3.trans c)
        · exact hno j h1 (by omega) c
      · exact Or.inr ⟨j, y1, by omega, y3, y4, y5⟩
    rcases hst (key k) hkl with ⟨v, hv, e, hno⟩ | ⟨j, y1, y2, y3, y4, y5⟩
    · have nlk : ¬ lk key k = true := fun c => by
        obtain ⟨-, i, z1, z2, z3⟩ := (lk_iff key k).mp c
        exact hno i z1 z2 z3
      rw [e]
      refine ⟨fun c => absurd ((nI_leI (by omega) (by omega)).mp c) (by omega), fun _ w1 e1 F5 e5 w2 e2 => ?_⟩
      rw [nI_add] at e1
      subst e1
      refine ⟨tN T + 1 - (k + 1), by omega, k + 1, by omega, by omega, rfl, by rw [e2]; exact nI_1 k, by rw [e5]; exact kk.tr (Kp.on hL 28 On.up), ?_, ?_, fun r hr => ?_⟩
      · rw [e5, up_ne (Ne.symm (hL.o 28)), h36]; exact ct_no nlk
      · rcases hsec with ⟨z1, z2, z3⟩ | ⟨k', j', z1, z2, z3, z4, z5, z6⟩
        · refine Or.inl ⟨fun i hi c => ?_, by rw [e5, up_ne (Ne.symm (hL.o 28))]; exact z2, by rw [e5, up_ne (Ne.symm (hL.o 28))]; exact z3⟩
          by_cases c2 : i = k
          · subst c2; exact nlk c
          · exact z1 i (by omega) c
        · exact Or.inr ⟨k', j', by omega, z2, z3, by rw [e5, up_ne (Ne.symm (hL.o 28))]; exact z4, z5, by rw [e5, up_ne (Ne.symm (hL.o 28))]; exact z6⟩
      · by_cases c : r = key k
        · subst c
          exact Or.inr ⟨k, hk1, by omega, rfl, fun j' h1 h2 => hno j' h1 h2, by rw [e5]; exact up_at⟩
        · rw [e5, up_no c]
          rcases hst r hr with ⟨v', hv', e', hno'⟩ | ⟨j, y1, y2, y3, y4, y5⟩
          · refine Or.inl ⟨v', hv', e', fun j h1 h2 c3 => ?_⟩
            by_cases c2 : j = k
            · subst c2; exact c c3.symm
            · exact hno' j h1 (by omega) c3
          · exact Or.inr ⟨j, y1, by omega, y3, y4, y5⟩
    · have hl : lk key k = true := (lk_iff key k).mpr ⟨hk1, j, y1, y2, y3⟩
      have ff : Ff key k j := ⟨y1, y2, y3, y4⟩
      rw [y5]
      refine ⟨fun _ w1 e1 F5 e5 => ?_, fun c => absurd (nI_le (by omega) (by omega)) c⟩
      rw [h36] at e1
      have w1e : w1 = nI (fb_ct (lk key) (k + 1)) := e1.trans (ct_yes hl)
      subst w1e
      have f35 : F5 m 35 = F m 35 := by rw [e5, up_no (by decide)]
      have f34 : F5 m 34 = F m 34 := by rw [e5, up_no (by decide)]
      have k5 : Kp tZ m am (gI S) F5 := by rw [e5]; exact kk.tr (Kp.fd 36)
      have f28 : F5 (am 28) = F (am 28) := by rw [e5, up_ne (hL.o 28)]
      rw [f35]
      rcases hsec with ⟨z1, z2, z3⟩ | ⟨k', j', z1, z2, z3, z4, z5, z6⟩
      · rw [z2]
        refine ⟨fun _ F6 e6 w2 e2 F7 e7 w3 e3 => ?_, fun c => absurd rfl c⟩
        have w2e : w2 = nI j := by
          rw [e2, e6, up_ne (hL.o 28), f28, y5, le_sub1 (by omega), show q + 1 + j - (q + 1) = j by omega]
        subst w2e
        refine ⟨tN T + 1 - (k + 1), by omega, k + 1, by omega, by omega, rfl, by rw [e3]; exact nI_1 k, by rw [e7, e6]; exact (k5.tr (Kp.fd 35)).tr (Kp.fd 34), ?_, Or.inr ⟨k, j, by omega, hl, fun i hi => z1 i hi, ?_, ff, ?_⟩, stx _ ?_ hl⟩
        · rw [e7, up_no (by decide), e6, up_no (by decide), e5, up_at]
        · rw [e7, up_no (by decide), e6, up_at]
        · rw [e7, up_at]
        · rw [e7, up_ne (hL.o 28), e6, up_ne (hL.o 28), f28]
      · rw [z4]
        refine ⟨fun c => absurd c (N_ne (by omega)), fun _ w2 e2 => ⟨tN T + 1 - (k + 1), by omega, k + 1, by omega, by omega, rfl, by rw [e2]; exact nI_1 k, k5, by rw [e5, up_at], Or.inr ⟨k', j', by omega, z2, z3, by rw [f35]; exact z4, z5, by rw [f34]; exact z6⟩, stx _ f28 hl⟩⟩
