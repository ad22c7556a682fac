/-! Whether a touch is true: the calls. -/
def StC (S : St) (x m : Nat) (am : Nat → Nat) (im : Nat → Prop) (q s a len p : Nat) : Prop := SM (gI S) m am q ∧ q + 2003 < 2 ^ 31 ∧ gR S x 14 = some s ∧ SX S s a len p ∧ p + 1 < 2 ^ 31 ∧ (∀ e, im e → kd S e ≠ 0 ∧ e ≠ x ∧ e ≠ s ∧ e ≠ a) ∧ ∀ f, mk f ≠ 0 → am f ≠ a
def EndS (S : St) (x s a len p : Nat) (S1 : St) (a' len' p' : Nat) : Prop := Fr (fun e => e = x ∨ e = s ∨ e = a) S S1 ∧ Xk S S1 x ∧ ((a' = a ∧ len' = len) ∨ gz S a' len len') ∧ SX S1 s a' len' p' ∧ p' ≤ p + 1
section TR
variable {S : St} {x b m q s a len p c d : Nat} {am : Nat → Nat} {im : Nat → Prop} {B : Bk} {o : Option Tc} {Q : Int32 → St → Prop}
theorem stc_end {S2 : St} {a' len' p' : Nat} (h : CB S x b m am im B) (hr : RC S x am im (bn B) o) (hC : StC S x m am im q s a len p) (v : Int32) (fr2 : Fr (fun e => e = s ∨ e = a) S S2) (hc2 : (a' = a ∧ len' = len) ∨ gz S a' len len') (sx2 : SX S2 s a' len' p') (hp2 : p' ≤ p + 1) :
    kd S2 x = 11 ∧ EndS S x s a len p (wI S2 (upI (gI S2) x 0 v)) a' len' p' ∧ CB (wI S2 (upI (gI S2) x 0 v)) x b m am im B ∧ RC (wI S2 (upI (gI S2) x 0 v)) x am im (bn B) o ∧ SM (gI (wI S2 (upI (gI S2) x 0 v))) m am q ∧ gI (wI S2 (upI (gI S2) x 0 v)) x 0 = v := by
  obtain ⟨hM, hq0, hs, hS, hp, him, hma⟩ := hC
  have hs6 := hS.1
  have ha21 := hS.2.2.1
  have mW : ¬ (m = x ∨ m = s ∨ m = a) := fun e => by
    have := h.L.z
    rcases e with e | e | e
    · rw [e, h.x] at this; cases this
    · rw [e, hs6] at this; cases this
    · rw [e, ha21] at this; cases this
  have aW : ∀ f, mk f ≠ 0 → (mk f = 21) → ¬ (am f = x ∨ am f = s ∨ am f = a) := fun f hf h21 e => by
    have := h.L.k f hf
    rcases e with e | e | e
    · rw [e, h.x, h21] at this; cases this
    · rw [e, hs6, h21] at this; cases this
    · exact hma f hf e
  have imW : ∀ e, im e → kd S e ≠ 0 ∧ ¬ (e = x ∨ e = s ∨ e = a) := fun e he => ⟨(him e he).1, fun c => c.elim (him e he).2.1 (fun c => c.elim (him e he).2.2.1 (him e he).2.2.2)⟩
  obtain ⟨k2, fr3, xk3, e3, sx3⟩ := end_st h.x hs6 ha21 v fr2 sx2
  exact ⟨k2, ⟨fr3, xk3, hc2, sx3, hp2⟩, h.fr fr3 (by rw [xk3.2.1]) imW mW (aW 0 (by decide) (by decide)), hr.fr h.L fr3 (by rw [xk3.2.1]) imW (aW 0 (by decide) (by decide)), hM.fr h.L fr3 mW (aW 28 (by decide) (by decide)), e3⟩
/-- a refusal with nothing touched -/
theorem gZ {S1 : St} {F : FI} {v : Int32} {q' : Nat} {Q2 : Int32 → FI → Prop} (hz : kd S1 m = 12) (hL : LM S1 m am) (e3 : gI S1 x 0 = 0) (k : Kp tZ m am (gI S1) F) (h1 : q ≤ q') (h2 : q' ≤ q + 2003) (hM : SM F m am q') (hq : ∀ F' q', Kp tZ m am (gI S1) F' → F' m 2 = gI S1 x 0 → q ≤ q' → q' ≤ q + 2003 → SM F' m am q' → Q2 v F') : P_X12_gives m v (wI S1 F) Q2 := gvT (S1 := S1) (T := tZ) hz k (by decide) (fun F' k' e' o' j' => hq F' q' k' (e'.trans e3.symm) h1 h2 (hM.on hL o' j'))
theorem rZ {S1 : St} {F : FI} {w : Int32} {q' : Nat} {Q2 : Int32 → FI → Prop} (hz : kd S1 m = 12) (hL : LM S1 m am) (e3 : gI S1 x 0 = w) (k : Kp tZ m am (gI S1) F) (h1 : q ≤ q') (h2 : q' ≤ q + 2003) (hM : SM F m am q') (hq : ∀ F' q', Kp tZ m am (gI S1) F' → F' m 2 = gI S1 x 0 → q ≤ q' → q' ≤ q + 2003 → SM F' m am q' → Q2 (-1) F') : P_X12_refuse m w (wI S1 F) Q2 := rfT (T := tZ) hz k (by decide) (fun F' k' e' o' j' => hq F' q' k' (e'.trans e3.symm) h1 h2 (hM.on hL o' j'))
theorem wI_self (S1 : St) : wI S1 (gI S1) = S1 := rfl
theorem call_isTrue (h : CB S x b m am im B) (hr : RC S x am im (bn B) o) (hC : StC S x m am im q s a len p) (hbd : o ≠ none → fac (bn B) ≤ len ∨ (1 ≤ c ∧ fac (bn B) ≤ d))
    (hq : ∀ v S1 a' len' p', (o ≠ none → fac (bn B) ≤ len') → EndS S x s a len p S1 a' len' p' → ThZ S1 x m q am v (P_X12_isTrue m S1) → Q v S1) : P_X11_isTrue x S c d Q := by
  have hn := h.n8
  have hC' := hC
  obtain ⟨hM, hq0, hs, hS, hp, him, hma⟩ := hC'
  cases o with
  | none =>
    refine ⟨h.x, fun c => absurd hr.1 c, fun _ => rf h.x ?_⟩
    obtain ⟨k2, E, C1, R1, M1, e3⟩ := stc_end (S2 := S) h hr hC 6 Fr.rf (Or.inl ⟨rfl, rfl⟩) hS (by omega)
    refine hq _ _ a len p (fun c => absurd rfl c) E (fun Q2 h2 => ?_)
    exact ⟨C1.L.z, am 0, C1.L.r 0, C1.L.k 0, C1.L.i 0 (p := 6) (by decide), fun c => absurd R1.2 c, fun _ => rZ (S1 := wI S (upI (gI S) x 0 6)) C1.L.z C1.L e3 Kp.rf (Nat.le_refl _) (by omega) M1 h2⟩
  | some T =>
    have hr' := hr
    obtain ⟨ht, t, rt, tx, -⟩ := hr'
    have hN := ht.1
    refine ⟨h.x, fun _ => ⟨t, rt, s, hs, tx.2.1, c, d, Nat.le_refl _, Nat.le_refl _, ?_⟩, fun c => absurd c (some_ne rt)⟩
    refine sp_secondAlike tx ht hn hS hp (fun e he => ⟨(him e he).1, (him e he).2.2.1, (him e he).2.2.2⟩) (hbd (fun z => by cases z)) (fun S2 a' len' p' r fr2 hc2 sx2 hl2 hp2 hcase => ?_)
    obtain ⟨k2, E, C1, R1, M1, e3⟩ := stc_end (S2 := S2) h hr hC 0 fr2 hc2 sx2 hp2
    obtain ⟨-, t1, rt1, tx1, tm1⟩ := R1
    have e6 := tm1.1
    have mod : ∀ (v : Int32) (Q2 : Int32 → FI → Prop), ((∀ k, k ≤ tN T → ¬ lk (fun k => num (bn B) (trw T k)) k = true) → v = 1) → (¬ (∀ k, k ≤ tN T → ¬ lk (fun k => num (bn B) (trw T k)) k = true) → v = 0) → (∀ F' q', Kp tZ m am (gI (wI S2 (upI (gI S2) x 0 0))) F' → F' m 2 = gI (wI S2 (upI (gI S2) x 0 0)) x 0 → q ≤ q' → q' ≤ q + 2003 → SM F' m am q' → Q2 v F') → P_X12_isTrue m (wI S2 (upI (gI S2) x 0 0)) Q2 := by
      intro v Q2 g1 g2 h2
      refine ⟨C1.L.z, am 0, C1.L.r 0, C1.L.k 0, C1.L.i 0 (p := 6) (by decide), fun _ => ?_, fun c => absurd (e6.symm.trans c) (N_ne hN)⟩
      refine sm_findsLikes C1.L hn ht tm1 M1 hq0 (fun F k s1 h36 _ => ?_)
      have hle := fb_ct_le (lk (fun k => num (bn B) (trw T k))) (tN T + 1)
      refine ⟨fun t => t = v, by rintro _ rfl; exact gZ C1.L.z C1.L e3 k (by omega) (by omega) s1 h2, ?_, ?_⟩
      · rw [h36, nI_z (by omega), fb_ct_zero]
        exact fun hne => (g2 (fun hh => hne (fun k hk => ts_nt (hh k (by omega))))).symm
      · rw [h36, nI_z (by omega), fb_ct_zero]
        exact fun he => (g1 (fun k hk c => by rw [he k (by omega)] at c; cases c)).symm
    rcases hcase with ⟨k, hk, rfl, hl, -⟩ | ⟨rfl, hno⟩
    · refine ⟨fun v => v = 0, ?_, fun _ => rfl, fun c => absurd c (N_ne (by omega))⟩
      rintro _ rfl
      exact ⟨k2, an k2 (hq _ _ a' len' p' (fun _ => hl2) E (fun Q2 h2 => mod 0 Q2 (fun hh => absurd hl (hh k hk)) (fun _ => rfl) h2))⟩
    · refine ⟨fun v => v = 1, ?_, fun c => absurd rfl c, fun _ => rfl⟩
      rintro _ rfl
      exact ⟨k2, an k2 (hq _ _ a' len' p' (fun _ => hl2) E (fun Q2 h2 => mod 1 Q2 (fun _ => rfl) (fun hh => absurd hno hh) h2))⟩
theorem call_repeats (h : CB S x b m am im B) (hr : RC S x am im (bn B) o) (hC : StC S x m am im q s a len p) (hbd : o ≠ none → fac (bn B) ≤ len ∨ (1 ≤ c ∧ fac (bn B) ≤ d))
    (hq : ∀ v S1 a' len' p', (o ≠ none → fac (bn B) ≤ len') → EndS S x s a len p S1 a' len' p' → ThZ S1 x m q am v (P_X12_repeats m S1) → Q v S1) : P_X11_repeats x S c d Q := by
  have hn := h.n8
  have hC' := hC
  obtain ⟨hM, hq0, hs, hS, hp, him, hma⟩ := hC'
  cases o with
  | none =>
    refine ⟨h.x, fun c => absurd hr.1 c, fun _ => rf h.x ?_⟩
    obtain ⟨k2, E, C1, R1, M1, e3⟩ := stc_end (S2 := S) h hr hC 6 Fr.rf (Or.inl ⟨rfl, rfl⟩) hS (by omega)
    refine hq _ _ a len p (fun c => absurd rfl c) E (fun Q2 h2 => ?_)
    exact ⟨C1.L.z, am 0, C1.L.r 0, C1.L.k 0, C1.L.i 0 (p := 6) (by decide), fun c => absurd R1.2 c, fun _ => rZ (S1 := wI S (upI (gI S) x 0 6)) C1.L.z C1.L e3 Kp.rf (Nat.le_refl _) (by omega) M1 h2⟩
  | some T =>
    have hr' := hr
    obtain ⟨ht, t, rt, tx, -⟩ := hr'
    have hN := ht.1
    refine ⟨h.x, fun _ => ⟨t, rt, s, hs, tx.2.1, c, d, Nat.le_refl _, Nat.le_refl _, ?_⟩, fun c => absurd c (some_ne rt)⟩
    refine sp_alike (g := trw T) tx ht hn hS hp (fun e he => ⟨(him e he).1, (him e he).2.2.1, (him e he).2.2.2⟩) (hbd (fun z => by cases z)) (fun k _ hk => trw_pm ht k hk) (fun _ k _ _ => rfl) (fun c => absurd rfl c) (fun S2 a' len' p' fr2 hc2 sx2 hl2 hp2 => ?_)
    obtain ⟨k2, E, C1, R1, M1, e3⟩ := stc_end (S2 := S2) h hr hC 0 fr2 hc2 sx2 hp2
    obtain ⟨-, t1, rt1, tx1, tm1⟩ := R1
    have e6 := tm1.1
    refine ⟨k2, an k2 (hq _ _ a' len' p' (fun _ => hl2) E (fun Q2 h2 => ?_))⟩
    refine ⟨C1.L.z, am 0, C1.L.r 0, C1.L.k 0, C1.L.i 0 (p := 6) (by decide), fun _ => ?_, fun c => absurd (e6.symm.trans c) (N_ne hN)⟩
    refine sm_findsLikes C1.L hn ht tm1 M1 hq0 (fun F k s1 h36 _ => ?_)
    rw [h36]
    exact gZ C1.L.z C1.L e3 k (by omega) (by omega) s1 h2
theorem call_falseAt (h : CB S x b m am im B) (hr : RC S x am im (bn B) o) (hC : StC S x m am im q s a len p) (w : Int32) (hbd : o ≠ none → (w = 0 ∨ w = 1) → fac (bn B) ≤ len ∨ (1 ≤ c ∧ fac (bn B) ≤ d))
    (hq : ∀ v S1 a' len' p', (o ≠ none → (w = 0 ∨ w = 1) → fac (bn B) ≤ len') → EndS S x s a len p S1 a' len' p' → ThZ S1 x m q am v (P_X12_falseAt m w S1) → Q v S1) : P_X11_falseAt x w S c d Q := by
  have hn := h.n8
  have hC' := hC
  obtain ⟨hM, hq0, hs, hS, hp, him, hma⟩ := hC'
  by_cases hw : w = 0 ∨ w = 1
  · have w1 : ¬ w < 0 ∧ w ≤ 1 := by rcases hw with rfl | rfl <;> decide
    cases o with
    | none =>
      obtain ⟨k2, E, C1, R1, M1, e3⟩ := stc_end (S2 := S) h hr hC 6 Fr.rf (Or.inl ⟨rfl, rfl⟩) hS (by omega)
      have mod : ThZ (wI S (upI (gI S) x 0 6)) x m q am (-1) (P_X12_falseAt m w (wI S (upI (gI S) x 0 6))) := fun Q2 h2 => ⟨C1.L.z, False, False.elim, fun c => absurd c w1.1, fun _ => ⟨fun _ => ⟨am 0, C1.L.r 0, C1.L.k 0, C1.L.i 0 (p := 6) (by decide), fun c => absurd R1.2 c, fun _ => rZ (S1 := wI S (upI (gI S) x 0 6)) C1.L.z C1.L e3 Kp.rf (Nat.le_refl _) (by omega) M1 h2⟩, fun c => absurd w1.2 c⟩⟩
      refine ⟨h.x, True, fun _ => ⟨fun t S6 _ _ => t = -1 ∧ S6 = S, ?_, fun c => absurd hr.1 c, fun _ => ⟨rfl, rfl⟩⟩, fun _ => trivial, fun h0 => ⟨fun _ => trivial, fun h1 => absurd hw (fun e => e.elim h0 h1)⟩⟩
      rintro _ _ _ _ ⟨rfl, rfl⟩
      exact ⟨fun c => absurd rfl c, fun _ => ⟨h.x, rf h.x (hq _ _ a len p (fun c => absurd rfl c) E mod)⟩⟩
    | some T =>
      have hr' := hr
      obtain ⟨ht, t, rt, tx, -⟩ := hr'
      have hN := ht.1
      obtain ⟨key, hkey⟩ : ∃ key : Nat → Nat, key = fun k => num (bn B) (trw T k) := ⟨_, rfl⟩
      refine ⟨h.x, True, fun _ => ⟨fun r S2 _ _ => ∃ a' len' p', Fr (fun e => e = s ∨ e = a) S S2 ∧ ((a' = a ∧ len' = len) ∨ gz S a' len len') ∧ SX S2 s a' len' p' ∧ fac (bn B) ≤ len' ∧ p' ≤ p + 1 ∧ ((∃ k, k ≤ tN T ∧ r = nI k ∧ lk key k = true ∧ ∀ j, j < k → ¬ lk key j = true) ∨ (r = -1 ∧ ∀ k, k ≤ tN T → ¬ lk key k = true)), ?_, fun _ => ⟨t, rt, s, hs, tx.2.1, c, d, Nat.le_refl _, Nat.le_refl _, ?_⟩, fun c => absurd c (some_ne rt)⟩, fun _ => trivial, fun h0 => ⟨fun _ => trivial, fun h1 => absurd hw (fun e => e.elim h0 h1)⟩⟩
      · rintro r S2 _ _ ⟨a', len', p', fr2, hc2, sx2, hl2, hp2, hcase⟩
        have mod : ∀ (z v : Int32) (Q2 : Int32 → FI → Prop), CB (wI S2 (upI (gI S2) x 0 z)) x b m am im B → RC (wI S2 (upI (gI S2) x 0 z)) x am im (bn B) (some T) → SM (gI (wI S2 (upI (gI S2) x 0 z))) m am q → (∀ F, Kp tZ m am (gI (wI S2 (upI (gI S2) x 0 z))) F → SM F m am (q + 2002) → Sec key (tN T + 1) F m → P_X12_orNone m (if w = 0 then F m 34 else F m 35) (wI (wI S2 (upI (gI S2) x 0 z)) F) Q2) → P_X12_falseAt m w (wI S2 (upI (gI S2) x 0 z)) Q2 := by
          intro z v Q2 C1 R1 M1 g
          obtain ⟨-, t1, rt1, tx1, tm1⟩ := R1
          have e6 := tm1.1
          refine ⟨C1.L.z, False, False.elim, fun c => absurd c w1.1, fun _ => ⟨fun _ => ⟨am 0, C1.L.r 0, C1.L.k 0, C1.L.i 0 (p := 6) (by decide), fun _ => ?_, fun c => absurd (e6.symm.trans c) (N_ne hN)⟩, fun c => absurd w1.2 c⟩⟩
          refine sm_findsLikes C1.L hn ht tm1 M1 hq0 (fun F k s1 _ hsec => ?_)
          rw [← hkey] at hsec
          have := g F k s1 hsec
          refine ⟨fun t => t = if w = 0 then F m 34 else F m 35, by rintro _ rfl; exact this, fun c => by rw [if_neg c], fun c => by rw [if_pos c]⟩
        rcases hcase with ⟨k, hk, rfl, hl, hno⟩ | ⟨rfl, hno⟩
        · obtain ⟨k2, E, C1, R1, M1, e3⟩ := stc_end (S2 := S2) h hr hC 0 fr2 hc2 sx2 hp2
          have hk1 : 1 ≤ k := ((lk_iff key k).mp hl).1
          refine ⟨fun _ => ?_, fun c => absurd c (N_ne (by omega))⟩
          obtain ⟨j, hj⟩ : ∃ j, Ff key k j := by
            obtain ⟨-, j, y1, y2, y3⟩ := (lk_iff key k).mp hl
            obtain ⟨i, z1, ⟨z2, z3⟩, z4⟩ := fb_first (p := fun j => 1 ≤ j ∧ key j = key k) (n := k) ⟨j, y2, y1, y3⟩
            exact ⟨i, z2, z1, z3, fun j' g1 g2 g3 => z4 j' g2 ⟨g1, g3⟩⟩
          have fin : ∀ v : Int32, v = (if w = 0 then nI j else nI k) → ThZ (wI S2 (upI (gI S2) x 0 0)) x m q am v (P_X12_falseAt m w (wI S2 (upI (gI S2) x 0 0))) := fun v ev Q2 h2 => by
            refine mod 0 v Q2 C1 R1 M1 (fun F kk s1 hsec => ?_)
            rcases hsec with ⟨y1, -, -⟩ | ⟨k', j', y1, y2, y3, y4, y5, y6⟩
            · exact absurd hl (y1 k (by omega))
            · have ek : k' = k := fb_first_one (p := fun k => lk key k = true) y2 y3 hl hno
              subst ek
              have ej : j' = j := by
                obtain ⟨u1, u2, u3, u4⟩ := y5
                obtain ⟨v1, v2, v3, v4⟩ := hj
                rcases Nat.lt_trichotomy j' j with cc | cc | cc
                · exact absurd u3 (v4 j' u1 cc)
                · exact cc
                · exact absurd v3 (u4 j v1 cc)
              subst ej
              rw [y4, y6, ← ev]
              have jk := hj.2.1
              have vne : ¬ v = -1 := by rw [ev]; split <;> exact N_ne (by omega)
              exact ⟨C1.L.z, fun _ => gZ C1.L.z C1.L e3 kk (by omega) (by omega) s1 h2, fun c => absurd c vne⟩
          refine ⟨fun v => v = if w = 0 then nI j else nI k, ?_, fun hw1 => ⟨k2, ?_⟩, fun hw1 => ?_⟩
          · rintro _ rfl
            exact ⟨k2, an k2 (hq _ _ a' len' p' (fun _ _ => hl2) E (fin _ rfl))⟩
          · have hw0 : w = 0 := hw.elim id (fun e => absurd e hw1)
            have Xs := Fr.sim fr2 (im := im) (fun e he => ⟨(him e he).1, fun c => c.elim (him e he).2.2.1 (him e he).2.2.2⟩)
            have tx2 := tx.sm Xs
            have gx : gR S2 x = gR S x := by
              have hs6 := hS.1
              have ha21 := hS.2.2.1
              refine (((fr2 x (by rw [h.x]; decide)).2.2 (fun e => ?_)).2.2)
              have hx := h.x
              rcases e with e | e
              · rw [e, hs6] at hx; cases hx
              · rw [e, ha21] at hx; cases hx
            refine ⟨t, by rw [gx]; exact rt, tx2.2.1, tx2.2.1, ?_⟩
            have tx3 := tx2
            obtain ⟨-, -, -, -, -, a9, r9, i9, k9, l9, g9⟩ := tx3
            refine ⟨a9, r9, k9, by rw [l9]; exact vp_in_nI (by omega) (by omega), ?_⟩
            rw [nI_clamp (by omega), g9 k (by omega)]
            have eqk : ∀ i, i ≤ tN T → (Eqn (bn B) (trw T i) (trw T k) ↔ key i = key k) := fun i hi => by
              rw [hkey]
              exact ⟨fun e => num_cong e, fun e => num_inj hn (trw_pm ht i hi) (trw_pm ht k hk) e⟩
            refine sp_nextLike tx2 ht hn (pm8 hn (trw_pm ht k hk)) (fun i hi he hn2 => ?_) (fun hn2 => ?_)
            · show nI (i + 1) = if w = 0 then nI j else nI k
              rw [if_pos hw0]
              obtain ⟨v1, v2, v3, v4⟩ := hj
              have e1 := (eqk (i + 1) (by omega)).mp he
              have : i + 1 = j := by
                rcases Nat.lt_trichotomy (i + 1) j with cc | cc | cc
                · exact absurd e1 (v4 (i + 1) (by omega) cc)
                · exact cc
                · have hx := hn2 (j - 1) (by omega)
                  rw [show j - 1 + 1 = j by omega] at hx
                  exact absurd ((eqk j (by omega)).mpr v3) hx
              rw [this]
            · exact absurd ((eqk j (by have := hj.2.1; omega)).mpr hj.2.2.1) (by
                have := hn2 (j - 1) (by have := hj.2.1; have := hj.1; omega)
                rw [show j - 1 + 1 = j by have := hj.1; omega] at this
                exact this)
          · subst hw1
            rw [if_neg one0]
        · obtain ⟨k2, E, C1, R1, M1, e3⟩ := stc_end (S2 := S2) h hr hC 6 fr2 hc2 sx2 hp2
          refine ⟨fun c => absurd rfl c, fun _ => ⟨k2, rf k2 (hq _ _ a' len' p' (fun _ _ => hl2) E (fun Q2 h2 => mod 6 (-1) Q2 C1 R1 M1 (fun F kk s1 hsec => ?_)))⟩⟩
          rcases hsec with ⟨-, y2, y3⟩ | ⟨k', j', y1, y2, -⟩
          · rw [y2, y3]
            have e1 : (if w = 0 then (-1 : Int32) else -1) = -1 := by split <;> rfl
            rw [e1]
            exact ⟨C1.L.z, fun c => absurd rfl c, fun _ => rZ C1.L.z C1.L e3 kk (by omega) (by omega) s1 h2⟩
          · exact absurd y2 (hno k' (by omega))
      · refine sp_secondAlike tx ht hn hS hp (fun e he => ⟨(him e he).1, (him e he).2.2.1, (him e he).2.2.2⟩) (hbd (fun z => by cases z) hw) (fun S2 a' len' p' r fr2 hc2 sx2 hl2 hp2 hcase => ?_)
        rw [← hkey] at hcase
        exact ⟨a', len', p', fr2, hc2, sx2, hl2, hp2, hcase⟩
  · obtain ⟨k2, E, C1, R1, M1, e3⟩ := stc_end (S2 := S) h hr hC 1 Fr.rf (Or.inl ⟨rfl, rfl⟩) hS (by omega)
    have nw : ¬ w < 0 → ¬ w ≤ 1 := fun h0 h1 => by
      obtain ⟨k, hk, rfl⟩ := nI_of h0
      have : k ≤ 1 := (nI_leI (b := 1) (by omega) (by decide)).mp h1
      rcases Nat.lt_or_ge k 1 with c | c
      · exact hw (Or.inl (by rw [show k = 0 by omega]; rfl))
      · exact hw (Or.inr (by rw [show k = 1 by omega]; rfl))
    refine ⟨h.x, False, False.elim, fun c => absurd (Or.inl c) hw, fun _ => ⟨fun c => absurd (Or.inr c) hw, fun _ => rf h.x (hq _ _ a len p (fun _ z => absurd z hw) E (fun Q2 h2 => ?_))⟩⟩
    exact ⟨C1.L.z, True, fun _ => rZ (S1 := wI S (upI (gI S) x 0 1)) C1.L.z C1.L e3 Kp.rf (Nat.le_refl _) (by omega) M1 h2, fun _ => trivial, fun h0 => ⟨fun h1 => absurd h1 (nw h0), fun _ => trivial⟩⟩
end TR
