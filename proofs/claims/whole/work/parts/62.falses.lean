/-! Which leads are false: the calls. -/
theorem fz_iff {B : Bk} (hb : bok B) {i r : Nat} (hi : i < bM B) (hr : r < fac (bn B)) : Fz B i 1 r ↔ ∃ k j, 1 ≤ k ∧ k ≤ bl B i ∧ 1 ≤ j ∧ j ≤ bl B i ∧ Eqn (bn B) (rl B i 0 (fun p => p) j) (fun p => lay (bn B) r (rl B i 0 (fun p => p) k p)) := by
  have hn := hb.2.1
  refine ⟨fun ⟨u, v, h1, h2, h3, h4, h5⟩ => ⟨v, u, h3, by omega, h1, by omega, fun p hp => ?_⟩, fun ⟨k, j, h1, h2, h3, h4, h5⟩ => ⟨j, k, h3, by omega, h1, by omega, ?_⟩⟩
  · have pv := rl0_pm hb hi (show v ≤ bl B i by omega)
    have e := (num_layeq hn (qn_pm hb hi (show u ≤ bl B i by omega) (show v ≤ bl B i by omega)) hr).mpr h5 (rl B i 0 (fun p => p) v p) (pv.1 p hp)
    rw [inv_at pv hp] at e
    exact e
  · have pk := rl0_pm hb hi h2
    refine (num_layeq hn (qn_pm hb hi h4 h2) hr).mp (fun p hp => ?_)
    obtain ⟨g1, g2⟩ := inv_lt pk hp
    have := h5 _ g1
    show rl B i 0 (fun p => p) j (inv (bn B) (rl B i 0 (fun p => p) k) p) = _
    rw [this]
    show lay (bn B) r (rl B i 0 (fun p => p) k (inv (bn B) (rl B i 0 (fun p => p) k) p)) = _
    rw [g2]
theorem cz_pos {n r : Nat} {Z : Nat → Bool} (hr : r < fac n) (h0 : r ≠ 0) (hz : Z r = true) : 0 < cz n Z := fb_ct_pos.mpr ⟨r, hr, by rw [hz, decide_eq_true h0]; rfl⟩
theorem SM.x {S : St} {x m q : Nat} {am : Nat → Nat} (hx : kd S x = 11) (hL : LM S m am) (h : SM (gI S) m am q) (s : Int32) : SM (upI (gI S) x 0 s) m am q := by
  refine ⟨?_, ?_⟩
  · rw [up_ne (x_m hx hL)]; exact h.1
  · rw [up_ne (x_am hx hL 28)]; exact h.2
/-- the reference's end of a call: the status, and the answer -/
theorem gvT {T : Nat → Bool} {S1 S2 : St} {m : Nat} {am : Nat → Nat} {v : Int32} {F0 : FI} {Q : Int32 → FI → Prop} (hz : kd S2 m = 12) (hk : Kp T m am F0 (gI S2)) (hT : T 2 = true) (hq : ∀ F', Kp T m am F0 F' → F' m 2 = 0 → On m (gI S2) F' → (∀ j, j ≠ 2 → F' m j = gI S2 m j) → Q v F') : P_X12_gives m v S2 Q := ⟨hz, fun F e => by rw [e]; exact hq _ (hk.tr (Kp.fd 2 hT)) up_at On.up (fun j hj => up_no hj)⟩
theorem rfT {T : Nat → Bool} {S2 : St} {m : Nat} {am : Nat → Nat} {w : Int32} {F0 : FI} {Q : Int32 → FI → Prop} (hz : kd S2 m = 12) (hk : Kp T m am F0 (gI S2)) (hT : T 2 = true) (hq : ∀ F', Kp T m am F0 F' → F' m 2 = w → On m (gI S2) F' → (∀ j, j ≠ 2 → F' m j = gI S2 m j) → Q (-1) F') : P_X12_refuse m w S2 Q := ⟨hz, fun F e => by rw [e]; exact hq _ (hk.tr (Kp.fd 2 hT)) up_at On.up (fun j hj => up_no hj)⟩
theorem SM.on {S : St} {m q : Nat} {am : Nat → Nat} {F G : FI} (hL : LM S m am) (h : SM F m am q) (ho : On m F G) (hj : ∀ j, j ≠ 2 → G m j = F m j) : SM G m am q := ⟨by rw [hj 29 (by decide)]; exact h.1, by rw [ho _ (hL.o 28)]; exact h.2⟩
section CF
variable {S : St} {x b m q : Nat} {am : Nat → Nat} {im : Nat → Prop} {B : Bk} {Q1 : Int32 → FI → Prop}
/-- the reference answers alike, and its stamps are well -/
def ThZ (S1 : St) (x m q : Nat) (am : Nat → Nat) (v : Int32) (P : (Int32 → FI → Prop) → Prop) : Prop := ∀ Q2 : Int32 → FI → Prop, (∀ F' q', Kp tZ m am (gI S1) F' → F' m 2 = gI S1 x 0 → q ≤ q' → q' ≤ q + 2003 → SM F' m am q' → Q2 v F') → P Q2
theorem sm_falseAgainst {S1 : St} {i r : Nat} {Q : Int32 → FI → Prop} (hL : LM S1 m am) (hb : bok B) (hB : BM B (gI S1 (am 0))) (hi : i < bM B) (hr : r < fac (bn B)) (hM : SM (gI S1) m am q) (hq0 : q + 1 < 2 ^ 31)
    (hq : r ≠ 0 ∧ Fz B i 1 r → ∀ F, Kp tZ m am (gI S1) F → SM F m am (q + 1) → P_X12_gives m 1 (wI S1 F) Q)
    (hq2 : ¬ (r ≠ 0 ∧ Fz B i 1 r) → ∀ F, Kp tZ m am (gI S1) F → SM F m am (q + 1) → P_X12_gives m 0 (wI S1 F) Q) : P_X12_falseAgainst m (nI i) (nI r) S1 Q := by
  have hfac := fac_8 (bn B) (by have := hb.2.1; omega)
  refine ⟨hL.z, mMy hL hb hB hi ⟨False, False.elim, fun c => absurd c one0, fun _ => mRy hL hb hB hr ⟨fun _ => ?_, fun c => absurd c one0⟩⟩⟩
  refine sm_marksFalse hL hb hB hi hM hq0 (fun F Z k m1 z1 hz => ?_)
  have s1 : SM F m am (q + 1) := ⟨m1, z1.z⟩
  have hcl := cz_le (bn B) Z
  by_cases c : r ≠ 0 ∧ Fz B i 1 r
  · refine ⟨fun t => t = 1, by rintro _ rfl; exact hq c F k s1, fun h0 => ?_, fun _ => ⟨am 28, hL.r 28, hL.k 28, hL.i 28 (by show r < 40320; omega), ?_⟩⟩
    · have hp := cz_pos hr c.1 ((hz r hr).mpr c)
      exact absurd ((nI_leI (b := 0) (by omega) (by decide)).mp h0) (by omega)
    · rw [nI_clamp (by omega), m1, (z1 r (by omega)).2]
      exact ⟨fun hne => absurd ((hz r hr).mpr c) hne, fun _ => rfl⟩
  · refine ⟨fun t => t = 0, by rintro _ rfl; exact hq2 c F k s1, fun _ => rfl, fun _ => ⟨am 28, hL.r 28, hL.k 28, hL.i 28 (by show r < 40320; omega), ?_⟩⟩
    rw [nI_clamp (by omega), m1, (z1 r (by omega)).2]
    exact ⟨fun _ => rfl, fun e => absurd ((hz r hr).mp e) c⟩
theorem call_falseAgainst (h : CB S x b m am im B) (hM : SM (gI S) m am q) (hq0 : q + 1 < 2 ^ 31) (r p : Int32) (hq : ∀ v s, ThZ (wI S (upI (gI S) x 0 s)) x m q am v (P_X12_falseAgainst m r p (wI S (upI (gI S) x 0 s))) → Q1 v (upI (gI S) x 0 s)) : P_X11_falseAgainst x r p S Q1 := by
  have L1 : ∀ s, LM (wI S (upI (gI S) x 0 s)) m am := fun _ => h.L
  have M1 : ∀ s, SM (gI (wI S (upI (gI S) x 0 s))) m am q := fun s => hM.x h.x h.L s
  have e0 : ∀ s, gI (wI S (upI (gI S) x 0 s)) x 0 = s := fun s => up_at
  have h4 := h.o.2.2.1
  have hn := h.n8
  have rfE : ∀ (Q2 : Int32 → FI → Prop) (w : Int32), (∀ F' q', Kp tZ m am (gI (wI S (upI (gI S) x 0 w))) F' → F' m 2 = gI (wI S (upI (gI S) x 0 w)) x 0 → q ≤ q' → q' ≤ q + 2003 → SM F' m am q' → Q2 (-1) F') → P_X12_refuse m w (wI S (upI (gI S) x 0 w)) Q2 := fun Q2 w h2 => rfT (T := tZ) h.L.z Kp.rf (by decide) (fun F' k' e' o' j' => h2 F' q k' (e'.trans (e0 w).symm) (Nat.le_refl _) (by omega) ((M1 w).on h.L o' j'))
  rcases nr_case (bM B) (by omega) r with ⟨i, hi, rfl⟩ | hrn
  · obtain ⟨a, o, ra, ka, va, ro, mo⟩ := h.me hi
    obtain ⟨b1, b2⟩ := bl_32 h.o hi
    rcases nr_case _ h.f p with ⟨j, hj, rfl⟩ | hp
    · have gE : ∀ (Q2 : Int32 → FI → Prop) (v : Int32), (∀ F' q', Kp tZ m am (gI (wI S (upI (gI S) x 0 0))) F' → F' m 2 = gI (wI S (upI (gI S) x 0 0)) x 0 → q ≤ q' → q' ≤ q + 2003 → SM F' m am q' → Q2 v F') → ∀ F, Kp tZ m am (gI (wI S (upI (gI S) x 0 0))) F → SM F m am (q + 1) → P_X12_gives m v (wI (wI S (upI (gI S) x 0 0)) F) Q2 := fun Q2 v h2 F k s1 => gvT (S1 := S) (T := tZ) h.L.z k (by decide) (fun F' k' e' o' j' => h2 F' (q + 1) k' (e'.trans (e0 0).symm) (by omega) (by omega) (s1.on h.L o' j'))
      refine ⟨h.x, xMy h hi ⟨False, False.elim, fun c => absurd c one0, fun _ => xRy h hj ⟨fun _ => ⟨fun hne => ?_, fun h0 => an h.x (hq _ _ (fun Q2 h2 => ?_))⟩, fun c => absurd c one0⟩⟩⟩
      · have hj0 : j ≠ 0 := fun e => hne (by rw [e]; rfl)
        refine ⟨b, h.b, h.k, a, ra, ka, va, xPk h hj ?_⟩
        rw [h.s]
        refine ⟨fun t x5 => ∃ k, 1 ≤ k ∧ k ≤ bl B i + 1 ∧ t = bl B i + 1 - k ∧ x5 = nI k ∧ ∀ k', 1 ≤ k' → k' < k → ∀ u, 1 ≤ u → u ≤ bl B i → ¬ Eqn (bn B) (rl B i 0 (fun p => p) u) (fun p => lay (bn B) j (rl B i 0 (fun p => p) k' p)), ⟨bl B i, 1, by omega, by omega, rfl, rfl, fun k' h1 h2 => by omega⟩, ?_⟩
        rintro t x5 ⟨k, hk1, hk2, rfl, rfl, hno⟩
        refine ⟨o, ro, mo.2.1, sp_length mo ⟨fun hc => an h.x (hq _ _ (fun Q2 h2 => ?_)), fun hc => ?_⟩⟩
        · have hlt : bl B i < k := by
            rcases Nat.lt_or_ge (bl B i) k with c | c
            · exact c
            · exact absurd hc (nI_nlt c (by omega))
          refine sm_falseAgainst (L1 0) h.o (h.M1 0) hi hj (M1 0) hq0 (fun ⟨_, hz⟩ => ?_) (fun _ => gE Q2 0 h2)
          obtain ⟨k', u, y1, y2, y3, y4, y5⟩ := (fz_iff h.o hi hj).mp hz
          exact absurd y5 (hno k' y1 (by omega) u y3 y4)
        · have hle : k ≤ bl B i := by
            rcases Nat.lt_or_ge (bl B i) k with c | c
            · exact absurd (nI_lt c (by omega)) hc
            · exact c
          have mo' := mo
          obtain ⟨-, -, -, -, ⟨a5, r5, -, k5, l5, g5⟩, -⟩ := mo'
          refine ⟨a5, r5, k5, by rw [l5]; exact vp_in_nI (by omega) (by omega), ?_⟩
          rw [nI_clamp (by omega), g5 k (by omega)]
          have pk := rl0_pm h.o hi hle
          refine sp_multiply hn (pm8 hn (lay_pm hn hj)) pk.1 ?_
          refine sp_behind h.o hi mo (fun p hp => pm8 hn (lay_pm hn hj) _ (pk.1 p hp)) (fun u hu he _ => ⟨fun c => absurd c (N_ne (by omega)), fun _ => an h.x (hq _ _ (fun Q2 h2 => ?_))⟩) (fun hno2 => ⟨fun _ w ew => ⟨bl B i + 1 - (k + 1), by omega, k + 1, by omega, by omega, rfl, by rw [ew]; exact nI_1 k, fun k' h1 h2 u h3 h4 => ?_⟩, fun c => absurd rfl c⟩)
          · exact sm_falseAgainst (L1 0) h.o (h.M1 0) hi hj (M1 0) hq0 (fun _ => gE Q2 1 h2) (fun hz => absurd ⟨hj0, (fz_iff h.o hi hj).mpr ⟨k, u + 1, hk1, hle, by omega, by omega, he⟩⟩ hz)
          · by_cases c : k' = k
            · subst c
              have := hno2 (u - 1) (by omega)
              rw [show u - 1 + 1 = u by omega] at this
              exact this
            · exact hno k' h1 (by omega) u h3 h4
      · have hj0 : j = 0 := (nI_eq (b := 0) (by have := h.f; omega) (by decide)).mp h0
        exact sm_falseAgainst (L1 0) h.o (h.M1 0) hi hj (M1 0) hq0 (fun ⟨hz, _⟩ => absurd hj0 hz) (fun _ => gE Q2 0 h2)
    · refine ⟨h.x, xMy h hi ⟨True, fun _ => rf h.x (hq _ _ (fun Q2 h2 => ?_)), fun c => absurd c one0, fun _ => xRn h hp ⟨fun c => absurd rfl c, fun _ => trivial⟩⟩⟩
      exact ⟨h.L.z, mMy (L1 1) h.o (h.M1 1) hi ⟨True, fun _ => rfE Q2 1 h2, fun c => absurd c one0, fun _ => mRn (L1 1) h.o (h.M1 1) hp ⟨fun c => absurd rfl c, fun _ => trivial⟩⟩⟩
  · refine ⟨h.x, xMn h hrn ⟨True, fun _ => rf h.x (hq _ _ (fun Q2 h2 => ?_)), fun _ => trivial, fun c => absurd rfl c⟩⟩
    exact ⟨h.L.z, mMn (L1 1) h.o (h.M1 1) hrn ⟨True, fun _ => rfE Q2 1 h2, fun _ => trivial, fun c => absurd rfl c⟩⟩
/-- of the chamber only the status is another -/
def Xk (S S1 : St) (x : Nat) : Prop := gJ S1 x = gJ S x ∧ gR S1 x = gR S x ∧ ∀ j, j ≠ 0 → gI S1 x j = gI S x j
theorem Xk.st {s : Int32} : Xk S (wI S (upI (gI S) x 0 s)) x := ⟨rfl, rfl, fun j hj => up_no hj⟩
theorem LM.fr {W : Nat → Prop} {S1 : St} (hL : LM S m am) (hf : Fr W S S1) (hm : ¬ W m) : LM S1 m am := by
  have k12 : ∀ f, mk f ≠ 0 → kd S (am f) ≠ 0 := fun f hf => by rw [hL.k f hf]; exact hf
  obtain ⟨k, l, g⟩ := hf m (by rw [hL.z]; decide)
  obtain ⟨-, -, gr⟩ := g hm
  refine ⟨k.trans hL.z, fun f hf' => ⟨?_, ?_, ?_⟩, hL.2.2⟩
  · rw [gr]; exact hL.r f hf'
  · rw [(hf _ (k12 f hf')).1]; exact hL.k f hf'
  · rw [(hf _ (k12 f hf')).2.1]; exact hL.l f hf'
theorem CB.fr {W : Nat → Prop} {S1 : St} (h : CB S x b m am im B) (hf : Fr W S S1) (hx : gR S1 x 7 = gR S x 7) (hi : ∀ e, im e → kd S e ≠ 0 ∧ ¬ W e) (hm : ¬ W m) (h0 : ¬ W (am 0)) : CB S1 x b m am im B := by
  obtain ⟨h1, h2, h3, h4, h5, h6⟩ := h
  refine ⟨(hf x (by rw [h1]; decide)).1.trans h1, hx.trans h2, h3, h4.sm (hf.sim hi), h5.fr hf hm, ?_⟩
  rw [((hf (am 0) (by rw [h5.k 0]; decide)).2.2 h0).1]
  exact h6
theorem RC.fr {W : Nat → Prop} {S1 : St} {n : Nat} {o : Option Tc} (hL : LM S m am) (h : RC S x am im n o) (hf : Fr W S S1) (hx : gR S1 x 9 = gR S x 9) (hi : ∀ e, im e → kd S e ≠ 0 ∧ ¬ W e) (h0 : ¬ W (am 0)) : RC S1 x am im n o := by
  have e0 := ((hf (am 0) (by rw [hL.k 0]; decide)).2.2 h0).1
  cases o with
  | none => exact ⟨hx.trans h.1, by rw [e0]; exact h.2⟩
  | some T =>
    obtain ⟨h1, t, h2, h3, h4⟩ := h
    exact ⟨h1, t, hx.trans h2, h3.sm (hf.sim hi), by rw [e0]; exact h4⟩
theorem SM.fr {W : Nat → Prop} {S1 : St} (hL : LM S m am) (h : SM (gI S) m am q) (hf : Fr W S S1) (hm : ¬ W m) (h28 : ¬ W (am 28)) : SM (gI S1) m am q := by
  refine ⟨?_, ?_⟩
  · rw [((hf m (by rw [hL.z]; decide)).2.2 hm).1]; exact h.1
  · rw [((hf (am 28) (by rw [hL.k 28]; decide)).2.2 h28).1]; exact h.2
/-- the end of a call of the class that used stamps -/
theorem end_st {S2 : St} {s a a' len' p' : Nat} (hx : kd S x = 11) (hs : kd S s = 6) (ha : kd S a = 21) (v : Int32) (hf : Fr (fun e => e = s ∨ e = a) S S2) (h2 : SX S2 s a' len' p') : kd S2 x = 11 ∧ Fr (fun e => e = x ∨ e = s ∨ e = a) S (wI S2 (upI (gI S2) x 0 v)) ∧ Xk S (wI S2 (upI (gI S2) x 0 v)) x ∧ gI (wI S2 (upI (gI S2) x 0 v)) x 0 = v ∧ SX (wI S2 (upI (gI S2) x 0 v)) s a' len' p' := by
  have xs : x ≠ s := fun e => by rw [e, hs] at hx; cases hx
  have xa : x ≠ a := fun e => by rw [e, ha] at hx; cases hx
  obtain ⟨k, l, g⟩ := hf x (by rw [hx]; decide)
  obtain ⟨g1, g2, g3⟩ := g (fun c => c.elim xs xa)
  have k2 : kd S2 x = 11 := k.trans hx
  obtain ⟨h1, h3, h4, h5, h6, h7, h8⟩ := h2
  have sx : s ≠ x := Ne.symm xs
  have ax : a' ≠ x := fun e => by rw [e, k2] at h4; cases h4
  refine ⟨k2, (hf.mono (fun e _ he => Or.inr he)).tr (Fr.on On.up (Or.inl rfl)), ⟨g2, g3, fun j hj => ?_⟩, up_at, ⟨h1, h3, h4, h5, ?_, h7, ?_⟩⟩
  · show upI (gI S2) x 0 v x j = _
    rw [up_no hj, g1]
  · show upI (gI S2) x 0 v s 1 = _
    rw [up_ne sx]; exact h6
  · show M0 (upI (gI S2) x 0 v a') _ _
    rw [up_ne ax]; exact h8
theorem call_falses {s a len p c d : Nat} {Q : Int32 → St → Prop} (h : CB S x b m am im B) (hM : SM (gI S) m am q) (hq0 : q + 1 < 2 ^ 31) (hs : gR S x 14 = some s) (hS : SX S s a len p) (hp : p + 1 < 2 ^ 31) (him : ∀ e, im e → kd S e ≠ 0 ∧ e ≠ x ∧ e ≠ s ∧ e ≠ a) (hma : ∀ f, mk f ≠ 0 → am f ≠ a) (r : Int32) (hbd : (∃ i, i < bM B ∧ r = nI i) → fac (bn B) ≤ len ∨ (1 ≤ c ∧ fac (bn B) ≤ d))
    (hq : ∀ v S1 a' len' p', ((∃ i, i < bM B ∧ r = nI i) → fac (bn B) ≤ len') → Fr (fun e => e = x ∨ e = s ∨ e = a) S S1 → Xk S S1 x → ((a' = a ∧ len' = len) ∨ gz S a' len len') → SX S1 s a' len' p' → p' ≤ p + 1 → ThZ S1 x m q am v (P_X12_falses m r S1) → Q v S1) : P_X11_falses x r S c d Q := by
  have h4 := h.o.2.2.1
  have hn := h.n8
  have hs6 := hS.1
  have ha21 := hS.2.2.1
  have mW : ¬ (m = x ∨ m = s ∨ m = a) := fun e => by
    have := h.L.z
    rcases e with e | e | e
    · rw [e, h.x] at this; cases this
    · rw [e, hs6] at this; cases this
    · rw [e, ha21] at this; cases this
  have aW : ∀ f, mk f ≠ 0 → (mk f = 21) → ¬ (am f = x ∨ am f = s ∨ am f = a) := fun f hf h21 e => by
    have := h.L.k f hf
    rcases e with e | e | e
    · rw [e, h.x, h21] at this; cases this
    · rw [e, hs6, h21] at this; cases this
    · exact hma f hf e
  have imW : ∀ e, im e → kd S e ≠ 0 ∧ ¬ (e = x ∨ e = s ∨ e = a) := fun e he => ⟨(him e he).1, fun c => c.elim (him e he).2.1 (fun c => c.elim (him e he).2.2.1 (him e he).2.2.2)⟩
  rcases nr_case (bM B) (by omega) r with ⟨i, hi, rfl⟩ | hrn
  · obtain ⟨ar, o, ra, ka, va, ro, mo⟩ := h.me hi
    refine ⟨h.x, xMy h hi ⟨fun _ => ⟨s, hs, b, h.b, h.k, ar, ra, ka, va, o, ro, hs6, c, d, Nat.le_refl _, Nat.le_refl _, ?_⟩, fun c => absurd c one0⟩⟩
    refine sp_stampFalse (fr := 1) hS hp h.o h.B hi mo (by decide) (fun e he => ⟨(him e he).1, (him e he).2.2.1, (him e he).2.2.2⟩) (hbd ⟨i, hi, rfl⟩) (fun S2 a' len' p' Z fr2 hc2 z2 hl2 hp2 hz2 => ?_)
    obtain ⟨k2, fr3, xk3, e3, sx3⟩ := end_st h.x hs6 ha21 0 fr2 z2.x
    refine ⟨k2, an k2 ?_⟩
    obtain ⟨S1, hS1⟩ : ∃ S1, S1 = wI S2 (upI (gI S2) x 0 0) := ⟨_, rfl⟩
    rw [← hS1] at fr3 xk3 e3 sx3 ⊢
    have C1 : CB S1 x b m am im B := h.fr fr3 (by rw [xk3.2.1]) imW mW (aW 0 (by decide) (by decide))
    have M1 := hM.fr h.L fr3 mW (aW 28 (by decide) (by decide))
    refine hq _ S1 a' len' p' (fun _ => hl2) fr3 xk3 hc2 sx3 hp2 (fun Q2 h2 => ?_)
    refine ⟨C1.L.z, mMy C1.L C1.o C1.M hi ⟨fun c => absurd c one0, fun _ => sm_marksFalse C1.L C1.o C1.M hi M1 hq0 (fun F Z2 k m1 z1 hz => ?_)⟩⟩
    have e : cz (bn B) Z2 = cz (bn B) Z := cz_cong (fun r hr hr0 => by
      have y1 := hz r hr
      have y2 := hz2 r hr
      cases e1 : Z2 r <;> cases e2 : Z r
      · rfl
      · rw [e2] at y2
        have := y2.mp rfl
        have := y1.mpr ⟨hr0, this.resolve_left hr0⟩
        rw [e1] at this; cases this
      · rw [e1] at y1
        have := y2.mpr (Or.inr (y1.mp rfl).2)
        rw [e2] at this; cases this
      · rfl)
    rw [e]
    exact gvT (S1 := S) (T := tZ) C1.L.z k (by decide) (fun F' k' e' o' j' => h2 F' (q + 1) k' (e'.trans e3.symm) (by omega) (by omega) (SM.on (F := F) C1.L ⟨m1, z1.z⟩ o' j'))
  · refine ⟨h.x, xMn h hrn ⟨fun c => absurd rfl c, fun _ => rf h.x ?_⟩⟩
    obtain ⟨k2, fr3, xk3, e3, sx3⟩ := end_st (S2 := S) h.x hs6 ha21 1 Fr.rf hS
    refine hq _ _ a len p (fun ⟨i, hi, e⟩ => absurd e (hrn i hi)) fr3 xk3 (Or.inl ⟨rfl, rfl⟩) sx3 (by omega) (fun Q2 h2 => ?_)
    have M1 := hM.fr h.L fr3 mW (aW 28 (by decide) (by decide))
    exact ⟨h.L.z, mMn (S := wI S (upI (gI S) x 0 1)) h.L h.o (h.M1 1) hrn ⟨fun _ => rfT (T := tZ) h.L.z Kp.rf (by decide) (fun F' k' e' o' j' => h2 F' q k' (e'.trans e3.symm) (Nat.le_refl _) (by omega) (M1.on h.L o' j')), fun c => absurd rfl c⟩⟩
end CF
