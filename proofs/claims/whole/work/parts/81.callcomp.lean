/-! Compositions: the calls. -/
/-- the first composition on both sides -/
def COr (S : St) (co m : Nat) (ca am : Nat → Nat) : Prop := ∃ fl, fl ≤ 8 ∧ gI S co 4 = nI fl ∧ gI S m 48 = nI fl ∧ ∀ j, j < fl → gI S (ca 3) j = gI S (am 45) j
theorem CoX.fr {W : Nat → Prop} {S S1 : St} {co : Nat} {ca : Nat → Nat} (h : CoX S co ca) (hf : Fr W S S1) (hr : gR S1 co = gR S co) : CoX S1 co ca := by
  refine ⟨(hf co (by rw [h.1]; decide)).1.trans h.1, fun f hf4 => ?_, h.2.2⟩
  have hk := h.k f hf4
  obtain ⟨k, l, -⟩ := hf (ca f) (by rw [hk]; decide)
  exact ⟨by rw [hr]; exact h.r f hf4, k.trans hk, l.trans (h.l f hf4)⟩
section CC
variable {S : St} {x b m q s a len p co : Nat} {am ca : Nat → Nat} {im : Nat → Prop} {B : Bk}
def WC (x s a co : Nat) (ca : Nat → Nat) (e : Nat) : Prop := e = x ∨ e = s ∨ e = a ∨ e = co ∨ ∃ f, f < 4 ∧ e = ca f
/-- the stamps are used -/
def rcc (B : Bk) (r l0 p2 : Int32) : Prop := (∃ i l k, i < bM B ∧ r = nI i ∧ l < 8 ∧ l0 = nI (l + 1) ∧ k < 7 ∧ p2 = nI (k + 1) ∧ (∀ u v, 0 ≤ u → u < v → v < 0 + bl B i → ¬ Eqn (bn B) (rl B i 0 (fun p => p) u) (rl B i 0 (fun p => p) v)))
theorem call_compositions {c d : Nat} {Q : Int32 → St → Prop} (h : CB S x b m am im B) (hs : gR S x 14 = some s) (hS : SX S s a len p) (hp : p + 1 < 2 ^ 31) (hco : gR S x 16 = some co) (hC : CoX S co ca) (hO : COr S co m ca am) (hj : Dj im S x m am) (him : ∀ e, im e → ¬ WC x s a co ca e) (hma : ∀ f, mk f ≠ 0 → am f ≠ a ∧ ∀ g, g < 4 → am f ≠ ca g) (hac : ∀ f, f < 4 → a ≠ ca f) (r l0 p2 : Int32) (hbd : rcc B r l0 p2 → fac (bn B) ≤ len ∨ (1 ≤ c ∧ fac (bn B) ≤ d))
    (hq : ∀ v S1 a' len' p', (rcc B r l0 p2 → fac (bn B) ≤ len') → Fr (WC x s a co ca) S S1 → Xk S S1 x → ((a' = a ∧ len' = len) ∨ gz S a' len len') → SX S1 s a' len' p' → p' ≤ p + 1 → CoX S1 co ca → (∀ Q2 : Int32 → FI → Prop, (∀ F', Kp tC m am (gI S1) F' → F' m 2 = gI S1 x 0 → COr (wI S1 F') co m ca am → Q2 v F') → P_X12_compositions m r l0 p2 S1 Q2) → Q v S1) : P_X11_compositions x r l0 p2 S c d Q := by
  have h4 := h.o.2.2.1
  have hn := h.n8
  have hs6 := hS.1
  have ha21 := hS.2.2.1
  have sx : s ≠ x := kd_ne hs6 h.x (by decide)
  have ax : a ≠ x := kd_ne ha21 h.x (by decide)
  have cx : co ≠ x := kd_ne hC.1 h.x (by decide)
  have cax : ∀ f, f < 4 → ca f ≠ x := fun f hf => kd_ne (hC.k f hf) h.x (by decide)
  have sc : s ≠ co := kd_ne hs6 hC.1 (by decide)
  have sca : ∀ f, f < 4 → s ≠ ca f := fun f hf => kd_ne hs6 (hC.k f hf) (by decide)
  have ac : a ≠ co := kd_ne ha21 hC.1 (by decide)
  have mW : ¬ WC x s a co ca m := fun e => by
    rcases e with e | e | e | e | ⟨f, hf, e⟩
    · exact x_m h.x h.L e
    · exact kd_ne h.L.z hs6 (by decide) e
    · exact kd_ne h.L.z ha21 (by decide) e
    · exact kd_ne h.L.z hC.1 (by decide) e
    · exact kd_ne h.L.z (hC.k f hf) (by decide) e
  have aW : ∀ f, mk f ≠ 0 → mk f = 21 → ¬ WC x s a co ca (am f) := fun f hf h21 e => by
    have hk := h.L.k f hf
    rw [h21] at hk
    rcases e with e | e | e | e | ⟨g, hg, e⟩
    · exact kd_ne hk h.x (by decide) e
    · exact kd_ne hk hs6 (by decide) e
    · exact (hma f hf).1 e
    · exact kd_ne hk hC.1 (by decide) e
    · exact (hma f hf).2 g hg e
  have imW : ∀ e, im e → kd S e ≠ 0 ∧ ¬ WC x s a co ca e := fun e he => ⟨(hj e he).1, him e he⟩
  have rfE : (¬ rcc B r l0 p2) → ∀ (hm : ∀ (Q2 : Int32 → FI → Prop), P_X12_refuse m 1 (wI S (upI (gI S) x 0 1)) Q2 → P_X12_compositions m r l0 p2 (wI S (upI (gI S) x 0 1)) Q2), Q (-1) (wI S (upI (gI S) x 0 1)) := fun nr hm => by
    refine hq _ _ a len p (fun z => absurd z nr) (Fr.on On.up (Or.inl rfl)) Xk.st (Or.inl ⟨rfl, rfl⟩) ?_ (by omega) ?_ (fun Q2 h2 => hm Q2 (rfT (T := tC) h.L.z Kp.rf (by decide) (fun F' k' e' o' j' => h2 F' k' (e'.trans up_at.symm) ?_)))
    · obtain ⟨y1, y2, y3, y4, y5, y6, y7⟩ := hS
      exact ⟨y1, y2, y3, y4, by show upI (gI S) x 0 1 s 1 = _; rw [up_ne sx]; exact y5, y6, by show M0 (upI (gI S) x 0 1 a) _ _; rw [up_ne ax]; exact y7⟩
    · exact hC
    · obtain ⟨fl, f8, z1, z2, z3⟩ := hO
      have g : ∀ e, e ≠ m → e ≠ x → F' e = gI S e := fun e h1 h2 => by rw [o' e h1]; show upI (gI S) x 0 1 e = _; rw [up_ne h2]
      refine ⟨fl, f8, ?_, ?_, fun j hj' => ?_⟩
      · show F' co 4 = _
        rw [g co (kd_ne hC.1 h.L.z (by decide)) cx]; exact z1
      · show F' m 48 = _
        rw [j' 48 (by decide)]; show upI (gI S) x 0 1 m 48 = _; rw [up_ne (x_m h.x h.L)]; exact z2
      · show F' (ca 3) j = F' (am 45) j
        rw [g _ (kd_ne (hC.k 3) h.L.z (by decide)) (cax 3 (by decide)), g _ (h.L.o 45) (x_am h.x h.L 45)]; exact z3 j hj'
  have L1 : LM (wI S (upI (gI S) x 0 1)) m am := h.L
  rcases nr_case (bM B) (by omega) r with ⟨i, hi, rfl⟩ | hrn
  · obtain ⟨ar, o, ra, ka, va, ro, mo⟩ := h.me hi
    obtain ⟨b1, b2⟩ := bl_32 h.o hi
    rcases nb_case 8 (by decide) l0 with ⟨l, hl, rfl⟩ | hln
    · rcases nb_case 7 (by decide) p2 with ⟨k, hk, rfl⟩ | hkn
      · obtain ⟨ld, hld⟩ : ∃ ld, ld = l + 1 := ⟨_, rfl⟩
        rw [← hld] at hq hbd rfE ⊢
        obtain ⟨G, hG⟩ := Gq_ex B i ld (bt (nI (k + 1)))
        refine ⟨h.x, xMy h hi ⟨False, False.elim, fun c => absurd c one0, fun _ => ⟨fun c => absurd c (nI_nlt (b := 1) (by omega) (by omega)), fun _ => ⟨fun c => absurd c (nI_nlt (a := 8) (by omega) (by decide)), fun _ => ⟨fun c => absurd c (nI_nlt (b := 1) (by omega) (by omega)), fun _ => ⟨fun _ => ⟨co, hco, b, h.b, h.k, ar, ra, ka, va, o, ro, s, hs, hC.1, c, d, Nat.le_refl _, Nat.le_refl _, ?_⟩, fun c => absurd (nI_lt (b := 8) (by omega) (by decide)) c⟩⟩⟩⟩⟩⟩
        refine ⟨hC.1, fun F1 e1 F2 e2 => ⟨mo.2.1, ?_⟩⟩
        have f2 : ∀ e, e ≠ co → F2 e = gI S e := fun e he => by rw [e2, up_ne he, e1, up_ne he]
        have c5 : F2 co 5 = 0 := by rw [e2, up_no (by decide), e1, up_at]
        have c4 : F2 co 4 = 0 := by rw [e2, up_at]
        have fr2 : Fr (WC x s a co ca) S (wI S F2) := Fr.wi (fun e _ hw => f2 e (fun e' => hw (Or.inr (Or.inr (Or.inr (Or.inl e'))))))
        have mo2 := mo.sm (fr2.sim imW)
        have hB2 := h.B.sm (fr2.sim imW)
        -- the end, for both
        have fin : ∀ (S2 : St) (a' len' p' fl : Nat) (g : Nat → Nat), (rcc B (nI i) (nI ld) (nI (k + 1)) → fac (bn B) ≤ len') → Fr (WC x s a co ca) S S2 → kd S2 x = 11 → (gJ S2 x = gJ S x ∧ gR S2 x = gR S x ∧ gI S2 x = gI S x) → gR S2 co = gR S co → ((a' = a ∧ len' = len) ∨ gz S a' len len') → SX S2 s a' len' p' → p' ≤ p + 1 → Fst G ld (3 ^ ld) fl g → gI S2 co 4 = nI fl → fl ≤ 8 → (∀ j, j < fl → gI S2 (ca 3) j = nI (g j)) → P_X11_answer x (nI (fb_ct G (3 ^ ld))) S2 (fun r F => Q r (wI S2 F)) := by
          intro S2 a' len' p' fl g hrc fr kx xk co2 hc2 sx2 hp2 fst f4 f8 f3
          have fr' : Fr (WC x s a co ca) S (wI S2 (upI (gI S2) x 0 0)) := fr.tr (Fr.on On.up (Or.inl rfl))
          have L2 := h.L.fr fr' mW
          have C2 := h.fr fr' (by show gR S2 x 7 = _; rw [xk.2.1]) imW mW (aW 0 (by decide) (by decide))
          refine an kx (hq _ _ a' len' p' hrc fr' ⟨xk.1, xk.2.1, fun j hj' => ?_⟩ hc2 ?_ hp2 ?_ (fun Q2 h2 => ?_))
          · show upI (gI S2) x 0 0 x j = _
            rw [up_no hj', xk.2.2]
          · obtain ⟨y1, y2, y3, y4, y5, y6, y7⟩ := sx2
            exact ⟨y1, y2, y3, y4, by show upI (gI S2) x 0 0 s 1 = _; rw [up_ne sx]; exact y5, y6, by show M0 (upI (gI S2) x 0 0 a') _ _; rw [up_ne (kd_ne y3 kx (by decide))]; exact y7⟩
          · exact hC.fr fr' (by show gR S2 co = _; exact co2)
          · refine sm_compositions (i := i) (ld := ld) (G := G) C2.L C2.o C2.M hi (by omega) (by omega) ⟨k + 1, by omega, by omega, rfl⟩ hG (fun F fl2 g2 kk fst2 g48 g8 g45 => ?_)
            obtain ⟨u1, u2⟩ := fst.uniq fst2
            refine gvT (S1 := S) (T := tC) C2.L.z kk (by decide) (fun F' k' e' o' j' => h2 F' k' (e'.trans up_at.symm) ⟨fl, f8, ?_, ?_, fun j hj' => ?_⟩)
            · show F' co 4 = _
              rw [k'.1 co (kd_ne hC.1 h.L.z (by decide)) (fun f hf _ => fun e => by have := h.L.k f hf; rw [← e, hC.1] at this; exact absurd this.symm (by
                have : ∀ f, mk f ≠ 3 := fun f => by
                  rcases Nat.lt_or_ge f 51 with z | z
                  · have : ∀ f, f < 51 → mk f ≠ 3 := by decide
                    exact this f z
                  · rw [mk_big z]; decide
                exact this f))]
              show upI (gI S2) x 0 0 co 4 = _
              rw [up_ne cx]; exact f4
            · show F' m 48 = _
              rw [j' 48 (by decide), u1]; exact g48
            · show F' (ca 3) j = F' (am 45) j
              rw [k'.1 (ca 3) (kd_ne (hC.k 3) h.L.z (by decide)) (fun f hf _ e => (hma f hf).2 3 (by decide) e.symm), o' _ (h.L.o 45)]
              show upI (gI S2) x 0 0 (ca 3) j = F (am 45) j
              rw [up_ne (cax 3 (by decide)), f3 j hj', g45 j (by omega), u2 j hj']
        have unl : ∀ (hu : ∀ u v, 0 ≤ u → u < v → v < 0 + bl B i → ¬ Eqn (bn B) (rl B i 0 (fun p => p) u) (rl B i 0 (fun p => p) v)), FD B i (fun _ => 0) 1 := fun hu a' u b' v y1 y2 y3 y4 y5 he => by
          have ea : a' = 0 := by omega
          have eb : b' = 0 := by omega
          subst ea
          subst eb
          have huv : u ≠ v := by omega
          rcases Nat.lt_or_gt_of_ne huv with z | z
          · exact hu u v (by omega) z (by omega) he
          · exact hu v u (by omega) z (by omega) he.sy
        refine sp_isUnlike (fr := 0) h.o hi mo2 (by decide) (fun hE => ⟨fun c => absurd c one0, fun _ => ⟨hs6, c, d, Nat.le_refl _, Nat.le_refl _, ?_⟩⟩) (fun hE => ⟨fun _ => ?_, fun c => absurd rfl c⟩)
        · have SX2 : SX (wI S F2) s a len p := by
            obtain ⟨y1, y2, y3, y4, y5, y6, y7⟩ := hS
            exact ⟨y1, y2, y3, y4, by show F2 s 1 = _; rw [f2 s sc]; exact y5, y6, by show M0 (F2 a) _ _; rw [f2 a ac]; exact y7⟩
          refine sp_stampFalse (S := wI S F2) (fr := 0) SX2 hp h.o hB2 hi mo2 (by decide) (fun e he => ⟨(imW e he).1, fun z => (imW e he).2 (Or.inr (Or.inl z)), fun z => (imW e he).2 (Or.inr (Or.inr (Or.inl z)))⟩) (hbd ⟨i, l, k, hi, rfl, hl, by rw [hld], hk, rfl, hE⟩) (fun S3 a' len' p' Z fr3 hc3 z3 hl3 hp3 hz3 => ?_)
          have fr3' : Fr (WC x s a co ca) S S3 := fr2.tr (fr3.mono (fun e _ he => he.elim (fun z => Or.inr (Or.inl z)) (fun z => Or.inr (Or.inr (Or.inl z)))))
          have im3 := fr3'.sim imW
          have hB3 := h.B.sm im3
          have mo3 := mo.sm im3
          have C3 : CoX S3 co ca := hC.fr fr3' (((fr3 co (by show kd S co ≠ 0; rw [hC.1]; decide)).2.2 (fun z => z.elim (fun z => sc z.symm) (fun z => ac z.symm))).2.2)
          have co3 : gI S3 co = F2 co := ((fr3 co (by show kd S co ≠ 0; rw [hC.1]; decide)).2.2 (fun z => z.elim (fun z => sc z.symm) (fun z => ac z.symm))).1
          have lv : ∀ e, kd S e ≠ 0 → e ≠ a → e ≠ a' := fun e he hne e2 => by
            rcases hc3 with ⟨z, -⟩ | z
            · exact hne (e2.trans z)
            · have z' : kd S a' = 0 := z.1
              rw [e2] at he; exact he z'
          have a'c : a' ≠ co ∧ ∀ f, f < 4 → a' ≠ ca f := ⟨fun e => lv co (by rw [hC.1]; decide) (Ne.symm ac) e.symm, fun f hf e => lv (ca f) (by rw [hC.k f hf]; decide) (Ne.symm (hac f hf)) e.symm⟩
          refine ⟨hB3.2.1, C3.1, ?_⟩
          have mn : imin (nI ld) 8 = nI ld := by rw [show (8 : Int32) = nI 8 from rfl, iminN (by omega) (by decide), Nat.min_eq_left (by omega)]
          rw [mn, hB3.2.2.1]
          refine sp_tryCalls (G := G) C3 h.o hi mo3 z3 hl3 hz3 (by omega) (by omega) hG (unl hE) (fun e he => ⟨fun z => (imW e he).2 (Or.inr (Or.inr (Or.inr (Or.inl z)))), fun f hf z => (imW e he).2 (Or.inr (Or.inr (Or.inr (Or.inr ⟨f, hf, z⟩))))⟩) ⟨sc, sca⟩ a'c (by rw [co3]; exact c5) (by rw [co3]; exact c4) (fun F fl g fc g5 fst g4 g8 g3 => ?_)
          rw [g5]
          have x3 := (fr3 x (by show kd S x ≠ 0; rw [h.x]; decide)).2.2 (fun z => z.elim (fun z => sx z.symm) (fun z => ax z.symm))
          have Fx : F x = gI S x := by rw [fc x (Ne.symm cx) (fun f hf => Ne.symm (cax f hf)), x3.1]; exact f2 x (Ne.symm cx)
          have kx3 : kd S3 x = 11 := (fr3 x (by show kd S x ≠ 0; rw [h.x]; decide)).1.trans h.x
          refine ⟨kx3, fin (wI S3 F) a' len' p' fl g (fun _ => hl3) ?_ kx3 ⟨x3.2.1, x3.2.2, Fx⟩ (((fr3 co (by show kd S co ≠ 0; rw [hC.1]; decide)).2.2 (fun z => z.elim (fun z => sc z.symm) (fun z => ac z.symm))).2.2) hc3 ?_ hp3 fst g4 g8 g3⟩
          · refine fr3'.tr (Fr.wi (fun e _ hw => fc e (fun z => hw (Or.inr (Or.inr (Or.inr (Or.inl z))))) (fun f hf z => hw (Or.inr (Or.inr (Or.inr (Or.inr ⟨f, hf, z⟩)))))))
          · obtain ⟨y1, y2, y3, y4, y5, y6, y7⟩ := z3.x
            exact ⟨y1, y2, y3, y4, by show F s 1 = _; rw [fc s sc sca]; exact y5, y6, by show M0 (F a') _ _; rw [fc a' a'c.1 a'c.2]; exact y7⟩
        · have no : ∀ q, ¬ G q = true := fun q hg => by
            obtain ⟨u, v, -, y2, y3, y4⟩ := hE
            obtain ⟨-, -, g3⟩ := (hG q).mp hg
            exact g3 0 u 0 v (by omega) (by omega) (by omega) (by omega) (Or.inr (by omega)) y4
          have z : fb_ct G (3 ^ ld) = 0 := fb_ct_zero.mpr (fun k _ => ts_nt (no k))
          have c5' : F2 co 5 = nI (fb_ct G (3 ^ ld)) := by rw [z]; exact c5
          rw [c5']
          refine ⟨h.x, fin (wI S F2) a len p 0 (fun _ => 0) ?_ fr2 h.x ⟨rfl, rfl, f2 x (Ne.symm cx)⟩ rfl (Or.inl ⟨rfl, rfl⟩) ?_ (by omega) (Or.inl ⟨fun q _ => no q, rfl⟩) c4 (by omega) (fun j hj' => by omega)⟩
          · rintro ⟨i', l', k', z1, z2, -, -, -, -, z7⟩
            have e : i = i' := (nI_eq (by omega) (by omega)).mp z2
            subst e
            obtain ⟨u, v, y1, y2, y3, y4⟩ := hE
            exact absurd y4 (z7 u v y1 y2 y3)
          obtain ⟨y1, y2, y3, y4, y5, y6, y7⟩ := hS
          exact ⟨y1, y2, y3, y4, by show F2 s 1 = _; rw [f2 s sc]; exact y5, y6, by show M0 (F2 a) _ _; rw [f2 a ac]; exact y7⟩
      · have nk : ¬ p2 < 1 → ¬ p2 < 8 := fun h0 c => by
          have := nb_ix (N := 7) (by decide) hkn h0
          rw [fa_lt] at this c
          have e7 : (nI 7).toInt = 7 := rfl
          have e8 : (8 : Int32).toInt = 8 := rfl
          omega
        refine ⟨h.x, xMy h hi ⟨True, fun _ => rf h.x (rfE (fun ⟨_, _, k', _, _, _, _, z5, z6, _⟩ => hkn k' z5 z6) (fun Q2 hr => ⟨h.L.z, mMy L1 h.o (h.M1 1) hi ⟨True, fun _ => hr, fun _ => trivial, fun _ => ?_⟩⟩)), fun _ => trivial, fun _ => ⟨fun _ => trivial, fun _ => ⟨fun _ => trivial, fun _ => ⟨fun _ => trivial, fun c => ⟨fun c2 => absurd c2 (nk c), fun _ => trivial⟩⟩⟩⟩⟩⟩
        rw [nI_l (by omega)]
        refine mFy ((lN_le (a := 1) (by decide) (by omega)).mpr (by omega)) ((lN_le (b := 8) (by omega) (by decide)).mpr (by omega)) ⟨fun _ => trivial, fun _ => mFn (fun ⟨h1, h2⟩ => ?_) ⟨fun c => absurd rfl c, fun _ => trivial⟩⟩
        rw [show (1 : Int64) = (1 : Int32).toInt64 from rfl, fa_wide_le] at h1
        rw [show (7 : Int64) = (7 : Int32).toInt64 from rfl, fa_wide_le] at h2
        have h0 : ¬ p2 < 1 := fun c => by rw [fa_le] at h1; rw [fa_lt] at c; omega
        have := nb_ix (N := 7) (by decide) hkn h0
        rw [fa_lt] at this; rw [fa_le] at h2
        have e7 : (nI 7).toInt = (7 : Int32).toInt := rfl
        omega
    · have nl : ¬ l0 < 1 → 8 < l0 := fun h0 => nb_ix (N := 8) (by decide) hln h0
      refine ⟨h.x, xMy h hi ⟨True, fun _ => rf h.x (rfE (fun ⟨_, l', _, _, _, z3, z4, _⟩ => hln l' z3 z4) (fun Q2 hr => ⟨h.L.z, mMy L1 h.o (h.M1 1) hi ⟨True, fun _ => hr, fun _ => trivial, fun _ => mFn (fun ⟨h1, h2⟩ => ?_) ⟨fun _ => trivial, fun c => absurd rfl c⟩⟩⟩)), fun _ => trivial, fun _ => ⟨fun _ => trivial, fun c => ⟨fun _ => trivial, fun c2 => absurd (nl c) c2⟩⟩⟩⟩
      rw [show (1 : Int64) = (1 : Int32).toInt64 from rfl, fa_wide_le] at h1
      rw [show (8 : Int64) = (8 : Int32).toInt64 from rfl, fa_wide_le] at h2
      have h0 : ¬ l0 < 1 := fun c => by rw [fa_le] at h1; rw [fa_lt] at c; omega
      have := nl h0
      rw [fa_lt] at this; rw [fa_le] at h2; omega
  · exact ⟨h.x, xMn h hrn ⟨True, fun _ => rf h.x (rfE (fun ⟨i', _, _, z1, z2, _⟩ => hrn i' z1 z2) (fun Q2 hr => ⟨h.L.z, mMn L1 h.o (h.M1 1) hrn ⟨True, fun _ => hr, fun _ => trivial, fun c => absurd rfl c⟩⟩)), fun _ => trivial, fun c => absurd rfl c⟩⟩
theorem call_callAt {Q1 : Int32 → FI → Prop} (h : CB S x b m am im B) (hco : gR S x 16 = some co) (hC : CoX S co ca) (hO : COr S co m ca am) (r : Int32) (hq : ∀ v F, Th S x m am v (P_X12_callAt m r (wI S F)) → Q1 v F) : P_X11_callAt x r S Q1 := by
  obtain ⟨fl, f8, z1, z2, z3⟩ := hO
  have m48 : ∀ s, gI (wI S (upI (gI S) x 0 s)) m 48 = nI fl := fun s => by show upI (gI S) x 0 s m 48 = _; rw [up_ne (x_m h.x h.L)]; exact z2
  by_cases c0 : r < 0
  · refine ⟨h.x, True, fun _ => rf h.x (hq _ _ (fun Q2 h2 => ⟨h.L.z, True, fun _ => rfm h.L.z Kp.rf h2, fun _ => trivial, fun c => absurd c0 c⟩)), fun _ => trivial, fun c => absurd c0 c⟩
  · obtain ⟨k, hk, rfl⟩ := nI_of c0
    by_cases hkl : k < fl
    · refine ⟨h.x, False, False.elim, fun c => absurd c c0, fun _ => ⟨co, hco, hC.1, ?_⟩⟩
      rw [z1]
      refine ⟨fun _ => ⟨ca 3, hC.r 3, hC.k 3, hC.i 3 (by omega), ?_⟩, fun c => absurd (nI_lt hkl (by omega)) c⟩
      rw [nI_clamp hk, z3 k hkl]
      refine an h.x (hq _ _ (fun Q2 h2 => ⟨h.L.z, False, False.elim, fun c => absurd c c0, fun _ => ?_⟩))
      rw [m48]
      refine ⟨fun _ => ⟨am 45, h.L.r 45, h.L.k 45, h.L.i 45 (by show k < 8; omega), ?_⟩, fun c => absurd (nI_lt hkl (by omega)) c⟩
      rw [nI_clamp hk]
      show P_X12_gives m (upI (gI S) x 0 0 (am 45) k) _ _
      rw [up_ne (x_am h.x h.L 45)]
      exact gvm h.L.z Kp.rf h2
    · have nl : ¬ nI k < nI fl := nI_nlt (by omega) (by omega)
      refine ⟨h.x, True, fun _ => rf h.x (hq _ _ (fun Q2 h2 => ⟨h.L.z, True, fun _ => rfm h.L.z Kp.rf h2, fun _ => trivial, fun _ => ?_⟩)), fun _ => trivial, fun _ => ⟨co, hco, hC.1, ?_⟩⟩
      · rw [m48]; exact ⟨fun c => absurd c nl, fun _ => trivial⟩
      · rw [z1]; exact ⟨fun c => absurd c nl, fun _ => trivial⟩
end CC
