/-! A book is read by the class. -/
def rTK (tx : Nat → Nat) (L c p : Nat) (o : Option Nat) (q : Nat) : Prop := (tk tx L p = c ∧ o = none ∧ q = nx tx L p) ∨ (tk tx L p ≠ c ∧ o = some (mis tx L p) ∧ q = p)
def rNU (tx : Nat → Nat) (L lo hi p : Nat) (o : Option Nat) (q : Nat) : Prop := (tk tx L p = 3 ∧ (lo ≤ vl' tx L p ∧ vl' tx L p ≤ hi) ∧ o = none ∧ q = nx tx L p) ∨ (tk tx L p = 3 ∧ ¬ (lo ≤ vl' tx L p ∧ vl' tx L p ≤ hi) ∧ o = some 4 ∧ q = p) ∨ (tk tx L p ≠ 3 ∧ o = some (mis tx L p) ∧ q = p)
def rST (tx : Nat → Nat) (L : Nat) : Option Nat → Nat → Prop := thn (rTK tx L 6 0) (fun q1 => thn (rNU tx L 4 8 q1) (rSG tx L))
def Bk0 (n : Nat) : Bk := (n, 0, fun _ => 0, fun _ _ _ => false, fun _ _ _ => false, fun _ => false, fun _ => [])
def rBook (tx : Nat → Nat) (L : Nat) (o : Option Nat) (q : Nat) (s : Sb) : Prop := (∃ f, o = some f ∧ rST tx L (some f) q) ∨ ∃ q0 K, ∃ st : Nat → Sb, rST tx L none q0 ∧ st 0 = (q0, Bk0 (vl' tx L (nx tx L 0)), 0, fun _ => []) ∧ (∀ i, i < K → tk tx L (st i).1 ≠ 1 ∧ rIt tx L (st i) none (st (i + 1)).1 (st (i + 1))) ∧ ((tk tx L (st K).1 = 1 ∧ o = none ∧ s = st K) ∨ (tk tx L (st K).1 ≠ 1 ∧ ∃ f s', o = some f ∧ rIt tx L (st K) (some f) q s'))
section TR
variable {S : St} {k br rv tt : Nat} {ra mv : Nat → Nat} {tx : Nat → Nat} {L p : Nat} {B : Bk} {R : Nat} {rn : Nat → List Nat}
theorem sp_takesRinger {Q : Int32 → FI → (Nat → Nat → Int64) → Prop} (hB : BrX S br k rv ra mv) (hX : TxC S (gI S) (gJ S) k tt rv tx L) (hT : TkC (gI S) (gJ S) k tx L p) (hp : p ≤ L) (hR : RdC (gI S) (gJ S) br ra mv B R rn) (hO : OkB B R rn) (h7 : tk tx L p = 12)
    (hy : ∀ q F J s', rIt tx L (p, B, R, rn) none q s' → s'.1 = q → q ≤ L → p < q → FBk k br ra mv (gI S) F (gJ S) J → F k 9 = gI S k 9 → F k 10 = gI S k 10 → TkC F J k tx L q → RdC F J br ra mv s'.2.1 s'.2.2.1 s'.2.2.2 → OkB s'.2.1 s'.2.2.1 s'.2.2.2 → Q 1 F J)
    (hf : ∀ f q F J s', rIt tx L (p, B, R, rn) (some f) q s' → FBk k br ra mv (gI S) F (gJ S) J → F k 9 = nI f → F k 10 = nI (sk tx L q) → Q 0 F J) : P_X1_takesRinger br S Q := by
  have hk := hX.1
  have hB' := hB
  obtain ⟨-, r0, ⟨r6, k6, l6⟩, ⟨r7, k7, l7⟩, ⟨r8, k8, l8⟩, ⟨r9, k9, l9⟩, ⟨r10, k10, l10⟩, ⟨r11, k11, l11⟩, hmv, hmm, hm9, n910, n911, n1011, n67, nv6, nv7⟩ := hB'
  obtain ⟨e1, e2, e3, e4, e5, e6, e7, e8, e9, e10, e11, e12, e13⟩ := hB.e hk
  obtain ⟨d1, d2, d3, d4, ⟨nms, dN, dU⟩, dM⟩ := hR
  obtain ⟨ob, oR, on1, on2⟩ := hO
  have hM4 := ob.2.2.1
  have n4 := ob.1
  have n8 := ob.2.1
  refine ⟨hB.1, ?_⟩
  rw [d3]
  refine ⟨fun hlt0 => ⟨k, r0, hk, ?_⟩, fun hge => ⟨k, r0, hk, sp_wrong (f := 6) hk hT.1 (fun F fl => ⟨Or.inl rfl, hf 6 p F (gJ S) (p, B, R, rn) (Or.inr (Or.inl ⟨h7, Or.inl ⟨?_, rfl, rfl⟩⟩)) (FBk.fl fl) fl.2.2.1 fl.2.2.2⟩)⟩⟩
  case refine_2 =>
    rcases Nat.lt_or_ge R 8 with z | z
    · exact absurd (nI_lt (b := 8) z (by decide)) hge
    · exact z
  have hM : R < 8 := by
    rcases Nat.lt_or_ge R 8 with z | z
    · exact z
    · exact absurd hlt0 (nI_nlt (b := 8) z (by omega))
  have nl1 := nx_le (tx := tx) hp
  have pp1 : p < nx tx L p := nl1.2.2.2.1 (by omega)
  refine sp_next hX hT.2.1 nl1.2.2.1 (fun F4 J4 nf4 nj4 t4 => ?_)
  have fb4 : FBk k br ra mv (gI S) F4 (gJ S) J4 := FBk.nx nf4 nj4
  have j46 : J4 (ra 6) = gJ S (ra 6) := nj4.1 _ e2
  have s4 : ∀ j, F4 br j = gI S br j := fun j => by rw [nf4.1 br e1]
  have tail : ∀ {o q}, thn (rNN tx L (usedN B R rn) (nx tx L p)) (fun q1 => thn (rNB (bn B) tx L B q1) (rSG tx L)) o q → rIt tx L (p, B, R, rn) o q (q, addR B (vl' tx L (nx tx L (nx tx L p)) - 1), R + 1, setg rn R (wd tx L (nx tx L p))) := fun h => Or.inr (Or.inl ⟨h7, Or.inr ⟨hM, h, rfl⟩⟩)
  refine sp_newName (S := wA S F4 J4 (gR S)) (B := B) (R := R) (rn := rn) (nms := nms) hB (hX.fb hB fb4) t4 nl1.2.2.1 ((s4 2).trans d2) ((s4 3).trans d3) (by omega) (fun i hi => by show J4 (ra 6) i = _ ∧ _; rw [j46]; exact dN i hi) dU (fun e4' nu F5 J5 nf5 nj5 n65 t5 => ⟨fun _ v7 e7' F8 e8' => ?_, fun y => absurd y one0⟩) (fun f q F fn fl => ⟨fun y => absurd rfl y, fun _ => hf f q F J4 _ (tail (thn_f fn)) (fb4.tr (FBk.fl fl)) fl.2.2.1 fl.2.2.2⟩)
  have nf5' : NxF k F4 F5 := nf5
  have fb5 : FBk k br ra mv (gI S) F5 (gJ S) J5 := fb4.tr ⟨fun a ha => ⟨nf5'.1 a (fun z => ha (Or.inl z)), nj5 a (fun z => ha (Or.inl z)) (fun z => ha (Or.inr (Or.inr (Or.inl z))))⟩, fun j y1 y2 y3 y4 _ _ => nf5'.2 j y1 y2 y3 y4⟩
  have rnn' : rNN tx L (usedN B R rn) (nx tx L p) none (nx tx L (nx tx L p)) := Or.inl ⟨e4', nu, rfl, rfl⟩
  have nl2 := nx_le (tx := tx) nl1.2.2.1
  have nl3 := nx_le (tx := tx) nl2.2.2.1
  have s5 : ∀ j, F5 br j = gI S br j := fun j => by rw [nf5'.1 br e1]; exact s4 j
  have v7e : v7 = nI (R + 1) := by rw [e7', s5, d3, nI_1]
  have fb8 : FBk k br ra mv (gI S) F8 (gJ S) J5 := fb5.tr (by rw [e8']; exact FBk.u (Or.inr (Or.inl rfl)) e1)
  have k8' : F8 k = F5 k := by rw [e8', up_ne (Ne.symm e1)]
  have t8 : TkC F8 J5 k tx L (nx tx L (nx tx L p)) := t5.cg k8' rfl
  have s8 : ∀ j, j ≠ 3 → F8 br j = gI S br j := fun j hj => by rw [e8', up_no hj]; exact s5 j
  obtain ⟨q1, hq1⟩ : ∃ q1, q1 = nx tx L (nx tx L p) := ⟨_, rfl⟩
  rw [← hq1] at rnn' t8 nl2 nl3
  have X8 := hX.fb hB fb8
  refine sp_isAt (S := wA S F8 J5 (gR S)) hk t8 (c := 3) (by decide) (fun e3' => ⟨fun _ => ?_, fun y => absurd y one0⟩) (fun e3' => ⟨fun y => absurd rfl y, fun _ => sp_misplaced (S := wA S F8 J5 (gR S)) hk t8 (fun F fl => ⟨Or.inl rfl, hf _ q1 F J5 _ (tail (thn_y rnn' (thn_f (Or.inr (Or.inr (Or.inr ⟨e3', rfl, rfl⟩)))))) (fb8.tr (FBk.fl fl)) fl.2.2.1 fl.2.2.2⟩)⟩)
  have vlt := vlx_lt e3'
  have f87 : F8 k 7 = nI (vl' tx L q1) := t8.2.2.2.1 e3'
  rw [f87, s8 1 (by decide), d1]
  refine ⟨¬ (1 ≤ vl' tx L q1 ∧ vl' tx L q1 ≤ bn B), fun hbad => sp_wrong (S := wA S F8 J5 (gR S)) (f := 4) hk t8.1 (fun F fl => ⟨Or.inl rfl, hf 4 q1 F J5 _ (tail (thn_y rnn' (thn_f (Or.inr (Or.inr (Or.inl ⟨e3', hbad, rfl, rfl⟩)))))) (fb8.tr (FBk.fl fl)) fl.2.2.1 fl.2.2.2⟩), fun y => ?_, fun y1 => ⟨fun y2 v15 e15 => ?_, fun y2 => ?_⟩⟩
  · intro z
    exact absurd y (nI_nlt (b := 1) z.1 (by omega))
  · have v1 : 1 ≤ vl' tx L q1 := by
      rcases Nat.lt_or_ge (vl' tx L q1) 1 with z | z
      · exact absurd (nI_lt (b := 1) z (by decide)) y1
      · exact z
    have v2 : vl' tx L q1 ≤ bn B := (nI_leI (by omega) (by omega)).mp y2
    rw [sub1 v1] at e15
    subst e15
    rw [s8 4 (by decide), d4, tb1 (by omega), msk_bt _ _ (by omega), decide_eq_true (show vl' tx L q1 - 1 < bn B by omega), Bool.true_and]
    refine ⟨fun hz v17 e17 F18 e18 => ?_, fun hz => sp_wrong (S := wA S F8 J5 (gR S)) (f := 5) hk t8.1 (fun F fl => ⟨Or.inl rfl, hf 5 q1 F J5 _ (tail (thn_y rnn' (thn_f (Or.inr (Or.inl ⟨e3', ⟨v1, v2⟩, ?_, rfl, rfl⟩))))) (fb8.tr (FBk.fl fl)) fl.2.2.1 fl.2.2.2⟩)⟩
    · have fb18 : FBk k br ra mv (gI S) F18 (gJ S) J5 := fb8.tr (by rw [e18]; exact FBk.u (Or.inr (Or.inl rfl)) e1)
      have k18 : F18 k = F8 k := by rw [e18, up_ne (Ne.symm e1)]
      refine sp_next (S := wA S F18 J5 (gR S)) (hX.fb hB fb18) (by show F18 k 5 = _; rw [k18]; exact t8.2.1) nl3.2.2.1 (fun F19 J19 nf19 nj19 t19 => ?_)
      have nf19' : NxF k F18 F19 := nf19
      have nj19' : NxJ k J5 J19 := nj19
      have fb19 := fb18.tr (FBk.nx nf19 nj19)
      have rnb : rNB (bn B) tx L B q1 none (nx tx L q1) := Or.inl ⟨e3', ⟨v1, v2⟩, hz, rfl, rfl⟩
      refine sp_take (S := wA S F19 J19 (gR S)) (c := 2) (hX.fb hB fb19) t19 nl3.2.2.1 (by decide) (fun e2' F20 J20 nf20 nj20 t20 => ⟨Or.inr rfl, ?_⟩) (fun e2' F20 fl => ⟨Or.inl rfl, hf _ (nx tx L q1) F20 J19 _ (tail (thn_y rnn' (thn_y rnb (Or.inr ⟨e2', rfl, rfl⟩)))) (fb19.tr (FBk.fl fl)) fl.2.2.1 fl.2.2.2⟩)
      have nf20' : NxF k F19 F20 := nf20
      have nj20' : NxJ k J19 J20 := nj20
      have nl4 := nx_le (tx := tx) nl3.2.2.1
      have st : ∀ a, a ≠ k → a ≠ br → F20 a = gI S a := fun a h1 h2 => by rw [nf20'.1 a h1, nf19'.1 a h1, e18, up_ne h2, e8', up_ne h2, nf5'.1 a h1, nf4.1 a h1]
      have jj : ∀ a, a ≠ k → J20 a = J5 a := fun a ha => by rw [nj20'.1 a ha, nj19'.1 a ha]
      have j6 : ∀ i, J20 (ra 6) i = if i = bM B + R then n27 (wd tx L (nx tx L p)) else gJ S (ra 6) i := fun i => by
        rw [jj _ e2, n65 i]
        show (if i = bM B + R then n27 (wd tx L (nx tx L p)) else J4 (ra 6) i) = _
        rw [j46]
      have brj : ∀ j, j ≠ 3 → j ≠ 4 → F20 br j = gI S br j := fun j h3 h4 => by rw [nf20'.1 br e1, nf19'.1 br e1, e18, up_no h4]; exact s8 j h3
      have w4' : 4 ≤ tk tx L (nx tx L p) := by omega
      obtain ⟨wo, wl'⟩ := wd_ok w4'
      have w8 : (wd tx L (nx tx L p)).length ≤ 8 := by
        obtain ⟨-, -, -, -, x5⟩ := tk_word w4'
        rw [wl']
        by_cases c : nx tx L (nx tx L p) - sk tx L (nx tx L p) ≤ 8
        · exact c
        · rw [if_neg c] at x5; omega
      have it := tail (thn_y rnn' (thn_y rnb (Or.inl ⟨e2', rfl, rfl⟩)))
      rw [← hq1] at it
      have flt : ∀ j, j = 9 ∨ j = 10 → F20 k j = gI S k j := fun j hj => by
        rw [nf20'.2 j (by omega) (by omega) (by omega) (by omega), nf19'.2 j (by omega) (by omega) (by omega) (by omega), k18, k8', nf5'.2 j (by omega) (by omega) (by omega) (by omega), nf4.2 j (by omega) (by omega) (by omega) (by omega)]
      refine hy _ F20 J20 _ it rfl nl4.2.2.1 (by omega) (fb19.tr (FBk.nx nf20 nj20)) (flt 9 (Or.inl rfl)) (flt 10 (Or.inr rfl)) t20 ⟨?_, ?_, ?_, ?_, ⟨setg nms (bM B + R) (wd tx L (nx tx L p)), fun i hi => ?_, fun w => ?_⟩, fun i hi => ?_⟩ ⟨ob, by show R + 1 ≤ 8; omega, on1, fun j hj => ?_⟩
      · rw [brj 1 (by decide) (by decide)]; exact d1
      · rw [brj 2 (by decide) (by decide)]; exact d2
      · rw [nf20'.1 br e1, nf19'.1 br e1, e18, up_no (by decide), e8', up_at, v7e]
      · rw [nf20'.1 br e1, nf19'.1 br e1, e18, up_at, e17]
        exact msk_or n8 (by omega)
      · have hi' : i < bM B + (R + 1) := hi
        rw [j6 i]
        by_cases ci : i = bM B + R
        · rw [if_pos ci, ci, setg_at]; exact ⟨rfl, wo, w8⟩
        · rw [if_neg ci, setg_no ci]; exact dN i (by omega)
      · show (∃ i, i < bM B + (R + 1) ∧ setg nms (bM B + R) (wd tx L (nx tx L p)) i = w) ↔ (∃ i, i < bM B ∧ bnm B i = w) ∨ ∃ j, j < R + 1 ∧ setg rn R (wd tx L (nx tx L p)) j = w
        refine ⟨fun ⟨i, i1, i2⟩ => ?_, fun h => ?_⟩
        · by_cases ci : i = bM B + R
          · rw [ci, setg_at] at i2
            exact Or.inr ⟨R, by omega, by rw [setg_at]; exact i2⟩
          · rw [setg_no ci] at i2
            rcases (dU w).mp ⟨i, by omega, i2⟩ with ⟨a, a1, a2⟩ | ⟨a, a1, a2⟩
            · exact Or.inl ⟨a, a1, a2⟩
            · exact Or.inr ⟨a, by omega, by rw [setg_no (by omega)]; exact a2⟩
        · have old : usedN B R rn w → ∃ i, i < bM B + (R + 1) ∧ setg nms (bM B + R) (wd tx L (nx tx L p)) i = w := fun u => by
            obtain ⟨i, i1, i2⟩ := (dU w).mpr u
            exact ⟨i, by omega, by rw [setg_no (by omega)]; exact i2⟩
          rcases h with ⟨a, a1, a2⟩ | ⟨a, a1, a2⟩
          · exact old (Or.inl ⟨a, a1, a2⟩)
          · by_cases ca : a = R
            · rw [ca, setg_at] at a2
              exact ⟨bM B + R, by omega, by rw [setg_at]; exact a2⟩
            · rw [setg_no ca] at a2
              exact old (Or.inr ⟨a, by omega, a2⟩)
      · have hi' : i < bM B := hi
        obtain ⟨q1', q2', q3', q4', q5'⟩ := dM i hi'
        have j7 : J20 (ra 7) = gJ S (ra 7) := by rw [jj _ e3, nj5 _ e3 (Ne.symm n67)]; show J4 (ra 7) = _; rw [nj4.1 _ e3]
        show J20 (ra 7) i = n27 (bnm B i) ∧ F20 (ra 9) i = nI (bl B i) ∧ (∀ k, k < bl B i → F20 (mv i) k = nI (pak (mvf (bv B i k)) (bn B))) ∧ F20 (ra 10) i = nI (pak (mvf (bc B i 1)) (bn B)) ∧ F20 (ra 11) i = nI (pak (mvf (bc B i 2)) (bn B))
        rw [j7, st _ e4 e8, st _ e5 e9, st _ e6 e10, st _ (e7 i (by omega)) (e11 i (by omega))]
        exact ⟨q1', q2', q3', q4', q5'⟩
      · have hj' : j < R + 1 := hj
        show wok (setg rn R (wd tx L (nx tx L p)) j) ∧ (setg rn R (wd tx L (nx tx L p)) j).length ≤ 8
        by_cases cj : j = R
        · rw [cj, setg_at]; exact ⟨wo, w8⟩
        · rw [setg_no cj]; exact on2 j (by omega)
    · cases h : brr B (vl' tx L q1 - 1)
      · exact absurd h hz
      · rfl
  · intro z
    exact absurd (nI_le z.2 (by omega)) y2
/-- the tokens, ahead of a text -/
def TkX (S : St) (k tt rv : Nat) : Prop := kd S k = 7 ∧ gR S k 0 = some tt ∧ kd S tt = 20 ∧ ln S tt = 900 ∧ gR S k 2 = some rv ∧ kd S rv = 22 ∧ ln S rv = 12 ∧ ∀ i, i < 12 → gJ S rv i = n27 (kcw i)
theorem sp_open {Q : FI → (Nat → Nat → Int64) → Prop} (hX : TkX S k tt rv) (hL : L ≤ 900) (ht : ∀ j, j < L → tx j < 256 ∧ gI S tt j = sb (tx j))
    (hq : ∀ F J, (∀ a, a ≠ k → F a = gI S a) → NxJ k (gJ S) J → F k 1 = 0 → F k 9 = 0 → F k 10 = -1 → TxC S F J k tt rv tx L → TkC F J k tx L 0 → Q F J) : P_X7_open k (nI L) S Q := by
  obtain ⟨h1, h2, h3, h4, h5, h6, h7, h8⟩ := hX
  have tk' : tt ≠ k := kd_ne h3 h1 (by decide)
  refine ⟨h1, tt, h2, h3, fun v3 e3 F4 e4 F5 e5 F6 e6 F7 e7 F8 e8 => ?_⟩
  have v3e : v3 = nI L := by rw [e3, h4, iminN (by omega) (by decide), Nat.min_eq_left hL]
  have on : ∀ a, a ≠ k → F8 a = gI S a := fun a ha => by rw [e8, up_ne ha, e7, up_ne ha, e6, up_ne ha, e5, up_ne ha, e4, up_ne ha]
  have X8 : TxC S F8 (gJ S) k tt rv tx L := ⟨h1, h2, h3, h4, hL, by rw [e8, up_no (by decide), e7, up_no (by decide), e6, up_no (by decide), e5, up_no (by decide), e4, up_at, v3e], fun j hj => by rw [on tt tk']; exact ht j hj, h5, h6, h7, h8⟩
  refine sp_next (S := wI S F8) (p := 0) X8 (by show F8 k 5 = _; rw [e8, up_no (by decide), e7, up_no (by decide), e6, up_at]; rfl) (Nat.zero_le _) (fun F J nf nj t => ?_)
  have nf' : NxF k F8 F := nf
  refine hq F J (fun a ha => (nf'.1 a ha).trans (on a ha)) nj ?_ ?_ ?_ (X8.cg (nf'.2 3 (by decide) (by decide) (by decide) (by decide)) (nf'.1 _ tk') (nj.1 _ (kd_ne h6 h1 (by decide)))) t
  · rw [nf'.2 1 (by decide) (by decide) (by decide) (by decide), e8, up_no (by decide), e7, up_no (by decide), e6, up_no (by decide), e5, up_at]
  · rw [nf'.2 9 (by decide) (by decide) (by decide) (by decide), e8, up_no (by decide), e7, up_at]
  · rw [nf'.2 10 (by decide) (by decide) (by decide) (by decide), e8, up_at]
theorem rTK2 {q : Nat} {o : Option Nat} (h : rTK tx L 2 p o q) : rSG tx L p o q := h
theorem sp_takesStage {Q : Int32 → FI → (Nat → Nat → Int64) → Prop} (hB : BrX S br k rv ra mv) (hX : TxC S (gI S) (gJ S) k tt rv tx L) (hT : TkC (gI S) (gJ S) k tx L 0)
    (hy : ∀ q F J, rST tx L none q → q ≤ L → 4 ≤ vl' tx L (nx tx L 0) → vl' tx L (nx tx L 0) ≤ 8 → FBk k br ra mv (gI S) F (gJ S) J → (∀ a, a ≠ k → a ≠ br → F a = gI S a) → (∀ j, j ≠ 1 → F br j = gI S br j) → F br 1 = nI (vl' tx L (nx tx L 0)) → F k 9 = gI S k 9 → F k 10 = gI S k 10 → TkC F J k tx L q → Q 1 F J)
    (hf : ∀ f q F J, rST tx L (some f) q → FBk k br ra mv (gI S) F (gJ S) J → F k 9 = nI f → F k 10 = nI (sk tx L q) → Q 0 F J) : P_X1_takesStage br S Q := by
  have hk := hX.1
  obtain ⟨e1, -⟩ := hB.e hk
  have r0 := hB.2.1
  have nl1 := nx_le (tx := tx) (Nat.zero_le L)
  have nl2 := nx_le (tx := tx) nl1.2.2.1
  refine ⟨hB.1, k, r0, hk, sp_take (c := 6) hX hT (Nat.zero_le _) (by decide) (fun e6 F3 J3 nf3 nj3 t3 => ⟨fun _ => ?_, fun y => absurd y one0⟩) (fun e6 F3 fl => ⟨fun y => absurd rfl y, fun _ => hf _ 0 F3 (gJ S) (thn_f (Or.inr ⟨e6, rfl, rfl⟩)) (FBk.fl fl) fl.2.2.1 fl.2.2.2⟩)⟩
  have fb3 : FBk k br ra mv (gI S) F3 (gJ S) J3 := FBk.nx nf3 nj3
  have r6 : rTK tx L 6 0 none (nx tx L 0) := Or.inl ⟨e6, rfl, rfl⟩
  refine sp_isAt (S := wA S F3 J3 (gR S)) hk t3 (c := 3) (by decide) (fun e3 => ⟨fun _ => ?_, fun y => absurd y one0⟩) (fun e3 => ⟨fun y => absurd rfl y, fun _ => sp_misplaced (S := wA S F3 J3 (gR S)) hk t3 (fun F fl => ⟨Or.inl rfl, hf _ _ F J3 (thn_y r6 (thn_f (Or.inr (Or.inr ⟨e3, rfl, rfl⟩)))) (fb3.tr (FBk.fl fl)) fl.2.2.1 fl.2.2.2⟩)⟩)
  have vlt := vlx_lt e3
  have f37 : F3 k 7 = nI (vl' tx L (nx tx L 0)) := t3.2.2.2.1 e3
  rw [f37]
  refine ⟨¬ (4 ≤ vl' tx L (nx tx L 0) ∧ vl' tx L (nx tx L 0) ≤ 8), fun hbad => sp_wrong (S := wA S F3 J3 (gR S)) (f := 4) hk t3.1 (fun F fl => ⟨Or.inl rfl, hf 4 _ F J3 (thn_y r6 (thn_f (Or.inr (Or.inl ⟨e3, hbad, rfl, rfl⟩)))) (fb3.tr (FBk.fl fl)) fl.2.2.1 fl.2.2.2⟩), fun y z => absurd y (nI_nlt (b := 4) z.1 (by omega)), fun y1 => ⟨fun y2 v11 e11 F12 e12 => ?_, fun y2 z => absurd (nI_le (b := 8) z.2 (by decide)) y2⟩⟩
  have v4 : 4 ≤ vl' tx L (nx tx L 0) := by
    rcases Nat.lt_or_ge (vl' tx L (nx tx L 0)) 4 with z | z
    · exact absurd (nI_lt (b := 4) z (by decide)) y1
    · exact z
  have v8 : vl' tx L (nx tx L 0) ≤ 8 := (nI_leI (b := 8) (by omega) (by decide)).mp y2
  have fb12 : FBk k br ra mv (gI S) F12 (gJ S) J3 := fb3.tr (by rw [e12]; exact FBk.u (Or.inr (Or.inl rfl)) e1)
  have k12 : F12 k = F3 k := by rw [e12, up_ne (Ne.symm e1)]
  refine sp_next (S := wA S F12 J3 (gR S)) (hX.fb hB fb12) (by show F12 k 5 = _; rw [k12]; exact t3.2.1) nl2.2.2.1 (fun F13 J13 nf13 nj13 t13 => ?_)
  have nf13' : NxF k F12 F13 := nf13
  have fb13 := fb12.tr (FBk.nx nf13 nj13)
  have rnu : rNU tx L 4 8 (nx tx L 0) none (nx tx L (nx tx L 0)) := Or.inl ⟨e3, ⟨v4, v8⟩, rfl, rfl⟩
  have nl3 := nx_le (tx := tx) nl2.2.2.1
  refine sp_take (S := wA S F13 J13 (gR S)) (c := 2) (hX.fb hB fb13) t13 nl2.2.2.1 (by decide) (fun e2 F14 J14 nf14 nj14 t14 => ⟨Or.inr rfl, ?_⟩) (fun e2 F14 fl => ⟨Or.inl rfl, hf _ _ F14 J13 (thn_y r6 (thn_y rnu (Or.inr ⟨e2, rfl, rfl⟩))) (fb13.tr (FBk.fl fl)) fl.2.2.1 fl.2.2.2⟩)
  have nf14' : NxF k F13 F14 := nf14
  refine hy _ F14 J14 (thn_y r6 (thn_y rnu (Or.inl ⟨e2, rfl, rfl⟩))) nl3.2.2.1 v4 v8 (fb13.tr (FBk.nx nf14 nj14)) (fun a h1 h2 => by rw [nf14'.1 a h1, nf13'.1 a h1, e12, up_ne h2, nf3.1 a h1]) (fun j hj => by rw [nf14'.1 br e1, nf13'.1 br e1, e12, up_no hj, nf3.1 br e1]) (by rw [nf14'.1 br e1, nf13'.1 br e1, e12, up_at, e11]) ?_ ?_ t14
  · rw [nf14'.2 9 (by decide) (by decide) (by decide) (by decide), nf13'.2 9 (by decide) (by decide) (by decide) (by decide), k12, nf3.2 9 (by decide) (by decide) (by decide) (by decide)]
  · rw [nf14'.2 10 (by decide) (by decide) (by decide) (by decide), nf13'.2 10 (by decide) (by decide) (by decide) (by decide), k12, nf3.2 10 (by decide) (by decide) (by decide) (by decide)]
theorem sp_takes {Q : Int32 → FI → (Nat → Nat → Int64) → Prop} (hB : BrX S br k rv ra mv) (hX : TkX S k tt rv) (hL : L ≤ 900) (ht : ∀ j, j < L → tx j < 256 ∧ gI S tt j = sb (tx j))
    (hy : ∀ q F J s, rBook tx L none q s → (∀ a, ¬ WBr k br ra mv a → F a = gI S a ∧ J a = gJ S a) → F k 1 = 0 → F k 9 = 0 → F k 10 = -1 → RdC F J br ra mv s.2.1 s.2.2.1 s.2.2.2 → OkB s.2.1 s.2.2.1 s.2.2.2 → Q 1 F J)
    (hf : ∀ f q F J s, rBook tx L (some f) q s → (∀ a, ¬ WBr k br ra mv a → F a = gI S a ∧ J a = gJ S a) → F k 1 = 0 → F k 9 = nI f → F k 10 = nI (sk tx L q) → Q 0 F J) : P_X1_takes br (nI L) S Q := by
  have hk := hX.1
  obtain ⟨e1, e2, e3, e4, e5, e6, e7, e8, e9, e10, e11, e12, e13⟩ := hB.e hk
  have r0 := hB.2.1
  refine ⟨hB.1, fun F1 e1' F2 e2' F3 e3' => ⟨k, r0, hk, ?_⟩⟩
  have on3 : ∀ a, a ≠ br → F3 a = gI S a := fun a ha => by rw [e3', up_ne ha, e2', up_ne ha, e1', up_ne ha]
  have tb : tt ≠ br := kd_ne hX.2.2.1 hB.1 (by decide)
  refine sp_open (S := wI S F3) (tx := tx) hX hL (fun j hj => by show _ ∧ F3 tt j = _; rw [on3 tt tb]; exact ht j hj) (fun F6 J6 f6 nj6 f61 f69 f610 X6 t6 => ?_)
  have f6' : ∀ a, a ≠ k → F6 a = F3 a := f6
  have fr6 : ∀ a, ¬ WBr k br ra mv a → F6 a = gI S a ∧ J6 a = gJ S a := fun a ha => ⟨by rw [f6' a (fun z => ha (Or.inl z)), on3 a (fun z => ha (Or.inr (Or.inl z)))], nj6.1 a (fun z => ha (Or.inl z))⟩
  have pack : ∀ {F : FI} {J : Nat → Nat → Int64}, FBk k br ra mv F6 F J6 J → (∀ a, ¬ WBr k br ra mv a → F a = gI S a ∧ J a = gJ S a) ∧ F k 1 = 0 := fun h => ⟨fun a ha => ⟨(h.1 a ha).1.trans (fr6 a ha).1, (h.1 a ha).2.trans (fr6 a ha).2⟩, (h.2 1 (by decide) (by decide) (by decide) (by decide) (by decide) (by decide)).trans f61⟩
  refine sp_takesStage (S := wA S F6 J6 (gR S)) hB X6 t6 (fun q0 F7 J7 rst q0L v4 v8 fb7 on7 b7 b71 s9 s10 t7 => ⟨fun _ => ?_, fun y => absurd y one0⟩) (fun f q F J rst fb s9 s10 => ⟨fun y => absurd rfl y, fun _ => hf f q F J (0, Bk0 4, 0, fun _ => []) (Or.inl ⟨f, rfl, rst⟩) (pack fb).1 (pack fb).2 s9 s10⟩)
  have fb7' : FBk k br ra mv F6 F7 J6 J7 := fb7
  have b7' : ∀ j, j ≠ 1 → F7 br j = F6 br j := b7
  have s9' : F7 k 9 = 0 := s9.trans f69
  have s10' : F7 k 10 = -1 := s10.trans f610
  have br6 : F6 br = F3 br := f6' br e1
  obtain ⟨n, hn⟩ : ∃ n, n = vl' tx L (nx tx L 0) := ⟨_, rfl⟩
  rw [← hn] at v4 v8 b71
  have R0 : RdC F7 J7 br ra mv (Bk0 n) 0 (fun _ => []) := by
    refine ⟨b71, ?_, ?_, ?_, ⟨fun _ => [], fun i hi => by have : i < 0 := hi; omega, fun w => ⟨fun ⟨i, i1, _⟩ => by have : i < 0 := i1; omega, fun h => ?_⟩⟩, fun i hi => by have : i < 0 := hi; omega⟩
    · rw [b7' 2 (by decide), br6, e3', up_no (by decide), e2', up_no (by decide), e1', up_at]; rfl
    · rw [b7' 3 (by decide), br6, e3', up_no (by decide), e2', up_at]; rfl
    · rw [b7' 4 (by decide), br6, e3', up_at]
      exact b_ext (fun j hj => by rw [b_0, msk_bt _ _ hj]; show false = (decide (j < n) && false); rw [Bool.and_false])
    · rcases h with ⟨i, i1, -⟩ | ⟨i, i1, -⟩
      · have : i < 0 := i1; omega
      · omega
  have O0 : OkB (Bk0 n) 0 (fun _ => []) := ⟨⟨v4, v8, Nat.zero_le _, fun m hm => by have : m < 0 := hm; omega⟩, Nat.zero_le _, fun i hi => by have : i < 0 := hi; omega, fun j hj => by omega⟩
  refine ⟨fun t x2 F J => ∃ i, ∃ st : Nat → Sb, t = 901 - i ∧ x2 = nI i ∧ i ≤ (st i).1 ∧ (st i).1 ≤ L ∧ st 0 = (q0, Bk0 n, 0, fun _ => []) ∧ (∀ j, j < i → tk tx L (st j).1 ≠ 1 ∧ rIt tx L (st j) none (st (j + 1)).1 (st (j + 1))) ∧ FBk k br ra mv F6 F J6 J ∧ F k 9 = 0 ∧ F k 10 = -1 ∧ TkC F J k tx L (st i).1 ∧ RdC F J br ra mv (st i).2.1 (st i).2.2.1 (st i).2.2.2 ∧ OkB (st i).2.1 (st i).2.2.1 (st i).2.2.2, ⟨901, 0, fun _ => (q0, Bk0 n, 0, fun _ => []), rfl, rfl, Nat.zero_le _, q0L, rfl, fun j hj => by omega, fb7', s9', s10', t7, R0, O0⟩, ?_⟩
  rintro t x2 F J ⟨i, st, rfl, rfl, hi1, hi2, st0, chain, fb, g9, g10, tti, Ri, Oi⟩
  refine ⟨fun y => absurd y (nI_nlt (a := 900) (by omega) (by decide)), fun _ => ?_⟩
  have Xi : TxC S F J k tt rv tx L := X6.fb hB fb
  have endq : rST tx L none q0 := rst
  refine sp_isAt (S := wA S F J (gR S)) hk tti (c := 1) (by decide) (fun e => ⟨fun _ => ?_, fun y => absurd y one0⟩) (fun ne1 => ⟨fun y => absurd rfl y, fun _ => ?_⟩)
  · exact hy (st i).1 F J (st i) (Or.inr ⟨q0, i, st, endq, by rw [← hn]; exact st0, chain, Or.inl ⟨e, rfl, rfl⟩⟩) (pack fb).1 (pack fb).2 g9 g10 Ri Oi
  · -- one item more, or a fault
    obtain ⟨⟨pi, Bi, Rr, rni⟩, hsi⟩ : ∃ s, s = st i := ⟨_, rfl⟩
    rw [← hsi] at hi1 hi2 tti Ri Oi ne1
    have okk : ∀ q F2 J2 s', rIt tx L (pi, Bi, Rr, rni) none q s' → s'.1 = q → q ≤ L → pi < q → FBk k br ra mv F F2 J J2 → F2 k 9 = F k 9 → F2 k 10 = F k 10 → TkC F2 J2 k tx L q → RdC F2 J2 br ra mv s'.2.1 s'.2.2.1 s'.2.2.2 → OkB s'.2.1 s'.2.2.1 s'.2.2.2 → ∀ v, v = nI i + 1 → ∃ k', k' < 901 - i ∧ ∃ i', ∃ st : Nat → Sb, k' = 901 - i' ∧ v = nI i' ∧ i' ≤ (st i').1 ∧ (st i').1 ≤ L ∧ st 0 = (q0, Bk0 n, 0, fun _ => []) ∧ (∀ j, j < i' → tk tx L (st j).1 ≠ 1 ∧ rIt tx L (st j) none (st (j + 1)).1 (st (j + 1))) ∧ FBk k br ra mv F6 F2 J6 J2 ∧ F2 k 9 = 0 ∧ F2 k 10 = -1 ∧ TkC F2 J2 k tx L (st i').1 ∧ RdC F2 J2 br ra mv (st i').2.1 (st i').2.2.1 (st i').2.2.2 ∧ OkB (st i').2.1 (st i').2.2.1 (st i').2.2.2 := fun q F2 J2 s' it sq qL pq fb2 u9 u10 t2 R2 O2 v ev => by
      have pi' : i ≤ pi := hi1
      refine ⟨901 - (i + 1), by omega, i + 1, setg st (i + 1) s', rfl, by rw [ev]; exact nI_1 i, ?_, ?_, ?_, fun j hj => ?_, fb.tr fb2, u9.trans g9, u10.trans g10, ?_, ?_, ?_⟩
      · rw [setg_at, sq]; omega
      · rw [setg_at, sq]; exact qL
      · rw [setg_no (by omega)]; exact st0
      · by_cases cj : j = i
        · subst cj
          rw [setg_no (by omega), setg_at, ← hsi, sq]
          exact ⟨ne1, it⟩
        · rw [setg_no (by omega), setg_no (by omega)]
          exact chain j (by omega)
      · rw [setg_at, sq]; exact t2
      · rw [setg_at]; exact R2
      · rw [setg_at]; exact O2
    have bad : ∀ f q F2 J2 s', rIt tx L (pi, Bi, Rr, rni) (some f) q s' → FBk k br ra mv F F2 J J2 → F2 k 9 = nI f → F2 k 10 = nI (sk tx L q) → Q 0 F2 J2 := fun f q F2 J2 s' it fb2 u9 u10 => hf f q F2 J2 (st i) (Or.inr ⟨q0, i, st, endq, by rw [← hn]; exact st0, chain, Or.inr ⟨by rw [← hsi]; exact ne1, f, s', rfl, by rw [← hsi]; exact it⟩⟩) (pack (fb.tr fb2)).1 (pack (fb.tr fb2)).2 u9 u10
    refine sp_isAt (S := wA S F J (gR S)) hk tti (c := 7) (by decide) (fun e7' => ⟨fun r F2 J2 => (¬ r = 0 → ∀ v, v = nI i + 1 → ∃ k', k' < 901 - i ∧ ∃ i', ∃ st : Nat → Sb, k' = 901 - i' ∧ v = nI i' ∧ i' ≤ (st i').1 ∧ (st i').1 ≤ L ∧ st 0 = (q0, Bk0 n, 0, fun _ => []) ∧ (∀ j, j < i' → tk tx L (st j).1 ≠ 1 ∧ rIt tx L (st j) none (st (j + 1)).1 (st (j + 1))) ∧ FBk k br ra mv F6 F2 J6 J2 ∧ F2 k 9 = 0 ∧ F2 k 10 = -1 ∧ TkC F2 J2 k tx L (st i').1 ∧ RdC F2 J2 br ra mv (st i').2.1 (st i').2.2.1 (st i').2.2.2 ∧ OkB (st i').2.1 (st i').2.2.1 (st i').2.2.2) ∧ (r = 0 → Q 0 F2 J2), fun _ _ _ h => h, fun y => absurd y one0, fun _ => ?_⟩) (fun ne7 => ⟨fun r F2 J2 => (¬ r = 0 → ∀ v, v = nI i + 1 → ∃ k', k' < 901 - i ∧ ∃ i', ∃ st : Nat → Sb, k' = 901 - i' ∧ v = nI i' ∧ i' ≤ (st i').1 ∧ (st i').1 ≤ L ∧ st 0 = (q0, Bk0 n, 0, fun _ => []) ∧ (∀ j, j < i' → tk tx L (st j).1 ≠ 1 ∧ rIt tx L (st j) none (st (j + 1)).1 (st (j + 1))) ∧ FBk k br ra mv F6 F2 J6 J2 ∧ F2 k 9 = 0 ∧ F2 k 10 = -1 ∧ TkC F2 J2 k tx L (st i').1 ∧ RdC F2 J2 br ra mv (st i').2.1 (st i').2.2.1 (st i').2.2.2 ∧ OkB (st i').2.1 (st i').2.2.1 (st i').2.2.2) ∧ (r = 0 → Q 0 F2 J2), fun _ _ _ h => h, fun _ => ?_, fun y => absurd rfl y⟩)
    · exact sp_takesMethod (S := wA S F J (gR S)) hB Xi tti hi2 Ri Oi e7' (fun q F2 J2 s' it sq qL pq fb2 u9 u10 t2 R2 O2 => ⟨fun _ => okk q F2 J2 s' it sq qL pq fb2 u9 u10 t2 R2 O2, fun y => absurd y one0⟩) (fun f q F2 J2 s' it fb2 u9 u10 => ⟨fun y => absurd rfl y, fun _ => bad f q F2 J2 s' it fb2 u9 u10⟩)
    · refine sp_isAt (S := wA S F J (gR S)) hk tti (c := 12) (by decide) (fun e12' => ⟨fun y => absurd y one0, fun _ => ?_⟩) (fun ne12 => ⟨fun _ => ?_, fun y => absurd rfl y⟩)
      · exact sp_takesRinger (S := wA S F J (gR S)) hB Xi tti hi2 Ri Oi e12' (fun q F2 J2 s' it sq qL pq fb2 u9 u10 t2 R2 O2 => ⟨fun _ => okk q F2 J2 s' it sq qL pq fb2 u9 u10 t2 R2 O2, fun y => absurd y one0⟩) (fun f q F2 J2 s' it fb2 u9 u10 => ⟨fun y => absurd rfl y, fun _ => bad f q F2 J2 s' it fb2 u9 u10⟩)
      · exact sp_misplaced (S := wA S F J (gR S)) hk tti (fun F2 fl => ⟨fun y => absurd rfl y, fun _ => bad _ pi F2 J (pi, Bi, Rr, rni) (Or.inr (Or.inr ⟨ne7, ne12, rfl, rfl⟩)) (FBk.fl fl) fl.2.2.1 fl.2.2.2⟩)
end TR
