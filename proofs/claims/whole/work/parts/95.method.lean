/-! A method is read. -/
def WBr (k br : Nat) (ra mv : Nat → Nat) (e : Nat) : Prop := e = k ∨ e = br ∨ e = ra 6 ∨ e = ra 7 ∨ e = ra 9 ∨ e = ra 10 ∨ e = ra 11 ∨ ∃ i, i < 4 ∧ e = mv i
def FBk (k br : Nat) (ra mv : Nat → Nat) (G F : FI) (GJ J : Nat → Nat → Int64) : Prop := (∀ a, ¬ WBr k br ra mv a → F a = G a ∧ J a = GJ a) ∧ ∀ j, j ≠ 4 → j ≠ 5 → j ≠ 6 → j ≠ 7 → j ≠ 9 → j ≠ 10 → F k j = G k j
/-- what is read is well made -/
def rNB (n : Nat) (tx : Nat → Nat) (L : Nat) (B : Bk) (p : Nat) (o : Option Nat) (q : Nat) : Prop := (tk tx L p = 3 ∧ (1 ≤ vl' tx L p ∧ vl' tx L p ≤ n) ∧ brr B (vl' tx L p - 1) = false ∧ o = none ∧ q = nx tx L p) ∨ (tk tx L p = 3 ∧ (1 ≤ vl' tx L p ∧ vl' tx L p ≤ n) ∧ brr B (vl' tx L p - 1) = true ∧ o = some 5 ∧ q = p) ∨ (tk tx L p = 3 ∧ ¬ (1 ≤ vl' tx L p ∧ vl' tx L p ≤ n) ∧ o = some 4 ∧ q = p) ∨ (tk tx L p ≠ 3 ∧ o = some (mis tx L p) ∧ q = p)
def addR (B : Bk) (b : Nat) : Bk := (bn B, bM B, bl B, bv B, bc B, fun q => brr B q || decide (q = b), bnm B)
abbrev Sb : Type := Nat × Bk × Nat × (Nat → List Nat)
def rIt (tx : Nat → Nat) (L : Nat) (s : Sb) (o : Option Nat) (q : Nat) (s' : Sb) : Prop :=
  (tk tx L s.1 = 7 ∧ ((4 ≤ bM s.2.1 ∧ o = some 6 ∧ q = s.1) ∨ (bM s.2.1 < 4 ∧ ∃ D, rMD (bn s.2.1) tx L (usedN s.2.1 s.2.2.1 s.2.2.2) s.1 D o q ∧ s' = (q, addM s.2.1 D, s.2.2.1, s.2.2.2)))) ∨
  (tk tx L s.1 = 12 ∧ ((8 ≤ s.2.2.1 ∧ o = some 6 ∧ q = s.1) ∨ (s.2.2.1 < 8 ∧ thn (rNN tx L (usedN s.2.1 s.2.2.1 s.2.2.2) (nx tx L s.1)) (fun q1 => thn (rNB (bn s.2.1) tx L s.2.1 q1) (rSG tx L)) o q ∧ s' = (q, addR s.2.1 (vl' tx L (nx tx L (nx tx L s.1)) - 1), s.2.2.1 + 1, setg s.2.2.2 s.2.2.1 (wd tx L (nx tx L s.1)))))) ∨
  (tk tx L s.1 ≠ 7 ∧ tk tx L s.1 ≠ 12 ∧ o = some (mis tx L s.1) ∧ q = s.1)
section TM
variable {S : St} {k br rv tt M : Nat} {ra mv : Nat → Nat} {tx : Nat → Nat} {L p : Nat} {G F F2 : FI} {GJ J J2 : Nat → Nat → Int64} {B : Bk} {R : Nat} {rn : Nat → List Nat}
theorem FBk.rf : FBk k br ra mv G G GJ GJ := ⟨fun _ _ => ⟨rfl, rfl⟩, fun _ _ _ _ _ _ _ => rfl⟩
theorem FBk.tr (h : FBk k br ra mv G F GJ J) (h2 : FBk k br ra mv F F2 J J2) : FBk k br ra mv G F2 GJ J2 := ⟨fun a ha => ⟨((h2.1 a ha).1).trans (h.1 a ha).1, ((h2.1 a ha).2).trans (h.1 a ha).2⟩, fun j y1 y2 y3 y4 y5 y6 => (h2.2 j y1 y2 y3 y4 y5 y6).trans (h.2 j y1 y2 y3 y4 y5 y6)⟩
theorem FBk.fm (hM : M < 4) (h : FMd k br ra mv M G F GJ J) : FBk k br ra mv G F GJ J := ⟨fun a ha => ⟨h.1 a (fun z => ha (Or.inl z)) (fun z => ha (Or.inr (Or.inl z))) (fun z => ha (Or.inr (Or.inr (Or.inr (Or.inr (Or.inl z)))))) (fun z => ha (Or.inr (Or.inr (Or.inr (Or.inr (Or.inr (Or.inr (Or.inr ⟨M, hM, z⟩)))))))), h.2.2.2.2 a (fun z => ha (Or.inl z))⟩, h.2.2.2.1⟩
theorem FBk.nx (h : NxF k G F) (hj : NxJ k GJ J) : FBk k br ra mv G F GJ J := ⟨fun a ha => ⟨h.1 a (fun z => ha (Or.inl z)), hj.1 a (fun z => ha (Or.inl z))⟩, fun j y1 y2 y3 y4 _ _ => h.2 j y1 y2 y3 y4⟩
theorem FBk.fl {f s : Nat} (h : FlC k f s G F) : FBk k br ra mv G F GJ GJ := ⟨fun a ha => ⟨h.1 a (fun z => ha (Or.inl z)), rfl⟩, fun j _ _ _ _ y5 y6 => h.2.1 j y5 y6⟩
theorem FBk.u {a j : Nat} {v : Int32} (hw : WBr k br ra mv a) (hk : a ≠ k) : FBk k br ra mv G (upI G a j v) GJ GJ := ⟨fun b hb => ⟨up_ne (fun z => hb (by rw [z]; exact hw)), rfl⟩, fun i _ _ _ _ _ _ => by rw [up_ne (Ne.symm hk)]⟩
theorem FBk.uJ {a j : Nat} {v : Int64} (hw : WBr k br ra mv a) : FBk k br ra mv G G GJ (upJ GJ a j v) := ⟨fun b hb => ⟨rfl, upJ_ne (fun z => hb (by rw [z]; exact hw))⟩, fun i _ _ _ _ _ _ => rfl⟩
theorem TxC.fb (hX : TxC S G GJ k tt rv tx L) (hB : BrX S br k rv ra mv) (h : FBk k br ra mv G F GJ J) : TxC S F J k tt rv tx L := by
  have t20 := hX.2.2.1
  have hB' := hB
  obtain ⟨h1, -, ⟨-, k6, -⟩, ⟨-, k7, -⟩, -, ⟨-, k9, -⟩, ⟨-, k10, -⟩, ⟨-, k11, -⟩, hmv, -, -, -, -, -, -, n6, n7⟩ := hB'
  have w1 : ¬ WBr k br ra mv tt := fun z => by
    rcases z with z | z | z | z | z | z | z | ⟨i, hi, z⟩
    · exact hX.kt.1 z
    · exact kd_ne t20 h1 (by decide) z
    · exact kd_ne t20 k6 (by decide) z
    · exact kd_ne t20 k7 (by decide) z
    · exact kd_ne t20 k9 (by decide) z
    · exact kd_ne t20 k10 (by decide) z
    · exact kd_ne t20 k11 (by decide) z
    · exact kd_ne t20 (hmv i hi).2.1 (by decide) z
  have r22 := hX.2.2.2.2.2.2.2.2.1
  have w2 : ¬ WBr k br ra mv rv := fun z => by
    rcases z with z | z | z | z | z | z | z | ⟨i, hi, z⟩
    · exact hX.kt.2 z
    · exact kd_ne r22 h1 (by decide) z
    · exact n6 z
    · exact n7 z
    · exact kd_ne r22 k9 (by decide) z
    · exact kd_ne r22 k10 (by decide) z
    · exact kd_ne r22 k11 (by decide) z
    · exact kd_ne r22 (hmv i hi).2.1 (by decide) z
  exact hX.cg (h.2 3 (by decide) (by decide) (by decide) (by decide) (by decide) (by decide)) (h.1 tt w1).1 (h.1 rv w2).2
theorem bok_add {D : Md} (hb : bok B) (hM : bM B < 4) (h1 : 1 ≤ D.2.1) (h2 : D.2.1 ≤ 32) (h3 : ∀ j, j < D.2.1 → Sw (bn B) (D.2.2.1 j)) (h4 : Sw (bn B) D.2.2.2.1) (h5 : Sw (bn B) D.2.2.2.2) : bok (addM B D) := by
  obtain ⟨b1, b2, b3, b4⟩ := hb
  refine ⟨b1, b2, by show bM B + 1 ≤ 4; omega, fun m hm => ?_⟩
  have hm' : m < bM B + 1 := hm
  show 1 ≤ setg (bl B) (bM B) D.2.1 m ∧ setg (bl B) (bM B) D.2.1 m ≤ 32 ∧ (∀ k, k < setg (bl B) (bM B) D.2.1 m → Sw (bn B) (setg (bv B) (bM B) D.2.2.1 m k)) ∧ ∀ c, 1 ≤ c → c ≤ 2 → Sw (bn B) (setg (bc B) (bM B) (fun c => if c = 1 then D.2.2.2.1 else D.2.2.2.2) m c)
  by_cases c : m = bM B
  · subst c
    rw [setg_at, setg_at, setg_at]
    refine ⟨h1, h2, h3, fun c _ _ => ?_⟩
    show Sw (bn B) (if c = 1 then D.2.2.2.1 else D.2.2.2.2)
    by_cases c1 : c = 1
    · rw [if_pos c1]; exact h4
    · rw [if_neg c1]; exact h5
  · rw [setg_no c, setg_no c, setg_no c]
    exact b4 m (by omega)
theorem np_sw {n q1 c : Nat} (hg : ∀ j, j < c → PLg n tx L (np tx L q1 j)) (h1 : 1 ≤ c) {q2 : Nat} (h9 : tk tx L q2 = 9 → PLg n tx L (nx tx L q2)) : ∀ j, j < mln tx L c q2 → Sw n (sws n tx L q1 c q2 j) := fun j hj => by
  unfold sws
  unfold mln at hj
  by_cases c1 : j < c
  · rw [if_pos c1]; exact (hg j c1).sw
  · by_cases c9 : tk tx L q2 = 9
    · rw [if_pos c9] at hj
      rw [if_neg c1]
      by_cases c2 : j < 2 * c - 1
      · rw [if_pos c2]; exact (hg _ (by omega)).sw
      · rw [if_neg c2]; exact (h9 c9).sw
    · rw [if_neg c9] at hj; omega
theorem rPL_n {n q : Nat} (h : rPL n tx L p none q) : PLg n tx L p ∧ q = nx tx L p := by
  rcases h with ⟨h1, h2, h3⟩ | ⟨f, h1, h2, h3⟩
  · exact ⟨h1, h3⟩
  · cases h2
theorem rBK_n {n c q : Nat} (h : rBK n tx L c p none q) : (tk tx L p = 9 → PLg n tx L (nx tx L p) ∧ 2 * c ≤ 32 ∧ q = nx tx L (nx tx L p)) ∧ (tk tx L p ≠ 9 → q = p) := by
  rcases h with ⟨h1, -, h3⟩ | ⟨h1, h2, h3, h4⟩ | ⟨h1, h2, h3⟩
  · exact ⟨fun y => absurd y h1, fun _ => h3⟩
  · cases h3
  · have := rPL_n h3
    exact ⟨fun _ => ⟨this.1, h2, this.2⟩, fun y => absurd h1 y⟩
theorem rCL_n {n c q : Nat} (h : rCL n tx L c p none q) : (tk tx L p = c → PLg n tx L (nx tx L p) ∧ q = nx tx L (nx tx L p)) ∧ (tk tx L p ≠ c → q = p) := by
  rcases h with ⟨h1, -, h3⟩ | ⟨h1, h3⟩
  · exact ⟨fun y => absurd y h1, fun _ => h3⟩
  · have := rPL_n h3
    exact ⟨fun _ => this, fun y => absurd h1 y⟩
theorem mln_b {c q2 n q3 : Nat} (h1 : 1 ≤ c) (h2 : c ≤ 32) (hb : rBK n tx L c q2 none q3) : 1 ≤ mln tx L c q2 ∧ mln tx L c q2 ≤ 32 := by
  unfold mln
  by_cases e : tk tx L q2 = 9
  · rw [if_pos e]
    have := ((rBK_n hb).1 e).2.1
    omega
  · rw [if_neg e]; omega
theorem sp_takesMethod {Q : Int32 → FI → (Nat → Nat → Int64) → Prop} (hB : BrX S br k rv ra mv) (hX : TxC S (gI S) (gJ S) k tt rv tx L) (hT : TkC (gI S) (gJ S) k tx L p) (hp : p ≤ L) (hR : RdC (gI S) (gJ S) br ra mv B R rn) (hO : OkB B R rn) (h7 : tk tx L p = 7)
    (hy : ∀ q F J s', rIt tx L (p, B, R, rn) none q s' → s'.1 = q → q ≤ L → p < q → FBk k br ra mv (gI S) F (gJ S) J → F k 9 = gI S k 9 → F k 10 = gI S k 10 → TkC F J k tx L q → RdC F J br ra mv s'.2.1 s'.2.2.1 s'.2.2.2 → OkB s'.2.1 s'.2.2.1 s'.2.2.2 → Q 1 F J)
    (hf : ∀ f q F J s', rIt tx L (p, B, R, rn) (some f) q s' → FBk k br ra mv (gI S) F (gJ S) J → F k 9 = nI f → F k 10 = nI (sk tx L q) → Q 0 F J) : P_X1_takesMethod br S Q := by
  have hk := hX.1
  have hB' := hB
  obtain ⟨-, r0, ⟨r6, k6, l6⟩, ⟨r7, k7, l7⟩, ⟨r8, k8, l8⟩, ⟨r9, k9, l9⟩, ⟨r10, k10, l10⟩, ⟨r11, k11, l11⟩, hmv, hmm, hm9, n910, n911, n1011, n67, nv6, nv7⟩ := hB'
  obtain ⟨e1, e2, e3, e4, e5, e6, e7, e8, e9, e10, e11, e12, e13⟩ := hB.e hk
  obtain ⟨d1, d2, d3, d4, ⟨nms, dN, dU⟩, dM⟩ := hR
  obtain ⟨ob, oR, on1, on2⟩ := hO
  have hM4 := ob.2.2.1
  have n4 := ob.1
  have n8 := ob.2.1
  refine ⟨hB.1, ?_⟩
  rw [d2]
  refine ⟨fun hlt0 => ⟨k, r0, hk, ?_⟩, fun hge => ⟨k, r0, hk, sp_wrong (f := 6) hk hT.1 (fun F fl => ⟨Or.inl rfl, hf 6 p F (gJ S) (p, B, R, rn) (Or.inl ⟨h7, Or.inl ⟨?_, rfl, rfl⟩⟩) (FBk.fl fl) fl.2.2.1 fl.2.2.2⟩)⟩⟩
  case refine_2 =>
    rcases Nat.lt_or_ge (bM B) 4 with z | z
    · exact absurd (nI_lt (b := 4) z (by decide)) hge
    · exact z
  have hM : bM B < 4 := by
    rcases Nat.lt_or_ge (bM B) 4 with z | z
    · exact z
    · exact absurd hlt0 (nI_nlt (b := 4) z (by omega))
  obtain ⟨rM, kM, lM⟩ := hmv (bM B) hM
  obtain ⟨m9, m10, m11⟩ := hm9 (bM B) hM
  have nl1 := nx_le (tx := tx) hp
  have pp1 : p < nx tx L p := nl1.2.2.2.1 (by omega)
  refine sp_next hX hT.2.1 nl1.2.2.1 (fun F4 J4 nf4 nj4 t4 => ⟨ra 7, r7, k7, ?_⟩)
  have f42 : F4 br 2 = nI (bM B) := by rw [nf4.1 br e1]; exact d2
  rw [f42, l7, nI_clamp (by omega)]
  refine ⟨vp_in_nI hM (by decide), fun v8 e8' J9 e9' => ?_⟩
  have fb9 : FBk k br ra mv (gI S) F4 (gJ S) J9 := (FBk.nx nf4 nj4).tr (by rw [e9']; exact FBk.uJ (Or.inr (Or.inr (Or.inr (Or.inl rfl)))))
  have j9k : J9 k = J4 k := by rw [e9', upJ_ne (Ne.symm e3)]
  have j96 : J9 (ra 6) = gJ S (ra 6) := by rw [e9', upJ_ne n67, nj4.1 _ e2]
  have tail : ∀ {o q D}, rMD (bn B) tx L (usedN B R rn) p D o q → rIt tx L (p, B, R, rn) o q (q, addM B D, R, rn) := fun h => Or.inl ⟨h7, Or.inr ⟨hM, _, h, rfl⟩⟩
  obtain ⟨Dd⟩ : Nonempty Md := ⟨([], 0, fun _ _ => false, fun _ => false, fun _ => false)⟩
  refine sp_newName (S := wA S F4 J9 (gR S)) (B := B) (R := R) (rn := rn) (nms := nms) hB (hX.fb hB fb9) (t4.cg rfl j9k) nl1.2.2.1 f42 (by show F4 br 3 = _; rw [nf4.1 br e1]; exact d3) (by omega) (fun i hi => by show J9 (ra 6) i = _ ∧ _; rw [j96]; exact dN i hi) dU (fun e4' nu F10 J10 nf10 nj10 n610 t10 => ⟨fun y => absurd y one0, fun _ => ?_⟩) (fun f q F fn fl => ⟨fun _ => hf f q F J9 _ (tail (D := Dd) (thn_f fn)) (fb9.tr (FBk.fl fl)) fl.2.2.1 fl.2.2.2, fun y => absurd rfl y⟩)
  have nf10' : NxF k F4 F10 := nf10
  have fb10 : FBk k br ra mv (gI S) F10 (gJ S) J10 := fb9.tr ⟨fun a ha => ⟨nf10'.1 a (fun z => ha (Or.inl z)), nj10 a (fun z => ha (Or.inl z)) (fun z => ha (Or.inr (Or.inr (Or.inl z))))⟩, fun j y1 y2 y3 y4 _ _ => nf10'.2 j y1 y2 y3 y4⟩
  have rnn' : rNN tx L (usedN B R rn) (nx tx L p) none (nx tx L (nx tx L p)) := Or.inl ⟨e4', nu, rfl, rfl⟩
  have nl2 := nx_le (tx := tx) nl1.2.2.1
  have X10 := hX.fb hB fb10
  have s10 : ∀ j, F10 br j = gI S br j := fun j => by rw [nf10'.1 br e1, nf4.1 br e1]
  refine sp_takesChanges (S := wA S F10 J10 (gR S)) (n := bn B) (M := bM B) hB X10 t10 nl2.2.2.1 ((s10 1).trans d1) ((s10 2).trans d2) n4 n8 hM (fun c q2 F12 J12 rch q2L q2p fm12 y9 y10 t12 l12 m12 => ⟨fun y => absurd y one0, fun _ => ?_⟩) (fun c f q F J rch fm y9 y10 => ⟨fun _ => hf f q F J _ (tail (D := Dd) (thn_y rnn' ⟨c, thn_f rch⟩)) (fb10.tr (FBk.fm hM fm)) y9 y10, fun y => absurd rfl y⟩)
  have fm12' : FMd k br ra mv (bM B) F10 F12 J10 J12 := fm12
  have fb12 := fb10.tr (FBk.fm hM fm12')
  obtain ⟨c32, hg, q2e, rest⟩ := rch
  obtain ⟨c1, nPt⟩ : 1 ≤ c ∧ ¬ PLt tx L q2 := by
    rcases rest with ⟨-, h1, h2⟩ | ⟨f, h1, -⟩ | ⟨h1, -⟩
    · exact ⟨h1, h2⟩
    · cases h1
    · cases h1
  have rch : rCH (bn B) tx L (nx tx L (nx tx L p)) c none q2 := ⟨c32, hg, q2e, Or.inl ⟨rfl, c1, nPt⟩⟩
  have s12 : ∀ j, j ≠ 5 → F12 br j = gI S br j := fun j hj => (fm12'.2.1 j hj).trans (s10 j)
  refine sp_takesBack (S := wA S F12 J12 (gR S)) (n := bn B) (M := bM B) (c := c) hB (hX.fb hB fb12) t12 q2L ((s12 1 (by decide)).trans d1) ((s12 2 (by decide)).trans d2) n4 n8 hM l12 c1 c32 (fun q3 F14 J14 rbk q3L q3p fm14 z9 z10 t14 l14 lo14 hi14 => ⟨fun _ => ?_, fun y => absurd y one0⟩) (fun f q F J rbk fm y9' y10' => ⟨fun y => absurd rfl y, fun _ => hf f q F J _ (tail (D := Dd) (thn_y rnn' ⟨c, thn_y rch (thn_f rbk)⟩)) (fb12.tr (FBk.fm hM fm)) y9' y10'⟩)
  have fm14' : FMd k br ra mv (bM B) F12 F14 J12 J14 := fm14
  have fb14 := fb12.tr (FBk.fm hM fm14')
  have s14 : ∀ j, j ≠ 5 → F14 br j = gI S br j := fun j hj => (fm14'.2.1 j hj).trans (s12 j hj)
  obtain ⟨ml1, ml32⟩ := mln_b c1 c32 rbk
  obtain ⟨len, hlen⟩ : ∃ len, len = mln tx L c q2 := ⟨_, rfl⟩
  rw [← hlen] at ml1 ml32 l14
  obtain ⟨sw, hsw⟩ : ∃ sw, sw = sws (bn B) tx L (nx tx L (nx tx L p)) c q2 := ⟨_, rfl⟩
  have swok : ∀ j, j < len → Sw (bn B) (sw j) := by rw [hsw, hlen]; exact np_sw hg c1 (fun e => ((rBK_n rbk).1 e).1)
  -- the changes that stand there now
  have mv14 : ∀ j, j < len → F14 (mv (bM B)) j = nI (pak (mvf (sw j)) (bn B)) := fun j hj => by
    rw [hsw]
    unfold sws
    by_cases cj : j < c
    · rw [if_pos cj, lo14 j cj]; exact m12 j cj
    · have e9q : tk tx L q2 = 9 := by
        rw [hlen] at hj
        unfold mln at hj
        by_cases e : tk tx L q2 = 9
        · exact e
        · rw [if_neg e] at hj; omega
      obtain ⟨hh1, hh2⟩ := hi14 e9q
      have l2 : len = 2 * c := by rw [hlen]; unfold mln; rw [if_pos e9q]
      rw [if_neg cj]
      by_cases cj2 : j < 2 * c - 1
      · rw [if_pos cj2, hh1 j (by omega) cj2]; exact m12 _ (by omega)
      · rw [if_neg cj2, show j = 2 * c - 1 by omega]; exact hh2
  have b14 : F14 br 2 = nI (bM B) := (s14 2 (by decide)).trans d2
  refine ⟨ra 9, r9, k9, ?_⟩
  rw [b14, l9, nI_clamp (by omega), l14]
  refine ⟨vp_in_nI hM (by decide), fun t => t = nI (pak (mvf (sw (len - 1))) (bn B)), ?_, fun y => ?_, fun _ => ⟨ra 8, r8, k8, by rw [l8]; exact vp_in_nI hM (by decide), mv (bM B), rM, kM, ?_⟩⟩
  case refine_2 =>
    have : len ≤ 0 := (nI_leI (b := 0) (by omega) (by decide)).mp y
    omega
  case refine_3 =>
    rw [sub1 ml1, lM]
    exact ⟨vp_in_nI (by omega) (by decide), by rw [nI_clamp (by omega)]; exact mv14 _ (by omega)⟩
  rintro _ rfl
  refine sp_takesCall (S := wA S F14 J14 (gR S)) (n := bn B) (M := bM B) (c := 10) hB (hX.fb hB fb14) t14 q3L ((s14 1 (by decide)).trans d1) n4 n8 (by decide) hM (fun q4 F22 J22 rc4 q4L q4p fm22 u9 u10 ul um t22 u5 => ⟨fun _ => ?_, fun y => absurd y one0⟩) (fun f q F J rc fm y9' y10' => ⟨fun y => absurd rfl y, fun _ => hf f q F J _ (tail (D := Dd) (thn_y rnn' ⟨c, thn_y rch (thn_y rbk (thn_f rc))⟩)) (fb14.tr (FBk.fm hM fm)) y9' y10'⟩)
  have fm22' : FMd k br ra mv (bM B) F14 F22 J14 J22 := fm22
  have fb22 := fb14.tr (FBk.fm hM fm22')
  have s22 : ∀ j, j ≠ 5 → F22 br j = gI S br j := fun j hj => (fm22'.2.1 j hj).trans (s14 j hj)
  have b22 : F22 br 2 = nI (bM B) := (s22 2 (by decide)).trans d2
  refine ⟨ra 10, r10, k10, ?_⟩
  rw [b22, l10, nI_clamp (by omega)]
  refine ⟨vp_in_nI hM (by decide), fun v27 e27 F28 e28 => ?_⟩
  have fb28 : FBk k br ra mv (gI S) F28 (gJ S) J22 := fb22.tr (by rw [e28]; exact FBk.u (Or.inr (Or.inr (Or.inr (Or.inr (Or.inr (Or.inl rfl)))))) e5)
  have k28 : F28 k = F22 k := by rw [e28, up_ne (Ne.symm e5)]
  have br28 : F28 br = F22 br := by rw [e28, up_ne (Ne.symm e9)]
  refine sp_takesCall (S := wA S F28 J22 (gR S)) (n := bn B) (M := bM B) (c := 11) hB (hX.fb hB fb28) (t22.cg k28 rfl) q4L (by show F28 br 1 = _; rw [br28]; exact (s22 1 (by decide)).trans d1) n4 n8 (by decide) hM (fun q5 F29 J29 rc5 q5L q5p fm29 w9 w10 wl wm t29 w5 => ⟨fun _ => ?_, fun y => absurd y one0⟩) (fun f q F J rc fm y9' y10' => ⟨fun y => absurd rfl y, fun _ => hf f q F J _ (tail (D := Dd) (thn_y rnn' ⟨c, thn_y rch (thn_y rbk (thn_y rc4 (thn_f rc)))⟩)) (fb28.tr (FBk.fm hM fm)) y9' y10'⟩)
  have fm29' : FMd k br ra mv (bM B) F28 F29 J22 J29 := fm29
  have fb29 := fb28.tr (FBk.fm hM fm29')
  have s29 : ∀ j, j ≠ 5 → F29 br j = gI S br j := fun j hj => (fm29'.2.1 j hj).trans (by rw [br28]; exact s22 j hj)
  have b29 : F29 br 2 = nI (bM B) := (s29 2 (by decide)).trans d2
  refine ⟨ra 11, r11, k11, ?_⟩
  rw [b29, l11, nI_clamp (by omega)]
  refine ⟨vp_in_nI hM (by decide), fun v34 e34 F35 e35 v36 e36 F37 e37 => ?_⟩
  have fb37 : FBk k br ra mv (gI S) F37 (gJ S) J29 := by
    rw [e37, e35]
    exact (fb29.tr (FBk.u (Or.inr (Or.inr (Or.inr (Or.inr (Or.inr (Or.inr (Or.inl rfl))))))) e6)).tr (FBk.u (Or.inr (Or.inl rfl)) e1)
  have k37 : F37 k = F29 k := by rw [e37, up_ne (Ne.symm e1), e35, up_ne (Ne.symm e6)]
  have v36e : v36 = nI (bM B + 1) := by rw [e36, e35, up_ne (Ne.symm e10), b29, nI_1]
  have flt : ∀ j, j = 9 ∨ j = 10 → F37 k j = gI S k j := fun j hj => by
    rw [k37]
    have z1 : F4 k j = gI S k j := nf4.2 j (by omega) (by omega) (by omega) (by omega)
    have z2 : F10 k j = F4 k j := nf10'.2 j (by omega) (by omega) (by omega) (by omega)
    rcases hj with rfl | rfl
    · exact w9.trans (by show F28 k 9 = _; rw [k28]; exact u9.trans (z9.trans (y9.trans (z2.trans z1))))
    · exact w10.trans (by show F28 k 10 = _; rw [k28]; exact u10.trans (z10.trans (y10.trans (z2.trans z1))))
  refine sp_take (S := wA S F37 J29 (gR S)) (c := 2) (hX.fb hB fb37) (t29.cg k37 rfl) q5L (by decide) (fun e2' F38 J38 nf38 nj38 t38 => ⟨Or.inr rfl, ?_⟩) (fun e2' F38 fl => ⟨Or.inl rfl, hf _ q5 F38 J29 _ (tail (D := Dd) (thn_y rnn' ⟨c, thn_y rch (thn_y rbk (thn_y rc4 (thn_y rc5 ⟨Or.inr ⟨e2', rfl, rfl⟩, fun y => by cases y⟩)))⟩)) (fb37.tr (FBk.fl fl)) fl.2.2.1 fl.2.2.2⟩)
  have nf38' : NxF k F37 F38 := nf38
  have nj38' : NxJ k J29 J38 := nj38
  have nl5 := nx_le (tx := tx) q5L
  obtain ⟨D, hD⟩ : ∃ D, D = mkD (bn B) tx L (wd tx L (nx tx L p)) (nx tx L (nx tx L p)) c q2 q3 q4 := ⟨_, rfl⟩
  have D1 : D.1 = wd tx L (nx tx L p) := by rw [hD]; rfl
  have D2 : D.2.1 = len := by rw [hD, hlen]; rfl
  have D3 : D.2.2.1 = sw := by rw [hD, hsw]; rfl
  have D4 : D.2.2.2.1 = if tk tx L q3 = 10 then psw (bn B) tx L (nx tx L q3) else sw (len - 1) := by rw [hD, hsw, hlen]; rfl
  have D5 : D.2.2.2.2 = if tk tx L q4 = 11 then psw (bn B) tx L (nx tx L q4) else sw (len - 1) := by rw [hD, hsw, hlen]; rfl
  have sw4 : Sw (bn B) D.2.2.2.1 := by
    rw [D4]
    by_cases e : tk tx L q3 = 10
    · rw [if_pos e]; exact ((rCL_n rc4).1 e).1.sw
    · rw [if_neg e]; exact swok _ (by omega)
  have sw5 : Sw (bn B) D.2.2.2.2 := by
    rw [D5]
    by_cases e : tk tx L q4 = 11
    · rw [if_pos e]; exact ((rCL_n rc5).1 e).1.sw
    · rw [if_neg e]; exact swok _ (by omega)
  have w4' : 4 ≤ tk tx L (nx tx L p) := by omega
  obtain ⟨wo, wl'⟩ := wd_ok w4'
  have w8 : (wd tx L (nx tx L p)).length ≤ 8 := by
    obtain ⟨-, -, -, -, x5⟩ := tk_word w4'
    rw [wl']
    by_cases c : nx tx L (nx tx L p) - sk tx L (nx tx L p) ≤ 8
    · exact c
    · rw [if_neg c] at x5; omega
  -- contents in the end
  have st : ∀ a, a ≠ k → a ≠ br → a ≠ ra 9 → a ≠ mv (bM B) → a ≠ ra 10 → a ≠ ra 11 → F38 a = gI S a := fun a h1 h2 h3 h4 h5 h6 => by
    rw [nf38'.1 a h1, e37, up_ne h2, e35, up_ne h6, fm29'.1 a h1 h2 h3 h4, e28, up_ne h5, fm22'.1 a h1 h2 h3 h4, fm14'.1 a h1 h2 h3 h4, fm12'.1 a h1 h2 h3 h4, nf10'.1 a h1, nf4.1 a h1]
  have f9 : ∀ j, F38 (ra 9) j = F14 (ra 9) j := fun j => by
    rw [nf38'.1 _ e4, e37, up_ne e8, e35, up_ne n911, wl]
    show F28 (ra 9) j = _
    rw [e28, up_ne n910, ul]
    rfl
  have f9' : ∀ j, j ≠ bM B → F14 (ra 9) j = gI S (ra 9) j := fun j hj => by rw [fm14'.2.2.1 j hj, fm12'.2.2.1 j hj, nf10'.1 _ e4, nf4.1 _ e4]
  have fmv : ∀ j, F38 (mv (bM B)) j = F14 (mv (bM B)) j := fun j => by
    rw [nf38'.1 _ (e7 _ hM), e37, up_ne (e11 _ hM), e35, up_ne m11, wm]
    show F28 (mv (bM B)) j = _
    rw [e28, up_ne m10, um]
    rfl
  have f10 : ∀ j, F38 (ra 10) j = if j = bM B then nI (pak (mvf D.2.2.2.1) (bn B)) else gI S (ra 10) j := fun j => by
    rw [nf38'.1 _ e5, e37, up_ne e9, e35, up_ne n1011, fm29'.1 _ e5 e9 (Ne.symm n910) (Ne.symm m10), e28]
    by_cases cj : j = bM B
    · rw [cj, up_at, if_pos rfl, e27, u5, D4]
      by_cases e : tk tx L q3 = 10
      · rw [if_pos e, if_pos e]
      · rw [if_neg e, if_neg e]
    · rw [up_no cj, if_neg cj, fm22'.1 _ e5 e9 (Ne.symm n910) (Ne.symm m10), fm14'.1 _ e5 e9 (Ne.symm n910) (Ne.symm m10), fm12'.1 _ e5 e9 (Ne.symm n910) (Ne.symm m10), nf10'.1 _ e5, nf4.1 _ e5]
  have f11 : ∀ j, F38 (ra 11) j = if j = bM B then nI (pak (mvf D.2.2.2.2) (bn B)) else gI S (ra 11) j := fun j => by
    rw [nf38'.1 _ e6, e37, up_ne e10, e35]
    by_cases cj : j = bM B
    · rw [cj, up_at, if_pos rfl, e34, w5, D5]
      by_cases e : tk tx L q4 = 11
      · rw [if_pos e, if_pos e]
      · rw [if_neg e, if_neg e]
    · rw [up_no cj, if_neg cj, fm29'.1 _ e6 e10 (Ne.symm n911) (Ne.symm m11), e28, up_ne (Ne.symm n1011), fm22'.1 _ e6 e10 (Ne.symm n911) (Ne.symm m11), fm14'.1 _ e6 e10 (Ne.symm n911) (Ne.symm m11), fm12'.1 _ e6 e10 (Ne.symm n911) (Ne.symm m11), nf10'.1 _ e6, nf4.1 _ e6]
  have jj : ∀ a, a ≠ k → J38 a = J10 a := fun a ha => by rw [nj38'.1 a ha, fm29'.2.2.2.2 a ha, fm22'.2.2.2.2 a ha, fm14'.2.2.2.2 a ha, fm12'.2.2.2.2 a ha]
  have j6 : ∀ i, J38 (ra 6) i = if i = bM B + R then n27 (wd tx L (nx tx L p)) else gJ S (ra 6) i := fun i => by
    rw [jj _ e2, n610 i]
    show (if i = bM B + R then n27 (wd tx L (nx tx L p)) else J9 (ra 6) i) = _
    rw [j96]
  have j7 : ∀ i, J38 (ra 7) i = if i = bM B then n27 (wd tx L (nx tx L p)) else gJ S (ra 7) i := fun i => by
    rw [jj _ e3, nj10 _ e3 (Ne.symm n67)]
    show J9 (ra 7) i = _
    rw [e9']
    by_cases ci : i = bM B
    · rw [ci, upJ_at, if_pos rfl, e8']; exact t4.2.2.2.2 e4'
    · rw [upJ_no ci, if_neg ci, nj4.1 _ e3]
  have brj : ∀ j, j ≠ 2 → j ≠ 5 → F38 br j = gI S br j := fun j h2 h5 => by
    rw [nf38'.1 br e1, e37, up_no h2, e35, up_ne (Ne.symm e10)]; exact s29 j h5
  have it : rIt tx L (p, B, R, rn) none (nx tx L q5) (nx tx L q5, addM B D, R, rn) := tail (thn_y rnn' ⟨c, thn_y rch (thn_y rbk (thn_y rc4 (thn_y rc5 ⟨Or.inl ⟨e2', rfl, rfl⟩, fun _ => hD⟩)))⟩)
  refine hy (nx tx L q5) F38 J38 _ it rfl nl5.2.2.1 (by omega) (fb37.tr (FBk.nx nf38 nj38)) ?_ ?_ t38 ⟨?_, ?_, ?_, ?_, ⟨setg nms (bM B + R) (wd tx L (nx tx L p)), fun i hi => ?_, fun w => ?_⟩, fun i hi => ?_⟩ ⟨bok_add ob hM (by omega) (by omega) (by rw [D2, D3]; exact swok) sw4 sw5, oR, fun i hi => ?_, on2⟩
  · rw [nf38'.2 9 (by decide) (by decide) (by decide) (by decide)]; exact flt 9 (Or.inl rfl)
  · rw [nf38'.2 10 (by decide) (by decide) (by decide) (by decide)]; exact flt 10 (Or.inr rfl)
  · rw [brj 1 (by decide) (by decide)]; exact d1
  · rw [nf38'.1 br e1, e37, up_at, v36e]; rfl
  · rw [brj 3 (by decide) (by decide)]; exact d3
  · rw [brj 4 (by decide) (by decide)]; exact d4
  · have hi' : i < bM B + 1 + R := hi
    rw [j6 i]
    by_cases ci : i = bM B + R
    · rw [if_pos ci, ci, setg_at]; exact ⟨rfl, wo, w8⟩
    · rw [if_neg ci, setg_no ci]; exact dN i (by omega)
  · show (∃ i, i < bM B + 1 + R ∧ setg nms (bM B + R) (wd tx L (nx tx L p)) i = w) ↔ (∃ i, i < bM B + 1 ∧ setg (bnm B) (bM B) D.1 i = w) ∨ ∃ j, j < R ∧ rn j = w
    refine ⟨fun ⟨i, i1, i2⟩ => ?_, fun h => ?_⟩
    · by_cases ci : i = bM B + R
      · rw [ci, setg_at] at i2
        exact Or.inl ⟨bM B, by omega, by rw [setg_at, D1]; exact i2⟩
      · rw [setg_no ci] at i2
        rcases (dU w).mp ⟨i, by omega, i2⟩ with ⟨a, a1, a2⟩ | ⟨a, a1, a2⟩
        · exact Or.inl ⟨a, by omega, by rw [setg_no (by omega)]; exact a2⟩
        · exact Or.inr ⟨a, a1, a2⟩
    · have old : usedN B R rn w → ∃ i, i < bM B + 1 + R ∧ setg nms (bM B + R) (wd tx L (nx tx L p)) i = w := fun u => by
        obtain ⟨i, i1, i2⟩ := (dU w).mpr u
        exact ⟨i, by omega, by rw [setg_no (by omega)]; exact i2⟩
      rcases h with ⟨a, a1, a2⟩ | ⟨a, a1, a2⟩
      · by_cases ca : a = bM B
        · rw [ca, setg_at, D1] at a2
          exact ⟨bM B + R, by omega, by rw [setg_at]; exact a2⟩
        · rw [setg_no ca] at a2
          exact old (Or.inl ⟨a, by omega, a2⟩)
      · exact old (Or.inr ⟨a, a1, a2⟩)
  · have hi' : i < bM B + 1 := hi
    show J38 (ra 7) i = n27 (setg (bnm B) (bM B) D.1 i) ∧ F38 (ra 9) i = nI (setg (bl B) (bM B) D.2.1 i) ∧ (∀ k, k < setg (bl B) (bM B) D.2.1 i → F38 (mv i) k = nI (pak (mvf (setg (bv B) (bM B) D.2.2.1 i k)) (bn B))) ∧ F38 (ra 10) i = nI (pak (mvf (setg (bc B) (bM B) (fun c => if c = 1 then D.2.2.2.1 else D.2.2.2.2) i 1)) (bn B)) ∧ F38 (ra 11) i = nI (pak (mvf (setg (bc B) (bM B) (fun c => if c = 1 then D.2.2.2.1 else D.2.2.2.2) i 2)) (bn B))
    rw [j7 i, f9 i, f10 i, f11 i]
    by_cases ci : i = bM B
    · subst ci
      rw [if_pos rfl, if_pos rfl, if_pos rfl, setg_at, setg_at, setg_at, setg_at, D1, D2, D3]
      exact ⟨rfl, l14, fun j hj => by rw [fmv]; exact mv14 j hj, rfl, rfl⟩
    · rw [if_neg ci, if_neg ci, if_neg ci, setg_no ci, setg_no ci, setg_no ci, setg_no ci, f9' i ci]
      obtain ⟨q1, q2', q3', q4', q5'⟩ := dM i (by omega)
      refine ⟨q1, q2', fun j hj => ?_, q4', q5'⟩
      rw [st _ (e7 i (by omega)) (e11 i (by omega)) (hm9 i (by omega)).1 (hmm i (bM B) (by omega) hM ci) (hm9 i (by omega)).2.1 (hm9 i (by omega)).2.2]
      exact q3' j hj
  · have hi' : i < bM B + 1 := hi
    show wok (setg (bnm B) (bM B) D.1 i) ∧ (setg (bnm B) (bM B) D.1 i).length ≤ 8
    by_cases ci : i = bM B
    · rw [ci, setg_at, D1]; exact ⟨wo, w8⟩
    · rw [setg_no ci]; exact on1 i (by omega)
end TM
