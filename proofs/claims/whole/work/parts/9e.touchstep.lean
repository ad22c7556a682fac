/-! The class reads a step of a touch. -/
def Ed (k tr : Nat) (ta : Nat → Nat) (K : Nat) (G F : FI) (GJ J : FJ) (GR R : FR) (s1 d1 c1 n1 : Int32) (nm : Option Nat) : Prop := FTk k tr ta G F GJ J GR R ∧ F tr 1 = s1 ∧ F tr 2 = d1 ∧ F tr 3 = nI (K + 1) ∧ (∀ i, i < K → F (ta 4) i = G (ta 4) i) ∧ (∀ i, i < K → F (ta 5) i = G (ta 5) i) ∧ (∀ i, i < K → R (ta 6) i = GR (ta 6) i) ∧ F (ta 4) K = c1 ∧ F (ta 5) K = n1 ∧ R (ta 6) K = nm ∧ F k 9 = G k 9 ∧ F k 10 = G k 10
section TS
variable {S : St} {k tr b rv tt : Nat} {ta : Nat → Nat} {tx : Nat → Nat} {L p K : Nat} {G F F2 : FI} {GJ J J2 : FJ} {GR R R2 : FR} {B : Bk} {im : Nat → Prop} {P : Pg} {st : Nat} {s1 d1 c1 n1 : Int32} {nm : Option Nat}
theorem Ed.nx (hT : TrdX S tr k ta) (hk : kd S k = 7) (h : Ed k tr ta K G F GJ J GR R s1 d1 c1 n1 nm) (h2 : NxF k F F2) (hj : NxJ k J J2) : Ed k tr ta K G F2 GJ J2 GR R s1 d1 c1 n1 nm := by
  obtain ⟨e1, e2, e3, e4, -⟩ := hT.e hk
  obtain ⟨h1, a1, a2, a3, a4, a5, a6, a7, a8, a9, a10, a11⟩ := h
  refine ⟨h1.tr (FTk.nx h2 hj), ?_, ?_, ?_, ?_, ?_, a6, ?_, ?_, a9, ?_, ?_⟩
  · rw [h2.1 tr e1]; exact a1
  · rw [h2.1 tr e1]; exact a2
  · rw [h2.1 tr e1]; exact a3
  · rw [h2.1 _ e2]; exact a4
  · rw [h2.1 _ e3]; exact a5
  · rw [h2.1 _ e2]; exact a7
  · rw [h2.1 _ e3]; exact a8
  · rw [h2.2 9 (by decide) (by decide) (by decide) (by decide)]; exact a10
  · rw [h2.2 10 (by decide) (by decide) (by decide) (by decide)]; exact a11
theorem sp_isStep {t : Nat} {Q : Int32 → Prop} (ht : t ≤ 17) (hy : isT t → Q 1) (hn : ¬ isT t → Q 0) : P_X9_isStep (nI t) Q := by
  have e : ∀ c, c < 100 → (nI t = nI c ↔ t = c) := fun c hc => nI_eq (by omega) (by omega)
  have e10 : nI t = 10 ↔ t = 10 := e 10 (by decide)
  have e11 : nI t = 11 ↔ t = 11 := e 11 (by decide)
  have e12 : nI t = 12 ↔ t = 12 := e 12 (by decide)
  have e13 : nI t = 13 ↔ t = 13 := e 13 (by decide)
  have e14 : nI t = 14 ↔ t = 14 := e 14 (by decide)
  have e15 : nI t = 15 ↔ t = 15 := e 15 (by decide)
  have e16 : nI t = 16 ↔ t = 16 := e 16 (by decide)
  have e17 : nI t = 17 ↔ t = 17 := e 17 (by decide)
  unfold P_X9_isStep
  rw [e10, e11, e12, e13, e14, e15, e16, e17]
  unfold isT at hy hn
  refine ⟨fun y => hy (by omega), fun y0 => ⟨fun y => hy (by omega), fun y1 => ⟨fun y => hn (by omega), fun y2 => ⟨fun y => hy (by omega), fun y3 => ⟨fun y => hy (by omega), fun y4 => ⟨fun y => hy (by omega), fun y5 => ⟨fun y => hn (by omega), fun y6 => ⟨fun y => hy (by omega), fun y7 => hn (by omega)⟩⟩⟩⟩⟩⟩⟩⟩
theorem sp_addLine {c : Int32} {Q : FI → FR → Prop} (hT : TrdX S tr k ta) (hk : kd S k = 7) (h3 : gI S tr 3 = nI K) (hK : K < 60)
    (hq : ∀ F R, (FTk k tr ta (gI S) F (gJ S) (gJ S) (gR S) R) → (∀ j, j ≠ 3 → F tr j = gI S tr j) → F tr 3 = nI (K + 1) → (∀ i, i < K → F (ta 4) i = gI S (ta 4) i) → (∀ i, i < K → F (ta 5) i = gI S (ta 5) i) → (∀ i, i < K → R (ta 6) i = gR S (ta 6) i) → F (ta 4) K = c → F (ta 5) K = 0 → R (ta 6) K = none → F k = gI S k → Q F R) : P_X9_addLine tr c S Q := by
  obtain ⟨e1, e2, e3, e4, e5, e6, e7, e8, e9, e10⟩ := hT.e hk
  obtain ⟨h1, h2, ⟨a4, k4, l4⟩, ⟨a5, k5, l5⟩, ⟨a6, k6, l6⟩, -⟩ := hT
  have ks : (nI K).toNatClampNeg = K := nI_clamp (by omega)
  refine ⟨h1, fun y => ?_, fun _ => ?_⟩
  · rw [h3] at y
    exact absurd ((nI_leI (a := 60) (by decide) (by omega)).mp y) (by omega)
  · refine ⟨ta 4, a4, k4, by rw [h3, l4]; exact vp_in_nI hK (by decide), fun F5 e5' => ⟨ta 5, a5, k5, ?_, fun F9 e9' => ⟨ta 6, a6, k6, ?_, fun R13 e13 v14 e14 F15 e15 => ?_⟩⟩⟩
    all_goals have t5 : F5 tr 3 = nI K := by rw [e5', up_ne (Ne.symm e5)]; exact h3
    · rw [t5, l5]; exact vp_in_nI hK (by decide)
    · have t9 : F9 tr 3 = nI K := by rw [e9', up_ne (Ne.symm e6)]; exact t5
      rw [t9, l6]; exact vp_in_nI hK (by decide)
    · have t9 : F9 tr 3 = nI K := by rw [e9', up_ne (Ne.symm e6)]; exact t5
      rw [h3, ks] at e5'
      rw [t5, ks] at e9'
      rw [t9, ks] at e13
      rw [t9, nI_1] at e14
      refine hq F15 R13 ⟨fun a ha => ⟨?_, rfl⟩, fun j _ _ _ _ _ _ => ?_, fun a ha => by rw [e13, upR_ne ha]⟩ (fun j hj => ?_) ?_ (fun i hi => ?_) (fun i hi => ?_) (fun i hi => ?_) ?_ ?_ ?_ ?_
      · rw [e15, up_ne (fun z => ha (Or.inr (Or.inl z))), e9', up_ne (fun z => ha (Or.inr (Or.inr (Or.inr (Or.inl z))))), e5', up_ne (fun z => ha (Or.inr (Or.inr (Or.inl z))))]
      · rw [e15, up_ne (Ne.symm e1), e9', up_ne (Ne.symm e3), e5', up_ne (Ne.symm e2)]
      · rw [e15, up_no hj, e9', up_ne (Ne.symm e6), e5', up_ne (Ne.symm e5)]
      · rw [e15, up_at, e14]
      · rw [e15, up_ne e5, e9', up_ne e8, e5', up_no (by omega)]
      · rw [e15, up_ne e6, e9', up_no (by omega), e5', up_ne (Ne.symm e8)]
      · rw [e13, upR_no (by omega)]
      · rw [e15, up_ne e5, e9', up_ne e8, e5', up_at]
      · rw [e15, up_ne e6, e9', up_at]
      · rw [e13, upR_at]
      · rw [e15, up_ne (Ne.symm e1), e9', up_ne (Ne.symm e3), e5', up_ne (Ne.symm e2)]
theorem sp_methodNamed {w : List Nat} {v : Int64} {Q : Option Nat → Prop} (hB : BX B im S b) (hM : bM B ≤ 4) (hv : v = n27 w) (hw : wok w) (hw8 : w.length ≤ 8) (hN : ∀ i, i < bM B → wok (bnm B i) ∧ (bnm B i).length ≤ 8)
    (hy : ∀ i mq, i < bM B → bnm B i = w → (∀ j, j < i → bnm B j ≠ w) → MX B i im S mq → Q (some mq)) (hn : (∀ j, j < bM B → bnm B j ≠ w) → Q none) : P_X0_methodNamed b v S Q := by
  obtain ⟨b1, b2, -, -, -, a, ba, bia, bka, bla, bm⟩ := hB
  refine ⟨b2, fun n x => ∃ i, i ≤ bM B ∧ n = bM B - i ∧ x = nI i ∧ ∀ j, j < i → bnm B j ≠ w, ⟨bM B, 0, Nat.zero_le _, rfl, rfl, fun j hj => by omega⟩, ?_⟩
  rintro n x ⟨i, hi, rfl, rfl, hj⟩
  refine ⟨a, ba, bka, ?_⟩
  rw [bla]
  refine ⟨fun y => hn (fun j hj' => hj j ?_), fun y => ?_⟩
  · have := (nI_leI (by omega) (by omega)).mp y
    omega
  · have hlt : i < bM B := nI_gtI (by omega) (by omega) y
    obtain ⟨mq, r, mx⟩ := bm i hlt
    have mx' := mx
    obtain ⟨m1, m2, m3, -⟩ := mx'
    obtain ⟨n1, n2⟩ := hN i hlt
    rw [nI_clamp (by omega), r]
    refine ⟨vp_in_nI hlt (by omega), mq, rfl, m2, ?_⟩
    rw [lg_cmp_eq, m3, hv, n27_inj n1 hw n2 hw8]
    refine ⟨fun ne v10 e10 => ⟨bM B - (i + 1), by omega, i + 1, by omega, rfl, by rw [e10]; exact nI_1 i, fun j hj2 => ?_⟩, fun e => hy i mq hlt e hj mx⟩
    by_cases c : j = i
    · rw [c]; exact ne
    · exact hj j (by omega)
theorem sp_takesMethodName {Q : Int32 → FI → FJ → FR → Prop} (hT : TrdX S tr k ta) (hX : TxC S G GJ k tt rv tx L) (hb : bok B) (hN : ∀ i, i < bM B → wok (bnm B i) ∧ (bnm B i).length ≤ 8) (hB : BX B im S b) (hGS : G = gI S ∧ GJ = gJ S ∧ GR = gR S) (hi : ∀ e, im e → ¬ WTr k tr ta e) (hE : Ed k tr ta K G F GJ J GR R s1 d1 c1 n1 nm) (hK : K < 60) (ht : TkC F J k tx L p) (hp : p ≤ L)
    (hy : ∀ i q mq F2 J2 R2, rMN B i tx L p none q → i < bM B → q ≤ L → p < q → q = nx tx L p → MX B i im S mq → TkC F2 J2 k tx L q → Ed k tr ta K G F2 GJ J2 GR R2 s1 d1 c1 (nI (bl B i)) (some mq) → Q 1 F2 J2 R2)
    (hf : ∀ f q F2, (∀ i, rMN B i tx L p (some f) q) → FTk k tr ta G F2 GJ J GR R → F2 k 9 = nI f → F2 k 10 = nI (sk tx L q) → Q 0 F2 J R) : P_X9_takesMethodName tr b (wA S F J R) Q := by
  obtain ⟨rfl, rfl, rfl⟩ := hGS
  have hk := hX.1
  have hE' := hE
  obtain ⟨h1, a1, a2, a3, a4, a5, a6, a7, a8, a9, a10, a11⟩ := hE'
  have T1 : TrdX (wA S F J R) tr k ta := hT.ft h1.2.2
  have sim : Sim im S (wA S F J R) := h1.sim hi
  have X1 : TxC (wA S F J R) F J k tt rv tx L := hX.ft hT h1
  obtain ⟨e1, e2, e3, e4, e5, e6, e7, e8, e9, e10⟩ := hT.e hk
  have nl := nx_le (tx := tx) hp
  refine ⟨hT.1, k, T1.2.1, hk, sp_isAt (S := wA S F J R) (J := J) hk ht (c := 4) (by decide) (fun e => ⟨fun _ => ⟨hB.2.1, ?_⟩, fun y => absurd y one0⟩) (fun e => ⟨fun y => absurd rfl y, fun _ => ?_⟩)⟩
  · have w4 : 4 ≤ tk tx L p := by omega
    obtain ⟨wo, wl⟩ := wd_ok w4
    have w8 : (wd tx L p).length ≤ 8 := by
      obtain ⟨-, -, -, -, x5⟩ := tk_word w4
      rw [wl]
      by_cases c : nx tx L p - sk tx L p ≤ 8
      · exact c
      · rw [if_neg c] at x5; omega
    have s1' : ∀ z : Nat, nI (K + 1) - 1 = nI K := fun _ => sub1 (by omega)
    refine sp_methodNamed (hB.sm sim) hb.2.2.1 (ht.2.2.2.2 e) wo w8 hN (fun i mq hib hnm hfst mx => ⟨fun _ => ?_, fun y => by cases y⟩) (fun hno => ⟨fun y => absurd rfl y, fun _ => ?_⟩)
    · have mx0 : MX B i im S mq := mx.sm (fun a ha => by
        obtain ⟨y1, y2, y3, y4, y5⟩ := sim a ha
        exact ⟨y1.symm, y2.symm, y3.symm, y4.symm, y5.symm⟩)
      refine ⟨fun F10 R11 => Ed k tr ta K (gI S) F10 (gJ S) J (gR S) R11 s1 d1 c1 (nI (bl B i)) (some mq) ∧ TkC F10 J k tx L p, ?_, fun y => ?_, fun _ => ?_⟩
      · rintro F10 R11 ⟨ed, t10⟩
        have T2 : TrdX (wA S F10 J R11) tr k ta := hT.ft ed.1.2.2
        refine ⟨k, T2.2.1, hk, ?_⟩
        refine sp_next (S := wA S F10 J R11) (p := nx tx L p) (hX.ft hT ed.1) t10.2.1 nl.2.2.1 (fun F14 J14 nf nj t14 => ?_)
        exact hy i (nx tx L p) mq F14 J14 R11 (Or.inl ⟨e, hib, hnm, hfst, rfl, rfl⟩) hib nl.2.2.1 (nl.2.2.2.1 (by omega)) rfl mx0 t14 (ed.nx hT hk nf nj)
      · have y' : F tr 3 ≤ 0 := y
        rw [a3] at y'
        exact absurd ((nI_leI (a := K + 1) (b := 0) (by omega) (by decide)).mp y') (by omega)
      · have g3 : gI (wA S F J R) tr 3 = nI (K + 1) := a3
        rw [g3, sub1 (by omega), show K + 1 - 1 = K from rfl]
        obtain ⟨-, -, -, ⟨r5, k5, l5⟩, ⟨r6, k6, l6⟩, -⟩ := T1
        refine ⟨ta 6, r6, k6, ?_, fun v hv => ?_, fun R19 e19 => ⟨ta 5, ?_, mq, rfl, mx.2.1, ?_⟩⟩
        · rw [l6]; exact vp_in_nI hK (by decide)
        · cases hv; exact mx.2.1
        · rw [e19, upR_ne (Ne.symm e7)]; exact r5
        · have R19' : R19 = upR R (ta 6) K (some mq) := by rw [e19, nI_clamp (by omega)]; rfl
          have i6 : ∀ a, im a → a ≠ ta 6 := fun a ha z => hi a ha (Or.inr (Or.inr (Or.inr (Or.inr (Or.inl z)))))
          refine sp_length (S := wA S F J R19) (B := B) (i := i) (im := im) (mx0.sm (fun a ha => ?_)) ⟨k5, by rw [l5]; exact vp_in_nI hK (by decide), fun F26 e26 => ?_⟩
          · obtain ⟨y1, y2, y3, y4, y5⟩ := sim a ha
            refine ⟨y1, y2, y3, y4, ?_⟩
            show R19 a = _
            rw [R19', upR_ne (i6 a ha)]; exact y5
          · rw [nI_clamp (by omega)] at e26
            have e26' : F26 = upI F (ta 5) K (nI (bl B i)) := e26
            refine ⟨⟨⟨fun a ha => ⟨?_, (h1.1 a ha).2⟩, fun j y1 y2 y3 y4 y5 y6 => ?_, fun a ha => ?_⟩, ?_, ?_, ?_, fun j hj => ?_, fun j hj => ?_, fun j hj => ?_, ?_, ?_, ?_, ?_, ?_⟩, ?_⟩
            · rw [e26', up_ne (fun z => ha (Or.inr (Or.inr (Or.inr (Or.inl z)))))]; exact (h1.1 a ha).1
            · rw [e26', up_ne (Ne.symm e3)]; exact h1.2.1 j y1 y2 y3 y4 y5 y6
            · rw [R19', upR_ne ha]; exact h1.2.2 a ha
            · rw [e26', up_ne (Ne.symm e6)]; exact a1
            · rw [e26', up_ne (Ne.symm e6)]; exact a2
            · rw [e26', up_ne (Ne.symm e6)]; exact a3
            · rw [e26', up_ne e8]; exact a4 j hj
            · rw [e26', up_no (by omega)]; exact a5 j hj
            · rw [R19', upR_no (by omega)]; exact a6 j hj
            · rw [e26', up_ne e8]; exact a7
            · rw [e26', up_at]
            · rw [R19', upR_at]
            · rw [e26', up_ne (Ne.symm e3)]; exact a10
            · rw [e26', up_ne (Ne.symm e3)]; exact a11
            · exact ht.cg (by rw [e26', up_ne (Ne.symm e3)]) rfl
    · exact sp_wrong (S := wA S F J R) (f := 3) hk ht.1 (fun F2 fl => ⟨Or.inl rfl, hf 3 p F2 (fun i => Or.inr (Or.inl ⟨e, hno, rfl, rfl⟩)) (h1.tr (FTk.fl fl)) fl.2.2.1 fl.2.2.2⟩)
  · exact sp_misplaced (S := wA S F J R) hk ht (fun F2 fl => ⟨Or.inl rfl, hf _ p F2 (fun i => Or.inr (Or.inr ⟨e, rfl, rfl⟩)) (h1.tr (FTk.fl fl)) fl.2.2.1 fl.2.2.2⟩)
theorem sp_takesCount {hi : Nat} {Q : Int32 → FI → FJ → Prop} (hT : TrdX S tr k ta) (hX : TxC S G GJ k tt rv tx L) (hGR : GR = gR S) (hE : Ed k tr ta K G F GJ J GR R s1 d1 c1 n1 nm) (hK : K < 60) (ht : TkC F J k tx L p) (hp : p ≤ L) (hhi : hi < 2 ^ 31)
    (hy : ∀ q F2 J2, rNU tx L 1 hi p none q → 1 ≤ vl' tx L p → vl' tx L p ≤ hi → q ≤ L → p < q → q = nx tx L p → TkC F2 J2 k tx L q → Ed k tr ta K G F2 GJ J2 GR R s1 d1 c1 (nI (vl' tx L p)) nm → Q 1 F2 J2)
    (hf : ∀ f q F2, rNU tx L 1 hi p (some f) q → FTk k tr ta G F2 GJ J GR R → F2 k 9 = nI f → F2 k 10 = nI (sk tx L q) → Q 0 F2 J) : P_X9_takesCount tr (nI hi) (wA S F J R) Q := by
  have hk := hX.1
  subst hGR
  have hE' := hE
  obtain ⟨h1, a1, a2, a3, a4, a5, a6, a7, a8, a9, a10, a11⟩ := hE'
  have T1 : TrdX (wA S F J R) tr k ta := hT.ft h1.2.2
  obtain ⟨e1, e2, e3, e4, e5, e6, e7, e8, e9, e10⟩ := hT.e hk
  have nl := nx_le (tx := tx) hp
  refine ⟨hT.1, k, T1.2.1, hk, sp_isAt (S := wA S F J R) (J := J) hk ht (c := 3) (by decide) (fun e => ⟨fun _ => ?_, fun y => absurd y one0⟩) (fun e => ⟨fun y => absurd rfl y, fun _ => ?_⟩)⟩
  · have vlt := vlx_lt e
    have g7 : gI (wA S F J R) k 7 = nI (vl' tx L p) := ht.2.2.2.1 e
    rw [g7]
    refine ⟨¬ (1 ≤ vl' tx L p ∧ vl' tx L p ≤ hi), fun hbad => ?_, fun y z => absurd y (nI_nlt (b := 1) z.1 (by omega)), fun y1 => ⟨fun y2 => ?_, fun y2 z => absurd (nI_le z.2 (by omega)) y2⟩⟩
    · exact sp_wrong (S := wA S F J R) (f := 4) hk ht.1 (fun F2 fl => ⟨Or.inl rfl, hf 4 p F2 (Or.inr (Or.inl ⟨e, hbad, rfl, rfl⟩)) (h1.tr (FTk.fl fl)) fl.2.2.1 fl.2.2.2⟩)
    · have v1 : 1 ≤ vl' tx L p := by
        rcases Nat.lt_or_ge (vl' tx L p) 1 with z | z
        · exact absurd (nI_lt (b := 1) z (by decide)) y1
        · exact z
      have v2 : vl' tx L p ≤ hi := (nI_leI (by omega) (by omega)).mp y2
      refine ⟨fun F11 => Ed k tr ta K G F11 GJ J (gR S) R s1 d1 c1 (nI (vl' tx L p)) nm ∧ TkC F11 J k tx L p, ?_, fun y => ?_, fun _ => ?_⟩
      · rintro F11 ⟨ed, t11⟩
        refine sp_next (S := wA S F11 J R) (p := nx tx L p) (hX.ft hT ed.1) t11.2.1 nl.2.2.1 (fun F14 J14 nf nj t14 => ?_)
        exact hy (nx tx L p) F14 J14 (Or.inl ⟨e, ⟨v1, v2⟩, rfl, rfl⟩) v1 v2 nl.2.2.1 (nl.2.2.2.1 (by omega)) rfl t14 (ed.nx hT hk nf nj)
      · have y' : F tr 3 ≤ 0 := y
        rw [a3] at y'
        exact absurd ((nI_leI (a := K + 1) (b := 0) (by omega) (by decide)).mp y') (by omega)
      · have g3 : gI (wA S F J R) tr 3 = nI (K + 1) := a3
        rw [g3, sub1 (by omega), show K + 1 - 1 = K from rfl]
        obtain ⟨-, -, -, ⟨r5, k5, l5⟩, -⟩ := T1
        refine ⟨ta 5, r5, k5, by rw [l5]; exact vp_in_nI hK (by decide), fun v16 e16 F17 e17 => ?_⟩
        rw [nI_clamp (by omega)] at e17
        have e17' : F17 = upI F (ta 5) K v16 := e17
        refine ⟨⟨⟨fun a ha => ⟨?_, (h1.1 a ha).2⟩, fun j y1 y2 y3 y4 y5 y6 => ?_, h1.2.2⟩, ?_, ?_, ?_, fun j hj => ?_, fun j hj => ?_, a6, ?_, ?_, a9, ?_, ?_⟩, ?_⟩
        · rw [e17', up_ne (fun z => ha (Or.inr (Or.inr (Or.inr (Or.inl z)))))]; exact (h1.1 a ha).1
        · rw [e17', up_ne (Ne.symm e3)]; exact h1.2.1 j y1 y2 y3 y4 y5 y6
        · rw [e17', up_ne (Ne.symm e6)]; exact a1
        · rw [e17', up_ne (Ne.symm e6)]; exact a2
        · rw [e17', up_ne (Ne.symm e6)]; exact a3
        · rw [e17', up_ne e8]; exact a4 j hj
        · rw [e17', up_no (by omega)]; exact a5 j hj
        · rw [e17', up_ne e8]; exact a7
        · rw [e17', up_at, e16]
        · rw [e17', up_ne (Ne.symm e3)]; exact a10
        · rw [e17', up_ne (Ne.symm e3)]; exact a11
        · exact ht.cg (by rw [e17', up_ne (Ne.symm e3)]) rfl
  · exact sp_misplaced (S := wA S F J R) hk ht (fun F2 fl => ⟨Or.inl rfl, hf _ p F2 (Or.inr (Or.inr ⟨e, rfl, rfl⟩)) (h1.tr (FTk.fl fl)) fl.2.2.1 fl.2.2.2⟩)
end TS
