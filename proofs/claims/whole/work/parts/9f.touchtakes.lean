/-! The class reads all steps of a touch. -/
def P0 : Pg := (0, fun _ => 0, fun _ => 0, fun _ => 0)
def rTouch (B : Bk) (tx : Nat → Nat) (L : Nat) (o : Option Nat) (q : Nat) (s : Sg) : Prop := ∃ K, ∃ st : Nat → Sg, st 0 = (0, P0, 0) ∧ (∀ i, i < K → tk tx L (st i).1 ≠ 1 ∧ rTs B tx L (st i) none (st (i + 1)).1 (st (i + 1))) ∧ ((tk tx L (st K).1 = 1 ∧ dep (st K).2.1 = 0 ∧ o = none ∧ s = st K) ∨ (tk tx L (st K).1 = 1 ∧ dep (st K).2.1 ≠ 0 ∧ o = some (mis tx L (st K).1) ∧ q = (st K).1) ∨ (tk tx L (st K).1 ≠ 1 ∧ ∃ f s', o = some f ∧ rTs B tx L (st K) (some f) q s'))
def TInv (S : St) (k tr : Nat) (ta : Nat → Nat) (B : Bk) (im : Nat → Prop) (tx : Nat → Nat) (L : Nat) (G : FI) (GJ : FJ) (GR : FR) (i : Nat) (F : FI) (J : FJ) (R : FR) : Prop := ∃ st : Nat → Sg, i ≤ (st i).1 ∧ (st i).1 ≤ L ∧ st 0 = (0, P0, 0) ∧ (∀ j, j < i → tk tx L (st j).1 ≠ 1 ∧ rTs B tx L (st j) none (st (j + 1)).1 (st (j + 1))) ∧ FTk k tr ta G F GJ J GR R ∧ F k 9 = 0 ∧ F k 10 = -1 ∧ TkC F J k tx L (st i).1 ∧ RdT S B im tr ta (st i).2.1 (st i).2.2 F R ∧ OkT B (st i).2.1 (st i).2.2
theorem RdT.sm {S S' : St} {B : Bk} {im : Nat → Prop} {tr : Nat} {ta : Nat → Nat} {P : Pg} {st : Nat} {F : FI} {R : FR} (h : RdT S B im tr ta P st F R) (hs : Sim im S S') : RdT S' B im tr ta P st F R := by
  obtain ⟨h1, h2, h3, h4⟩ := h
  refine ⟨h1, h2, h3, fun k hk => ?_⟩
  obtain ⟨u1, u2, u3⟩ := h4 k hk
  refine ⟨u1, fun y1 y2 => ?_, u3⟩
  obtain ⟨q, v1, v2, v3⟩ := u2 y1 y2
  exact ⟨q, v1, v2.sm hs, v3⟩
theorem Sim.sy {im : Nat → Prop} {S S' : St} (h : Sim im S S') : Sim im S' S := fun a ha => by
  obtain ⟨y1, y2, y3, y4, y5⟩ := h a ha
  exact ⟨y1.symm, y2.symm, y3.symm, y4.symm, y5.symm⟩
section TU
variable {S : St} {k tr b rv tt : Nat} {ta : Nat → Nat} {tx : Nat → Nat} {L p : Nat} {B : Bk} {im : Nat → Prop} {P : Pg} {st : Nat}
/-- the sign at the end of a step -/
theorem sp_tsign {F : FI} {J : FJ} {R : FR} {Q : Int32 → FI → FJ → FR → Prop} {q2 st' : Nat} {P' : Pg} (hT : TrdX S tr k ta) (hX : TxC S (gI S) (gJ S) k tt rv tx L) (h1 : FTk k tr ta (gI S) F (gJ S) J (gR S) R) (h9 : F k 9 = gI S k 9) (h10 : F k 10 = gI S k 10) (ht : TkC F J k tx L q2) (hq2 : q2 ≤ L) (hpq : p < q2) (hR : RdT S B im tr ta P' st' F R) (hO : OkT B P' st') (hr : ∀ o q, rSG tx L q2 o q → rTs B tx L (p, P, st) o q (q, P', st'))
    (hy : ∀ q F J R s', rTs B tx L (p, P, st) none q s' → s'.1 = q → q ≤ L → p < q → FTk k tr ta (gI S) F (gJ S) J (gR S) R → F k 9 = gI S k 9 → F k 10 = gI S k 10 → TkC F J k tx L q → RdT S B im tr ta s'.2.1 s'.2.2 F R → OkT B s'.2.1 s'.2.2 → Q 1 F J R)
    (hf : ∀ f q F J R s', rTs B tx L (p, P, st) (some f) q s' → FTk k tr ta (gI S) F (gJ S) J (gR S) R → F k 9 = nI f → F k 10 = nI (sk tx L q) → Q 0 F J R) {Q' : Int32 → FI → FJ → Prop} (u1 : ∀ F J, Q 1 F J R → Q' 1 F J) (u0 : ∀ F J, Q 0 F J R → Q' 0 F J) : P_X7_take k 2 (wA S F J R) Q' := by
  have hk := hX.1
  obtain ⟨e1, e2, e3, e4, -⟩ := hT.e hk
  have nl := nx_le (tx := tx) hq2
  refine sp_take (S := wA S F J R) (c := 2) (hX.ft hT h1) ht hq2 (by decide) (fun e F2 J2 nf nj t2 => u1 F2 J2 ?_) (fun e F2 fl => u0 F2 J ?_)
  · refine hy (nx tx L q2) F2 J2 R _ (hr none _ (Or.inl ⟨e, rfl, rfl⟩)) rfl nl.2.2.1 (by show p < nx tx L q2; omega) (h1.tr (FTk.nx nf nj)) ?_ ?_ t2 ?_ hO
    · rw [nf.2 9 (by decide) (by decide) (by decide) (by decide)]; exact h9
    · rw [nf.2 10 (by decide) (by decide) (by decide) (by decide)]; exact h10
    · have n1 : F2 tr = F tr := nf.1 tr e1
      have n4 : F2 (ta 4) = F (ta 4) := nf.1 _ e2
      have n5 : F2 (ta 5) = F (ta 5) := nf.1 _ e3
      unfold RdT Lns at hR ⊢
      rw [n1, n4, n5]; exact hR
  · exact hf _ q2 F2 J R _ (hr _ q2 (Or.inr ⟨e, rfl, rfl⟩)) (h1.tr (FTk.fl fl)) fl.2.2.1 fl.2.2.2
theorem sp_takesEnd {Q : Int32 → FI → FJ → FR → Prop} (hT : TrdX S tr k ta) (hX : TxC S (gI S) (gJ S) k tt rv tx L) (ht : TkC (gI S) (gJ S) k tx L p) (hp : p ≤ L) (hR : RdT S B im tr ta P st (gI S) (gR S)) (hO : OkT B P st) (h16 : tk tx L p = 16)
    (hy : ∀ q F J R s', rTs B tx L (p, P, st) none q s' → s'.1 = q → q ≤ L → p < q → FTk k tr ta (gI S) F (gJ S) J (gR S) R → F k 9 = gI S k 9 → F k 10 = gI S k 10 → TkC F J k tx L q → RdT S B im tr ta s'.2.1 s'.2.2 F R → OkT B s'.2.1 s'.2.2 → Q 1 F J R)
    (hf : ∀ f q F J R s', rTs B tx L (p, P, st) (some f) q s' → FTk k tr ta (gI S) F (gJ S) J (gR S) R → F k 9 = nI f → F k 10 = nI (sk tx L q) → Q 0 F J R) : P_X9_takesEnd tr S Q := by
  have hk := hX.1
  obtain ⟨e1, e2, e3, e4, e5, e6, e7, e8, e9, e10⟩ := hT.e hk
  obtain ⟨r1, r2, r3, rl⟩ := hR
  have hO' := hO
  obtain ⟨o1, o2, o3, o4⟩ := hO'
  have nl := nx_le (tx := tx) hp
  have d3 : dep P ≤ 3 := o3 _ (Nat.le_refl _)
  refine ⟨hT.1, ?_⟩
  rw [r2]
  refine ⟨fun hd v2 e2' F3 e3' => ?_, fun hd => ?_⟩
  · have hd' : dep P ≠ 0 := fun z => hd (by rw [z]; rfl)
    have on3 : ∀ a, a ≠ tr → F3 a = gI S a := fun a ha => by rw [e3', up_ne ha]
    have t3 : ∀ j, j ≠ 2 → F3 tr j = gI S tr j := fun j hj => by rw [e3', up_no hj]
    have f3 : FTk k tr ta (gI S) F3 (gJ S) (gJ S) (gR S) (gR S) := ⟨fun a ha => ⟨on3 a (fun z => ha (Or.inr (Or.inl z))), rfl⟩, fun j _ _ _ _ _ _ => by rw [on3 k (Ne.symm e1)], fun _ _ => rfl⟩
    refine sp_addLine (S := wI S F3) (K := pgK P) hT hk (by show F3 tr 3 = _; rw [t3 3 (by decide)]; exact r3) (by omega) (fun F4 R4 ft4 tj4 t43 q4 q5 q6 k4 k5 k6 kk => ⟨k, ?_, hk, ?_⟩)
    · rw [show R4 tr = gR S tr from ft4.2.2 tr (Ne.symm e7)]; exact hT.2.1
    · have ft4' : FTk k tr ta F3 F4 (gJ S) (gJ S) (gR S) R4 := ft4
      have kk' : F4 k = F3 k := kk
      have tj4' : ∀ j, j ≠ 3 → F4 tr j = F3 tr j := tj4
      have kS : F4 k = gI S k := by rw [kk', on3 k (Ne.symm e1)]
      have fs : FTk k tr ta (gI S) F4 (gJ S) (gJ S) (gR S) R4 := f3.tr ft4'
      have t4 : TkC F4 (gJ S) k tx L p := ht.cg kS rfl
      refine sp_next (S := wA S F4 (gJ S) R4) (p := nx tx L p) (hX.ft hT fs) t4.2.1 nl.2.2.1 (fun F7 J7 nf nj t7 => ?_)
      have n1 : F7 tr = F4 tr := nf.1 tr e1
      have n4 : F7 (ta 4) = F4 (ta 4) := nf.1 _ e2
      have n5 : F7 (ta 5) = F4 (ta 5) := nf.1 _ e3
      refine sp_tsign (P := P) (st := st) (st' := st) (P' := addP P 10 0 0) hT hX (fs.tr (FTk.nx nf nj)) ?_ ?_ t7 nl.2.2.1 (nl.2.2.2.1 (by omega)) ⟨?_, ?_, ?_, ?_⟩ (hO.add o2 (by rw [dep_10]; omega) (by rw [dep_10]; omega) (Or.inr (Or.inr (Or.inr (Or.inl ⟨add_k P 10 0 0, ?_⟩))))) (fun o q h => Or.inl ⟨h16, Or.inr ⟨hd', h, rfl⟩⟩) hy hf (fun F J h => ⟨Or.inr rfl, h⟩) (fun F J h => ⟨Or.inl rfl, h⟩)
      · rw [nf.2 9 (by decide) (by decide) (by decide) (by decide)]; show F4 k 9 = _; rw [kS]
      · rw [nf.2 10 (by decide) (by decide) (by decide) (by decide)]; show F4 k 10 = _; rw [kS]
      · rw [n1, tj4' 1 (by decide), t3 1 (by decide)]; exact r1
      · rw [n1, tj4' 2 (by decide), e3', up_at, e2', dep_10]; exact sub1 (by omega)
      · rw [n1]; exact t43
      · refine rl.add (fun i hi => ?_) (fun i hi => ?_) (fun i hi => q6 i hi) ?_ (fun y1 y2 => by omega) (fun y => by omega)
        · rw [n4]; exact (q4 i hi).trans (by rw [show gI (wI S F3) (ta 4) = F3 (ta 4) from rfl, on3 _ e5])
        · rw [n5]; exact (q5 i hi).trans (by rw [show gI (wI S F3) (ta 5) = F3 (ta 5) from rfl, on3 _ e6])
        · rw [n4]; exact k4
      · rw [nst_add P 10 0 0 _ (Nat.le_refl _)]
        intro z
        exact hd' (by unfold dep; rw [z]; rfl)
  · have hd' : dep P = 0 := (nI_z (by omega)).mp hd
    refine ⟨k, hT.2.1, hk, sp_misplaced hk ht (fun F2 fl => ⟨Or.inl rfl, hf _ p F2 (gJ S) (gR S) (p, P, st) (Or.inl ⟨h16, Or.inl ⟨hd', rfl, rfl⟩⟩) (FTk.fl fl) fl.2.2.1 fl.2.2.2⟩)⟩
theorem cmi_tk {c : Nat} (h : c = 5 ∨ c = 6 ∨ c = 7 ∨ c = 8 ∨ c = 9 ∨ c = 11) : isT (6 + cmi c) := by
  rcases h with rfl | rfl | rfl | rfl | rfl | rfl
  · exact Or.inl rfl
  · exact Or.inr (Or.inl rfl)
  · exact Or.inr (Or.inr (Or.inl rfl))
  · exact Or.inr (Or.inr (Or.inr (Or.inl rfl)))
  · exact Or.inr (Or.inr (Or.inr (Or.inr (Or.inl rfl))))
  · exact Or.inr (Or.inr (Or.inr (Or.inr (Or.inr rfl))))
theorem isT_c {t : Nat} (h : isT t) : ∃ c, (c = 5 ∨ c = 6 ∨ c = 7 ∨ c = 8 ∨ c = 9 ∨ c = 11) ∧ t = 6 + cmi c := by
  rcases h with rfl | rfl | rfl | rfl | rfl | rfl
  · exact ⟨5, by decide, rfl⟩
  · exact ⟨6, by decide, rfl⟩
  · exact ⟨7, by decide, rfl⟩
  · exact ⟨8, by decide, rfl⟩
  · exact ⟨9, by decide, rfl⟩
  · exact ⟨11, by decide, rfl⟩
theorem sp_takesStep {Q : Int32 → FI → FJ → FR → Prop} (hT : TrdX S tr k ta) (hX : TxC S (gI S) (gJ S) k tt rv tx L) (hb : bok B) (hN : ∀ i, i < bM B → wok (bnm B i) ∧ (bnm B i).length ≤ 8) (hB : BX B im S b) (hi : ∀ e, im e → ¬ WTr k tr ta e) (ht : TkC (gI S) (gJ S) k tx L p) (hp : p ≤ L) (hR : RdT S B im tr ta P st (gI S) (gR S)) (hO : OkT B P st) (h1 : tk tx L p ≠ 1) (h16 : tk tx L p ≠ 16)
    (hy : ∀ q F J R s', rTs B tx L (p, P, st) none q s' → s'.1 = q → q ≤ L → p < q → FTk k tr ta (gI S) F (gJ S) J (gR S) R → F k 9 = gI S k 9 → F k 10 = gI S k 10 → TkC F J k tx L q → RdT S B im tr ta s'.2.1 s'.2.2 F R → OkT B s'.2.1 s'.2.2 → Q 1 F J R)
    (hf : ∀ f q F J R s', rTs B tx L (p, P, st) (some f) q s' → FTk k tr ta (gI S) F (gJ S) J (gR S) R → F k 9 = nI f → F k 10 = nI (sk tx L q) → Q 0 F J R) : P_X9_takesStep tr b S Q := by
  have hk := hX.1
  obtain ⟨e1, e2, e3, e4, e5, e6, e7, e8, e9, e10⟩ := hT.e hk
  obtain ⟨r1, r2, r3, rl⟩ := hR
  have hO' := hO
  obtain ⟨o1, o2, o3, o4⟩ := hO'
  have nl := nx_le (tx := tx) hp
  have pn := nl.2.2.2.1 h1
  have d3 : dep P ≤ 3 := o3 _ (Nat.le_refl _)
  have t17 := tk_17 (tx := tx) (L := L) p
  refine ⟨hT.1, k, hT.2.1, hk, fun v3 ev3 => ?_⟩
  obtain rfl : v3 = nI (tk tx L p) := by rw [ev3]; exact ht.2.2.1
  have q15 : nI (tk tx L p) = 15 ↔ tk tx L p = 15 := nI_tk (c := 15) (by decide)
  have q14 : nI (tk tx L p) = 14 ↔ tk tx L p = 14 := nI_tk (c := 14) (by decide)
  have q17 : nI (tk tx L p) = 17 ↔ tk tx L p = 17 := nI_tk (c := 17) (by decide)
  rw [q15, q14, q17, r1, r2]
  refine sp_isStep t17 (fun hI => ⟨fun _ => ?_, fun y => absurd y one0⟩) (fun hI => ⟨fun y => absurd rfl y, fun _ => ?_⟩)
  case refine_2 => exact sp_misplaced hk ht (fun F2 fl => ⟨Or.inl rfl, hf _ p F2 (gJ S) (gR S) (p, P, st) (Or.inr (Or.inr (Or.inr (Or.inr (Or.inr (Or.inr (Or.inr ⟨h16, hI, rfl, rfl⟩))))))) (FTk.fl fl) fl.2.2.1 fl.2.2.2⟩)
  refine ⟨fun y30 => ?_, fun y30 => ?_⟩
  case refine_2 =>
    have s30 : 30 ≤ st := by
      rcases Nat.lt_or_ge st 30 with z | z
      · exact absurd (nI_lt (b := 30) z (by decide)) y30
      · exact z
    exact sp_wrong (f := 6) hk ht.1 (fun F2 fl => ⟨Or.inl rfl, hf 6 p F2 (gJ S) (gR S) (p, P, st) (Or.inr (Or.inl ⟨hI, s30, rfl, rfl⟩)) (FTk.fl fl) fl.2.2.1 fl.2.2.2⟩)
  have s30 : st < 30 := by
    rcases Nat.lt_or_ge st 30 with z | z
    · exact z
    · exact absurd y30 (nI_nlt (b := 30) z (by omega))
  refine ⟨tk tx L p = 15 → dep P < 3, fun hJ v9 e9' F10 e10' => ?_, fun n15 y => absurd y n15, fun y15 => ⟨fun y3 _ => ?_, fun y3 => ?_⟩⟩
  case refine_2 =>
    rcases Nat.lt_or_ge (dep P) 3 with z | z
    · exact z
    · exact absurd y3 (nI_nlt (b := 3) z (by omega))
  case refine_3 =>
    have z3 : 3 ≤ dep P := by
      rcases Nat.lt_or_ge (dep P) 3 with z | z
      · exact absurd (nI_lt (b := 3) z (by decide)) y3
      · exact z
    exact sp_wrong (f := 7) hk ht.1 (fun F2 fl => ⟨Or.inl rfl, hf 7 p F2 (gJ S) (gR S) (p, P, st) (Or.inr (Or.inr (Or.inl ⟨y15, s30, z3, rfl, rfl⟩))) (FTk.fl fl) fl.2.2.1 fl.2.2.2⟩)
  have on10 : ∀ a, a ≠ tr → F10 a = gI S a := fun a ha => by rw [e10', up_ne ha]
  have t10 : ∀ j, j ≠ 1 → F10 tr j = gI S tr j := fun j hj => by rw [e10', up_no hj]
  have f10 : FTk k tr ta (gI S) F10 (gJ S) (gJ S) (gR S) (gR S) := ⟨fun a ha => ⟨on10 a (fun z => ha (Or.inr (Or.inl z))), rfl⟩, fun j _ _ _ _ _ _ => by rw [on10 k (Ne.symm e1)], fun _ _ => rfl⟩
  have K60 : pgK P < 60 := by omega
  refine sp_addLine (S := wI S F10) (K := pgK P) hT hk (by show F10 tr 3 = _; rw [t10 3 (by decide)]; exact r3) K60 (fun F11 R11 ft11 tj11 t113 q4 q5 q6 k4 k5 k6 kk => ⟨k, ?_, hk, ?_⟩)
  case refine_1 => rw [show R11 tr = gR S tr from ft11.2.2 tr (Ne.symm e7)]; exact hT.2.1
  have ft11' : FTk k tr ta F10 F11 (gJ S) (gJ S) (gR S) R11 := ft11
  have kk' : F11 k = F10 k := kk
  have tj11' : ∀ j, j ≠ 3 → F11 tr j = F10 tr j := tj11
  have kS : F11 k = gI S k := by rw [kk', on10 k (Ne.symm e1)]
  have fs : FTk k tr ta (gI S) F11 (gJ S) (gJ S) (gR S) R11 := f10.tr ft11'
  have t11 : TkC F11 (gJ S) k tx L p := ht.cg kS rfl
  have ed11 : Ed k tr ta (pgK P) (gI S) F11 (gJ S) (gJ S) (gR S) R11 (nI (st + 1)) (nI (dep P)) (nI (tk tx L p)) 0 none := by
    refine ⟨fs, ?_, ?_, t113, fun i hi => ?_, fun i hi => ?_, fun i hi => q6 i hi, k4, k5, k6, by rw [kS], by rw [kS]⟩
    · rw [tj11' 1 (by decide), e10', up_at, e9']; exact nI_1 st
    · rw [tj11' 2 (by decide), t10 2 (by decide)]; exact r2
    · exact (q4 i hi).trans (by rw [show gI (wI S F10) (ta 4) = F10 (ta 4) from rfl, on10 _ e5])
    · exact (q5 i hi).trans (by rw [show gI (wI S F10) (ta 5) = F10 (ta 5) from rfl, on10 _ e6])
  refine sp_next (S := wA S F11 (gJ S) R11) (p := nx tx L p) (hX.ft hT fs) t11.2.1 nl.2.2.1 (fun F14 J14 nf nj t14 => ?_)
  have ed14 : Ed k tr ta (pgK P) (gI S) F14 (gJ S) J14 (gR S) R11 (nI (st + 1)) (nI (dep P)) (nI (tk tx L p)) 0 none := ed11.nx hT hk nf nj
  have nlq := nx_le (tx := tx) nl.2.2.1
  -- what a finished line gives
  have mkR : ∀ (F : FI) (J : FJ) (R : FR) (c mm n : Nat) (n1 d1 : Int32) (nm : Option Nat), Ed k tr ta (pgK P) (gI S) F (gJ S) J (gR S) R (nI (st + 1)) d1 (nI (tk tx L p)) n1 nm → tk tx L p = 6 + cmi c → d1 = nI (dep (addP P c mm n)) → (5 ≤ c → c ≤ 8 → ∃ q, nm = some q ∧ MX B mm im S q ∧ n1 = nI (if c = 8 then n else bl B mm)) → (c = 9 → n1 = nI n) → RdT S B im tr ta (addP P c mm n) (st + 1) F R := fun F J R c mm n n1 d1 nm ed hc hd hl h9 => by
    obtain ⟨-, a1, a2, a3, a4, a5, a6, a7, a8, a9, -, -⟩ := ed
    refine ⟨a1, a2.trans hd, a3, rl.add a4 a5 a6 (by rw [a7, hc]) (fun y1 y2 => ?_) (fun y => by rw [a8]; exact h9 y)⟩
    obtain ⟨q, u1, u2, u3⟩ := hl y1 y2
    exact ⟨q, by rw [a9, u1], u2, by rw [a8, u3]⟩
  refine ⟨fun n15 => ?_, fun y15 v33 e33 F34 e34 => ?_⟩
  · refine ⟨fun F J R => ∃ q1 cnt nmv, q1 ≤ L ∧ p < q1 ∧ TkC F J k tx L q1 ∧ Ed k tr ta (pgK P) (gI S) F (gJ S) J (gR S) R (nI (st + 1)) (nI (dep P)) (nI (tk tx L p)) cnt nmv ∧ ((tk tx L p = 17 ∧ q1 = nx tx L p) ∨ (tk tx L p ≠ 17 ∧ ∃ i mq, i < bM B ∧ rMN B i tx L (nx tx L p) none q1 ∧ q1 = nx tx L (nx tx L p) ∧ MX B i im S mq ∧ cnt = nI (bl B i) ∧ nmv = some mq)), ?_, fun y17 => ⟨nx tx L p, 0, none, nl.2.2.1, pn, t14, ed14, Or.inl ⟨y17, rfl⟩⟩, fun n17 => ?_⟩
    · rintro F18 J19 R20 ⟨q1, cnt, nmv, q1L, pq1, t18, ed18, hcase⟩
      refine ⟨fun F J => ∃ q2 P', q2 ≤ L ∧ p < q2 ∧ FTk k tr ta (gI S) F (gJ S) J (gR S) R20 ∧ F k 9 = gI S k 9 ∧ F k 10 = gI S k 10 ∧ TkC F J k tx L q2 ∧ RdT S B im tr ta P' (st + 1) F R20 ∧ OkT B P' (st + 1) ∧ ∀ o q, rSG tx L q2 o q → rTs B tx L (p, P, st) o q (q, P', st + 1), ?_, fun n14 => ?_, fun y14 => ?_⟩
      · rintro F23 J24 ⟨q2, P', q2L, pq2, ft, f9, f10', t23, rd, ok, hr⟩
        refine ⟨k, ?_, hk, sp_tsign (P := P) (st := st) hT hX ft f9 f10' t23 q2L pq2 rd ok hr hy hf (fun F J h => ⟨Or.inr rfl, h⟩) (fun F J h => ⟨Or.inl rfl, h⟩)⟩
        rw [show R20 tr = gR S tr from ft.2.2 tr (Ne.symm e7)]; exact hT.2.1
      · obtain ⟨ftE, -, -, -, -, -, -, -, -, -, f9, f10'⟩ := id ed18
        rcases hcase with ⟨y17, qe⟩ | ⟨n17, i, mq, hib, hmn, qe, mx, hcnt, hnm⟩
        · refine ⟨q1, addP P 11 0 0, q1L, pq1, ftE, f9, f10', t18, mkR F18 J19 R20 11 0 0 cnt _ nmv ed18 y17 (by rw [dep_n P 0 0 (by decide) (by decide)]) (fun _ y => by omega) (fun y => by omega), hO.add (by omega) (by rw [dep_n P 0 0 (by decide) (by decide)]; omega) (by rw [dep_n P 0 0 (by decide) (by decide)]; exact d3) (Or.inr (Or.inr (Or.inr (Or.inr (add_k P 11 0 0))))), fun o q h => Or.inr (Or.inr (Or.inr (Or.inr (Or.inl ⟨y17, s30, by rw [← qe]; exact h, rfl⟩))))⟩
        · obtain ⟨c, hc, hct⟩ := isT_c hI
          have hc7 : c = 5 ∨ c = 6 ∨ c = 7 := by
            rcases hc with z | z | z | z | z | z
            · exact Or.inl z
            · exact Or.inr (Or.inl z)
            · exact Or.inr (Or.inr z)
            · rw [z] at hct; exact absurd hct n14
            · rw [z] at hct; exact absurd hct n15
            · rw [z] at hct; exact absurd hct n17
          have c9 : c ≠ 9 := by omega
          have c10 : c ≠ 10 := by omega
          have c8 : c ≠ 8 := by omega
          refine ⟨q1, addP P c i 0, q1L, pq1, ftE, f9, f10', t18, mkR F18 J19 R20 c i 0 cnt _ nmv ed18 hct (by rw [dep_n P i 0 c9 c10]) (fun _ _ => ⟨mq, hnm, mx, by rw [if_neg c8]; exact hcnt⟩) (fun y => absurd y c9), hO.add (by omega) (by rw [dep_n P i 0 c9 c10]; omega) (by rw [dep_n P i 0 c9 c10]; exact d3) (Or.inl ⟨by rw [add_k]; exact hc7, ?_⟩), fun o q h => Or.inr (Or.inr (Or.inr (Or.inr (Or.inr (Or.inr (Or.inl ⟨s30, c, i, hc7, hct, ⟨none, q1, hmn, Or.inl ⟨rfl, h⟩⟩, rfl⟩))))))⟩
          show setg (pgm P) (pgK P) i (pgK P) < bM B
          rw [setg_at]; exact hib
      · obtain ⟨ftE, -, -, a3, -, -, -, -, a8, -, f9, f10'⟩ := id ed18
        have T2 : TrdX (wA S F18 J19 R20) tr k ta := hT.ft ftE.2.2
        rcases hcase with ⟨y17, qe⟩ | ⟨n17, i, mq, hib, hmn, qe, mx, hcnt, hnm⟩
        · omega
        · obtain ⟨-, -, -, ⟨r5, k5', l5⟩, -⟩ := T2
          have g3 : gI (wA S F18 J19 R20) tr 3 = nI (pgK P + 1) := a3
          have bl2 := (bl_32 hb hib).2
          have bl1 := (bl_32 hb hib).1
          refine ⟨hT.1, fun y => ?_, fun _ => ?_⟩
          · rw [g3] at y
            exact absurd ((nI_leI (a := pgK P + 1) (b := 0) (by omega) (by decide)).mp y) (by omega)
          · rw [g3, sub1 (by omega), show pgK P + 1 - 1 = pgK P from rfl]
            refine ⟨ta 5, r5, k5', by rw [l5]; exact vp_in_nI K60 (by decide), ?_⟩
            rw [nI_clamp (by omega), show gI (wA S F18 J19 R20) (ta 5) (pgK P) = nI (bl B i) from a8.trans hcnt]
            refine sp_takesCount (hi := bl B i) hT hX rfl ed18 K60 t18 q1L (by omega) (fun q F2 J2 hnu v1 v2 qL pq qe2 t2 ed2 => ⟨fun _ => ?_, fun y => absurd y one0⟩) (fun f q F2 hnu ft2 u9 u10 => ⟨fun y => absurd rfl y, fun _ => ?_⟩)
            · obtain ⟨ft2, -, -, -, -, -, -, -, -, -, g9, g10⟩ := id ed2
              rw [qe] at v1 v2 ed2
              refine ⟨q, addP P 8 i (vl' tx L (nx tx L (nx tx L p))), qL, by omega, ft2, g9, g10, t2, mkR F2 J2 R20 8 i _ _ _ nmv ed2 y14 (by rw [dep_n P i _ (by decide) (by decide)]) (fun _ _ => ⟨mq, hnm, mx, by rw [if_pos rfl]⟩) (fun y => by omega), hO.add (by omega) (by rw [dep_n P i _ (by decide) (by decide)]; omega) (by rw [dep_n P i _ (by decide) (by decide)]; exact d3) (Or.inr (Or.inl ⟨add_k P 8 i _, ?_, ?_, ?_⟩)), fun o q' h => Or.inr (Or.inr (Or.inr (Or.inr (Or.inr (Or.inl ⟨y14, s30, i, ⟨none, q1, hmn, Or.inl ⟨rfl, none, q, hnu, Or.inl ⟨rfl, h⟩⟩⟩, rfl⟩)))))⟩
              · show setg (pgm P) (pgK P) i (pgK P) < bM B
                rw [setg_at]; exact hib
              · show 1 ≤ setg (pgc P) (pgK P) _ (pgK P)
                rw [setg_at]; exact v1
              · show setg (pgc P) (pgK P) _ (pgK P) ≤ bl B (setg (pgm P) (pgK P) i (pgK P))
                rw [setg_at, setg_at]; exact v2
            · exact hf f q F2 J19 R20 _ (Or.inr (Or.inr (Or.inr (Or.inr (Or.inr (Or.inl ⟨y14, s30, i, ⟨none, q1, hmn, Or.inl ⟨rfl, some f, q, hnu, Or.inr ⟨f, rfl, rfl, rfl⟩⟩⟩, rfl⟩)))))) ft2 u9 u10
    · refine sp_takesMethodName hT hX hb hN hB ⟨rfl, rfl, rfl⟩ hi ed14 K60 t14 nl.2.2.1 (fun i q mq F2 J2 R2 hmn hib qL pq qe mx t2 ed2 => ⟨fun _ => ⟨q, _, _, qL, by omega, t2, ed2, Or.inr ⟨n17, i, mq, hib, hmn, qe, mx, rfl, rfl⟩⟩, fun y => absurd y one0⟩) (fun f q F2 hmn ft2 u9 u10 => ⟨fun y => absurd rfl y, fun _ => ?_⟩)
      obtain ⟨c, hc, hct⟩ := isT_c hI
      by_cases y14 : tk tx L p = 14
      · exact hf f q F2 J14 R11 _ (Or.inr (Or.inr (Or.inr (Or.inr (Or.inr (Or.inl ⟨y14, s30, 0, ⟨some f, q, hmn 0, Or.inr ⟨f, rfl, rfl, rfl⟩⟩, rfl⟩)))))) ft2 u9 u10
      · have hc7 : c = 5 ∨ c = 6 ∨ c = 7 := by
          rcases hc with z | z | z | z | z | z
          · exact Or.inl z
          · exact Or.inr (Or.inl z)
          · exact Or.inr (Or.inr z)
          · rw [z] at hct; exact absurd hct y14
          · rw [z] at hct; exact absurd hct n15
          · rw [z] at hct; exact absurd hct n17
        exact hf f q F2 J14 R11 _ (Or.inr (Or.inr (Or.inr (Or.inr (Or.inr (Or.inr (Or.inl ⟨s30, c, 0, hc7, hct, ⟨some f, q, hmn 0, Or.inr ⟨f, rfl, rfl, rfl⟩⟩, rfl⟩))))))) ft2 u9 u10
  · have d2 := hJ y15
    obtain ⟨g1, a1, a2, a3, a4, a5, a6, a7, a8, a9, a10, a11⟩ := ed14
    have ed34 : Ed k tr ta (pgK P) (gI S) F34 (gJ S) J14 (gR S) R11 (nI (st + 1)) (nI (dep P + 1)) (nI (tk tx L p)) 0 none := by
      refine ⟨⟨fun a ha => ⟨?_, (g1.1 a ha).2⟩, fun j y1 y2 y3 y4 y5 y6 => ?_, g1.2.2⟩, ?_, ?_, ?_, fun j hj => ?_, fun j hj => ?_, a6, ?_, ?_, a9, ?_, ?_⟩
      · rw [e34, up_ne (fun z => ha (Or.inr (Or.inl z)))]; exact (g1.1 a ha).1
      · rw [e34, up_ne (Ne.symm e1)]; exact g1.2.1 j y1 y2 y3 y4 y5 y6
      · rw [e34, up_no (by decide)]; exact a1
      · rw [e34, up_at, e33, a2]; exact nI_1 _
      · rw [e34, up_no (by decide)]; exact a3
      · rw [e34, up_ne e5]; exact a4 j hj
      · rw [e34, up_ne e6]; exact a5 j hj
      · rw [e34, up_ne e5]; exact a7
      · rw [e34, up_ne e6]; exact a8
      · rw [e34, up_ne (Ne.symm e1)]; exact a10
      · rw [e34, up_ne (Ne.symm e1)]; exact a11
    have t34 : TkC F34 J14 k tx L (nx tx L p) := t14.cg (by rw [e34, up_ne (Ne.symm e1)]) rfl
    refine sp_takesCount (hi := 99) hT hX rfl ed34 K60 t34 nl.2.2.1 (by decide) (fun q F2 J2 hnu v1 v2 qL pq qe2 t2 ed2 => ⟨fun y => absurd y one0, fun _ => ?_⟩) (fun f q F2 hnu ft2 u9 u10 => ⟨fun _ => ?_, fun y => absurd rfl y⟩)
    · obtain ⟨ft2, -, -, -, -, -, -, -, -, -, g9, g10⟩ := id ed2
      refine sp_tsign (P := P) (st := st) (st' := st + 1) (P' := addP P 9 0 (vl' tx L (nx tx L p))) hT hX ft2 g9 g10 t2 qL (by omega) (mkR F2 J2 R11 9 0 _ _ _ none ed2 y15 (by rw [dep_9]) (fun _ y => by omega) (fun _ => rfl)) (hO.add (by omega) (by rw [dep_9]; omega) (by rw [dep_9]; omega) (Or.inr (Or.inr (Or.inl ⟨add_k P 9 0 _, ?_, ?_⟩)))) (fun o q' h => Or.inr (Or.inr (Or.inr (Or.inl ⟨y15, s30, d2, ⟨none, q, hnu, Or.inl ⟨rfl, h⟩⟩, rfl⟩)))) hy hf (fun F J h => ⟨fun y => absurd y one0, fun _ => h⟩) (fun F J h => ⟨fun _ => h, fun y => absurd rfl y⟩)
      · show 1 ≤ setg (pgc P) (pgK P) _ (pgK P)
        rw [setg_at]; exact v1
      · show setg (pgc P) (pgK P) _ (pgK P) ≤ 99
        rw [setg_at]; exact v2
    · exact hf f q F2 J14 R11 _ (Or.inr (Or.inr (Or.inr (Or.inl ⟨y15, s30, d2, ⟨some f, q, hnu, Or.inr ⟨f, rfl, rfl, rfl⟩⟩, rfl⟩)))) ft2 u9 u10
theorem sp_ttakes {Q : Int32 → FI → FJ → FR → Prop} (hT : TrdX S tr k ta) (hX : TkX S k tt rv) (hb : bok B) (hN : ∀ i, i < bM B → wok (bnm B i) ∧ (bnm B i).length ≤ 8) (hB : BX B im S b) (hi : ∀ e, im e → ¬ WTr k tr ta e) (hL : L ≤ 300) (ht : ∀ j, j < L → tx j < 256 ∧ gI S tt j = sb (tx j))
    (hy : ∀ q F J R s, rTouch B tx L none q s → (∀ a, ¬ WTr k tr ta a → F a = gI S a ∧ J a = gJ S a) → (∀ a, a ≠ ta 6 → R a = gR S a) → F k 1 = 0 → F k 9 = 0 → F k 10 = -1 → RdT S B im tr ta s.2.1 s.2.2 F R → OkT B s.2.1 s.2.2 → dep s.2.1 = 0 → Q 1 F J R)
    (hf : ∀ f q F J R s, rTouch B tx L (some f) q s → (∀ a, ¬ WTr k tr ta a → F a = gI S a ∧ J a = gJ S a) → (∀ a, a ≠ ta 6 → R a = gR S a) → F k 1 = 0 → F k 9 = nI f → F k 10 = nI (sk tx L q) → Q 0 F J R) : P_X9_takes tr (nI L) b S Q := by
  have hk := hX.1
  obtain ⟨e1, e2, e3, e4, e5, e6, e7, e8, e9, e10⟩ := hT.e hk
  refine ⟨hT.1, fun F1 e1' F2 e2' F3 e3' => ⟨k, hT.2.1, hk, ?_⟩⟩
  have on3 : ∀ a, a ≠ tr → F3 a = gI S a := fun a ha => by rw [e3', up_ne ha, e2', up_ne ha, e1', up_ne ha]
  have tb : tt ≠ tr := kd_ne hX.2.2.1 hT.1 (by decide)
  refine sp_open (S := wI S F3) (tx := tx) hX (by omega) (fun j hj => by show _ ∧ F3 tt j = _; rw [on3 tt tb]; exact ht j hj) (fun F6 J6 f6 nj6 f61 f69 f610 X6 t6 => ?_)
  have f6' : ∀ a, a ≠ k → F6 a = F3 a := f6
  have fr6 : ∀ a, ¬ WTr k tr ta a → F6 a = gI S a ∧ J6 a = gJ S a := fun a ha => ⟨by rw [f6' a (fun z => ha (Or.inl z)), on3 a (fun z => ha (Or.inr (Or.inl z)))], nj6.1 a (fun z => ha (Or.inl z))⟩
  have simS : Sim im S (wA S F6 J6 (gR S)) := fun a ha => ⟨rfl, rfl, (fr6 a (hi a ha)).1, (fr6 a (hi a ha)).2, rfl⟩
  have X6' : TxC (wA S F6 J6 (gR S)) F6 J6 k tt rv tx L := X6
  have R0 : RdT S B im tr ta P0 0 F6 (gR S) := by
    refine ⟨?_, ?_, ?_, fun j hj => by have : j < 0 := hj; omega⟩
    · rw [f6' tr e1, e3', up_no (by decide), e2', up_no (by decide), e1', up_at]; rfl
    · rw [f6' tr e1, e3', up_no (by decide), e2', up_at]; rfl
    · rw [f6' tr e1, e3', up_at]; rfl
  have O0 : OkT B P0 0 := ⟨Nat.le_refl _, by decide, fun j hj => by have hj' : j ≤ 0 := hj; rw [Nat.le_zero.mp hj']; exact Nat.zero_le _, fun j hj => by have : j < 0 := hj; omega⟩
  have pack : ∀ {F : FI} {J : FJ} {R : FR}, FTk k tr ta F6 F J6 J (gR S) R → (∀ a, ¬ WTr k tr ta a → F a = gI S a ∧ J a = gJ S a) ∧ (∀ a, a ≠ ta 6 → R a = gR S a) ∧ F k 1 = 0 := fun h => ⟨fun a ha => ⟨(h.1 a ha).1.trans (fr6 a ha).1, (h.1 a ha).2.trans (fr6 a ha).2⟩, h.2.2, (h.2.1 1 (by decide) (by decide) (by decide) (by decide) (by decide) (by decide)).trans f61⟩
  refine ⟨fun n x F J R => ∃ i, n = 301 - i ∧ x = nI i ∧ TInv S k tr ta B im tx L F6 J6 (gR S) i F J R, ⟨301, 0, rfl, rfl, fun _ => (0, P0, 0), Nat.zero_le _, Nat.zero_le _, rfl, fun j hj => by omega, FTk.rf, f69, f610, t6, R0, O0⟩, ?_⟩
  rintro n x F J R ⟨i, rfl, rfl, s, hi1, hi2, st0, chain, ft, g9, g10, tti, Ri, Oi⟩
  have i300 : i ≤ 300 := by omega
  have fS : FTk k tr ta (gI S) F (gJ S) J (gR S) R ∨ True := Or.inr trivial
  have Rk : ∀ a, a ≠ ta 6 → R a = gR S a := ft.2.2
  have T1 : TrdX (wA S F J R) tr k ta := hT.ft Rk
  have X1 : TxC (wA S F J R) F J k tt rv tx L := TxC.ft (S := wA S F6 J6 (gR S)) (G := F6) (GJ := J6) X6' hT ft
  have sim : Sim im S (wA S F J R) := fun a ha => ⟨rfl, rfl, ((ft.1 a (hi a ha)).1).trans (fr6 a (hi a ha)).1, ((ft.1 a (hi a ha)).2).trans (fr6 a (hi a ha)).2, Rk a (fun z => hi a ha (Or.inr (Or.inr (Or.inr (Or.inr (Or.inl z))))))⟩
  refine ⟨tk tx L (s i).1 = 1, fun hend => ?_, fun y => absurd y (nI_nlt (a := 300) (by omega) (by decide)), fun _ => ⟨k, T1.2.1, hk, sp_isAt (S := wA S F J R) (J := J) hk tti (c := 1) (by decide) (fun e => ⟨fun _ => e, fun y => absurd y one0⟩) (fun ne1 => ⟨fun y => absurd rfl y, fun _ => ?_⟩)⟩⟩
  · have d3 : dep (s i).2.1 ≤ 3 := Oi.2.2.1 _ (Nat.le_refl _)
    rw [Ri.2.1]
    refine ⟨fun y => ?_, fun y => ⟨k, T1.2.1, hk, sp_misplaced (S := wA S F J R) hk tti (fun F2 fl => ⟨fun _ => ?_, fun y => absurd rfl y⟩)⟩⟩
    · have d0 : dep (s i).2.1 = 0 := (nI_z (by omega)).mp y
      exact hy (s i).1 F J R (s i) ⟨i, s, st0, chain, Or.inl ⟨hend, d0, rfl, rfl⟩⟩ (pack ft).1 (pack ft).2.1 (pack ft).2.2 g9 g10 Ri Oi d0
    · have d0 : dep (s i).2.1 ≠ 0 := fun z => y (by rw [z]; rfl)
      have ft2 := ft.tr (FTk.fl (tr := tr) (ta := ta) (GJ := J) (GR := R) fl)
      exact hf _ (s i).1 F2 J R (s i) ⟨i, s, st0, chain, Or.inr (Or.inl ⟨hend, d0, rfl, rfl⟩)⟩ (pack ft2).1 (pack ft2).2.1 (pack ft2).2.2 fl.2.2.1 fl.2.2.2
  · have okk : ∀ q F2 J2 R2 s', rTs B tx L (s i) none q s' → s'.1 = q → q ≤ L → (s i).1 < q → FTk k tr ta F F2 J J2 R R2 → F2 k 9 = F k 9 → F2 k 10 = F k 10 → TkC F2 J2 k tx L q → RdT (wA S F J R) B im tr ta s'.2.1 s'.2.2 F2 R2 → OkT B s'.2.1 s'.2.2 → TInv S k tr ta B im tx L F6 J6 (gR S) (i + 1) F2 J2 R2 := fun q F2 J2 R2 s' it sq qL pq ft2 u9 u10 t2 R2' O2 => by
      refine ⟨setg s (i + 1) s', ?_, ?_, ?_, fun j hj => ?_, ft.tr ft2, u9.trans g9, u10.trans g10, ?_, ?_, ?_⟩
      · rw [setg_at, sq]; omega
      · rw [setg_at, sq]; exact qL
      · rw [setg_no (by omega)]; exact st0
      · by_cases cj : j = i
        · subst cj
          rw [setg_no (by omega), setg_at, sq]
          exact ⟨ne1, it⟩
        · rw [setg_no (by omega), setg_no (by omega)]
          exact chain j (by omega)
      · rw [setg_at, sq]; exact t2
      · rw [setg_at]; exact R2'.sm sim.sy
      · rw [setg_at]; exact O2
    have bad : ∀ f q F2 J2 R2 s', rTs B tx L (s i) (some f) q s' → FTk k tr ta F F2 J J2 R R2 → F2 k 9 = nI f → F2 k 10 = nI (sk tx L q) → Q 0 F2 J2 R2 := fun f q F2 J2 R2 s' it ft2 u9 u10 => hf f q F2 J2 R2 (s i) ⟨i, s, st0, chain, Or.inr (Or.inr ⟨ne1, f, s', rfl, it⟩)⟩ (pack (ft.tr ft2)).1 (pack (ft.tr ft2)).2.1 (pack (ft.tr ft2)).2.2 u9 u10
    have conv : ∀ (t : Int32) (F2 : FI) (J2 : FJ) (R2 : FR), ((t = 1 ∧ TInv S k tr ta B im tx L F6 J6 (gR S) (i + 1) F2 J2 R2) ∨ (t = 0 ∧ Q 0 F2 J2 R2)) → (¬ t = 0 → ∀ v : Int32, v = nI i + 1 → ∃ k', k' < 301 - i ∧ ∃ i', k' = 301 - i' ∧ v = nI i' ∧ TInv S k tr ta B im tx L F6 J6 (gR S) i' F2 J2 R2) ∧ (t = 0 → Q 0 F2 J2 R2) := fun t F2 J2 R2 h => by
      rcases h with ⟨rfl, h⟩ | ⟨rfl, h⟩
      · exact ⟨fun _ v ev => ⟨301 - (i + 1), by omega, i + 1, rfl, by rw [ev]; exact nI_1 i, h⟩, fun y => absurd y one0⟩
      · exact ⟨fun y => absurd rfl y, fun _ => h⟩
    refine sp_isAt (S := wA S F J R) (J := J) hk tti (c := 16) (by decide) (fun e16 => ⟨fun t F2 J2 R2 => (t = 1 ∧ TInv S k tr ta B im tx L F6 J6 (gR S) (i + 1) F2 J2 R2) ∨ (t = 0 ∧ Q 0 F2 J2 R2), conv, fun y => absurd y one0, fun _ => ?_⟩) (fun ne16 => ⟨fun t F2 J2 R2 => (t = 1 ∧ TInv S k tr ta B im tx L F6 J6 (gR S) (i + 1) F2 J2 R2) ∨ (t = 0 ∧ Q 0 F2 J2 R2), conv, fun _ => ?_, fun y => absurd rfl y⟩)
    · exact sp_takesEnd (S := wA S F J R) (P := (s i).2.1) (st := (s i).2.2) T1 X1 tti hi2 (Ri.sm sim) Oi e16 (fun q F2 J2 R2 s' it sq qL pq ft2 u9 u10 t2 R2' O2 => Or.inl ⟨rfl, okk q F2 J2 R2 s' it sq qL pq ft2 u9 u10 t2 R2' O2⟩) (fun f q F2 J2 R2 s' it ft2 u9 u10 => Or.inr ⟨rfl, bad f q F2 J2 R2 s' it ft2 u9 u10⟩)
    · exact sp_takesStep (S := wA S F J R) (P := (s i).2.1) (st := (s i).2.2) T1 X1 hb hN (hB.sm sim) hi tti hi2 (Ri.sm sim) Oi ne1 ne16 (fun q F2 J2 R2 s' it sq qL pq ft2 u9 u10 t2 R2' O2 => Or.inl ⟨rfl, okk q F2 J2 R2 s' it sq qL pq ft2 u9 u10 t2 R2' O2⟩) (fun f q F2 J2 R2 s' it ft2 u9 u10 => Or.inr ⟨rfl, bad f q F2 J2 R2 s' it ft2 u9 u10⟩)
end TU
