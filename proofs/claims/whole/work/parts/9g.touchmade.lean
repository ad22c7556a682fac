/-! The class makes a touch of the lines that it read. -/
def Stk (A7 A8 : Nat → Int32) : List Nat → List Nat → Prop
  | o :: os, l :: ls => A7 ls.length = nI (o + 1) ∧ A8 ls.length = nI l ∧ Stk A7 A8 os ls
  | _, _ => True
theorem Stk.cg {A7 A8 C7 C8 : Nat → Int32} : ∀ {os ls : List Nat}, Stk A7 A8 os ls → (∀ j, j < ls.length → C7 j = A7 j ∧ C8 j = A8 j) → Stk C7 C8 os ls
  | [], _, _, _ => by unfold Stk; trivial
  | _ :: _, [], _, _ => by unfold Stk; trivial
  | o :: os, l :: ls, h, hc => by
    obtain ⟨h1, h2, h3⟩ := h
    refine ⟨?_, ?_, Stk.cg h3 (fun j hj => hc j (by show j < ls.length + 1; omega))⟩
    · rw [(hc ls.length (Nat.lt_succ_self _)).1]; exact h1
    · rw [(hc ls.length (Nat.lt_succ_self _)).2]; exact h2
theorem cmi_eq {g c : Nat} (hg : g ≤ 11) (hc : c ≤ 11) : nI (6 + cmi g) = nI (6 + cmi c) ↔ g = c := by
  have : ∀ g, g < 12 → ∀ c, c < 12 → (nI (6 + cmi g) = nI (6 + cmi c) ↔ g = c) := by decide +kernel
  exact this g (by omega) c (by omega)
/-- of the reader only this is used when a touch is made -/
def FMk (tr : Nat) (ta : Nat → Nat) (G F : FI) : Prop := (∀ a, a ≠ tr → a ≠ ta 7 → a ≠ ta 8 → a ≠ ta 9 → F a = G a) ∧ ∀ j, j ≠ 2 → j ≠ 10 → F tr j = G tr j
theorem FMk.tr {rd : Nat} {ta : Nat → Nat} {G F F2 : FI} (h : FMk rd ta G F) (h2 : FMk rd ta F F2) : FMk rd ta G F2 := ⟨fun a y1 y2 y3 y4 => (h2.1 a y1 y2 y3 y4).trans (h.1 a y1 y2 y3 y4), fun j y1 y2 => (h2.2 j y1 y2).trans (h.2 j y1 y2)⟩
theorem tN_pg (B : Bk) (P : Pg) (st : Nat) : tN (pgT B P st) = (itp B P 30300).2.2.2.1 := by unfold pgT tN; rfl
section MK
variable {S : St} {k tr b : Nat} {ta : Nat → Nat} {B : Bk} {im : Nat → Prop} {P : Pg} {st : Nat} {G F F2 : FI}
theorem FMk.rf : FMk tr ta G G := ⟨fun _ _ _ _ _ => rfl, fun _ _ _ => rfl⟩
theorem sp_touchInit {th a n s N c d : Nat} {v : Nat → Nat → Bool} {Q : St → Prop} (hth : kd S th = 8) (ha : kd S a = 21) (hl : ln S a = N) (hN : N ≤ 2000) (hn : n ≤ 8) (hv : ∀ j, j < N → Sw n (v j) ∧ gI S a j = nI (pak (mvf (v j)) n)) (hc : 1 ≤ c) (hd : 2001 ≤ d)
    (hq : ∀ q S', kd S q = 0 → Fr (fun e => e = th) S S' → gI S' th 0 = nI n → gI S' th 1 = nI s → gR S' th 2 = some a → gR S' th 3 = some q → kd S' q = 21 → ln S' q = N + 1 → (∀ j, j ≤ N → gI S' q j = nI (pak (trw (s, N, v) j) n)) → Q S') : P_X8_init th (nI n) (nI s) a S c d Q := by
  refine ⟨hth, fun F1 e1 F2 e2 R3 e3 => ⟨ha, fun v6 e6 => ?_⟩⟩
  rw [hl, nI_1] at e6
  have c6 : v6.toNatClampNeg = N + 1 := by rw [e6]; exact nI_clamp (by omega)
  rw [c6]
  refine ⟨by rw [e6]; exact nI_pos (by omega), by omega, hc, by omega, fun q5 hq0 S5 e5 => ?_⟩
  have thq : th ≠ q5 := kd_nq (by rw [hth]; decide) hq0
  have aq : a ≠ q5 := kd_nq (by rw [ha]; decide) hq0
  have ath : a ≠ th := kd_ne ha hth (by decide)
  have A := alA e5
  have Bq := alB e5
  have tok' : tok n (s, N, v) := ⟨hN, fun j hj => (hv j hj).1⟩
  refine ⟨(A th thq).1.trans hth, fun R12 e12 => ⟨q5, by rw [e12, upR_at], sp_roundsOf hn ⟨Bq.1, by rw [Bq.2.1]; exact vp_in_nI (n := 0) (by omega) (by omega), fun F17 e17 => ?_⟩⟩⟩
  have c0 : F17 = upI (gI S5) q5 0 (nI (pak (fun p => p) n)) := e17
  refine ⟨fun u x F => ∃ i, i ≤ N ∧ u = N - i ∧ x = nI i ∧ On q5 (gI S5) F ∧ ∀ j, j ≤ i → F q5 j = nI (pak (trw (s, N, v) j) n), ⟨N, 0, Nat.zero_le _, rfl, rfl, by rw [c0]; exact On.up, fun j hj => by rw [Nat.le_zero.mp hj, c0, up_at]; rfl⟩, ?_⟩
  rintro u x F ⟨i, hi, rfl, rfl, oF, hF⟩
  refine ⟨(A a aq).1.trans ha, ?_⟩
  rw [(A a aq).2.1, show ln S a = N from hl]
  refine ⟨fun y => ?_, fun y => ?_⟩
  · have e : i = N := by
      have : N ≤ i := (nI_leI (by omega) (by omega)).mp y
      omega
    subst e
    have thI : F th = F2 th := by rw [oF th thq]; exact (A th thq).2.2.1
    have thR : R12 th = upR (gR S5) th 3 (some q5) th := by rw [e12]
    refine hq q5 _ hq0 (fun e he => ?_) ?_ ?_ ?_ ?_ Bq.1 Bq.2.1 hF
    · have eq5 := kd_nq he hq0
      obtain ⟨y1, y2, y3, y4, y5⟩ := A e eq5
      refine ⟨y1, y2, fun hw => ⟨?_, y4, ?_⟩⟩
      · show F e = _
        rw [oF e eq5, y3, e2, up_ne hw, e1, up_ne hw]
      · show R12 e = _
        rw [e12, upR_ne hw, y5, e3, upR_ne hw]
    · show F th 0 = _
      rw [thI, e2, up_no (by decide), e1, up_at]
    · show F th 1 = _
      rw [thI, e2, up_at]
    · show R12 th 2 = _
      rw [e12, upR_no (by decide), (A th thq).2.2.2.2, e3, upR_at]
    · show R12 th 3 = _
      rw [e12, upR_at]
  · have hlt : i < N := nI_gtI (by omega) (by omega) y
    have gA : F a i = nI (pak (mvf (v i)) n) := by
      rw [oF a aq, (A a aq).2.2.1, e2, up_ne ath, e1, up_ne ath]
      exact (hv i hlt).2
    rw [nI_clamp (by omega), hF i (Nat.le_refl _), gA, Bq.2.1]
    refine ⟨vp_in_nI (n := i) (by omega) (by omega), vp_in_nI hlt (by omega), sp_moved hn (hv i hlt).1 (pm8 hn (trw_pm tok' i (by show i ≤ N; omega))) ⟨?_, fun F27 e27 w ew => ?_⟩⟩
    · rw [nI_1]; exact vp_in_nI (n := i + 1) (by omega) (by omega)
    · rw [nI_1, nI_clamp (by omega)] at e27
      refine ⟨N - (i + 1), by omega, i + 1, by omega, rfl, by rw [ew]; exact nI_1 i, by rw [e27]; exact oF.tr On.up, fun j hj => ?_⟩
      rw [e27]
      by_cases cj : j = i + 1
      · rw [cj, up_at]; rfl
      · rw [up_no cj]; exact hF j (by omega)
/-- what the making has done after i turns -/
def MkI (S : St) (tr : Nat) (ta : Nat → Nat) (B : Bk) (P : Pg) (i : Nat) (F : FI) : Prop := FMk tr ta (gI S) F ∧ F tr 10 = nI (itp B P i).2.2.2.1 ∧ F tr 2 = nI (itp B P i).2.1.length ∧ (∀ j, j < (itp B P i).2.2.2.1 → F (ta 9) j = nI (pak (mvf ((itp B P i).2.2.2.2 j)) (bn B))) ∧ Stk (F (ta 7)) (F (ta 8)) (nst P (itp B P i).1) (itp B P i).2.1
theorem sp_behindEnd {i l : Nat} {t : List Nat} {Q : Int32 → FI → Prop} (hT : TrdX S tr k ta) (hb : bok B) (hW : PW B P) (hM : MkI S tr ta B P i F) (h1 : (itp B P i).1 < pgK P) (h10 : pgk P (itp B P i).1 = 10) (hls : (itp B P i).2.1 = l :: t)
    (hq : ∀ F2, MkI S tr ta B P (i + 1) F2 → Q (nI (itp B P (i + 1)).1) F2) : P_X9_behindEnd tr (nI (itp B P i).1) (wI S F) Q := by
  obtain ⟨m1, m2, m3, m4, m5⟩ := hM
  have ci := CI_it hb hW i
  obtain ⟨hT1, hT2, -, -, -, ⟨r7, k7, l7⟩, ⟨r8, k8, l8⟩, ⟨r9, k9, l9⟩, d45, d47, d48, d49, d57, d58, d59, d78, d79, d89⟩ := hT
  have t7 : ta 7 ≠ tr := kd_ne k7 hT1 (by decide)
  have t8 : ta 8 ≠ tr := kd_ne k8 hT1 (by decide)
  have t9 : ta 9 ≠ tr := kd_ne k9 hT1 (by decide)
  have len : (itp B P i).2.1.length = (nst P (itp B P i).1).length := ci.2.1
  have len3 : (nst P (itp B P i).1).length ≤ 3 := hW.2.2.1 _ ci.1
  rw [hls] at len m3 m5
  have lsk' := ci.2.2.1 l (by rw [hls]; exact List.mem_cons_self)
  obtain ⟨o, os, hos⟩ : ∃ o os, nst P (itp B P i).1 = o :: os := by
    cases hn : nst P (itp B P i).1 with
    | nil => rw [hn] at len; simp at len
    | cons o os => exact ⟨o, os, rfl⟩
  rw [hos] at m5 len len3
  obtain ⟨s7, s8, srest⟩ := m5
  have tl : t.length = os.length := by simpa using len
  have tl3 : t.length < 3 := by
    have : os.length + 1 ≤ 3 := len3
    omega
  have m3' : F tr 2 = nI (t.length + 1) := m3
  have ix : nI (t.length + 1) - 1 = nI t.length := sub1 (by omega)
  refine ⟨hT1, fun y => ?_, fun _ => ?_⟩
  · have y' : F tr 2 ≤ 0 := y
    rw [m3'] at y'
    exact absurd ((nI_leI (a := t.length + 1) (b := 0) (by omega) (by decide)).mp y') (by omega)
  · have g2 : gI (wI S F) tr 2 = nI (t.length + 1) := m3'
    rw [g2, ix, nI_clamp (by omega)]
    refine ⟨ta 8, r8, k8, by show vp_in _ (ln S (ta 8)); rw [l8]; exact vp_in_nI tl3 (by decide), fun v5 e5 F6 e6 => ?_⟩
    have e5' : v5 = nI (l - 1) := by
      rw [e5]
      show F (ta 8) t.length - 1 = _
      rw [s8]; exact sub1 lsk'.1
    have e6' : F6 = upI F (ta 8) t.length v5 := e6
    have f62 : F6 tr 2 = nI (t.length + 1) := by rw [e6', up_ne (Ne.symm t8)]; exact m3'
    rw [f62, ix, nI_clamp (by omega), show F6 (ta 8) t.length = nI (l - 1) by rw [e6', up_at, e5']]
    refine ⟨by show vp_in _ (ln S (ta 8)); rw [l8]; exact vp_in_nI tl3 (by decide), fun y v9 e9 F10 e10 => ?_, fun y => ?_⟩
    · have l1 : ¬ 1 < l := by
        have := (nI_leI (a := l - 1) (b := 0) (by omega) (by decide)).mp y
        omega
      have ie : itp B P (i + 1) = ((itp B P i).1 + 1, t, (itp B P i).2.2) := stp_c2 h1 h10 hls l1
      have h0 : nI (itp B P i).1 + 1 = nI (itp B P (i + 1)).1 := by rw [ie]; exact nI_1 _
      rw [h0]
      refine hq F10 ?_
      unfold MkI
      rw [ie]
      have nn : nst P ((itp B P i).1 + 1) = os := by rw [nst_10 h10, hos]; rfl
      refine ⟨⟨fun a y1 y2 y3 y4 => by rw [e10, up_ne y1, e6', up_ne y3]; exact m1.1 a y1 y2 y3 y4, fun j y1 y2 => by rw [e10, up_no y1, e6', up_ne (Ne.symm t8)]; exact m1.2 j y1 y2⟩, ?_, ?_, fun j hj => ?_, ?_⟩
      · rw [e10, up_no (by decide), e6', up_ne (Ne.symm t8)]; exact m2
      · rw [e10, up_at, e9]
      · rw [e10, up_ne t9, e6', up_ne (Ne.symm d89)]; exact m4 j hj
      · show Stk (F10 (ta 7)) (F10 (ta 8)) (nst P ((itp B P i).1 + 1)) t
        rw [nn]
        refine srest.cg (fun j hj => ⟨?_, ?_⟩)
        · rw [e10, up_ne t7, e6', up_ne d78]
        · rw [e10, up_ne t8, e6', up_no (by omega)]
    · have l1 : 1 < l := by
        rcases Nat.lt_or_ge 1 l with z | z
        · exact z
        · exact absurd (nI_le (a := l - 1) (b := 0) (by omega) (by decide)) y
      have ie : itp B P (i + 1) = ((nst P (itp B P i).1).headD 0 + 1, (l - 1) :: t, (itp B P i).2.2) := stp_c1 h1 h10 hls l1
      rw [hos] at ie
      have ie' : itp B P (i + 1) = (o + 1, (l - 1) :: t, (itp B P i).2.2) := ie
      refine ⟨ta 7, r7, k7, by show vp_in _ (ln S (ta 7)); rw [l7]; exact vp_in_nI tl3 (by decide), ?_⟩
      rw [show F6 (ta 7) t.length = nI (itp B P (i + 1)).1 by rw [e6', up_ne d78, ie']; exact s7]
      refine hq F6 ?_
      unfold MkI
      rw [ie']
      obtain ⟨-, -, -, nn⟩ := nst_hd hos
      refine ⟨⟨fun a y1 y2 y3 y4 => by rw [e6', up_ne y3]; exact m1.1 a y1 y2 y3 y4, fun j y1 y2 => by rw [e6', up_ne (Ne.symm t8)]; exact m1.2 j y1 y2⟩, ?_, f62, fun j hj => ?_, ?_⟩
      · rw [e6', up_ne (Ne.symm t8)]; exact m2
      · rw [e6', up_ne (Ne.symm d89)]; exact m4 j hj
      · show Stk (F6 (ta 7)) (F6 (ta 8)) (nst P (o + 1)) ((l - 1) :: t)
        rw [nn]
        refine ⟨?_, ?_, srest.cg (fun j hj => ⟨?_, ?_⟩)⟩
        · rw [e6', up_ne d78]; exact s7
        · rw [e6', up_at, e5']
        · rw [e6', up_ne d78]
        · rw [e6', up_no (by omega)]
theorem sp_beginLoop {i : Nat} {Q : FI → Prop} (hT : TrdX S tr k ta) (hb : bok B) (hW : PW B P) (hR : RdT S B im tr ta P st (gI S) (gR S)) (hM : MkI S tr ta B P i F) (h1 : (itp B P i).1 < pgK P) (h9 : pgk P (itp B P i).1 = 9) (h3 : (itp B P i).2.2.1 < 300)
    (hq : ∀ F2, MkI S tr ta B P (i + 1) F2 → Q F2) : P_X9_beginLoop tr (nI (itp B P i).1) (wI S F) Q := by
  obtain ⟨m1, m2, m3, m4, m5⟩ := hM
  have ci := CI_it hb hW i
  have hK := hW.1
  obtain ⟨hT1, hT2, -, ⟨r5, k5, l5⟩, -, ⟨r7, k7, l7⟩, ⟨r8, k8, l8⟩, ⟨r9, k9, l9⟩, d45, d47, d48, d49, d57, d58, d59, d78, d79, d89⟩ := hT
  have t5 : ta 5 ≠ tr := kd_ne k5 hT1 (by decide)
  have t7 : ta 7 ≠ tr := kd_ne k7 hT1 (by decide)
  have t8 : ta 8 ≠ tr := kd_ne k8 hT1 (by decide)
  have t9 : ta 9 ≠ tr := kd_ne k9 hT1 (by decide)
  have len : (itp B P i).2.1.length = (nst P (itp B P i).1).length := ci.2.1
  have nn : nst P ((itp B P i).1 + 1) = (itp B P i).1 :: nst P (itp B P i).1 := nst_9 h9
  have len3 : (nst P ((itp B P i).1 + 1)).length ≤ 3 := hW.2.2.1 _ h1
  rw [nn] at len3
  have l3 : (itp B P i).2.1.length < 3 := by
    have : (nst P (itp B P i).1).length + 1 ≤ 3 := len3
    omega
  have ie : itp B P (i + 1) = ((itp B P i).1 + 1, pgc P (itp B P i).1 :: (itp B P i).2.1, (itp B P i).2.2.1 + 1, (itp B P i).2.2.2) := stp_lo h1 h9 h3
  have g2 : gI (wI S F) tr 2 = nI (itp B P i).2.1.length := m3
  refine ⟨hT1, ?_⟩
  rw [g2, nI_clamp (by omega)]
  refine ⟨fun y => absurd ((nI_leI (a := 3) (by decide) (by omega)).mp y) (by omega), fun _ => ⟨ta 7, r7, k7, by show vp_in _ (ln S (ta 7)); rw [l7]; exact vp_in_nI l3 (by decide), fun v5 e5 F6 e6 => ⟨ta 8, r8, ta 5, r5, k5, by show vp_in _ (ln S (ta 5)); rw [l5]; exact vp_in_nI (by omega) (by decide), k8, ?_⟩⟩⟩
  have e6' : F6 = upI F (ta 7) (itp B P i).2.1.length v5 := e6
  have f62 : F6 tr 2 = nI (itp B P i).2.1.length := by rw [e6', up_ne (Ne.symm t7)]; exact m3
  rw [f62, nI_clamp (by omega), nI_clamp (by omega)]
  refine ⟨by show vp_in _ (ln S (ta 8)); rw [l8]; exact vp_in_nI l3 (by decide), fun v13 e13 F14 e14 v15 e15 F16 e16 => hq F16 ?_⟩
  have v13' : v13 = nI (pgc P (itp B P i).1) := by
    rw [e13, e6', up_ne d57, m1.1 (ta 5) t5 d57 d58 d59]
    exact (hR.2.2.2 _ h1).2.2 h9
  have f142 : F14 tr 2 = nI (itp B P i).2.1.length := by rw [e14, up_ne (Ne.symm t8)]; exact f62
  unfold MkI
  rw [ie]
  refine ⟨⟨fun a y1 y2 y3 y4 => by rw [e16, up_ne y1, e14, up_ne y3, e6', up_ne y2]; exact m1.1 a y1 y2 y3 y4, fun j y1 y2 => by rw [e16, up_no y1, e14, up_ne (Ne.symm t8), e6', up_ne (Ne.symm t7)]; exact m1.2 j y1 y2⟩, ?_, ?_, fun j hj => ?_, ?_⟩
  · rw [e16, up_no (by decide), e14, up_ne (Ne.symm t8), e6', up_ne (Ne.symm t7)]; exact m2
  · rw [e16, up_at, e15, f142]; exact nI_1 _
  · rw [e16, up_ne t9, e14, up_ne (Ne.symm d89), e6', up_ne (Ne.symm d79)]; exact m4 j hj
  · show Stk (F16 (ta 7)) (F16 (ta 8)) (nst P ((itp B P i).1 + 1)) (pgc P (itp B P i).1 :: (itp B P i).2.1)
    rw [nn]
    refine ⟨?_, ?_, m5.cg (fun j hj => ⟨?_, ?_⟩)⟩
    · rw [e16, up_ne t7, e14, up_ne d78, e6', up_at, e5]; exact nI_1 _
    · rw [e16, up_ne t8, e14, up_at, v13']
    · rw [e16, up_ne t7, e14, up_ne d78, e6', up_no (by omega)]
    · rw [e16, up_ne t8, e14, up_no (by omega), e6', up_ne (Ne.symm d78)]
theorem sp_ringLead {i : Nat} {Q : FI → Prop} (hT : TrdX S tr k ta) (hb : bok B) (hW : PW B P) (hR : RdT S B im tr ta P st (gI S) (gR S)) (hi : ∀ e, im e → ¬ WTr k tr ta e) (hM : MkI S tr ta B P i F) (h1 : (itp B P i).1 < pgK P) (h10 : pgk P (itp B P i).1 ≠ 10) (h11 : pgk P (itp B P i).1 ≠ 11) (h9 : pgk P (itp B P i).1 ≠ 9) (h3 : (itp B P i).2.2.1 < 300)
    (hq : ∀ F2, MkI S tr ta B P (i + 1) F2 → Q F2) : P_X9_ringLead tr (nI (itp B P i).1) (wI S F) Q := by
  obtain ⟨m1, m2, m3, m4, m5⟩ := hM
  have ci := CI_it hb hW i
  have hK := hW.1
  have hT' := hT
  obtain ⟨hT1, hT2, ⟨r4, k4, l4⟩, ⟨r5, k5, l5⟩, ⟨r6, k6, l6⟩, ⟨r7, k7, l7⟩, ⟨r8, k8, l8⟩, ⟨r9, k9, l9⟩, d45, d47, d48, d49, d57, d58, d59, d78, d79, d89⟩ := hT'
  have t4 : ta 4 ≠ tr := kd_ne k4 hT1 (by decide)
  have t5 : ta 5 ≠ tr := kd_ne k5 hT1 (by decide)
  have t7 : ta 7 ≠ tr := kd_ne k7 hT1 (by decide)
  have t8 : ta 8 ≠ tr := kd_ne k8 hT1 (by decide)
  have t9 : ta 9 ≠ tr := kd_ne k9 hT1 (by decide)
  obtain ⟨at', hat⟩ : ∃ a, a = (itp B P i).1 := ⟨_, rfl⟩
  obtain ⟨mv', hmv⟩ : ∃ a, a = (itp B P i).2.2.2.1 := ⟨_, rfl⟩
  have pl := pgn_ok hb hW h1 h10 h11 h9
  have g11 := pgk_le hW h1
  have g5 : 5 ≤ pgk P (itp B P i).1 := by
    rcases hW.2.2.2 _ h1 with ⟨z | z | z, -⟩ | ⟨z, -⟩ | ⟨z, -⟩ | ⟨z, -⟩ | z <;> omega
  obtain ⟨ln1, ln2, -⟩ := hR.2.2.2 _ h1
  obtain ⟨q, rq, mx, cq⟩ := ln2 g5 (by omega)
  have mv2 : (itp B P i).2.2.2.1 ≤ 2000 := ci.2.2.2.2.1
  have b32 := (bl_32 hb pl.1).2
  have a60 : (itp B P i).1 < 60 := by omega
  have f4 : F (ta 4) = gI S (ta 4) := m1.1 _ t4 d47 d48 d49
  have f5 : F (ta 5) = gI S (ta 5) := m1.1 _ t5 d57 d58 d59
  refine ⟨hT1, ta 6, r6, k6, by show vp_in _ (ln S (ta 6)); rw [l6]; exact vp_in_nI a60 (by decide), ?_⟩
  rw [nI_clamp (by omega)]
  refine ⟨fun _ => ⟨ta 4, r4, k4, by show vp_in _ (ln S (ta 4)); rw [l4]; exact vp_in_nI a60 (by decide), ?_⟩, fun y => ?_⟩
  case refine_2 =>
    have y' : gR S (ta 6) (itp B P i).1 = none := y
    rw [rq] at y'; cases y'
  refine ⟨fun t => t = nI (pgl P (itp B P i).1), ?_, ?_⟩
  · rintro _ rfl
    refine ⟨ta 5, r5, k5, by show vp_in _ (ln S (ta 5)); rw [l5]; exact vp_in_nI a60 (by decide), q, rq, mx.2.1, ?_⟩
    have simF : ∀ F', FMk tr ta (gI S) F' → Sim im S (wI S F') := fun F' fm a ha => by
      have hw := hi a ha
      refine ⟨rfl, rfl, fm.1 a (fun z => hw (Or.inr (Or.inl z))) (fun z => hw (Or.inr (Or.inr (Or.inr (Or.inr (Or.inr (Or.inl z))))))) (fun z => hw (Or.inr (Or.inr (Or.inr (Or.inr (Or.inr (Or.inr (Or.inl z)))))))) (fun z => hw (Or.inr (Or.inr (Or.inr (Or.inr (Or.inr (Or.inr (Or.inr z)))))))), rfl, rfl⟩
    refine sp_length (S := wI S F) (B := B) (i := pgm P (itp B P i).1) (im := im) (mx.sm (simF F m1)) (fun v17 e17 => ?_)
    have cnt : v17 = nI (min (pgn B P (itp B P i).1) (2000 - (itp B P i).2.2.2.1)) := by
      rw [e17]
      show imin (F (ta 5) _) (imin _ (2000 - F tr 10)) = _
      rw [f5, cq, m2, show (2000 : Int32) = nI 2000 from rfl, dif_nI mv2, iminN (by omega) (by omega), iminN (by omega) (by omega)]
      congr 1
      omega
    obtain ⟨V, hV⟩ : ∃ V, V = min (pgn B P (itp B P i).1) (2000 - (itp B P i).2.2.2.1) := ⟨_, rfl⟩
    rw [cnt, ← hV]
    have V1 : V ≤ pgn B P (itp B P i).1 := by omega
    have V2 : (itp B P i).2.2.2.1 + V ≤ 2000 := by omega
    have ie : itp B P (i + 1) = ((itp B P i).1 + 1, (itp B P i).2.1, (itp B P i).2.2.1 + 1, (itp B P i).2.2.2.1 + min (pgn B P (itp B P i).1) (2000 - (itp B P i).2.2.2.1), fun j => if (itp B P i).2.2.2.1 ≤ j then bch B (pgm P (itp B P i).1) (pgl P (itp B P i).1) (j - (itp B P i).2.2.2.1) else (itp B P i).2.2.2.2 j) := stp_le h1 h10 h11 h9 h3
    refine ⟨fun u x F' => ∃ j, j ≤ V ∧ u = V - j ∧ x = nI j ∧ (∀ a, a ≠ tr → a ≠ ta 9 → F' a = F a) ∧ (∀ a, a ≠ 10 → F' tr a = F tr a) ∧ F' tr 10 = nI ((itp B P i).2.2.2.1 + j) ∧ ∀ a, a < (itp B P i).2.2.2.1 + j → F' (ta 9) a = nI (pak (mvf (if (itp B P i).2.2.2.1 ≤ a then bch B (pgm P (itp B P i).1) (pgl P (itp B P i).1) (a - (itp B P i).2.2.2.1) else (itp B P i).2.2.2.2 a)) (bn B)), ⟨V, 0, Nat.zero_le _, rfl, rfl, fun _ _ _ => rfl, fun _ _ => rfl, m2, fun a ha => ?_⟩, ?_⟩
    · rw [if_neg (by omega)]; exact m4 a (by omega)
    · rintro u x F' ⟨j, hj, rfl, rfl, oa, ot, o10, o9⟩
      refine ⟨fun y => hq F' ?_, fun y => ?_⟩
      · have je : j = V := by
          have : V ≤ j := (nI_leI (by omega) (by omega)).mp y
          omega
        subst je
        unfold MkI
        rw [ie, ← hV]
        refine ⟨⟨fun a y1 y2 y3 y4 => by rw [oa a y1 y4]; exact m1.1 a y1 y2 y3 y4, fun a y1 y2 => by rw [ot a y2]; exact m1.2 a y1 y2⟩, o10, by rw [ot 2 (by decide)]; exact m3, o9, ?_⟩
        show Stk (F' (ta 7)) (F' (ta 8)) (nst P ((itp B P i).1 + 1)) (itp B P i).2.1
        rw [nst_n h9 h10, oa _ t7 d79, oa _ t8 d89]; exact m5
      · have hlt : j < V := nI_gtI (by omega) (by omega) y
        have fm' : FMk tr ta (gI S) F' := ⟨fun a y1 y2 y3 y4 => by rw [oa a y1 y4]; exact m1.1 a y1 y2 y3 y4, fun a y1 y2 => by rw [ot a y2]; exact m1.2 a y1 y2⟩
        refine ⟨ta 9, r9, sp_moveAt (S := wI S F') (B := B) (i := pgm P (itp B P i).1) (im := im) hb pl.1 (mx.sm (simF F' fm')) (pgl_2 P _) (by omega) ⟨k9, ?_, fun F26 e26 v27 e27 F28 e28 w ew => ?_⟩⟩
        · show vp_in (F' tr 10) (ln S (ta 9))
          rw [o10, l9]; exact vp_in_nI (by omega) (by decide)
        · rw [o10, nI_clamp (by omega)] at e26
          have f26 : F26 tr 10 = nI ((itp B P i).2.2.2.1 + j) := by rw [e26, up_ne (Ne.symm t9)]; exact o10
          rw [f26, nI_1] at e27
          refine ⟨V - (j + 1), by omega, j + 1, by omega, rfl, by rw [ew]; exact nI_1 j, fun a y1 y2 => by rw [e28, up_ne y1, e26, up_ne y2]; exact oa a y1 y2, fun a y1 => by rw [e28, up_no y1, e26, up_ne (Ne.symm t9)]; exact ot a y1, by rw [e28, up_at, e27]; rfl, fun a ha => ?_⟩
          rw [e28, up_ne t9, e26]
          by_cases ca : a = (itp B P i).2.2.2.1 + j
          · rw [ca, up_at, if_pos (by omega), show (itp B P i).2.2.2.1 + j - (itp B P i).2.2.2.1 = j by omega]
          · rw [up_no ca]; exact o9 a (by omega)
  · have ge : gI (wI S F) (ta 4) (itp B P i).1 = nI (6 + cmi (pgk P (itp B P i).1)) := by show F (ta 4) _ = _; rw [f4]; exact ln1
    rw [ge, show (10 : Int32) = nI (6 + cmi 5) from rfl, show (11 : Int32) = nI (6 + cmi 6) from rfl, cmi_eq g11 (by decide), cmi_eq g11 (by decide)]
    refine ⟨fun n5 => ⟨fun n6 => ?_, fun y6 => ?_⟩, fun y5 => ?_⟩
    · unfold pgl; rw [if_neg n5, if_neg n6]; rfl
    · unfold pgl; rw [if_neg n5, if_pos y6]; rfl
    · unfold pgl; rw [if_pos y5]; rfl
theorem sp_tmade {c d : Nat} {Q : Option Nat → St → Prop} (hT : TrdX S tr k ta) (hb : bok B) (hW : PW B P) (hB : BX B im S b) (hR : RdT S B im tr ta P st (gI S) (gR S)) (hi : ∀ e, im e → ¬ WTr k tr ta e) (hc : 3 ≤ c) (hd : 4005 ≤ d)
    (hq : ∀ t S' (nw : Nat → Prop), Fr (fun e => e = tr ∨ e = ta 7 ∨ e = ta 8 ∨ e = ta 9) S S' → (∀ a, kd S a ≠ 0 → gR S' a = gR S a ∧ gJ S' a = gJ S a) → (∀ e, nw e → kd S e = 0 ∧ kd S' e ≠ 0) → TX (pgT B P st) (bn B) nw S' t → Q (some t) S') : P_X9_made tr b S c d Q := by
  have hT' := hT
  obtain ⟨hT1, hT2, ⟨r4, k4, l4⟩, ⟨r5, k5, l5⟩, ⟨r6, k6, l6⟩, ⟨r7, k7, l7⟩, ⟨r8, k8, l8⟩, ⟨r9, k9, l9⟩, d45, d47, d48, d49, d57, d58, d59, d78, d79, d89⟩ := hT'
  have t4 : ta 4 ≠ tr := kd_ne k4 hT1 (by decide)
  have t9 : ta 9 ≠ tr := kd_ne k9 hT1 (by decide)
  have hK := hW.1
  have bW := hi b hB.1
  refine ⟨hT1, fun F1 e1 F2 e2 => ?_⟩
  have m0 : MkI S tr ta B P 0 F2 := by
    refine ⟨⟨fun a y1 _ _ _ => by rw [e2, up_ne y1, e1, up_ne y1], fun j y1 y2 => by rw [e2, up_no y1, e1, up_no y2]⟩, ?_, ?_, fun j hj => by have : j < 0 := hj; omega, ?_⟩
    · rw [e2, up_no (by decide), e1, up_at]; rfl
    · rw [e2, up_at]; rfl
    · show Stk _ _ (nst P 0) []
      unfold nst Stk; trivial
  refine ⟨fun n x2 x3 x4 F => ∃ i, i ≤ 30300 ∧ n = 30300 - i ∧ x2 = nI (itp B P i).2.2.1 ∧ x3 = nI (itp B P i).1 ∧ x4 = nI i ∧ MkI S tr ta B P i F, ⟨30300, 0, by decide, rfl, rfl, rfl, rfl, m0⟩, ?_⟩
  rintro n x2 x3 x4 F ⟨i, hi3, rfl, rfl, rfl, rfl, mk⟩
  have ci := CI_it hb hW i
  have K60 : (itp B P i).1 ≤ 60 := by have := ci.1; omega
  have r300 : (itp B P i).2.2.1 ≤ 300 := ci.2.2.2.1
  have f3 : F tr 3 = nI (pgK P) := by rw [mk.1.2 3 (by decide) (by decide)]; exact hR.2.2.1
  refine ⟨tN (pgT B P st) = (itp B P i).2.2.2.1, fun hend => ?_, fun y => ?_, fun y30 => ?_⟩
  · -- the touch itself
    obtain ⟨m1, m2, m3, m4, m5⟩ := mk
    have tk0 := pgT_ok hb hW st
    have pre := pgT_pre (B := B) (P := P) (st := st) hi3
    refine ⟨by omega, by omega, fun q10 hq10 S10 e10 => ?_⟩
    have A : ∀ e, e ≠ q10 → kd S10 e = kd S e ∧ ln S10 e = ln S e ∧ gI S10 e = F e ∧ gJ S10 e = gJ S e ∧ gR S10 e = gR S e := fun e he => by
      rw [e10]; exact ⟨kd_alon he, ln_alon he, gI_alon he, gJ_alon he, gR_alon he⟩
    have kq : kd S10 q10 = 8 := by rw [e10]; exact kd_alo
    have al : ∀ {e : Nat}, kd S e ≠ 0 → e ≠ q10 := fun he => kd_nq he hq10
    have bA := A b (al (by rw [hB.2.1]; decide))
    have tA := A tr (al (by rw [hT1]; decide))
    have nA := A (ta 9) (al (by rw [k9]; decide))
    have bF : F b = gI S b := m1.1 b (fun z => bW (Or.inr (Or.inl z))) (fun z => bW (Or.inr (Or.inr (Or.inr (Or.inr (Or.inr (Or.inl z))))))) (fun z => bW (Or.inr (Or.inr (Or.inr (Or.inr (Or.inr (Or.inr (Or.inl z)))))))) (fun z => bW (Or.inr (Or.inr (Or.inr (Or.inr (Or.inr (Or.inr (Or.inr z))))))))
    have mv2 : (itp B P i).2.2.2.1 ≤ 2000 := ci.2.2.2.2.1
    refine ⟨bA.1.trans hB.2.1, tA.1.trans hT1, ta 9, tA.2.2.2.2 ▸ r9, 1, 2000, by omega, by omega, ?_⟩
    rw [show gI S10 tr 10 = nI (itp B P i).2.2.2.1 by rw [tA.2.2.1]; exact m2]
    refine sp_copyOf (nA.1.trans k9) (nA.2.1.trans l9) (by decide) mv2 (by omega) (Nat.le_refl _) mv2 (fun q17 S17 hq17 al17 kq17 lq17 cq17 => ⟨q17, rfl, 1, 2001, by omega, by omega, ?_⟩)
    rw [show gI S10 b 0 = nI (bn B) by rw [bA.2.2.1, bF]; exact hB.2.2.1, show gI S10 tr 1 = nI st by rw [tA.2.2.1, m1.2 1 (by decide) (by decide)]; exact hR.1]
    have q10S17 := al17.g (e := q10) (by rw [kq]; decide)
    refine sp_touchInit (S := S17) (a := q17) (N := (itp B P i).2.2.2.1) (v := tv (pgT B P st)) (q10S17.1.trans kq) kq17 lq17 mv2 hb.2.1 (fun j hj => ⟨tk0.2 j (by rw [hend]; exact hj), ?_⟩) (Nat.le_refl _) (Nat.le_refl _) (fun q20 S20 hq20 fr20 i0 i1 g2 g3 kq20 lq20 c20 => ?_)
    · rw [cq17 j hj, nA.2.2.1, m4 j hj, pre.2 j hj]
    · have e17 : q17 ≠ q10 := kd_ne kq17 (q10S17.1.trans kq) (by decide)
      have f17 := fr20 q17 (by rw [kq17]; decide)
      have f10 := fr20 q10 (by rw [q10S17.1, kq]; decide)
      have Teq : ((st, (itp B P i).2.2.2.1, tv (pgT B P st)) : Tc) = pgT B P st := by rw [← hend]; rfl
      have old : ∀ a, kd S a ≠ 0 → kd S20 a = kd S a ∧ ln S20 a = ln S a ∧ gI S20 a = F a ∧ gJ S20 a = gJ S a ∧ gR S20 a = gR S a := fun a ha => by
        obtain ⟨y1, y2, y3, y4, y5⟩ := A a (al ha)
        obtain ⟨z1, z2, z3, z4, z5⟩ := al17.g (e := a) (by rw [y1]; exact ha)
        obtain ⟨w1, w2, w3⟩ := fr20 a (by rw [z1, y1]; exact ha)
        obtain ⟨w4, w5, w6⟩ := w3 (al ha)
        exact ⟨w1.trans (z1.trans y1), w2.trans (z2.trans y2), w4.trans (z3.trans y3), w5.trans (z4.trans y4), w6.trans (z5.trans y5)⟩
      have z17 : kd S q17 = 0 := by
        by_cases z : kd S q17 = 0
        · exact z
        · exact absurd ((A q17 e17).1.symm.trans hq17) z
      have z20 : kd S q20 = 0 := by
        by_cases z : kd S q20 = 0
        · exact z
        · have y1 := (A q20 (al z)).1
          have y2 := (al17.g (e := q20) (by rw [y1]; exact z)).1
          exact absurd (y1.symm.trans (y2.symm.trans hq20)) z
      refine hq q10 S20 (fun e => e = q10 ∨ e = q17 ∨ e = q20) (fun a ha => ?_) (fun a ha => ⟨(old a ha).2.2.2.2, (old a ha).2.2.2.1⟩) (fun e he => ?_) ⟨Or.inl rfl, f10.1.trans (q10S17.1.trans kq), i0, i1, ⟨q17, g2, Or.inr (Or.inl rfl), f17.1.trans kq17, ?_, fun j hj => ?_⟩, q20, g3, Or.inr (Or.inr rfl), kq20, ?_, fun j hj => ?_⟩
      · obtain ⟨y1, y2, y3, y4, y5⟩ := old a ha
        refine ⟨y1, y2, fun hw => ⟨?_, y4, y5⟩⟩
        rw [y3]
        exact m1.1 a (fun z => hw (Or.inl z)) (fun z => hw (Or.inr (Or.inl z))) (fun z => hw (Or.inr (Or.inr (Or.inl z)))) (fun z => hw (Or.inr (Or.inr (Or.inr z))))
      · rcases he with rfl | rfl | rfl
        · exact ⟨hq10, by rw [f10.1, q10S17.1, kq]; decide⟩
        · exact ⟨z17, by rw [f17.1, kq17]; decide⟩
        · exact ⟨z20, by rw [kq20]; decide⟩
      · rw [f17.2.1, lq17, hend]
      · show gI S20 q17 j = nI (pak (mvf (tv (pgT B P st) j)) (bn B))
        rw [(f17.2.2 e17).1, cq17 j (by rw [← hend]; exact hj), nA.2.2.1, m4 j (by rw [← hend]; exact hj), pre.2 j (by rw [← hend]; exact hj)]
      · rw [lq20, hend]
      · have hj' : j < tN (pgT B P st) + 1 := hj
        show gI S20 q20 j = nI (pak (trw (pgT B P st) j) (bn B))
        rw [c20 j (by rw [← hend]; omega), Teq]
  · have e : i = 30300 := by
      have : 30300 ≤ i := (nI_leI (a := 30300) (by decide) (by omega)).mp y
      omega
    rw [e]; exact tN_pg B P st
  · have i3 : i < 30300 := nI_gtI (n := 30300) (by decide) (by omega) y30
    rw [f3]
    refine ⟨fun y => pgT_halt hi3 (stp_halt (Or.inl ((nI_leI (by omega) (by omega)).mp y))), fun y => ?_⟩
    have h1 : (itp B P i).1 < pgK P := nI_gtI (by omega) (by omega) y
    have g11 := pgk_le hW h1
    obtain ⟨ln1, ln2, -⟩ := hR.2.2.2 _ h1
    refine ⟨ta 4, r4, k4, by rw [l4]; exact vp_in_nI (by omega) (by decide), fun v25 e25 => ?_⟩
    have e25' : v25 = nI (6 + cmi (pgk P (itp B P i).1)) := by
      rw [e25, nI_clamp (by omega), mk.1.1 _ t4 d47 d48 d49]; exact ln1
    rw [e25', show (16 : Int32) = nI (6 + cmi 10) from rfl, show (17 : Int32) = nI (6 + cmi 11) from rfl, show (15 : Int32) = nI (6 + cmi 9) from rfl, cmi_eq g11 (by decide), cmi_eq g11 (by decide), cmi_eq g11 (by decide)]
    refine ⟨fun n10 => ⟨fun y11 => pgT_halt hi3 (stp_halt (Or.inr ⟨n10, Or.inl y11⟩)), fun n11 => ⟨fun y3 v29 e29 => ?_, fun y3 => pgT_halt hi3 (stp_halt (Or.inr ⟨n10, Or.inr ?_⟩))⟩⟩, fun y10 => ?_⟩
    · have h3 : (itp B P i).2.2.1 < 300 := by
        rcases Nat.lt_or_ge (itp B P i).2.2.1 300 with z | z
        · exact z
        · exact absurd y3 (nI_nlt (b := 300) z (by omega))
      rw [nI_1] at e29
      refine ⟨fun n9 => sp_ringLead hT hb hW hR hi mk h1 n10 n11 n9 h3 (fun F2 mk2 v32 e32 v33 e33 => ⟨30300 - (i + 1), by omega, i + 1, by omega, rfl, ?_, ?_, by rw [e33]; exact nI_1 i, mk2⟩), fun y9 => sp_beginLoop hT hb hW hR mk h1 y9 h3 (fun F2 mk2 v32 e32 v33 e33 => ⟨30300 - (i + 1), by omega, i + 1, by omega, rfl, ?_, ?_, by rw [e33]; exact nI_1 i, mk2⟩)⟩
      · rw [e29]; congr 1
        show _ = (stp B P (itp B P i)).2.2.1
        rw [stp_le h1 n10 n11 n9 h3]
      · rw [e32, nI_1]; congr 1
        show _ = (stp B P (itp B P i)).1
        rw [stp_le h1 n10 n11 n9 h3]
      · rw [e29]; congr 1
        show _ = (stp B P (itp B P i)).2.2.1
        rw [stp_lo h1 y9 h3]
      · rw [e32, nI_1]; congr 1
        show _ = (stp B P (itp B P i)).1
        rw [stp_lo h1 y9 h3]
    · rcases Nat.lt_or_ge (itp B P i).2.2.1 300 with z | z
      · exact absurd (nI_lt (b := 300) z (by decide)) y3
      · exact z
    · have ne : nst P (itp B P i).1 ≠ [] := by
        rcases hW.2.2.2 _ h1 with ⟨z | z | z, -⟩ | ⟨z, -⟩ | ⟨z, -⟩ | ⟨-, z⟩ | z
        · omega
        · omega
        · omega
        · omega
        · omega
        · exact z
        · omega
      have len := ci.2.1
      obtain ⟨l, t, hls⟩ : ∃ l t, (itp B P i).2.1 = l :: t := by
        cases hn : (itp B P i).2.1 with
        | nil =>
          rw [hn] at len
          exact absurd (List.eq_nil_of_length_eq_zero len.symm) ne
        | cons l t => exact ⟨l, t, rfl⟩
      refine sp_behindEnd hT hb hW mk h1 y10 hls (fun F2 mk2 v38 e38 => ⟨30300 - (i + 1), by omega, i + 1, by omega, rfl, ?_, rfl, by rw [e38]; exact nI_1 i, mk2⟩)
      congr 1
      show _ = (stp B P (itp B P i)).2.2.1
      by_cases l1 : 1 < l
      · rw [stp_c1 h1 y10 hls l1]
      · rw [stp_c2 h1 y10 hls l1]
end MK
