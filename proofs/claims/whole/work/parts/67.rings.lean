/-! The reference rings a touch. -/
def tT (f : Nat) : Bool := [0, 2, 23, 24, 25, 26, 27, 30, 31, 32, 33, 37].contains f
def toI (to : Bool) : Int32 := if to then 410 else -1
def RS (G : FI) (m : Nat) (am : Nat → Nat) (n : Nat) (T : Tc) (sx : Option Nat) (sd : Nat) (to : Bool) (R : Nat → Int32) (N : Nat) (F : FI) : Prop :=
  Kp tT m am G F ∧ (∀ k, (k < 410 ∨ to = false) → F (am 0) k = G (am 0) k) ∧ (∀ k, 2410 < k → F (am 0) k = G (am 0) k) ∧ F (am 30) = R ∧ Rw F (am 23) n (rwl T (lst sx sd) N) ∧ F m 32 = nI N ∧ (∀ z, sx = some z → F m 31 = nI (drw sd N)) ∧ (to = true → ∀ j, j ≤ N → F (am 0) (410 + j) = nI (num n (rwl T (lst sx sd) j)))
theorem BM.lo {B : Bk} {A A2 : Nat → Int32} (hb : bok B) (h : BM B A) (ha : ∀ k, k < 410 → A2 k = A k) : BM B A2 := by
  have h4 := hb.2.2.1
  obtain ⟨h1, h2, h3, h5⟩ := h
  refine ⟨by rw [ha 0 (by decide)]; exact h1, by rw [ha 1 (by decide)]; exact h2, by rw [ha 3 (by decide)]; exact h3, fun m hm => ?_⟩
  obtain ⟨g1, g2, g3, g4⟩ := h5 m hm
  obtain ⟨b1, b2⟩ := bl_32 hb hm
  exact ⟨by rw [ha _ (by omega)]; exact g1, fun k hk => by rw [ha _ (by omega)]; exact g2 k hk, by rw [ha _ (by omega)]; exact g3, by rw [ha _ (by omega)]; exact g4⟩
theorem PMd.lo {P : Pg} {A A2 : Nat → Int32} (hK : pgK P ≤ 60) (h : PMd P A) (ha : ∀ k, k < 410 → A2 k = A k) : PMd P A2 := by
  refine ⟨by rw [ha 4 (by decide)]; exact h.1, fun k hk => ?_⟩
  obtain ⟨g1, g2, g3, g4⟩ := h.2 k hk
  exact ⟨by rw [ha _ (by omega)]; exact g1, by rw [ha _ (by omega)]; exact g2, by rw [ha _ (by omega)]; exact g3, fun c => by rw [ha _ (by omega)]; exact g4 c⟩
theorem sm_strays {S : St} {m N sd : Nat} {sx : Option Nat} {Q : Int32 → FI → Prop} (hz : kd S m = 12) (hsx : ∀ z, sx = some z → z ≤ 16 ∧ sd < 65536 ∧ gI S m 31 = nI (drw sd N))
    (hq : ∀ F', On m (gI S) F' → (∀ j, j ≠ 31 → F' m j = gI S m j) → (∀ z, sx = some z → F' m 31 = nI (drw sd (N + 1))) → Q (if lst sx sd N then 1 else 0) F') : P_X12_strays m (sxI sx) S Q := by
  cases sx with
  | none => exact ⟨hz, fun c => absurd rfl c, fun _ => hq (gI S) On.rf (fun _ _ => rfl) (fun z e => by cases e)⟩
  | some z =>
    obtain ⟨h1, h2, h3⟩ := hsx z rfl
    have d1 := drw_lt h2 N
    have d2 := drw_lt h2 (N + 1)
    refine ⟨hz, fun _ v2 e2 F3 e3 => ?_, fun c => absurd c (N_ne (show z ≤ 2000 by omega))⟩
    have e2' : v2 = nI (drw sd (N + 1)) := by
      rw [e2, h3]
      show irm (nI (drw sd N) * nI 2693 + nI 10007) (nI 65536) = _
      rw [mulN, nI_add, irmN (by omega) (by decide) (by decide)]
      rfl
    subst e2'
    have e31 : F3 m 31 = nI (drw sd (N + 1)) := by rw [e3, up_at]
    have e8 : irm (F3 m 31 / 8) 16 = nI (drw sd (N + 1) / 8 % 16) := by
      rw [e31]
      show irm (nI (drw sd (N + 1)) / nI 8) (nI 16) = _
      rw [pk_div (by omega) (by decide) (by decide), irmN (by omega) (by decide) (by decide)]
    rw [e8]
    have fin := hq F3 (by rw [e3]; exact On.up) (fun j hj => by rw [e3, up_no hj]) (fun _ _ => e31)
    have hl : lst (some z) sd N = decide (drw sd (N + 1) / 8 % 16 < z) := rfl
    rw [hl] at fin
    show (nI z ≤ nI _ → _) ∧ (¬ nI z ≤ nI _ → _)
    rw [nI_leI (by omega) (by omega)]
    refine ⟨fun c => ?_, fun c => ?_⟩
    · rw [decide_eq_false (by omega)] at fin
      exact fin
    · rw [decide_eq_true (by omega)] at fin
      exact fin
section RG
variable {S : St} {m n sd : Nat} {am : Nat → Nat} {B : Bk} {P : Pg} {T : Tc} {sx : Option Nat} {to : Bool} {G : FI}
theorem sm_rl {i cc cnt N : Nat} {R : Nat → Int32} {Q : Int32 → FI → Prop} (hL : LM S m am) (hb : bok B) (hB : BM B (G (am 0))) (ht : tok (bn B) T) (hi : i < bM B) (hcc : cc ≤ 2) (hcnt : cnt ≤ bl B i) (hN : N ≤ 2000) (hsx : ∀ z, sx = some z → z ≤ 16 ∧ sd < 65536)
    (hv : ∀ j, j < cnt → N + j < 2000 → N + j < tN T ∧ tv T (N + j) = bch B i cc j) (h0 : RS G m am (bn B) T sx sd to R N (gI S))
    (hq : N + cnt ≤ 2000 → ∀ F', RS G m am (bn B) T sx sd to R (N + cnt) F' → Q 1 F') (hq2 : 2000 < N + cnt → ∀ F', RS G m am (bn B) T sx sd to R 2000 F' → Q 0 F') : P_rl m (nI i) (nI cc) (nI cnt) (sxI sx) (toI to) (am 0) S Q := by
  have hn := hb.2.1
  have hn4 := hb.1
  obtain ⟨b1, b2⟩ := bl_32 hb hi
  refine ⟨fun t x7 F => ∃ j, j ≤ cnt ∧ N + j ≤ 2000 ∧ t = cnt - j ∧ x7 = nI j ∧ RS G m am (bn B) T sx sd to R (N + j) F, ⟨cnt, 0, by omega, by omega, rfl, rfl, h0⟩, ?_⟩
  rintro t x7 F ⟨j, hj, hj2, rfl, rfl, rs⟩
  have rs' := rs
  obtain ⟨r1, r2, r3, r4, r5, r6, r7, r8⟩ := rs'
  refine ⟨fun hc => ?_, fun hc => ?_⟩
  · have e : j = cnt := by
      have : cnt ≤ j := (nI_leI (by omega) (by omega)).mp hc
      omega
    subst e
    exact hq hj2 F rs
  · have hlt := nI_gtI (by omega) (by omega) hc
    rw [r6, show (2000 : Int32) = nI 2000 from rfl, nI_eq (by omega) (by omega)]
    refine ⟨fun hne => ?_, fun he => hq2 (by omega) F (by rw [← he]; exact rs)⟩
    obtain ⟨v1, v2⟩ := hv j hlt (by omega)
    have L1 : LM (wI S F) m am := hL
    have B1 : BM B (F (am 0)) := hB.lo hb (fun k hk => r2 k (Or.inl hk))
    refine sm_changeOf L1 hb B1 hi hcc (by omega) ?_
    refine sm_strays (S := wI S F) (N := N + j) hL.z (fun z ez => ⟨(hsx z ez).1, (hsx z ez).2, r7 z ez⟩) (fun F2 o2 j2 d2 => ?_)
    have L2 : LM (wI S F2) m am := hL
    have off2 : ∀ f, mk f ≠ 0 → F2 (am f) = F (am f) := fun f hf => o2 _ (hL.o f hf)
    have B2 : BM B (F2 (am 0)) := by rw [off2 0 (by decide)]; exact B1
    have sw := ht.2 (N + j) v1
    refine sm_changes0 L2 hn B2.1 sw (by rw [v2]; exact msk_stf hn _) (f := rwl T (lst sx sd) (N + j)) (fun p hp => by show F2 (am 23) p = _; rw [off2 23 (by decide)]; exact r5 p hp) (fun F3 o3 w3 v19 e19 F4 e4 => ?_)
    have hm3 : F3 m = F2 m := o3 m (Ne.symm (hL.o 23))
    have e19' : v19 = nI (N + j + 1) := by
      rw [e19, hm3, j2 32 (by decide)]
      show F m 32 + 1 = _
      rw [r6, nI_1]
    subst e19'
    have pm1 := rwl_pm (l := lst sx sd) ht (N + j + 1) v1
    have k4 : Kp tT m am G F4 := by
      rw [e4]
      refine ((r1.tr ⟨fun b hb _ => o2 b hb, fun i hi => ?_⟩).tr (Kp.on hL 23 o3)).tr (Kp.fd 32)
      exact j2 i (fun e => by rw [e] at hi; revert hi; decide)
    have a4 : ∀ f, mk f ≠ 0 → f ≠ 23 → F4 (am f) = F (am f) := fun f hf h23 => by
      rw [e4, up_ne (hL.o f hf)]
      exact (o3 _ (hL.n h23 hf)).trans (off2 f hf)
    have w4 : Rw F4 (am 23) (bn B) (rwl T (lst sx sd) (N + j + 1)) := fun p hp => by
      rw [e4, up_ne (hL.o 23)]
      exact w3 p hp
    have m32 : F4 m 32 = nI (N + j + 1) := by rw [e4, up_at]
    have m31 : ∀ z, sx = some z → F4 m 31 = nI (drw sd (N + j + 1)) := fun z ez => by
      rw [e4, up_no (by decide), hm3]
      exact d2 z ez
    cases hto : to with
    | false =>
      refine ⟨fun _ w ew => ⟨cnt - (j + 1), by omega, j + 1, by omega, by omega, rfl, by rw [ew]; exact nI_1 j, k4, fun k hk => ?_, fun k hk => ?_, ?_, w4, m32, m31, fun c => by cases c⟩, fun c => absurd rfl c⟩
      · rw [a4 0 (by decide) (by decide)]; exact r2 k (Or.inr hto)
      · rw [a4 0 (by decide) (by decide)]; exact r3 k hk
      · rw [a4 30 (by decide) (by decide)]; exact r4
    | true =>
      refine ⟨fun c => absurd c (by decide), fun _ => ⟨am 23, hL.r 23, ?_⟩⟩
      have L4 : LM (wI S F4) m am := hL
      refine sm_numberOf L4 hn (by show F4 (am 0) 0 = _; rw [a4 0 (by decide) (by decide)]; exact B1.1) pm1 (hL.k 23) (hL.l 23) w4 ?_
      have ix : toI true + F4 m 32 = nI (410 + (N + j + 1)) := by rw [m32]; exact ix410 _
      rw [ix]
      refine ⟨hL.i 0 (by show 410 + (N + j + 1) < 12100; omega), fun F5 e5 w ew => ?_⟩
      rw [nI_clamp (by omega)] at e5
      refine ⟨cnt - (j + 1), by omega, j + 1, by omega, by omega, rfl, by rw [ew]; exact nI_1 j, by rw [e5]; exact k4.tr (Kp.on hL 0 On.up), fun k hk => ?_, fun k hk => ?_, ?_, ?_, ?_, fun z ez => ?_, fun _ i hi => ?_⟩
      · have hk' : k < 410 := hk.elim id (fun c => by cases c)
        rw [e5, up_no (by omega), a4 0 (by decide) (by decide)]; exact r2 k (Or.inl hk')
      · rw [e5, up_no (by omega), a4 0 (by decide) (by decide)]; exact r3 k hk
      · rw [e5, up_ne (hL.n (by decide)), a4 30 (by decide) (by decide)]; exact r4
      · exact rw_on w4 (by rw [e5]; exact On.up) (hL.n (by decide))
      · rw [e5, up_ne (Ne.symm (hL.o 0))]; exact m32
      · rw [e5, up_ne (Ne.symm (hL.o 0))]; exact m31 z ez
      · rw [e5]
        by_cases c : i = N + j + 1
        · subst c; exact up_at
        · rw [up_no (by omega), a4 0 (by decide) (by decide)]
          exact r8 hto i (by omega)
theorem sm_rings {k N : Nat} {R : Nat → Int32} {Q : Int32 → FI → Prop} (hL : LM S m am) (hb : bok B) (hB : BM B (G (am 0))) (hW : PW B P) (hP : PMd P (G (am 0))) (ht : tok (bn B) T) (hk : k < pgK P) (h10 : pgk P k ≠ 10) (h11 : pgk P k ≠ 11) (h9 : pgk P k ≠ 9) (hN : N ≤ 2000) (hsx : ∀ z, sx = some z → z ≤ 16 ∧ sd < 65536)
    (hv : ∀ j, j < pgn B P k → N + j < 2000 → N + j < tN T ∧ tv T (N + j) = bch B (pgm P k) (pgl P k) j) (h0 : RS G m am (bn B) T sx sd to R N (gI S))
    (hq : N + pgn B P k ≤ 2000 → ∀ F', RS G m am (bn B) T sx sd to R (N + pgn B P k) F' → Q 1 F') (hq2 : 2000 < N + pgn B P k → ∀ F', RS G m am (bn B) T sx sd to R 2000 F' → Q 0 F') : P_X12_rings m (nI (170 + 4 * k)) (sxI sx) (toI to) S Q := by
  obtain ⟨q1, q2, q3⟩ := pgn_ok hb hW hk h10 h11 h9
  have hK := hW.1
  have hk11 := pgk_le hW hk
  obtain ⟨a1, a2, a3, -⟩ := hP.2 k hk
  have lo : ∀ k, k < 410 → gI S (am 0) k = G (am 0) k := fun k hk => h0.2.1 k (Or.inl hk)
  have ix1 : nI (170 + 4 * k) + 1 = nI (170 + 4 * k + 1) := nI_1 _
  have ix2 : nI (170 + 4 * k) + 2 = nI (170 + 4 * k + 2) := nI_add _ 2
  refine ⟨hL.z, am 0, hL.r 0, hL.k 0, ?_⟩
  rw [ix1, ix2]
  refine ⟨hL.i 0 (by show 170 + 4 * k + 1 < 12100; omega), fun v4 e4 => ⟨hL.i 0 (by show 170 + 4 * k < 12100; omega), ?_⟩⟩
  rw [nI_clamp (by omega), lo _ (by omega), a2] at e4
  subst e4
  rw [nI_clamp (by omega), nI_clamp (by omega), lo _ (by omega), lo _ (by omega), a1, a3]
  have B1 : BM B (gI S (am 0)) := hB.lo hb lo
  refine ⟨fun t => t = nI (pgl P k), ?_, fun h5 => ⟨fun h6 => ?_, fun h6 => ?_⟩, fun h5 => ?_⟩
  · rintro _ rfl
    rw [show (8 : Int32) = nI 8 from rfl, nI_eq (by omega) (by omega)]
    refine ⟨fun h8 => sm_changesOf hL hb B1 q1 ?_, fun h8 => ⟨hL.i 0 (by show 170 + 4 * k + 2 < 12100; omega), fun v29 e29 => ?_⟩⟩
    · have e : pgn B P k = bl B (pgm P k) := by unfold pgn; rw [if_neg h8]
      rw [e] at hq hq2 hv
      exact sm_rl hL hb hB ht q1 (pgl_2 P k) (Nat.le_refl _) hN hsx hv h0 hq hq2
    · subst e29
      have e : pgn B P k = pgc P k := by unfold pgn; rw [if_pos h8]
      rw [e] at hq hq2 hv q3
      exact sm_rl hL hb hB ht q1 (pgl_2 P k) q3 hN hsx hv h0 hq hq2
  · have e5 : pgk P k ≠ 5 := fun e => h5 (by rw [e]; rfl)
    have e6 : pgk P k ≠ 6 := fun e => h6 (by rw [e]; rfl)
    unfold pgl; rw [if_neg e5, if_neg e6]; rfl
  · have e6 : pgk P k = 6 := (nI_eq (b := 6) (by omega) (by decide)).mp h6
    unfold pgl; rw [if_neg (by omega), if_pos e6]; rfl
  · have e5 : pgk P k = 5 := (nI_eq (b := 5) (by omega) (by decide)).mp h5
    unfold pgl; rw [if_pos e5]; rfl
theorem RS.on30 {R : Nat → Int32} {N : Nat} {F F2 : FI} (hL : LM S m am) (h : RS G m am n T sx sd to R N F) (o : On (am 30) F F2) : RS G m am n T sx sd to (F2 (am 30)) N F2 := by
  obtain ⟨r1, r2, r3, r4, r5, r6, r7, r8⟩ := h
  have e0 : F2 (am 0) = F (am 0) := o _ (hL.n (by decide))
  have em : F2 m = F m := o _ (Ne.symm (hL.o 30))
  refine ⟨r1.tr (Kp.on hL 30 o), by rw [e0]; exact r2, by rw [e0]; exact r3, rfl, rw_on r5 o (hL.n (by decide)), by rw [em]; exact r6, by rw [em]; exact r7, by rw [e0]; exact r8⟩
theorem sm_ra {st : Nat} {F8 : FI} {Q : FI → Prop} (hL : LM S m am) (hb : bok B) (hB : BM B (G (am 0))) (hW : PW B P) (hP : PMd P (G (am 0))) (hT : T = pgT B P st) (hsx : ∀ z, sx = some z → z ≤ 16 ∧ sd < 65536)
    (h0 : RS G m am (bn B) T sx sd to (F8 (am 30)) 0 F8)
    (hq : ∀ F', RS G m am (bn B) T sx sd to (F' (am 30)) (tN T) F' → F' m 33 = nI (num (bn B) (rwl T (lst sx sd) (tN T))) → Q F') : P_ra m (sxI sx) (toI to) (am 0) S F8 Q := by
  have hn := hb.2.1
  have hn4 := hb.1
  have hK := hW.1
  have ht : tok (bn B) T := by rw [hT]; exact pgT_ok hb hW st
  refine ⟨fun t x3 x4 x5 F => ∃ i c, c = itp B P i ∧ BI i c ∧ x3 = nI c.1 ∧ x5 = nI c.2.2.1 ∧ t = 300 - c.2.2.1 ∧ RS G m am (bn B) T sx sd to (F (am 30)) c.2.2.2.1 F ∧ Rds (F (am 30)) (nst P c.1) c.2.1 ∧ ((x4 = 1 ∧ (pgK P ≤ c.1 ∨ pgk P c.1 ≠ 10)) ∨ (x4 = 0 ∧ c.2.2.2.1 = 2000)), ⟨300, 0, _, rfl, Nat.zero_le _, rfl, rfl, rfl, h0, trivial, Or.inl ⟨rfl, ?_⟩⟩, ?_⟩
  · rcases Nat.lt_or_ge 0 (pgK P) with c | c
    · refine Or.inr (fun e => ?_)
      have e' : pgk P 0 = 10 := e
      rcases hW.2.2.2 0 c with ⟨y1, -⟩ | ⟨y1, -⟩ | ⟨y1, -⟩ | ⟨-, y⟩ | y1
      · omega
      · omega
      · omega
      · exact y rfl
      · omega
    · exact Or.inl c
  rintro t x3 x4 x5 F ⟨i, c, hc, hI, rfl, rfl, rfl, rs, rd, hx⟩
  have CI' := CI_it hb hW i
  rw [← hc] at CI'
  obtain ⟨g1, g2, g3, g4, g5, g6⟩ := CI'
  have i30 : i ≤ 30300 := by unfold BI at hI; omega
  obtain ⟨pr1, pr2⟩ := pgT_pre (B := B) (P := P) (st := st) i30
  rw [← hT, ← hc] at pr1 pr2
  have halt : stp B P c = c → tN T = c.2.2.2.1 := fun e => by
    rw [hT, pgT_halt i30 (by rw [← hc]; exact e), ← hc]
  have full : c.2.2.2.1 = 2000 → tN T = c.2.2.2.1 := fun e => by
    rw [hT, pgT_full i30 (by rw [← hc]; exact e), e]
  have rs' := rs
  obtain ⟨r1, r2, r3, r4, r5, r6, r7, r8⟩ := rs'
  have P1 : PMd P (F (am 0)) := hP.lo hK (fun k hk => r2 k (Or.inl hk))
  refine ⟨tN T = c.2.2.2.1, fun hN => ⟨am 23, hL.r 23, ?_⟩, fun hc3 => ?_, fun hc3 => ⟨fun h0 => ?_, fun h0 => ?_⟩⟩
  · have L1 : LM (wI S F) m am := hL
    refine sm_numberOf L1 hn (hB.lo hb (fun k hk => r2 k (Or.inl hk))).1 (rwl_pm (l := lst sx sd) ht c.2.2.2.1 (by omega)) (hL.k 23) (hL.l 23) r5 (fun F2 e2 => ?_)
    rw [← hN] at e2 rs
    have o2 : On m F F2 := by rw [e2]; exact On.up
    obtain ⟨s1, s2, s3, s4, s5, s6, s7, s8⟩ := rs
    have e0 : F2 (am 0) = F (am 0) := o2 _ (hL.o 0)
    refine hq F2 ⟨by rw [e2]; exact s1.tr (Kp.fd 33), by rw [e0]; exact s2, by rw [e0]; exact s3, rfl, rw_on s5 o2 (hL.o 23), by rw [e2, up_no (by decide)]; exact s6, fun z ez => by rw [e2, up_no (by decide)]; exact s7 z ez, by rw [e0]; exact s8⟩ (by rw [e2, up_at])
  · have : 300 ≤ c.2.2.1 := (nI_leI (a := 300) (by decide) (by omega)).mp hc3
    rcases hx with ⟨-, hx⟩ | ⟨-, hx⟩
    · exact halt (stp_halt (hx.elim Or.inl (fun e => Or.inr ⟨e, Or.inr this⟩)))
    · exact full hx
  · rcases hx with ⟨rfl, -⟩ | ⟨-, hx⟩
    · exact absurd h0 one0
    · exact full hx
  · have hx1 : x4 = 1 ∧ (pgK P ≤ c.1 ∨ pgk P c.1 ≠ 10) := by
      rcases hx with hx | ⟨e, -⟩
      · exact hx
      · exact absurd e h0
    have hd : c.2.2.1 < 300 := nI_gtI (n := 300) (by decide) (by omega) hc3
    refine ⟨hL.i 0 (p := 4) (by decide), ?_⟩
    rw [P1.1]
    refine ⟨fun hc4 => ?_, fun hc4 => ?_⟩
    · have : pgK P ≤ c.1 := (nI_leI (by omega) (by omega)).mp hc4
      exact halt (stp_halt (Or.inl this))
    · have hlt := nI_gtI (by omega) (by omega) hc4
      have h10 : pgk P c.1 ≠ 10 := hx1.2.elim (fun e => by omega) id
      have hk11 := pgk_le hW hlt
      obtain ⟨a1, a2, a3, -⟩ := P1.2 c.1 hlt
      rw [ix170]
      refine ⟨hL.i 0 (by show 170 + 4 * c.1 < 12100; omega), ?_⟩
      rw [nI_clamp (by omega), a1, show (11 : Int32) = nI 11 from rfl, nI_eq (by omega) (by omega)]
      refine ⟨fun h11 => halt (stp_halt (Or.inr ⟨h10, Or.inl h11⟩)), fun h11 v25 e25 => ?_⟩
      subst e25
      refine ⟨hL.i 0 (by show 170 + 4 * c.1 < 12100; omega), fun y4 F30 => RS G m am (bn B) T sx sd to (F30 (am 30)) (stp B P c).2.2.2.1 F30 ∧ Rds (F30 (am 30)) (nst P (stp B P c).1) (stp B P c).2.1 ∧ (y4 = 1 ∨ (y4 = 0 ∧ (stp B P c).2.2.2.1 = 2000)), ?_, ?_, ?_⟩
      · rintro y4 F30 ⟨rs3, rd3, hy⟩
        have pc' : (stp B P c).1 = c.1 + 1 ∧ (stp B P c).2.2.1 = c.2.2.1 + 1 ∧ BI (i + 1) (stp B P c) := by
          by_cases h9 : pgk P c.1 = 9
          · rw [stp_lo hlt h9 hd]
            refine ⟨rfl, rfl, ?_⟩
            have : pgc P c.1 ≤ 99 := by
              rcases hW.2.2.2 c.1 hlt with ⟨y1, -⟩ | ⟨y1, -⟩ | ⟨-, y⟩ | ⟨y, -⟩ | y1
              · omega
              · omega
              · exact y.2
              · omega
              · omega
            unfold BI at hI ⊢
            show i + 1 + (pgc P c.1 + sL c.2.1) ≤ 100 * (c.2.2.1 + 1)
            omega
          · rw [stp_le hlt h10 h11 h9 hd]
            refine ⟨rfl, rfl, ?_⟩
            unfold BI at hI ⊢
            show i + 1 + sL c.2.1 ≤ 100 * (c.2.2.1 + 1)
            omega
        rw [nI_1, ← pc'.1]
        have L3 : LM (wI S F30) m am := hL
        refine sm_behindEnds (S := wI S F30) (i := i + 1) L3 hb hW (hP.lo hK (fun k hk => rs3.2.1 k (Or.inl hk))) (by rw [hc]; rfl) pc'.2.2 rd3 (fun F' i' c' hc' hI' o' rd' e22 hk' v32 e32 => ?_)
        have d' : c'.2.2.1 = c.2.2.1 + 1 := by rw [e22]; exact pc'.2.1
        have n' : c'.2.2.2.1 = (stp B P c).2.2.2.1 := by rw [e22]
        refine ⟨300 - c'.2.2.1, by omega, i', c', hc', hI', rfl, by rw [e32, d']; exact nI_1 _, rfl, by rw [n']; exact rs3.on30 hL o', rd', ?_⟩
        rcases hy with hy | ⟨hy1, hy2⟩
        · exact Or.inl ⟨hy, hk'⟩
        · exact Or.inr ⟨hy1, by rw [n']; exact hy2⟩
      · rw [nI_clamp (by omega), a1, show (9 : Int32) = nI 9 from rfl, nI_eq (by omega) (by omega)]
        intro h9
        have hs := stp_le (B := B) hlt h10 h11 h9 hd
        obtain ⟨q1, q2, q3⟩ := pgn_ok hb hW hlt h10 h11 h9
        have hN' : (stp B P c).2.2.2.1 = c.2.2.2.1 + min (pgn B P c.1) (2000 - c.2.2.2.1) := by rw [hs]
        have hi1 : i + 1 ≤ 30300 := by unfold BI at hI; omega
        obtain ⟨u1, u2⟩ := pgT_pre (B := B) (P := P) (st := st) hi1
        rw [← hT] at u1 u2
        have ec : itp B P (i + 1) = stp B P c := by rw [hc]; rfl
        rw [ec] at u1 u2
        refine sm_rings (S := wI S F) (R := F (am 30)) hL hb hB hW hP ht hlt h10 h11 h9 g5 hsx (fun j hj hj2 => ?_) rs (fun hle F' rs2 => ⟨?_, ?_, Or.inl rfl⟩) (fun hgt F' rs2 => ⟨?_, ?_, Or.inr ⟨rfl, ?_⟩⟩)
        · refine ⟨by omega, ?_⟩
          rw [u2 (c.2.2.2.1 + j) (by omega), hs]
          show (if c.2.2.2.1 ≤ c.2.2.2.1 + j then _ else _) = _
          rw [if_pos (by omega), show c.2.2.2.1 + j - c.2.2.2.1 = j by omega]
        · rw [hN', Nat.min_eq_left (by omega), rs2.2.2.2.1]; exact rs2
        · rw [hs, rs2.2.2.2.1]
          show Rds (F (am 30)) (nst P (c.1 + 1)) c.2.1
          rw [nst_n h9 h10]; exact rd
        · rw [hN', Nat.min_eq_right (by omega), show c.2.2.2.1 + (2000 - c.2.2.2.1) = 2000 by omega, rs2.2.2.2.1]; exact rs2
        · rw [hs, rs2.2.2.2.1]
          show Rds (F (am 30)) (nst P (c.1 + 1)) c.2.1
          rw [nst_n h9 h10]; exact rd
        · rw [hN']; omega
      · rw [nI_clamp (by omega), a1, show (9 : Int32) = nI 9 from rfl, nI_eq (by omega) (by omega)]
        intro h9
        have hs := stp_lo (B := B) hlt h9 hd
        have hcn : 1 ≤ pgc P c.1 ∧ pgc P c.1 ≤ 99 := by
          rcases hW.2.2.2 c.1 hlt with ⟨y1, -⟩ | ⟨y1, -⟩ | ⟨-, y⟩ | ⟨y, -⟩ | y1
          · omega
          · omega
          · exact y
          · omega
          · omega
        have ix2 : nI (170 + 4 * c.1) + 2 = nI (170 + 4 * c.1 + 2) := nI_add _ 2
        rw [ix2]
        refine ⟨am 30, hL.r 30, hL.i 0 (by show 170 + 4 * c.1 + 2 < 12100; omega), hL.k 30, hL.i 30 (by show c.1 < 80; omega), fun v38 e38 F39 e39 => ?_⟩
        rw [nI_clamp (by omega), a3, sub1 hcn.1] at e38
        subst e38
        rw [nI_clamp (by omega)] at e39
        have o39 : On (am 30) F F39 := by rw [e39]; exact On.up
        refine ⟨?_, ?_, Or.inl hx1.1⟩
        · rw [hs]; exact rs.on30 hL o39
        · rw [hs]
          show Rds (F39 (am 30)) (nst P (c.1 + 1)) (pgc P c.1 :: c.2.1)
          rw [nst_9 h9]
          refine ⟨by rw [e39, up_at], rd.cg (fun o' ho => ?_)⟩
          rw [e39]
          exact up_no (by have := nst_lt P c.1 o' ho; omega)
theorem sm_ringsAll {st : Nat} {Q : FI → Prop} (hL : LM S m am) (hb : bok B) (hB : BM B (gI S (am 0))) (hW : PW B P) (hP : PMd P (gI S (am 0))) (hT : T = pgT B P st) (hsx : ∀ z, sx = some z → z ≤ 16 ∧ sd < 65536 ∧ gI S m 31 = nI sd)
    (hq : ∀ F', RS (gI S) m am (bn B) T sx sd to (F' (am 30)) (tN T) F' → F' m 33 = nI (num (bn B) (rwl T (lst sx sd) (tN T))) → Q F') : P_X12_ringsAll m (sxI sx) (toI to) S Q := by
  have hn := hb.2.1
  have hn4 := hb.1
  refine ⟨hL.z, fun t x3 F => ∃ p, p ≤ bn B ∧ t = bn B - p ∧ x3 = nI p ∧ On (am 23) (gI S) F ∧ Rw F (am 23) p (fun p => p), ⟨bn B, 0, by omega, rfl, rfl, On.rf, fun q hq => absurd hq (Nat.not_lt_zero q)⟩, ?_⟩
  rintro t x3 F ⟨p, hp, rfl, rfl, oF, rF⟩
  have e0 : F (am 0) = gI S (am 0) := oF _ (hL.n (by decide))
  refine ⟨am 0, hL.r 0, hL.k 0, hL.i 0 (p := 0) (by decide), ?_⟩
  rw [e0, hB.1]
  refine ⟨fun hc F8 e8 => ?_, fun hc => ?_⟩
  · have e : p = bn B := by
      have : bn B ≤ p := (nI_leI (by omega) (by omega)).mp hc
      omega
    subst e
    have o8 : On m F F8 := by rw [e8]; exact On.up
    have e80 : F8 (am 0) = gI S (am 0) := (o8 _ (hL.o 0)).trans e0
    have k8 : Kp tT m am (gI S) F8 := by rw [e8]; exact (Kp.on hL 23 oF).tr (Kp.fd 32)
    have w8 : Rw F8 (am 23) (bn B) (rwl T (lst sx sd) 0) := rw_on rF o8 (hL.o 23)
    have m31 : ∀ z, sx = some z → F8 m 31 = nI (drw sd 0) := fun z ez => by
      rw [e8, up_no (by decide), oF m (Ne.symm (hL.o 23))]
      exact (hsx z ez).2.2
    have hsx2 : ∀ z, sx = some z → z ≤ 16 ∧ sd < 65536 := fun z ez => ⟨(hsx z ez).1, (hsx z ez).2.1⟩
    cases hto : to with
    | false =>
      rw [hto] at hq
      refine ⟨fun _ => ?_, fun c => absurd rfl c⟩
      exact sm_ra (to := false) hL hb hB hW hP hT hsx2 ⟨k8, fun k _ => by rw [e80], fun k _ => by rw [e80], rfl, w8, by rw [e8, up_at]; rfl, m31, fun c => by cases c⟩ hq
    | true =>
      rw [hto] at hq
      refine ⟨fun c => absurd c (by decide), fun _ => ⟨hL.i 0 (p := 410) (by decide), fun F9 e9 => ?_⟩⟩
      have e9' : F9 = upI F8 (am 0) 410 0 := e9
      refine sm_ra (to := true) hL hb hB hW hP hT hsx2 ⟨by rw [e9']; exact k8.tr (Kp.on hL 0 On.up), fun k hk => ?_, fun k hk => ?_, rfl, ?_, ?_, fun z ez => ?_, fun _ j hj => ?_⟩ hq
      · have hk' : k < 410 := hk.elim id (fun c => by cases c)
        rw [e9', up_no (by omega), e80]
      · rw [e9', up_no (by omega), e80]
      · exact rw_on w8 (by rw [e9']; exact On.up) (hL.n (by decide))
      · rw [e9', up_ne (Ne.symm (hL.o 0)), e8, up_at]; rfl
      · rw [e9', up_ne (Ne.symm (hL.o 0))]; exact m31 z ez
      · have : j = 0 := by omega
        subst this
        rw [e9', up_at]
        show (0 : Int32) = nI (num (bn B) (fun p => p))
        rw [num_id]; rfl
  · have hlt := nI_gtI (by omega) (by omega) hc
    refine ⟨am 23, hL.r 23, hL.k 23, hL.i 23 (by show p < 8; omega), fun F2 e2 w ew => ?_⟩
    rw [nI_clamp (by omega)] at e2
    refine ⟨bn B - (p + 1), by omega, p + 1, by omega, rfl, by rw [ew]; exact nI_1 p, by rw [e2]; exact oF.tr On.up, fun q hq' => ?_⟩
    rw [e2]
    by_cases c : q = p
    · subst c; exact up_at
    · rw [up_no c]; exact rF q (by omega)
end RG
