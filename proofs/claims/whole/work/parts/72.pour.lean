/-! Trays poured and made. -/
theorem sub_neg0 {a b : Nat} (h : a < b) (hb : b < 2 ^ 31) : nI a - nI b < 0 := by
  rw [fa_lt, Int32.toInt_sub, nI_toInt (by omega), nI_toInt hb, show (0 : Int32).toInt = 0 from rfl, Int.bmod_eq_of_le (by omega) (by omega)]
  omega
def okp (n p c : Nat) : Prop := p ≤ n ∧ c ≤ n - p
theorem okp_lt {n p c : Nat} (hn : n ≤ 60) (hp : p < 2 ^ 31) (hc : c < 2 ^ 31) : (nI n - nI p < nI c ↔ ¬ okp n p c) := by
  unfold okp
  rcases Nat.lt_or_ge n p with h | h
  · refine ⟨fun _ => by omega, fun _ => ?_⟩
    have h1 := sub_neg0 h hp
    have h2 := nI_pos' hc
    rw [fa_lt] at h1 ⊢
    rw [fa_le] at h2
    omega
  · rw [le_sub1 h]
    refine ⟨fun e => ?_, fun e => nI_lt (by omega) hc⟩
    rcases Nat.lt_or_ge (n - p) c with y | y
    · omega
    · exact absurd e (nI_nlt y (by omega))
def Gp (p0 p1 p2 p3 p4 : Int32) : Prop := ¬ NR 4 p0 ∧ ¬ NR 4 p2 ∧ ¬ p1 < 0 ∧ ¬ p3 < 0 ∧ ¬ p4 < 0
theorem gate_pour {p0 p1 p2 p3 p4 : Int32} {D inner : Prop} (hb : ¬ Gp p0 p1 p2 p3 p4 → D) (hg : Gp p0 p1 p2 p3 p4 → inner) : P_X11_isTray p0 (fun r1 => ∃ J3 : Prop, (J3 → D) ∧ ((r1 = 0 → J3) ∧ (¬ r1 = 0 → P_X11_isTray p2 (fun r5 => ((r5 = 0 → J3) ∧ (¬ r5 = 0 → ((p1 < 0 → J3) ∧ (¬ p1 < 0 → ((p3 < 0 → J3) ∧ (¬ p3 < 0 → ((0 ≤ p4 → inner) ∧ (¬ 0 ≤ p4 → J3)))))))))))) := by
  have le0 : ∀ z : Int32, 0 ≤ z → ¬ z < 0 := fun z h1 h2 => by rw [fa_le] at h1; rw [fa_lt] at h2; omega
  rcases nr_case 4 (by decide) p0 with ⟨i, hi, rfl⟩ | h0
  · have n0 : ¬ NR 4 (nI i) := fun h => h i hi rfl
    refine xTy hi ⟨¬ Gp (nI i) p1 p2 p3 p4, hb, fun c => absurd c one0, fun _ => ?_⟩
    rcases nr_case 4 (by decide) p2 with ⟨j, hj, rfl⟩ | h2
    · have n2 : ¬ NR 4 (nI j) := fun h => h j hj rfl
      exact xTy hj ⟨fun c => absurd c one0, fun _ => ⟨fun c g => g.2.2.1 c, fun c1 => ⟨fun c g => g.2.2.2.1 c, fun c3 => ⟨fun c4 => hg ⟨n0, n2, c1, c3, le0 _ c4⟩, fun c4 g => c4 (fa_of_nlt g.2.2.2.2)⟩⟩⟩⟩
    · exact xTn h2 ⟨fun _ g => g.2.1 h2, fun c => absurd rfl c⟩
  · exact xTn h0 ⟨¬ Gp p0 p1 p2 p3 p4, hb, fun _ g => g.1 h0, fun c => absurd rfl c⟩
theorem Gp.get {p0 p1 p2 p3 p4 : Int32} (h : Gp p0 p1 p2 p3 p4) : ∃ i j p q c, i < 4 ∧ j < 4 ∧ p < 2 ^ 31 ∧ q < 2 ^ 31 ∧ c < 2 ^ 31 ∧ p0 = nI i ∧ p2 = nI j ∧ p1 = nI p ∧ p3 = nI q ∧ p4 = nI c := by
  obtain ⟨h0, h2, h1, h3, h4⟩ := h
  rcases nr_case 4 (by decide) p0 with ⟨i, hi, e0⟩ | y
  · rcases nr_case 4 (by decide) p2 with ⟨j, hj, e2⟩ | y
    · obtain ⟨p, hp, e1⟩ := nI_of h1
      obtain ⟨q, hq, e3⟩ := nI_of h3
      obtain ⟨c, hc, e4⟩ := nI_of h4
      exact ⟨i, j, p, q, c, hi, hj, hp, hq, hc, e0, e2, e1, e3, e4⟩
    · exact absurd y h2
  · exact absurd y h0
theorem sp_hasO {S : St} {q a len k c : Nat} {Q : Int32 → Prop} (hq10 : kd S q = 10) (ra : gR S q 1 = some a) (ka : kd S a = 22) (la : ln S a = len) (hl : len ≤ 60) (hk : k < 2 ^ 31) (hc : c < 2 ^ 31) (hq : okp len k c → Q 1) (hq2 : ¬ okp len k c → Q 0) : P_X10_has q (nI k) (nI c) S Q := by
  by_cases h : okp len k c
  · exact sp_hasY hq10 ra ka la hl h.1 h.2 (hq h)
  · refine sp_hasN hq10 ra ka la hl (nI_pos hc) (fun k' hk' e => ?_) (hq2 h)
    have : k = k' := (nI_eq hk (by omega)).mp e
    subst this
    unfold okp at h
    exact nI_lt (by omega) hc
section PO
variable {S : St} {x b m tr : Nat} {am tq ta : Nat → Nat} {im : Nat → Prop} {B : Bk} {Y : Nat → Yt}
theorem call_pour {Q1 : Int32 → FI → (Nat → Nat → Int64) → Prop} (h : CB S x b m am im B) (hY : TrX S x tr tq ta am Y) (hD : TrD Y ta am) (p0 p1 p2 p3 p4 : Int32) (hq : ∀ v s J, ThY S x m tr am tq ta Y s v (P_X12_pour m p0 p1 p2 p3 p4 (wA S (upI (gI S) x 0 s) J (gR S))) → Q1 v (upI (gI S) x 0 s) J) : P_X11_pour x p0 p1 p2 p3 p4 S Q1 := by
  have isE : ∀ (w : Int32) (Q2 : Int32 → FI → (Nat → Nat → Int64) → Prop), w ≠ 0 → (∀ F' J' Y', Kp tQ m am (upI (gI S) x 0 w) F' → F' m 2 = w → (∀ a, a ≠ am 7 → (∀ i, i < 4 → Y i ≠ none → a ≠ ta i) → J' a = gJ S a) → TrX (wA S F' J' (gR S)) x tr tq ta am Y' → (∀ i, Y' i = none ↔ Y i = none) → Q2 0 F' J') → P_X12_is m w (wA S (upI (gI S) x 0 w) (gJ S) (gR S)) (fun r F => (r = 0 ∨ r = 1) ∧ Q2 r F (gJ S)) := fun w Q2 hw h2 => ⟨h.L.z, fun F e => ⟨fun _ => ⟨Or.inl rfl, by
    have e' : F = upI (upI (gI S) x 0 w) m 2 w := e
    exact h2 F _ Y (by rw [e']; exact Kp.fd 2) (by rw [e', up_at]) (fun _ _ _ => rfl) (TrX.same h hY e') (fun _ => Iff.rfl)⟩, fun c => absurd c hw⟩⟩
  have dn : ∀ w, (ThY S x m tr am tq ta Y w 0 (P_X12_pour m p0 p1 p2 p3 p4 (wA S (upI (gI S) x 0 w) (gJ S) (gR S)))) → P_X11_deny x w S (fun r F => (r = 0 ∨ r = 1) ∧ Q1 r F (gJ S)) := fun w hw => ⟨h.x, fun F e => ⟨Or.inl rfl, by rw [e]; exact hq _ _ _ hw⟩⟩
  refine ⟨h.x, gate_pour (fun hb => dn 1 (fun Q2 h2 => ⟨h.L.z, gate_pour (fun _ => isE 1 Q2 (by decide) h2) (fun g => absurd g hb)⟩)) (fun hg => ?_)⟩
  obtain ⟨i, j, p, q, c, hi, hj, hp, hqq, hc, rfl, rfl, rfl, rfl, rfl⟩ := hg.get
  have hyi := hY.2.2.2 i hi
  have hyj := hY.2.2.2 j hj
  have E6 : ∀ s J k, gI (wA S (upI (gI S) x 0 s) J (gR S)) (am 6) k = gI S (am 6) k := fun s J k => by show upI (gI S) x 0 s (am 6) k = _; rw [up_ne (x_am h.x h.L 6)]
  have E5 : ∀ s J k, gI (wA S (upI (gI S) x 0 s) J (gR S)) (am 5) k = gI S (am 5) k := fun s J k => by show upI (gI S) x 0 s (am 5) k = _; rw [up_ne (x_am h.x h.L 5)]
  refine ⟨tr, hY.1, hY.2.1, by rw [hY.2.2.1]; exact vp_in_nI hi (by decide), by rw [hY.2.2.1]; exact vp_in_nI hj (by decide), ?_⟩
  rw [nI_clamp (show i < 2 ^ 31 by omega), nI_clamp (show j < 2 ^ 31 by omega)]
  cases eyi : Y i with
  | none =>
    rw [eyi] at hyi
    refine ⟨True, fun _ => dn 2 (fun Q2 h2 => ⟨h.L.z, gate_pour (fun g => absurd hg g) (fun _ => ⟨am 6, h.L.r 6, h.L.k 6, h.L.i 6 (by show i < 4; omega), True, fun _ => isE 2 Q2 (by decide) h2, fun _ => trivial, fun c => absurd ?_ c⟩)⟩), fun _ => trivial, fun c => absurd hyi.1 c⟩
    rw [nI_clamp (by omega), E6]; exact hyi.2
  | some ti =>
    obtain ⟨si, ni, vi⟩ := ti
    have hni : Y i ≠ none := by rw [eyi]; exact fun c => by cases c
    rw [eyi] at hyi
    obtain ⟨g1, g2, g3, g4, g5, g6, g7, g8, g9, g10, g11⟩ := hyi
    have i6 : ∀ s J, gI (wA S (upI (gI S) x 0 s) J (gR S)) (am 6) i = nI ni := fun s J => (E6 s J i).trans g10
    cases eyj : Y j with
    | none =>
      rw [eyj] at hyj
      refine ⟨True, fun _ => dn 2 (fun Q2 h2 => ⟨h.L.z, gate_pour (fun g => absurd hg g) (fun _ => ⟨am 6, h.L.r 6, h.L.k 6, h.L.i 6 (by show i < 4; omega), True, fun _ => isE 2 Q2 (by decide) h2, fun _ => trivial, fun _ => ⟨h.L.i 6 (by show j < 4; omega), fun c => absurd ?_ c, fun _ => trivial⟩⟩)⟩), fun _ => trivial, fun _ => ⟨fun c => absurd hyj.1 c, fun _ => trivial⟩⟩
      rw [nI_clamp (by omega), E6]; exact hyj.2
    | some tj =>
      obtain ⟨sj, nj, vj⟩ := tj
      have hnj : Y j ≠ none := by rw [eyj]; exact fun c => by cases c
      rw [eyj] at hyj
      obtain ⟨f1, f2, f3, f4, f5, f6, f7, f8, f9, f10, f11⟩ := hyj
      have j6 : ∀ s J, gI (wA S (upI (gI S) x 0 s) J (gR S)) (am 6) j = nI nj := fun s J => (E6 s J j).trans f10
      refine ⟨False, False.elim, fun c => absurd c (some_ne g3), fun _ => ⟨fun _ => ⟨tq i, g3, g4, tq j, f3, f4, ?_⟩, fun c => absurd c (some_ne f3)⟩⟩
      have mod : ∀ (s : Int32) (J : Nat → Nat → Int64) (Q2 : Int32 → FI → (Nat → Nat → Int64) → Prop), (si ≠ sj → P_X12_is m 8 (wA S (upI (gI S) x 0 s) J (gR S)) (fun r F => (r = 0 ∨ r = 1) ∧ Q2 r F J)) → (si = sj → ¬ (okp ni p c ∧ okp nj q c) → P_X12_is m 3 (wA S (upI (gI S) x 0 s) J (gR S)) (fun r F => (r = 0 ∨ r = 1) ∧ Q2 r F J)) → (si = sj → okp ni p c → okp nj q c → ∀ J', (∀ a, a ≠ am 7 → J' a = J a) → (∀ k, J' (am 7) k = if 60 * j + q ≤ k ∧ k < 60 * j + q + c then J (am 7) (60 * i + p + (k - (60 * j + q))) else J (am 7) k) → P_X12_is m 0 (wA (wA S (upI (gI S) x 0 s) J (gR S)) (gI (wA S (upI (gI S) x 0 s) J (gR S))) J' (gR (wA S (upI (gI S) x 0 s) J (gR S)))) (fun r F => (r = 0 ∨ r = 1) ∧ Q2 r F J')) → P_X12_pour m (nI i) (nI p) (nI j) (nI q) (nI c) (wA S (upI (gI S) x 0 s) J (gR S)) Q2 := by
        intro s J Q2 m1 m2 m3
        refine ⟨h.L.z, gate_pour (fun g => absurd hg g) (fun _ => ⟨am 6, h.L.r 6, h.L.k 6, h.L.i 6 (by show i < 4; omega), ?_⟩)⟩
        rw [nI_clamp (show i < 2 ^ 31 by omega), nI_clamp (show j < 2 ^ 31 by omega), i6, j6]
        refine ⟨False, False.elim, fun c => absurd c (N_ne (by omega)), fun _ => ⟨h.L.i 6 (by show j < 4; omega), fun _ => ⟨am 5, h.L.r 5, h.L.k 5, h.L.i 5 (by show i < 4; omega), h.L.i 5 (by show j < 4; omega), ?_⟩, fun c => absurd c (N_ne (by omega))⟩⟩
        rw [E5, E5, g9, f9, nI_eq (by omega) (by omega), okp_lt g2 hp hc]
        have nle : nI c ≤ nI nj - nI q ↔ okp nj q c := by
          refine ⟨fun e => ?_, fun e => ?_⟩
          · by_cases y : okp nj q c
            · exact y
            · have := (okp_lt f2 hqq hc).mpr y
              rw [fa_le] at e; rw [fa_lt] at this; omega
          · exact fa_of_nlt (fun y => (okp_lt f2 hqq hc).mp y e)
        rw [nle]
        refine ⟨fun es => ⟨¬ (okp ni p c ∧ okp nj q c), fun hn => m2 es hn, fun y z => y z.1, fun y => ⟨fun y2 => ?_, fun y2 z => y2 z.2⟩⟩, fun hne => m1 hne⟩
        have y1 : okp ni p c := Classical.byContradiction y
        have hb1 := y1.1
        have hb2 := y1.2
        have hb3 := y2.1
        have hb4 := y2.2
        have hc60 : c ≤ 60 := by omega
        obtain ⟨lo, hlo⟩ : ∃ lo : Nat → Nat, lo = fun u => if q ≤ p then 0 else c - u := ⟨_, rfl⟩
        obtain ⟨hi', hhi⟩ : ∃ hi' : Nat → Nat, hi' = fun u => if q ≤ p then u else c := ⟨_, rfl⟩
        refine ⟨fun t x6 J2 => ∃ u, u ≤ c ∧ t = c - u ∧ x6 = nI u ∧ (∀ a, a ≠ am 7 → J2 a = J a) ∧ ∀ k, J2 (am 7) k = if 60 * j + q + lo u ≤ k ∧ k < 60 * j + q + hi' u then J (am 7) (60 * i + p + (k - (60 * j + q))) else J (am 7) k, ⟨c, 0, by omega, rfl, rfl, fun _ _ => rfl, fun k => ?_⟩, ?_⟩
        · rw [if_neg]
          · rfl
          · rw [hlo, hhi]
            show ¬ (60 * j + q + (if q ≤ p then 0 else c - 0) ≤ k ∧ k < 60 * j + q + (if q ≤ p then 0 else c))
            split <;> omega
        rintro t x6 J2 ⟨u, hu, rfl, rfl, ja, jk⟩
        refine ⟨fun hcu => ?_, fun hcu => ?_⟩
        · have e : u = c := by
            have : c ≤ u := (nI_leI (by omega) (by omega)).mp hcu
            omega
          subst e
          refine m3 es y1 y2 J2 ja (fun k => ?_)
          rw [jk k]
          have l0 : lo u = 0 := by rw [hlo]; show (if q ≤ p then 0 else u - u) = 0; split <;> omega
          have h0 : hi' u = u := by rw [hhi]; show (if q ≤ p then u else u) = u; split <;> rfl
          rw [l0, h0]
          rfl
        · have hlt := nI_gtI (by omega) (by omega) hcu
          obtain ⟨tt, htt⟩ : ∃ tt, tt = if q ≤ p then u else c - 1 - u := ⟨_, rfl⟩
          have tlt : tt < c := by rw [htt]; split <;> omega
          refine ⟨fun v => v = nI tt, ?_, fun hqp => ?_, fun hqp => ?_⟩
          · rintro _ rfl
            have ixi : (60 : Int32) * nI i + nI p + nI tt = nI (60 * i + p + tt) := by rw [ix60, nI_add]
            have ixj : (60 : Int32) * nI j + nI q + nI tt = nI (60 * j + q + tt) := by rw [ix60, nI_add]
            rw [ixi, ixj]
            refine ⟨am 7, h.L.r 7, h.L.k 7, h.L.i 7 (by show 60 * i + p + tt < 240; omega), h.L.i 7 (by show 60 * j + q + tt < 240; omega), fun v39 e39 J3 e3 w ew => ?_⟩
            rw [nI_clamp (by omega)] at e39 e3
            have rd : v39 = J (am 7) (60 * i + p + tt) := by
              rw [e39, jk]
              refine if_neg (fun hh => ?_)
              rw [hlo, hhi] at hh
              have hh' : 60 * j + q + (if q ≤ p then 0 else c - u) ≤ 60 * i + p + tt ∧ 60 * i + p + tt < 60 * j + q + (if q ≤ p then u else c) := hh
              by_cases cc : q ≤ p
              · rw [if_pos cc, if_pos cc] at hh'
                rw [if_pos cc] at htt
                rcases Nat.lt_trichotomy i j with z | z | z
                · omega
                · subst z; omega
                · omega
              · rw [if_neg cc, if_neg cc] at hh'
                rw [if_neg cc] at htt
                rcases Nat.lt_trichotomy i j with z | z | z
                · omega
                · subst z; omega
                · omega
            refine ⟨c - (u + 1), by omega, u + 1, by omega, rfl, by rw [ew]; exact nI_1 u, fun a ha => by rw [e3, upJ_ne ha]; exact ja a ha, fun k => ?_⟩
            have rng : (60 * j + q + lo (u + 1) ≤ k ∧ k < 60 * j + q + hi' (u + 1)) ↔ (k = 60 * j + q + tt ∨ (60 * j + q + lo u ≤ k ∧ k < 60 * j + q + hi' u)) := by
              rw [hlo, hhi]
              show (60 * j + q + (if q ≤ p then 0 else c - (u + 1)) ≤ k ∧ k < 60 * j + q + (if q ≤ p then u + 1 else c)) ↔ (k = 60 * j + q + tt ∨ (60 * j + q + (if q ≤ p then 0 else c - u) ≤ k ∧ k < 60 * j + q + (if q ≤ p then u else c)))
              by_cases cc : q ≤ p
              · rw [if_pos cc, if_pos cc, if_pos cc, if_pos cc]
                rw [if_pos cc] at htt
                omega
              · rw [if_neg cc, if_neg cc, if_neg cc, if_neg cc]
                rw [if_neg cc] at htt
                omega
            by_cases ck : k = 60 * j + q + tt
            · rw [if_pos (rng.mpr (Or.inl ck)), ck, e3, upJ_at, rd]
              congr 1
              omega
            · rw [e3, upJ_no ck, jk]
              by_cases cr : 60 * j + q + lo u ≤ k ∧ k < 60 * j + q + hi' u
              · rw [if_pos cr, if_pos (rng.mpr (Or.inr cr))]
              · rw [if_neg cr, if_neg (fun z => (rng.mp z).elim ck cr)]
          · have cc : q ≤ p := (nI_leI (by omega) (by omega)).mp hqp
            rw [htt, if_pos cc]
          · have cc : ¬ q ≤ p := fun e => hqp (nI_le e (by omega))
            rw [htt, if_neg cc, sub1 (by omega), le_sub1 (by omega)]
      rw [g5, f5, nI_eq (by omega) (by omega)]
      refine ⟨fun es => ?_, fun hne => dn 8 (fun Q2 h2 => mod 8 (gJ S) Q2 (fun _ => isE 8 Q2 (by decide) h2) (fun e => absurd e hne) (fun e => absurd e hne))⟩
      have d3 : ¬ (okp ni p c ∧ okp nj q c) → P_X11_deny x 3 S (fun r F => (r = 0 ∨ r = 1) ∧ Q1 r F (gJ S)) := fun hn => dn 3 (fun Q2 h2 => mod 3 (gJ S) Q2 (fun e => absurd es e) (fun _ _ => isE 3 Q2 (by decide) h2) (fun _ y1 y2 => absurd ⟨y1, y2⟩ hn))
      refine sp_hasO g4 g6 g7 g8 g2 hp hc (fun y1 => ⟨¬ (okp ni p c ∧ okp nj q c), d3, fun c => absurd c one0, fun _ => sp_hasO f4 f6 f7 f8 f2 hqq hc (fun y2 => ⟨fun _ => ⟨ta i, g6, ta j, f6, g7, f7, nI_pos hp, nI_pos hqq, nI_pos hc, ?_⟩, fun c => absurd c one0⟩) (fun y2 => ⟨fun c => absurd rfl c, fun _ z => y2 z.2⟩)⟩) (fun y1 => ⟨¬ (okp ni p c ∧ okp nj q c), d3, fun _ z => y1 z.1, fun c => absurd rfl c⟩)
      have hb1 := y1.1
      have hb2 := y1.2
      have hb3 := y2.1
      have hb4 := y2.2
      rw [nI_clamp hp, nI_clamp hqq, nI_clamp hc]
      refine ⟨by rw [g8]; omega, by rw [f8]; omega, fun J eJ => ⟨h.x, fun F eF => ⟨Or.inr rfl, ?_⟩⟩⟩
      rw [eF]
      have a7 : ta j ≠ am 7 := hD.2 j 7 hj hnj (by decide)
      have J7 : J (am 7) = gJ S (am 7) := by rw [eJ]; exact va_up_ne _ _ (Ne.symm a7)
      have Jn : ∀ a, a ≠ ta j → J a = gJ S a := fun a ha => by rw [eJ]; exact va_up_ne _ _ ha
      have Jj : J (ta j) = va_cpy (gJ S (ta i)) (gJ S (ta j)) p q c := by rw [eJ]; exact va_up_self ..
      refine hq _ _ _ (fun Q2 h2 => mod 0 J Q2 (fun e => absurd es e) (fun _ hn => absurd ⟨y1, y2⟩ hn) (fun _ _ _ J' ja jk => ⟨h.L.z, fun F2 e2 => ⟨fun c => absurd rfl c, fun _ => ⟨Or.inr rfl, ?_⟩⟩⟩))
      have e2' : F2 = upI (upI (gI S) x 0 0) m 2 0 := e2
      refine h2 F2 J' (fun k => if k = j then some (sj, nj, fun z => if q ≤ z ∧ z < q + c then vi (p + (z - q)) else vj z) else Y k) (by rw [e2']; exact Kp.fd 2) (by rw [e2', up_at]) (fun a ha1 ha2 => by rw [ja a ha1, Jn a (ha2 j hj hnj)]) ⟨hY.1, hY.2.1, hY.2.2.1, fun k hk => ?_⟩ (fun k => ?_)
      · have base := (TrX.same h hY e2').2.2.2 k hk
        by_cases ck : k = j
        · subst ck
          rw [eyj] at base
          show TrO _ tr (tq k) (ta k) am k (if k = k then _ else _)
          rw [if_pos rfl]
          obtain ⟨q1, q2, q3, q4, q5, q6, q7, q8, q9, q10, q11⟩ := base
          refine ⟨q1, q2, q3, q4, q5, q6, q7, q8, q9, q10, fun z hz => ⟨?_, ?_⟩⟩
          · show J' (ta k) z = if q ≤ z ∧ z < q + c then vi (p + (z - q)) else vj z
            rw [ja _ a7, Jj]
            by_cases cz : q ≤ z ∧ z < q + c
            · rw [if_pos cz, pk_cpy_in cz.1 cz.2]; exact (g11 _ (by omega)).1
            · rw [if_neg cz, pk_cpy_out (by omega)]; exact (f11 z hz).1
          · show J' (am 7) (60 * k + z) = if q ≤ z ∧ z < q + c then vi (p + (z - q)) else vj z
            rw [jk, J7]
            by_cases cz : q ≤ z ∧ z < q + c
            · rw [if_pos cz, if_pos (by omega), show 60 * i + p + (60 * k + z - (60 * k + q)) = 60 * i + (p + (z - q)) by omega]; exact (g11 _ (by omega)).2
            · rw [if_neg cz, if_neg (by omega)]; exact (f11 z hz).2
        · show TrO _ tr (tq k) (ta k) am k (if k = j then _ else _)
          rw [if_neg ck]
          refine base.cg rfl rfl rfl (fun hne => ⟨rfl, rfl, rfl, rfl, rfl, fun z => ?_⟩) (fun z hz => ?_)
          · show J' (ta k) z = gJ S (ta k) z
            rw [ja _ (hD.2 k 7 hk hne (by decide)), Jn _ (hD.1 k j hk hj ck hne hnj)]
          · show J' (am 7) (60 * k + z) = gJ S (am 7) (60 * k + z)
            rw [jk, J7, if_neg]
            rcases Nat.lt_trichotomy k j with z1 | z1 | z1
            · omega
            · omega
            · omega
      · show (if k = j then _ else Y k) = none ↔ _
        by_cases ck : k = j
        · rw [if_pos ck, ck]
          exact ⟨fun e => (by cases e), fun e => absurd e hnj⟩
        · rw [if_neg ck]
end PO
