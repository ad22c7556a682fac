/-! Places that a text tells. -/
def pst (df : Nat → Nat) : Nat → Nat → Bool
  | 0, _ => false
  | k + 1, q => pst df k q || decide (df k = q + 1)
def GDi (df : Nat → Nat) (i : Nat) : Prop := ∀ j, j < i → 1 ≤ df j ∧ (j + 1 < i → df j < df (j + 1))
theorem GDi.lo {df : Nat → Nat} {i j : Nat} (h : GDi df i) (hj : j ≤ i) : GDi df j := fun a ha => ⟨(h a (by omega)).1, fun hb => (h a (by omega)).2 (by omega)⟩
theorem GDi.le {df : Nat → Nat} {i : Nat} (h : GDi df i) : ∀ d j, j + d < i → df j ≤ df (j + d)
  | 0, j, _ => Nat.le_refl _
  | d + 1, j, hj => by
    have := GDi.le h d j (by omega)
    have := (h (j + d) (by omega)).2 (by omega)
    rw [show j + (d + 1) = j + d + 1 by omega]
    omega
theorem GDi.s {df : Nat → Nat} {i : Nat} (h : GDi df i) (h1 : 1 ≤ df i) (h2 : 1 ≤ i → df (i - 1) < df i) : GDi df (i + 1) := fun j hj => by
  by_cases c : j = i
  · subst c; exact ⟨h1, fun y => by omega⟩
  · refine ⟨(h j (by omega)).1, fun y => ?_⟩
    by_cases c2 : j + 1 = i
    · have := h2 (by omega)
      rw [show i - 1 = j by omega] at this
      rw [c2]; exact this
    · exact (h j (by omega)).2 (by omega)
theorem plc_gd {tx : Nat → Nat} {s n : Nat} : ∀ i fu b x, i < fu → b ≤ 9 → (∀ j, j < i → tx (s + j) - 48 ≤ 9) → (1 ≤ i → 1 ≤ tx s - 48) → ((GDi (fun j => tx (s + j) - 48) i ∧ (1 ≤ i → tx (s + (i - 1)) - 48 < b)) ∧ ∃ x', plc n fu (dgv tx s i) b x = some x' ∧ ∀ q, q < 32 → bt x' q = (bt x q || pst (fun j => tx (s + j) - 48) i q)) ∨ (¬ (GDi (fun j => tx (s + j) - 48) i ∧ (1 ≤ i → tx (s + (i - 1)) - 48 < b)) ∧ plc n fu (dgv tx s i) b x = none)
  | 0, fu, b, x, hf, _, _, _ => by
    obtain ⟨f, rfl⟩ : ∃ f, fu = f + 1 := ⟨fu - 1, by omega⟩
    exact Or.inl ⟨⟨fun j hj => by omega, fun y => by omega⟩, x, rfl, fun q _ => by show bt x q = (bt x q || false); rw [Bool.or_false]⟩
  | i + 1, fu, b, x, hf, hb, hd, h1 => by
    obtain ⟨f, rfl⟩ : ∃ f, fu = f + 1 := ⟨fu - 1, by omega⟩
    have hi := hd i (by omega)
    have hpos : 1 ≤ dgv tx s (i + 1) := by
      have key : ∀ i, 1 ≤ dgv tx s (i + 1) := fun i => by
        induction i with
        | zero =>
          show 1 ≤ 0 * 10 + (tx (s + 0) - 48)
          have := h1 (by omega)
          rw [Nat.add_zero]; omega
        | succ i ih =>
          show 1 ≤ dgv tx s (i + 1) * 10 + _
          omega
      exact key i
    have em : dgv tx s (i + 1) % 10 = tx (s + i) - 48 := by show (dgv tx s i * 10 + (tx (s + i) - 48)) % 10 = _; omega
    have ed : dgv tx s (i + 1) / 10 = dgv tx s i := by show (dgv tx s i * 10 + (tx (s + i) - 48)) / 10 = _; omega
    have eu : plc n (f + 1) (dgv tx s (i + 1)) b x = if tx (s + i) - 48 < 1 ∨ b ≤ tx (s + i) - 48 then none else plc n f (dgv tx s i) (tx (s + i) - 48) (x ||| shl 1 (nI (tx (s + i) - 48 - 1))) := by
      show (if dgv tx s (i + 1) = 0 then some x else if dgv tx s (i + 1) % 10 < 1 ∨ b ≤ dgv tx s (i + 1) % 10 then none else plc n f (dgv tx s (i + 1) / 10) (dgv tx s (i + 1) % 10) (x ||| shl 1 (nI (dgv tx s (i + 1) % 10 - 1)))) = _
      rw [if_neg (by omega), em, ed]
    rw [eu]
    by_cases c : tx (s + i) - 48 < 1 ∨ b ≤ tx (s + i) - 48
    · rw [if_pos c]
      refine Or.inr ⟨fun h => ?_, rfl⟩
      have y1 := (h.1 i (by omega)).1
      have y2 := h.2 (by omega)
      rw [show i + 1 - 1 = i by omega] at y2
      have y1' : 1 ≤ tx (s + i) - 48 := y1
      omega
    · rw [if_neg c]
      rcases plc_gd i f (tx (s + i) - 48) (x ||| shl 1 (nI (tx (s + i) - 48 - 1))) (by omega) (by omega) (fun j hj => hd j (by omega)) (fun y => h1 (by omega)) with ⟨⟨g1, g2⟩, x', g3, g4⟩ | ⟨g1, g2⟩
      · refine Or.inl ⟨⟨g1.s (by show 1 ≤ tx (s + i) - 48; omega) (fun y => g2 y), fun _ => by rw [show i + 1 - 1 = i by omega]; omega⟩, x', g3, fun q hq => ?_⟩
        rw [g4 q hq, tb3 (by omega) hq]
        show _ = (bt x q || (pst (fun j => tx (s + j) - 48) i q || decide (tx (s + i) - 48 = q + 1)))
        have : decide (q = tx (s + i) - 48 - 1) = decide (tx (s + i) - 48 = q + 1) := by
          by_cases c2 : q = tx (s + i) - 48 - 1
          · rw [decide_eq_true c2, decide_eq_true (by omega)]
          · rw [decide_eq_false c2, decide_eq_false (by omega)]
        rw [this, Bool.or_assoc, Bool.or_comm (decide _)]
      · refine Or.inr ⟨fun h => g1 ⟨h.1.lo (by omega), fun y => ?_⟩, g2⟩
        have := (h.1 (i - 1) (by omega)).2 (by omega)
        rw [show i - 1 + 1 = i by omega] at this
        exact this
section PL
variable (n : Nat) (tx : Nat → Nat) (L p : Nat)
def pdf (i : Nat) : Nat := tx (sk tx L p + i) - 48
def pss : Nat → Bool := if tk tx L p = 3 then pst (pdf tx L p) (nx tx L p - sk tx L p) else fun _ => false
def plk : Prop := (tk tx L p = 3 → GDi (pdf tx L p) (nx tx L p - sk tx L p) ∧ pdf tx L p (nx tx L p - sk tx L p - 1) ≤ n) ∧ okm n (pss tx L p)
def psw : Nat → Bool := swm n (pss tx L p)
def PLt : Prop := tk tx L p = 8 ∨ tk tx L p = 3
def PLg : Prop := PLt tx L p ∧ plk n tx L p
def PLf (f : Nat) : Prop := (¬ PLt tx L p ∧ f = mis tx L p) ∨ (PLt tx L p ∧ ¬ plk n tx L p ∧ f = 4)
end PL
theorem PLg.sw {n L p : Nat} {tx : Nat → Nat} (h : PLg n tx L p) : Sw n (psw n tx L p) := okm_sw h.2.2
theorem mvx_ne {n : Nat} {sw : Nat → Bool} (hn : n ≤ 8) (h1 : 1 ≤ n) (h : Sw n sw) : nI (pak (mvf sw) n) ≠ -1 := fun e => by
  have h1' : bt (nI (pak (mvf sw) n)) (4 * (n - 1) + 0) = bt (-1) (4 * (n - 1) + 0) := by rw [e]
  rw [bt_pak (fun q _ => mvf_lt sw q) (by omega) (by decide), mvf_bit (by decide), b_m1 _ (by omega)] at h1'
  have h3 : sw (n - 1) = true := (by simpa using h1' : n - 1 < n ∧ _).2
  have := (h _ h3).1
  omega
theorem pss_lt {n L p q : Nat} {tx : Nat → Nat} (h : plk n tx L p) (hq : pss tx L p q = true) : q < n := by
  unfold pss at hq
  by_cases c : tk tx L p = 3
  · rw [if_pos c] at hq
    obtain ⟨g1, g2⟩ := h.1 c
    have key : ∀ k, pst (pdf tx L p) k q = true → ∃ j, j < k ∧ pdf tx L p j = q + 1 := fun k => by
      induction k with
      | zero => intro e; cases e
      | succ k ih =>
        intro e
        have e' : (pst (pdf tx L p) k q || decide (pdf tx L p k = q + 1)) = true := e
        rcases Bool.or_eq_true _ _ |>.mp e' with y | y
        · obtain ⟨j, j1, j2⟩ := ih y
          exact ⟨j, by omega, j2⟩
        · exact ⟨k, by omega, of_decide_eq_true y⟩
    obtain ⟨j, j1, j2⟩ := key _ hq
    have := g1.le (nx tx L p - sk tx L p - 1 - j) j (by omega)
    rw [show j + (nx tx L p - sk tx L p - 1 - j) = nx tx L p - sk tx L p - 1 by omega] at this
    omega
  · rw [if_neg c] at hq; cases hq
theorem okm_cong {n : Nat} {st st2 : Nat → Bool} (h : ∀ p, p < n → st p = st2 p) : okm n st ↔ okm n st2 := by
  have e : swm n st = swm n st2 := funext (swm_cong h)
  refine ⟨fun g p hp => ?_, fun g p hp => ?_⟩
  · obtain ⟨y1, y2⟩ := g p (by rw [e]; exact hp)
    exact ⟨y1, by rw [← h _ y1]; exact y2⟩
  · obtain ⟨y1, y2⟩ := g p (by rw [← e]; exact hp)
    exact ⟨y1, by rw [h _ y1]; exact y2⟩
section SPL
variable {S : St} {k tt rv br n : Nat} {tx : Nat → Nat} {L p : Nat}
theorem sp_seesPlaces {Q : Int32 → FI → Prop} (hbr : kd S br = 2) (hr0 : gR S br 0 = some k) (hX : TxC S (gI S) (gJ S) k tt rv tx L) (hT : TkC (gI S) (gJ S) k tx L p) (hs : gI S br 1 = nI n) (h4 : 4 ≤ n) (hn : n ≤ 8)
    (hy : PLg n tx L p → ∀ F, F = upI (gI S) br 5 (nI (pak (mvf (psw n tx L p)) n)) → Q 1 F) (hf : ∀ f, PLf n tx L p f → ∀ F v, FlC k f (sk tx L p) (upI (gI S) br 5 v) F → Q 0 F) : P_X1_seesPlaces br S Q := by
  have bk : k ≠ br := kd_ne hX.1 hbr (by decide)
  have same : upI (gI S) br 5 (gI S br 5) = gI S := by
    funext a j
    by_cases c : a = br
    · subst c
      by_cases c2 : j = 5
      · subst c2; rw [up_at]
      · rw [up_no c2]
    · rw [up_ne c]
  obtain ⟨t4, t5, t6, t7, t8⟩ := hT
  have lft : PLt tx L p → ¬ plk n tx L p → ∀ F6, F6 = upI (gI S) br 5 (-1) → (¬ F6 br 5 = -1 → Q 1 F6) ∧ (F6 br 5 = -1 → P_X7_wrong k 4 (wI S F6) (fun r F => (r = 0 → Q 0 F) ∧ (¬ r = 0 → Q 1 F))) := fun h1 h2 F6 e6 => by
    have e : F6 br 5 = -1 := by rw [e6, up_at]
    refine ⟨fun y => absurd e y, fun _ => sp_wrong (S := wI S F6) (f := 4) (s := sk tx L p) hX.1 (by show F6 k 4 = _; rw [e6, up_ne bk]; exact t4) (fun F h => ⟨fun _ => hf 4 (Or.inr ⟨h1, h2, rfl⟩) F (-1) (by rw [← e6]; exact h), fun y => absurd rfl y⟩)⟩
  have gd : PLg n tx L p → ∀ F6, F6 = upI (gI S) br 5 (nI (pak (mvf (psw n tx L p)) n)) → (¬ F6 br 5 = -1 → Q 1 F6) ∧ (F6 br 5 = -1 → P_X7_wrong k 4 (wI S F6) (fun r F => (r = 0 → Q 0 F) ∧ (¬ r = 0 → Q 1 F))) := fun h F6 e6 => by
    refine ⟨fun _ => hy h F6 e6, fun y => absurd ?_ (mvx_ne hn (by omega) h.sw)⟩
    rw [e6, up_at] at y; exact y
  refine ⟨hbr, k, hr0, hX.1, sp_isAt hX.1 ⟨t4, t5, t6, t7, t8⟩ (c := 8) (by decide) (fun e8 => ?_) (fun e8 => ?_)⟩
  · refine ⟨fun F6 => (PLg n tx L p ∧ F6 = upI (gI S) br 5 (nI (pak (mvf (psw n tx L p)) n))) ∨ (PLt tx L p ∧ ¬ plk n tx L p ∧ F6 = upI (gI S) br 5 (-1)), ?_, fun y => absurd y one0, fun _ => ?_⟩
    · rintro F6 (⟨h1, h2⟩ | ⟨h1, h2, h3⟩)
      · exact gd h1 F6 h2
      · exact lft h1 h2 F6 h3
    · rw [hs]
      have pe : pss tx L p = fun _ => false := by unfold pss; rw [if_neg (by omega)]
      have p0 : plv n 0 = some 0 := rfl
      have b0 : ∀ q, q < n → bt 0 q = pss tx L p q := fun q _ => by rw [pe]; exact b_0 q
      refine sp_moveOf (v := 0) hn (by decide) (fun s hs' ho F20 e20 => Or.inl ⟨⟨Or.inl e8, fun y => by omega, ?_⟩, ?_⟩) (fun hno F20 e20 => Or.inr ⟨Or.inl e8, fun h => hno 0 p0 ((okm_cong b0).mpr h.2), e20⟩)
      · rw [p0] at hs'; obtain rfl := Option.some.inj hs'
        exact (okm_cong b0).mp ho
      · rw [p0] at hs'; obtain rfl := Option.some.inj hs'
        rw [e20]
        have : swm n (bt 0) = psw n tx L p := funext (swm_cong b0)
        rw [this]
  · refine ⟨fun F6 => (PLg n tx L p ∧ F6 = upI (gI S) br 5 (nI (pak (mvf (psw n tx L p)) n))) ∨ (PLt tx L p ∧ ¬ plk n tx L p ∧ F6 = upI (gI S) br 5 (-1)), ?_, fun _ => ?_, fun y => absurd rfl y⟩
    · rintro F6 (⟨h1, h2⟩ | ⟨h1, h2, h3⟩)
      · exact gd h1 F6 h2
      · exact lft h1 h2 F6 h3
    · refine sp_isAt hX.1 ⟨t4, t5, t6, t7, t8⟩ (c := 3) (by decide) (fun e3 => ⟨fun y => absurd y one0, fun _ => ?_⟩) (fun e3 => ⟨fun _ => sp_misplaced hX.1 ⟨t4, t5, t6, t7, t8⟩ (fun F h => ⟨Or.inl rfl, hf _ (Or.inl ⟨fun y => y.elim e8 e3, rfl⟩) F (gI S br 5) (by rw [same]; exact h)⟩), fun y => absurd rfl y⟩)
      have hX' := hX
      obtain ⟨k7, r0, k20, l9, L9, f3, hb, r2, kr, lr, hres⟩ := hX'
      obtain ⟨w1, w2, w3, w4, w5⟩ := tk_num e3
      obtain ⟨cb, ce⟩ := hb _ w1
      have pe : pss tx L p = pst (pdf tx L p) (nx tx L p - sk tx L p) := by unfold pss; rw [if_pos e3]
      -- what the number's digits do
      have num : 1 ≤ tx (sk tx L p) - 48 → P_X4_moveOf (nI (vl' tx L p)) (nI n) (fun r => ∀ F17, F17 = upI (gI S) br 5 r → (PLg n tx L p ∧ F17 = upI (gI S) br 5 (nI (pak (mvf (psw n tx L p)) n))) ∨ (PLt tx L p ∧ ¬ plk n tx L p ∧ F17 = upI (gI S) br 5 (-1))) := fun h1 => by
        have := vlx_lt e3
        rcases plc_gd (tx := tx) (s := sk tx L p) (n := n) (nx tx L p - sk tx L p) 11 (n + 1) 0 (by omega) (by omega) (fun j hj => by have := isD_iff.mp (w5 (sk tx L p + j) (by omega) (by omega)).2; omega) (fun _ => h1) with ⟨⟨g1, g2⟩, x', g3, g4⟩ | ⟨g1, g2⟩
        · have g2' : pdf tx L p (nx tx L p - sk tx L p - 1) ≤ n := by have := g2 (by omega); unfold pdf; omega
          have g3' : plv n (vl' tx L p) = some x' := g3
          have bx : ∀ q, q < n → bt x' q = pss tx L p q := fun q hq => by
            rw [g4 q (by omega), b_0, Bool.false_or, pe]; rfl
          refine sp_moveOf hn (by omega) (fun s hs' ho F20 e20 => ?_) (fun hno F20 e20 => Or.inr ⟨Or.inr e3, fun h => hno x' g3' ((okm_cong bx).mpr h.2), e20⟩)
          rw [g3'] at hs'
          obtain rfl := Option.some.inj hs'
          refine Or.inl ⟨⟨Or.inr e3, fun _ => ⟨g1, g2'⟩, (okm_cong bx).mp ho⟩, ?_⟩
          have : swm n (bt x') = psw n tx L p := funext (swm_cong bx)
          rw [e20, this]
        · have g2' : plv n (vl' tx L p) = none := g2
          refine sp_moveOf hn (by omega) (fun s hs' => by rw [g2'] at hs'; cases hs') (fun _ F20 e20 => Or.inr ⟨Or.inr e3, fun h => g1 ⟨(h.1 e3).1, fun _ => ?_⟩, e20⟩)
          have := (h.1 e3).2
          unfold pdf at this
          omega
      refine ⟨k7, ?_⟩
      rw [f3, t4]
      refine ⟨fun y => absurd ((nI_leI (by omega) (by omega)).mp y) (by omega), fun _ => ⟨tt, r0, k20, by rw [l9]; exact vp_in_nI (by omega) (by decide), ?_⟩⟩
      rw [nI_clamp (by omega), ce]
      refine ⟨fun hne => ⟨fun r => ∀ F17, F17 = upI (gI S) br 5 r → (PLg n tx L p ∧ F17 = upI (gI S) br 5 (nI (pak (mvf (psw n tx L p)) n))) ∨ (PLt tx L p ∧ ¬ plk n tx L p ∧ F17 = upI (gI S) br 5 (-1)), fun t ht => ht, fun _ => ?_, fun y => absurd rfl y⟩, fun he => ⟨fun r => ∀ F17, F17 = upI (gI S) br 5 r → (PLg n tx L p ∧ F17 = upI (gI S) br 5 (nI (pak (mvf (psw n tx L p)) n))) ∨ (PLt tx L p ∧ ¬ plk n tx L p ∧ F17 = upI (gI S) br 5 (-1)), fun t ht => ht, fun y => absurd y one0, fun _ F17 e17 => Or.inr ⟨Or.inr e3, fun h => ?_, e17⟩⟩⟩
      · rw [t7 e3, hs]
        have dd := isD_iff.mp (w5 (sk tx L p) (Nat.le_refl _) w3).2
        exact num (by
          rcases Nat.lt_or_ge 48 (tx (sk tx L p)) with z | z
          · omega
          · exact absurd ((sb_eq (v := 48) cb (by decide)).mpr (by omega)) hne)
      · have z := (sb_eq (v := 48) cb (by decide)).mp he
        have := ((h.1 e3).1 0 (by omega)).1
        unfold pdf at this
        rw [Nat.add_zero] at this
        omega
end SPL
section SML
variable {S : St} {m n : Nat} {am : Nat → Nat} {tx : Nat → Nat} {L p : Nat}
theorem sm_isPlaces {Q : Int32 → Prop} (hL : LM S m am) (hX : TxM (gI S) m am tx L) (hT : TkM (gI S) m tx L p) (hy : PLt tx L p → Q 1) (hn : ¬ PLt tx L p → Q 0) : P_X12_isPlaces m S Q := by
  have t17 := tk_17 (tx := tx) (L := L) p
  refine ⟨hL.z, ?_⟩
  rw [hT.2.2.1, mtc_3 t17]
  refine ⟨fun e => hy (Or.inr e), fun e => sm_inWords hL hX hT ?_⟩
  rw [show (3 : Int32) = nI 3 from rfl, mki_eq t17 (by decide)]
  exact ⟨fun e2 => hn (fun y => y.elim e2 e), fun e2 => hy (Or.inl e2)⟩
theorem sm_placesHere {Q : Int32 → Prop} (hL : LM S m am) (hX : TxM (gI S) m am tx L) (hT : TkM (gI S) m tx L p) (hPt : PLt tx L p) (h96 : gI S (am 0) 9680 = nI n) (hn8 : n ≤ 8)
    (hy : PLg n tx L p → Q (msk (stf (psw n tx L p)) n)) (hn : ¬ plk n tx L p → Q (-1)) : P_X12_placesHere m S Q := by
  have t17 := tk_17 (tx := tx) (L := L) p
  have L9 := hX.2.1
  obtain ⟨t13, t14, t12, -, -⟩ := hT
  -- the end, when the set is told
  have fin : ∀ x : Int32, (tk tx L p = 3 → GDi (pdf tx L p) (nx tx L p - sk tx L p) ∧ pdf tx L p (nx tx L p - sk tx L p - 1) ≤ n) → (∀ q, q < 32 → bt x q = pss tx L p q) → ∃ a_8 : Nat, gR S m 0 = some a_8 ∧ (kd S a_8 = 21 ∧ (vp_in 9680 (ln S a_8) ∧ (P_X12_canChange x (gI S a_8 9680) (fun (r_11 : Int32) => ((r_11 = 0 → Q (-1)) ∧ (¬ r_11 = 0 → Q x)))))) := fun x h1 h2 => by
    refine ⟨am 0, hL.r 0, hL.k 0, hL.i 0 (p := 9680) (by decide), ?_⟩
    rw [h96]
    have ok : okm n (bt x) ↔ okm n (pss tx L p) := okm_cong (fun q hq => h2 q (by omega))
    refine sm_canChange hn8 (fun ho => ⟨fun y => absurd y one0, fun _ => ?_⟩) (fun ho => ⟨fun _ => hn (fun h => ho (ok.mpr h.2)), fun y => absurd rfl y⟩)
    have g : PLg n tx L p := ⟨hPt, h1, ok.mp ho⟩
    have : x = msk (stf (psw n tx L p)) n := b_ext (fun q hq => by
      rw [h2 q hq, msk_bt _ _ hq]
      by_cases c : q < n
      · rw [decide_eq_true c, Bool.true_and]
        exact (stf_swm g.2.2 q c).symm
      · rw [decide_eq_false c, Bool.false_and]
        rcases Bool.eq_false_or_eq_true (pss tx L p q) with y | y
        · exact absurd (pss_lt g.2 y) c
        · exact y)
    rw [this]
    exact hy g
  refine ⟨hL.z, fun v ev => ?_⟩
  rw [t13] at ev
  subst ev
  by_cases e3 : tk tx L p = 3
  · obtain ⟨w1, w2, w3, w4, w5⟩ := tk_num e3
    have pe : pss tx L p = pst (pdf tx L p) (nx tx L p - sk tx L p) := by unfold pss; rw [if_pos e3]
    refine ⟨fun t x1 x2 x3 => ∃ i, i ≤ nx tx L p - sk tx L p ∧ t = nx tx L p - sk tx L p - i ∧ x3 = nI (sk tx L p + i) ∧ GDi (pdf tx L p) i ∧ (1 ≤ i → pdf tx L p (i - 1) ≤ n) ∧ x2 = nI (if i = 0 then 0 else pdf tx L p (i - 1)) ∧ ∀ q, q < 32 → bt x1 q = pst (pdf tx L p) i q, ⟨nx tx L p - sk tx L p, 0, by omega, by omega, rfl, fun j hj => by omega, fun y => by omega, rfl, fun q _ => b_0 q⟩, ?_⟩
    rintro t x1 x2 x3 ⟨i, hi, rfl, rfl, gi, li, rfl, bi⟩
    rw [t14]
    refine ⟨i = nx tx L p - sk tx L p, fun ie => fin x1 (fun _ => ⟨by rw [← ie]; exact gi, by rw [← ie]; exact li (by omega)⟩) (fun q hq => by rw [pe, ← ie]; exact bi q hq), fun hc => by have := (nI_leI (by omega) (by omega)).mp hc; omega, fun hc => ⟨fun y => absurd (by rw [t12]; exact (mtc_3 t17).mpr e3) y, fun _ => ?_⟩⟩
    have hlt : sk tx L p + i < nx tx L p := nI_gtI (by omega) (by omega) hc
    obtain ⟨lt, ld⟩ := w5 (sk tx L p + i) (by omega) hlt
    have dd := isD_iff.mp ld
    refine sm_byteAt hL hX (by omega) (fun _ v15 e15 => ?_) (fun y => by omega)
    have v15e : v15 = nI (pdf tx L p i) := by rw [e15]; exact dif_nI (b := 48) dd.1
    subst v15e
    have pd : pdf tx L p i ≤ 9 := by unfold pdf; omega
    have lastle : (if i = 0 then 0 else pdf tx L p (i - 1)) ≤ 9 := by
      by_cases c : i = 0
      · rw [if_pos c]; omega
      · rw [if_neg c]
        have := isD_iff.mp (w5 (sk tx L p + (i - 1)) (by omega) (by omega)).2
        unfold pdf; omega
    rw [nI_leI (by omega) (by omega)]
    refine ⟨fun hle => hn (fun h => ?_), fun hgt => ⟨am 0, hL.r 0, hL.k 0, hL.i 0 (p := 9680) (by decide), ?_⟩⟩
    · have g := (h.1 e3).1
      by_cases c : i = 0
      · subst c
        rw [if_pos rfl] at hle
        have := (g 0 (by omega)).1
        omega
      · rw [if_neg c] at hle
        have := (g (i - 1) (by omega)).2 (by omega)
        rw [show i - 1 + 1 = i by omega] at this
        omega
    · rw [h96, nI_leI (by omega) (by omega)]
      refine ⟨fun hle v21 e21 v22 e22 => ⟨nx tx L p - sk tx L p - (i + 1), by omega, i + 1, by omega, rfl, by rw [e22, show sk tx L p + (i + 1) = sk tx L p + i + 1 by omega]; exact nI_1 _, gi.s ?_ (fun y => ?_), fun _ => by rw [show i + 1 - 1 = i by omega]; exact hle, by rw [if_neg (by omega), show i + 1 - 1 = i by omega], fun q hq => ?_⟩, fun hgt2 => hn (fun h => ?_)⟩
      · by_cases c : i = 0
        · rw [if_pos c] at hgt; omega
        · rw [if_neg c] at hgt; omega
      · rw [if_neg (by omega)] at hgt; omega
      · have p1 : 1 ≤ pdf tx L p i := by omega
        rw [e21, sub1 p1, tb3 (by omega) hq, bi q hq]
        show _ = (pst (pdf tx L p) i q || decide (pdf tx L p i = q + 1))
        congr 1
        by_cases c2 : q = pdf tx L p i - 1
        · rw [decide_eq_true c2, decide_eq_true (by omega)]
        · rw [decide_eq_false c2, decide_eq_false (by omega)]
      · obtain ⟨g1, g2⟩ := h.1 e3
        have := g1.le (nx tx L p - sk tx L p - 1 - i) i (by omega)
        rw [show i + (nx tx L p - sk tx L p - 1 - i) = nx tx L p - sk tx L p - 1 by omega] at this
        omega
  · have pe : pss tx L p = fun _ => false := by unfold pss; rw [if_neg e3]
    refine ⟨fun _ x1 _ x3 => x1 = 0 ∧ x3 = nI (sk tx L p), ⟨0, rfl, rfl⟩, ?_⟩
    rintro t x1 x2 x3 ⟨rfl, rfl⟩
    refine ⟨True, fun _ => fin 0 (fun y => absurd y e3) (fun q _ => by rw [pe]; exact b_0 q), fun _ => trivial, fun _ => ⟨fun _ => trivial, fun y => ?_⟩⟩
    rw [t12] at y
    exact absurd ((mtc_3 t17).mp y) e3
theorem msk_ne {g : Nat → Bool} {n : Nat} (hn : n ≤ 8) : msk g n ≠ -1 := fun e => by
  have : bt (msk g n) 31 = bt (-1) 31 := by rw [e]
  rw [msk_bt _ _ (by decide), b_m1 31 (by decide), decide_eq_false (by omega), Bool.false_and] at this
  cases this
end SML
