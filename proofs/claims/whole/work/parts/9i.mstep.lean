/-! The reference's step. -/
section MS
variable {S : St} {m : Nat} {am : Nat → Nat} {tx : Nat → Nat} {L p : Nat} {B : Bk} {P : Pg} {st : Nat}
theorem TkM.c2 {F F2 : FI} (h : TkM F m tx L p) (hk : ∀ j, j ≠ 21 → F2 m j = F m j) : TkM F2 m tx L p := by
  obtain ⟨a, b, c, d, e⟩ := h
  exact ⟨by rw [hk 13 (by decide)]; exact a, by rw [hk 14 (by decide)]; exact b, by rw [hk 12 (by decide)]; exact c, fun y => by rw [hk 15 (by decide)]; exact d y, fun y => by rw [hk 15 (by decide)]; exact e y⟩
theorem rTs_bad {o : Option Nat} {q : Nat} {s' : Sg} (hn : ¬ isT (tk tx L p)) (h16 : tk tx L p = 16 → dep P = 0) (h : rTs B tx L (p, P, st) o q s') : o = some (mis tx L p) ∧ q = p := by
  rcases h with ⟨y, ⟨-, h⟩ | ⟨z, -⟩⟩ | ⟨y, -⟩ | ⟨y, -⟩ | ⟨y, -⟩ | ⟨y, -⟩ | ⟨y, -⟩ | ⟨-, c, i, hc, y, -⟩ | ⟨-, -, h⟩
  · exact h
  · exact absurd (h16 y) z
  · exact absurd y hn
  · exact absurd (Or.inr (Or.inr (Or.inr (Or.inr (Or.inl y))))) hn
  · exact absurd (Or.inr (Or.inr (Or.inr (Or.inr (Or.inl y))))) hn
  · exact absurd (Or.inr (Or.inr (Or.inr (Or.inr (Or.inr y))))) hn
  · exact absurd (Or.inr (Or.inr (Or.inr (Or.inl y)))) hn
  · have y' : tk tx L p = 6 + cmi c := y
    rw [y'] at hn
    exact absurd (cmi_tk (by rcases hc with z | z | z <;> omega)) hn
  · exact h
theorem rTs_6 {o : Option Nat} {q : Nat} {s' : Sg} (hI : isT (tk tx L p)) (h30 : 30 ≤ st) (h : rTs B tx L (p, P, st) o q s') : o = some 6 ∧ q = p := by
  have n16 : tk tx L p ≠ 16 := by unfold isT at hI; omega
  rcases h with ⟨y, -⟩ | ⟨-, -, h⟩ | ⟨-, y, -⟩ | ⟨-, y, -⟩ | ⟨-, y, -⟩ | ⟨-, y, -⟩ | ⟨y, -⟩ | ⟨-, y, -⟩
  · exact absurd y n16
  · exact h
  · have y' : st < 30 := y; omega
  · have y' : st < 30 := y; omega
  · have y' : st < 30 := y; omega
  · have y' : st < 30 := y; omega
  · have y' : st < 30 := y; omega
  · exact absurd hI y
theorem rTs_7 {o : Option Nat} {q : Nat} {s' : Sg} (h15 : tk tx L p = 15) (h30 : st < 30) (hd : 3 ≤ dep P) (h : rTs B tx L (p, P, st) o q s') : o = some 7 ∧ q = p := by
  rcases h with ⟨y, -⟩ | ⟨-, y, -⟩ | ⟨-, -, -, h⟩ | ⟨-, -, y, -⟩ | ⟨y, -⟩ | ⟨y, -⟩ | ⟨-, c, i, hc, y, -⟩ | ⟨-, y, -⟩
  · have y' : tk tx L p = 16 := y; omega
  · have y' : 30 ≤ st := y; omega
  · exact h
  · have y' : dep P < 3 := y; omega
  · have y' : tk tx L p = 17 := y; omega
  · have y' : tk tx L p = 14 := y; omega
  · have y' : tk tx L p = 6 + cmi c := y
    rw [h15] at y'
    rcases hc with rfl | rfl | rfl <;> cases y'
  · exact absurd (Or.inr (Or.inr (Or.inr (Or.inr (Or.inl h15))))) y
theorem rTs_16 {o : Option Nat} {q : Nat} {s' : Sg} (h16 : tk tx L p = 16) (hd : dep P ≠ 0) (h : rTs B tx L (p, P, st) o q s') : rSG tx L (nx tx L p) o q ∧ s' = (q, addP P 10 0 0, st) := by
  rcases h with ⟨-, ⟨y, -⟩ | ⟨-, h⟩⟩ | ⟨y, -⟩ | ⟨y, -⟩ | ⟨y, -⟩ | ⟨y, -⟩ | ⟨y, -⟩ | ⟨-, c, i, hc, y, -⟩ | ⟨y, -⟩
  · exact absurd y hd
  · exact h
  · have y' : isT (tk tx L p) := y
    unfold isT at y'; omega
  · have y' : tk tx L p = 15 := y; omega
  · have y' : tk tx L p = 15 := y; omega
  · have y' : tk tx L p = 17 := y; omega
  · have y' : tk tx L p = 14 := y; omega
  · have y' : tk tx L p = 6 + cmi c := y
    rw [h16] at y'
    rcases hc with rfl | rfl | rfl <;> cases y'
  · exact absurd h16 y
theorem rTs_15 {o : Option Nat} {q : Nat} {s' : Sg} (h15 : tk tx L p = 15) (h30 : st < 30) (hd : dep P < 3) (h : rTs B tx L (p, P, st) o q s') : thn (rNU tx L 1 99 (nx tx L p)) (rSG tx L) o q ∧ s' = (q, addP P 9 0 (vl' tx L (nx tx L p)), st + 1) := by
  rcases h with ⟨y, -⟩ | ⟨-, y, -⟩ | ⟨-, -, y, -⟩ | ⟨-, -, -, h⟩ | ⟨y, -⟩ | ⟨y, -⟩ | ⟨-, c, i, hc, y, -⟩ | ⟨-, y, -⟩
  · have y' : tk tx L p = 16 := y; omega
  · have y' : 30 ≤ st := y; omega
  · have y' : 3 ≤ dep P := y; omega
  · exact h
  · have y' : tk tx L p = 17 := y; omega
  · have y' : tk tx L p = 14 := y; omega
  · have y' : tk tx L p = 6 + cmi c := y
    rw [h15] at y'
    rcases hc with rfl | rfl | rfl <;> cases y'
  · exact absurd (Or.inr (Or.inr (Or.inr (Or.inr (Or.inl h15))))) y
theorem rTs_17 {o : Option Nat} {q : Nat} {s' : Sg} (h17 : tk tx L p = 17) (h30 : st < 30) (h : rTs B tx L (p, P, st) o q s') : rSG tx L (nx tx L p) o q ∧ s' = (q, addP P 11 0 0, st + 1) := by
  rcases h with ⟨y, -⟩ | ⟨-, y, -⟩ | ⟨y, -⟩ | ⟨y, -⟩ | ⟨-, -, h⟩ | ⟨y, -⟩ | ⟨-, c, i, hc, y, -⟩ | ⟨-, y, -⟩
  · have y' : tk tx L p = 16 := y; omega
  · have y' : 30 ≤ st := y; omega
  · have y' : tk tx L p = 15 := y; omega
  · have y' : tk tx L p = 15 := y; omega
  · exact h
  · have y' : tk tx L p = 14 := y; omega
  · have y' : tk tx L p = 6 + cmi c := y
    rw [h17] at y'
    rcases hc with rfl | rfl | rfl <;> cases y'
  · exact absurd (Or.inr (Or.inr (Or.inr (Or.inr (Or.inr h17))))) y
theorem rTs_14 {o : Option Nat} {q : Nat} {s' : Sg} (h14 : tk tx L p = 14) (h30 : st < 30) (h : rTs B tx L (p, P, st) o q s') : ∃ i, thn (rMN B i tx L (nx tx L p)) (fun q1 => thn (rNU tx L 1 (bl B i) q1) (rSG tx L)) o q ∧ s' = (q, addP P 8 i (vl' tx L (nx tx L (nx tx L p))), st + 1) := by
  rcases h with ⟨y, -⟩ | ⟨-, y, -⟩ | ⟨y, -⟩ | ⟨y, -⟩ | ⟨y, -⟩ | ⟨-, -, h⟩ | ⟨-, c, i, hc, y, -⟩ | ⟨-, y, -⟩
  · have y' : tk tx L p = 16 := y; omega
  · have y' : 30 ≤ st := y; omega
  · have y' : tk tx L p = 15 := y; omega
  · have y' : tk tx L p = 15 := y; omega
  · have y' : tk tx L p = 17 := y; omega
  · exact h
  · have y' : tk tx L p = 6 + cmi c := y
    rw [h14] at y'
    rcases hc with rfl | rfl | rfl <;> cases y'
  · exact absurd (Or.inr (Or.inr (Or.inr (Or.inl h14)))) y
theorem cmi_in {a b : Nat} (ha : a ≤ 11) (hb : b ≤ 11) (h : 6 + cmi a = 6 + cmi b) : a = b := (cmi_eq ha hb).mp (by rw [h])
theorem rTs_ld {c : Nat} {o : Option Nat} {q : Nat} {s' : Sg} (hc : c = 5 ∨ c = 6 ∨ c = 7) (ht : tk tx L p = 6 + cmi c) (h30 : st < 30) (h : rTs B tx L (p, P, st) o q s') : ∃ i, thn (rMN B i tx L (nx tx L p)) (rSG tx L) o q ∧ s' = (q, addP P c i 0, st + 1) := by
  have hI : isT (tk tx L p) := by rw [ht]; exact cmi_tk (by omega)
  have t4 : tk tx L p = 10 ∨ tk tx L p = 11 ∨ tk tx L p = 13 := by
    rw [ht]
    rcases hc with rfl | rfl | rfl
    · exact Or.inl rfl
    · exact Or.inr (Or.inl rfl)
    · exact Or.inr (Or.inr rfl)
  rcases h with ⟨y, -⟩ | ⟨-, y, -⟩ | ⟨y, -⟩ | ⟨y, -⟩ | ⟨y, -⟩ | ⟨y, -⟩ | ⟨-, c', i, hc', y, h⟩ | ⟨-, y, -⟩
  · have y' : tk tx L p = 16 := y; omega
  · have y' : 30 ≤ st := y; omega
  · have y' : tk tx L p = 15 := y; omega
  · have y' : tk tx L p = 15 := y; omega
  · have y' : tk tx L p = 17 := y; omega
  · have y' : tk tx L p = 14 := y; omega
  · have y' : tk tx L p = 6 + cmi c' := y
    have e : c = c' := cmi_in (by omega) (by omega) (ht.symm.trans y')
    rw [e]; exact ⟨i, h⟩
  · exact absurd hI y
theorem sm_step {Q : Int32 → FI → Prop} {o : Option Nat} {q : Nat} {s' : Sg} (hL : LM S m am) (hX : TxM (gI S) m am tx L) (hT : TkM (gI S) m tx L p) (hp : p ≤ L) (h18 : gI S m 18 = 0) (hb : bok B) (hB : BM B (gI S (am 0))) (hN : ∀ i, i < bM B → nmq (bnm B i) (gJ S (am 1) i)) (hR : RdS (gI S) m am P st) (hO : OkT B P st) (ne1 : tk tx L p ≠ 1) (hr : rTs B tx L (p, P, st) o q s')
    (hy : o = none → ∀ F, MtF m am (gI S) F → F m 18 = 0 → F m 17 = gI S m 17 → q ≤ L → p < q → TkM F m tx L q → RdS F m am s'.2.1 s'.2.2 → OkT B s'.2.1 s'.2.2 → Q 1 F)
    (hf : ∀ f F, o = some f → MtF m am (gI S) F → F m 18 = nI f → F m 17 = nI (sk tx L q) → Q 0 F) : P_X12_step m S Q := by
  have t17 := tk_17 (tx := tx) (L := L) p
  have nl := nx_le (tx := tx) hp
  have pn := nl.2.2.2.1 ne1
  obtain ⟨rP, r22, r21, rO⟩ := hR
  obtain ⟨o1, o2, o3, o4⟩ := id hO
  have d3 : dep P ≤ 3 := o3 _ (Nat.le_refl _)
  have r4 : gI S (am 0) 9684 = nI (pgK P) := rP.1
  have mo : m ≠ am 0 := Ne.symm (hL.o 0)
  have m20 : m ≠ am 20 := Ne.symm (hL.o 20)
  have n020 : am 0 ≠ am 20 := hL.n (by decide)
  obtain ⟨hn4, hn8, hM4, -⟩ := id hb
  refine ⟨hL.z, sm_inWords hL hX hT ⟨am 0, hL.r 0, hL.k 0, hL.i 0 (p := 9684) (by decide), fun v5 e5 v6 e6 => ?_⟩⟩
  obtain rfl : v5 = nI (pgK P) := by rw [e5]; exact r4
  obtain rfl : v6 = nI (9850 + 4 * pgK P) := by
    rw [e6, show (9850 : Int32) = nI 9850 from rfl, show (4 : Int32) = nI 4 from rfl, mulN, nI_add]
  have w5 : mki (tk tx L p) = 5 ↔ tk tx L p = 10 := mki_eq t17 (c := 5) (by decide)
  have w6 : mki (tk tx L p) = 6 ↔ tk tx L p = 11 := mki_eq t17 (c := 6) (by decide)
  have w7 : mki (tk tx L p) = 7 ↔ tk tx L p = 13 := mki_eq t17 (c := 7) (by decide)
  have w8 : mki (tk tx L p) = 8 ↔ tk tx L p = 14 := mki_eq t17 (c := 8) (by decide)
  have w9 : mki (tk tx L p) = 9 ↔ tk tx L p = 15 := mki_eq t17 (c := 9) (by decide)
  have w10 : mki (tk tx L p) = 10 ↔ tk tx L p = 16 := mki_eq t17 (c := 10) (by decide)
  have w11 : mki (tk tx L p) = 11 ↔ tk tx L p = 17 := mki_eq t17 (c := 11) (by decide)
  rw [w5, w6, w7, w8, w9, w10, w11]
  -- faults at the step's own word
  have flt : ∀ kn, 2 ≤ kn → o = some (if tk tx L p = 0 then 1 else kn) ∧ q = p → P_X12_fails m (nI kn) S (fun r F => (r = 0 ∨ r = 1) ∧ Q r F) := fun kn h2 ho => sm_fails hL hT h18 (fun F fl => ⟨Or.inl rfl, hf _ F ho.1 (MtF.fl hL fl) fl.2.2.1 (by rw [ho.2]; exact fl.2.2.2)⟩)
  have z0 : isT (tk tx L p) → tk tx L p ≠ 0 := fun y => by unfold isT at y; omega
  refine ⟨fun t => (t = 1 ∧ (tk tx L p = 10 ∨ tk tx L p = 11 ∨ tk tx L p = 13 ∨ tk tx L p = 14)) ∨ (t = 0 ∧ ¬ (tk tx L p = 10 ∨ tk tx L p = 11 ∨ tk tx L p = 13 ∨ tk tx L p = 14)), ?_, fun y => Or.inl ⟨rfl, by omega⟩, fun y1 => ⟨fun y => Or.inl ⟨rfl, by omega⟩, fun y2 => ⟨fun y => Or.inl ⟨rfl, by omega⟩, fun y3 => ⟨fun y => Or.inr ⟨rfl, by omega⟩, fun y => Or.inl ⟨rfl, by omega⟩⟩⟩⟩⟩
  intro t9 h9
  have t9z : t9 = 0 ↔ ¬ (tk tx L p = 10 ∨ tk tx L p = 11 ∨ tk tx L p = 13 ∨ tk tx L p = 14) := by
    rcases h9 with ⟨rfl, h⟩ | ⟨rfl, h⟩
    · exact ⟨fun y => absurd y one0, fun y => absurd h y⟩
    · exact ⟨fun _ => h, fun _ => rfl⟩
  rw [t9z]
  refine ⟨isT (tk tx L p) ∨ (tk tx L p = 16 ∧ dep P ≠ 0), ?_, fun y => Or.inl (by unfold isT; omega), fun y => ⟨fun y9 => Or.inl (by unfold isT; omega), fun n9 => ⟨fun y11 => Or.inl (by unfold isT; omega), fun n11 => ⟨¬ isT (tk tx L p) ∧ (tk tx L p = 16 → dep P = 0), fun hb75 => ?_, fun n10 => ⟨by unfold isT; omega, fun z => absurd z n10⟩, fun y10 => ⟨fun yd => Or.inr ⟨y10, fun z => yd (by rw [r21, z]; rfl)⟩, fun yd => ⟨by unfold isT; omega, fun _ => (nI_z (by omega)).mp (by rw [← r21]; exact yd)⟩⟩⟩⟩⟩⟩
  case refine_2 => exact flt 2 (by decide) (by have := rTs_bad hb75.1 hb75.2 hr; exact this)
  intro h11
  refine ⟨tk tx L p = 16 ∨ st < 30, ?_, fun y => Or.inl y, fun n10 => ⟨fun y30 => Or.inr ?_, fun y30 => ?_⟩⟩
  case refine_2 =>
    rcases Nat.lt_or_ge st 30 with z | z
    · exact z
    · exact absurd (show gI S m 22 = 30 by rw [r22, show st = 30 by omega]; rfl) y30
  case refine_3 =>
    have hI : isT (tk tx L p) := by
      rcases h11 with y | ⟨y, -⟩
      · exact y
      · exact absurd y n10
    have s30 : st = 30 := (nI_eq (by omega) (by decide)).mp (r22.symm.trans y30)
    have h6 := rTs_6 hI (by omega) hr
    exact flt 6 (by decide) ⟨by rw [if_neg (z0 hI)]; exact h6.1, h6.2⟩
  intro h13
  refine ⟨tk tx L p = 15 → dep P < 3, ?_, fun n9 y => absurd y n9, fun y9 => ⟨fun yd _ => ?_, fun yd => ?_⟩⟩
  case refine_2 =>
    rcases Nat.lt_or_ge (dep P) 3 with z | z
    · exact z
    · exact absurd (show gI S m 21 = 3 by rw [r21, show dep P = 3 by omega]; rfl) yd
  case refine_3 =>
    have s3 : dep P = 3 := (nI_eq (by omega) (by decide)).mp (r21.symm.trans yd)
    have h7 := rTs_7 y9 (by omega) (by omega) hr
    exact flt 7 (by decide) ⟨by rw [if_neg (by omega)]; exact h7.1, h7.2⟩
  intro h15
  have K60 : pgK P < 60 := by
    rcases h13 with y | y
    · rcases h11 with z | ⟨-, z⟩
      · unfold isT at z; omega
      · omega
    · omega
  -- the word's number
  obtain ⟨c, c11, c5, hct⟩ : ∃ c, c ≤ 11 ∧ 5 ≤ c ∧ tk tx L p = 6 + cmi c := by
    rcases h11 with y | ⟨y, -⟩
    · obtain ⟨c, hc, e⟩ := isT_c y
      exact ⟨c, by omega, by omega, e⟩
    · exact ⟨10, by decide, by decide, y⟩
  have mkc : mki (tk tx L p) = nI c := (mki_eq t17 (by omega)).mpr hct
  have c10i : tk tx L p = 16 ↔ c = 10 := by rw [hct]; exact ⟨fun y => cmi_in c11 (b := 10) (by decide) y, fun y => by rw [y]; rfl⟩
  have c9i : tk tx L p = 15 ↔ c = 9 := by rw [hct]; exact ⟨fun y => cmi_in c11 (b := 9) (by decide) y, fun y => by rw [y]; rfl⟩
  have c8i : tk tx L p = 14 ↔ c = 8 := by rw [hct]; exact ⟨fun y => cmi_in c11 (b := 8) (by decide) y, fun y => by rw [y]; rfl⟩
  have c11i : tk tx L p = 17 ↔ c = 11 := by rw [hct]; exact ⟨fun y => cmi_in c11 (b := 11) (by decide) y, fun y => by rw [y]; rfl⟩
  have ldi : (tk tx L p = 10 ∨ tk tx L p = 11 ∨ tk tx L p = 13 ∨ tk tx L p = 14) ↔ c ≤ 8 := by
    have : ∀ c, c < 12 → 5 ≤ c → ((6 + cmi c = 10 ∨ 6 + cmi c = 11 ∨ 6 + cmi c = 13 ∨ 6 + cmi c = 14) ↔ c ≤ 8) := by decide
    rw [hct]; exact this c (by omega) c5
  have st30 : c ≠ 10 → st < 30 := fun y => by
    rcases h13 with z | z
    · exact absurd (c10i.mp z) y
    · exact z
  have dep0 : c = 10 → dep P ≠ 0 := fun y => by
    rcases h11 with z | ⟨-, z⟩
    · have := c10i.mpr y
      unfold isT at z; omega
    · exact z
  have dep3 : c = 9 → dep P < 3 := fun y => h15 (c9i.mpr y)
  rw [ldi, c10i, c9i, c8i, mkc]
  refine ⟨fun t => t = nI (if c = 10 then 0 else 1), ?_, fun n10 => by rw [if_neg n10]; rfl, fun y10 => by rw [if_pos y10]; rfl⟩
  rintro _ rfl v19 e19 F20 e20
  obtain ⟨s1, hs1⟩ : ∃ s1, s1 = st + (if c = 10 then 0 else 1) := ⟨_, rfl⟩
  have v19' : v19 = nI s1 := by rw [e19, r22, nI_add, hs1]
  refine ⟨hL.i 0 (by show 9850 + 4 * pgK P < 12100; omega), fun F22 e22 => ?_⟩
  rw [nI_clamp (by omega)] at e22
  refine ⟨fun u x F => ∃ j, 1 ≤ j ∧ j ≤ 4 ∧ u = 4 - j ∧ x = nI j ∧ On (am 0) F22 F ∧ ∀ i, F (am 0) i = if 9850 + 4 * pgK P + 1 ≤ i ∧ i < 9850 + 4 * pgK P + j then 0 else F22 (am 0) i, ⟨3, 1, by decide, by decide, rfl, rfl, On.rf, fun i => by rw [if_neg (by omega)]⟩, ?_⟩
  rintro u x F25 ⟨j, hj1, hj4, rfl, rfl, oF, hF⟩
  refine ⟨fun y => ?_, fun y => ?_⟩
  case refine_2 =>
    have hlt : j < 4 := nI_gtI (n := 4) (by decide) (by omega) y
    rw [nI_add]
    refine ⟨hL.i 0 (by show 9850 + 4 * pgK P + j < 12100; omega), fun F66 e66 v67 e67 => ?_⟩
    rw [nI_clamp (by omega)] at e66
    refine ⟨4 - (j + 1), by omega, j + 1, by omega, by omega, rfl, by rw [e67]; exact nI_1 j, by rw [e66]; exact oF.tr On.up, fun i => ?_⟩
    rw [e66]
    by_cases ci : i = 9850 + 4 * pgK P + j
    · rw [ci, up_at, if_pos (by omega)]
    · rw [up_no ci, hF]
      by_cases cr : 9850 + 4 * pgK P + 1 ≤ i ∧ i < 9850 + 4 * pgK P + j
      · rw [if_pos cr, if_pos (by omega)]
      · rw [if_neg cr, if_neg (by omega)]
  have j4 : j = 4 := by
    have : 4 ≤ j := (nI_leI (a := 4) (by decide) (by omega)).mp y
    omega
  subst j4
  intro v27 e27 F28 e28
  have a22 : ∀ i, F22 (am 0) i = if i = 9850 + 4 * pgK P then nI c else gI S (am 0) i := fun i => by
    rw [e22]
    by_cases ci : i = 9850 + 4 * pgK P
    · rw [ci, up_at, if_pos rfl]
    · rw [up_no ci, if_neg ci, e20, up_ne (hL.o 0)]
  have a25 : F25 (am 0) 9684 = nI (pgK P) := by rw [hF, if_neg (by omega), a22, if_neg (by omega)]; exact r4
  have v27' : v27 = nI (pgK P + 1) := by rw [e27, a25, nI_1]
  have on28 : ∀ a, a ≠ m → a ≠ am 0 → F28 a = gI S a := fun a y1 y2 => by rw [e28, up_ne y2, oF a y2, e22, up_ne y2, e20, up_ne y1]
  have m28 : ∀ j, j ≠ 22 → F28 m j = gI S m j := fun j hj => by rw [e28, up_ne mo, oF m mo, e22, up_ne mo, e20, up_no hj]
  have a28 : ∀ i, i ≠ 9684 → F28 (am 0) i = if 9850 + 4 * pgK P + 1 ≤ i ∧ i < 9850 + 4 * pgK P + 4 then 0 else if i = 9850 + 4 * pgK P then nI c else gI S (am 0) i := fun i hi => by rw [e28, up_no hi, hF, a22]
  have ed28 : EdM m am (pgK P) (gI S) F28 (nI c) (nI 0) (nI 0) (nI 0) (nI s1) (nI (dep P)) := by
    refine ⟨⟨fun a y1 y2 _ => on28 a y1 y2, fun j _ _ _ _ _ _ _ y8 => m28 j y8, fun k hk => by rw [a28 k (by omega), if_neg (by omega), if_neg (by omega)]⟩, ?_, ?_, ?_, ?_, ?_, fun i hi => ?_, ?_, ?_, ?_, ?_⟩
    · rw [m28 18 (by decide)]; exact h18
    · rw [m28 17 (by decide)]
    · rw [e28, up_ne mo, oF m mo, e22, up_ne mo, e20, up_at]; exact v19'
    · rw [m28 21 (by decide)]; exact r21
    · rw [e28, up_at]; exact v27'
    · rw [a28 _ (by omega), if_neg (by omega), if_neg (by omega)]
    · rw [a28 _ (by omega), if_neg (by omega), if_pos rfl]
    · rw [a28 _ (by omega), if_pos (by omega)]; rfl
    · rw [a28 _ (by omega), if_pos (by omega)]; rfl
    · rw [a28 _ (by omega), if_pos (by omega)]; rfl
  have X28 : TxM F28 m am tx L := hX.mt hL ed28.1
  refine sm_ahead (S := wI S F28) (p := nx tx L p) hL X28 (by show F28 m 14 = _; rw [m28 14 (by decide)]; exact hT.2.1) nl.2.2.1 (fun F29 af29 t29 => ?_)
  have af29' : AhF m F28 F29 := af29
  have ed29 := ed28.ah hL af29'
  have o29 : F29 (am 20) = gI S (am 20) := by rw [af29'.1 _ (hL.o 20), on28 _ (hL.o 20) (Ne.symm n020)]
  have X29 : TxM F29 m am tx L := hX.mt hL ed29.1
  have nlq := nx_le (tx := tx) nl.2.2.1
  -- a fault behind the step's word
  have bad : ∀ f F G q', MtF m am (gI S) G → (∃ kn, FlM m tx L q' kn G F) → F m 18 = nI f → F m 17 = nI (sk tx L q') → o = some f → q = q' → Q 0 F := fun f F G q' mt ⟨kn, fl⟩ x18 x17 ho hq => hf f F ho (mt.tr (MtF.fl hL fl)) x18 (by rw [hq]; exact x17)
  -- the sign behind
  have sgn : ∀ F q3 P' st', TkM F m tx L q3 → q3 ≤ L → p < q3 → MtF m am (gI S) F → F m 18 = 0 → F m 17 = gI S m 17 → RdS F m am P' st' → OkT B P' st' → rSG tx L q3 o q → s' = (q, P', st') → P_X12_wantSign m 59 (wI S F) (fun r F => (r = 0 ∨ r = 1) ∧ Q r F) := fun F q3 P' st' t q3L pq3 mt f18 f17 rd ok hsg hs => by
    have nl3 := nx_le (tx := tx) q3L
    refine sm_wantSign (S := wI S F) hL (hX.mt hL mt) t q3L f18 hsg (fun ho qe ne F2 af t2 => ⟨Or.inr rfl, ?_⟩) (fun f ho F2 fl x18 x17 => ⟨Or.inl rfl, ?_⟩)
    · have af' : AhF m F F2 := af
      have a0 : F2 (am 0) = F (am 0) := af'.1 _ (hL.o 0)
      have a20 : F2 (am 20) = F (am 20) := af'.1 _ (hL.o 20)
      refine hy ho F2 (mt.tr (MtF.ah hL af')) ?_ ?_ (by rw [qe]; exact nl3.2.2.1) (by rw [qe]; omega) t2 ?_ (by rw [hs]; exact ok)
      · rw [af'.2 18 (by decide) (by decide) (by decide) (by decide)]; exact f18
      · rw [af'.2 17 (by decide) (by decide) (by decide) (by decide)]; exact f17
      · rw [hs]
        show RdS F2 m am P' st'
        unfold RdS at rd ⊢
        rw [a0, a20, af'.2 22 (by decide) (by decide) (by decide) (by decide), af'.2 21 (by decide) (by decide) (by decide) (by decide)]
        exact rd
    · exact bad f F2 F q mt fl x18 x17 ho rfl
  have hB29 : ∀ k, k < 9680 → F29 (am 0) k = gI S (am 0) k := ed29.1.2.2
  rcases Nat.lt_or_ge 8 c with hc8 | hc8
  · -- no lead
    refine ⟨fun F => F29 = F, ?_, fun _ => rfl, fun y => absurd (show ¬ c ≤ 8 by omega) y⟩
    rintro _ rfl
    refine ⟨fun F => F29 = F, ?_, fun _ => rfl, fun y => by omega⟩
    rintro _ rfl
    by_cases c9 : c = 9
    · -- a loop
      subst c9
      have d2 := dep3 rfl
      have s30 := st30 (by decide)
      obtain ⟨hth, hs'⟩ := rTs_15 (c9i.mpr rfl) s30 d2 hr
      obtain ⟨o1', q1, hnu, hc1⟩ := hth
      have s1e : s1 = st + 1 := by rw [hs1, if_neg (by decide)]
      refine ⟨fun F => ∃ q3 P' st', TkM F m tx L q3 ∧ q3 ≤ L ∧ p < q3 ∧ MtF m am (gI S) F ∧ F m 18 = 0 ∧ F m 17 = gI S m 17 ∧ RdS F m am P' st' ∧ OkT B P' st' ∧ rSG tx L q3 o q ∧ s' = (q, P', st'), ?_, fun y => absurd rfl y, fun _ => ?_⟩
      · rintro F38 ⟨q3, P', st', h⟩
        refine ⟨fun F => F38 = F, ?_, fun _ => rfl, fun y => by omega⟩
        rintro _ rfl
        obtain ⟨h1, h2, h3, h4, h5, h6, h7, h8, h9', h10⟩ := h
        exact sgn F38 q3 P' st' h1 h2 h3 h4 h5 h6 h7 h8 h9' h10
      · rw [show (2 : Int32) = nI 2 from rfl, nI_add]
        refine sm_numberTo (S := wI S F29) (to := 9850 + 4 * pgK P + 2) (lo := 1) (hi := 99) hL X29 t29 nl.2.2.1 ed29.2.1 (by omega) (by decide) (by decide) hnu (fun ho1 qe e3 v1 v9 F51 fa51 fm51 f051 t51 => ⟨fun _ => ?_, fun y => absurd y one0⟩) (fun f ho1 F fl x18 x17 => ⟨fun y => absurd rfl y, fun _ => ?_⟩)
        case refine_2 =>
          obtain ⟨y1, y2⟩ := thn_some hc1 ho1
          exact bad f F F29 q1 ed29.1 fl x18 x17 y1 y2
        have hsg := thn_none hc1 ho1
        have ed51 : EdM m am (pgK P) (gI S) F51 (nI 9) (nI 0) (nI (vl' tx L (nx tx L p))) (nI 0) (nI s1) (nI (dep P)) := EdM.set hL (j := 2) (by decide) (by decide) ed29 fa51 fm51 f051
        have o51 : F51 (am 20) = gI S (am 20) := by rw [fa51 _ (hL.o 20) (Ne.symm n020)]; exact o29
        obtain ⟨g1, g2, g3, g4, g5, g6, g7, g8, g9, g10, g11⟩ := id ed51
        refine ⟨am 20, hL.r 20, hL.k 20, ?_, fun F56 e56 v57 e57 F58 e58 => ?_⟩
        · rw [g5]; exact hL.i 20 (by show dep P < 3; omega)
        · rw [g5, nI_clamp (by omega)] at e56
          have f56 : F56 m 21 = nI (dep P) := by rw [e56, up_ne m20]; exact g5
          rw [f56, nI_1] at e57
          have on58 : ∀ a, a ≠ m → a ≠ am 20 → F58 a = F51 a := fun a y1 y2 => by rw [e58, up_ne y1, e56, up_ne y2]
          have m58 : ∀ j, j ≠ 21 → F58 m j = F51 m j := fun j hj => by rw [e58, up_no hj, e56, up_ne m20]
          have a058 : F58 (am 0) = F51 (am 0) := on58 _ (hL.o 0) n020
          have ed58 : EdM m am (pgK P) (gI S) F58 (nI 9) (nI 0) (nI (vl' tx L (nx tx L p))) (nI 0) (nI s1) (nI (dep P + 1)) := by
            refine ⟨⟨fun a y1 y2 y3 => by rw [on58 a y1 y3]; exact g1.1 a y1 y2 y3, fun j y1 y2 y3 y4 y5 y6 y7 y8 => by rw [m58 j y7]; exact g1.2.1 j y1 y2 y3 y4 y5 y6 y7 y8, fun k hk => by rw [a058]; exact g1.2.2 k hk⟩, ?_, ?_, ?_, ?_, ?_, ?_, ?_, ?_, ?_, ?_⟩
            · rw [m58 18 (by decide)]; exact g2
            · rw [m58 17 (by decide)]; exact g3
            · rw [m58 22 (by decide)]; exact g4
            · rw [e58, up_at]; exact e57
            · rw [a058]; exact g6
            · rw [a058]; exact g7
            · rw [a058]; exact g8
            · rw [a058]; exact g9
            · rw [a058]; exact g10
            · rw [a058]; exact g11
          have rd58 : RdS F58 m am (addP P 9 0 (vl' tx L (nx tx L p))) s1 := RdS.of rP ed58 (dep_9 P 0 _).symm (fun y => by cases y) (by
            rw [nst_add9]
            refine ⟨?_, rO.cg (fun j hj => ?_)⟩
            · rw [e58, up_ne (hL.o 20), e56]; exact up_at
            · have hj' : j < dep P := hj
              rw [e58, up_ne (hL.o 20), e56, up_no (by omega), o51])
          refine ⟨q1, addP P 9 0 (vl' tx L (nx tx L p)), s1, t51.c2 m58, by rw [qe]; exact nlq.2.2.1, by rw [qe]; omega, ed58.1, ed58.2.1, ed58.2.2.1, rd58, hO.add (by omega) (by rw [dep_9]; omega) (by rw [dep_9]; omega) (Or.inr (Or.inr (Or.inl ⟨add_k P 9 0 _, ?_, ?_⟩))), hsg, by rw [s1e]; exact hs'⟩
          · show 1 ≤ setg (pgc P) (pgK P) _ (pgK P)
            rw [setg_at]; exact v1
          · show setg (pgc P) (pgK P) _ (pgK P) ≤ 99
            rw [setg_at]; exact v9
    · refine ⟨fun F => F29 = F, ?_, fun _ => rfl, fun y => absurd y c9⟩
      rintro _ rfl
      by_cases c10 : c = 10
      · subst c10
        obtain ⟨hsg, hs'⟩ := rTs_16 (c10i.mpr rfl) (dep0 rfl) hr
        have s1e : s1 = st := by rw [hs1, if_pos rfl]; rfl
        obtain ⟨o0, t0, hos⟩ : ∃ o0 t0, nst P (pgK P) = o0 :: t0 := by
          cases hn : nst P (pgK P) with
          | nil => exact absurd (show dep P = 0 by unfold dep; rw [hn]; rfl) (dep0 rfl)
          | cons o0 t0 => exact ⟨o0, t0, rfl⟩
        have dt : dep P = t0.length + 1 := by unfold dep; rw [hos]; rfl
        refine ⟨fun F => ∃ q3 P' st', TkM F m tx L q3 ∧ q3 ≤ L ∧ p < q3 ∧ MtF m am (gI S) F ∧ F m 18 = 0 ∧ F m 17 = gI S m 17 ∧ RdS F m am P' st' ∧ OkT B P' st' ∧ rSG tx L q3 o q ∧ s' = (q, P', st'), ?_, fun y => absurd rfl y, fun _ v43 e43 F44 e44 => ?_⟩
        · rintro F41 ⟨q3, P', st', h1, h2, h3, h4, h5, h6, h7, h8, h9', h10⟩
          exact sgn F41 q3 P' st' h1 h2 h3 h4 h5 h6 h7 h8 h9' h10
        · obtain ⟨g1, g2, g3, g4, g5, g6, g7, g8, g9, g10, g11⟩ := id ed29
          rw [g5, dt, sub1 (by omega), show t0.length + 1 - 1 = t0.length from rfl] at e43
          have f44 : F44 m 21 = nI t0.length := by rw [e44, up_at]; exact e43
          have rO' := rO
          rw [hos] at rO'
          rw [f44, nI_clamp (by omega), show (3 : Int32) = nI 3 from rfl, nI_add]
          refine ⟨am 20, hL.r 20, hL.k 20, hL.i 20 (by show t0.length < 3; omega), hL.i 0 (by show 9850 + 4 * pgK P + 3 < 12100; omega), fun v49 e49 F50 e50 => ?_⟩
          rw [nI_clamp (by omega)] at e50
          have v49' : v49 = nI o0 := by rw [e49, e44, up_ne (hL.o 20), o29]; exact rO'.1
          have m50 : ∀ j, j ≠ 21 → F50 m j = F29 m j := fun j hj => by rw [e50, up_ne mo, e44, up_no hj]
          have a50 : ∀ i, F50 (am 0) i = if i = 9850 + 4 * pgK P + 3 then nI o0 else F29 (am 0) i := fun i => by
            rw [e50]
            by_cases ci : i = 9850 + 4 * pgK P + 3
            · rw [ci, up_at, if_pos rfl, v49']
            · rw [up_no ci, if_neg ci, e44, up_ne (hL.o 0)]
          have ed50 : EdM m am (pgK P) (gI S) F50 (nI 10) (nI 0) (nI 0) (nI o0) (nI s1) (nI t0.length) := by
            refine ⟨⟨fun a y1 y2 y3 => by rw [e50, up_ne y2, e44, up_ne y1]; exact g1.1 a y1 y2 y3, fun j y1 y2 y3 y4 y5 y6 y7 y8 => by rw [m50 j y7]; exact g1.2.1 j y1 y2 y3 y4 y5 y6 y7 y8, fun k hk => by rw [a50, if_neg (by omega)]; exact g1.2.2 k hk⟩, ?_, ?_, ?_, ?_, ?_, fun i hi => ?_, ?_, ?_, ?_, ?_⟩
            · rw [m50 18 (by decide)]; exact g2
            · rw [m50 17 (by decide)]; exact g3
            · rw [m50 22 (by decide)]; exact g4
            · rw [e50, up_ne mo]; exact f44
            · rw [a50, if_neg (by omega)]; exact g6
            · rw [a50, if_neg (by omega)]; exact g7 i hi
            · rw [a50, if_neg (by omega)]; exact g8
            · rw [a50, if_neg (by omega)]; exact g9
            · rw [a50, if_neg (by omega)]; exact g10
            · rw [a50, if_pos rfl]
          have rd50 : RdS F50 m am (addP P 10 0 0) s1 := RdS.of rP ed50 (by rw [dep_10, dt]; rfl) (fun _ => by rw [hos]; rfl) (by
            rw [nst_add10, hos]
            show Ops (F50 (am 20)) t0
            rw [show F50 (am 20) = gI S (am 20) by rw [e50, up_ne (Ne.symm n020), e44, up_ne (hL.o 20), o29]]
            exact rO'.2)
          refine ⟨nx tx L p, addP P 10 0 0, s1, t29.c2 m50, nl.2.2.1, pn, ed50.1, ed50.2.1, ed50.2.2.1, rd50, hO.add (by omega) (by rw [dep_10]; omega) (by rw [dep_10]; omega) (Or.inr (Or.inr (Or.inr (Or.inl ⟨add_k P 10 0 0, ?_⟩)))), hsg, by rw [s1e]; exact hs'⟩
          rw [nst_add P 10 0 0 _ (Nat.le_refl _), hos]
          exact List.cons_ne_nil _ _
      · have c11' : c = 11 := by omega
        subst c11'
        have s30 := st30 (by decide)
        obtain ⟨hsg, hs'⟩ := rTs_17 (c11i.mpr rfl) s30 hr
        have s1e : s1 = st + 1 := by rw [hs1, if_neg (by decide)]
        refine ⟨fun F => F29 = F, ?_, fun _ => rfl, fun y => absurd y c10⟩
        rintro _ rfl
        have rd29 : RdS F29 m am (addP P 11 0 0) s1 := RdS.of rP ed29 (dep_n P 0 0 (by decide) (by decide)).symm (fun y => by cases y) (by rw [nst_addn P 0 0 (by decide) (by decide), o29]; exact rO)
        exact sgn F29 (nx tx L p) (addP P 11 0 0) s1 t29 nl.2.2.1 pn ed29.1 ed29.2.1 ed29.2.2.1 rd29 (hO.add (by omega) (by rw [dep_n P 0 0 (by decide) (by decide)]; omega) (by rw [dep_n P 0 0 (by decide) (by decide)]; exact d3) (Or.inr (Or.inr (Or.inr (Or.inr (add_k P 11 0 0)))))) hsg (by rw [s1e]; exact hs')
  · -- a lead
    have s30 := st30 (by omega)
    have s1e : s1 = st + 1 := by rw [hs1, if_neg (by omega)]
    obtain ⟨i, o1', q1, hmn, hc1⟩ : ∃ i o1 q1, rMN B i tx L (nx tx L p) o1 q1 ∧ ((o1 = none ∧ ((c = 8 → thn (rNU tx L 1 (bl B i) q1) (rSG tx L) o q ∧ s' = (q, addP P 8 i (vl' tx L (nx tx L (nx tx L p))), st + 1)) ∧ (c ≠ 8 → rSG tx L q1 o q ∧ s' = (q, addP P c i 0, st + 1)))) ∨ ∃ f, o1 = some f ∧ o = some f ∧ q = q1) := by
      by_cases c8 : c = 8
      · obtain ⟨i, ⟨o1, q1, h1, h2⟩, h3⟩ := rTs_14 (c8i.mpr c8) s30 hr
        refine ⟨i, o1, q1, h1, ?_⟩
        rcases h2 with ⟨y, z⟩ | y
        · exact Or.inl ⟨y, fun _ => ⟨z, h3⟩, fun w => absurd c8 w⟩
        · exact Or.inr y
      · obtain ⟨i, ⟨o1, q1, h1, h2⟩, h3⟩ := rTs_ld (c := c) (by omega) hct s30 hr
        refine ⟨i, o1, q1, h1, ?_⟩
        rcases h2 with ⟨y, z⟩ | y
        · exact Or.inl ⟨y, fun w => absurd w c8, fun _ => ⟨z, h3⟩⟩
        · exact Or.inr y
    refine ⟨fun F => TkM F m tx L q1 ∧ q1 = nx tx L (nx tx L p) ∧ EdM m am (pgK P) (gI S) F (nI c) (nI i) (nI 0) (nI 0) (nI s1) (nI (dep P)) ∧ F (am 20) = gI S (am 20) ∧ i < bM B ∧ tk tx L (nx tx L p) ≠ 1 ∧ (c = 8 → thn (rNU tx L 1 (bl B i) q1) (rSG tx L) o q ∧ s' = (q, addP P 8 i (vl' tx L (nx tx L (nx tx L p))), st + 1)) ∧ (c ≠ 8 → rSG tx L q1 o q ∧ s' = (q, addP P c i 0, st + 1)), ?_, fun y => absurd hc8 y, fun _ => ?_⟩
    case refine_2 =>
      refine sm_aLead (S := wI S F29) (to := 9850 + 4 * pgK P) hL X29 t29 nl.2.2.1 ed29.2.1 hb (by show F29 (am 0) 1 = _; rw [hB29 1 (by decide)]; exact hB.2.1) hN (by omega) hmn (fun ho1 qe hib ne F63 fa fm f0 t63 => ⟨fun _ => ?_, fun y => absurd y one0⟩) (fun f ho1 F fl x18 x17 => ⟨fun y => absurd rfl y, fun _ => ?_⟩)
      · have hh := thn_none hc1 ho1
        have ed63 : EdM m am (pgK P) (gI S) F63 (nI c) (nI i) (nI 0) (nI 0) (nI s1) (nI (dep P)) := EdM.set hL (j := 1) (by decide) (by decide) ed29 fa fm f0
        exact ⟨t63, qe, ed63, (fa _ (hL.o 20) (Ne.symm n020)).trans o29, hib, ne, hh.1, hh.2⟩
      · obtain ⟨y1, y2⟩ := thn_some hc1 ho1
        exact bad f F F29 q1 ed29.1 fl x18 x17 y1 y2
    rintro F32 ⟨t32, qe, ed32, o32, hib, ne, h8, hn8'⟩
    have q1L : q1 ≤ L := by rw [qe]; exact nlq.2.2.1
    have pq1 : p < q1 := by
      have := nlq.2.2.2.1 ne
      rw [qe]; omega
    have nl1 := nx_le (tx := tx) q1L
    obtain ⟨b1, b2⟩ := bl_32 hb hib
    refine ⟨fun F => ∃ q3 P' st', TkM F m tx L q3 ∧ q3 ≤ L ∧ p < q3 ∧ MtF m am (gI S) F ∧ F m 18 = 0 ∧ F m 17 = gI S m 17 ∧ RdS F m am P' st' ∧ OkT B P' st' ∧ rSG tx L q3 o q ∧ s' = (q, P', st'), ?_, fun n8 => ?_, fun y8 => ?_⟩
    · rintro F35 h35
      refine ⟨fun F => F35 = F, ?_, fun _ => rfl, fun y => by omega⟩
      rintro _ rfl
      refine ⟨fun F => F35 = F, ?_, fun _ => rfl, fun y => by omega⟩
      rintro _ rfl
      obtain ⟨q3, P', st', h1, h2, h3, h4, h5, h6, h7, h8', h9', h10⟩ := h35
      exact sgn F35 q3 P' st' h1 h2 h3 h4 h5 h6 h7 h8' h9' h10
    · obtain ⟨hsg, hs'⟩ := hn8' n8
      have c9 : c ≠ 9 := by omega
      have c10 : c ≠ 10 := by omega
      have rd32 : RdS F32 m am (addP P c i 0) s1 := RdS.of rP ed32 (dep_n P i 0 c9 c10).symm (fun y => absurd y c10) (by rw [nst_addn P i 0 c9 c10, o32]; exact rO)
      refine ⟨q1, addP P c i 0, s1, t32, q1L, pq1, ed32.1, ed32.2.1, ed32.2.2.1, rd32, hO.add (by omega) (by rw [dep_n P i 0 c9 c10]; omega) (by rw [dep_n P i 0 c9 c10]; exact d3) (Or.inl ⟨by rw [add_k]; omega, ?_⟩), hsg, by rw [s1e]; exact hs'⟩
      show setg (pgm P) (pgK P) i (pgK P) < bM B
      rw [setg_at]; exact hib
    · obtain ⟨hth, hs'⟩ := h8 y8
      obtain ⟨o2', q2, hnu, hc2⟩ := hth
      obtain ⟨g1, g2, g3, g4, g5, g6, g7, g8, g9, g10, g11⟩ := id ed32
      rw [show (1 : Int32) = nI 1 from rfl, show (2 : Int32) = nI 2 from rfl, nI_add, nI_add, nI_clamp (by omega), g9, show (10 : Int32) = nI 10 from rfl, show (40 : Int32) = nI 40 from rfl, mulN, nI_add, nI_clamp (by omega)]
      have gb : F32 (am 0) (10 + 40 * i) = nI (bl B i) := by rw [g1.2.2 _ (by omega)]; exact (hB.2.2.2 i hib).1
      rw [gb]
      refine ⟨hL.i 0 (by show 9850 + 4 * pgK P + 1 < 12100; omega), hL.i 0 (by show 10 + 40 * i < 12100; omega), ?_⟩
      refine sm_numberTo (S := wI S F32) (to := 9850 + 4 * pgK P + 2) (lo := 1) (hi := bl B i) hL (hX.mt hL g1) t32 q1L g2 (by omega) (by decide) (by omega) hnu (fun ho2 qe2 e3 v1 v9 F51 fa51 fm51 f051 t51 => ⟨fun _ => ?_, fun y => absurd y one0⟩) (fun f ho2 F fl x18 x17 => ⟨fun y => absurd rfl y, fun _ => ?_⟩)
      · have hsg := thn_none hc2 ho2
        have ed51 : EdM m am (pgK P) (gI S) F51 (nI c) (nI i) (nI (vl' tx L q1)) (nI 0) (nI s1) (nI (dep P)) := EdM.set hL (j := 2) (by decide) (by decide) ed32 fa51 fm51 f051
        rw [qe] at v1 v9 ed51
        rw [y8] at ed51
        have o51 : F51 (am 20) = gI S (am 20) := (fa51 _ (hL.o 20) (Ne.symm n020)).trans o32
        have rd51 : RdS F51 m am (addP P 8 i (vl' tx L (nx tx L (nx tx L p)))) s1 := RdS.of rP ed51 (dep_n P i _ (by decide) (by decide)).symm (fun y => by cases y) (by rw [nst_addn P i _ (by decide) (by decide), o51]; exact rO)
        refine ⟨q2, addP P 8 i (vl' tx L (nx tx L (nx tx L p))), s1, t51, by rw [qe2]; exact nl1.2.2.1, by rw [qe2]; omega, ed51.1, ed51.2.1, ed51.2.2.1, rd51, hO.add (by omega) (by rw [dep_n P i _ (by decide) (by decide)]; omega) (by rw [dep_n P i _ (by decide) (by decide)]; exact d3) (Or.inr (Or.inl ⟨add_k P 8 i _, ?_, ?_, ?_⟩)), hsg, by rw [s1e]; exact hs'⟩
        · show setg (pgm P) (pgK P) i (pgK P) < bM B
          rw [setg_at]; exact hib
        · show 1 ≤ setg (pgc P) (pgK P) _ (pgK P)
          rw [setg_at]; exact v1
        · show setg (pgc P) (pgK P) _ (pgK P) ≤ bl B (setg (pgm P) (pgK P) i (pgK P))
          rw [setg_at, setg_at]; exact v9
      · obtain ⟨y1, y2⟩ := thn_some hc2 ho2
        exact bad f F F32 q2 g1 fl x18 x17 y1 y2
end MS
