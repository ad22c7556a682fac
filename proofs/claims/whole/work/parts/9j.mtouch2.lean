/-! The reference's touch. -/
section MU
variable {S : St} {m t : Nat} {am : Nat → Nat} {tx : Nat → Nat} {L : Nat} {B : Bk}
theorem rMN_b {i p q : Nat} {o : Option Nat} (h : rMN B i tx L p o q) : obf o := by
  rcases h with ⟨-, -, -, -, e, -⟩ | ⟨-, -, e, -⟩ | ⟨-, e, -⟩ <;> rw [e]
  · exact obf_n
  · exact obf_s ⟨by decide, by decide⟩
  · exact obf_s (mis_b tx L p)
theorem rTs_b {s s' : Sg} {o : Option Nat} {q : Nat} (h : rTs B tx L s o q s') : obf o := by
  rcases h with ⟨-, ⟨-, e, -⟩ | ⟨-, h, -⟩⟩ | ⟨-, -, e, -⟩ | ⟨-, -, -, e, -⟩ | ⟨-, -, -, h, -⟩ | ⟨-, -, h, -⟩ | ⟨-, -, i, h, -⟩ | ⟨-, c, i, -, -, h, -⟩ | ⟨-, -, e, -⟩
  · rw [e]; exact obf_s (mis_b tx L _)
  · exact rSG_b h
  · rw [e]; exact obf_s ⟨by decide, by decide⟩
  · rw [e]; exact obf_s ⟨by decide, by decide⟩
  · exact thn_b (fun _ _ h => rNU_b h) (fun _ _ _ h => rSG_b h) h
  · exact rSG_b h
  · exact thn_b (fun _ _ h => rMN_b h) (fun _ _ _ h => thn_b (fun _ _ h => rNU_b h) (fun _ _ _ h => rSG_b h) h) h
  · exact thn_b (fun _ _ h => rMN_b h) (fun _ _ _ h => rSG_b h) h
  · rw [e]; exact obf_s (mis_b tx L _)
theorem PMd.c {P : Pg} {A A2 : Nat → Int32} (hK : pgK P ≤ 60) (h : PMd P A) (ha : ∀ k, k = 4 ∨ (170 ≤ k ∧ k < 410) → A2 k = A k) : PMd P A2 := by
  refine ⟨by rw [ha 4 (Or.inl rfl)]; exact h.1, fun k hk => ?_⟩
  obtain ⟨h1, h2, h3, h4⟩ := h.2 k hk
  rw [ha _ (Or.inr (by omega)), ha _ (Or.inr (by omega)), ha _ (Or.inr (by omega)), ha _ (Or.inr (by omega))]
  exact ⟨h1, h2, h3, h4⟩
/-- what the reading of a touch leaves of the reference -/
def MuF (m : Nat) (am : Nat → Nat) (G F : FI) : Prop := (∀ a, a ≠ m → a ≠ am 0 → a ≠ am 9 → a ≠ am 20 → F a = G a) ∧ (∀ j, j ≠ 2 → (j < 10 ∨ 23 ≤ j) → F m j = G m j)
theorem sm_touch {Q : Int32 → FI → Prop} {o : Option Nat} {q : Nat} {s : Sg} (hL : LM S m am) (h10 : gI S m 10 = nI t) (ht : t ≤ 900) (hLt : L ≤ t) (hL3 : L ≤ 300) (htx : ∀ j, j < L → tx j < 256 ∧ gI S (am 8) j = sb (tx j)) (hb : bok B) (hB : BM B (gI S (am 0))) (hN : ∀ i, i < bM B → nmq (bnm B i) (gJ S (am 1) i)) (hr : rTouch B tx L o q s)
    (hy : o = none → ∀ F, MuF m am (gI S) F → F m 10 = 0 → F m 16 = 0 → F m 17 = -1 → F m 2 = 0 → PMd s.2.1 (F (am 0)) → F (am 0) 5 = nI s.2.2 → F (am 0) 6 = -1 → (∀ k, k ≠ 4 → k ≠ 5 → k ≠ 6 → (k < 170 ∨ 410 ≤ k) → k < 9680 → F (am 0) k = gI S (am 0) k) → Q (nI s.2.2) F)
    (hf : ∀ f, o = some f → ∀ F, MuF m am (gI S) F → (∀ k, k < 9680 → F (am 0) k = gI S (am 0) k) → F m 10 = 0 → F m 16 = nI f → F m 17 = nI (sk tx L q) → F m 2 = 9 → Q (-1) F) : P_X12_touch m (nI L) S Q := by
  obtain ⟨K, st, st0, chain, hend⟩ := hr
  have mo : m ≠ am 0 := Ne.symm (hL.o 0)
  refine ⟨hL.z, sm_begins (mo := 300) hL h10 ht hLt hL3 (by decide) htx (fun F1 fr1 fm1 g10 g16 g17 g18 g19 X1 t1 => ⟨fun _ => ⟨am 0, hL.r 0, hL.k 0, hL.i 0 (p := 9684) (by decide), fun F6 e6 F7 e7 F8 e8 => ?_⟩, fun y => absurd y one0⟩)⟩
  have on8 : ∀ a, a ≠ m → a ≠ am 0 → F8 a = F1 a := fun a y1 y2 => by rw [e8, up_ne y1, e7, up_ne y1, e6, up_ne y2]
  have m8 : ∀ j, j ≠ 21 → j ≠ 22 → F8 m j = F1 m j := fun j y1 y2 => by rw [e8, up_no y2, e7, up_no y1, e6, up_ne mo]
  have a8 : ∀ k, k ≠ 9684 → F8 (am 0) k = gI S (am 0) k := fun k hk => by rw [e8, up_ne (hL.o 0), e7, up_ne (hL.o 0), e6, up_no hk, fr1 _ (hL.o 0) (hL.n (by decide))]
  have X8 : TxM F8 m am tx L := X1.cg (m8 11 (by decide) (by decide)) (on8 _ (hL.o 9) (hL.n (by decide)))
  have t8 : TkM F8 m tx L 0 := by
    obtain ⟨a, b, c, d, e⟩ := t1
    exact ⟨by rw [m8 13 (by decide) (by decide)]; exact a, by rw [m8 14 (by decide) (by decide)]; exact b, by rw [m8 12 (by decide) (by decide)]; exact c, fun y => by rw [m8 15 (by decide) (by decide)]; exact d y, fun y => by rw [m8 15 (by decide) (by decide)]; exact e y⟩
  have rd8 : RdS F8 m am P0 0 := by
    refine ⟨⟨?_, fun k hk => by have : k < 0 := hk; omega⟩, ?_, ?_, ?_⟩
    · show F8 (am 0) 9684 = _
      rw [e8, up_ne (hL.o 0), e7, up_ne (hL.o 0), e6, up_at]; rfl
    · rw [e8, up_at]; rfl
    · rw [e8, up_no (by decide), e7, up_at]; rfl
    · show Ops _ (nst P0 0)
      unfold nst Ops; trivial
  have O0 : OkT B P0 0 := ⟨Nat.le_refl _, by decide, fun j hj => by have hj' : j ≤ 0 := hj; rw [Nat.le_zero.mp hj']; exact Nat.zero_le _, fun j hj => by have : j < 0 := hj; omega⟩
  -- the whole frame
  have muf : ∀ F F2, MtF m am F8 F → (∀ a, a ≠ m → a ≠ am 0 → F2 a = F a) → (∀ j, j ≠ 2 → j ≠ 16 → F2 m j = F m j) → MuF m am (gI S) F2 := fun F F2 mt oa om => ⟨fun a y1 y2 y3 y4 => by rw [oa a y1 y2, mt.1 a y1 y2 y4, on8 a y1 y2, fr1 a y1 y3], fun j y1 y2 => by rw [om j y1 (by omega), mt.2.1 j (by omega) (by omega) (by omega) (by omega) (by omega) (by omega) (by omega) (by omega), m8 j (by omega) (by omega), fm1 j (by omega)]⟩
  have f10 : ∀ F, MtF m am F8 F → F m 10 = 0 := fun F mt => by rw [mt.2.1 10 (by decide) (by decide) (by decide) (by decide) (by decide) (by decide) (by decide) (by decide), m8 10 (by decide) (by decide)]; exact g10
  refine ⟨fun n x F => MtF m am F8 F ∧ ((∃ i, i ≤ K ∧ n = 1 + (K - i) ∧ x = 1 ∧ F m 18 = 0 ∧ F m 17 = -1 ∧ TkM F m tx L (st i).1 ∧ (st i).1 ≤ L ∧ RdS F m am (st i).2.1 (st i).2.2 ∧ OkT B (st i).2.1 (st i).2.2) ∨ (n = 0 ∧ x = 0 ∧ ∃ f, o = some f ∧ F m 18 = nI f ∧ 1 ≤ f ∧ f ≤ 99 ∧ F m 17 = nI (sk tx L q))), ⟨1 + (K - 0), MtF.rf, Or.inl ⟨0, Nat.zero_le _, rfl, rfl, (m8 18 (by decide) (by decide)).trans g18, (m8 17 (by decide) (by decide)).trans g17, by rw [st0]; exact t8, by rw [st0]; exact Nat.zero_le _, by rw [st0]; exact rd8, by rw [st0]; exact O0⟩⟩, ?_⟩
  rintro n x F11 ⟨mt, hAB⟩
  refine ⟨(F11 m 18 = 0 ∧ F11 m 17 = -1 ∧ TkM F11 m tx L (st K).1 ∧ RdS F11 m am (st K).2.1 (st K).2.2 ∧ OkT B (st K).2.1 (st K).2.2 ∧ tk tx L (st K).1 = 1) ∨ (∃ f, o = some f ∧ F11 m 18 = nI f ∧ 1 ≤ f ∧ f ≤ 99 ∧ F11 m 17 = nI (sk tx L q)), fun h13 => ?_, fun y0 => ?_, fun y1 => ?_⟩
  · refine ⟨fun F => MtF m am F8 F ∧ ((o = none ∧ s = st K ∧ F m 18 = 0 ∧ F m 17 = -1 ∧ RdS F m am (st K).2.1 (st K).2.2 ∧ OkT B (st K).2.1 (st K).2.2) ∨ (∃ f, o = some f ∧ F m 18 = nI f ∧ 1 ≤ f ∧ f ≤ 99 ∧ F m 17 = nI (sk tx L q))), ?_, fun y18 => ⟨mt, ?_⟩, fun y18 => ?_⟩
    · rintro F16 ⟨mt16, ⟨ho, hs, u18, u17, rd, ok⟩ | ⟨f, ho, u18, f1, f99, u17⟩⟩
      · -- good
        have K60 : pgK (st K).2.1 ≤ 60 := by have := ok.1; have := ok.2.1; omega
        refine ⟨fun F19 => On (am 0) F16 F19 ∧ (∀ k, F19 (am 0) k = if k = 4 then F16 (am 0) 9684 else if k = 5 then nI (st K).2.2 else if k = 6 then -1 else if 170 ≤ k ∧ k < 410 then F16 (am 0) (9680 + k) else F16 (am 0) k), ?_, fun y => absurd u18 y, fun _ => ?_⟩
        · rintro F19 ⟨oF, hF⟩
          rw [show F19 m 22 = nI (st K).2.2 by rw [oF m mo]; exact rd.2.1]
          refine sm_taken_y (S := wI S F19) hL (by show F19 m 18 = 0; rw [oF m mo]; exact u18) (fun F2 i1 i2 i3 i4 => ?_)
          have i1' : ∀ a, a ≠ m → F2 a = F19 a := i1
          have i2' : ∀ j, j ≠ 2 → j ≠ 16 → F2 m j = F19 m j := i2
          have a02 : F2 (am 0) = F19 (am 0) := i1' _ (hL.o 0)
          rw [hs] at hy
          refine hy ho F2 (muf F16 F2 mt16 (fun a y1 y2 => by rw [i1' a y1, oF a y2]) (fun j y1 y2 => by rw [i2' j y1 y2, oF m mo])) ?_ i3 ?_ i4 ?_ ?_ ?_ (fun k k4 k5 k6 k7 k8 => ?_)
          · rw [i2' 10 (by decide) (by decide), oF m mo]; exact f10 F16 mt16
          · rw [i2' 17 (by decide) (by decide), oF m mo]; exact u17
          · rw [a02]
            refine PMd.c K60 rd.1 (fun k hk => ?_)
            rw [hF k]
            rcases hk with rfl | hk
            · rw [if_pos rfl]
            · rw [if_neg (by omega), if_neg (by omega), if_neg (by omega), if_pos hk]
          · rw [a02, hF, if_neg (by decide), if_pos rfl]
          · rw [a02, hF, if_neg (by decide), if_neg (by decide), if_pos rfl]
          · rw [a02, hF, if_neg k4, if_neg k5, if_neg k6, if_neg (by omega), mt16.2.2 k k8, a8 k (by omega)]
        · refine ⟨hL.i 0 (p := 4) (by decide), fun v22 e22 F23 e23 => ⟨hL.i 0 (p := 5) (by decide), fun v25 e25 F26 e26 => ⟨hL.i 0 (p := 6) (by decide), fun F28 e28 => ?_⟩⟩⟩
          have v25' : v25 = nI (st K).2.2 := by rw [e25, e23, up_ne mo]; exact rd.2.1
          have o28 : On (am 0) F16 F28 := fun a ha => by rw [e28, up_ne ha, e26, up_ne ha, e23, up_ne ha]
          have a28 : ∀ k, F28 (am 0) k = if k = 4 then F16 (am 0) 9684 else if k = 5 then nI (st K).2.2 else if k = 6 then -1 else F16 (am 0) k := fun k => by
            rw [e28]
            by_cases c6 : k = 6
            · rw [c6, up_at, if_neg (by decide), if_neg (by decide), if_pos rfl]
            · rw [up_no c6, e26]
              by_cases c5 : k = 5
              · rw [c5, up_at, if_neg (by decide), if_pos rfl, v25']
              · rw [up_no c5, e23]
                by_cases c4 : k = 4
                · rw [c4, up_at, if_pos rfl, e22]
                · rw [up_no c4, if_neg c4, if_neg c5, if_neg c6]
          refine ⟨fun u x F => ∃ c, 170 ≤ c ∧ c ≤ 410 ∧ u = 410 - c ∧ x = nI c ∧ On (am 0) F16 F ∧ ∀ k, F (am 0) k = if k = 4 then F16 (am 0) 9684 else if k = 5 then nI (st K).2.2 else if k = 6 then -1 else if 170 ≤ k ∧ k < c then F16 (am 0) (9680 + k) else F16 (am 0) k, ⟨240, 170, by decide, by decide, rfl, rfl, o28, fun k => by rw [a28 k, if_neg (show ¬ (170 ≤ k ∧ k < 170) by omega)]⟩, ?_⟩
          rintro u x F ⟨c, hc1, hc2, rfl, rfl, oF, hF⟩
          refine ⟨fun hcc => ?_, fun hcc => ?_⟩
          · have e : c = 410 := by
              have : 410 ≤ c := (nI_leI (a := 410) (by decide) (by omega)).mp hcc
              omega
            subst e
            exact ⟨oF, hF⟩
          · have hlt : c < 410 := nI_gtI (n := 410) (by decide) (by omega) hcc
            rw [show (9680 : Int32) + nI c = nI (9680 + c) from nI_add 9680 c]
            refine ⟨hL.i 0 (by show 9680 + c < 12100; omega), hL.i 0 (by show c < 12100; omega), fun v35 e35 F36 e36 v37 e37 => ?_⟩
            rw [nI_clamp (by omega)] at e35 e36
            refine ⟨410 - (c + 1), by omega, c + 1, by omega, by omega, rfl, by rw [e37]; exact nI_1 c, by rw [e36]; exact oF.tr On.up, fun k => ?_⟩
            rw [e36]
            by_cases ck : k = c
            · rw [ck, up_at, e35, hF, if_neg (by omega), if_neg (by omega), if_neg (by omega), if_neg (by omega), if_neg (by omega), if_neg (by omega), if_neg (by omega), if_pos (by omega)]
            · rw [up_no ck, hF]
              by_cases cr : 170 ≤ k ∧ k < c
              · rw [if_pos cr, if_pos (show 170 ≤ k ∧ k < c + 1 by omega)]
              · rw [if_neg cr, if_neg (show ¬ (170 ≤ k ∧ k < c + 1) by omega)]
      · -- bad
        refine ⟨fun F19 => F16 = F19, ?_, fun _ => rfl, fun y => ?_⟩
        · rintro _ rfl
          refine sm_taken_f (S := wI S F16) hL u18 f1 f99 (fun F2 i1 i2 i3 i4 => ?_)
          have i1' : ∀ a, a ≠ m → F2 a = F16 a := i1
          have i2' : ∀ j, j ≠ 2 → j ≠ 16 → F2 m j = F16 m j := i2
          refine hf f ho F2 (muf F16 F2 mt16 (fun a y1 _ => i1' a y1) i2') (fun k hk => ?_) ?_ i3 ?_ i4
          · rw [i1' _ (hL.o 0), mt16.2.2 k hk, a8 k (by omega)]
          · rw [i2' 10 (by decide) (by decide)]; exact f10 F16 mt16
          · rw [i2' 17 (by decide) (by decide)]; exact u17
        · rw [u18] at y
          exact absurd ((nI_z (by omega)).mp y) (by omega)
    · rcases h13 with ⟨u18, -⟩ | h
      · exact absurd u18 y18
      · exact Or.inr h
    · rcases h13 with ⟨u18, u17, tK, rdK, okK, e1⟩ | ⟨f, ho, u18, f1, f99, u17⟩
      · have d3 : dep (st K).2.1 ≤ 3 := okK.2.2.1 _ (Nat.le_refl _)
        rw [rdK.2.2.1]
        refine ⟨fun yd => ⟨mt, ?_⟩, fun yd => sm_fails (S := wI S F11) (kn := 2) hL tK u18 (fun F fl => ⟨mt.tr (MtF.fl hL fl), ?_⟩)⟩
        · have d0 : dep (st K).2.1 = 0 := by
            have := (nI_leI (a := dep (st K).2.1) (b := 0) (by omega) (by decide)).mp yd
            omega
          rcases hend with ⟨-, -, ho, hs⟩ | ⟨-, y, -⟩ | ⟨y, -⟩
          · exact Or.inl ⟨ho, hs, u18, u17, rdK, okK⟩
          · exact absurd d0 y
          · exact absurd e1 y
        · have d0 : dep (st K).2.1 ≠ 0 := fun z => yd (by rw [z]; decide)
          rcases hend with ⟨-, y, -⟩ | ⟨-, -, ho, hq⟩ | ⟨y, -⟩
          · exact absurd y d0
          · have mb := mis_b tx L (st K).1
            exact Or.inr ⟨_, ho, fl.2.2.1, mb.1, mb.2, by rw [hq]; exact fl.2.2.2⟩
          · exact absurd e1 y
      · rw [u18] at y18
        exact absurd ((nI_z (by omega)).mp y18) (by omega)
  · rcases hAB with ⟨i, -, -, rfl, -⟩ | ⟨-, -, h⟩
    · exact absurd y0 one0
    · exact Or.inr h
  · rcases hAB with ⟨i, hi, rfl, rfl, u18, u17, tt, pL, rd, ok⟩ | ⟨-, rfl, -⟩
    · have t17 := tk_17 (tx := tx) (L := L) (st i).1
      rw [tt.2.2.1]
      have m0 : nI (mtc (tk tx L (st i).1)) = 0 ↔ tk tx L (st i).1 = 1 := mtc_0 t17
      rw [m0]
      refine ⟨fun y => ?_, fun y => ?_⟩
      · have hiK : i = K := by
          rcases Nat.lt_or_ge i K with z | z
          · exact absurd y (chain i z).1
          · omega
        subst hiK
        exact Or.inl ⟨u18, u17, tt, rd, ok, y⟩
      · have B11 : BM B (F11 (am 0)) := hB.all hb (fun k hk => by rw [mt.2.2 k (by omega), a8 k (by omega)])
        rcases Nat.lt_or_ge i K with z | z
        · refine sm_step (S := wI S F11) (P := (st i).2.1) (st := (st i).2.2) hL (X8.mt hL mt) tt pL u18 hb B11 hN rd ok y (chain i z).2 (fun _ F2 mt2 v18 v17 qL _ t2 rd2 ok2 => ?_) (fun f F2 ho => by cases ho)
          exact ⟨1 + (K - (i + 1)), by omega, mt.tr mt2, Or.inl ⟨i + 1, by omega, rfl, rfl, v18, v17.trans u17, t2, qL, rd2, ok2⟩⟩
        · have hiK : i = K := by omega
          subst hiK
          rcases hend with ⟨z, -⟩ | ⟨z, -⟩ | ⟨-, f, s', ho, it⟩
          · exact absurd z y
          · exact absurd z y
          · refine sm_step (S := wI S F11) (P := (st i).2.1) (st := (st i).2.2) hL (X8.mt hL mt) tt pL u18 hb B11 hN rd ok y it (fun ho => by cases ho) (fun f' F2 ho' mt2 v18 v17 => ?_)
            cases ho'
            have b := rTs_b it f rfl
            exact ⟨0, by omega, mt.tr mt2, Or.inr ⟨rfl, rfl, f, ho, v18, b.1, b.2, v17⟩⟩
    · exact absurd rfl y1
end MU
