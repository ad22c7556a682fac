/-! book, on both sides. -/
def BkN (S S1 : St) (x : Nat) (am : Nat → Nat) (F' : FI) (J' : FJ) : Prop := (gR S1 x = gR S x ∧ (∀ k, k < 9680 → F' (am 0) k = gI S1 (am 0) k) ∧ ∀ k, k < 48 → J' (am 1) k = gJ S1 (am 1) k) ∨ ∃ b B, ∃ nw : Nat → Prop, bok B ∧ gR S1 x 7 = some b ∧ gR S1 x 8 = none ∧ gR S1 x 9 = none ∧ BX B nw S1 b ∧ (∀ e, nw e → kd S e = 0 ∧ kd S1 e ≠ 0) ∧ BM B (F' (am 0)) ∧ F' (am 0) 4 = -1 ∧ F' (am 0) 6 = -1 ∧ ∀ i, i < bM B → nmq (bnm B i) (J' (am 1) i)
section KB
variable {S : St} {x m k tt rv br t : Nat} {am ra mv : Nat → Nat}
theorem WBr.kk (hB : BrX S br k rv ra mv) (hk : kd S k = 7) {e : Nat} (h : WBr k br ra mv e) : kd S e = 7 ∨ kd S e = 2 ∨ kd S e = 22 ∨ kd S e = 21 := by
  obtain ⟨h1, h2, ⟨-, h6, -⟩, ⟨-, h7, -⟩, ⟨-, h8, -⟩, ⟨-, h9, -⟩, ⟨-, h10, -⟩, ⟨-, h11, -⟩, hm, -⟩ := hB
  rcases h with e1 | e1 | e1 | e1 | e1 | e1 | e1 | ⟨i, hi, e1⟩ <;> rw [e1]
  · exact Or.inl hk
  · exact Or.inr (Or.inl h1)
  · exact Or.inr (Or.inr (Or.inl h6))
  · exact Or.inr (Or.inr (Or.inl h7))
  · exact Or.inr (Or.inr (Or.inr h9))
  · exact Or.inr (Or.inr (Or.inr h10))
  · exact Or.inr (Or.inr (Or.inr h11))
  · exact Or.inr (Or.inr (Or.inr (hm i hi).2.1))
theorem WBr.n (hB : BrX S br k rv ra mv) (hk : kd S k = 7) {e : Nat} (h7 : kd S e ≠ 7) (h2 : kd S e ≠ 2) (h22 : kd S e ≠ 22) (h21 : kd S e ≠ 21) : ¬ WBr k br ra mv e := fun h => by
  rcases WBr.kk hB hk h with y | y | y | y
  · exact h7 y
  · exact h2 y
  · exact h22 y
  · exact h21 y
theorem tape_tx {t : Nat} {A : Nat → Int32} (h : ∀ j, j < t → ∃ w : Int8, A j = w.toInt32) : ∃ tx : Nat → Nat, ∀ j, j < t → tx j < 256 ∧ A j = sb (tx j) := by
  have h2 : ∀ j, ∃ c, j < t → c < 256 ∧ A j = sb c := fun j => by
    by_cases hj : j < t
    · obtain ⟨w, hw⟩ := h j hj
      obtain ⟨c, hc, e⟩ := sb_ex w
      exact ⟨c, fun _ => ⟨hc, hw.trans e⟩⟩
    · exact ⟨0, fun z => absurd z hj⟩
  exact ⟨fun j => Classical.choose (h2 j), fun j hj => Classical.choose_spec (h2 j) hj⟩
theorem call_book {c d : Nat} {Q : Int32 → St → Prop} (hx : kd S x = 11) (hL : LM S m am) (hT : TpX S x k tt m am t) (hk : TkX S k tt rv) (h5 : gR S x 5 = some br) (hB : BrX S br k rv ra mv) (hmw : ∀ f, mk f ≠ 0 → ¬ WBr k br ra mv (am f)) (hF : gI S m 16 = gI S k 9 ∧ gI S m 17 = gI S k 10) (hc : 22 ≤ c) (hd : 320 ≤ d) (p0 : Int32)
    (hq : ∀ v S1, Fr (fun e => e = x ∨ WBr k br ra mv e) S S1 → (∀ a, kd S a ≠ 0 → a ≠ x → gR S1 a = gR S a) → gJ S1 x = gJ S x → (∀ j, j ≠ 0 → gI S1 x j = gI S x j) → (∀ j, j ≠ 7 → j ≠ 8 → j ≠ 9 → gR S1 x j = gR S x j) → (∀ Q2 : Int32 → FI → FJ → Prop, (∀ F' J' t', MaF m am (gI S1) F' (gJ S1) J' → F' m 2 = gI S1 x 0 → (F' m 16 = gI S1 k 9 ∧ F' m 17 = gI S1 k 10) → TpX (wA S1 F' J' (gR S1)) x k tt m am t' → BkN S S1 x am F' J' → Q2 v F' J') → P_X12_book m p0 S1 Q2) → Q v S1) : P_X11_book x p0 S c d Q := by
  have hT' := hT
  obtain ⟨r4, k7, rt, kt, lt, t8, t9, h1, h10, hby⟩ := hT'
  have xW : ¬ WBr k br ra mv x := WBr.n hB k7 (by rw [hx]; decide) (by rw [hx]; decide) (by rw [hx]; decide) (by rw [hx]; decide)
  have mW : ¬ WBr k br ra mv m := WBr.n hB k7 (by rw [hL.z]; decide) (by rw [hL.z]; decide) (by rw [hL.z]; decide) (by rw [hL.z]; decide)
  have ttW : ¬ WBr k br ra mv tt := WBr.n hB k7 (by rw [kt]; decide) (by rw [kt]; decide) (by rw [kt]; decide) (by rw [kt]; decide)
  have mx : m ≠ x := x_m hx hL
  have kx : k ≠ x := kd_ne k7 hx (by decide)
  have km : k ≠ m := kd_ne k7 hL.z (by decide)
  have k0 : k ≠ am 0 := kd_ne k7 (hL.k 0) (by decide)
  have k9 : k ≠ am 9 := kd_ne k7 (hL.k 9) (by decide)
  have tx' : tt ≠ x := kd_ne kt hx (by decide)
  have a8x := x_am hx hL 8
  have m8 : m ≠ am 8 := Ne.symm (hL.o 8)
  rcases nr_case (t + 1) (by omega) p0 with ⟨L, hLt, rfl⟩ | hbad
  case inr =>
    have bad : P_X11_refuse x 1 S (fun r F => Q r (wI S F)) := by
      refine rf hx (hq _ (wI S (upI (gI S) x 0 1)) (Fr.on On.up (Or.inl rfl)) (fun _ _ _ => rfl) rfl (fun j hj => up_no hj) (fun _ _ _ _ => rfl) (fun Q2 h2 => ?_))
      have fin : P_X12_refuse m 1 (wI (wI S (upI (gI S) x 0 1)) (upI (gI S) x 0 1)) (fun r F => Q2 r F (gJ S)) := by
        refine ⟨hL.z, fun F e => ?_⟩
        have e' : F = upI (upI (gI S) x 0 1) m 2 1 := e
        have om : ∀ a, a ≠ m → F a = upI (gI S) x 0 1 a := fun a ha => by rw [e', up_ne ha]
        have mj : ∀ j, j ≠ 2 → F m j = gI S m j := fun j hj => by rw [e', up_no hj, up_ne mx]
        refine h2 F (gJ S) t ⟨fun a y1 _ _ => om a y1, fun j y1 _ => by rw [mj j y1]; exact (congrFun (up_ne mx) j).symm, fun k _ _ => by rw [om _ (hL.o 0)]; rfl, fun _ _ => rfl, fun _ _ _ => rfl⟩ (by rw [e', up_at]; exact up_at.symm) ⟨?_, ?_⟩ ⟨r4, k7, rt, kt, lt, t8, t9, ?_, ?_, fun j hj => ?_⟩ (Or.inl ⟨rfl, fun k _ => by rw [om _ (hL.o 0)]; rfl, fun _ _ => rfl⟩)
        · rw [mj 16 (by decide)]
          show _ = upI (gI S) x 0 1 k 9
          rw [up_ne kx]; exact hF.1
        · rw [mj 17 (by decide)]
          show _ = upI (gI S) x 0 1 k 10
          rw [up_ne kx]; exact hF.2
        · show F k 1 = _
          rw [om k km, up_ne kx]; exact h1
        · show F m 10 = _
          rw [mj 10 (by decide)]; exact h10
        · show F tt j = F (am 8) j ∧ ∃ w : Int8, F tt j = w.toInt32
          rw [om tt (kd_ne kt hL.z (by decide)), up_ne tx', om (am 8) (hL.o 8), up_ne a8x]
          exact hby j hj
      refine ⟨hL.z, hL.z, fun y => ⟨fun z => absurd rfl z, fun _ => fin⟩, fun y => ⟨fun _ => ⟨fun z => absurd rfl z, fun _ => fin⟩, fun z => ?_⟩⟩
      have zz : gI (wI S (upI (gI S) x 0 1)) m 10 = nI t := by show upI (gI S) x 0 1 m 10 = _; rw [up_ne mx]; exact h10
      rw [zz] at z
      exact absurd (fa_trans (nI_lt (a := t) (b := t + 1) (by omega) (by omega)) (nr_ix (N := t + 1) (by omega) hbad y)) z
    refine ⟨hx, True, fun _ => bad, fun _ => trivial, fun y0 => ⟨k, r4, k7, fun y => ?_, fun _ => trivial⟩⟩
    rw [h1] at y
    exact absurd (fa_trans (nI_lt (a := t) (b := t + 1) (by omega) (by omega)) (nr_ix (N := t + 1) (by omega) hbad y0)) (fun z => by rw [fa_le] at y; rw [fa_lt] at z; omega)
  obtain ⟨tx, htx⟩ := tape_tx (fun j hj => (hby j hj).2)
  refine ⟨hx, False, False.elim, fun y => absurd y (nI_nlt (b := 0) (Nat.zero_le _) (by omega)), fun _ => ⟨k, r4, k7, ?_⟩⟩
  rw [h1]
  have a8W := hmw 8 (by decide)
  -- what both ends share
  have tail : ∀ (S1 : St) (F : FI) (J : FJ), Fr (fun e => e = x ∨ WBr k br ra mv e) S S1 → (∀ a, kd S a ≠ 0 → a ≠ x → gI S1 a = F a ∧ gR S1 a = gR S a) → (∀ a, ¬ WBr k br ra mv a → F a = gI S a ∧ J a = gJ S a) → gR S1 x 4 = some k → F k 1 = 0 → ∀ (F' : FI) (J' : FJ), MaF m am (gI S1) F' (gJ S1) J' → F' m 10 = 0 → TpX (wA S1 F' J' (gR S1)) x k tt m am 0 := fun S1 F J fr ka fW x4 f1 F' J' ma g10 => by
    obtain ⟨u1, u2, -⟩ := fr k (by rw [k7]; decide)
    obtain ⟨v1, v2, -⟩ := fr tt (by rw [kt]; decide)
    have kk := ka k (by rw [k7]; decide) kx
    refine ⟨x4, u1.trans k7, ?_, v1.trans kt, v2.trans lt, t8, by omega, ?_, g10, fun j hj => by omega⟩
    · show gR S1 k 0 = _
      rw [kk.2]; exact rt
    · show F' k 1 = _
      rw [ma.1 k km k0 k9, kk.1]; exact f1
  have lm : ∀ S1, Fr (fun e => e = x ∨ WBr k br ra mv e) S S1 → LM S1 m am := fun S1 fr => hL.fr fr (fun z => by
    rcases z with z | z
    · exact mx z
    · exact mW z)
  have mdl : ∀ S1, Fr (fun e => e = x ∨ WBr k br ra mv e) S S1 → gI S1 m 10 = nI t ∧ ∀ j, j < L → tx j < 256 ∧ gI S1 (am 8) j = sb (tx j) := fun S1 fr => by
    have u := (fr m (by rw [hL.z]; decide)).2.2 (fun z => by
      rcases z with z | z
      · exact mx z
      · exact mW z)
    have v := (fr (am 8) (by rw [hL.k 8]; decide)).2.2 (fun z => by
      rcases z with z | z
      · exact a8x z
      · exact a8W z)
    refine ⟨by rw [u.1]; exact h10, fun j hj => ⟨(htx j (by omega)).1, ?_⟩⟩
    rw [v.1, ← (hby j (by omega)).1]; exact (htx j (by omega)).2
  refine ⟨fun _ => ⟨br, h5, hB.1, sp_takes (tx := tx) hB hk (by omega) (fun j hj => htx j (by omega)) (fun q F J s hrb fr f1 f9 f10 rd ok => ⟨fun _ => ⟨22, 320, hc, hd, ?_⟩, fun y => absurd y one0⟩) (fun f q F J s hrb fr f1 f9 f10 => ⟨fun y => absurd rfl y, fun _ => ?_⟩)⟩, fun y => absurd (nI_le (by omega) (by omega)) y⟩
  · refine sp_made (S := wA S F J (gR S)) hB rd ok.1 (Nat.le_refl _) (Nat.le_refl _) (fun b' S12 nw al nwf bx => ?_)
    have al' : ∀ e, kd S e ≠ 0 → kd S12 e = kd S e ∧ ln S12 e = ln S e ∧ gI S12 e = F e ∧ gJ S12 e = J e ∧ gR S12 e = gR S e := fun e he => al.g he
    have nwf' : ∀ e, nw e → kd S e = 0 ∧ kd S12 e ≠ 0 := nwf
    have xa := al' x (by rw [hx]; decide)
    have nx0 : ∀ e, nw e → e ≠ x := fun e he z => by
      have := (nwf' e he).1
      rw [z, hx] at this; cases this
    refine ⟨xa.1.trans hx, fun R14 e14 R15 e15 R16 e16 => ?_⟩
    obtain ⟨bn1, bk1, -, -, -, aa, ba, bia, bka, bla, -⟩ := id bx
    have oR : ∀ a, a ≠ x → R16 a = gR S12 a := fun a ha => by rw [e16, upR_ne ha, e15, upR_ne ha, e14, upR_ne ha]
    have r7 : R16 x 7 = some b' := by rw [e16, upR_no (by decide), e15, upR_no (by decide), e14, upR_at]
    refine ⟨b', r7, bk1, aa, by rw [oR b' (nx0 b' bn1)]; exact ba, bka, ?_⟩
    rw [bla]
    refine an (xa.1.trans hx) ?_
    let S1 : St := wA S12 (upI (gI S12) x 0 0) (gJ S12) R16
    have frS : Fr (fun e => e = x ∨ WBr k br ra mv e) S S1 := fun a ha => by
      obtain ⟨y1, y2, y3, y4, y5⟩ := al' a ha
      refine ⟨y1, y2, fun hw => ?_⟩
      have ax : a ≠ x := fun z => hw (Or.inl z)
      have fa := fr a (fun z => hw (Or.inr z))
      refine ⟨?_, y4.trans fa.2, (oR a ax).trans y5⟩
      show upI (gI S12) x 0 0 a = _
      rw [up_ne ax, y3]; exact fa.1
    have kaS : ∀ a, kd S a ≠ 0 → a ≠ x → gI S1 a = F a ∧ gR S1 a = gR S a := fun a ha ax => by
      obtain ⟨y1, y2, y3, y4, y5⟩ := al' a ha
      refine ⟨?_, (oR a ax).trans y5⟩
      show upI (gI S12) x 0 0 a = _
      rw [up_ne ax, y3]
    have x4' : gR S1 x 4 = some k := by
      show R16 x 4 = _
      rw [e16, upR_no (by decide), e15, upR_no (by decide), e14, upR_no (by decide), xa.2.2.2.2]; exact r4
    have kk := kaS k (by rw [k7]; decide) kx
    refine hq _ S1 frS (fun a ha ax => (kaS a ha ax).2) ?_ (fun j hj => ?_) (fun j j7 j8 j9 => ?_) (fun Q2 h2 => ?_)
    · show gJ S12 x = _
      rw [xa.2.2.2.1]; exact (fr x xW).2
    · show upI (gI S12) x 0 0 x j = _
      rw [up_no hj, xa.2.2.1, (fr x xW).1]
    · show R16 x j = _
      rw [e16, upR_no j9, e15, upR_no j8, e14, upR_no j7, xa.2.2.2.2]
    · have md := mdl S1 frS
      refine sm_book (S := S1) (t := t) (lm S1 frS) md.1 t9 (by omega) md.2 hrb (fun _ F' J' ma g10 g16 g17 g2 bm a4 a6 nm => ?_) (fun f ho => by cases ho)
      refine h2 F' J' 0 ma ?_ ⟨?_, ?_⟩ (tail S1 F J frS kaS fr x4' f1 F' J' ma g10) (Or.inr ⟨b', s.2.1, nw, ok.1, r7, ?_, ?_, ?_, nwf', bm, a4, a6, fun i hi => ⟨nm i hi, ok.2.2.1 i hi⟩⟩)
      · rw [g2]; exact up_at.symm
      · rw [g16, kk.1]; exact f9.symm
      · rw [g17, kk.1]; exact f10.symm
      · show R16 x 8 = _
        rw [e16, upR_no (by decide), e15, upR_at]
      · show R16 x 9 = _
        rw [e16, upR_at]
      · refine bx.sm (fun a ha => ⟨rfl, rfl, ?_, rfl, oR a (nx0 a ha)⟩)
        exact up_ne (nx0 a ha)
  · refine rf hx ?_
    let S1 : St := wA S (upI F x 0 9) J (gR S)
    have frS : Fr (fun e => e = x ∨ WBr k br ra mv e) S S1 := fun a ha => by
      refine ⟨rfl, rfl, fun hw => ?_⟩
      have ax : a ≠ x := fun z => hw (Or.inl z)
      have fa := fr a (fun z => hw (Or.inr z))
      refine ⟨?_, fa.2, rfl⟩
      show upI F x 0 9 a = _
      rw [up_ne ax]; exact fa.1
    have kaS : ∀ a, kd S a ≠ 0 → a ≠ x → gI S1 a = F a ∧ gR S1 a = gR S a := fun a ha ax => ⟨up_ne ax, rfl⟩
    have kk := kaS k (by rw [k7]; decide) kx
    refine hq _ S1 frS (fun a ha ax => rfl) (fr x xW).2 (fun j hj => ?_) (fun j j7 j8 j9 => rfl) (fun Q2 h2 => ?_)
    · show upI F x 0 9 x j = _
      rw [up_no hj, (fr x xW).1]
    · have md := mdl S1 frS
      refine sm_book (S := S1) (t := t) (lm S1 frS) md.1 t9 (by omega) md.2 hrb (fun ho => by cases ho) (fun f' ho F' J' ma a0 j0 g10 g16 g17 g2 => ?_)
      cases ho
      refine h2 F' J' 0 ma ?_ ⟨?_, ?_⟩ (tail S1 F J frS kaS fr r4 f1 F' J' ma g10) (Or.inl ⟨rfl, a0, j0⟩)
      · rw [g2]; exact up_at.symm
      · rw [g16, kk.1]; exact f9.symm
      · rw [g17, kk.1]; exact f10.symm
end KB
