/-! Feeding the tape. -/
def byt (ps : Nat → Int32) (u : Nat) : Int32 := (ushr (ps (u / 4)) (nI (24 - 8 * (u % 4)))).toInt8.toInt32
/-- j ints put behind t, as bytes -/
def FX (G : FI) (k tt s t : Nat) (ps : Nat → Int32) (j : Nat) (F : FI) : Prop := (∀ a, a ≠ k → a ≠ tt → F a = G a) ∧ (∀ i, i ≠ s → F k i = G k i) ∧ F k s = nI (t + 4 * j) ∧ ∀ z, F tt z = if t ≤ z ∧ z < t + 4 * j then byt ps (z - t) else G tt z
theorem FX.step {G F F' : FI} {k tt s t j : Nat} {ps : Nat → Int32} (h : FX G k tt s t ps j F) (h1 : ∀ a, a ≠ k → a ≠ tt → F' a = F a) (h2 : ∀ i, i ≠ s → F' k i = F k i) (h3 : F' k s = nI (t + 4 * j + 4)) (h4 : ∀ z, F' tt z = if t + 4 * j ≤ z ∧ z < t + 4 * j + 4 then (ushr (ps j) (nI (24 - 8 * (z - (t + 4 * j))))).toInt8.toInt32 else F tt z) : FX G k tt s t ps (j + 1) F' := by
  obtain ⟨g1, g2, g3, g4⟩ := h
  refine ⟨fun a y1 y2 => (h1 a y1 y2).trans (g1 a y1 y2), fun i hi => (h2 i hi).trans (g2 i hi), h3, fun z => ?_⟩
  rw [h4, g4]
  by_cases c : t + 4 * j ≤ z ∧ z < t + 4 * j + 4
  · rw [if_pos c, if_pos (by omega)]
    unfold byt
    rw [show (z - t) / 4 = j by omega, show (z - t) % 4 = z - (t + 4 * j) by omega]
  · rw [if_neg c]
    by_cases c2 : t ≤ z ∧ z < t + 4 * j
    · rw [if_pos c2, if_pos (by omega)]
    · rw [if_neg c2, if_neg (by omega)]
section FD
variable {S : St} {x k tt m t : Nat} {am : Nat → Nat} {Q1 : Int32 → FI → Prop}
theorem call_feed (hx : kd S x = 11) (hL : LM S m am) (hT : TpX S x k tt m am t) (hta : ∀ f, mk f ≠ 0 → am f ≠ tt) (p0 p1 p2 p3 p4 : Int32)
    (hq : ∀ v F, (∀ Q2 : Int32 → FI → Prop, (∀ F' t', (∀ a, a ≠ k → a ≠ tt → a ≠ m → a ≠ am 8 → F' a = gI S a) → (∀ j, j ≠ 1 → F' k j = gI S k j) → (∀ j, j ≠ 10 → F' m j = gI S m j) → TpX (wI S F') x k tt m am t' → Q2 v F') → P_X12_feed m p0 p1 p2 p3 p4 (wI S F) Q2) → Q1 v F) : P_X11_feed x p0 p1 p2 p3 p4 S Q1 := by
  have hT' := hT
  obtain ⟨r4, k7, rt, kt, lt, t8, t9, h1, h10, hby⟩ := hT'
  have km : k ≠ m := fun e => by have := hL.z; rw [← e, k7] at this; cases this
  have tm : tt ≠ m := fun e => by have := hL.z; rw [← e, kt] at this; cases this
  have ka : ∀ f, mk f ≠ 0 → am f ≠ k := fun f hf e => by
    have := hL.k f hf
    rw [e, k7] at this
    have z : ∀ f, mk f ≠ 7 := fun f => by
      rcases Nat.lt_or_ge f 51 with h | h
      · have : ∀ f, f < 51 → mk f ≠ 7 := by decide
        exact this f h
      · rw [mk_big h]; decide
    exact z f this.symm
  refine ⟨hx, k, r4, k7, ?_⟩
  rw [h1]
  by_cases c : t ≤ 880
  · refine ⟨fun _ => ?_, fun y => absurd (nI_le (b := 880) c (by decide)) y⟩
    obtain ⟨ps, hps⟩ : ∃ ps : Nat → Int32, ps = fun j => if j = 0 then p0 else if j = 1 then p1 else if j = 2 then p2 else if j = 3 then p3 else p4 := ⟨_, rfl⟩
    have q0 : p0 = ps 0 := by rw [hps]; rfl
    have q1 : p1 = ps 1 := by rw [hps]; rfl
    have q2 : p2 = ps 2 := by rw [hps]; rfl
    have q3 : p3 = ps 3 := by rw [hps]; rfl
    have q4 : p4 = ps 4 := by rw [hps]; rfl
    rw [q0, q1, q2, q3, q4] at hq ⊢
    have z0 : FX (gI S) k tt 1 t ps 0 (gI S) := ⟨fun _ _ _ => rfl, fun _ _ => rfl, h1, fun z => by rw [if_neg (by omega)]⟩
    refine sp_tapeInt (t := t + 4 * 0) k7 rt kt lt (by omega) h1 (fun F1 a1 b1 c1 d1 => ?_)
    have z1 := z0.step a1 b1 c1 d1
    refine sp_tapeInt (S := wI S F1) (t := t + 4 * 1) k7 rt kt lt (by omega) z1.2.2.1 (fun F2 a2 b2 c2 d2 => ?_)
    have z2 := z1.step a2 b2 c2 d2
    refine sp_tapeInt (S := wI S F2) (t := t + 4 * 2) k7 rt kt lt (by omega) z2.2.2.1 (fun F3 a3 b3 c3 d3 => ?_)
    have z3 := z2.step a3 b3 c3 d3
    refine sp_tapeInt (S := wI S F3) (t := t + 4 * 3) k7 rt kt lt (by omega) z3.2.2.1 (fun F4 a4 b4 c4 d4 => ?_)
    have z4 := z3.step a4 b4 c4 d4
    refine sp_tapeInt (S := wI S F4) (t := t + 4 * 4) k7 rt kt lt (by omega) z4.2.2.1 (fun F5 a5 b5 c5 d5 => ?_)
    have z5 := z4.step a5 b5 c5 d5
    obtain ⟨g1, g2, g3, g4⟩ := z5
    rw [show F5 k 1 = nI (t + 20) from g3]
    refine hq _ _ (fun Q2 h2 => ⟨hL.z, ?_⟩)
    have m10 : F5 m 10 = nI t := by rw [g1 m (Ne.symm km) (Ne.symm tm)]; exact h10
    have e10 : gI (wI S F5) m 10 + 20 = nI (t + 20) := by show F5 m 10 + nI 20 = _; rw [m10, nI_add]
    rw [e10]
    refine ⟨fun _ => ?_, fun y => absurd (nI_le (b := 900) (by omega) (by decide)) y⟩
    have w0 : FX F5 m (am 8) 10 t ps 0 F5 := ⟨fun _ _ _ => rfl, fun _ _ => rfl, m10, fun z => by rw [if_neg (by omega)]⟩
    refine sm_four (S := wI S F5) (t := t + 4 * 0) hL (by omega) m10 (fun H1 a1 b1 c1 d1 => ?_)
    have w1 := w0.step a1 b1 c1 d1
    refine sm_four (S := wI S H1) (t := t + 4 * 1) hL (by omega) w1.2.2.1 (fun H2 a2 b2 c2 d2 => ?_)
    have w2 := w1.step a2 b2 c2 d2
    refine sm_four (S := wI S H2) (t := t + 4 * 2) hL (by omega) w2.2.2.1 (fun H3 a3 b3 c3 d3 => ?_)
    have w3 := w2.step a3 b3 c3 d3
    refine sm_four (S := wI S H3) (t := t + 4 * 3) hL (by omega) w3.2.2.1 (fun H4 a4 b4 c4 d4 => ?_)
    have w4 := w3.step a4 b4 c4 d4
    refine sm_four (S := wI S H4) (t := t + 4 * 4) hL (by omega) w4.2.2.1 (fun H5 a5 b5 c5 d5 => ?_)
    have w5 := w4.step a5 b5 c5 d5
    obtain ⟨u1, u2, u3, u4⟩ := w5
    rw [show H5 m 10 = nI (t + 20) from u3]
    have k8 : k ≠ am 8 := Ne.symm (ka 8 (by decide))
    have t8' : tt ≠ am 8 := t8
    have hk : H5 k = F5 k := u1 k km k8
    have ht : H5 tt = F5 tt := u1 tt tm t8'
    refine h2 H5 (t + 20) (fun a y1 y2 y3 y4 => (u1 a y3 y4).trans (g1 a y1 y2)) (fun j hj => by rw [hk]; exact g2 j hj) (fun j hj => by rw [u2 j hj, g1 m (Ne.symm km) (Ne.symm tm)]) ⟨r4, k7, rt, kt, lt, t8, by omega, ?_, u3, fun j hj => ?_⟩
    · show H5 k 1 = _
      rw [hk]; exact g3
    · show H5 tt j = H5 (am 8) j ∧ ∃ w : Int8, H5 tt j = w.toInt32
      rw [ht, g4, u4]
      by_cases cj : t ≤ j ∧ j < t + 4 * (4 + 1)
      · rw [if_pos cj, if_pos cj]
        exact ⟨rfl, _, rfl⟩
      · rw [if_neg cj, if_neg cj, g1 _ (ka 8 (by decide)) (hta 8 (by decide))]
        exact hby j (by omega)
  · refine ⟨fun y => absurd ((nI_leI (b := 880) (by omega) (by decide)).mp y) c, fun _ => hq _ _ (fun Q2 h2 => ⟨hL.z, ?_⟩)⟩
    have e10 : gI (wI S (gI S)) m 10 + 20 = nI (t + 20) := by show gI S m 10 + nI 20 = _; rw [h10, nI_add]
    rw [e10]
    exact ⟨fun y => absurd ((nI_leI (b := 900) (by omega) (by decide)).mp y) (by omega), fun _ => h2 (gI S) t (fun _ _ _ _ _ => rfl) (fun _ _ => rfl) (fun _ _ => rfl) hT⟩
end FD
