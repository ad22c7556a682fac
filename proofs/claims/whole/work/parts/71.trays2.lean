/-! Trays: the calls. -/
theorem upJ_at {J : Nat → Nat → Int64} {a j : Nat} {v : Int64} : upJ J a j v a j = v := by
  unfold upJ
  rw [va_up_self]
  exact pk_uLs
theorem upJ_no {J : Nat → Nat → Int64} {a j k : Nat} {v : Int64} (h : k ≠ j) : upJ J a j v a k = J a k := by
  unfold upJ
  rw [va_up_self]
  exact pk_uLn h
theorem upJ_ne {J : Nat → Nat → Int64} {a b j : Nat} {v : Int64} (h : b ≠ a) : upJ J a j v b = J b := va_up_ne _ _ h
theorem TrO.cg {S S' : St} {tr q a i : Nat} {am : Nat → Nat} {y : Yt} (h : TrO S tr q a am i y) (e1 : gR S' tr i = gR S tr i) (e5 : gI S' (am 5) i = gI S (am 5) i) (e6 : gI S' (am 6) i = gI S (am 6) i)
    (eq : y ≠ none → kd S' q = kd S q ∧ gI S' q 0 = gI S q 0 ∧ gR S' q 1 = gR S q 1 ∧ kd S' a = kd S a ∧ ln S' a = ln S a ∧ ∀ k, gJ S' a k = gJ S a k) (e7 : ∀ k, k < 60 → gJ S' (am 7) (60 * i + k) = gJ S (am 7) (60 * i + k)) : TrO S' tr q a am i y := by
  cases y with
  | none => exact ⟨e1.trans h.1, e6.trans h.2⟩
  | some t =>
    obtain ⟨s, n, v⟩ := t
    obtain ⟨g1, g2, g3, g4, g5, g6, g7, g8, g9, g10, g11⟩ := h
    obtain ⟨q1, q2, q3, q4, q5, q6⟩ := eq (fun c => by cases c)
    exact ⟨g1, g2, e1.trans g3, q1.trans g4, q2.trans g5, q3.trans g6, q4.trans g7, q5.trans g8, e5.trans g9, e6.trans g10, fun k hk => ⟨(q6 k).trans (g11 k hk).1, (e7 k (by omega)).trans (g11 k hk).2⟩⟩
def TrD (Y : Nat → Yt) (ta am : Nat → Nat) : Prop := (∀ i j, i < 4 → j < 4 → i ≠ j → Y i ≠ none → Y j ≠ none → ta i ≠ ta j) ∧ ∀ i f, i < 4 → Y i ≠ none → mk f ≠ 0 → ta i ≠ am f
theorem TrO.k {S : St} {tr q a i : Nat} {am : Nat → Nat} {y : Yt} (h : TrO S tr q a am i y) (hy : y ≠ none) : kd S q = 10 ∧ kd S a = 22 := by
  cases y with
  | none => exact absurd rfl hy
  | some t =>
    obtain ⟨s, n, v⟩ := t
    obtain ⟨g1, g2, g3, g4, g5, g6, g7, -⟩ := h
    exact ⟨g4, g7⟩
/-- what a tray keeps of a number -/
def cutV (w : Int64) (s : Nat) : Int64 := if s = 0 then w.toInt32.toInt8.toInt32.toInt64 else if s = 1 then w.toInt32.toInt16.toInt32.toInt64 else if s = 2 then w.toInt32.toInt64 else w
theorem sp_cut {w : Int64} {s : Nat} {Q : Int64 → Prop} (hs : s < 4) (hq : Q (cutV w s)) : P_X10_cut w (nI s) Q := by
  unfold cutV at hq
  refine ⟨fun e => ?_, fun e => ⟨fun e1 => ?_, fun e1 => ⟨fun e2 => ?_, fun e2 => ?_⟩⟩⟩
  · rw [if_pos ((nI_z (by omega)).mp e)] at hq; exact hq
  · have h0 : s ≠ 0 := fun c => e (by rw [c]; rfl)
    rw [if_neg h0, if_pos ((nI_eq (b := 1) (by omega) (by decide)).mp e1)] at hq; exact hq
  · have h0 : s ≠ 0 := fun c => e (by rw [c]; rfl)
    have h1 : s ≠ 1 := fun c => e1 (by rw [c]; rfl)
    rw [if_neg h0, if_neg h1, if_pos ((nI_eq (b := 2) (by omega) (by decide)).mp e2)] at hq; exact hq
  · have h0 : s ≠ 0 := fun c => e (by rw [c]; rfl)
    have h1 : s ≠ 1 := fun c => e1 (by rw [c]; rfl)
    have h2 : s ≠ 2 := fun c => e2 (by rw [c]; rfl)
    rw [if_neg h0, if_neg h1, if_neg h2] at hq; exact hq
theorem sm_cut {w : Int64} {s : Nat} {Q : Int64 → Prop} (hs : s < 4) (hq : Q (cutV w s)) : P_X12_cut w (nI s) Q := by
  obtain ⟨h1, h2⟩ := sp_cut hs hq
  exact ⟨fun e => ⟨fun e1 => ⟨fun e2 => ((h2 e).2 e1).2 e2, fun e2 => ((h2 e).2 e1).1 e2⟩, fun e1 => (h2 e).1 e1⟩, h1⟩
theorem ix60 (i k : Nat) : (60 : Int32) * nI i + nI k = nI (60 * i + k) := by
  show nI 60 * nI i + nI k = _
  rw [mulN, nI_add]
section TW
variable {S : St} {x b m tr : Nat} {am tq ta : Nat → Nat} {im : Nat → Prop} {B : Bk} {Y : Nat → Yt}
theorem TrX.st (h : CB S x b m am im B) (hY : TrX S x tr tq ta am Y) {J : Nat → Nat → Int64} {s : Int32} (hJ : ∀ i, i < 4 → Y i ≠ none → J (ta i) = gJ S (ta i)) (hJ7 : J (am 7) = gJ S (am 7)) : ∀ i, i < 4 → TrO (wA S (upI (gI S) x 0 s) J (gR S)) tr (tq i) (ta i) am i (Y i) := fun i hi => by
  have hy := hY.2.2.2 i hi
  refine hy.cg rfl ?_ ?_ (fun hne => ⟨rfl, ?_, rfl, rfl, rfl, fun k => ?_⟩) (fun k _ => ?_)
  · show upI (gI S) x 0 s (am 5) i = _
    rw [up_ne (x_am h.x h.L 5)]
  · show upI (gI S) x 0 s (am 6) i = _
    rw [up_ne (x_am h.x h.L 6)]
  · show upI (gI S) x 0 s (tq i) 0 = _
    rw [up_ne (fun e => by have := (hy.k hne).1; rw [e, h.x] at this; cases this)]
  · show J (ta i) k = _
    rw [hJ i hi hne]
  · show J (am 7) _ = _
    rw [hJ7]
theorem call_read {Q1 : Int64 → FI → Prop} (h : CB S x b m am im B) (hY : TrX S x tr tq ta am Y) (r p : Int32) (hq : ∀ v s, (∀ Q2 : Int64 → FI → Prop, (∀ F', Gd S x m am F' → Q2 v F') → P_X12_read m r p (wI S (upI (gI S) x 0 s)) Q2) → Q1 v (upI (gI S) x 0 s)) : P_X11_read x r p S Q1 := by
  rcases nr_case 4 (by decide) r with ⟨i, hi, rfl⟩ | hr
  · have hT : ∀ s, ∀ i, i < 4 → TrO (wI S (upI (gI S) x 0 s)) tr (tq i) (ta i) am i (Y i) := fun s => TrX.st (J := gJ S) h hY (fun _ _ _ => rfl) rfl
    refine ⟨h.x, xWp h.x hY hi ⟨fun e0 F eF => ?_, fun e0 => rf h.x (hq _ _ (fun Q2 h2 => ?_))⟩⟩
    · have w0 : wp Y i p = 0 := (nI_z (by have := wp_le Y i p; omega)).mp e0
      obtain ⟨s, n, v, k, hy, rfl, hk⟩ := wp_0 w0
      have hyi := hY.2.2.2 i hi
      rw [hy] at hyi
      obtain ⟨g1, g2, g3, g4, g5, g6, g7, g8, g9, g10, g11⟩ := hyi
      refine ⟨tr, hY.1, hY.2.1, by rw [hY.2.2.1]; exact vp_in_nI hi (by decide), tq i, by rw [nI_clamp (by omega)]; exact g3, g4, ta i, g6, g7, by rw [g8]; exact vp_in_nI hk (by omega), ?_⟩
      rw [nI_clamp (by omega), (g11 k hk).1, eF]
      refine hq _ _ (fun Q2 h2 => ⟨h.L.z, mWp (S := wI S (upI (gI S) x 0 0)) h.L (hT 0) hi (fun F2 e2 => ?_)⟩)
      have e22 : F2 m 2 = 0 := by rw [e2, up_at, w0]; rfl
      rw [e22, ix60]
      refine ⟨fun _ => ⟨am 7, h.L.r 7, h.L.k 7, h.L.i 7 (by show 60 * i + k < 240; omega), ?_⟩, fun c => absurd (by decide) c⟩
      rw [nI_clamp (by omega)]
      show Q2 (gJ S (am 7) (60 * i + k)) F2
      rw [(g11 k hk).2]
      refine h2 F2 ⟨0, ?_, e22⟩
      rw [e2]; exact Kp.fd 2
    · have wn : wp Y i p ≠ 0 := fun e => e0 (by rw [e]; rfl)
      have wl := wp_le Y i p
      refine ⟨h.L.z, mWp (S := wI S (upI (gI S) x 0 (nI (wp Y i p)))) h.L (hT _) hi (fun F2 e2 => ?_)⟩
      have e22 : F2 m 2 = nI (wp Y i p) := by rw [e2, up_at]
      rw [e22]
      refine ⟨fun c => absurd ((nI_leI (b := 0) (by omega) (by decide)).mp c) (by omega), fun _ => h2 F2 ⟨_, ?_, e22⟩⟩
      rw [e2]; exact Kp.fd 2
  · refine ⟨h.x, ⟨h.x, xTn hr ⟨fun c => absurd rfl c, fun _ => ⟨fun c => absurd c one0, fun _ => rf h.x (hq _ _ (fun Q2 h2 => ?_))⟩⟩⟩⟩
    refine ⟨h.L.z, ⟨h.L.z, mTn hr ⟨fun c => absurd rfl c, fun _ F2 e2 => ?_⟩⟩⟩
    have e22 : F2 m 2 = 1 := by rw [e2, up_at]
    rw [e22]
    refine ⟨fun c => absurd c (by decide), fun _ => h2 F2 ⟨1, ?_, e22⟩⟩
    rw [e2]; exact Kp.fd 2
/-- how the reference ends a call on trays -/
def ThY (S : St) (x m tr : Nat) (am tq ta : Nat → Nat) (Y : Nat → Yt) (s v : Int32) (P : (Int32 → FI → (Nat → Nat → Int64) → Prop) → Prop) : Prop := ∀ Q2 : Int32 → FI → (Nat → Nat → Int64) → Prop, (∀ F' J' Y', Kp tQ m am (upI (gI S) x 0 s) F' → F' m 2 = s → (∀ a, a ≠ am 7 → (∀ i, i < 4 → Y i ≠ none → a ≠ ta i) → J' a = gJ S a) → TrX (wA S F' J' (gR S)) x tr tq ta am Y' → (∀ i, Y' i = none ↔ Y i = none) → Q2 v F' J') → P Q2
/-- nothing but the status is another -/
theorem TrX.same (h : CB S x b m am im B) (hY : TrX S x tr tq ta am Y) {s : Int32} {F : FI} (hF : F = upI (upI (gI S) x 0 s) m 2 s) : TrX (wA S F (gJ S) (gR S)) x tr tq ta am Y := by
  refine ⟨hY.1, hY.2.1, hY.2.2.1, fun i hi => ?_⟩
  have hy := TrX.st (J := gJ S) (s := s) h hY (fun _ _ _ => rfl) rfl i hi
  refine hy.cg rfl ?_ ?_ (fun hne => ⟨rfl, ?_, rfl, rfl, rfl, fun k => rfl⟩) (fun k _ => rfl)
  · show F (am 5) i = upI (gI S) x 0 s (am 5) i
    rw [hF, up_ne (h.L.o 5)]
  · show F (am 6) i = upI (gI S) x 0 s (am 6) i
    rw [hF, up_ne (h.L.o 6)]
  · show F (tq i) 0 = upI (gI S) x 0 s (tq i) 0
    rw [hF, up_ne (fun e => by have := (hy.k hne).1; have hz := h.L.z; rw [← e] at hz; exact absurd (hz.symm.trans this) (by decide))]
theorem call_write {Q1 : Int32 → FI → (Nat → Nat → Int64) → Prop} (h : CB S x b m am im B) (hY : TrX S x tr tq ta am Y) (hD : TrD Y ta am) (r p : Int32) (w : Int64) (hq : ∀ v s J, ThY S x m tr am tq ta Y s v (P_X12_write m r p w (wA S (upI (gI S) x 0 s) J (gR S))) → Q1 v (upI (gI S) x 0 s) J) : P_X11_write x r p w S Q1 := by
  rcases nr_case 4 (by decide) r with ⟨i, hi, rfl⟩ | hr
  · refine ⟨h.x, xWp h.x hY hi ⟨fun e0 => ?_, fun e0 => ⟨h.x, fun F eF => ⟨Or.inl rfl, ?_⟩⟩⟩⟩
    · have w0 : wp Y i p = 0 := (nI_z (by have := wp_le Y i p; omega)).mp e0
      obtain ⟨s, n, v, k, hy, rfl, hk⟩ := wp_0 w0
      have hyn : Y i ≠ none := by rw [hy]; exact fun c => by cases c
      have hyi := hY.2.2.2 i hi
      rw [hy] at hyi
      obtain ⟨g1, g2, g3, g4, g5, g6, g7, g8, g9, g10, g11⟩ := hyi
      refine ⟨tr, hY.1, hY.2.1, by rw [hY.2.2.1]; exact vp_in_nI hi (by decide), tq i, by rw [nI_clamp (by omega)]; exact g3, g4, ta i, g6, ?_⟩
      rw [g5]
      refine sp_cut g1 ⟨g7, by rw [g8]; exact vp_in_nI hk (by omega), fun J eJ => ⟨h.x, fun F eF => ⟨Or.inr rfl, ?_⟩⟩⟩
      rw [nI_clamp (by omega)] at eJ
      rw [eF]
      refine hq _ _ _ (fun Q2 h2 => ?_)
      have a7 : ta i ≠ am 7 := hD.2 i 7 hi hyn (by decide)
      have J7 : J (am 7) = gJ S (am 7) := by rw [eJ, upJ_ne (Ne.symm a7)]
      have e5 : upI (gI S) x 0 0 (am 5) i = nI s := by rw [up_ne (x_am h.x h.L 5)]; exact g9
      have e6 : upI (gI S) x 0 0 (am 6) i = nI n := by rw [up_ne (x_am h.x h.L 6)]; exact g10
      refine ⟨h.L.z, ⟨h.L.z, mTy hi ⟨fun _ => ⟨am 6, h.L.r 6, h.L.k 6, h.L.i 6 (by show i < 4; omega), ?_⟩, fun c => absurd c one0⟩⟩⟩
      rw [nI_clamp (by omega)]
      show (¬ upI (gI S) x 0 0 (am 6) i = -1 → _) ∧ (upI (gI S) x 0 0 (am 6) i = -1 → _)
      rw [e6]
      refine ⟨fun _ => ⟨fun c => absurd c (nI_pos (by omega)), fun _ => ⟨fun _ => ?_, fun c => absurd ?_ c⟩⟩, fun c => absurd c (N_ne (by omega))⟩
      · refine ⟨fun J2 => J2 = upJ J (am 7) (60 * i + k) (cutV w s), ?_, fun c => absurd rfl c, fun _ => ⟨am 7, h.L.r 7, am 5, h.L.r 5, h.L.k 5, h.L.i 5 (by show i < 4; omega), ?_⟩⟩
        · rintro _ rfl
          refine ⟨h.L.z, fun F2 e2 => ⟨fun c => absurd rfl c, fun _ => ⟨Or.inr rfl, ?_⟩⟩⟩
          refine h2 F2 _ (fun j => if j = i then some (s, n, fun q => if q = k then cutV w s else v q) else Y j) (by rw [e2]; exact Kp.fd 2) (by rw [e2, up_at]) (fun a ha1 ha2 => by rw [upJ_ne ha1, eJ, upJ_ne (ha2 i hi hyn)]) ⟨hY.1, hY.2.1, hY.2.2.1, fun j hj => ?_⟩ (fun j => ?_)
          · have e2' : F2 = upI (upI (gI S) x 0 0) m 2 0 := e2
            have base := (TrX.same h hY e2').2.2.2 j hj
            by_cases c : j = i
            · subst c
              rw [hy] at base
              show TrO _ tr (tq j) (ta j) am j (if j = j then _ else _)
              rw [if_pos rfl]
              obtain ⟨q1, q2, q3, q4, q5, q6, q7, q8, q9, q10, q11⟩ := base
              refine ⟨q1, q2, q3, q4, q5, q6, q7, q8, q9, q10, fun q hqn => ⟨?_, ?_⟩⟩
              · show upJ J (am 7) (60 * j + k) (cutV w s) (ta j) q = if q = k then cutV w s else v q
                rw [upJ_ne a7, eJ]
                by_cases c2 : q = k
                · rw [c2, upJ_at, if_pos rfl]
                · rw [upJ_no c2, if_neg c2]; exact (g11 q hqn).1
              · show upJ J (am 7) (60 * j + k) (cutV w s) (am 7) (60 * j + q) = if q = k then cutV w s else v q
                by_cases c2 : q = k
                · rw [c2, upJ_at, if_pos rfl]
                · rw [upJ_no (by omega), J7, if_neg c2]; exact (g11 q hqn).2
            · show TrO _ tr (tq j) (ta j) am j (if j = i then _ else _)
              rw [if_neg c]
              refine base.cg rfl rfl rfl (fun hne => ⟨rfl, rfl, rfl, rfl, rfl, fun q => ?_⟩) (fun q hq => ?_)
              · show upJ J (am 7) (60 * i + k) (cutV w s) (ta j) q = gJ S (ta j) q
                rw [upJ_ne (hD.2 j 7 hj hne (by decide)), eJ, upJ_ne (hD.1 j i hj hi c hne hyn)]
              · show upJ J (am 7) (60 * i + k) (cutV w s) (am 7) (60 * j + q) = gJ S (am 7) (60 * j + q)
                rw [upJ_no (by omega), J7]
          · show (if j = i then _ else Y j) = none ↔ _
            by_cases c : j = i
            · rw [if_pos c, c]
              exact ⟨fun e => (by cases e), fun e => absurd e hyn⟩
            · rw [if_neg c]
        · show P_X12_cut w (upI (gI S) x 0 0 (am 5) i) _
          rw [e5]
          refine sm_cut g1 ⟨h.L.k 7, ?_⟩
          rw [ix60]
          refine ⟨h.L.i 7 (by show 60 * i + k < 240; omega), fun J2 e2 => ?_⟩
          rw [nI_clamp (by omega)] at e2
          exact e2
      · show nI k < upI (gI S) x 0 0 (am 6) i
        rw [e6]; exact nI_lt hk (by omega)
    · rw [eF]
      have wn : wp Y i p ≠ 0 := fun e => e0 (by rw [e]; rfl)
      have hT : ∀ i, i < 4 → TrO (wA S (upI (gI S) x 0 (nI (wp Y i p))) (gJ S) (gR S)) tr (tq i) (ta i) am i (Y i) := fun j => TrX.st (J := gJ S) h hY (fun _ _ _ => rfl) rfl j
      refine hq _ _ _ (fun Q2 h2 => ⟨h.L.z, mWp (S := wA S (upI (gI S) x 0 (nI (wp Y i p))) (gJ S) (gR S)) h.L (TrX.st (J := gJ S) h hY (fun _ _ _ => rfl) rfl) hi ⟨fun J2 => J2 = gJ S, ?_, fun _ => rfl, fun c => absurd c e0⟩⟩)
      rintro _ rfl
      refine ⟨h.L.z, fun F2 e2 => ⟨fun _ => ⟨Or.inl rfl, ?_⟩, fun c => absurd c e0⟩⟩
      have e2' : F2 = upI (upI (gI S) x 0 (nI (wp Y i p))) m 2 (nI (wp Y i p)) := e2
      exact h2 F2 _ Y (by rw [e2']; exact Kp.fd 2) (by rw [e2', up_at]) (fun _ _ _ => rfl) (TrX.same h hY e2') (fun _ => Iff.rfl)
  · refine ⟨h.x, ⟨h.x, xTn hr ⟨fun c => absurd rfl c, fun _ => ⟨fun c => absurd c one0, fun _ => ⟨h.x, fun F eF => ⟨Or.inl rfl, ?_⟩⟩⟩⟩⟩⟩
    rw [eF]
    refine hq _ _ _ (fun Q2 h2 => ⟨h.L.z, ⟨h.L.z, mTn hr ⟨fun c => absurd rfl c, fun _ => ⟨fun J2 => J2 = gJ S, ?_, fun _ => rfl, fun c => absurd c one0⟩⟩⟩⟩)
    rintro _ rfl
    refine ⟨h.L.z, fun F2 e2 => ⟨fun _ => ⟨Or.inl rfl, ?_⟩, fun c => absurd c one0⟩⟩
    have e2' : F2 = upI (upI (gI S) x 0 1) m 2 1 := e2
    exact h2 F2 _ Y (by rw [e2']; exact Kp.fd 2) (by rw [e2', up_at]) (fun _ _ _ => rfl) (TrX.same h hY e2') (fun _ => Iff.rfl)
end TW
