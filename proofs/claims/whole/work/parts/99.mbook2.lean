/-! The reference reads a book, item by item. -/
def P_bkl (th a_7 : Nat) (x0 : Int32) (F_13 : Nat → Nat → Int32) (S : St) (Q : Int32 → (Nat → Nat → Int32) → (Nat → Nat → Int64) → Prop) : Prop := (∃ I_15 : Nat → Int32 → (Nat → Nat → Int32) → (Nat → Nat → Int64) → Prop, (∃ k : Nat, I_15 k x0 F_13 (gJ S)) ∧ ∀ (n_15 : Nat) (x2_16 : Int32) (F_17 : Nat → Nat → Int32) (J_18 : Nat → Nat → Int64), I_15 n_15 x2_16 F_17 J_18 → (∃ J_20 : Prop, (J_20 → (∃ J_22 : (Nat → Nat → Int32) → (Nat → Nat → Int64) → Prop, (∀ (F_23 : Nat → Nat → Int32) (J_24 : Nat → Nat → Int64), J_22 F_23 J_24 → (vp_in 1 (ln S a_7) ∧ (P_X12_taken th (F_23 a_7 1) (wA S F_23 J_24 (gR S)) (fun (r_26 : Int32) (F_26 : Nat → Nat → Int32) => Q r_26 F_26 J_24)))) ∧ ((¬ (F_17 th 18) = 0 → J_22 F_17 J_18) ∧ ((F_17 th 18) = 0 → (∃ I_27 : Nat → Int32 → (Nat → Nat → Int32) → Prop, (∃ k : Nat, I_27 k 0 F_17) ∧ ∀ (n_27 : Nat) (x3_28 : Int32) (F_29 : Nat → Nat → Int32), I_27 n_27 x3_28 F_29 → ((2420 ≤ x3_28 → (∃ I_31 : Nat → Int32 → (Nat → Nat → Int64) → Prop, (∃ k : Nat, I_31 k 0 J_18) ∧ ∀ (n_31 : Nat) (x3_32 : Int32) (J_33 : Nat → Nat → Int64), I_31 n_31 x3_32 J_33 → ((12 ≤ x3_32 → J_22 F_29 J_33) ∧ (¬ 12 ≤ x3_32 → (∃ a_35 : Nat, gR S th 1 = some a_35 ∧ (kd S a_35 = 22 ∧ (vp_in (48 + x3_32) (ln S a_35) ∧ (vp_in x3_32 (ln S a_35) ∧ (∀ v_39 : Int64, v_39 = J_33 a_35 ((48 + x3_32).toNatClampNeg) → (∀ J_40 : Nat → Nat → Int64, J_40 = upJ J_33 a_35 x3_32.toNatClampNeg v_39 → (∀ v_41 : Int32, v_41 = x3_32 + 1 → (∃ k : Nat, k < n_31 ∧ I_31 k v_41 J_40)))))))))))) ∧ (¬ 2420 ≤ x3_28 → (vp_in (9680 + x3_28) (ln S a_7) ∧ (vp_in x3_28 (ln S a_7) ∧ (∀ v_44 : Int32, v_44 = F_29 a_7 ((9680 + x3_28).toNatClampNeg) → (∀ F_45 : Nat → Nat → Int32, F_45 = upI F_29 a_7 x3_28.toNatClampNeg v_44 → (∀ v_46 : Int32, v_46 = x3_28 + 1 → (∃ k : Nat, k < n_27 ∧ I_27 k v_46 F_45))))))))))))) ∧ ((x2_16 = 0 → J_20) ∧ (¬ x2_16 = 0 → (((F_17 th 12) = 0 → J_20) ∧ (¬ (F_17 th 12) = 0 → (P_X12_bookPart th (wA S F_17 J_18 (gR S)) (fun (r_48 : Int32) (F_48 : Nat → Nat → Int32) (J_48 : Nat → Nat → Int64) => (∃ k : Nat, k < n_15 ∧ I_15 k r_48 F_48 J_48)))))))))
theorem sb_cast : ∀ c, c < 256 → (sb c).toInt8.toInt32 = sb c := by decide +kernel
section BP
variable {S : St} {m : Nat} {am : Nat → Nat} {tx : Nat → Nat} {L p : Nat} {B : Bk} {R : Nat} {rn : Nat → List Nat}
theorem sm_aRinger {Q : Int32 → FI → FJ → Prop} {o : Option Nat} {q : Nat} (hL : LM S m am) (hX : TxM (gI S) m am tx L) (hT : TkM (gI S) m tx L p) (hp : p ≤ L) (h18 : gI S m 18 = 0) (hR : RdM (gI S) (gJ S) am B R rn) (hO : OkB B R rn) (hR8 : R < 8) (h7 : tk tx L p = 12) (hr : thn (rNN tx L (usedN B R rn) (nx tx L p)) (fun q1 => thn (rNB (bn B) tx L B q1) (rSG tx L)) o q)
    (hy : ∀ q5 F J, rSG tx L q5 o q → q5 ≤ L → MbF m am (gI S) F (gJ S) J → F m 18 = 0 → F m 17 = gI S m 17 → TkM F m tx L q5 → p < q5 → RdM F J am (addR B (vl' tx L (nx tx L (nx tx L p)) - 1)) (R + 1) (setg rn R (wd tx L (nx tx L p))) → OkB (addR B (vl' tx L (nx tx L (nx tx L p)) - 1)) (R + 1) (setg rn R (wd tx L (nx tx L p))) → Q 1 F J)
    (hf : ∀ f F J, o = some f → MbF m am (gI S) F (gJ S) J → F m 18 = nI f → F m 17 = nI (sk tx L q) → Q 0 F J) : P_X12_aRinger m S Q := by
  obtain ⟨⟨b0, b1, b3, bm⟩, r2, r4, r6, rN1, rN2⟩ := hR
  obtain ⟨ob, oR, on1, on2⟩ := hO
  have n4 := ob.1
  have n8 := ob.2.1
  have hM4 := ob.2.2.1
  have b0' : gI S (am 0) 9680 = nI (bn B) := b0
  have b1' : gI S (am 0) 9681 = nI (bM B) := b1
  have b3' : gI S (am 0) 9683 = msk (brr B) (bn B) := b3
  obtain ⟨o1, q1, hnn, hc1⟩ := hr
  have nl1 := nx_le (tx := tx) hp
  have pp1 : p < nx tx L p := nl1.2.2.2.1 (by omega)
  have nl2 := nx_le (tx := tx) nl1.2.2.1
  refine ⟨hL.z, am 0, hL.r 0, hL.k 0, hL.i 0 (p := 9682) (by decide), ?_⟩
  rw [r2]
  refine ⟨fun _ => ?_, fun y => absurd ((nI_eq (b := 8) (by omega) (by decide)).mp y) (by omega)⟩
  rw [show (4 : Int32) + nI R = nI (4 + R) from nI_add 4 R]
  refine sm_newName (B := B) (R := R) (rn := rn) (base := 4 + R) hL hX hT hp h18 b1' r2 hM4 oR (by omega) rN1 rN2 on1 on2 hnn (fun h1 hq1 e4w F5 J5 af5 e5 t5 => ⟨fun _ => ?_, fun y => absurd y one0⟩) (fun f h1 F mb f18 f17 => ⟨fun y => absurd rfl y, fun _ => ?_⟩)
  case refine_2 =>
    obtain ⟨y1, y2⟩ := thn_some hc1 h1
    exact hf f F (gJ S) y1 mb f18 (by rw [y2]; exact f17)
  obtain ⟨o2, q2, hnb, hc2⟩ := thn_none hc1 h1
  have q1L : q1 ≤ L := by rw [hq1]; exact nl2.2.2.1
  have nl3 := nx_le (tx := tx) q1L
  have mb5 : MbF m am (gI S) F5 (gJ S) J5 := (MbF.ah hL af5).tr (by rw [e5]; exact MbF.uJ (by omega))
  have f518 : F5 m 18 = 0 := by rw [af5.2 18 (by decide) (by decide) (by decide) (by decide)]; exact h18
  have f517 : F5 m 17 = gI S m 17 := af5.2 17 (by decide) (by decide) (by decide) (by decide)
  have a5 : F5 (am 0) = gI S (am 0) := af5.1 _ (hL.o 0)
  have X5 := hX.ah hL af5
  have t17 := tk_17 (tx := tx) (L := L) q1
  rw [t5.2.2.1, mtc_3 t17, a5, b0', b3']
  refine ⟨fun e3 => ?_, fun e3 => ?_⟩
  · have vlt := vlx_lt e3
    rw [t5.2.2.2.1 e3]
    refine ⟨¬ (1 ≤ vl' tx L q1 ∧ vl' tx L q1 ≤ bn B), fun hbad => ?_, fun y z => absurd y (nI_nlt (b := 1) z.1 (by omega)), fun y1 => ⟨hL.i 0 (p := 9680) (by decide), fun y2 => ⟨hL.i 0 (p := 9683) (by decide), ?_⟩, fun y2 z => absurd (nI_le z.2 (by omega)) y2⟩⟩
    · have hh : o2 = some 4 ∧ q2 = q1 := by
        rcases hnb with ⟨-, y, -⟩ | ⟨-, y, -⟩ | ⟨-, -, y1, y2⟩ | ⟨y, -⟩
        · exact absurd y hbad
        · exact absurd y hbad
        · exact ⟨y1, y2⟩
        · exact absurd e3 y
      obtain ⟨w1, w2⟩ := thn_some hc2 hh.1
      exact sm_fails (S := wA S F5 J5 (gR S)) (kn := 4) hL t5 f518 (fun F fl => ⟨Or.inl rfl, hf 4 F J5 w1 (mb5.tr (MbF.fl hL fl)) (by rw [fl.2.2.1, if_neg (by omega)]) (by rw [w2, hh.2]; exact fl.2.2.2)⟩)
    · have v1 : 1 ≤ vl' tx L q1 := by
        rcases Nat.lt_or_ge (vl' tx L q1) 1 with z | z
        · exact absurd (nI_lt (b := 1) z (by decide)) y1
        · exact z
      have v2 : vl' tx L q1 ≤ bn B := (nI_leI (by omega) (by omega)).mp y2
      rw [sub1 v1, tb2 (by omega), msk_bt _ _ (by omega), decide_eq_true (show vl' tx L q1 - 1 < bn B by omega), Bool.true_and]
      refine ⟨fun hz v15 e15 F16 e16 => ?_, fun hz => ?_⟩
      · have hz' := ts_nt hz
        have hh : o2 = none ∧ q2 = nx tx L q1 := by
          rcases hnb with ⟨-, -, -, y1, y2⟩ | ⟨-, -, y, -⟩ | ⟨-, y, -⟩ | ⟨y, -⟩
          · exact ⟨y1, y2⟩
          · rw [hz'] at y; cases y
          · exact absurd ⟨v1, v2⟩ y
          · exact absurd e3 y
        have hsg := thn_none hc2 hh.1
        have m16 : F16 m = F5 m := by rw [e16, up_ne (Ne.symm (hL.o 0))]
        have mb16 : MbF m am (gI S) F16 (gJ S) J5 := mb5.tr (by rw [e16]; exact MbF.u0 hL (by decide))
        refine sm_ahead (S := wA S F16 J5 (gR S)) hL (hX.mb hL mb16) (by show F16 m 14 = _; rw [m16]; exact t5.2.1) nl3.2.2.1 (fun F17 af17 t17' v18 e18 F19 e19 => ?_)
        have af17' : AhF m F16 F17 := af17
        have a17 : F17 (am 0) = F16 (am 0) := af17'.1 _ (hL.o 0)
        have v18e : v18 = nI (R + 1) := by rw [e18, a17, e16, up_no (by decide), a5, r2, nI_1]
        have lo : ∀ i, i ≠ 9682 → i ≠ 9683 → F19 (am 0) i = gI S (am 0) i := fun i h1 h2 => by rw [e19, up_no h1, a17, e16, up_no h2, a5]
        have m19 : F19 m = F17 m := by rw [e19, up_ne (Ne.symm (hL.o 0))]
        have w4' : 4 ≤ tk tx L (nx tx L p) := by omega
        obtain ⟨wo, wl'⟩ := wd_ok w4'
        have w8 : (wd tx L (nx tx L p)).length ≤ 8 := by
          obtain ⟨-, -, -, -, x5⟩ := tk_word w4'
          rw [wl']
          by_cases c : nx tx L (nx tx L p) - sk tx L (nx tx L p) ≤ 8
          · exact c
          · rw [if_neg c] at x5; omega
        refine hy q2 F19 J5 hsg (by rw [hh.2]; exact nl3.2.2.1) ((mb16.tr (MbF.ah hL af17')).tr (by rw [e19]; exact MbF.u0 hL (by decide))) ?_ ?_ ?_ (by rw [hh.2]; omega) ⟨⟨?_, ?_, ?_, fun i hi => ?_⟩, ?_, ?_, ?_, fun i hi => ?_, fun i hi => ?_⟩ ⟨ob, by omega, on1, fun i hi => ?_⟩
        · rw [m19, af17'.2 18 (by decide) (by decide) (by decide) (by decide), m16]; exact f518
        · rw [m19, af17'.2 17 (by decide) (by decide) (by decide) (by decide), m16]; exact f517
        · rw [hh.2]; exact t17'.cg m19
        · show F19 (am 0) 9680 = _
          rw [lo 9680 (by decide) (by decide)]; exact b0
        · show F19 (am 0) 9681 = _
          rw [lo 9681 (by decide) (by decide)]; exact b1
        · show F19 (am 0) 9683 = msk (fun q => brr B q || decide (q = vl' tx L (nx tx L (nx tx L p)) - 1)) (bn B)
          rw [e19, up_no (by decide), a17, e16, up_at, e15, ← hq1]
          exact msk_or n8 (by omega)
        · have hi2 : i < bM B := hi
          obtain ⟨u1, u2, u3, u4⟩ := bm i hi2
          have bl2 := (bl_32 ob hi2).2
          refine ⟨?_, fun k hk => ?_, ?_, ?_⟩
          · show F19 (am 0) (9680 + (10 + 40 * i)) = _
            rw [lo _ (by omega) (by omega)]; exact u1
          · show F19 (am 0) (9680 + (10 + 40 * i + (1 + k))) = _
            rw [lo _ (by omega) (by omega)]; exact u2 k hk
          · show F19 (am 0) (9680 + (10 + 40 * i + 33)) = _
            rw [lo _ (by omega) (by omega)]; exact u3
          · show F19 (am 0) (9680 + (10 + 40 * i + 34)) = _
            rw [lo _ (by omega) (by omega)]; exact u4
        · rw [e19, up_at]; exact v18e
        · rw [lo 9684 (by decide) (by decide)]; exact r4
        · rw [lo 9686 (by decide) (by decide)]; exact r6
        · have hi2 : i < bM B := hi
          rw [e5, upJ_no (by omega)]; exact rN1 i hi2
        · show J5 (am 1) (52 + i) = n256 (setg rn R (wd tx L (nx tx L p)) i)
          rw [e5]
          by_cases ci : i = R
          · rw [ci, show 52 + R = 48 + (4 + R) by omega, upJ_at, setg_at]
          · rw [upJ_no (by omega), setg_no ci]; exact rN2 i (by omega)
        · show wok (setg rn R (wd tx L (nx tx L p)) i) ∧ (setg rn R (wd tx L (nx tx L p)) i).length ≤ 8
          by_cases ci : i = R
          · rw [ci, setg_at]; exact ⟨wo, w8⟩
          · rw [setg_no ci]; exact on2 i (by omega)
      · have hh : o2 = some 5 ∧ q2 = q1 := by
          rcases hnb with ⟨-, -, y, -⟩ | ⟨-, -, -, y1, y2⟩ | ⟨-, y, -⟩ | ⟨y, -⟩
          · rw [hz] at y; cases y
          · exact ⟨y1, y2⟩
          · exact absurd ⟨v1, v2⟩ y
          · exact absurd e3 y
        obtain ⟨w1, w2⟩ := thn_some hc2 hh.1
        exact sm_fails (S := wA S F5 J5 (gR S)) (kn := 5) hL t5 f518 (fun F fl => ⟨Or.inl rfl, hf 5 F J5 w1 (mb5.tr (MbF.fl hL fl)) (by rw [fl.2.2.1, if_neg (by omega)]) (by rw [w2, hh.2]; exact fl.2.2.2)⟩)
  · have hh : o2 = some (mis tx L q1) ∧ q2 = q1 := by
      rcases hnb with ⟨y, -⟩ | ⟨y, -⟩ | ⟨y, -⟩ | ⟨-, y1, y2⟩
      · exact absurd y e3
      · exact absurd y e3
      · exact absurd y e3
      · exact ⟨y1, y2⟩
    obtain ⟨w1, w2⟩ := thn_some hc2 hh.1
    exact sm_fails (S := wA S F5 J5 (gR S)) (kn := 2) hL t5 f518 (fun F fl => ⟨Or.inl rfl, hf _ F J5 w1 (mb5.tr (MbF.fl hL fl)) fl.2.2.1 (by rw [w2, hh.2]; exact fl.2.2.2)⟩)
theorem sm_bookPart {Q : Int32 → FI → FJ → Prop} {o : Option Nat} {q : Nat} {s' : Sb} (hL : LM S m am) (hX : TxM (gI S) m am tx L) (hT : TkM (gI S) m tx L p) (hp : p ≤ L) (h18 : gI S m 18 = 0) (hR : RdM (gI S) (gJ S) am B R rn) (hO : OkB B R rn) (hr : rIt tx L (p, B, R, rn) o q s')
    (hy : o = none → ∀ F J, MbF m am (gI S) F (gJ S) J → F m 18 = 0 → F m 17 = gI S m 17 → q ≤ L → p < q → TkM F m tx L q → RdM F J am s'.2.1 s'.2.2.1 s'.2.2.2 → OkB s'.2.1 s'.2.2.1 s'.2.2.2 → Q 1 F J)
    (hf : ∀ f F J, o = some f → MbF m am (gI S) F (gJ S) J → F m 18 = nI f → F m 17 = nI (sk tx L q) → Q 0 F J) : P_X12_bookPart m S Q := by
  have t17 := tk_17 (tx := tx) (L := L) p
  refine ⟨hL.z, sm_inWords hL hX hT ?_⟩
  rw [show (1 : Int32) = nI 1 from rfl, show (2 : Int32) = nI 2 from rfl, mki_eq t17 (by decide), mki_eq t17 (by decide), show 6 + cmi 1 = 7 from rfl, show 6 + cmi 2 = 12 from rfl]
  -- the sign behind
  have sgn : ∀ F6 J7, (∃ q5, rSG tx L q5 o q ∧ q5 ≤ L ∧ p < q5 ∧ MbF m am (gI S) F6 (gJ S) J7 ∧ F6 m 18 = 0 ∧ F6 m 17 = gI S m 17 ∧ TkM F6 m tx L q5 ∧ (o = none → RdM F6 J7 am s'.2.1 s'.2.2.1 s'.2.2.2 ∧ OkB s'.2.1 s'.2.2.1 s'.2.2.2)) → P_X12_wantSign m 59 (wA S F6 J7 (gR S)) (fun r F => (r = 0 → Q 0 F J7) ∧ (¬ r = 0 → Q 1 F J7)) := fun F6 J7 ⟨q5, hsg, q5L, pq5, mb, f18, f17, t5, hrd⟩ => by
    have nl := nx_le (tx := tx) q5L
    refine sm_wantSign (S := wA S F6 J7 (gR S)) hL (hX.mb hL mb) t5 q5L f18 hsg (fun ho qe ne F af t => ⟨fun y => absurd y one0, fun _ => ?_⟩) (fun f ho F fl x18 x17 => ⟨fun _ => ?_, fun y => absurd rfl y⟩)
    · obtain ⟨rd, ok⟩ := hrd ho
      have a0 : F (am 0) = F6 (am 0) := af.1 _ (hL.o 0)
      refine hy ho F J7 (mb.tr (MbF.ah hL af)) ?_ ?_ (by rw [qe]; exact nl.2.2.1) (by rw [qe]; omega) t ?_ ok
      · rw [af.2 18 (by decide) (by decide) (by decide) (by decide)]; exact f18
      · rw [af.2 17 (by decide) (by decide) (by decide) (by decide)]; exact f17
      · unfold RdM at rd ⊢
        rw [a0]; exact rd
    · obtain ⟨kn, fl⟩ := fl
      exact hf f F J7 ho (mb.tr (MbF.fl hL fl)) x18 x17
  rcases hr with ⟨h7, hr⟩ | ⟨h12, hr⟩ | ⟨h7, h12, ho, hq⟩
  · refine ⟨True, fun _ => ⟨fun F6 J7 => (∃ q5, rSG tx L q5 o q ∧ q5 ≤ L ∧ p < q5 ∧ MbF m am (gI S) F6 (gJ S) J7 ∧ F6 m 18 = 0 ∧ F6 m 17 = gI S m 17 ∧ TkM F6 m tx L q5 ∧ (o = none → RdM F6 J7 am s'.2.1 s'.2.2.1 s'.2.2.2 ∧ OkB s'.2.1 s'.2.2.1 s'.2.2.2)), sgn, fun y => absurd h7 y, fun _ => ?_⟩, fun _ => trivial, fun _ => ⟨fun _ => trivial, fun y => ?_⟩⟩
    · rcases hr with ⟨h4, ho, hq⟩ | ⟨h4, D, hmd, hs⟩
      · have M4 : bM B = 4 := by have := hO.1.2.2.1; have h4' : 4 ≤ bM B := h4; omega
        obtain ⟨⟨b0, b1, -⟩, -⟩ := hR
        have b1' : gI S (am 0) 9681 = nI (bM B) := b1
        refine ⟨hL.z, am 0, hL.r 0, hL.k 0, hL.i 0 (p := 9681) (by decide), fun v4 e4 => ?_⟩
        rw [b1', M4]
        refine ⟨fun y => absurd rfl y, fun _ => sm_fails (kn := 6) hL hT h18 (fun F fl => ⟨Or.inl rfl, fun _ => hf 6 F (gJ S) ho (MbF.fl hL fl) (by rw [fl.2.2.1, if_neg (by have h7' : tk tx L p = 7 := h7; omega)]) (by rw [hq]; exact fl.2.2.2), fun y => absurd rfl y⟩)⟩
      · refine sm_aMethod hL hX hT hp h18 hR hO h4 h7 hmd (fun q5 D' F J hsg hD q5L mb f18 f17 t5 pq rd ok => ⟨fun y => absurd y one0, fun _ => ⟨q5, hsg, q5L, pq, mb, f18, f17, t5, fun ho => ?_⟩⟩) (fun f F J ho mb f18 f17 => ⟨fun _ => hf f F J ho mb f18 f17, fun y => absurd rfl y⟩)
        rw [hs, hD ho]
        exact ⟨rd, ok⟩
    · exact absurd h7 (by assumption)
  · have n7 : tk tx L p ≠ 7 := by have h12' : tk tx L p = 12 := h12; omega
    refine ⟨True, fun _ => ⟨fun F6 J7 => (∃ q5, rSG tx L q5 o q ∧ q5 ≤ L ∧ p < q5 ∧ MbF m am (gI S) F6 (gJ S) J7 ∧ F6 m 18 = 0 ∧ F6 m 17 = gI S m 17 ∧ TkM F6 m tx L q5 ∧ (o = none → RdM F6 J7 am s'.2.1 s'.2.2.1 s'.2.2.2 ∧ OkB s'.2.1 s'.2.2.1 s'.2.2.2)), sgn, fun _ => ?_, fun y => absurd y n7⟩, fun _ => trivial, fun _ => ⟨fun _ => trivial, fun y => absurd h12 y⟩⟩
    rcases hr with ⟨h8, ho, hq⟩ | ⟨h8, hrg, hs⟩
    · have R8 : R = 8 := by have := hO.2.1; have h8' : 8 ≤ R := h8; omega
      obtain ⟨-, r2, -⟩ := hR
      refine ⟨hL.z, am 0, hL.r 0, hL.k 0, hL.i 0 (p := 9682) (by decide), ?_⟩
      rw [r2, R8]
      refine ⟨fun y => absurd rfl y, fun _ => sm_fails (kn := 6) hL hT h18 (fun F fl => ⟨Or.inl rfl, fun _ => hf 6 F (gJ S) ho (MbF.fl hL fl) (by rw [fl.2.2.1, if_neg (by have h12' : tk tx L p = 12 := h12; omega)]) (by rw [hq]; exact fl.2.2.2), fun y => absurd rfl y⟩)⟩
    · refine sm_aRinger hL hX hT hp h18 hR hO h8 h12 hrg (fun q5 F J hsg q5L mb f18 f17 t5 pq rd ok => ⟨fun y => absurd y one0, fun _ => ⟨q5, hsg, q5L, pq, mb, f18, f17, t5, fun ho => ?_⟩⟩) (fun f F J ho mb f18 f17 => ⟨fun _ => hf f F J ho mb f18 f17, fun y => absurd rfl y⟩)
      rw [hs]
      exact ⟨rd, ok⟩
  · refine ⟨False, False.elim, fun y => absurd y h7, fun _ => ⟨fun y => absurd y h12, fun _ => sm_fails (kn := 2) hL hT h18 (fun F fl => ⟨Or.inl rfl, hf _ F (gJ S) ho (MbF.fl hL fl) fl.2.2.1 (by rw [hq]; exact fl.2.2.2)⟩)⟩⟩
end BP
