/-! The calls that ask of rows: both sides answer alike. -/
abbrev FI : Type := Nat → Nat → Int32
/-- the reference, asked behind the class, answers v too and ends well -/
def Th (S : St) (x m : Nat) (am : Nat → Nat) (v : Int32) (P : (Int32 → FI → Prop) → Prop) : Prop := ∀ Q2 : Int32 → FI → Prop, (∀ F', Gd S x m am F' → Q2 v F') → P Q2
section CR
variable {S : St} {x b m : Nat} {am : Nat → Nat} {im : Nat → Prop} {B : Bk} {Q1 : Int32 → FI → Prop}
theorem call_bell (h : CB S x b m am im B) (r p : Int32) (hq : ∀ v F, Th S x m am v (P_X12_bell m r p (wI S F)) → Q1 v F) : P_X11_bell x r p S Q1 := by
  have L1 : ∀ s, LM (wI S (upI (gI S) x 0 s)) m am := fun _ => h.L
  have hn := h.n8
  rcases nr_case _ h.f r with ⟨k, hk, rfl⟩ | hr
  · rcases nb_case (bn B) (by omega) p with ⟨j, hj, rfl⟩ | hp
    · have e1 : nI (j + 1) - 1 = nI j := nI_pred j
      refine ⟨h.x, xRy h hk ⟨False, False.elim, fun c => absurd c one0, fun _ => xBy h hj ⟨fun _ => ?_, fun c => absurd c one0⟩⟩⟩
      rw [e1]
      refine xPk h hk (sp_bellAt hn (pm8 hn (lay_pm hn hk)) hj (an h.x (hq _ _ (fun Q2 h2 => ?_))))
      refine ⟨h.L.z, mRy (L1 0) h.o (h.M1 0) hk ⟨False, False.elim, fun c => absurd c one0, fun _ => mBy (L1 0) h.o (h.M1 0) hj ⟨fun _ => ⟨am 24, h.L.r 24, ?_⟩, fun c => absurd c one0⟩⟩⟩
      refine sm_laysRow (L1 0) hn h.n1 (h.M1 0).1 hk (h.L.k 24) (h.L.l 24) (fun F' o' r' => ?_)
      rw [e1]
      refine ⟨h.L.k 24, h.L.i 24 (by show j < 8; omega), ?_⟩
      rw [nI_clamp (by omega), r' j hj]
      exact gvm h.L.z (Kp.on h.L 24 o') h2
    · refine ⟨h.x, xRy h hk ⟨True, fun _ => rf h.x (hq _ _ (fun Q2 h2 => ?_)), fun c => absurd c one0, fun _ => xBn h hp ⟨fun c => absurd rfl c, fun _ => trivial⟩⟩⟩
      exact ⟨h.L.z, mRy (L1 1) h.o (h.M1 1) hk ⟨True, fun _ => rfm h.L.z Kp.rf h2, fun c => absurd c one0, fun _ => mBn (L1 1) h.o (h.M1 1) hp ⟨fun c => absurd rfl c, fun _ => trivial⟩⟩⟩
  · refine ⟨h.x, xRn h hr ⟨True, fun _ => rf h.x (hq _ _ (fun Q2 h2 => ?_)), fun _ => trivial, fun c => absurd rfl c⟩⟩
    exact ⟨h.L.z, mRn (L1 1) h.o (h.M1 1) hr ⟨True, fun _ => rfm h.L.z Kp.rf h2, fun _ => trivial, fun c => absurd rfl c⟩⟩
theorem call_product (h : CB S x b m am im B) (r p : Int32) (hq : ∀ v F, Th S x m am v (P_X12_product m r p (wI S F)) → Q1 v F) : P_X11_product x r p S Q1 := by
  have L1 : ∀ s, LM (wI S (upI (gI S) x 0 s)) m am := fun _ => h.L
  have hn := h.n8
  rcases nr_case _ h.f r with ⟨k, hk, rfl⟩ | hr
  · rcases nr_case _ h.f p with ⟨j, hj, rfl⟩ | hp
    · refine ⟨h.x, xRy h hk ⟨False, False.elim, fun c => absurd c one0, fun _ => xRy h hj ⟨fun _ => ?_, fun c => absurd c one0⟩⟩⟩
      refine xPk h hk (xPk h hj ⟨b, h.b, h.k, ?_⟩)
      rw [h.s]
      refine sp_rankMultiplied hn (pm8 hn (lay_pm hn hk)) (lay_pm hn hj).1 (comp_pm (lay_pm hn hk) (lay_pm hn hj)) (an h.x (hq _ _ (fun Q2 h2 => ?_)))
      refine ⟨h.L.z, mRy (L1 0) h.o (h.M1 0) hk ⟨False, False.elim, fun c => absurd c one0, fun _ => mRy (L1 0) h.o (h.M1 0) hj ⟨fun c => absurd c one0, fun _ => ?_⟩⟩⟩
      exact sm_productOf (L1 0) hn h.n1 (h.M1 0).1 hk hj (fun F' k' => gvm h.L.z k' h2)
    · refine ⟨h.x, xRy h hk ⟨True, fun _ => rf h.x (hq _ _ (fun Q2 h2 => ?_)), fun c => absurd c one0, fun _ => xRn h hp ⟨fun c => absurd rfl c, fun _ => trivial⟩⟩⟩
      exact ⟨h.L.z, mRy (L1 1) h.o (h.M1 1) hk ⟨True, fun _ => rfm h.L.z Kp.rf h2, fun c => absurd c one0, fun _ => mRn (L1 1) h.o (h.M1 1) hp ⟨fun _ => trivial, fun c => absurd rfl c⟩⟩⟩
  · refine ⟨h.x, xRn h hr ⟨True, fun _ => rf h.x (hq _ _ (fun Q2 h2 => ?_)), fun _ => trivial, fun c => absurd rfl c⟩⟩
    exact ⟨h.L.z, mRn (L1 1) h.o (h.M1 1) hr ⟨True, fun _ => rfm h.L.z Kp.rf h2, fun _ => trivial, fun c => absurd rfl c⟩⟩
theorem call_inverse (h : CB S x b m am im B) (r : Int32) (hq : ∀ v F, Th S x m am v (P_X12_inverse m r (wI S F)) → Q1 v F) : P_X11_inverse x r S Q1 := by
  have L1 : ∀ s, LM (wI S (upI (gI S) x 0 s)) m am := fun _ => h.L
  have hn := h.n8
  rcases nr_case _ h.f r with ⟨k, hk, rfl⟩ | hr
  · refine ⟨h.x, xRy h hk ⟨fun _ => xPk h hk ⟨b, h.b, h.k, ?_⟩, fun c => absurd c one0⟩⟩
    rw [h.s]
    refine sp_invert hn (lay_pm hn hk) (xNu h (inv_pm (lay_pm hn hk)) (an h.x (hq _ _ (fun Q2 h2 => ?_))))
    refine ⟨h.L.z, mRy (L1 0) h.o (h.M1 0) hk ⟨fun c => absurd c one0, fun _ => ?_⟩⟩
    exact sm_inverseOf (L1 0) hn h.n1 (h.M1 0).1 hk (fun F' k' _ => gvm h.L.z k' h2)
  · refine ⟨h.x, xRn h hr ⟨fun c => absurd rfl c, fun _ => rf h.x (hq _ _ (fun Q2 h2 => ?_))⟩⟩
    exact ⟨h.L.z, mRn (L1 1) h.o (h.M1 1) hr ⟨fun _ => rfm h.L.z Kp.rf h2, fun c => absurd rfl c⟩⟩
theorem call_order (h : CB S x b m am im B) (r : Int32) (hq : ∀ v F, Th S x m am v (P_X12_order m r (wI S F)) → Q1 v F) : P_X11_order x r S Q1 := by
  have L1 : ∀ s, LM (wI S (upI (gI S) x 0 s)) m am := fun _ => h.L
  have hn := h.n8
  rcases nr_case _ h.f r with ⟨k, hk, rfl⟩ | hr
  · obtain ⟨o, ho⟩ := ord_ex hn (lay_pm hn hk)
    refine ⟨h.x, xRy h hk ⟨fun _ => xPk h hk ⟨b, h.b, h.k, ?_⟩, fun c => absurd c one0⟩⟩
    rw [h.s]
    refine sp_orderOf hn (lay_pm hn hk) ho (an h.x (hq _ _ (fun Q2 h2 => ?_)))
    refine ⟨h.L.z, mRy (L1 0) h.o (h.M1 0) hk ⟨fun c => absurd c one0, fun _ => ?_⟩⟩
    exact sm_orderOf (L1 0) hn h.n1 (h.M1 0).1 hk ho (fun F' k' => gvm h.L.z k' h2)
  · refine ⟨h.x, xRn h hr ⟨fun c => absurd rfl c, fun _ => rf h.x (hq _ _ (fun Q2 h2 => ?_))⟩⟩
    exact ⟨h.L.z, mRn (L1 1) h.o (h.M1 1) hr ⟨fun _ => rfm h.L.z Kp.rf h2, fun c => absurd rfl c⟩⟩
theorem call_even (h : CB S x b m am im B) (r : Int32) (hq : ∀ v F, Th S x m am v (P_X12_even m r (wI S F)) → Q1 v F) : P_X11_even x r S Q1 := by
  have L1 : ∀ s, LM (wI S (upI (gI S) x 0 s)) m am := fun _ => h.L
  have hn := h.n8
  rcases nr_case _ h.f r with ⟨k, hk, rfl⟩ | hr
  · refine ⟨h.x, xRy h hk ⟨fun _ => xPk h hk ⟨b, h.b, h.k, ?_⟩, fun c => absurd c one0⟩⟩
    rw [h.s]
    refine sp_isEven hn (lay_pm hn hk) ⟨fun t => t = if invs (lay (bn B) k) (bn B) % 2 = 0 then 1 else 0, fun t et => an h.x (hq _ _ (fun Q2 h2 => ?_)), ?_⟩
    · subst et
      refine ⟨h.L.z, mRy (L1 0) h.o (h.M1 0) hk ⟨fun c => absurd c one0, fun _ => ?_⟩⟩
      refine sm_isEven (L1 0) hn h.n1 (h.M1 0).1 hk (fun F' k' => ⟨fun t => t = if invs (lay (bn B) k) (bn B) % 2 = 0 then 1 else 0, fun t et => by subst et; exact gvm h.L.z k' h2, ?_⟩)
      split <;> simp
    · split <;> simp
  · refine ⟨h.x, xRn h hr ⟨fun c => absurd rfl c, fun _ => rf h.x (hq _ _ (fun Q2 h2 => ?_))⟩⟩
    exact ⟨h.L.z, mRn (L1 1) h.o (h.M1 1) hr ⟨fun _ => rfm h.L.z Kp.rf h2, fun c => absurd rfl c⟩⟩
/-- a packed change is never -1 -/
theorem mv_ne {n : Nat} {sw : Nat → Bool} (hn : n ≤ 8) (hs : Sw n sw) : ¬ nI (pak (mvf sw) n) = -1 := fun e => by
  rcases Nat.eq_zero_or_pos n with h0 | h0
  · subst h0
    exact absurd (show (nI 0 : Int32) = -1 from e) (by decide)
  · have h1 : bt (nI (pak (mvf sw) n)) (4 * (n - 1) + 0) = bt (-1) (4 * (n - 1) + 0) := by rw [e]
    rw [bt_pak (fun q _ => mvf_lt sw q) (by omega) (by decide), mvf_bit (by decide), b_m1 _ (by omega), decide_eq_true (by omega), Bool.true_and] at h1
    have := (hs _ h1).1
    omega
/-- a set of places is never -1 -/
theorem plc_bits (n : Nat) (hn : n ≤ 8) : ∀ k v b s t, b ≤ n + 1 → (∀ j, n ≤ j → j < 32 → bt s j = false) → plc n k v b s = some t → ∀ j, n ≤ j → j < 32 → bt t j = false
  | 0, _, _, _, _, _, _, h => by cases h
  | k + 1, v, b, s, t, hb, hs, h => by
    unfold plc at h
    split at h
    · injection h with h; subst h; exact hs
    · split at h
      · cases h
      · rename_i h1 h2
        refine plc_bits n hn k _ _ _ t (by omega) (fun j hj hj2 => ?_) h
        rw [tb3 (by omega) hj2, hs j hj hj2, decide_eq_false (by omega)]
        rfl
theorem plv_bits {n v : Nat} (hn : n ≤ 8) {t : Int32} (h : plv n v = some t) : ∀ j, n ≤ j → j < 32 → bt t j = false := plc_bits n hn 11 v (n + 1) 0 t (Nat.le_refl _) (fun j _ _ => b_0 j) h
theorem plv_ne {n v : Nat} (hn : n ≤ 8) {t : Int32} (h : plv n v = some t) : ¬ t = -1 := fun e => by
  have h1 := plv_bits hn h 31 (by omega) (by decide)
  rw [e, b_m1 31 (by decide)] at h1
  cases h1
theorem call_done (h : CB S x b m am im B) (r p : Int32) (hq : ∀ v F, Th S x m am v (P_X12_done m r p (wI S F)) → Q1 v F) : P_X11_done x r p S Q1 := by
  have L1 : ∀ s, LM (wI S (upI (gI S) x 0 s)) m am := fun _ => h.L
  have hn := h.n8
  rcases nr_case _ h.f r with ⟨k, hk, rfl⟩ | hr
  · refine ⟨h.x, xRy h hk ⟨fun _ => ⟨b, h.b, h.k, ?_⟩, fun c => absurd c one0⟩⟩
    rw [h.s]
    have bad : (∀ v s, p = nI v → v < 2 ^ 31 → plv (bn B) v = some s → ¬ okm (bn B) (bt s)) → P_X11_refuse x 7 S (fun r_11 F_11 => Q1 r_11 F_11) := fun hbad => by
      refine rf h.x (hq _ _ (fun Q2 h2 => ⟨h.L.z, mRy (L1 7) h.o (h.M1 7) hk ⟨fun _ => ⟨fun t => t = -1, fun t et => ⟨fun c => absurd et c, fun _ => rfm h.L.z Kp.rf h2⟩, fun h0 => ?_, fun _ => rfl⟩, fun c => absurd c one0⟩⟩))
      obtain ⟨v, hv, rfl⟩ := nI_of (fun c => absurd h0 (by rw [fa_le]; rw [fa_lt] at c; omega) : ¬ p < 0)
      exact sm_placesOf (L1 7) hn hv (h.M1 7).1 (fun s hs hok => absurd hok (hbad v s rfl hv hs)) (fun _ => rfl)
    rcases Classical.em (p < 0) with hneg | hpos
    · refine ⟨fun h0 => absurd hneg (by rw [fa_le] at h0; rw [fa_lt]; omega), fun _ => ⟨fun c => absurd rfl c, fun _ => bad (fun v s e hv _ _ => by rw [e] at hneg; exact nI_pos hv hneg)⟩⟩
    · obtain ⟨v, hv, rfl⟩ := nI_of hpos
      refine sp_moveOf hn hv (fun s hs hok => ⟨fun _ => ?_, fun c => absurd c (mv_ne hn (okm_sw hok))⟩) (fun hno => ⟨fun c => absurd rfl c, fun _ => bad (fun w s e hw hs => ?_)⟩)
      · refine xPk h hk (sp_moved hn (okm_sw hok) (pm8 hn (lay_pm hn hk)) (xNu h (chd_pm (okm_sw hok) (lay_pm hn hk)) (an h.x (hq _ _ (fun Q2 h2 => ?_)))))
        refine ⟨h.L.z, mRy (L1 0) h.o (h.M1 0) hk ⟨fun _ => ⟨fun t => t = s, fun t et => ⟨fun _ => ?_, fun c => absurd (et.symm.trans c) (plv_ne hn hs)⟩, fun _ => sm_placesOf (L1 0) hn hv (h.M1 0).1 (fun s' hs' _ => by rw [hs] at hs'; injection hs' with e; exact e.symm) (fun hno => absurd hok (hno s hs)), fun c => absurd (nI_pos' hv) c⟩, fun c => absurd c one0⟩⟩
        subst et
        refine ⟨am 23, h.L.r 23, sm_laysRow (L1 0) hn h.n1 (h.M1 0).1 hk (h.L.k 23) (h.L.l 23) (fun F' o' r' => ?_)⟩
        have L2 : LM (wI (wI S (upI (gI S) x 0 0)) F') m am := h.L
        have k2 : Kp tQ m am (upI (gI S) x 0 0) F' := Kp.on h.L 23 o'
        refine sm_changes0 (l := false) L2 hn ((h.M1 0).kp h.L k2).1 (okm_sw hok) (fun q hq' => (stf_swm hok q hq').symm) r' (fun F3 o3 r3 => ?_)
        rw [swl_f] at r3
        have k3 : Kp tQ m am (upI (gI S) x 0 0) F3 := k2.tr (Kp.on h.L 23 o3)
        have L3 : LM (wI (wI S (upI (gI S) x 0 0)) F3) m am := h.L
        exact sm_numberOf L3 hn ((h.M1 0).kp h.L k3).1 (chd_pm (okm_sw hok) (lay_pm hn hk)) (h.L.k 23) (h.L.l 23) r3 (gvm h.L.z k3 h2)
      · have : v = w := (nI_eq hv hw).mp e
        subst this
        exact hno s hs
  · refine ⟨h.x, xRn h hr ⟨fun c => absurd rfl c, fun _ => rf h.x (hq _ _ (fun Q2 h2 => ?_))⟩⟩
    exact ⟨h.L.z, mRn (L1 1) h.o (h.M1 1) hr ⟨fun c => absurd rfl c, fun _ => rfm h.L.z Kp.rf h2⟩⟩
theorem mFy {v lo hi : Int64} {Q : Int32 → Prop} (h1 : lo ≤ v) (h2 : v ≤ hi) (hq : Q 1) : P_X12_isFrom v lo hi Q := by
  refine ⟨fun c => absurd ((lg_cmp_lt _ _).mp c) (lg_le_not_lt h1), fun _ => ⟨fun c => absurd ((lg_cmp_gt _ _).mp c) (lg_le_not_lt h2), fun _ => hq⟩⟩
theorem mFn {v lo hi : Int64} {Q : Int32 → Prop} (h : ¬ (lo ≤ v ∧ v ≤ hi)) (hq : Q 0) : P_X12_isFrom v lo hi Q := by
  refine ⟨fun _ => hq, fun h0 => ⟨fun _ => hq, fun c => absurd ⟨?_, ?_⟩ h⟩⟩
  · rw [lg_cmp_lt] at h0
    rw [fa_le64]; rw [fa_lt64] at h0; omega
  · rw [lg_cmp_gt] at c
    rw [fa_le64]; rw [fa_lt64] at c; omega
theorem call_power (h : CB S x b m am im B) (r p : Int32) (hq : ∀ v F, Th S x m am v (P_X12_power m r p (wI S F)) → Q1 v F) : P_X11_power x r p S Q1 := by
  have L1 : ∀ s, LM (wI S (upI (gI S) x 0 s)) m am := fun _ => h.L
  have hn := h.n8
  have hf := h.f
  rcases nr_case _ h.f r with ⟨k, hk, rfl⟩ | hr
  · have hp := lay_pm hn hk
    rcases nr_case 100 (by decide) p with ⟨j, hj, rfl⟩ | hp2
    · refine ⟨h.x, xRy h hk ⟨False, False.elim, fun c => absurd c one0, fun _ => ⟨fun c => absurd c (nI_pos (by omega)), fun _ => ⟨fun _ => xPk h hk ⟨b, h.b, h.k, ?_⟩, fun c => absurd (nI_le (b := 99) (by omega) (by decide)) c⟩⟩⟩⟩
      rw [h.s]
      refine sp_roundsOf hn ⟨fun t x4 x5 => ∃ i, i ≤ j ∧ t = j - i ∧ x4 = nI (pak (pw (lay (bn B) k) i) (bn B)) ∧ x5 = nI i, ⟨j, 0, Nat.zero_le _, rfl, rfl, rfl⟩, ?_⟩
      rintro t x4 x5 ⟨i, hi, rfl, rfl, rfl⟩
      refine ⟨fun hc => ?_, fun hc => ?_⟩
      · have : j ≤ i := (nI_leI (by omega) (by omega)).mp hc
        have e : i = j := by omega
        subst e
        refine xNu h (pw_pm hp i) (an h.x (hq _ _ (fun Q2 h2 => ?_)))
        refine ⟨h.L.z, mRy (L1 0) h.o (h.M1 0) hk ⟨False, False.elim, fun c => absurd c one0, fun _ => ?_⟩⟩
        rw [nI_l (by omega)]
        refine mFy ((lN_le (a := 0) (by decide) (by omega)).mpr (by omega)) ((lN_le (b := 99) (by omega) (by decide)).mpr (by omega)) ⟨fun _ => ?_, fun c => absurd c one0⟩
        refine ⟨fun t x3 x4 F => ∃ q, q ≤ i ∧ t = i - q ∧ x3 = nI (num (bn B) (pw (lay (bn B) k) q)) ∧ x4 = nI q ∧ Kp tQ m am (upI (gI S) x 0 0) F, ⟨i, 0, Nat.zero_le _, rfl, ?_, rfl, Kp.rf⟩, ?_⟩
        · rw [show pw (lay (bn B) k) 0 = fun p => p from rfl, num_id]; rfl
        rintro t x3 x4 F ⟨q, hqi, rfl, rfl, rfl, kF⟩
        refine ⟨fun hc2 => ?_, fun hc2 => ?_⟩
        · have : i ≤ q := (nI_leI (by omega) (by omega)).mp hc2
          have e : q = i := by omega
          subst e
          exact gvm h.L.z kF h2
        · have hlt := nI_gtI (by omega) (by omega) hc2
          have L2 : LM (wI (wI S (upI (gI S) x 0 0)) F) m am := h.L
          refine sm_productOf L2 hn h.n1 ((h.M1 0).kp h.L kF).1 (num_lt (pw_pm hp q)) hk (fun F' k' v ev => ?_)
          refine ⟨i - (q + 1), by omega, q + 1, by omega, rfl, ?_, by rw [ev]; exact nI_1 q, kF.tr k'⟩
          exact congrArg nI (num_cong (fun p hp' => lay_num hn (pw_pm hp q) _ (hp.1 p hp')))
      · have hlt := nI_gtI (by omega) (by omega) hc
        refine sp_multiply hn (pm8 hn (pw_pm hp i)) hp.1 ?_
        intro v ev
        exact ⟨j - (i + 1), by omega, i + 1, by omega, rfl, rfl, by rw [ev]; exact nI_1 i⟩
    · refine ⟨h.x, xRy h hk ⟨True, fun _ => rf h.x (hq _ _ (fun Q2 h2 => ?_)), fun c => absurd c one0, fun _ => ⟨fun _ => trivial, fun h0 => ⟨fun c => ?_, fun _ => trivial⟩⟩⟩⟩
      · refine ⟨h.L.z, mRy (L1 1) h.o (h.M1 1) hk ⟨True, fun _ => rfm h.L.z Kp.rf h2, fun c => absurd c one0, fun _ => mFn ?_ ⟨fun c => absurd rfl c, fun _ => trivial⟩⟩⟩
        rintro ⟨c1, c2⟩
        rw [show (0 : Int64) = (nI 0).toInt64 from rfl, fa_wide_le] at c1
        rw [show (99 : Int64) = (nI 99).toInt64 from rfl, fa_wide_le] at c2
        have h0 : ¬ p < 0 := (fa_of_nle (fun c => absurd c1 (by
          intro c1
          have e0 : (nI 0).toInt = 0 := rfl
          rw [fa_le] at c c1
          rw [e0] at c1
          exact absurd c (by
            intro c
            exact absurd (show p.toInt ≤ -1 from c) (by omega)))) : -1 < p) |> fun hh => by
          rw [fa_lt] at hh ⊢
          have e0 : (0 : Int32).toInt = 0 := rfl
          have e1 : (-1 : Int32).toInt = -1 := rfl
          omega
        have h3 := nr_ix (N := 100) (by decide) hp2 h0
        rw [fa_le] at h3 c2
        have e0 : (nI 99).toInt = 99 := rfl
        have e1 : (nI 100).toInt = 100 := rfl
        omega
      · have h3 := nr_ix (N := 100) (by decide) hp2 h0
        rw [fa_le] at h3 c
        have e0 : (99 : Int32).toInt = 99 := rfl
        have e1 : (nI 100).toInt = 100 := rfl
        omega
  · refine ⟨h.x, xRn h hr ⟨True, fun _ => rf h.x (hq _ _ (fun Q2 h2 => ?_)), fun _ => trivial, fun c => absurd rfl c⟩⟩
    exact ⟨h.L.z, mRn (L1 1) h.o (h.M1 1) hr ⟨True, fun _ => rfm h.L.z Kp.rf h2, fun _ => trivial, fun c => absurd rfl c⟩⟩
end CR
