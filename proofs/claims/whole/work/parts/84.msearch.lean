/-! The reference's search. -/
def hb3 (B : Bk) (a : Nat) : Nat → Nat := hd B (a / 3) (a % 3)
theorem hb3_pm {B : Bk} (hb : bok B) : ∀ a, a < 3 * bM B → Pm (bn B) (hb3 B a) := fun a ha => hd_pm hb (by omega) (by omega)
def tF (f : Nat) : Bool := [2, 23, 24, 25, 26, 27, 28, 29, 30, 31, 32, 33, 37, 38, 39, 40, 41, 42, 43].contains f
theorem tQ_tF (f : Nat) (h : tQ f = true) : tF f = true := by
  unfold tQ at h
  unfold tF
  simp at h ⊢
  omega
def MBs (G0 F : FI) (m : Nat) (am : Nat → Nat) (q : Nat) (s : Bs) : Prop := Kp tF m am G0 F ∧ F m 41 = nI (bC s) ∧ F m 29 = nI (q + 1) ∧ MS (F (am 28)) 40320 (q + 1) (us (bF s) (bC s)) ∧ (∀ j, j < bC s → F (am 38) j = nI (bF s j)) ∧ (∀ j, 1 ≤ j → j < bC s → F (am 39) (bF s j) = nI (bF s (bP s j)) ∧ F (am 40) (bF s j) = nI (bW s j)) ∧ F m 43 = G0 m 43 ∧ F (am 42) = G0 (am 42)
section MS2
variable {S : St} {m q : Nat} {am : Nat → Nat} {B : Bk}
theorem sm_findsAll {Q : FI → Prop} (hL : LM S m am) (hb : bok B) (hB : BM B (gI S (am 0))) (hM : SM (gI S) m am q) (hq0 : q + 1 < 2 ^ 31)
    (hq : ∀ F', MBs (gI S) F' m am q (bfin (bn B) (hb3 B) (3 * bM B)) → Q F') : P_X12_findsAll m S Q := by
  have hn := hb.2.1
  have hn4 := hb.1
  have hM4 := hb.2.2.1
  have hp := hb3_pm hb
  have hfac := fac_8 (bn B) (by omega)
  refine ⟨hL.z, fun v1 e1 F2 e2 => ⟨am 38, hL.r 38, hL.k 38, hL.i 38 (p := 0) (by decide), fun F6 e6 => ⟨am 28, hL.r 28, hL.k 28, hL.i 28 (p := 0) (by decide), fun v10 e10 F11 e11 F12 e12 => ?_⟩⟩⟩
  rw [hM.1, nI_1] at e1
  subst e1
  have f29 : F6 m 29 = nI (q + 1) := by rw [e6, up_ne (Ne.symm (hL.o 38)), e2, up_at]
  rw [f29] at e10
  subst e10
  have init : MBs (gI S) F12 m am q (ob (bn B) (hb3 B) (3 * bM B) 0) := by
    have s28 : F6 (am 28) = gI S (am 28) := by rw [e6, up_ne (hL.n (by decide)), e2, up_ne (hL.o 28)]
    have z0 := hM.2.nw (q := q + 1) (by omega) hq0
    rw [← s28] at z0
    refine ⟨by rw [e12, e11, e6, e2]; exact (((Kp.fd 29).tr (Kp.on hL 38 On.up)).tr (Kp.on hL 28 On.up)).tr (Kp.fd 41), by rw [e12, up_at]; rfl, by rw [e12, up_no (by decide), e11, up_ne (Ne.symm (hL.o 28))]; exact f29, ?_, fun j hj => ?_, fun j h1 h2 => by have : j < 1 := h2; omega, ?_, ?_⟩
    · rw [e12, up_ne (hL.o 28), e11]
      refine (z0.up (r := 0)).cg rfl (fun r _ => ?_)
      show (false || decide (r = 0)) = (false || decide (r = 0))
      rfl
    · have : j = 0 := by have : j < 1 := hj; omega
      subst this
      rw [e12, up_ne (hL.o 38), e11, up_ne (hL.n (by decide)), e6, up_at]; rfl
    · rw [e12, up_no (by decide), e11, up_ne (Ne.symm (hL.o 28)), e6, up_ne (Ne.symm (hL.o 38)), e2, up_no (by decide)]
    · rw [e12, up_ne (hL.o 42), e11, up_ne (hL.n (by decide)), e6, up_ne (hL.n (by decide)), e2, up_ne (hL.o 42)]
  refine ⟨fun t x1 F => ∃ k, k ≤ bC (ob (bn B) (hb3 B) (3 * bM B) k) ∧ t = 40321 - k ∧ x1 = nI k ∧ MBs (gI S) F m am q (ob (bn B) (hb3 B) (3 * bM B) k), ⟨40321, 0, Nat.zero_le _, rfl, rfl, init⟩, ?_⟩
  rintro t x1 F ⟨k, hk, rfl, rfl, ms⟩
  have hC := ob_C hn hp k
  obtain ⟨hbv, -⟩ := ob_bv hn hp k
  have eC : F m 41 = nI (bC (ob (bn B) (hb3 B) (3 * bM B) k)) := ms.2.1
  rw [eC]
  refine ⟨fun hc => ?_, fun hc => ?_⟩
  · have hle : bC (ob (bn B) (hb3 B) (3 * bM B) k) ≤ k := (nI_leI (by omega) (by omega)).mp hc
    refine hq F ?_
    rw [← ob_end hn hp hle (by omega)]
    exact ms
  · have hlt := nI_gtI (by omega) (by omega) hc
    have eob : ob (bn B) (hb3 B) (3 * bM B) (k + 1) = inn (bn B) (hb3 B) k (3 * bM B) (ob (bn B) (hb3 B) (3 * bM B) k) := if_pos hlt
    obtain ⟨s, hs⟩ : ∃ s, s = ob (bn B) (hb3 B) (3 * bM B) k := ⟨_, rfl⟩
    rw [← hs] at hk hC hbv ms eC hlt eob
    refine ⟨fun t x2 F => ∃ a, a ≤ 3 * bM B ∧ t = 3 * bM B - a ∧ x2 = nI a ∧ MBs (gI S) F m am q (inn (bn B) (hb3 B) k a s), ⟨3 * bM B, 0, Nat.zero_le _, rfl, rfl, ms⟩, ?_⟩
    rintro t x2 F3 ⟨a, ha, rfl, rfl, ms3⟩
    obtain ⟨iv, -⟩ := inn_bv hn hp hbv hlt a ha
    have ex := inn_ex (bn B) (hb3 B) k s a
    obtain ⟨w, hw⟩ : ∃ w, w = inn (bn B) (hb3 B) k a s := ⟨_, rfl⟩
    rw [← hw] at ms3 iv ex
    obtain ⟨kk, m41, m29, z28, r38, r39, r43, r42⟩ := ms3
    have B3 : BM B (F3 (am 0)) := hB.kp hL kk
    have L3 : LM (wI S F3) m am := hL
    refine ⟨am 0, hL.r 0, hL.k 0, hL.i 0 (p := 1) (by decide), ?_⟩
    have e3M : (3 : Int32) * F3 (am 0) 1 = nI (3 * bM B) := by rw [B3.2.1]; exact mulN 3 _
    rw [e3M]
    refine ⟨fun hca v24 e24 => ?_, fun hca => ?_⟩
    · have e : a = 3 * bM B := by
        have : 3 * bM B ≤ a := (nI_leI (by omega) (by omega)).mp hca
        omega
      refine ⟨40321 - (k + 1), by omega, k + 1, ?_, rfl, by rw [e24]; exact nI_1 k, ?_⟩
      · rw [eob]
        have := (inn_ex (bn B) (hb3 B) k s (3 * bM B)).1
        omega
      · rw [eob, ← e, ← hw]
        exact ⟨kk, m41, m29, z28, r38, r39, r43, r42⟩
    · have hla := nI_gtI (by omega) (by omega) hca
      have kw : k < bC w := Nat.lt_of_lt_of_le hlt ex.1
      have fk := (ex.2 k hlt).1
      have fkl := iv.2.2.1 k kw
      have hCw : bC w ≤ fac (bn B) := fb_holes _ _ _ iv.2.2.1 iv.2.2.2.1
      refine ⟨hL.i 38 (by show k < 40320; omega), ?_⟩
      rw [nI_clamp (by omega), r38 k kw]
      have d3 : nI a / 3 = nI (a / 3) := pk_div (d := 3) (by omega) (by decide) (by decide)
      have m3 : irm (nI a) 3 = nI (a % 3) := irmN (d := 3) (by omega) (by decide) (by decide)
      rw [d3, m3]
      refine sm_leadFrom L3 hb B3 (by omega) (by omega) fkl (fun F26 k26 => ?_)
      have kk26 : Kp tF m am (gI S) F26 := kk.tr (k26.mono tQ_tF)
      have a26 : ∀ f, mk f ≠ 0 → tQ f = false → F26 (am f) = F3 (am f) := fun f hf hT => k26.ar hL f hT hf
      have mm : ∀ j, tQ j = false → F26 m j = F3 m j := fun j hj => k26.2 j hj
      have etr : inn (bn B) (hb3 B) k (a + 1) s = tr1 (bn B) (hb3 B) k a w := by rw [hw]; rfl
      obtain ⟨to, hto⟩ : ∃ to, to = nxr (bn B) (hb3 B) (bF w k) a := ⟨_, rfl⟩
      have et : num (bn B) (fun p => lay (bn B) (bF w k) (hd B (a / 3) (a % 3) p)) = to := by rw [hto]; rfl
      rw [et]
      have tol : to < fac (bn B) := by rw [hto]; exact nxr_lt hn hp fkl hla
      refine ⟨hL.i 28 (by show to < 40320; omega), ?_⟩
      rw [nI_clamp (by omega), a26 28 (by decide) (by decide), mm 29 (by decide), m29, (z28 to (by omega)).2]
      by_cases hu : us (bF w) (bC w) to = true
      · refine ⟨fun c => absurd hu c, fun _ v45 e45 => ⟨3 * bM B - (a + 1), by omega, a + 1, by omega, rfl, by rw [e45]; exact nI_1 a, ?_⟩⟩
        rw [etr, tr1_y (by rw [← hto]; exact hu)]
        exact ⟨kk26, by rw [mm 41 (by decide)]; exact m41, by rw [mm 29 (by decide)]; exact m29, by rw [a26 28 (by decide) (by decide)]; exact z28, fun j hj => by rw [a26 38 (by decide) (by decide)]; exact r38 j hj, fun j h1 h2 => by rw [a26 39 (by decide) (by decide), a26 40 (by decide) (by decide)]; exact r39 j h1 h2, by rw [mm 43 (by decide)]; exact r43, by rw [a26 42 (by decide) (by decide)]; exact r42⟩
      · have hno := us_no.mp (ts_nt hu)
        refine ⟨fun _ v29 e29 F30 e30 => ⟨am 39, hL.r 39, hL.k 39, hL.i 39 (by show to < 40320; omega), fun v34 e34 F35 e35 => ⟨am 40, hL.r 40, hL.k 40, hL.i 40 (by show to < 40320; omega), fun F39 e39 => ?_⟩⟩, fun c => absurd c hu⟩
        subst e29
        have g38 : F30 (am 38) = F3 (am 38) := by rw [e30, up_ne (hL.n (by decide)), a26 38 (by decide) (by decide)]
        rw [g38, r38 k kw] at e34
        subst e34
        have m39 : ∀ j, F39 m j = F26 m j := fun j => by rw [e39, up_ne (Ne.symm (hL.o 40)), e35, up_ne (Ne.symm (hL.o 39)), e30, up_ne (Ne.symm (hL.o 28))]
        have m41' : F39 m 41 = nI (bC w) := by rw [m39, mm 41 (by decide)]; exact m41
        rw [m41']
        have hCl : bC w < 40320 := by
          have : bC w + 1 ≤ fac (bn B) := by
            have := (tr1_bv hn hp iv kw hla).1
            rw [tr1_n (by rw [← hto]; exact hu)] at this
            exact fb_holes _ _ _ this.2.2.1 this.2.2.2.1
          omega
        refine ⟨hL.i 38 (by show bC w < 40320; omega), fun F41 e41 v42 e42 F43 e43 v44 e44 => ?_⟩
        rw [nI_clamp (by omega)] at e41
        have v42e : v42 = nI (bC w + 1) := by rw [e42, e41, up_ne (Ne.symm (hL.o 38)), m41', nI_1]
        subst v42e
        refine ⟨3 * bM B - (a + 1), by omega, a + 1, by omega, rfl, by rw [e44]; exact nI_1 a, ?_⟩
        rw [etr, tr1_n (by rw [← hto]; exact hu), ← hto]
        have mj : ∀ j, j ≠ 41 → F43 m j = F3 m j ∨ tQ j = true := fun j hj => by
          by_cases c : tQ j = true
          · exact Or.inr c
          · left; rw [e43, up_no hj, e41, up_ne (Ne.symm (hL.o 38)), m39, mm j (ts_nt c)]
        have c28 : F43 (am 28) = F30 (am 28) := by rw [e43, up_ne (hL.o 28), e41, up_ne (hL.n (by decide)), e39, up_ne (hL.n (by decide)), e35, up_ne (hL.n (by decide))]
        refine ⟨by rw [e43, e41, e39, e35, e30]; exact ((((kk26.tr (Kp.on hL 28 On.up)).tr (Kp.on hL 39 On.up)).tr (Kp.on hL 40 On.up)).tr (Kp.on hL 38 On.up)).tr (Kp.fd 41), by rw [e43, up_at]; rfl, ?_, ?_, fun j hj => ?_, fun j h1 h2 => ?_, ?_, ?_⟩
        · rcases mj 29 (by decide) with z | z
          · rw [z]; exact m29
          · exact absurd z (by decide)
        · rw [c28, e30]
          have zz : MS (F26 (am 28)) 40320 (q + 1) (us (bF w) (bC w)) := by rw [a26 28 (by decide) (by decide)]; exact z28
          refine (zz.up (r := to)).cg rfl (fun r _ => ?_)
          have e1 : ∀ p, p ≤ bC w → us (setf (bF w) (bC w) to) p r = us (bF w) p r := fun p => by
            induction p with
            | zero => intro _; rfl
            | succ p ih =>
              intro hpc
              show (us (setf (bF w) (bC w) to) p r || decide (r = setf (bF w) (bC w) to p)) = (us (bF w) p r || decide (r = bF w p))
              rw [ih (by omega), setf_no (show p ≠ bC w by omega)]
          show (us (bF w) (bC w) r || decide (r = to)) = us (setf (bF w) (bC w) to) (bC w + 1) r
          show _ = (us (setf (bF w) (bC w) to) (bC w) r || decide (r = setf (bF w) (bC w) to (bC w)))
          rw [e1 (bC w) (Nat.le_refl _), setf_at]
        · have hj' : j < bC w + 1 := hj
          show F43 (am 38) j = nI (setf (bF w) (bC w) to j)
          rw [e43, up_ne (hL.o 38), e41]
          by_cases c : j = bC w
          · rw [c, up_at, setf_at]
          · rw [up_no c, setf_no c, e39, up_ne (hL.n (by decide)), e35, up_ne (hL.n (by decide)), g38]; exact r38 j (by omega)
        · have hj' : j < bC w + 1 := h2
          show F43 (am 39) (setf (bF w) (bC w) to j) = nI (setf (bF w) (bC w) to (setf (bP w) (bC w) k j)) ∧ F43 (am 40) (setf (bF w) (bC w) to j) = nI (setf (bW w) (bC w) a j)
          have c39 : F43 (am 39) = F35 (am 39) := by rw [e43, up_ne (hL.o 39), e41, up_ne (hL.n (by decide)), e39, up_ne (hL.n (by decide))]
          have c40 : F43 (am 40) = F39 (am 40) := by rw [e43, up_ne (hL.o 40), e41, up_ne (hL.n (by decide))]
          rw [c39, c40]
          by_cases c : j = bC w
          · rw [c, setf_at, setf_at, setf_at, setf_no (show k ≠ bC w by omega), e35, up_at, e39, up_at]
            exact ⟨rfl, rfl⟩
          · obtain ⟨y1, y2⟩ := r39 j h1 (by omega)
            have pj := (iv.2.2.2.2.1 j h1 (by omega)).1
            have nj := hno j (by omega)
            rw [setf_no c, setf_no c, setf_no c, setf_no (show bP w j ≠ bC w by omega), e35, up_no nj, e30, up_ne (hL.n (by decide)), a26 39 (by decide) (by decide), e39, up_no nj, e35, up_ne (hL.n (by decide)), e30, up_ne (hL.n (by decide)), a26 40 (by decide) (by decide)]
            exact ⟨y1, y2⟩
        · rcases mj 43 (by decide) with z | z
          · rw [z]; exact r43
          · exact absurd z (by decide)
        · rw [e43, up_ne (hL.o 42), e41, up_ne (hL.n (by decide)), e39, up_ne (hL.n (by decide)), e35, up_ne (hL.n (by decide)), e30, up_ne (hL.n (by decide)), a26 42 (by decide) (by decide)]; exact r42
end MS2
/-! The way to a row. -/
def anc (s : Bs) (j : Nat) : Nat → Nat
  | 0 => j
  | i + 1 => bP s (anc s j i)
def wvy (s : Bs) (j t : Nat) : Nat := bW s (anc s j (dp s j - 1 - t))
theorem anc_dp {n A k : Nat} {h : Nat → Nat → Nat} {s : Bs} (hb : BV n h A k s) {j : Nat} (hj : j < bC s) : ∀ i, i ≤ dp s j → anc s j i < bC s ∧ dp s (anc s j i) = dp s j - i
  | 0, _ => ⟨hj, by rw [Nat.sub_zero]; rfl⟩
  | i + 1, hi => by
    obtain ⟨h1, h2⟩ := anc_dp hb hj i (by omega)
    have pos : 1 ≤ anc s j i := by
      rcases Nat.eq_zero_or_pos (anc s j i) with z | z
      · rw [z, dp_0] at h2; omega
      · exact z
    have hp := (hb.2.2.2.2.1 _ pos h1).1
    have := dp_s hb pos h1
    refine ⟨?_, ?_⟩
    · show bP s (anc s j i) < bC s
      omega
    · show dp s (bP s (anc s j i)) = _
      omega
theorem anc_z {n A k : Nat} {h : Nat → Nat → Nat} {s : Bs} (hb : BV n h A k s) {j : Nat} (hj : j < bC s) {i : Nat} (hi : i ≤ dp s j) : bF s (anc s j i) = 0 ↔ i = dp s j := by
  obtain ⟨h1, h2⟩ := anc_dp hb hj i hi
  refine ⟨fun e => ?_, fun e => ?_⟩
  · rcases Nat.eq_zero_or_pos (anc s j i) with z | z
    · rw [z, dp_0] at h2; omega
    · exact absurd (hb.2.1.trans e.symm) (hb.2.2.2.1 0 _ z h1)
  · subst e
    have z : anc s j (dp s j) = 0 := by
      rcases Nat.eq_zero_or_pos (anc s j (dp s j)) with z | z
      · exact z
      · have := dp_s hb z h1; omega
    rw [z]; exact hb.2.1
section MW
variable {S : St} {m q : Nat} {am : Nat → Nat} {B : Bk}
theorem sm_way {r : Nat} {Q : Int32 → FI → Prop} (hL : LM S m am) (hb : bok B) (hB : BM B (gI S (am 0))) (hM : SM (gI S) m am q) (hq0 : q + 1 < 2 ^ 31) (hr : r < fac (bn B))
    (hq : ∀ j, j < bC (bfin (bn B) (hb3 B) (3 * bM B)) → bF (bfin (bn B) (hb3 B) (3 * bM B)) j = r → ∀ F, Kp tF m am (gI S) F → SM F m am (q + 1) → F m 43 = nI (dp (bfin (bn B) (hb3 B) (3 * bM B)) j) → (∀ t, t < dp (bfin (bn B) (hb3 B) (3 * bM B)) j → F (am 42) t = nI (wvy (bfin (bn B) (hb3 B) (3 * bM B)) j t)) → P_X12_gives m (nI (dp (bfin (bn B) (hb3 B) (3 * bM B)) j)) (wI S F) Q)
    (hq2 : us (bF (bfin (bn B) (hb3 B) (3 * bM B))) (bC (bfin (bn B) (hb3 B) (3 * bM B))) r = false → ∀ F, Kp tF m am (gI S) F → SM F m am (q + 1) → F m 43 = gI S m 43 → F (am 42) = gI S (am 42) → P_X12_refuse m 6 (wI S F) Q) : P_X12_way m (nI r) S Q := by
  have hn := hb.2.1
  have hM4 := hb.2.2.1
  have hp := hb3_pm hb
  have hfac := fac_8 (bn B) (by omega)
  obtain ⟨hbv, -⟩ := fin_bv hn hp
  have hC := ob_C hn hp (fac (bn B))
  obtain ⟨s, hs⟩ : ∃ s, s = bfin (bn B) (hb3 B) (3 * bM B) := ⟨_, rfl⟩
  have hC' : bC s ≤ fac (bn B) := by rw [hs]; exact hC
  rw [← hs] at hq hq2 hbv
  refine ⟨hL.z, mRy hL hb hB hr ⟨fun _ => sm_findsAll hL hb hB hM hq0 (fun F ms => ⟨am 28, hL.r 28, hL.k 28, hL.i 28 (by show r < 40320; omega), ?_⟩), fun c => absurd c one0⟩⟩
  rw [← hs] at ms
  obtain ⟨kk, m41, m29, z28, r38, r39, r43, r42⟩ := ms
  have smq : SM F m am (q + 1) := ⟨m29, z28.z⟩
  rw [nI_clamp (by omega), m29, (z28 r (by omega)).2]
  refine ⟨fun hu => ?_, fun hu => hq2 (ts_nt hu) F kk smq r43 r42⟩
  obtain ⟨j, hj, ej⟩ := (us_iff _ _ _).mp hu
  have dj := dp_le hbv (j + 1) j (by omega) hj
  have fl : ∀ i, i ≤ dp s j → bF s (anc s j i) < 40320 := fun i hi => by
    have := hbv.2.2.1 _ (anc_dp hbv hj i hi).1
    omega
  have ne0 : ∀ i, i < dp s j → 1 ≤ anc s j i := fun i hi => by
    rcases Nat.eq_zero_or_pos (anc s j i) with z | z
    · have := (anc_dp hbv hj i (by omega)).2
      rw [z, dp_0] at this; omega
    · exact z
  refine ⟨fun t x2 x3 => ∃ i, i ≤ dp s j ∧ t = dp s j - i ∧ x2 = nI i ∧ x3 = nI (bF s (anc s j i)), ⟨dp s j, 0, by omega, rfl, rfl, by rw [← ej]; rfl⟩, ?_⟩
  rintro t x2 x3 ⟨i, hi, rfl, rfl, rfl⟩
  have fi := fl i hi
  rw [nI_z (by omega), anc_z hbv hj hi]
  refine ⟨fun e F12 e12 v13 e13 => ?_, fun hne v33 e33 => ?_⟩
  · subst e
    refine ⟨fun t x3 x4 F => ∃ i, i ≤ dp s j ∧ t = dp s j - i ∧ (i < dp s j → x3 = nI (dp s j - 1 - i)) ∧ x4 = nI (bF s (anc s j i)) ∧ Kp tF m am (gI S) F ∧ F m 43 = nI (dp s j) ∧ (∀ z, z ≠ 43 → F m z = F12 m z) ∧ (∀ f, mk f ≠ 0 → f ≠ 42 → F (am f) = F12 (am f)) ∧ ∀ t, dp s j - i ≤ t → t < dp s j → F (am 42) t = nI (wvy s j t), ⟨dp s j, 0, by omega, rfl, fun h => by rw [e13, sub1 (by omega), Nat.sub_zero], by rw [← ej]; rfl, by rw [e12]; exact kk.tr (Kp.fd 43), by rw [e12, up_at], fun _ _ => rfl, fun _ _ _ => rfl, fun t h1 h2 => by omega⟩, ?_⟩
    rintro t x3 x4 F' ⟨i, hi, rfl, hx3, rfl, kk', m43, mz, mf, w42⟩
    have fi := fl i hi
    rw [nI_z (by omega), anc_z hbv hj hi]
    have a12 : ∀ f, mk f ≠ 0 → f ≠ 42 → F' (am f) = F (am f) := fun f hf h => by rw [mf f hf h, e12, up_ne (hL.o f hf)]
    refine ⟨fun e => ?_, fun hne => ?_⟩
    · subst e
      refine hq j hj ej F' kk' ⟨?_, ?_⟩ m43 (fun t ht => w42 t (by omega) ht)
      · rw [mz 29 (by decide), e12, up_no (by decide)]; exact m29
      · rw [a12 28 (by decide) (by decide)]; exact z28.z
    · have hlt : i < dp s j := by omega
      obtain ⟨y1, y2⟩ := r39 (anc s j i) (ne0 i hlt) (anc_dp hbv hj i hi).1
      have x3e := hx3 hlt
      subst x3e
      refine ⟨am 42, hL.r 42, am 40, hL.r 40, hL.k 40, hL.i 40 (by show bF s (anc s j i) < 40320; omega), hL.k 42, hL.i 42 (by show dp s j - 1 - i < 40320; omega), fun v26 e26 F27 e27 v28 e28 => ⟨am 39, hL.r 39, hL.k 39, hL.i 39 (by show bF s (anc s j i) < 40320; omega), fun v32 e32 => ?_⟩⟩
      rw [nI_clamp (by omega), a12 40 (by decide) (by decide), y2] at e26
      subst e26
      rw [nI_clamp (by omega)] at e27 e32
      have v32e : v32 = nI (bF s (anc s j (i + 1))) := by rw [e32, e27, up_ne (hL.n (by decide)), a12 39 (by decide) (by decide), y1]; rfl
      subst v32e
      refine ⟨dp s j - (i + 1), by omega, i + 1, by omega, rfl, fun h => ?_, rfl, by rw [e27]; exact kk'.tr (Kp.on hL 42 On.up), by rw [e27, up_ne (Ne.symm (hL.o 42))]; exact m43, fun z hz => by rw [e27, up_ne (Ne.symm (hL.o 42))]; exact mz z hz, fun f hf h => by rw [e27, up_ne (hL.n h hf)]; exact mf f hf h, fun t h1 h2 => ?_⟩
      · rw [e28, show dp s j - 1 - i = dp s j - 1 - (i + 1) + 1 by omega]; exact pk_m1 _
      · rw [e27]
        by_cases c : t = dp s j - 1 - i
        · rw [c, up_at]
          unfold wvy
          rw [show dp s j - 1 - (dp s j - 1 - i) = i by omega]
        · rw [up_no c]; exact w42 t (by omega) h2
  · have hlt : i < dp s j := by omega
    obtain ⟨y1, y2⟩ := r39 (anc s j i) (ne0 i hlt) (anc_dp hbv hj i hi).1
    refine ⟨am 39, hL.r 39, hL.k 39, hL.i 39 (by show bF s (anc s j i) < 40320; omega), fun v37 e37 => ⟨dp s j - (i + 1), by omega, i + 1, by omega, rfl, by rw [e33]; exact nI_1 i, ?_⟩⟩
    rw [e37, nI_clamp (by omega), y1]
    rfl
end MW
