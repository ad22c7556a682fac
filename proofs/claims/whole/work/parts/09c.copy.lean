/-! Arrays.copyOf of ints: a clone, or a new array and a copy -/
def P_J7_copyOf_59c91 (p0 : Nat) (p1 : Int32) (S : St) (bc bs : Nat) (Q : Option Nat → St → Prop) : Prop :=
  kd S p0 = 21 ∧ ¬ p1 < 0 ∧ p1.toNatClampNeg * 4 ≤ 536870912 ∧ ln S p0 < 2 ^ 31 ∧ 1 ≤ bc ∧ p1.toNatClampNeg ≤ bs ∧
  ∀ (q : Nat) (f : Nat → Int32), kd S q = 0 → (∀ j, j < p1.toNatClampNeg → f j = if j < ln S p0 then gI S p0 j else 0) → ∀ S1 : St, S1 = wI (alo S q 21 p1.toNatClampNeg) (va_up (gI S) q f) → Q (some q) S1
theorem dcpy_0 : decode cJ7_copyOf_59c91 0 = .ok (.iload_n 1, 1) := by decide +kernel
theorem dcpy_1 : decode cJ7_copyOf_59c91 1 = .ok (.aload_n 0, 1) := by decide +kernel
theorem dcpy_2 : decode cJ7_copyOf_59c91 2 = .ok (.arraylength, 1) := by decide +kernel
theorem dcpy_3 : decode cJ7_copyOf_59c91 3 = .ok (.if_icmp .ne 11, 3) := by decide +kernel
theorem dcpy_6 : decode cJ7_copyOf_59c91 6 = .ok (.aload_n 0, 1) := by decide +kernel
theorem dcpy_7 : decode cJ7_copyOf_59c91 7 = .ok (.invokevirtual 316, 3) := by decide +kernel
theorem dcpy_10 : decode cJ7_copyOf_59c91 10 = .ok (.checkcast 317, 3) := by decide +kernel
theorem dcpy_13 : decode cJ7_copyOf_59c91 13 = .ok (.areturn, 1) := by decide +kernel
theorem dcpy_14 : decode cJ7_copyOf_59c91 14 = .ok (.iload_n 1, 1) := by decide +kernel
theorem dcpy_15 : decode cJ7_copyOf_59c91 15 = .ok (.newarray .int, 2) := by decide +kernel
theorem dcpy_17 : decode cJ7_copyOf_59c91 17 = .ok (.astore_n 2, 1) := by decide +kernel
theorem dcpy_18 : decode cJ7_copyOf_59c91 18 = .ok (.aload_n 0, 1) := by decide +kernel
theorem dcpy_19 : decode cJ7_copyOf_59c91 19 = .ok (.iconst 0, 1) := by decide +kernel
theorem dcpy_20 : decode cJ7_copyOf_59c91 20 = .ok (.aload_n 2, 1) := by decide +kernel
theorem dcpy_21 : decode cJ7_copyOf_59c91 21 = .ok (.iconst 0, 1) := by decide +kernel
theorem dcpy_22 : decode cJ7_copyOf_59c91 22 = .ok (.aload_n 0, 1) := by decide +kernel
theorem dcpy_23 : decode cJ7_copyOf_59c91 23 = .ok (.arraylength, 1) := by decide +kernel
theorem dcpy_24 : decode cJ7_copyOf_59c91 24 = .ok (.iload_n 1, 1) := by decide +kernel
theorem dcpy_25 : decode cJ7_copyOf_59c91 25 = .ok (.invokestatic 304, 3) := by decide +kernel
theorem dcpy_28 : decode cJ7_copyOf_59c91 28 = .ok (.invokestatic 150, 3) := by decide +kernel
theorem dcpy_31 : decode cJ7_copyOf_59c91 31 = .ok (.aload_n 2, 1) := by decide +kernel
theorem dcpy_32 : decode cJ7_copyOf_59c91 32 = .ok (.areturn, 1) := by decide +kernel
/-- a new cell of any contents -/
theorem rp_newG {G : GG} {A : Nat → Prop} {H0 H : Heap} {locs : List Loc} {S : St} (h : Hp G A H0 S H locs) :
    ∃ ws : va_W, va_P G.1 vwCl ws H ∧ va_D A ws ∧ va_S A H0 H locs ∧ (∀ (b : Nat) (E3 : va_E), kd S b ≠ 0 → enc G.2.1 S b = E3 → ∃ k3 : Nat, ws[k3]? = some (b, E3)) ∧
      ∀ (q : Nat) (S2 : St) (E : va_E) (H1 : Heap), kd S2 q ≠ 0 → (∀ b, b ≠ q → kd S2 b = kd S b) → enc G.2.1 S2 q = E → (∀ b, b ≠ q → enc G.2.1 S2 b = enc G.2.1 S b) → va_P G.1 vwCl (ws ++ [(q, E)]) H1 → va_D A (ws ++ [(q, E)]) → va_S A H0 H1 locs → Hp G A H0 S2 H1 locs := by
  obtain ⟨⟨L, hL, hP, hD⟩, hI, hS⟩ := h
  have hD' : va_D A (va_pl L (enc G.2.1 S)) := hD.weaken (fun k q hq _ => by
    obtain ⟨x, hx, e⟩ := List.mem_map.mp (List.mem_of_getElem? hq)
    rw [← e]
    exact hI x ((hL x).mp hx))
  refine ⟨va_pl L (enc G.2.1 S), hP, hD', hS, fun b E3 hb hE3 => ?_, fun q S2 E H1 hk hk2 hE hE2 hP1 hD1 hS1 => ?_⟩
  · obtain ⟨k3, hk3⟩ := va_pl_get (X := []) (f := enc G.2.1 S) ((hL b).mpr hb)
    exact ⟨k3, by rw [← hE3]; exact hk3⟩
  have hq : q ∉ L := fun hm => by
    obtain ⟨i, hi⟩ := va_pl_get (X := []) (f := enc G.2.1 S) hm
    have hi : (va_pl L (enc G.2.1 S))[i]? = some (q, enc G.2.1 S q) := hi
    have hl : i < (va_pl L (enc G.2.1 S)).length := (List.getElem?_eq_some_iff.mp hi).1
    have e := hD1.1 i (va_pl L (enc G.2.1 S)).length (q, enc G.2.1 S q) (q, E) (by rw [List.getElem?_append_left hl]; exact hi) (by rw [List.getElem?_append_right (Nat.le_refl _), Nat.sub_self]; rfl) rfl
    omega
  have e : va_pl L (enc G.2.1 S) ++ [(q, E)] = va_pl (L ++ [q]) (enc G.2.1 S2) := by
    rw [va_pl_push hq]
    refine va_pl_congr (fun b => ?_)
    by_cases hb : b = q
    · subst hb
      rw [va_up_self, hE]
    · rw [va_up_ne _ _ hb, hE2 b hb]
  rw [e] at hP1 hD1
  refine ⟨⟨L ++ [q], fun x => ?_, hP1, hD1.weaken (fun _ _ _ _ => trivial)⟩, fun x hx => ?_, hS1⟩
  · rw [List.mem_append, List.mem_singleton]
    by_cases hx : x = q
    · subst hx
      exact ⟨fun _ => hk, fun _ => Or.inr rfl⟩
    · rw [hk2 x hx, hL x]
      exact ⟨fun h => h.elim id (fun h => absurd h hx), Or.inl⟩
  · by_cases hxq : x = q
    · subst hxq
      have := hD1.2 L.length (x, enc G.2.1 S2 x) (by rw [va_pl, List.map_append, List.getElem?_append_right (by simp), List.length_map, Nat.sub_self]; rfl)
      exact this
    · rw [hk2 x hxq] at hx
      exact hI x hx
theorem mi_J7_copyOf_59c91 : MI yJ7_copyOf_59c91 cJ7_copyOf_59c91 3 (some (FieldType.array FieldType.int)) 2 := ⟨w_code_copyOf, w_init_arrays, by decide +kernel, by decide +kernel, by decide +kernel⟩
set_option maxRecDepth 100000 in
set_option maxHeartbeats 4000000 in
theorem C_J7_copyOf_59c91 (G : GG) (l : Launch) (p0 : Nat) (p1 : Int32) (S : St) (bc bs : Nat) (Q : Option Nat → St → Prop) (hp : P_J7_copyOf_59c91 p0 p1 S bc bs Q) : Ctr G l yJ7_copyOf_59c91 cJ7_copyOf_59c91 3 (some (FieldType.array FieldType.int)) 1 60 bc bs [.ref p0, .int p1] S (fun (v : Option Value) (S9 : St) => ∃ r : Option Nat, v = some (va_rf r) ∧ Q r S9) := by
  generalize hQQ : (fun (v : Option Value) (S9 : St) => ∃ r : Option Nat, v = some (va_rf r) ∧ Q r S9) = QQ
  obtain ⟨hk, hneg, hby, hln, hb1, hb2, hp⟩ := hp
  refine Ctr.of (by decide) (Nat.le_of_ble_eq_true rfl) ?_
  intro p e s m args below meth c ls B hr hlk hin hl hH
  generalize hlocs0 : ([] : List Loc) = locs at hH ⊢
  have hx := B.1
  have hb := B.2.1
  have hl : lv_has ls 3 [(0, .ref p0), (1, .int p1)] := hl
  refine lv_iload_n (pc := 0) hx hb dcpy_0 rfl (lv_at hl 1 rfl) ?_
  refine lv_aload_n (pc := 1) hx hb dcpy_1 rfl (lv_at hl 0 rfl) ?_
  refine sx_alen (pc := 2) B hH hk (by decide) (by decide) dcpy_2 ?_
  refine lv_icmp_ne (pc := 3) (tgt := 14) hx hb dcpy_3 (by decide) (fun cn => ?_) (fun cn => ?_)
  · refine lv_iload_n (pc := 14) hx hb dcpy_14 rfl (lv_at hl 1 rfl) ?_
    refine sx_newi (pc := 15) (M0 := p1.toNatClampNeg) B hH (w_d (by decide +kernel)) rfl hneg hby (show _ + 1 ≤ bc by omega) (show _ + _ ≤ bs by omega) dcpy_15 (fun q H hq hH => ?_)
    refine lv_astore_n (pc := 17) (lv' := [(2, .ref q), (0, .ref p0), (1, .int p1)]) hx hb dcpy_17 rfl hl (by decide) rfl (fun ls hl => ?_)
    have hqp : p0 ≠ q := fun h => by rw [h] at hk; omega
    have hk2 : kd (alo S q 21 p1.toNatClampNeg) p0 = 21 := (kd_alon hqp).trans hk
    have hl2 : ln (alo S q 21 p1.toNatClampNeg) p0 = ln S p0 := ln_alon hqp
    refine lv_aload_n (pc := 18) hx hb dcpy_18 rfl (lv_at hl 1 rfl) ?_
    refine lv_iconst (pc := 19) (v := 0) hx hb dcpy_19 (by decide) ?_
    refine lv_aload_n (pc := 20) hx hb dcpy_20 rfl (lv_at hl 0 rfl) ?_
    refine lv_iconst (pc := 21) (v := 0) hx hb dcpy_21 (by decide) ?_
    refine lv_aload_n (pc := 22) hx hb dcpy_22 rfl (lv_at hl 1 rfl) ?_
    refine sx_alen (pc := 23) B hH hk2 (by decide) (by decide) dcpy_23 ?_
    rw [hl2]
    refine lv_iload_n (pc := 24) hx hb dcpy_24 rfl (lv_at hl 2 rfl) ?_
    refine sx_min (pc := 25) B hl.1 (w_d (by decide +kernel)) (w_d (by decide +kernel)) (w_d (by decide +kernel)) w_min (Nat.le_of_ble_eq_true rfl) (Nat.le_of_ble_eq_true rfl) (show _ ≤ bc by omega) (show _ ≤ bs by omega) dcpy_25 ?_
    obtain ⟨k1, hk1, e1⟩ := nI_of hneg
    have ek : p1.toNatClampNeg = k1 := by rw [e1]; exact nI_clamp hk1
    have emin : (if p1 < nI (ln S p0) then p1 else nI (ln S p0)) = nI (if k1 < ln S p0 then k1 else ln S p0) := by
      rw [e1]
      by_cases hc : k1 < ln S p0
      · rw [if_pos hc, if_pos (nI_lt hc hln)]
      · rw [if_neg hc, if_neg (nI_nlt (Nat.le_of_not_lt hc) hk1)]
    have hmm : (if k1 < ln S p0 then k1 else ln S p0) < 2 ^ 31 := by split <;> omega
    rw [emin]
    have hmc : (nI (if k1 < ln S p0 then k1 else ln S p0)).toNatClampNeg = (if k1 < ln S p0 then k1 else ln S p0) := nI_clamp hmm
    refine sx_copyI (pc := 28) (rest := []) B hH hl.1 (w_d (by decide +kernel)) (w_d (by decide +kernel)) (w_d (by decide +kernel)) (w_d (by decide +kernel)) hk2 kd_alo (by decide) (by decide) (nI_pos hmm) (by rw [hmc, hl2]; show 0 + _ ≤ _; split <;> omega) (by rw [hmc, ln_alo, ek]; show 0 + _ ≤ _; split <;> omega) (Nat.le_of_ble_eq_true rfl) (Nat.le_of_ble_eq_true rfl) dcpy_28 (fun H locs hH => ?_)
    refine lv_aload_n (pc := 31) hx hb dcpy_31 rfl (lv_at hl 0 rfl) ?_
    refine sx_aret (pc := 32) (r := some q) B hH hr (by simp) hlk ?_ (show _ ≤ bc by omega) (show _ ≤ bs by omega) dcpy_32
    rw [← hQQ]
    refine ⟨_, rfl, hp q (va_cpy (gI S p0) (fun _ => 0) 0 0 (if k1 < ln S p0 then k1 else ln S p0)) hq (fun j hj => ?_) _ ?_⟩
    · rw [ek] at hj
      by_cases hc : j < ln S p0
      · rw [if_pos hc, pk_cpy_in (Nat.zero_le _) (by split <;> omega)]
        simp
      · rw [if_neg hc, pk_cpy_out (Or.inr (by split <;> omega))]
    · rw [hmc]
      have z0 : (0 : Int32).toNatClampNeg = 0 := rfl
      rw [z0]
      show cpI (alo S q 21 p1.toNatClampNeg) p0 q 0 0 _ = wI (alo S q 21 p1.toNatClampNeg) _
      unfold cpI wI
      have f1 : (alo S q 21 p1.toNatClampNeg).2.2.1 p0 = gI S p0 := gI_alon hqp
      have f2 : (alo S q 21 p1.toNatClampNeg).2.2.1 q = fun _ => 0 := gI_alo
      rw [f1, f2]
      refine congrArg (fun z => ((alo S q 21 p1.toNatClampNeg).1, (alo S q 21 p1.toNatClampNeg).2.1, z, (alo S q 21 p1.toNatClampNeg).2.2.2.1, (alo S q 21 p1.toNatClampNeg).2.2.2.2)) ?_
      funext b
      by_cases hb : b = q
      · subst hb
        rw [va_up_self, va_up_self]
      · rw [va_up_ne _ _ hb, va_up_ne _ _ hb]
        exact gI_alon hb
  · have ek : p1.toNatClampNeg = ln S p0 := by rw [cn]; exact nI_clamp hln
    refine lv_aload_n (pc := 6) hx hb dcpy_6 rfl (lv_at hl 0 rfl) ?_
    obtain ⟨ws, hP, hD, hS, other, go⟩ := rp_newG hH
    obtain ⟨k3, hk3⟩ := other p0 _ (by omega) (enc_i hk (Or.inr rfl))
    have hfc : s.vm.findClass "[I" = some (G.2.1 21) := (B.2.2.2.2.2.1.1.2 1 (G.2.1 21, .int) rfl).2
    refine va_clone (pc := 7) (D := G.1) (cl := vwCl) (ad := "[I") hx hb (B.2.2.1.trans hl.1.symm) B.2.2.2.1 (B.2.2.2.2.1 _ (w_d (by decide +kernel))) (B.2.2.2.2.1 _ (w_d (by decide +kernel))) (B.2.2.2.2.1 _ (w_d (by decide +kernel))) (B.2.2.2.2.1 _ (w_d (by decide +kernel))) (B.2.2.2.2.1 _ (w_d (by decide +kernel))) B.2.2.2.2.2.1.2.1.2.2.2.2.2 B.2.2.2.2.2.1.1 hP hD hS B.2.2.2.2.2.2.2 k3 1 hk3 rfl hfc (fun i v hv => ?_) (Nat.le_of_ble_eq_true rfl) (Nat.le_of_ble_eq_true rfl) (show _ + 1 ≤ bc by omega) (show _ + ln S p0 ≤ bs by omega) dcpy_7 (fun q H1 a0 a1 a2 a3 => ?_)
    · rw [vp_cell_i] at hv
      have hi : i < (arrV (G.2.1 21) (ln S p0) (fun j => Value.int (gI S p0 j))).slots.size := (Array.getElem?_eq_some_iff.mp hv).1
      rw [arrV_size] at hi
      rw [arrV_read _ _ hi] at hv
      cases hv
      rfl
    have hq0 : kd S q = 0 := by
      by_cases hz : kd S q = 0
      · exact hz
      · obtain ⟨k4, hk4⟩ := other q _ hz rfl
        have hl4 : k4 < ws.length := (List.getElem?_eq_some_iff.mp hk4).1
        have e := a2.1 k4 ws.length (q, enc G.2.1 S q) (q, .inl (G.2.1 21, ln S p0, .inl (gI S p0))) (by rw [List.getElem?_append_left hl4]; exact hk4) (by rw [List.getElem?_append_right (Nat.le_refl _), Nat.sub_self]; rfl) rfl
        omega
    have K1 : ∀ b, b ≠ q → kd (alo S q 21 (ln S p0)) b = kd S b := fun b hb => kd_alon hb
    have K2 : ∀ b, b ≠ q → ln (alo S q 21 (ln S p0)) b = ln S b := fun b hb => ln_alon hb
    have K3 : ∀ b, b ≠ q → gJ (alo S q 21 (ln S p0)) b = gJ S b := fun b hb => gJ_alon hb
    have K4 : ∀ b, b ≠ q → gR (alo S q 21 (ln S p0)) b = gR S b := fun b hb => gR_alon hb
    have hH2 := go q (wI (alo S q 21 (ln S p0)) (va_up (gI S) q (gI S p0))) _ H1 (by show va_up _ _ _ _ ≠ 0; rw [va_up_self]; decide) K1 (by
      have e1 : kd (wI (alo S q 21 (ln S p0)) (va_up (gI S) q (gI S p0))) q = 21 := kd_alo (S := S) (n := ln S p0)
      have e2 : ln (wI (alo S q 21 (ln S p0)) (va_up (gI S) q (gI S p0))) q = ln S p0 := ln_alo (S := S) (k := 21)
      have e3 : gI (wI (alo S q 21 (ln S p0)) (va_up (gI S) q (gI S p0))) q = gI S p0 := va_up_self ..
      rw [enc_i e1 (Or.inr rfl), e2, e3]) (fun b hb => enc_eq (K1 b hb) (K2 b hb) (va_up_ne _ _ hb) (K3 b hb) (K4 b hb)) a1 a2 a3
    have hkn : (ws ++ [(q, (.inl (G.2.1 21, ln S p0, .inl (gI S p0)) : va_E))])[ws.length]? = some (q, .inl (G.2.1 21, ln S p0, .inl (gI S p0))) := by rw [List.getElem?_append_right (Nat.le_refl _), Nat.sub_self]; rfl
    refine va_castA (pc := 10) (D := G.1) (cl := vwCl) hx hb B.2.2.2.1 (B.2.2.2.2.1 (Cond.classLink "java/util/Arrays" 317 "[I") (w_d (by decide +kernel))) a1 ws.length hkn hfc dcpy_10 ?_
    refine sx_aret (pc := 13) (r := some q) B hH2 hr (by simp) hlk ?_ (show _ ≤ bc by omega) (show _ ≤ bs by omega) dcpy_13
    rw [← hQQ]
    refine ⟨_, rfl, hp q (gI S p0) hq0 (fun j hj => ?_) _ (by rw [ek])⟩
    rw [if_pos (by omega)]
