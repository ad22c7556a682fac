theorem dcoder_0 : decode cJ0_coder_7d493 0 = .ok (.getstatic 38, 3) := by decide +kernel
theorem dcoder_3 : decode cJ0_coder_7d493 3 = .ok (.ifCond .eq 10, 3) := by decide +kernel
theorem dcoder_6 : decode cJ0_coder_7d493 6 = .ok (.aload_n 0, 1) := by decide +kernel
theorem dcoder_7 : decode cJ0_coder_7d493 7 = .ok (.getfield 15, 3) := by decide +kernel
theorem dcoder_10 : decode cJ0_coder_7d493 10 = .ok (.goto 4, 3) := by decide +kernel
theorem dcoder_14 : decode cJ0_coder_7d493 14 = .ok (.ireturn, 1) := by decide +kernel
theorem dlen_0 : decode cJ0_length_8abf5 0 = .ok (.aload_n 0, 1) := by decide +kernel
theorem dlen_1 : decode cJ0_length_8abf5 1 = .ok (.getfield 9, 3) := by decide +kernel
theorem dlen_4 : decode cJ0_length_8abf5 4 = .ok (.arraylength, 1) := by decide +kernel
theorem dlen_5 : decode cJ0_length_8abf5 5 = .ok (.aload_n 0, 1) := by decide +kernel
theorem dlen_6 : decode cJ0_length_8abf5 6 = .ok (.invokevirtual 335, 3) := by decide +kernel
theorem dlen_9 : decode cJ0_length_8abf5 9 = .ok (.ishr, 1) := by decide +kernel
theorem dlen_10 : decode cJ0_length_8abf5 10 = .ok (.ireturn, 1) := by decide +kernel
theorem disl_0 : decode cJ0_isLatin1_aae02 0 = .ok (.getstatic 38, 3) := by decide +kernel
theorem disl_3 : decode cJ0_isLatin1_aae02 3 = .ok (.ifCond .eq 14, 3) := by decide +kernel
theorem disl_6 : decode cJ0_isLatin1_aae02 6 = .ok (.aload_n 0, 1) := by decide +kernel
theorem disl_7 : decode cJ0_isLatin1_aae02 7 = .ok (.getfield 15, 3) := by decide +kernel
theorem disl_10 : decode cJ0_isLatin1_aae02 10 = .ok (.ifCond .ne 7, 3) := by decide +kernel
theorem disl_13 : decode cJ0_isLatin1_aae02 13 = .ok (.iconst 1, 1) := by decide +kernel
theorem disl_14 : decode cJ0_isLatin1_aae02 14 = .ok (.goto 4, 3) := by decide +kernel
theorem disl_18 : decode cJ0_isLatin1_aae02 18 = .ok (.ireturn, 1) := by decide +kernel
theorem dpre_0 : decode prog_22_method_11_code 0 = .ok (.iload_n 0, 1) := by decide +kernel
theorem dpre_1 : decode prog_22_method_11_code 1 = .ok (.ifCond .lt 8, 3) := by decide +kernel
theorem dpre_4 : decode prog_22_method_11_code 4 = .ok (.iload_n 0, 1) := by decide +kernel
theorem dpre_5 : decode prog_22_method_11_code 5 = .ok (.iload_n 1, 1) := by decide +kernel
theorem dpre_6 : decode prog_22_method_11_code 6 = .ok (.if_icmp .lt 10, 3) := by decide +kernel
theorem dpre_16 : decode prog_22_method_11_code 16 = .ok (.iload_n 0, 1) := by decide +kernel
theorem dpre_17 : decode prog_22_method_11_code 17 = .ok (.ireturn, 1) := by decide +kernel
theorem dchk_0 : decode cJ0_checkIndex_df160 0 = .ok (.iload_n 0, 1) := by decide +kernel
theorem dchk_1 : decode cJ0_checkIndex_df160 1 = .ok (.iload_n 1, 1) := by decide +kernel
theorem dchk_2 : decode cJ0_checkIndex_df160 2 = .ok (.getstatic 1053, 3) := by decide +kernel
theorem dchk_5 : decode cJ0_checkIndex_df160 5 = .ok (.invokestatic 1059, 3) := by decide +kernel
theorem dchk_8 : decode cJ0_checkIndex_df160 8 = .ok (.pop, 1) := by decide +kernel
theorem dchk_9 : decode cJ0_checkIndex_df160 9 = .ok (.return_, 1) := by decide +kernel
theorem dlat_0 : decode cJ1_charAt_3b067 0 = .ok (.iload_n 1, 1) := by decide +kernel
theorem dlat_1 : decode cJ1_charAt_3b067 1 = .ok (.aload_n 0, 1) := by decide +kernel
theorem dlat_2 : decode cJ1_charAt_3b067 2 = .ok (.arraylength, 1) := by decide +kernel
theorem dlat_3 : decode cJ1_charAt_3b067 3 = .ok (.invokestatic 9, 3) := by decide +kernel
theorem dlat_6 : decode cJ1_charAt_3b067 6 = .ok (.aload_n 0, 1) := by decide +kernel
theorem dlat_7 : decode cJ1_charAt_3b067 7 = .ok (.iload_n 1, 1) := by decide +kernel
theorem dlat_8 : decode cJ1_charAt_3b067 8 = .ok (.baload, 1) := by decide +kernel
theorem dlat_9 : decode cJ1_charAt_3b067 9 = .ok (.sipush 255, 3) := by decide +kernel
theorem dlat_12 : decode cJ1_charAt_3b067 12 = .ok (.iand, 1) := by decide +kernel
theorem dlat_13 : decode cJ1_charAt_3b067 13 = .ok (.i2c, 1) := by decide +kernel
theorem dlat_14 : decode cJ1_charAt_3b067 14 = .ok (.ireturn, 1) := by decide +kernel
theorem dcha_0 : decode cJ0_charAt_5068e 0 = .ok (.aload_n 0, 1) := by decide +kernel
theorem dcha_1 : decode cJ0_charAt_5068e 1 = .ok (.invokevirtual 492, 3) := by decide +kernel
theorem dcha_4 : decode cJ0_charAt_5068e 4 = .ok (.ifCond .eq 12, 3) := by decide +kernel
theorem dcha_7 : decode cJ0_charAt_5068e 7 = .ok (.aload_n 0, 1) := by decide +kernel
theorem dcha_8 : decode cJ0_charAt_5068e 8 = .ok (.getfield 9, 3) := by decide +kernel
theorem dcha_11 : decode cJ0_charAt_5068e 11 = .ok (.iload_n 1, 1) := by decide +kernel
theorem dcha_12 : decode cJ0_charAt_5068e 12 = .ok (.invokestatic 495, 3) := by decide +kernel
theorem dcha_15 : decode cJ0_charAt_5068e 15 = .ok (.ireturn, 1) := by decide +kernel
def yPre : MethodName := ⟨"jdk/internal/util/Preconditions", "checkIndex", "(IILjava/util/function/BiFunction;)I"⟩
theorem w_d {c : Cond} (h : (decide (c ∈ lw_tbl) && goodWord c) = true) : c ∈ TB := by
  simp only [Bool.and_eq_true, decide_eq_true_eq] at h
  exact List.mem_filter.mpr h
theorem mi_coder : MI yJ0_coder_7d493 cJ0_coder_7d493 1 (some .byte) 0 := ⟨w_d (by decide +kernel), w_d (by decide +kernel), by decide +kernel, by decide +kernel, by decide +kernel⟩
theorem mi_len : MI yJ0_length_8abf5 cJ0_length_8abf5 1 (some .int) 0 := ⟨w_d (by decide +kernel), w_d (by decide +kernel), by decide +kernel, by decide +kernel, by decide +kernel⟩
theorem mi_isl : MI yJ0_isLatin1_aae02 cJ0_isLatin1_aae02 1 (some .boolean) 0 := ⟨w_d (by decide +kernel), w_d (by decide +kernel), by decide +kernel, by decide +kernel, by decide +kernel⟩
theorem mi_cha : MI yJ0_charAt_5068e cJ0_charAt_5068e 2 (some .char) 1 := ⟨w_d (by decide +kernel), w_d (by decide +kernel), by decide +kernel, by decide +kernel, by decide +kernel⟩
theorem mi_lat : MI yJ1_charAt_3b067 cJ1_charAt_3b067 2 (some .char) 2 := ⟨w_d (by decide +kernel), w_d (by decide +kernel), by decide +kernel, by decide +kernel, by decide +kernel⟩
theorem mi_chk : MI yJ0_checkIndex_df160 cJ0_checkIndex_df160 2 none 2 := ⟨w_d (by decide +kernel), w_d (by decide +kernel), by decide +kernel, by decide +kernel, by decide +kernel⟩
theorem mi_pre : MI yPre prog_22_method_11_code 3 (some .int) 3 := ⟨w_d (by decide +kernel), w_d (by decide +kernel), by decide +kernel, by decide +kernel, by decide +kernel⟩
section HS
variable {G : GG} {p : Program} {l : Launch} {e : Env} {R : Room} {s : State} {m : MethodId} {args : Array Value} {below : List Frame} {meth : Method} {c : Code} {H : Heap} {locs : List Loc} {cells slots : Nat} {Q : State → Prop}
variable {cc : ByteArray} {nL pc index : Nat} {own : String} {ls : Array Slot} {rest : List Value} {A : Nat → Prop} {S S0 : St} {mc ms : Nat} {Q' : Option Value → St → Prop}
theorem sx_nret {v : Int32} {ty : FieldType} (B : Bd G p s m args c cc nL own (FA S0 s.heap.size)) (h : Hp G (FA S0 s.heap.size) s.heap S H locs) (hr : meth.sig.returnType = some ty) (hlk : meth.locks = false) (hz : narrow ty (.int v) = .int v) (hq : Q' (some (.int v)) S) (hc : cells ≤ mc) (hs : slots ≤ ms) (hdg : decode cc pc = .ok (.ireturn, 1)) :
    W p l e R s m args below meth c H locs cells slots (MQ below (Qd G S0 s.heap.size Q') args s mc ms (FA S0 s.heap.size)) (F0 m pc ls [.int v]) := by
  refine W.widen (k := mc) (n := ms) hc hs ?_
  exact W.zret B.1 B.2.1 hr hz (fun t ht hW => ⟨⟨_, S, rfl, hq, by rw [ht]; exact h.1, h.2.1⟩, h.2.2.F ht⟩) h.2.2.2.2 hdg hlk
variable {y : MethodName} {bc : ByteArray} {mL n fr lo mc' ms' : Nat} {rt : Option FieldType} {As : List Value} {st0 : List Value}
theorem sx_VS {i : Nat} (B : Bd G p s m args c cc nL own A) (h : Hp G A s.heap S H locs) (hl : ls.size = nL) (hM : Ctr G l y bc mL rt fr lo mc' ms' (.ref (G.2.2.1 i) :: As) S Q') (hy : MI y bc mL rt n) (hi : i < 13) (hst : Cond.instanceMethod y ∈ TB) (hse : Cond.selects "java/lang/String" y y ∈ TB) (hw : Cond.methodLink own index y ∈ TB) (hn : As.length = n) (hs : st0 = As.reverse ++ .ref (G.2.2.1 i) :: rest) (hR : fr + 1 ≤ R.frames ∧ 8 + (mL + 11) + lo ≤ R.locals) (hrest : (rest.map fun v => v.category).sum ≤ 8) (hf : cells + mc' ≤ R.cells ∧ slots + ms' ≤ R.slots) (hdg : decode cc pc = .ok (.invokevirtual index, 3))
    (kk : ∀ (v : Option Value) (S1 : St) (H : Heap) (locs : List Loc), Q' v S1 → Hp G A s.heap S1 H locs → W p l e R s m args below meth c H locs (cells + mc') (slots + ms') Q (F0 m (pc + 3) ls (v.toList ++ rest))) : W p l e R s m args below meth c H locs cells slots Q (F0 m pc ls st0) := by
  have B' := B
  obtain ⟨hx, hb, hml, hown, hts, hK, hF, hA⟩ := B
  refine sx_go B' h (va_runV (C := "java/lang/String") (As := As) ⟨hx, hb, hml, hown, hts⟩ (hM H.size) ⟨callB_of (ws' := TB) n hts (good_tb hy.1) rfl rfl rfl (hts _ hy.2.1) (hts _ hw) hy.2.2 hR, hts _ hst, hts _ hse⟩ ⟨wd_blind _ _, vk_recv hF.2.2.1 hi h.2.2, fun U hU hW => ⟨rfl, wd_at B' h hU hW⟩⟩ rfl hn hl hs (lv_room hrest) hdg hf) kk
end HS
set_option maxRecDepth 100000 in
theorem C_coder (G : GG) (l : Launch) (i : Nat) (hi : i < 13) (S : St) : Ctr G l yJ0_coder_7d493 cJ0_coder_7d493 1 (some .byte) 0 0 0 0 [.ref (G.2.2.1 i)] S (fun v S9 => v = some (.int 0) ∧ S9 = S) := by
  refine Ctr.of (by decide) (Nat.le_of_ble_eq_true rfl) ?_
  intro p e s m args below meth c ls B hr hlk hin hl hH
  have hx := B.1
  have hb := B.2.1
  have hl : lv_has ls 1 [(0, .ref (G.2.2.1 i))] := hl
  refine va_gets (pc := 0) hx hb B.2.2.2.2.2.2.1.2.2.2.1 hH.2.2 B.2.2.2.1 (B.2.2.2.2.1 (Cond.fieldLink "java/lang/String" 38 "java/lang/String" "COMPACT_STRINGS" "Z") (w_d (by decide +kernel))) (fun _ h9 => h9) dcoder_0 ?_
  refine lv_if_eq (pc := 3) (tgt := 13) hx hb dcoder_3 (by decide) (fun h => absurd h (by decide)) (fun _ => ?_)
  refine lv_aload_n (pc := 6) hx hb dcoder_6 rfl (lv_at hl 0 rfl) ?_
  refine vk_getf (pc := 7) hx hb (B.2.2.2.2.2.2.1.2.2.1.1 i hi).2.1 hH.2.2 B.2.2.2.1 (B.2.2.2.2.1 (Cond.fieldLink "java/lang/String" 15 "java/lang/String" "coder" "B") (w_d (by decide +kernel))) (fun _ h9 => h9) dcoder_7 ?_
  refine lv_goto (pc := 10) (tgt := 14) hx hb dcoder_10 (by decide) ?_
  exact sx_nret (pc := 14) B hH hr hlk (by decide) ⟨rfl, rfl⟩ (Nat.le_refl _) (Nat.le_refl _) dcoder_14
set_option maxRecDepth 100000 in
theorem C_isl (G : GG) (l : Launch) (i : Nat) (hi : i < 13) (S : St) : Ctr G l yJ0_isLatin1_aae02 cJ0_isLatin1_aae02 1 (some .boolean) 0 0 0 0 [.ref (G.2.2.1 i)] S (fun v S9 => v = some (.int 1) ∧ S9 = S) := by
  refine Ctr.of (by decide) (Nat.le_of_ble_eq_true rfl) ?_
  intro p e s m args below meth c ls B hr hlk hin hl hH
  have hx := B.1
  have hb := B.2.1
  have hl : lv_has ls 1 [(0, .ref (G.2.2.1 i))] := hl
  refine va_gets (pc := 0) hx hb B.2.2.2.2.2.2.1.2.2.2.1 hH.2.2 B.2.2.2.1 (B.2.2.2.2.1 (Cond.fieldLink "java/lang/String" 38 "java/lang/String" "COMPACT_STRINGS" "Z") (w_d (by decide +kernel))) (fun _ h9 => h9) disl_0 ?_
  refine lv_if_eq (pc := 3) (tgt := 17) hx hb disl_3 (by decide) (fun h => absurd h (by decide)) (fun _ => ?_)
  refine lv_aload_n (pc := 6) hx hb disl_6 rfl (lv_at hl 0 rfl) ?_
  refine vk_getf (pc := 7) hx hb (B.2.2.2.2.2.2.1.2.2.1.1 i hi).2.1 hH.2.2 B.2.2.2.1 (B.2.2.2.2.1 (Cond.fieldLink "java/lang/String" 15 "java/lang/String" "coder" "B") (w_d (by decide +kernel))) (fun _ h9 => h9) disl_7 ?_
  refine lv_if_ne (pc := 10) (tgt := 17) hx hb disl_10 (by decide) (fun h => absurd rfl h) (fun _ => ?_)
  refine lv_iconst (pc := 13) (v := 1) hx hb disl_13 (by decide) ?_
  refine lv_goto (pc := 14) (tgt := 18) hx hb disl_14 (by decide) ?_
  exact sx_nret (pc := 18) B hH hr hlk (by decide) ⟨rfl, rfl⟩ (Nat.le_refl _) (Nat.le_refl _) disl_18
set_option maxRecDepth 100000 in
theorem C_len (G : GG) (l : Launch) (i : Nat) (hi : i < 13) (S : St) : Ctr G l yJ0_length_8abf5 cJ0_length_8abf5 1 (some .int) 1 20 0 0 [.ref (G.2.2.1 i)] S (fun v S9 => v = some (.int (nI (sLen.getD i 0))) ∧ S9 = S) := by
  refine Ctr.of (by decide) (Nat.le_of_ble_eq_true rfl) ?_
  intro p e s m args below meth c ls B hr hlk hin hl hH
  have hx := B.1
  have hb := B.2.1
  have hl : lv_has ls 1 [(0, .ref (G.2.2.1 i))] := hl
  refine lv_aload_n (pc := 0) hx hb dlen_0 rfl (lv_at hl 0 rfl) ?_
  refine vk_getf (pc := 1) hx hb (B.2.2.2.2.2.2.1.2.2.1.1 i hi).2.2.1 hH.2.2 B.2.2.2.1 (B.2.2.2.2.1 (Cond.fieldLink "java/lang/String" 9 "java/lang/String" "value" "[B") (w_d (by decide +kernel))) (fun _ h9 => h9) dlen_1 ?_
  refine va_tlen (pc := 4) hx hb (B.2.2.2.2.2.2.1.2.2.1.1 i hi).2.2.2 hH.2.2 rfl dlen_4 ?_
  refine lv_aload_n (pc := 5) hx hb dlen_5 rfl (lv_at hl 0 rfl) ?_
  refine sx_VS (pc := 6) (As := []) (rest := [.int (Int32.ofNat (sLen.getD i 0))]) B hH hl.1 (C_coder G l i hi S) mi_coder hi (w_d (by decide +kernel)) (w_d (by decide +kernel)) (w_d (by decide +kernel)) rfl rfl ⟨Nat.le_of_ble_eq_true rfl, Nat.le_of_ble_eq_true rfl⟩ (Nat.le_of_ble_eq_true rfl) ⟨Nat.le_refl _, Nat.le_refl _⟩ dlen_6 (fun v S1 H locs hq hH => ?_)
  obtain ⟨rfl, e9⟩ := hq
  rw [e9] at hH
  refine W.eq (g2 := F0 m 9 ls [.int 0, .int (Int32.ofNat (sLen.getD i 0))]) rfl ?_
  refine lv_ishr (pc := 9) hx hb dlen_9 ?_
  refine sx_iret (pc := 10) B hH hr hlk ⟨?_, rfl⟩ (Nat.le_refl _) (Nat.le_refl _) dlen_10
  rw [sb_shr0]
  rfl
set_option maxRecDepth 100000 in
theorem C_pre (G : GG) (l : Launch) (x n : Int32) (z : Option Nat) (h0 : ¬ x < 0) (h1 : x < n) (S : St) : Ctr G l yPre prog_22_method_11_code 3 (some .int) 0 0 0 0 [.int x, .int n, va_rf z] S (fun v S9 => v = some (.int x) ∧ S9 = S) := by
  refine Ctr.of (by decide) (by cases z <;> exact Nat.le_of_ble_eq_true rfl) ?_
  intro p e s m args below meth c ls B hr hlk hin hl hH
  have hx := B.1
  have hb := B.2.1
  have hl : lv_has ls 3 [(0, .int x), (1, .int n)] := ⟨hl.1, hl.2.1, fun q hq => hl.2.2 q (by
    rcases List.mem_cons.mp hq with rfl | hq
    · exact List.mem_cons_self
    · rcases List.mem_cons.mp hq with rfl | hq
      · exact List.mem_cons_of_mem _ List.mem_cons_self
      · cases hq)⟩
  refine lv_iload_n (pc := 0) hx hb dpre_0 rfl (lv_at hl 0 rfl) ?_
  refine lv_if_lt (pc := 1) (tgt := 9) hx hb dpre_1 (by decide) (fun h => absurd h h0) (fun _ => ?_)
  refine lv_iload_n (pc := 4) hx hb dpre_4 rfl (lv_at hl 0 rfl) ?_
  refine lv_iload_n (pc := 5) hx hb dpre_5 rfl (lv_at hl 1 rfl) ?_
  refine lv_icmp_lt (pc := 6) (tgt := 16) hx hb dpre_6 (by decide) (fun _ => ?_) (fun h => absurd h1 h)
  refine lv_iload_n (pc := 16) hx hb dpre_16 rfl (lv_at hl 0 rfl) ?_
  exact sx_iret (pc := 17) B hH hr hlk ⟨rfl, rfl⟩ (Nat.le_refl _) (Nat.le_refl _) dpre_17
set_option maxRecDepth 100000 in
theorem C_chk (G : GG) (l : Launch) (x n : Int32) (h0 : ¬ x < 0) (h1 : x < n) (S : St) : Ctr G l yJ0_checkIndex_df160 cJ0_checkIndex_df160 2 none 1 22 0 0 [.int x, .int n] S (fun v S9 => v = none ∧ S9 = S) := by
  refine Ctr.of (by decide) (Nat.le_of_ble_eq_true rfl) ?_
  intro p e s m args below meth c ls B hr hlk hin hl hH
  have hx := B.1
  have hb := B.2.1
  have hl : lv_has ls 2 [(0, .int x), (1, .int n)] := hl
  have key : ∃ z : Option Nat, va_Z "jdk/internal/util/Preconditions" "SIOOBE_FORMATTER" "Ljava/util/function/BiFunction;" (va_rf z) (FA S s.heap.size) s s.heap := by
    rcases B.2.2.2.2.2.2.1.2.2.2.2.2 with h | ⟨t, h⟩
    · exact ⟨none, h⟩
    · exact ⟨some t, h⟩
  obtain ⟨z, hz⟩ := key
  refine lv_iload_n (pc := 0) hx hb dchk_0 rfl (lv_at hl 0 rfl) ?_
  refine lv_iload_n (pc := 1) hx hb dchk_1 rfl (lv_at hl 1 rfl) ?_
  refine va_gets (pc := 2) hx hb hz hH.2.2 B.2.2.2.1 (B.2.2.2.2.1 (Cond.fieldLink "java/lang/String" 1053 "jdk/internal/util/Preconditions" "SIOOBE_FORMATTER" "Ljava/util/function/BiFunction;") (w_d (by decide +kernel))) (fun _ h9 => h9) dchk_2 ?_
  refine sx_S (pc := 5) (As := [.int x, .int n, va_rf z]) (rest := []) B hH hl.1 (C_pre G l x n z h0 h1 S) mi_pre (w_d (by decide +kernel)) (w_d (by decide +kernel)) rfl rfl ⟨Nat.le_of_ble_eq_true rfl, Nat.le_of_ble_eq_true rfl⟩ (Nat.le_of_ble_eq_true rfl) ⟨Nat.le_refl _, Nat.le_refl _⟩ dchk_5 (fun v S1 H locs hq hH => ?_)
  obtain ⟨rfl, e9⟩ := hq
  rw [e9] at hH
  refine W.eq (g2 := F0 m 8 ls [.int x]) rfl ?_
  refine lv_pop (pc := 8) (va := .int x) hx hb dchk_8 rfl ?_
  exact sx_vret (pc := 9) B hH hr hlk ⟨rfl, rfl⟩ (Nat.le_refl _) (Nat.le_refl _) dchk_9
theorem sCh_ok : ∀ i, i < 13 → ∀ j, j < sLen.getD i 0 → ((((sByt.getD i []).getD j 0) &&& 255).toUInt32 % 65536).toInt32 = (sByt.getD i []).getD j 0 := by decide +kernel
theorem in_len {j : Int32} {i : Nat} (hi : i < 13) (hj : vp_in j (sLen.getD i 0)) : ¬ j < 0 ∧ j < Int32.ofNat (sLen.getD i 0) := by
  have hl : ∀ i, i < 13 → sLen.getD i 0 < 2 ^ 31 := by decide
  obtain ⟨k, hk, rfl⟩ := vp_in_of hj (hl i hi)
  exact ⟨nI_pos (Nat.lt_trans hk (hl i hi)), nI_lt hk (hl i hi)⟩
set_option maxRecDepth 100000 in
theorem C_lat (G : GG) (l : Launch) (i : Nat) (j : Int32) (hi : i < 13) (hj : vp_in j (sLen.getD i 0)) (S : St) : Ctr G l yJ1_charAt_3b067 cJ1_charAt_3b067 2 (some .char) 2 43 0 0 [.ref (G.2.2.2.1 i), .int j] S (fun v S9 => v = some (.int (sCh i j)) ∧ S9 = S) := by
  refine Ctr.of (by decide) (Nat.le_of_ble_eq_true rfl) ?_
  intro p e s m args below meth c ls B hr hlk hin hl hH
  have hx := B.1
  have hb := B.2.1
  have hl : lv_has ls 2 [(0, .ref (G.2.2.2.1 i)), (1, .int j)] := hl
  obtain ⟨h0, h1⟩ := in_len hi hj
  refine lv_iload_n (pc := 0) hx hb dlat_0 rfl (lv_at hl 1 rfl) ?_
  refine lv_aload_n (pc := 1) hx hb dlat_1 rfl (lv_at hl 0 rfl) ?_
  refine va_tlen (pc := 2) hx hb (B.2.2.2.2.2.2.1.2.2.1.1 i hi).2.2.2 hH.2.2 rfl dlat_2 ?_
  refine sx_S (pc := 3) (As := [.int j, .int (Int32.ofNat (sLen.getD i 0))]) (rest := []) B hH hl.1 (C_chk G l j _ h0 h1 S) mi_chk (w_d (by decide +kernel)) (w_d (by decide +kernel)) rfl rfl ⟨Nat.le_of_ble_eq_true rfl, Nat.le_of_ble_eq_true rfl⟩ (Nat.le_of_ble_eq_true rfl) ⟨Nat.le_refl _, Nat.le_refl _⟩ dlat_3 (fun v S1 H locs hq hH => ?_)
  obtain ⟨rfl, e9⟩ := hq
  rw [e9] at hH
  refine W.eq (g2 := F0 m 6 ls []) rfl ?_
  refine lv_aload_n (pc := 6) hx hb dlat_6 rfl (lv_at hl 0 rfl) ?_
  refine lv_iload_n (pc := 7) hx hb dlat_7 rfl (lv_at hl 1 rfl) ?_
  refine va_tb (pc := 8) hx hb (B.2.2.2.2.2.2.1.2.2.1.1 i hi).2.2.2 hH.2.2 hj rfl dlat_8 ?_
  refine lv_sipush (pc := 9) (v := 255) hx hb dlat_9 (by decide) ?_
  refine lv_iand (pc := 12) hx hb dlat_12 ?_
  have hlt : j.toNatClampNeg < sLen.getD i 0 := Nat.not_le.mp fun q => hj (Or.inr q)
  refine lv_i2c (pc := 13) (v := sCh i j) hx hb dlat_13 (sCh_ok i hi _ hlt) ?_
  refine sx_nret (pc := 14) B hH hr hlk ?_ ⟨rfl, rfl⟩ (Nat.le_refl _) (Nat.le_refl _) dlat_14
  have e := sCh_ok i hi _ hlt
  show narrow .char (.int ((sByt.getD i []).getD j.toNatClampNeg 0)) = .int ((sByt.getD i []).getD j.toNatClampNeg 0)
  rw [← e]
  exact pk_nc _
set_option maxRecDepth 100000 in
theorem C_cha (G : GG) (l : Launch) (i : Nat) (j : Int32) (hi : i < 13) (hj : vp_in j (sLen.getD i 0)) (S : St) : Ctr G l yJ0_charAt_5068e cJ0_charAt_5068e 2 (some .char) 3 64 0 0 [.ref (G.2.2.1 i), .int j] S (fun v S9 => v = some (.int (sCh i j)) ∧ S9 = S) := by
  refine Ctr.of (by decide) (Nat.le_of_ble_eq_true rfl) ?_
  intro p e s m args below meth c ls B hr hlk hin hl hH
  have hx := B.1
  have hb := B.2.1
  have hl : lv_has ls 2 [(0, .ref (G.2.2.1 i)), (1, .int j)] := hl
  refine lv_aload_n (pc := 0) hx hb dcha_0 rfl (lv_at hl 0 rfl) ?_
  refine sx_VS (pc := 1) (As := []) (rest := []) B hH hl.1 (C_isl G l i hi S) mi_isl hi (w_d (by decide +kernel)) (w_d (by decide +kernel)) (w_d (by decide +kernel)) rfl rfl ⟨Nat.le_of_ble_eq_true rfl, Nat.le_of_ble_eq_true rfl⟩ (Nat.le_of_ble_eq_true rfl) ⟨Nat.le_refl _, Nat.le_refl _⟩ dcha_1 (fun v S1 H locs hq hH => ?_)
  obtain ⟨rfl, e9⟩ := hq
  rw [e9] at hH
  refine W.eq (g2 := F0 m 4 ls [.int 1]) rfl ?_
  refine lv_if_eq (pc := 4) (tgt := 16) hx hb dcha_4 (by decide) (fun h => absurd h (by decide)) (fun _ => ?_)
  refine lv_aload_n (pc := 7) hx hb dcha_7 rfl (lv_at hl 0 rfl) ?_
  refine vk_getf (pc := 8) hx hb (B.2.2.2.2.2.2.1.2.2.1.1 i hi).2.2.1 hH.2.2 B.2.2.2.1 (B.2.2.2.2.1 (Cond.fieldLink "java/lang/String" 9 "java/lang/String" "value" "[B") (w_d (by decide +kernel))) (fun _ h9 => h9) dcha_8 ?_
  refine lv_iload_n (pc := 11) hx hb dcha_11 rfl (lv_at hl 1 rfl) ?_
  refine sx_S (pc := 12) (As := [.ref (G.2.2.2.1 i), .int j]) (rest := []) B hH hl.1 (C_lat G l i j hi hj S) mi_lat (w_d (by decide +kernel)) (w_d (by decide +kernel)) rfl rfl ⟨Nat.le_of_ble_eq_true rfl, Nat.le_of_ble_eq_true rfl⟩ (Nat.le_of_ble_eq_true rfl) ⟨Nat.le_refl _, Nat.le_refl _⟩ dcha_12 (fun v S1 H locs hq hH => ?_)
  obtain ⟨rfl, e9⟩ := hq
  rw [e9] at hH
  refine W.eq (g2 := F0 m 15 ls [.int (sCh i j)]) rfl ?_
  refine sx_nret (pc := 15) B hH hr hlk ?_ ⟨rfl, rfl⟩ (Nat.le_refl _) (Nat.le_refl _) dcha_15
  have hlt : j.toNatClampNeg < sLen.getD i 0 := Nat.not_le.mp fun q => hj (Or.inr q)
  have e := sCh_ok i hi _ hlt
  show narrow .char (.int ((sByt.getD i []).getD j.toNatClampNeg 0)) = .int ((sByt.getD i []).getD j.toNatClampNeg 0)
  rw [← e]
  exact pk_nc _
section HN2
variable {G : GG} {p : Program} {l : Launch} {e : Env} {R : Room} {s : State} {m : MethodId} {args : Array Value} {below : List Frame} {meth : Method} {c : Code} {H : Heap} {locs : List Loc} {cells slots : Nat} {Q : State → Prop}
variable {cc : ByteArray} {nL pc index : Nat} {own : String} {ls : Array Slot} {rest : List Value} {A : Nat → Prop} {S : St}
theorem sx_slen {i : Nat} (B : Bd G p s m args c cc nL own A) (h : Hp G A s.heap S H locs) (hl : ls.size = nL) (hi : i < 13) (hw : Cond.methodLink own index ⟨"java/lang/String", "length", "()I"⟩ ∈ TB) (hR : 2 ≤ R.frames ∧ 40 ≤ R.locals) (hrest : (rest.map fun v => v.category).sum ≤ 8) (hf : cells + 0 ≤ R.cells ∧ slots + 0 ≤ R.slots) (hdg : decode cc pc = .ok (.invokevirtual index, 3))
    (kk : ∀ (H : Heap) (locs : List Loc), Hp G A s.heap S H locs → W p l e R s m args below meth c H locs cells slots Q (F0 m (pc + 3) ls (.int (nI (sLen.getD i 0)) :: rest))) : W p l e R s m args below meth c H locs cells slots Q (F0 m pc ls (.ref (G.2.2.1 i) :: rest)) := by
  refine sx_VS (As := []) (rest := rest) B h hl (C_len G l i hi S) mi_len hi (w_d (by decide +kernel)) (w_d (by decide +kernel)) hw rfl rfl ⟨hR.1, hR.2⟩ hrest hf hdg (fun v S1 H locs hq hH => ?_)
  obtain ⟨rfl, e9⟩ := hq
  rw [e9] at hH
  exact kk H locs hH
theorem sx_schr {i : Nat} {j : Int32} (B : Bd G p s m args c cc nL own A) (h : Hp G A s.heap S H locs) (hl : ls.size = nL) (hi : i < 13) (hj : vp_in j (sLen.getD i 0)) (hw : Cond.methodLink own index ⟨"java/lang/String", "charAt", "(I)C"⟩ ∈ TB) (hR : 4 ≤ R.frames ∧ 85 ≤ R.locals) (hrest : (rest.map fun v => v.category).sum ≤ 8) (hf : cells + 0 ≤ R.cells ∧ slots + 0 ≤ R.slots) (hdg : decode cc pc = .ok (.invokevirtual index, 3))
    (kk : ∀ (H : Heap) (locs : List Loc), Hp G A s.heap S H locs → W p l e R s m args below meth c H locs cells slots Q (F0 m (pc + 3) ls (.int (sCh i j) :: rest))) : W p l e R s m args below meth c H locs cells slots Q (F0 m pc ls (.int j :: .ref (G.2.2.1 i) :: rest)) := by
  refine sx_VS (As := [.int j]) (rest := rest) B h hl (C_cha G l i j hi hj S) mi_cha hi (w_d (by decide +kernel)) (w_d (by decide +kernel)) hw rfl rfl ⟨hR.1, hR.2⟩ hrest hf hdg (fun v S1 H locs hq hH => ?_)
  obtain ⟨rfl, e9⟩ := hq
  rw [e9] at hH
  exact kk H locs hH
end HN2
