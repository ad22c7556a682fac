/-! The law's loop: every call, from the relation to the relation. -/
set_option maxRecDepth 100000 in
def P_loop (L : Nat) (xs : Nat → Int32) (q_1 q_6 : Nat) (S_10 : St) (b0 d0 : Nat) : Prop :=
  (∃ I_11 : Nat → Int32 → St → Nat → Nat → Prop, 
  (∃ k : Nat, I_11 k 0 S_10 b0 d0) ∧ ∀ 
  (n_11 : Nat) 
  (x3_12 : Int32) 
  (S_13 : St) 
  (b_14 : Nat) 
  (d_14 : Nat), I_11 n_11 x3_12 S_13 b_14 d_14 → 
  ((((nI L) - 6) < x3_12 → True) ∧ 
  (¬ 
  ((nI L) - 6) < x3_12 → 
  (vp_in x3_12 L ∧ 
  (∀ v_17 : Int32, v_17 = 
  (xs x3_12.toNatClampNeg) &&& 63 → 
  ((v_17 = 0 → 
  (kd S_13 q_1 = 11 ∧ 
  (P_X11_status q_1 S_13 
  (fun 
  (r_20 : Int32) => 
  (kd S_13 q_6 = 12 ∧ 
  (P_X12_status q_6 S_13 
  (fun 
  (r_22 : Int32) => 
  ((r_20 = r_22 → 
  (∀ v_24 : Int32, v_24 = x3_12 + 6 → 
  (∃ k : Nat, k < n_11 ∧ I_11 k v_24 S_13 b_14 d_14))) ∧ 
  (¬ r_20 = r_22 → False))))))))) ∧ 
  (¬ v_17 = 0 → 
  ((v_17 = 1 → 
  (kd S_13 q_1 = 11 ∧ 
  (P_X11_top q_1 S_13 
  (fun 
  (r_26 : Int64) => 
  (kd S_13 q_6 = 12 ∧ 
  (P_X12_top q_6 S_13 
  (fun 
  (r_28 : Int64) => 
  (((lg_cmp r_26 r_28) = 0 → 
  (∀ v_30 : Int32, v_30 = x3_12 + 6 → 
  (∃ k : Nat, k < n_11 ∧ I_11 k v_30 S_13 b_14 d_14))) ∧ 
  (¬ 
  (lg_cmp r_26 r_28) = 0 → False))))))))) ∧ 
  (¬ v_17 = 1 → 
  ((v_17 = 2 → 
  (kd S_13 q_1 = 11 ∧ 
  (P_X11_bottom q_1 S_13 
  (fun 
  (r_32 : Int64) => 
  (kd S_13 q_6 = 12 ∧ 
  (P_X12_bottom q_6 S_13 
  (fun 
  (r_34 : Int64) => 
  (((lg_cmp r_32 r_34) = 0 → 
  (∀ v_36 : Int32, v_36 = x3_12 + 6 → 
  (∃ k : Nat, k < n_11 ∧ I_11 k v_36 S_13 b_14 d_14))) ∧ 
  (¬ 
  (lg_cmp r_32 r_34) = 0 → False))))))))) ∧ 
  (¬ v_17 = 2 → 
  ((v_17 = 3 → 
  (vp_in 
  (x3_12 + 1) L ∧ 
  (vp_in 
  (x3_12 + 2) L ∧ 
  (vp_in 
  (x3_12 + 3) L ∧ 
  (kd S_13 q_1 = 11 ∧ 
  (∃ c_41 s_41 : Nat, c_41 ≤ b_14 ∧ s_41 ≤ d_14 ∧ 
  (P_X11_tray q_1 
  (xs 
  (x3_12 + 1).toNatClampNeg) 
  (xs 
  (x3_12 + 2).toNatClampNeg) 
  (xs 
  (x3_12 + 3).toNatClampNeg) S_13 c_41 s_41 
  (fun 
  (r_42 : Int32) 
  (S_42 : St) => 
  (vp_in 
  (x3_12 + 1) L ∧ 
  (vp_in 
  (x3_12 + 2) L ∧ 
  (vp_in 
  (x3_12 + 3) L ∧ 
  (kd S_42 q_6 = 12 ∧ 
  (P_X12_tray q_6 
  (xs 
  (x3_12 + 1).toNatClampNeg) 
  (xs 
  (x3_12 + 2).toNatClampNeg) 
  (xs 
  (x3_12 + 3).toNatClampNeg) S_42 
  (fun 
  (r_47 : Int32) 
  (F_47 : Nat → Nat → Int32) 
  (J_47 : Nat → Nat → Int64) => 
  ((r_42 = r_47 → 
  (∀ v_49 : Int32, v_49 = x3_12 + 6 → 
  (∃ k : Nat, k < n_11 ∧ I_11 k v_49 
  (wA S_42 F_47 J_47 
  (gR S_42)) 
  (b_14 - c_41) 
  (d_14 - s_41)))) ∧ 
  (¬ r_42 = r_47 → False)))))))))))))))) ∧ 
  (¬ v_17 = 3 → 
  ((v_17 = 4 → 
  (vp_in 
  (x3_12 + 1) L ∧ 
  (vp_in 
  (x3_12 + 2) L ∧ 
  (vp_in 
  (x3_12 + 3) L ∧ 
  (vp_in 
  (x3_12 + 4) L ∧ 
  (kd S_13 q_1 = 11 ∧ 
  (P_X11_write q_1 
  (xs 
  (x3_12 + 1).toNatClampNeg) 
  (xs 
  (x3_12 + 2).toNatClampNeg) 
  ((lshl 
  ((xs 
  (x3_12 + 3).toNatClampNeg).toInt64) 32) ||| 
  (((xs 
  (x3_12 + 4).toNatClampNeg).toInt64) &&& 4294967295)) S_13 
  (fun 
  (r_55 : Int32) 
  (F_55 : Nat → Nat → Int32) 
  (J_55 : Nat → Nat → Int64) => 
  (vp_in 
  (x3_12 + 1) L ∧ 
  (vp_in 
  (x3_12 + 2) L ∧ 
  (vp_in 
  (x3_12 + 3) L ∧ 
  (vp_in 
  (x3_12 + 4) L ∧ 
  (kd S_13 q_6 = 12 ∧ 
  (P_X12_write q_6 
  (xs 
  (x3_12 + 1).toNatClampNeg) 
  (xs 
  (x3_12 + 2).toNatClampNeg) 
  ((lshl 
  ((xs 
  (x3_12 + 3).toNatClampNeg).toInt64) 32) ||| 
  (((xs 
  (x3_12 + 4).toNatClampNeg).toInt64) &&& 4294967295)) 
  (wA S_13 F_55 J_55 
  (gR S_13)) 
  (fun 
  (r_61 : Int32) 
  (F_61 : Nat → Nat → Int32) 
  (J_61 : Nat → Nat → Int64) => 
  ((r_55 = r_61 → 
  (∀ v_63 : Int32, v_63 = x3_12 + 6 → 
  (∃ k : Nat, k < n_11 ∧ I_11 k v_63 
  (wA S_13 F_61 J_61 
  (gR S_13)) b_14 d_14))) ∧ 
  (¬ r_55 = r_61 → False))))))))))))))))) ∧ 
  (¬ v_17 = 4 → 
  ((v_17 = 5 → 
  (vp_in 
  (x3_12 + 1) L ∧ 
  (vp_in 
  (x3_12 + 2) L ∧ 
  (kd S_13 q_1 = 11 ∧ 
  (P_X11_read q_1 
  (xs 
  (x3_12 + 1).toNatClampNeg) 
  (xs 
  (x3_12 + 2).toNatClampNeg) S_13 
  (fun 
  (r_67 : Int64) 
  (F_67 : Nat → Nat → Int32) => 
  (vp_in 
  (x3_12 + 1) L ∧ 
  (vp_in 
  (x3_12 + 2) L ∧ 
  (kd S_13 q_6 = 12 ∧ 
  (P_X12_read q_6 
  (xs 
  (x3_12 + 1).toNatClampNeg) 
  (xs 
  (x3_12 + 2).toNatClampNeg) 
  (wI S_13 F_67) 
  (fun 
  (r_71 : Int64) 
  (F_71 : Nat → Nat → Int32) => 
  (((lg_cmp r_67 r_71) = 0 → 
  (∀ v_73 : Int32, v_73 = x3_12 + 6 → 
  (∃ k : Nat, k < n_11 ∧ I_11 k v_73 
  (wI S_13 F_71) b_14 d_14))) ∧ 
  (¬ 
  (lg_cmp r_67 r_71) = 0 → False))))))))))))) ∧ 
  (¬ v_17 = 5 → 
  ((v_17 = 6 → 
  (vp_in 
  (x3_12 + 1) L ∧ 
  (vp_in 
  (x3_12 + 2) L ∧ 
  (vp_in 
  (x3_12 + 3) L ∧ 
  (vp_in 
  (x3_12 + 4) L ∧ 
  (vp_in 
  (x3_12 + 5) L ∧ 
  (kd S_13 q_1 = 11 ∧ 
  (P_X11_pour q_1 
  (xs 
  (x3_12 + 1).toNatClampNeg) 
  (xs 
  (x3_12 + 2).toNatClampNeg) 
  (xs 
  (x3_12 + 3).toNatClampNeg) 
  (xs 
  (x3_12 + 4).toNatClampNeg) 
  (xs 
  (x3_12 + 5).toNatClampNeg) S_13 
  (fun 
  (r_80 : Int32) 
  (F_80 : Nat → Nat → Int32) 
  (J_80 : Nat → Nat → Int64) => 
  (vp_in 
  (x3_12 + 1) L ∧ 
  (vp_in 
  (x3_12 + 2) L ∧ 
  (vp_in 
  (x3_12 + 3) L ∧ 
  (vp_in 
  (x3_12 + 4) L ∧ 
  (vp_in 
  (x3_12 + 5) L ∧ 
  (kd S_13 q_6 = 12 ∧ 
  (P_X12_pour q_6 
  (xs 
  (x3_12 + 1).toNatClampNeg) 
  (xs 
  (x3_12 + 2).toNatClampNeg) 
  (xs 
  (x3_12 + 3).toNatClampNeg) 
  (xs 
  (x3_12 + 4).toNatClampNeg) 
  (xs 
  (x3_12 + 5).toNatClampNeg) 
  (wA S_13 F_80 J_80 
  (gR S_13)) 
  (fun 
  (r_87 : Int32) 
  (F_87 : Nat → Nat → Int32) 
  (J_87 : Nat → Nat → Int64) => 
  ((r_80 = r_87 → 
  (∀ v_89 : Int32, v_89 = x3_12 + 6 → 
  (∃ k : Nat, k < n_11 ∧ I_11 k v_89 
  (wA S_13 F_87 J_87 
  (gR S_13)) b_14 d_14))) ∧ 
  (¬ r_80 = r_87 → False))))))))))))))))))) ∧ 
  (¬ v_17 = 6 → 
  ((v_17 = 7 → 
  (vp_in 
  (x3_12 + 1) L ∧ 
  (vp_in 
  (x3_12 + 2) L ∧ 
  (vp_in 
  (x3_12 + 3) L ∧ 
  (vp_in 
  (x3_12 + 4) L ∧ 
  (vp_in 
  (x3_12 + 5) L ∧ 
  (kd S_13 q_1 = 11 ∧ 
  (P_X11_feed q_1 
  (xs 
  (x3_12 + 1).toNatClampNeg) 
  (xs 
  (x3_12 + 2).toNatClampNeg) 
  (xs 
  (x3_12 + 3).toNatClampNeg) 
  (xs 
  (x3_12 + 4).toNatClampNeg) 
  (xs 
  (x3_12 + 5).toNatClampNeg) S_13 
  (fun 
  (r_96 : Int32) 
  (F_96 : Nat → Nat → Int32) => 
  (vp_in 
  (x3_12 + 1) L ∧ 
  (vp_in 
  (x3_12 + 2) L ∧ 
  (vp_in 
  (x3_12 + 3) L ∧ 
  (vp_in 
  (x3_12 + 4) L ∧ 
  (vp_in 
  (x3_12 + 5) L ∧ 
  (kd S_13 q_6 = 12 ∧ 
  (P_X12_feed q_6 
  (xs 
  (x3_12 + 1).toNatClampNeg) 
  (xs 
  (x3_12 + 2).toNatClampNeg) 
  (xs 
  (x3_12 + 3).toNatClampNeg) 
  (xs 
  (x3_12 + 4).toNatClampNeg) 
  (xs 
  (x3_12 + 5).toNatClampNeg) 
  (wI S_13 F_96) 
  (fun 
  (r_103 : Int32) 
  (F_103 : Nat → Nat → Int32) => 
  ((r_96 = r_103 → 
  (∀ v_105 : Int32, v_105 = x3_12 + 6 → 
  (∃ k : Nat, k < n_11 ∧ I_11 k v_105 
  (wI S_13 F_103) b_14 d_14))) ∧ 
  (¬ r_96 = r_103 → False))))))))))))))))))) ∧ 
  (¬ v_17 = 7 → 
  ((v_17 = 8 → 
  (vp_in 
  (x3_12 + 1) L ∧ 
  (kd S_13 q_1 = 11 ∧ 
  (∃ c_108 s_108 : Nat, c_108 ≤ b_14 ∧ s_108 ≤ d_14 ∧ 
  (P_X11_book q_1 
  (xs 
  (x3_12 + 1).toNatClampNeg) S_13 c_108 s_108 
  (fun 
  (r_109 : Int32) 
  (S_109 : St) => 
  (vp_in 
  (x3_12 + 1) L ∧ 
  (kd S_109 q_6 = 12 ∧ 
  (P_X12_book q_6 
  (xs 
  (x3_12 + 1).toNatClampNeg) S_109 
  (fun 
  (r_112 : Int32) 
  (F_112 : Nat → Nat → Int32) 
  (J_112 : Nat → Nat → Int64) => 
  ((r_109 = r_112 → 
  (∀ v_114 : Int32, v_114 = x3_12 + 6 → 
  (∃ k : Nat, k < n_11 ∧ I_11 k v_114 
  (wA S_109 F_112 J_112 
  (gR S_109)) 
  (b_14 - c_108) 
  (d_14 - s_108)))) ∧ 
  (¬ r_109 = r_112 → False)))))))))))) ∧ 
  (¬ v_17 = 8 → 
  ((v_17 = 9 → 
  (vp_in 
  (x3_12 + 1) L ∧ 
  (kd S_13 q_1 = 11 ∧ 
  (∃ c_117 s_117 : Nat, c_117 ≤ b_14 ∧ s_117 ≤ d_14 ∧ 
  (P_X11_touch q_1 
  (xs 
  (x3_12 + 1).toNatClampNeg) S_13 c_117 s_117 
  (fun 
  (r_118 : Int32) 
  (S_118 : St) => 
  (vp_in 
  (x3_12 + 1) L ∧ 
  (kd S_118 q_6 = 12 ∧ 
  (P_X12_touch q_6 
  (xs 
  (x3_12 + 1).toNatClampNeg) S_118 
  (fun 
  (r_121 : Int32) 
  (F_121 : Nat → Nat → Int32) => 
  ((r_118 = r_121 → 
  (∀ v_123 : Int32, v_123 = x3_12 + 6 → 
  (∃ k : Nat, k < n_11 ∧ I_11 k v_123 
  (wI S_118 F_121) 
  (b_14 - c_117) 
  (d_14 - s_117)))) ∧ 
  (¬ r_118 = r_121 → False)))))))))))) ∧ 
  (¬ v_17 = 9 → 
  ((v_17 = 10 → 
  (vp_in 
  (x3_12 + 1) L ∧ 
  (kd S_13 q_1 = 11 ∧ 
  (P_X11_fault q_1 
  (xs 
  (x3_12 + 1).toNatClampNeg) S_13 
  (fun 
  (r_126 : Int32) => 
  (vp_in 
  (x3_12 + 1) L ∧ 
  (kd S_13 q_6 = 12 ∧ 
  (P_X12_fault q_6 
  (xs 
  (x3_12 + 1).toNatClampNeg) S_13 
  (fun 
  (r_129 : Int32) => 
  ((r_126 = r_129 → 
  (∀ v_131 : Int32, v_131 = x3_12 + 6 → 
  (∃ k : Nat, k < n_11 ∧ I_11 k v_131 S_13 b_14 d_14))) ∧ 
  (¬ r_126 = r_129 → False))))))))))) ∧ 
  (¬ v_17 = 10 → 
  ((v_17 = 11 → 
  (vp_in 
  (x3_12 + 1) L ∧ 
  (kd S_13 q_1 = 11 ∧ 
  (P_X11_told q_1 
  (xs 
  (x3_12 + 1).toNatClampNeg) S_13 
  (fun 
  (r_134 : Int32) 
  (F_134 : Nat → Nat → Int32) => 
  (vp_in 
  (x3_12 + 1) L ∧ 
  (kd S_13 q_6 = 12 ∧ 
  (P_X12_told q_6 
  (xs 
  (x3_12 + 1).toNatClampNeg) 
  (wI S_13 F_134) 
  (fun 
  (r_137 : Int32) 
  (F_137 : Nat → Nat → Int32) => 
  ((r_134 = r_137 → 
  (∀ v_139 : Int32, v_139 = x3_12 + 6 → 
  (∃ k : Nat, k < n_11 ∧ I_11 k v_139 
  (wI S_13 F_137) b_14 d_14))) ∧ 
  (¬ r_134 = r_137 → False))))))))))) ∧ 
  (¬ v_17 = 11 → 
  ((v_17 = 12 → 
  (vp_in 
  (x3_12 + 1) L ∧ 
  (vp_in 
  (x3_12 + 2) L ∧ 
  (kd S_13 q_1 = 11 ∧ 
  (P_X11_bell q_1 
  (xs 
  (x3_12 + 1).toNatClampNeg) 
  (xs 
  (x3_12 + 2).toNatClampNeg) S_13 
  (fun 
  (r_143 : Int32) 
  (F_143 : Nat → Nat → Int32) => 
  (vp_in 
  (x3_12 + 1) L ∧ 
  (vp_in 
  (x3_12 + 2) L ∧ 
  (kd S_13 q_6 = 12 ∧ 
  (P_X12_bell q_6 
  (xs 
  (x3_12 + 1).toNatClampNeg) 
  (xs 
  (x3_12 + 2).toNatClampNeg) 
  (wI S_13 F_143) 
  (fun 
  (r_147 : Int32) 
  (F_147 : Nat → Nat → Int32) => 
  ((r_143 = r_147 → 
  (∀ v_149 : Int32, v_149 = x3_12 + 6 → 
  (∃ k : Nat, k < n_11 ∧ I_11 k v_149 
  (wI S_13 F_147) b_14 d_14))) ∧ 
  (¬ r_143 = r_147 → False))))))))))))) ∧ 
  (¬ v_17 = 12 → 
  ((v_17 = 13 → 
  (vp_in 
  (x3_12 + 1) L ∧ 
  (kd S_13 q_1 = 11 ∧ 
  (P_X11_number q_1 
  (xs 
  (x3_12 + 1).toNatClampNeg) S_13 
  (fun 
  (r_152 : Int32) 
  (F_152 : Nat → Nat → Int32) => 
  (vp_in 
  (x3_12 + 1) L ∧ 
  (kd S_13 q_6 = 12 ∧ 
  (P_X12_number q_6 
  (xs 
  (x3_12 + 1).toNatClampNeg) 
  (wI S_13 F_152) 
  (fun 
  (r_155 : Int32) 
  (F_155 : Nat → Nat → Int32) => 
  ((r_152 = r_155 → 
  (∀ v_157 : Int32, v_157 = x3_12 + 6 → 
  (∃ k : Nat, k < n_11 ∧ I_11 k v_157 
  (wI S_13 F_155) b_14 d_14))) ∧ 
  (¬ r_152 = r_155 → False))))))))))) ∧ 
  (¬ v_17 = 13 → 
  ((v_17 = 14 → 
  (vp_in 
  (x3_12 + 1) L ∧ 
  (vp_in 
  (x3_12 + 2) L ∧ 
  (kd S_13 q_1 = 11 ∧ 
  (P_X11_product q_1 
  (xs 
  (x3_12 + 1).toNatClampNeg) 
  (xs 
  (x3_12 + 2).toNatClampNeg) S_13 
  (fun 
  (r_161 : Int32) 
  (F_161 : Nat → Nat → Int32) => 
  (vp_in 
  (x3_12 + 1) L ∧ 
  (vp_in 
  (x3_12 + 2) L ∧ 
  (kd S_13 q_6 = 12 ∧ 
  (P_X12_product q_6 
  (xs 
  (x3_12 + 1).toNatClampNeg) 
  (xs 
  (x3_12 + 2).toNatClampNeg) 
  (wI S_13 F_161) 
  (fun 
  (r_165 : Int32) 
  (F_165 : Nat → Nat → Int32) => 
  ((r_161 = r_165 → 
  (∀ v_167 : Int32, v_167 = x3_12 + 6 → 
  (∃ k : Nat, k < n_11 ∧ I_11 k v_167 
  (wI S_13 F_165) b_14 d_14))) ∧ 
  (¬ r_161 = r_165 → False))))))))))))) ∧ 
  (¬ v_17 = 14 → 
  ((v_17 = 15 → 
  (vp_in 
  (x3_12 + 1) L ∧ 
  (kd S_13 q_1 = 11 ∧ 
  (P_X11_inverse q_1 
  (xs 
  (x3_12 + 1).toNatClampNeg) S_13 
  (fun 
  (r_170 : Int32) 
  (F_170 : Nat → Nat → Int32) => 
  (vp_in 
  (x3_12 + 1) L ∧ 
  (kd S_13 q_6 = 12 ∧ 
  (P_X12_inverse q_6 
  (xs 
  (x3_12 + 1).toNatClampNeg) 
  (wI S_13 F_170) 
  (fun 
  (r_173 : Int32) 
  (F_173 : Nat → Nat → Int32) => 
  ((r_170 = r_173 → 
  (∀ v_175 : Int32, v_175 = x3_12 + 6 → 
  (∃ k : Nat, k < n_11 ∧ I_11 k v_175 
  (wI S_13 F_173) b_14 d_14))) ∧ 
  (¬ r_170 = r_173 → False))))))))))) ∧ 
  (¬ v_17 = 15 → 
  ((v_17 = 16 → 
  (vp_in 
  (x3_12 + 1) L ∧ 
  (kd S_13 q_1 = 11 ∧ 
  (P_X11_order q_1 
  (xs 
  (x3_12 + 1).toNatClampNeg) S_13 
  (fun 
  (r_178 : Int32) 
  (F_178 : Nat → Nat → Int32) => 
  (vp_in 
  (x3_12 + 1) L ∧ 
  (kd S_13 q_6 = 12 ∧ 
  (P_X12_order q_6 
  (xs 
  (x3_12 + 1).toNatClampNeg) 
  (wI S_13 F_178) 
  (fun 
  (r_181 : Int32) 
  (F_181 : Nat → Nat → Int32) => 
  ((r_178 = r_181 → 
  (∀ v_183 : Int32, v_183 = x3_12 + 6 → 
  (∃ k : Nat, k < n_11 ∧ I_11 k v_183 
  (wI S_13 F_181) b_14 d_14))) ∧ 
  (¬ r_178 = r_181 → False))))))))))) ∧ 
  (¬ v_17 = 16 → 
  ((v_17 = 17 → 
  (vp_in 
  (x3_12 + 1) L ∧ 
  (kd S_13 q_1 = 11 ∧ 
  (P_X11_even q_1 
  (xs 
  (x3_12 + 1).toNatClampNeg) S_13 
  (fun 
  (r_186 : Int32) 
  (F_186 : Nat → Nat → Int32) => 
  (vp_in 
  (x3_12 + 1) L ∧ 
  (kd S_13 q_6 = 12 ∧ 
  (P_X12_even q_6 
  (xs 
  (x3_12 + 1).toNatClampNeg) 
  (wI S_13 F_186) 
  (fun 
  (r_189 : Int32) 
  (F_189 : Nat → Nat → Int32) => 
  ((r_186 = r_189 → 
  (∀ v_191 : Int32, v_191 = x3_12 + 6 → 
  (∃ k : Nat, k < n_11 ∧ I_11 k v_191 
  (wI S_13 F_189) b_14 d_14))) ∧ 
  (¬ r_186 = r_189 → False))))))))))) ∧ 
  (¬ v_17 = 17 → 
  ((v_17 = 18 → 
  (vp_in 
  (x3_12 + 1) L ∧ 
  (vp_in 
  (x3_12 + 2) L ∧ 
  (kd S_13 q_1 = 11 ∧ 
  (P_X11_done q_1 
  (xs 
  (x3_12 + 1).toNatClampNeg) 
  (xs 
  (x3_12 + 2).toNatClampNeg) S_13 
  (fun 
  (r_195 : Int32) 
  (F_195 : Nat → Nat → Int32) => 
  (vp_in 
  (x3_12 + 1) L ∧ 
  (vp_in 
  (x3_12 + 2) L ∧ 
  (kd S_13 q_6 = 12 ∧ 
  (P_X12_done q_6 
  (xs 
  (x3_12 + 1).toNatClampNeg) 
  (xs 
  (x3_12 + 2).toNatClampNeg) 
  (wI S_13 F_195) 
  (fun 
  (r_199 : Int32) 
  (F_199 : Nat → Nat → Int32) => 
  ((r_195 = r_199 → 
  (∀ v_201 : Int32, v_201 = x3_12 + 6 → 
  (∃ k : Nat, k < n_11 ∧ I_11 k v_201 
  (wI S_13 F_199) b_14 d_14))) ∧ 
  (¬ r_195 = r_199 → False))))))))))))) ∧ 
  (¬ v_17 = 18 → 
  ((v_17 = 19 → 
  (vp_in 
  (x3_12 + 1) L ∧ 
  (vp_in 
  (x3_12 + 2) L ∧ 
  (kd S_13 q_1 = 11 ∧ 
  (P_X11_power q_1 
  (xs 
  (x3_12 + 1).toNatClampNeg) 
  (xs 
  (x3_12 + 2).toNatClampNeg) S_13 
  (fun 
  (r_205 : Int32) 
  (F_205 : Nat → Nat → Int32) => 
  (vp_in 
  (x3_12 + 1) L ∧ 
  (vp_in 
  (x3_12 + 2) L ∧ 
  (kd S_13 q_6 = 12 ∧ 
  (P_X12_power q_6 
  (xs 
  (x3_12 + 1).toNatClampNeg) 
  (xs 
  (x3_12 + 2).toNatClampNeg) 
  (wI S_13 F_205) 
  (fun 
  (r_209 : Int32) 
  (F_209 : Nat → Nat → Int32) => 
  ((r_205 = r_209 → 
  (∀ v_211 : Int32, v_211 = x3_12 + 6 → 
  (∃ k : Nat, k < n_11 ∧ I_11 k v_211 
  (wI S_13 F_209) b_14 d_14))) ∧ 
  (¬ r_205 = r_209 → False))))))))))))) ∧ 
  (¬ v_17 = 19 → 
  ((v_17 = 20 → 
  (vp_in 
  (x3_12 + 1) L ∧ 
  (vp_in 
  (x3_12 + 2) L ∧ 
  (kd S_13 q_1 = 11 ∧ 
  (P_X11_cycles q_1 
  (xs 
  (x3_12 + 1).toNatClampNeg) 
  (xs 
  (x3_12 + 2).toNatClampNeg) S_13 
  (fun 
  (r_215 : Int32) 
  (F_215 : Nat → Nat → Int32) => 
  (vp_in 
  (x3_12 + 1) L ∧ 
  (vp_in 
  (x3_12 + 2) L ∧ 
  (kd S_13 q_6 = 12 ∧ 
  (P_X12_cycles q_6 
  (xs 
  (x3_12 + 1).toNatClampNeg) 
  (xs 
  (x3_12 + 2).toNatClampNeg) 
  (wI S_13 F_215) 
  (fun 
  (r_219 : Int32) 
  (F_219 : Nat → Nat → Int32) => 
  ((r_215 = r_219 → 
  (∀ v_221 : Int32, v_221 = x3_12 + 6 → 
  (∃ k : Nat, k < n_11 ∧ I_11 k v_221 
  (wI S_13 F_219) b_14 d_14))) ∧ 
  (¬ r_215 = r_219 → False))))))))))))) ∧ 
  (¬ v_17 = 20 → 
  ((v_17 = 21 → 
  (vp_in 
  (x3_12 + 1) L ∧ 
  (vp_in 
  (x3_12 + 2) L ∧ 
  (kd S_13 q_1 = 11 ∧ 
  (P_X11_distance q_1 
  (xs 
  (x3_12 + 1).toNatClampNeg) 
  (xs 
  (x3_12 + 2).toNatClampNeg) S_13 
  (fun 
  (r_225 : Int32) 
  (F_225 : Nat → Nat → Int32) => 
  (vp_in 
  (x3_12 + 1) L ∧ 
  (vp_in 
  (x3_12 + 2) L ∧ 
  (kd S_13 q_6 = 12 ∧ 
  (P_X12_distance q_6 
  (xs 
  (x3_12 + 1).toNatClampNeg) 
  (xs 
  (x3_12 + 2).toNatClampNeg) 
  (wI S_13 F_225) 
  (fun 
  (r_229 : Int32) 
  (F_229 : Nat → Nat → Int32) => 
  ((r_225 = r_229 → 
  (∀ v_231 : Int32, v_231 = x3_12 + 6 → 
  (∃ k : Nat, k < n_11 ∧ I_11 k v_231 
  (wI S_13 F_229) b_14 d_14))) ∧ 
  (¬ r_225 = r_229 → False))))))))))))) ∧ 
  (¬ v_17 = 21 → 
  ((v_17 = 22 → 
  (vp_in 
  (x3_12 + 1) L ∧ 
  (vp_in 
  (x3_12 + 2) L ∧ 
  (kd S_13 q_1 = 11 ∧ 
  (P_X11_between q_1 
  (xs 
  (x3_12 + 1).toNatClampNeg) 
  (xs 
  (x3_12 + 2).toNatClampNeg) S_13 
  (fun 
  (r_235 : Int32) 
  (F_235 : Nat → Nat → Int32) => 
  (vp_in 
  (x3_12 + 1) L ∧ 
  (vp_in 
  (x3_12 + 2) L ∧ 
  (kd S_13 q_6 = 12 ∧ 
  (P_X12_between q_6 
  (xs 
  (x3_12 + 1).toNatClampNeg) 
  (xs 
  (x3_12 + 2).toNatClampNeg) 
  (wI S_13 F_235) 
  (fun 
  (r_239 : Int32) 
  (F_239 : Nat → Nat → Int32) => 
  ((r_235 = r_239 → 
  (∀ v_241 : Int32, v_241 = x3_12 + 6 → 
  (∃ k : Nat, k < n_11 ∧ I_11 k v_241 
  (wI S_13 F_239) b_14 d_14))) ∧ 
  (¬ r_235 = r_239 → False))))))))))))) ∧ 
  (¬ v_17 = 22 → 
  ((v_17 = 23 → 
  (vp_in 
  (x3_12 + 1) L ∧ 
  (kd S_13 q_1 = 11 ∧ 
  (P_X11_changes q_1 
  (xs 
  (x3_12 + 1).toNatClampNeg) S_13 
  (fun 
  (r_244 : Int32) 
  (F_244 : Nat → Nat → Int32) => 
  (vp_in 
  (x3_12 + 1) L ∧ 
  (kd S_13 q_6 = 12 ∧ 
  (P_X12_changes q_6 
  (xs 
  (x3_12 + 1).toNatClampNeg) 
  (wI S_13 F_244) 
  (fun 
  (r_247 : Int32) 
  (F_247 : Nat → Nat → Int32) => 
  ((r_244 = r_247 → 
  (∀ v_249 : Int32, v_249 = x3_12 + 6 → 
  (∃ k : Nat, k < n_11 ∧ I_11 k v_249 
  (wI S_13 F_247) b_14 d_14))) ∧ 
  (¬ r_244 = r_247 → False))))))))))) ∧ 
  (¬ v_17 = 23 → 
  ((v_17 = 24 → 
  (vp_in 
  (x3_12 + 1) L ∧ 
  (vp_in 
  (x3_12 + 2) L ∧ 
  (vp_in 
  (x3_12 + 3) L ∧ 
  (kd S_13 q_1 = 11 ∧ 
  (P_X11_change q_1 
  (xs 
  (x3_12 + 1).toNatClampNeg) 
  (xs 
  (x3_12 + 2).toNatClampNeg) 
  (xs 
  (x3_12 + 3).toNatClampNeg) S_13 
  (fun 
  (r_254 : Int32) 
  (F_254 : Nat → Nat → Int32) => 
  (vp_in 
  (x3_12 + 1) L ∧ 
  (vp_in 
  (x3_12 + 2) L ∧ 
  (vp_in 
  (x3_12 + 3) L ∧ 
  (kd S_13 q_6 = 12 ∧ 
  (P_X12_change q_6 
  (xs 
  (x3_12 + 1).toNatClampNeg) 
  (xs 
  (x3_12 + 2).toNatClampNeg) 
  (xs 
  (x3_12 + 3).toNatClampNeg) 
  (wI S_13 F_254) 
  (fun 
  (r_259 : Int32) 
  (F_259 : Nat → Nat → Int32) => 
  ((r_254 = r_259 → 
  (∀ v_261 : Int32, v_261 = x3_12 + 6 → 
  (∃ k : Nat, k < n_11 ∧ I_11 k v_261 
  (wI S_13 F_259) b_14 d_14))) ∧ 
  (¬ r_254 = r_259 → False))))))))))))))) ∧ 
  (¬ v_17 = 24 → 
  ((v_17 = 25 → 
  (vp_in 
  (x3_12 + 1) L ∧ 
  (vp_in 
  (x3_12 + 2) L ∧ 
  (kd S_13 q_1 = 11 ∧ 
  (P_X11_head q_1 
  (xs 
  (x3_12 + 1).toNatClampNeg) 
  (xs 
  (x3_12 + 2).toNatClampNeg) S_13 
  (fun 
  (r_265 : Int32) 
  (F_265 : Nat → Nat → Int32) => 
  (vp_in 
  (x3_12 + 1) L ∧ 
  (vp_in 
  (x3_12 + 2) L ∧ 
  (kd S_13 q_6 = 12 ∧ 
  (P_X12_head q_6 
  (xs 
  (x3_12 + 1).toNatClampNeg) 
  (xs 
  (x3_12 + 2).toNatClampNeg) 
  (wI S_13 F_265) 
  (fun 
  (r_269 : Int32) 
  (F_269 : Nat → Nat → Int32) => 
  ((r_265 = r_269 → 
  (∀ v_271 : Int32, v_271 = x3_12 + 6 → 
  (∃ k : Nat, k < n_11 ∧ I_11 k v_271 
  (wI S_13 F_269) b_14 d_14))) ∧ 
  (¬ r_265 = r_269 → False))))))))))))) ∧ 
  (¬ v_17 = 25 → 
  ((v_17 = 26 → 
  (vp_in 
  (x3_12 + 1) L ∧ 
  (vp_in 
  (x3_12 + 2) L ∧ 
  (kd S_13 q_1 = 11 ∧ 
  (P_X11_course q_1 
  (xs 
  (x3_12 + 1).toNatClampNeg) 
  (xs 
  (x3_12 + 2).toNatClampNeg) S_13 
  (fun 
  (r_275 : Int32) 
  (F_275 : Nat → Nat → Int32) => 
  (vp_in 
  (x3_12 + 1) L ∧ 
  (vp_in 
  (x3_12 + 2) L ∧ 
  (kd S_13 q_6 = 12 ∧ 
  (P_X12_course q_6 
  (xs 
  (x3_12 + 1).toNatClampNeg) 
  (xs 
  (x3_12 + 2).toNatClampNeg) 
  (wI S_13 F_275) 
  (fun 
  (r_279 : Int32) 
  (F_279 : Nat → Nat → Int32) => 
  ((r_275 = r_279 → 
  (∀ v_281 : Int32, v_281 = x3_12 + 6 → 
  (∃ k : Nat, k < n_11 ∧ I_11 k v_281 
  (wI S_13 F_279) b_14 d_14))) ∧ 
  (¬ r_275 = r_279 → False))))))))))))) ∧ 
  (¬ v_17 = 26 → 
  ((v_17 = 27 → 
  (vp_in 
  (x3_12 + 1) L ∧ 
  (vp_in 
  (x3_12 + 2) L ∧ 
  (kd S_13 q_1 = 11 ∧ 
  (P_X11_fixed q_1 
  (xs 
  (x3_12 + 1).toNatClampNeg) 
  (xs 
  (x3_12 + 2).toNatClampNeg) S_13 
  (fun 
  (r_285 : Int32) 
  (F_285 : Nat → Nat → Int32) => 
  (vp_in 
  (x3_12 + 1) L ∧ 
  (vp_in 
  (x3_12 + 2) L ∧ 
  (kd S_13 q_6 = 12 ∧ 
  (P_X12_fixed q_6 
  (xs 
  (x3_12 + 1).toNatClampNeg) 
  (xs 
  (x3_12 + 2).toNatClampNeg) 
  (wI S_13 F_285) 
  (fun 
  (r_289 : Int32) 
  (F_289 : Nat → Nat → Int32) => 
  ((r_285 = r_289 → 
  (∀ v_291 : Int32, v_291 = x3_12 + 6 → 
  (∃ k : Nat, k < n_11 ∧ I_11 k v_291 
  (wI S_13 F_289) b_14 d_14))) ∧ 
  (¬ r_285 = r_289 → False))))))))))))) ∧ 
  (¬ v_17 = 27 → 
  ((v_17 = 28 → 
  (vp_in 
  (x3_12 + 1) L ∧ 
  (kd S_13 q_1 = 11 ∧ 
  (P_X11_symmetric q_1 
  (xs 
  (x3_12 + 1).toNatClampNeg) S_13 
  (fun 
  (r_294 : Int32) 
  (F_294 : Nat → Nat → Int32) => 
  (vp_in 
  (x3_12 + 1) L ∧ 
  (kd S_13 q_6 = 12 ∧ 
  (P_X12_symmetric q_6 
  (xs 
  (x3_12 + 1).toNatClampNeg) 
  (wI S_13 F_294) 
  (fun 
  (r_297 : Int32) 
  (F_297 : Nat → Nat → Int32) => 
  ((r_294 = r_297 → 
  (∀ v_299 : Int32, v_299 = x3_12 + 6 → 
  (∃ k : Nat, k < n_11 ∧ I_11 k v_299 
  (wI S_13 F_297) b_14 d_14))) ∧ 
  (¬ r_294 = r_297 → False))))))))))) ∧ 
  (¬ v_17 = 28 → 
  ((v_17 = 29 → 
  (vp_in 
  (x3_12 + 1) L ∧ 
  (kd S_13 q_1 = 11 ∧ 
  (P_X11_leadTrue q_1 
  (xs 
  (x3_12 + 1).toNatClampNeg) S_13 
  (fun 
  (r_302 : Int32) 
  (F_302 : Nat → Nat → Int32) => 
  (vp_in 
  (x3_12 + 1) L ∧ 
  (kd S_13 q_6 = 12 ∧ 
  (P_X12_leadTrue q_6 
  (xs 
  (x3_12 + 1).toNatClampNeg) 
  (wI S_13 F_302) 
  (fun 
  (r_305 : Int32) 
  (F_305 : Nat → Nat → Int32) => 
  ((r_302 = r_305 → 
  (∀ v_307 : Int32, v_307 = x3_12 + 6 → 
  (∃ k : Nat, k < n_11 ∧ I_11 k v_307 
  (wI S_13 F_305) b_14 d_14))) ∧ 
  (¬ r_302 = r_305 → False))))))))))) ∧ 
  (¬ v_17 = 29 → 
  ((v_17 = 30 → 
  (vp_in 
  (x3_12 + 1) L ∧ 
  (vp_in 
  (x3_12 + 2) L ∧ 
  (kd S_13 q_1 = 11 ∧ 
  (P_X11_falseAgainst q_1 
  (xs 
  (x3_12 + 1).toNatClampNeg) 
  (xs 
  (x3_12 + 2).toNatClampNeg) S_13 
  (fun 
  (r_311 : Int32) 
  (F_311 : Nat → Nat → Int32) => 
  (vp_in 
  (x3_12 + 1) L ∧ 
  (vp_in 
  (x3_12 + 2) L ∧ 
  (kd S_13 q_6 = 12 ∧ 
  (P_X12_falseAgainst q_6 
  (xs 
  (x3_12 + 1).toNatClampNeg) 
  (xs 
  (x3_12 + 2).toNatClampNeg) 
  (wI S_13 F_311) 
  (fun 
  (r_315 : Int32) 
  (F_315 : Nat → Nat → Int32) => 
  ((r_311 = r_315 → 
  (∀ v_317 : Int32, v_317 = x3_12 + 6 → 
  (∃ k : Nat, k < n_11 ∧ I_11 k v_317 
  (wI S_13 F_315) b_14 d_14))) ∧ 
  (¬ r_311 = r_315 → False))))))))))))) ∧ 
  (¬ v_17 = 30 → 
  ((v_17 = 31 → 
  (vp_in 
  (x3_12 + 1) L ∧ 
  (kd S_13 q_1 = 11 ∧ 
  (∃ c_320 s_320 : Nat, c_320 ≤ b_14 ∧ s_320 ≤ d_14 ∧ 
  (P_X11_falses q_1 
  (xs 
  (x3_12 + 1).toNatClampNeg) S_13 c_320 s_320 
  (fun 
  (r_321 : Int32) 
  (S_321 : St) => 
  (vp_in 
  (x3_12 + 1) L ∧ 
  (kd S_321 q_6 = 12 ∧ 
  (P_X12_falses q_6 
  (xs 
  (x3_12 + 1).toNatClampNeg) S_321 
  (fun 
  (r_324 : Int32) 
  (F_324 : Nat → Nat → Int32) => 
  ((r_321 = r_324 → 
  (∀ v_326 : Int32, v_326 = x3_12 + 6 → 
  (∃ k : Nat, k < n_11 ∧ I_11 k v_326 
  (wI S_321 F_324) 
  (b_14 - c_320) 
  (d_14 - s_320)))) ∧ 
  (¬ r_321 = r_324 → False)))))))))))) ∧ 
  (¬ v_17 = 31 → 
  ((v_17 = 32 → 
  (vp_in 
  (x3_12 + 1) L ∧ 
  (vp_in 
  (x3_12 + 2) L ∧ 
  (kd S_13 q_1 = 11 ∧ 
  (P_X11_leadsTo q_1 
  (xs 
  (x3_12 + 1).toNatClampNeg) 
  (xs 
  (x3_12 + 2).toNatClampNeg) S_13 
  (fun 
  (r_330 : Int32) 
  (F_330 : Nat → Nat → Int32) => 
  (vp_in 
  (x3_12 + 1) L ∧ 
  (vp_in 
  (x3_12 + 2) L ∧ 
  (kd S_13 q_6 = 12 ∧ 
  (P_X12_leadsTo q_6 
  (xs 
  (x3_12 + 1).toNatClampNeg) 
  (xs 
  (x3_12 + 2).toNatClampNeg) 
  (wI S_13 F_330) 
  (fun 
  (r_334 : Int32) 
  (F_334 : Nat → Nat → Int32) => 
  ((r_330 = r_334 → 
  (∀ v_336 : Int32, v_336 = x3_12 + 6 → 
  (∃ k : Nat, k < n_11 ∧ I_11 k v_336 
  (wI S_13 F_334) b_14 d_14))) ∧ 
  (¬ r_330 = r_334 → False))))))))))))) ∧ 
  (¬ v_17 = 32 → 
  ((v_17 = 33 → 
  (vp_in 
  (x3_12 + 1) L ∧ 
  (vp_in 
  (x3_12 + 2) L ∧ 
  (kd S_13 q_1 = 11 ∧ 
  (P_X11_inLead q_1 
  (xs 
  (x3_12 + 1).toNatClampNeg) 
  (xs 
  (x3_12 + 2).toNatClampNeg) S_13 
  (fun 
  (r_340 : Int32) 
  (F_340 : Nat → Nat → Int32) => 
  (vp_in 
  (x3_12 + 1) L ∧ 
  (vp_in 
  (x3_12 + 2) L ∧ 
  (kd S_13 q_6 = 12 ∧ 
  (P_X12_inLead q_6 
  (xs 
  (x3_12 + 1).toNatClampNeg) 
  (xs 
  (x3_12 + 2).toNatClampNeg) 
  (wI S_13 F_340) 
  (fun 
  (r_344 : Int32) 
  (F_344 : Nat → Nat → Int32) => 
  ((r_340 = r_344 → 
  (∀ v_346 : Int32, v_346 = x3_12 + 6 → 
  (∃ k : Nat, k < n_11 ∧ I_11 k v_346 
  (wI S_13 F_344) b_14 d_14))) ∧ 
  (¬ r_340 = r_344 → False))))))))))))) ∧ 
  (¬ v_17 = 33 → 
  ((v_17 = 34 → 
  (kd S_13 q_1 = 11 ∧ 
  (P_X11_ring q_1 S_13 
  (fun 
  (r_348 : Int32) 
  (F_348 : Nat → Nat → Int32) 
  (R_348 : Nat → Nat → Option Nat) => 
  (kd S_13 q_6 = 12 ∧ 
  (P_X12_ring q_6 
  (wA S_13 F_348 
  (gJ S_13) R_348) 
  (fun 
  (r_350 : Int32) 
  (F_350 : Nat → Nat → Int32) => 
  ((r_348 = r_350 → 
  (∀ v_352 : Int32, v_352 = x3_12 + 6 → 
  (∃ k : Nat, k < n_11 ∧ I_11 k v_352 
  (wA S_13 F_350 
  (gJ S_13) R_348) b_14 d_14))) ∧ 
  (¬ r_348 = r_350 → False))))))))) ∧ 
  (¬ v_17 = 34 → 
  ((v_17 = 35 → 
  (vp_in 
  (x3_12 + 1) L ∧ 
  (kd S_13 q_1 = 11 ∧ 
  (P_X11_rowAt q_1 
  (xs 
  (x3_12 + 1).toNatClampNeg) S_13 
  (fun 
  (r_355 : Int32) 
  (F_355 : Nat → Nat → Int32) => 
  (vp_in 
  (x3_12 + 1) L ∧ 
  (kd S_13 q_6 = 12 ∧ 
  (P_X12_rowAt q_6 
  (xs 
  (x3_12 + 1).toNatClampNeg) 
  (wI S_13 F_355) 
  (fun 
  (r_358 : Int32) 
  (F_358 : Nat → Nat → Int32) => 
  ((r_355 = r_358 → 
  (∀ v_360 : Int32, v_360 = x3_12 + 6 → 
  (∃ k : Nat, k < n_11 ∧ I_11 k v_360 
  (wI S_13 F_358) b_14 d_14))) ∧ 
  (¬ r_355 = r_358 → False))))))))))) ∧ 
  (¬ v_17 = 35 → 
  ((v_17 = 36 → 
  (kd S_13 q_1 = 11 ∧ 
  (P_X11_round q_1 S_13 
  (fun 
  (r_362 : Int32) 
  (F_362 : Nat → Nat → Int32) => 
  (kd S_13 q_6 = 12 ∧ 
  (P_X12_round q_6 
  (wI S_13 F_362) 
  (fun 
  (r_364 : Int32) 
  (F_364 : Nat → Nat → Int32) => 
  ((r_362 = r_364 → 
  (∀ v_366 : Int32, v_366 = x3_12 + 6 → 
  (∃ k : Nat, k < n_11 ∧ I_11 k v_366 
  (wI S_13 F_364) b_14 d_14))) ∧ 
  (¬ r_362 = r_364 → False))))))))) ∧ 
  (¬ v_17 = 36 → 
  ((v_17 = 37 → 
  (kd S_13 q_1 = 11 ∧ 
  (∃ c_368 s_368 : Nat, c_368 ≤ b_14 ∧ s_368 ≤ d_14 ∧ 
  (P_X11_isTrue q_1 S_13 c_368 s_368 
  (fun 
  (r_369 : Int32) 
  (S_369 : St) => 
  (kd S_369 q_6 = 12 ∧ 
  (P_X12_isTrue q_6 S_369 
  (fun 
  (r_371 : Int32) 
  (F_371 : Nat → Nat → Int32) => 
  ((r_369 = r_371 → 
  (∀ v_373 : Int32, v_373 = x3_12 + 6 → 
  (∃ k : Nat, k < n_11 ∧ I_11 k v_373 
  (wI S_369 F_371) 
  (b_14 - c_368) 
  (d_14 - s_368)))) ∧ 
  (¬ r_369 = r_371 → False)))))))))) ∧ 
  (¬ v_17 = 37 → 
  ((v_17 = 38 → 
  (vp_in 
  (x3_12 + 1) L ∧ 
  (kd S_13 q_1 = 11 ∧ 
  (∃ c_376 s_376 : Nat, c_376 ≤ b_14 ∧ s_376 ≤ d_14 ∧ 
  (P_X11_falseAt q_1 
  (xs 
  (x3_12 + 1).toNatClampNeg) S_13 c_376 s_376 
  (fun 
  (r_377 : Int32) 
  (S_377 : St) => 
  (vp_in 
  (x3_12 + 1) L ∧ 
  (kd S_377 q_6 = 12 ∧ 
  (P_X12_falseAt q_6 
  (xs 
  (x3_12 + 1).toNatClampNeg) S_377 
  (fun 
  (r_380 : Int32) 
  (F_380 : Nat → Nat → Int32) => 
  ((r_377 = r_380 → 
  (∀ v_382 : Int32, v_382 = x3_12 + 6 → 
  (∃ k : Nat, k < n_11 ∧ I_11 k v_382 
  (wI S_377 F_380) 
  (b_14 - c_376) 
  (d_14 - s_376)))) ∧ 
  (¬ r_377 = r_380 → False)))))))))))) ∧ 
  (¬ v_17 = 38 → 
  ((v_17 = 39 → 
  (kd S_13 q_1 = 11 ∧ 
  (∃ c_384 s_384 : Nat, c_384 ≤ b_14 ∧ s_384 ≤ d_14 ∧ 
  (P_X11_repeats q_1 S_13 c_384 s_384 
  (fun 
  (r_385 : Int32) 
  (S_385 : St) => 
  (kd S_385 q_6 = 12 ∧ 
  (P_X12_repeats q_6 S_385 
  (fun 
  (r_387 : Int32) 
  (F_387 : Nat → Nat → Int32) => 
  ((r_385 = r_387 → 
  (∀ v_389 : Int32, v_389 = x3_12 + 6 → 
  (∃ k : Nat, k < n_11 ∧ I_11 k v_389 
  (wI S_385 F_387) 
  (b_14 - c_384) 
  (d_14 - s_384)))) ∧ 
  (¬ r_385 = r_387 → False)))))))))) ∧ 
  (¬ v_17 = 39 → 
  ((v_17 = 40 → 
  (vp_in 
  (x3_12 + 1) L ∧ 
  (vp_in 
  (x3_12 + 2) L ∧ 
  (kd S_13 q_1 = 11 ∧ 
  (P_X11_place q_1 
  (xs 
  (x3_12 + 1).toNatClampNeg) 
  (xs 
  (x3_12 + 2).toNatClampNeg) S_13 
  (fun 
  (r_393 : Int32) 
  (F_393 : Nat → Nat → Int32) => 
  (vp_in 
  (x3_12 + 1) L ∧ 
  (vp_in 
  (x3_12 + 2) L ∧ 
  (kd S_13 q_6 = 12 ∧ 
  (P_X12_place q_6 
  (xs 
  (x3_12 + 1).toNatClampNeg) 
  (xs 
  (x3_12 + 2).toNatClampNeg) 
  (wI S_13 F_393) 
  (fun 
  (r_397 : Int32) 
  (F_397 : Nat → Nat → Int32) => 
  ((r_393 = r_397 → 
  (∀ v_399 : Int32, v_399 = x3_12 + 6 → 
  (∃ k : Nat, k < n_11 ∧ I_11 k v_399 
  (wI S_13 F_397) b_14 d_14))) ∧ 
  (¬ r_393 = r_397 → False))))))))))))) ∧ 
  (¬ v_17 = 40 → 
  ((v_17 = 41 → 
  (vp_in 
  (x3_12 + 1) L ∧ 
  (vp_in 
  (x3_12 + 2) L ∧ 
  (kd S_13 q_1 = 11 ∧ 
  (P_X11_blows q_1 
  (xs 
  (x3_12 + 1).toNatClampNeg) 
  (xs 
  (x3_12 + 2).toNatClampNeg) S_13 
  (fun 
  (r_403 : Int32) 
  (F_403 : Nat → Nat → Int32) => 
  (vp_in 
  (x3_12 + 1) L ∧ 
  (vp_in 
  (x3_12 + 2) L ∧ 
  (kd S_13 q_6 = 12 ∧ 
  (P_X12_blows q_6 
  (xs 
  (x3_12 + 1).toNatClampNeg) 
  (xs 
  (x3_12 + 2).toNatClampNeg) 
  (wI S_13 F_403) 
  (fun 
  (r_407 : Int32) 
  (F_407 : Nat → Nat → Int32) => 
  ((r_403 = r_407 → 
  (∀ v_409 : Int32, v_409 = x3_12 + 6 → 
  (∃ k : Nat, k < n_11 ∧ I_11 k v_409 
  (wI S_13 F_407) b_14 d_14))) ∧ 
  (¬ r_403 = r_407 → False))))))))))))) ∧ 
  (¬ v_17 = 41 → 
  ((v_17 = 42 → 
  (vp_in 
  (x3_12 + 1) L ∧ 
  (kd S_13 q_1 = 11 ∧ 
  (P_X11_music q_1 
  (xs 
  (x3_12 + 1).toNatClampNeg) S_13 
  (fun 
  (r_412 : Int32) 
  (F_412 : Nat → Nat → Int32) => 
  (vp_in 
  (x3_12 + 1) L ∧ 
  (kd S_13 q_6 = 12 ∧ 
  (P_X12_music q_6 
  (xs 
  (x3_12 + 1).toNatClampNeg) 
  (wI S_13 F_412) 
  (fun 
  (r_415 : Int32) 
  (F_415 : Nat → Nat → Int32) => 
  ((r_412 = r_415 → 
  (∀ v_417 : Int32, v_417 = x3_12 + 6 → 
  (∃ k : Nat, k < n_11 ∧ I_11 k v_417 
  (wI S_13 F_415) b_14 d_14))) ∧ 
  (¬ r_412 = r_415 → False))))))))))) ∧ 
  (¬ v_17 = 42 → 
  ((v_17 = 43 → 
  (vp_in 
  (x3_12 + 1) L ∧ 
  (kd S_13 q_1 = 11 ∧ 
  (P_X11_runs q_1 
  (xs 
  (x3_12 + 1).toNatClampNeg) S_13 
  (fun 
  (r_420 : Int32) 
  (F_420 : Nat → Nat → Int32) => 
  (vp_in 
  (x3_12 + 1) L ∧ 
  (kd S_13 q_6 = 12 ∧ 
  (P_X12_runs q_6 
  (xs 
  (x3_12 + 1).toNatClampNeg) 
  (wI S_13 F_420) 
  (fun 
  (r_423 : Int32) 
  (F_423 : Nat → Nat → Int32) => 
  ((r_420 = r_423 → 
  (∀ v_425 : Int32, v_425 = x3_12 + 6 → 
  (∃ k : Nat, k < n_11 ∧ I_11 k v_425 
  (wI S_13 F_423) b_14 d_14))) ∧ 
  (¬ r_420 = r_423 → False))))))))))) ∧ 
  (¬ v_17 = 43 → 
  ((v_17 = 44 → 
  (vp_in 
  (x3_12 + 1) L ∧ 
  (kd S_13 q_1 = 11 ∧ 
  (P_X11_dodges q_1 
  (xs 
  (x3_12 + 1).toNatClampNeg) S_13 
  (fun 
  (r_428 : Int32) 
  (F_428 : Nat → Nat → Int32) => 
  (vp_in 
  (x3_12 + 1) L ∧ 
  (kd S_13 q_6 = 12 ∧ 
  (P_X12_dodges q_6 
  (xs 
  (x3_12 + 1).toNatClampNeg) 
  (wI S_13 F_428) 
  (fun 
  (r_431 : Int32) 
  (F_431 : Nat → Nat → Int32) => 
  ((r_428 = r_431 → 
  (∀ v_433 : Int32, v_433 = x3_12 + 6 → 
  (∃ k : Nat, k < n_11 ∧ I_11 k v_433 
  (wI S_13 F_431) b_14 d_14))) ∧ 
  (¬ r_428 = r_431 → False))))))))))) ∧ 
  (¬ v_17 = 44 → 
  ((v_17 = 45 → 
  (vp_in 
  (x3_12 + 1) L ∧ 
  (kd S_13 q_1 = 11 ∧ 
  (P_X11_lies q_1 
  (xs 
  (x3_12 + 1).toNatClampNeg) S_13 
  (fun 
  (r_436 : Int32) 
  (F_436 : Nat → Nat → Int32) => 
  (vp_in 
  (x3_12 + 1) L ∧ 
  (kd S_13 q_6 = 12 ∧ 
  (P_X12_lies q_6 
  (xs 
  (x3_12 + 1).toNatClampNeg) 
  (wI S_13 F_436) 
  (fun 
  (r_439 : Int32) 
  (F_439 : Nat → Nat → Int32) => 
  ((r_436 = r_439 → 
  (∀ v_441 : Int32, v_441 = x3_12 + 6 → 
  (∃ k : Nat, k < n_11 ∧ I_11 k v_441 
  (wI S_13 F_439) b_14 d_14))) ∧ 
  (¬ r_436 = r_439 → False))))))))))) ∧ 
  (¬ v_17 = 45 → 
  ((v_17 = 46 → 
  (kd S_13 q_1 = 11 ∧ 
  (P_X11_backward q_1 S_13 
  (fun 
  (r_443 : Int32) 
  (F_443 : Nat → Nat → Int32) => 
  (kd S_13 q_6 = 12 ∧ 
  (P_X12_backward q_6 
  (wI S_13 F_443) 
  (fun 
  (r_445 : Int32) 
  (F_445 : Nat → Nat → Int32) => 
  ((r_443 = r_445 → 
  (∀ v_447 : Int32, v_447 = x3_12 + 6 → 
  (∃ k : Nat, k < n_11 ∧ I_11 k v_447 
  (wI S_13 F_445) b_14 d_14))) ∧ 
  (¬ r_443 = r_445 → False))))))))) ∧ 
  (¬ v_17 = 46 → 
  ((v_17 = 47 → 
  (vp_in 
  (x3_12 + 1) L ∧ 
  (vp_in 
  (x3_12 + 2) L ∧ 
  (kd S_13 q_1 = 11 ∧ 
  (P_X11_heard q_1 
  (xs 
  (x3_12 + 1).toNatClampNeg) 
  (xs 
  (x3_12 + 2).toNatClampNeg) S_13 
  (fun 
  (r_451 : Int32) 
  (F_451 : Nat → Nat → Int32) => 
  (vp_in 
  (x3_12 + 1) L ∧ 
  (vp_in 
  (x3_12 + 2) L ∧ 
  (kd S_13 q_6 = 12 ∧ 
  (P_X12_heard q_6 
  (xs 
  (x3_12 + 1).toNatClampNeg) 
  (xs 
  (x3_12 + 2).toNatClampNeg) 
  (wI S_13 F_451) 
  (fun 
  (r_455 : Int32) 
  (F_455 : Nat → Nat → Int32) => 
  ((r_451 = r_455 → 
  (∀ v_457 : Int32, v_457 = x3_12 + 6 → 
  (∃ k : Nat, k < n_11 ∧ I_11 k v_457 
  (wI S_13 F_455) b_14 d_14))) ∧ 
  (¬ r_451 = r_455 → False))))))))))))) ∧ 
  (¬ v_17 = 47 → 
  ((v_17 = 48 → 
  (kd S_13 q_1 = 11 ∧ 
  (∃ c_459 s_459 : Nat, c_459 ≤ b_14 ∧ s_459 ≤ d_14 ∧ 
  (P_X11_heardAlike q_1 S_13 c_459 s_459 
  (fun 
  (r_460 : Int32) 
  (S_460 : St) => 
  (kd S_460 q_6 = 12 ∧ 
  (P_X12_heardAlike q_6 S_460 
  (fun 
  (r_462 : Int32) 
  (F_462 : Nat → Nat → Int32) => 
  ((r_460 = r_462 → 
  (∀ v_464 : Int32, v_464 = x3_12 + 6 → 
  (∃ k : Nat, k < n_11 ∧ I_11 k v_464 
  (wI S_460 F_462) 
  (b_14 - c_459) 
  (d_14 - s_459)))) ∧ 
  (¬ r_460 = r_462 → False)))))))))) ∧ 
  (¬ v_17 = 48 → 
  ((v_17 = 49 → 
  (kd S_13 q_1 = 11 ∧ 
  (P_X11_evens q_1 S_13 
  (fun 
  (r_466 : Int32) 
  (F_466 : Nat → Nat → Int32) 
  (J_466 : Nat → Nat → Int64) => 
  (kd S_13 q_6 = 12 ∧ 
  (P_X12_evens q_6 
  (wA S_13 F_466 J_466 
  (gR S_13)) 
  (fun 
  (r_468 : Int32) 
  (F_468 : Nat → Nat → Int32) 
  (J_468 : Nat → Nat → Int64) => 
  ((r_466 = r_468 → 
  (∀ v_470 : Int32, v_470 = x3_12 + 6 → 
  (∃ k : Nat, k < n_11 ∧ I_11 k v_470 
  (wA S_13 F_468 J_468 
  (gR S_13)) b_14 d_14))) ∧ 
  (¬ r_466 = r_468 → False))))))))) ∧ 
  (¬ v_17 = 49 → 
  ((v_17 = 50 → 
  (vp_in 
  (x3_12 + 1) L ∧ 
  (vp_in 
  (x3_12 + 2) L ∧ 
  (kd S_13 q_1 = 11 ∧ 
  (P_X11_strayed q_1 
  (xs 
  (x3_12 + 1).toNatClampNeg) 
  (xs 
  (x3_12 + 2).toNatClampNeg) S_13 
  (fun 
  (r_474 : Int32) 
  (F_474 : Nat → Nat → Int32) => 
  (vp_in 
  (x3_12 + 1) L ∧ 
  (vp_in 
  (x3_12 + 2) L ∧ 
  (kd S_13 q_6 = 12 ∧ 
  (P_X12_strayed q_6 
  (xs 
  (x3_12 + 1).toNatClampNeg) 
  (xs 
  (x3_12 + 2).toNatClampNeg) 
  (wI S_13 F_474) 
  (fun 
  (r_478 : Int32) 
  (F_478 : Nat → Nat → Int32) => 
  ((r_474 = r_478 → 
  (∀ v_480 : Int32, v_480 = x3_12 + 6 → 
  (∃ k : Nat, k < n_11 ∧ I_11 k v_480 
  (wI S_13 F_478) b_14 d_14))) ∧ 
  (¬ r_474 = r_478 → False))))))))))))) ∧ 
  (¬ v_17 = 50 → 
  ((v_17 = 51 → 
  (vp_in 
  (x3_12 + 1) L ∧ 
  (vp_in 
  (x3_12 + 2) L ∧ 
  (vp_in 
  (x3_12 + 3) L ∧ 
  (kd S_13 q_1 = 11 ∧ 
  (P_X11_odds q_1 
  (xs 
  (x3_12 + 1).toNatClampNeg) 
  (xs 
  (x3_12 + 2).toNatClampNeg) 
  (xs 
  (x3_12 + 3).toNatClampNeg) S_13 
  (fun 
  (r_485 : Int32) 
  (F_485 : Nat → Nat → Int32) 
  (J_485 : Nat → Nat → Int64) => 
  (vp_in 
  (x3_12 + 1) L ∧ 
  (vp_in 
  (x3_12 + 2) L ∧ 
  (vp_in 
  (x3_12 + 3) L ∧ 
  (kd S_13 q_6 = 12 ∧ 
  (P_X12_odds q_6 
  (xs 
  (x3_12 + 1).toNatClampNeg) 
  (xs 
  (x3_12 + 2).toNatClampNeg) 
  (xs 
  (x3_12 + 3).toNatClampNeg) 
  (wA S_13 F_485 J_485 
  (gR S_13)) 
  (fun 
  (r_490 : Int32) 
  (F_490 : Nat → Nat → Int32) 
  (J_490 : Nat → Nat → Int64) => 
  ((r_485 = r_490 → 
  (∀ v_492 : Int32, v_492 = x3_12 + 6 → 
  (∃ k : Nat, k < n_11 ∧ I_11 k v_492 
  (wA S_13 F_490 J_490 
  (gR S_13)) b_14 d_14))) ∧ 
  (¬ r_485 = r_490 → False))))))))))))))) ∧ 
  (¬ v_17 = 51 → 
  ((v_17 = 52 → 
  (vp_in 
  (x3_12 + 1) L ∧ 
  (kd S_13 q_1 = 11 ∧ 
  (∃ c_495 s_495 : Nat, c_495 ≤ b_14 ∧ s_495 ≤ d_14 ∧ 
  (P_X11_way q_1 
  (xs 
  (x3_12 + 1).toNatClampNeg) S_13 c_495 s_495 
  (fun 
  (r_496 : Int32) 
  (S_496 : St) => 
  (vp_in 
  (x3_12 + 1) L ∧ 
  (kd S_496 q_6 = 12 ∧ 
  (P_X12_way q_6 
  (xs 
  (x3_12 + 1).toNatClampNeg) S_496 
  (fun 
  (r_499 : Int32) 
  (F_499 : Nat → Nat → Int32) => 
  ((r_496 = r_499 → 
  (∀ v_501 : Int32, v_501 = x3_12 + 6 → 
  (∃ k : Nat, k < n_11 ∧ I_11 k v_501 
  (wI S_496 F_499) 
  (b_14 - c_495) 
  (d_14 - s_495)))) ∧ 
  (¬ r_496 = r_499 → False)))))))))))) ∧ 
  (¬ v_17 = 52 → 
  ((v_17 = 53 → 
  (vp_in 
  (x3_12 + 1) L ∧ 
  (vp_in 
  (x3_12 + 2) L ∧ 
  (kd S_13 q_1 = 11 ∧ 
  (P_X11_wayAt q_1 
  (xs 
  (x3_12 + 1).toNatClampNeg) 
  (xs 
  (x3_12 + 2).toNatClampNeg) S_13 
  (fun 
  (r_505 : Int32) 
  (F_505 : Nat → Nat → Int32) => 
  (vp_in 
  (x3_12 + 1) L ∧ 
  (vp_in 
  (x3_12 + 2) L ∧ 
  (kd S_13 q_6 = 12 ∧ 
  (P_X12_wayAt q_6 
  (xs 
  (x3_12 + 1).toNatClampNeg) 
  (xs 
  (x3_12 + 2).toNatClampNeg) 
  (wI S_13 F_505) 
  (fun 
  (r_509 : Int32) 
  (F_509 : Nat → Nat → Int32) => 
  ((r_505 = r_509 → 
  (∀ v_511 : Int32, v_511 = x3_12 + 6 → 
  (∃ k : Nat, k < n_11 ∧ I_11 k v_511 
  (wI S_13 F_509) b_14 d_14))) ∧ 
  (¬ r_505 = r_509 → False))))))))))))) ∧ 
  (¬ v_17 = 53 → 
  ((v_17 = 54 → 
  (kd S_13 q_1 = 11 ∧ 
  (∃ c_513 s_513 : Nat, c_513 ≤ b_14 ∧ s_513 ≤ d_14 ∧ 
  (P_X11_extent q_1 S_13 c_513 s_513 
  (fun 
  (r_514 : Int32) 
  (S_514 : St) => 
  (kd S_514 q_6 = 12 ∧ 
  (P_X12_extent q_6 S_514 
  (fun 
  (r_516 : Int32) 
  (F_516 : Nat → Nat → Int32) => 
  ((r_514 = r_516 → 
  (∀ v_518 : Int32, v_518 = x3_12 + 6 → 
  (∃ k : Nat, k < n_11 ∧ I_11 k v_518 
  (wI S_514 F_516) 
  (b_14 - c_513) 
  (d_14 - s_513)))) ∧ 
  (¬ r_514 = r_516 → False)))))))))) ∧ 
  (¬ v_17 = 54 → 
  ((v_17 = 55 → 
  (vp_in 
  (x3_12 + 1) L ∧ 
  (vp_in 
  (x3_12 + 2) L ∧ 
  (vp_in 
  (x3_12 + 3) L ∧ 
  (kd S_13 q_1 = 11 ∧ 
  (∃ c_523 s_523 : Nat, c_523 ≤ b_14 ∧ s_523 ≤ d_14 ∧ 
  (P_X11_compositions q_1 
  (xs 
  (x3_12 + 1).toNatClampNeg) 
  (xs 
  (x3_12 + 2).toNatClampNeg) 
  (xs 
  (x3_12 + 3).toNatClampNeg) S_13 c_523 s_523 
  (fun 
  (r_524 : Int32) 
  (S_524 : St) => 
  (vp_in 
  (x3_12 + 1) L ∧ 
  (vp_in 
  (x3_12 + 2) L ∧ 
  (vp_in 
  (x3_12 + 3) L ∧ 
  (kd S_524 q_6 = 12 ∧ 
  (P_X12_compositions q_6 
  (xs 
  (x3_12 + 1).toNatClampNeg) 
  (xs 
  (x3_12 + 2).toNatClampNeg) 
  (xs 
  (x3_12 + 3).toNatClampNeg) S_524 
  (fun 
  (r_529 : Int32) 
  (F_529 : Nat → Nat → Int32) => 
  ((r_524 = r_529 → 
  (∀ v_531 : Int32, v_531 = x3_12 + 6 → 
  (∃ k : Nat, k < n_11 ∧ I_11 k v_531 
  (wI S_524 F_529) 
  (b_14 - c_523) 
  (d_14 - s_523)))) ∧ 
  (¬ r_524 = r_529 → False)))))))))))))))) ∧ 
  (¬ v_17 = 55 → 
  ((v_17 = 56 → 
  (vp_in 
  (x3_12 + 1) L ∧ 
  (kd S_13 q_1 = 11 ∧ 
  (P_X11_callAt q_1 
  (xs 
  (x3_12 + 1).toNatClampNeg) S_13 
  (fun 
  (r_534 : Int32) 
  (F_534 : Nat → Nat → Int32) => 
  (vp_in 
  (x3_12 + 1) L ∧ 
  (kd S_13 q_6 = 12 ∧ 
  (P_X12_callAt q_6 
  (xs 
  (x3_12 + 1).toNatClampNeg) 
  (wI S_13 F_534) 
  (fun 
  (r_537 : Int32) 
  (F_537 : Nat → Nat → Int32) => 
  ((r_534 = r_537 → 
  (∀ v_539 : Int32, v_539 = x3_12 + 6 → 
  (∃ k : Nat, k < n_11 ∧ I_11 k v_539 
  (wI S_13 F_537) b_14 d_14))) ∧ 
  (¬ r_534 = r_537 → False))))))))))) ∧ 
  (¬ v_17 = 56 → 
  ((v_17 = 57 → 
  (kd S_13 q_1 = 11 ∧ 
  (P_X11_mark q_1 S_13 
  (fun 
  (r_541 : Int32) 
  (F_541 : Nat → Nat → Int32) 
  (R_541 : Nat → Nat → Option Nat) => 
  (kd S_13 q_6 = 12 ∧ 
  (P_X12_mark q_6 
  (wA S_13 F_541 
  (gJ S_13) R_541) 
  (fun 
  (r_543 : Int32) 
  (F_543 : Nat → Nat → Int32) 
  (J_543 : Nat → Nat → Int64) => 
  ((r_541 = r_543 → 
  (∀ v_545 : Int32, v_545 = x3_12 + 6 → 
  (∃ k : Nat, k < n_11 ∧ I_11 k v_545 
  (wA S_13 F_543 J_543 R_541) b_14 d_14))) ∧ 
  (¬ r_541 = r_543 → False))))))))) ∧ 
  (¬ v_17 = 57 → 
  ((v_17 = 58 → 
  (kd S_13 q_1 = 11 ∧ 
  (P_X11_back q_1 S_13 
  (fun 
  (r_547 : Int32) 
  (F_547 : Nat → Nat → Int32) 
  (R_547 : Nat → Nat → Option Nat) => 
  (kd S_13 q_6 = 12 ∧ 
  (P_X12_back q_6 
  (wA S_13 F_547 
  (gJ S_13) R_547) 
  (fun 
  (r_549 : Int32) 
  (F_549 : Nat → Nat → Int32) 
  (J_549 : Nat → Nat → Int64) => 
  ((r_547 = r_549 → 
  (∀ v_551 : Int32, v_551 = x3_12 + 6 → 
  (∃ k : Nat, k < n_11 ∧ I_11 k v_551 
  (wA S_13 F_549 J_549 R_547) b_14 d_14))) ∧ 
  (¬ r_547 = r_549 → False))))))))) ∧ 
  (¬ v_17 = 58 → 
  (∀ v_552 : Int32, v_552 = x3_12 + 6 → 
  (∃ k : Nat, k < n_11 ∧ I_11 k v_552 S_13 b_14 d_14)))))))))))))))))))))))))))))))))))))))))))))))))))))))))))))))))))))))))))))))))))))))))))))))))))))))))))))))))))))))))))))
def pu (k l : Nat) : Nat := if l < k then k else 0
theorem pu_le {k l l2 : Nat} (h : l ≤ l2) : pu k l2 ≤ pu k l := by
  unfold pu
  by_cases c : l2 < k
  · rw [if_pos c, if_pos (by omega)]; exact Nat.le_refl _
  · rw [if_neg c]; exact Nat.zero_le _
theorem pu_g {k l l2 : Nat} (h : l < k) (h2 : k ≤ l2) : pu k l2 + k = pu k l := by
  unfold pu
  rw [if_neg (by omega), if_pos h, Nat.zero_add]
def pot (l : Nat) : Nat := pu 24 l + pu 120 l + pu 720 l + pu 5040 l + pu 40320 l
theorem pot_le {l l2 : Nat} (h : l ≤ l2) : pot l2 ≤ pot l := by
  have h1 := pu_le (k := 24) h
  have h2 := pu_le (k := 120) h
  have h3 := pu_le (k := 720) h
  have h4 := pu_le (k := 5040) h
  have h5 := pu_le (k := 40320) h
  unfold pot
  omega
theorem pot_g {l l2 n : Nat} (h4 : 4 ≤ n) (h8 : n ≤ 8) (h : l < fac n) (h2 : fac n ≤ l2) : pot l2 + fac n ≤ pot l := by
  have e : fac n = 24 ∨ fac n = 120 ∨ fac n = 720 ∨ fac n = 5040 ∨ fac n = 40320 := by
    rcases (show n = 4 ∨ n = 5 ∨ n = 6 ∨ n = 7 ∨ n = 8 by omega) with rfl | rfl | rfl | rfl | rfl
    · exact Or.inl rfl
    · exact Or.inr (Or.inl rfl)
    · exact Or.inr (Or.inr (Or.inl rfl))
    · exact Or.inr (Or.inr (Or.inr (Or.inl rfl)))
    · exact Or.inr (Or.inr (Or.inr (Or.inr rfl)))
  have hl : l ≤ l2 := by omega
  have u1 := pu_le (k := 24) hl
  have u2 := pu_le (k := 120) hl
  have u3 := pu_le (k := 720) hl
  have u4 := pu_le (k := 5040) hl
  have u5 := pu_le (k := 40320) hl
  unfold pot
  rcases e with e | e | e | e | e
  · rw [e] at h h2 ⊢
    have := pu_g h h2
    omega
  · rw [e] at h h2 ⊢
    have := pu_g h h2
    omega
  · rw [e] at h h2 ⊢
    have := pu_g h h2
    omega
  · rw [e] at h h2 ⊢
    have := pu_g h h2
    omega
  · rw [e] at h h2 ⊢
    have := pu_g h h2
    omega
theorem bud {Rch : Prop} {len n : Nat} (h4 : 4 ≤ n) (h8 : n ≤ 8) : ∃ c s, c ≤ 1 ∧ s ≤ pot len ∧ (Rch → fac n ≤ len ∨ (1 ≤ c ∧ fac n ≤ s)) ∧ ∀ len', len ≤ len' → (Rch → fac n ≤ len') → pot len' + s ≤ pot len := by
  by_cases hR : Rch ∧ len < fac n
  · refine ⟨1, fac n, Nat.le_refl _, ?_, fun _ => Or.inr ⟨Nat.le_refl _, Nat.le_refl _⟩, fun len' _ h2 => pot_g h4 h8 hR.2 (h2 hR.1)⟩
    have := pot_g h4 h8 hR.2 (Nat.le_refl _)
    omega
  · refine ⟨0, 0, by omega, by omega, fun hr => Or.inl ?_, fun len' h1 _ => by have := pot_le h1; omega⟩
    rcases Nat.lt_or_ge len (fac n) with y | y
    · exact absurd ⟨hr, y⟩ hR
    · exact y
theorem EndS.le {S S1 : St} {x s a len p a' len' p' : Nat} (h : EndS S x s a len p S1 a' len' p') : len ≤ len' ∧ p' ≤ p + 1 := by
  obtain ⟨-, -, hc, -, hp⟩ := h
  refine ⟨?_, hp⟩
  rcases hc with ⟨-, y⟩ | y
  · omega
  · have := y.2; omega
def IV (x m : Nat) (z : Nat → Nat) (w : Nat → Nat → Nat) (L n : Nat) (i : Int32) (S : St) (b d : Nat) : Prop := ∃ j q len p ls, i = nI (6 * j) ∧ 6 * j ≤ L ∧ n = L - 6 * j ∧ q ≤ 2003 * j ∧ p ≤ j ∧ 25 * (512 - j) ≤ b ∧ 12602 * (512 - j) + pot len + 2 * pot ls ≤ d ∧ GR x m z w S q len p ls
theorem law_c {L i : Nat} (hL : L ≤ 3072) (hi : i ≤ 3072) (h : ¬ nI L - 6 < nI i) : i + 6 ≤ L := by
  rcases Nat.lt_or_ge L 6 with y | y
  · have e : ∀ L, L < 6 → nI L - 6 < 0 := by decide
    have e2 := e L y
    have e3 := nI_pos' (n := i) (by omega)
    exact absurd (by rw [fa_lt] at e2 ⊢; rw [fa_le] at e3; omega) h
  · rw [show (6 : Int32) = nI 6 from rfl, dif_nI y] at h
    rcases Nat.lt_or_ge (L - 6) i with z | z
    · exact absurd (nI_lt z (by omega)) h
    · omega
theorem law_loop {L : Nat} {xs : Nat → Int32} {x m : Nat} {z : Nat → Nat} {w : Nat → Nat → Nat} {S0 : St} {b0 d0 : Nat} (hL : L ≤ 3072) (h0 : GR x m z w S0 0 0 0 0) (hb0 : 25 * 512 ≤ b0) (hd0 : 12602 * 512 + 3 * pot 0 ≤ d0) : P_loop L xs x m S0 b0 d0 := by
  refine ⟨IV x m z w L, ⟨L, 0, 0, 0, 0, 0, rfl, Nat.zero_le _, rfl, Nat.zero_le _, Nat.le_refl _, by omega, by omega, h0⟩, ?_⟩
  rintro n _ S b d ⟨j, q, len, p, ls, rfl, hj, rfl, hq, hp, hb, hd, gr0⟩
  refine ⟨fun _ => trivial, fun hlt => ?_⟩
  have hj6 := law_c hL (by omega) hlt
  have vp : ∀ i, i < 6 → vp_in (nI (6 * j) + nI i) L := fun i hi => by rw [nI_add]; exact vp_in_nI (by omega) (by omega)
  have vp1 : vp_in (nI (6 * j) + 1) L := vp 1 (by decide)
  have vp2 : vp_in (nI (6 * j) + 2) L := vp 2 (by decide)
  have vp3 : vp_in (nI (6 * j) + 3) L := vp 3 (by decide)
  have vp4 : vp_in (nI (6 * j) + 4) L := vp 4 (by decide)
  have vp5 : vp_in (nI (6 * j) + 5) L := vp 5 (by decide)
  refine ⟨vp_in_nI (by omega) (by omega), fun v17 _ => ?_⟩
  obtain ⟨ow, im, M, c, Ms, tq, ta, Y, t, a, sa, wl, h⟩ := gr0
  have fin : ∀ (S2 : St) (q' len' p' ls' b2 d2 : Nat), GR x m z w S2 q' len' p' ls' → q' ≤ q + 2003 → p' ≤ p + 1 → b ≤ b2 + 25 → pot len' + 2 * pot ls' + d ≤ d2 + 12602 + pot len + 2 * pot ls → ∀ v : Int32, v = nI (6 * j) + 6 → ∃ k, k < L - 6 * j ∧ IV x m z w L k v S2 b2 d2 := fun S2 q' len' p' ls' b2 d2 g h1 h2 h3 h4 v ev => ⟨L - 6 * (j + 1), by omega, j + 1, q', len', p', ls', by rw [ev, show (6 : Int32) = nI 6 from rfl, nI_add]; congr 1, by omega, rfl, by omega, by omega, by omega, by omega, g⟩
  have fin0 : ∀ (S2 : St), GR x m z w S2 q len p ls → ∀ v : Int32, v = nI (6 * j) + 6 → ∃ k, k < L - 6 * j ∧ IV x m z w L k v S2 b d := fun S2 g => fin S2 q len p ls b d g (by omega) (by omega) (by omega) (by omega)
  have h' := h
  obtain ⟨hx, ox, gm, gq, gb, gk, gt, gp, gr, gd, gs, ge, gc, gi⟩ := h'
  obtain ⟨C, T, R⟩ := h.cb
  have hm := gm.1.z
  have km : kd S m ≠ 0 := nz hm (by decide)
  have nm := h.nm
  have dj := h.dj
  have n4 : 4 ≤ bn M.2.1 := gb.1.1.1
  have n8 : bn M.2.1 ≤ 8 := gb.1.1.2.1
  have q31 : q + 2003 < 2 ^ 31 := by omega
  have p31 : p + 1 < 2 ^ 31 := by omega
  have lne : ∀ {e f L1 L2 : Nat}, ow e = L1 → ow f = L2 → L1 ≠ L2 → e ≠ f := fun h1 h2 h3 e => h3 (by rw [← h1, ← h2, e])
  have iml : ∀ {e f L2 : Nat}, im e → ow f = L2 → L2 ≠ 11 → e ≠ f := fun he h2 h3 => lne (gi _ he).2 h2 (Ne.symm h3)
  have aml : ∀ {f e L2 : Nat}, mk f ≠ 0 → ow e = L2 → L2 ≠ 2 → w 0 f ≠ e := fun hf h2 h3 => lne (gm.2.2.1 _ hf) h2 (Ne.symm h3)
  have stc : StC S x m (w 0) im q (z 10) a len p := ⟨gm.2.2.2, q31, gs.1, gs.2.1, p31, fun e he => ⟨(gi e he).1, iml he ox (by decide), iml he gs.2.2.1 (by decide), iml he gs.2.2.2 (by decide)⟩, fun f hf => aml hf gs.2.2.2 (by decide)⟩

  refine ⟨fun _ => ?_, fun _ => ?_⟩
  · exact ⟨hx, hx, hm, hm, fun _ => fin0 _ h.gr, fun y => absurd gq.1.symm y⟩
  refine ⟨fun _ => ?_, fun _ => ?_⟩
  · exact ⟨hx, hx, hm, hm, fun _ => fin0 _ h.gr, fun y => y (by rw [lg_cmp_eq]; exact gq.2.1.symm)⟩
  refine ⟨fun _ => ?_, fun _ => ?_⟩
  · exact ⟨hx, hx, hm, hm, fun _ => fin0 _ h.gr, fun y => y (by rw [lg_cmp_eq]; exact gq.2.2.symm)⟩
  refine ⟨fun _ => ?_, fun _ => ?_⟩
  · exact ⟨vp1, vp2, vp3, hx, 2, 62, by omega, by omega, call_tray C gt.1 gt.2.1 (Nat.le_refl _) (Nat.le_refl _) _ _ _ (fun v S1 tq' ta' Y' fr xk hD' hn th => ⟨vp1, vp2, vp3, (fr m km).1.trans hm, th _ (fun F' J' k e hj hy' => ⟨fun _ => fin _ q len p ls _ _ (h.tn fr xk hD' hn k e hj hy').gr (by omega) (by omega) (by omega) (by omega), fun y => absurd rfl y⟩)⟩)⟩
  refine ⟨fun _ => ?_, fun _ => ?_⟩
  · exact ⟨vp1, vp2, vp3, vp4, hx, call_write C gt.1 gt.2.1 _ _ _ (fun v s J th => ⟨vp1, vp2, vp3, vp4, hm, th _ (fun F' J' Y' k e hj hy' hyy => ⟨fun _ => fin0 _ (h.ty k e hj hy' hyy).gr, fun y => absurd rfl y⟩)⟩)⟩
  refine ⟨fun _ => ?_, fun _ => ?_⟩
  · exact ⟨vp1, vp2, hx, call_read C gt.1 _ _ (fun v s th => ⟨vp1, vp2, hm, th _ (fun F' g => ⟨fun _ => fin0 _ (h.gd g).gr, fun y => y (by rw [lg_cmp_eq])⟩)⟩)⟩
  refine ⟨fun _ => ?_, fun _ => ?_⟩
  · exact ⟨vp1, vp2, vp3, vp4, vp5, hx, call_pour C gt.1 gt.2.1 _ _ _ _ _ (fun v s J th => ⟨vp1, vp2, vp3, vp4, vp5, hm, th _ (fun F' J' Y' k e hj hy' hyy => ⟨fun _ => fin0 _ (h.ty k e hj hy' hyy).gr, fun y => absurd rfl y⟩)⟩)⟩
  refine ⟨fun _ => ?_, fun _ => ?_⟩
  · exact ⟨vp1, vp2, vp3, vp4, vp5, hx, call_feed hx gm.1 gp.1 (fun f hf => aml hf gp.2.2.2.2.1 (by decide)) _ _ _ _ _ (fun v F th => ⟨vp1, vp2, vp3, vp4, vp5, hm, th _ (fun F' t' y1 y2 y3 y4 => ⟨fun _ => fin0 _ (h.fd y1 y2 y3 y4).gr, fun y => absurd rfl y⟩)⟩)⟩
  refine ⟨fun _ => ?_, fun _ => ?_⟩
  · refine ⟨vp1, hx, 22, 320, by omega, by omega, call_book hx gm.1 gp.1 gp.2.1 gr.1 gr.2.1 (fun f hf e => ?_) gp.2.2.1 (Nat.le_refl _) (Nat.le_refl _) _ (fun v S1 fr y1 y2 y3 y4 th => ⟨vp1, (fr m km).1.trans hm, th _ (fun F' J' t' ma e hf tp bk => ⟨fun _ => fin _ q len p ls _ _ (h.nb fr y1 y2 y3 y4 ma e hf tp bk) (by omega) (by omega) (by omega) (by omega), fun y => absurd rfl y⟩)⟩)⟩
    rcases gr.wb gp.2.2.2.1 e with y | y
    · rw [gm.2.2.1 f hf] at y; cases y
    · rw [gm.2.2.1 f hf] at y; cases y
  refine ⟨fun _ => ?_, fun _ => ?_⟩
  · refine ⟨vp1, hx, 3, 4005, by omega, by omega, call_touch C nm gp.1 gp.2.1 gd.1 gd.2.1 (fun f hf e => ?_) (fun e he e' => ?_) gp.2.2.1 (Nat.le_refl _) (Nat.le_refl _) _ (fun v S1 fr y1 y2 y3 y4 th => ⟨vp1, (fr m km).1.trans hm, th _ (fun F' t' ma e hf tp bk => ⟨fun _ => fin _ q len p ls _ _ (h.un fr y1 y2 y3 y4 ma e hf tp bk) (by omega) (by omega) (by omega) (by omega), fun y => absurd rfl y⟩)⟩)⟩
    · rcases gd.wt gp.2.2.2.1 e with y | y
      · rw [gm.2.2.1 f hf] at y; cases y
      · rw [gm.2.2.1 f hf] at y; cases y
    · rcases gd.wt gp.2.2.2.1 e' with y | y
      · rw [(gi e he).2] at y; cases y
      · rw [(gi e he).2] at y; cases y
  refine ⟨fun _ => ?_, fun _ => ?_⟩
  · refine ⟨vp1, hx, hx, fun n0 => ⟨fun n1 => ⟨vp1, hm, hm, fun _ => ⟨fun _ => ⟨fun _ => fin0 _ h.gr, fun y => absurd rfl y⟩, fun y => absurd y n1⟩, fun y => absurd y n0⟩, fun y1 => ⟨z 2, gp.1.1, gp.1.2.1, vp1, hm, hm, fun _ => ⟨fun y => absurd y1 y, fun _ => ⟨fun _ => fin0 _ h.gr, fun y => absurd gp.2.2.1.2.symm y⟩⟩, fun y => absurd y n0⟩⟩, fun y0 => ⟨z 2, gp.1.1, gp.1.2.1, vp1, hm, hm, fun y => absurd y0 y, fun _ => ⟨fun _ => fin0 _ h.gr, fun y => absurd gp.2.2.1.1.symm y⟩⟩⟩
  refine ⟨fun _ => ?_, fun _ => ?_⟩
  · exact ⟨vp1, hx, call_told C R T _ (fun v F th => ⟨vp1, hm, th _ (fun F' g => ⟨fun _ => fin0 _ (h.gd g).gr, fun y => absurd rfl y⟩)⟩)⟩
  refine ⟨fun _ => ?_, fun _ => ?_⟩
  · exact ⟨vp1, vp2, hx, call_bell C _ _ (fun v F th => ⟨vp1, vp2, hm, th _ (fun F' g => ⟨fun _ => fin0 _ (h.gd g).gr, fun y => absurd rfl y⟩)⟩)⟩
  refine ⟨fun _ => ?_, fun _ => ?_⟩
  · exact ⟨vp1, hx, call_number C gt.1 _ (fun v F th => ⟨vp1, hm, th _ (fun F' g => ⟨fun _ => fin0 _ (h.gd g).gr, fun y => absurd rfl y⟩)⟩)⟩
  refine ⟨fun _ => ?_, fun _ => ?_⟩
  · exact ⟨vp1, vp2, hx, call_product C _ _ (fun v F th => ⟨vp1, vp2, hm, th _ (fun F' g => ⟨fun _ => fin0 _ (h.gd g).gr, fun y => absurd rfl y⟩)⟩)⟩
  refine ⟨fun _ => ?_, fun _ => ?_⟩
  · exact ⟨vp1, hx, call_inverse C _ (fun v F th => ⟨vp1, hm, th _ (fun F' g => ⟨fun _ => fin0 _ (h.gd g).gr, fun y => absurd rfl y⟩)⟩)⟩
  refine ⟨fun _ => ?_, fun _ => ?_⟩
  · exact ⟨vp1, hx, call_order C _ (fun v F th => ⟨vp1, hm, th _ (fun F' g => ⟨fun _ => fin0 _ (h.gd g).gr, fun y => absurd rfl y⟩)⟩)⟩
  refine ⟨fun _ => ?_, fun _ => ?_⟩
  · exact ⟨vp1, hx, call_even C _ (fun v F th => ⟨vp1, hm, th _ (fun F' g => ⟨fun _ => fin0 _ (h.gd g).gr, fun y => absurd rfl y⟩)⟩)⟩
  refine ⟨fun _ => ?_, fun _ => ?_⟩
  · exact ⟨vp1, vp2, hx, call_done C _ _ (fun v F th => ⟨vp1, vp2, hm, th _ (fun F' g => ⟨fun _ => fin0 _ (h.gd g).gr, fun y => absurd rfl y⟩)⟩)⟩
  refine ⟨fun _ => ?_, fun _ => ?_⟩
  · exact ⟨vp1, vp2, hx, call_power C _ _ (fun v F th => ⟨vp1, vp2, hm, th _ (fun F' g => ⟨fun _ => fin0 _ (h.gd g).gr, fun y => absurd rfl y⟩)⟩)⟩
  refine ⟨fun _ => ?_, fun _ => ?_⟩
  · exact ⟨vp1, vp2, hx, call_cycles C _ _ (fun v F th => ⟨vp1, vp2, hm, th _ (fun F' g => ⟨fun _ => fin0 _ (h.gd g).gr, fun y => absurd rfl y⟩)⟩)⟩
  refine ⟨fun _ => ?_, fun _ => ?_⟩
  · exact ⟨vp1, vp2, hx, call_distance C _ _ (fun v F th => ⟨vp1, vp2, hm, th _ (fun F' g => ⟨fun _ => fin0 _ (h.gd g).gr, fun y => absurd rfl y⟩)⟩)⟩
  refine ⟨fun _ => ?_, fun _ => ?_⟩
  · exact ⟨vp1, vp2, hx, call_between C _ _ (fun v F th => ⟨vp1, vp2, hm, th _ (fun F' g => ⟨fun _ => fin0 _ (h.gd g).gr, fun y => absurd rfl y⟩)⟩)⟩
  refine ⟨fun _ => ?_, fun _ => ?_⟩
  · exact ⟨vp1, hx, call_changes C _ (fun v F th => ⟨vp1, hm, th _ (fun F' g => ⟨fun _ => fin0 _ (h.gd g).gr, fun y => absurd rfl y⟩)⟩)⟩
  refine ⟨fun _ => ?_, fun _ => ?_⟩
  · exact ⟨vp1, vp2, vp3, hx, call_change C _ _ _ (fun v F th => ⟨vp1, vp2, vp3, hm, th _ (fun F' g => ⟨fun _ => fin0 _ (h.gd g).gr, fun y => absurd rfl y⟩)⟩)⟩
  refine ⟨fun _ => ?_, fun _ => ?_⟩
  · exact ⟨vp1, vp2, hx, call_head C _ _ (fun v F th => ⟨vp1, vp2, hm, th _ (fun F' g => ⟨fun _ => fin0 _ (h.gd g).gr, fun y => absurd rfl y⟩)⟩)⟩
  refine ⟨fun _ => ?_, fun _ => ?_⟩
  · exact ⟨vp1, vp2, hx, call_course C _ _ (fun v F th => ⟨vp1, vp2, hm, th _ (fun F' g => ⟨fun _ => fin0 _ (h.gd g).gr, fun y => absurd rfl y⟩)⟩)⟩
  refine ⟨fun _ => ?_, fun _ => ?_⟩
  · exact ⟨vp1, vp2, hx, call_fixed C _ _ (fun v F th => ⟨vp1, vp2, hm, th _ (fun F' g => ⟨fun _ => fin0 _ (h.gd g).gr, fun y => absurd rfl y⟩)⟩)⟩
  refine ⟨fun _ => ?_, fun _ => ?_⟩
  · exact ⟨vp1, hx, call_symmetric C _ (fun v F th => ⟨vp1, hm, th _ (fun F' g => ⟨fun _ => fin0 _ (h.gd g).gr, fun y => absurd rfl y⟩)⟩)⟩
  refine ⟨fun _ => ?_, fun _ => ?_⟩
  · exact ⟨vp1, hx, call_leadTrue C _ (fun v F th => ⟨vp1, hm, th _ (fun F' g => ⟨fun _ => fin0 _ (h.gd g).gr, fun y => absurd rfl y⟩)⟩)⟩
  refine ⟨fun _ => ?_, fun _ => ?_⟩
  · exact ⟨vp1, vp2, hx, call_falseAgainst C gm.2.2.2 (by omega) _ _ (fun v s th => ⟨vp1, vp2, hm, th _ (fun F' q' k e h1 h2 sm => ⟨fun _ => fin _ q' len p ls _ _ (h.z0 k (e.trans up_at) sm).gr (by omega) (by omega) (by omega) (by omega), fun y => absurd rfl y⟩)⟩)⟩
  refine ⟨fun _ => ?_, fun _ => ?_⟩
  · obtain ⟨c1, s1, hc1, hs1, hbd, hpot⟩ := bud (Rch := ∃ i, i < bM M.2.1 ∧ xs (nI (6 * j) + 1).toNatClampNeg = nI i) (len := len) n4 n8
    refine ⟨vp1, hx, c1, s1, by omega, by omega, call_falses C gm.2.2.2 (by omega) gs.1 gs.2.1 p31 stc.2.2.2.2.2.1 stc.2.2.2.2.2.2 _ hbd (fun v S1 a' len' p' hr fr xk hc sx hp' th => ⟨vp1, (fr m km).1.trans hm, th _ (fun F' q' k e h1 h2 sm => ⟨fun _ => ?_, fun y => absurd rfl y⟩)⟩)⟩
    have E : EndS S x (z 10) a len p S1 a' len' p' := ⟨fr, xk, hc, sx, hp'⟩
    have hp2 := hpot len' E.le.1 hr
    exact fin _ q' len' p' ls _ _ (h.zs E k e sm).gr (by omega) (by omega) (by omega) (by omega)
  refine ⟨fun _ => ?_, fun _ => ?_⟩
  · exact ⟨vp1, vp2, hx, call_leadsTo C _ _ (fun v F th => ⟨vp1, vp2, hm, th _ (fun F' g => ⟨fun _ => fin0 _ (h.gd g).gr, fun y => absurd rfl y⟩)⟩)⟩
  refine ⟨fun _ => ?_, fun _ => ?_⟩
  · exact ⟨vp1, vp2, hx, call_inLead C _ _ (fun v F th => ⟨vp1, vp2, hm, th _ (fun F' g => ⟨fun _ => fin0 _ (h.gd g).gr, fun y => absurd rfl y⟩)⟩)⟩
  refine ⟨fun _ => ?_, fun _ => ?_⟩
  · exact ⟨hx, call_ring C T (fun e he => ⟨(gi e he).1, iml he ox (by decide)⟩) (fun _ th => ⟨hm, th _ (fun F' k e a0 => ⟨fun _ => fin0 _ (h.wr (J := gJ S) (J' := gJ S) k e a0 (by decide) (Or.inl ⟨rfl, rfl⟩)).gr, fun y => absurd rfl y⟩)⟩) (fun TT P tt ho e8 htx th => ⟨hm, th _ (fun F' k e lo tm => ⟨fun _ => fin0 _ (h.rg ho htx k e lo tm).gr, fun y => absurd rfl y⟩)⟩)⟩
  refine ⟨fun _ => ?_, fun _ => ?_⟩
  · exact ⟨vp1, hx, call_rowAt C R _ (fun v F th => ⟨vp1, hm, th _ (fun F' g => ⟨fun _ => fin0 _ (h.gd g).gr, fun y => absurd rfl y⟩)⟩)⟩
  refine ⟨fun _ => ?_, fun _ => ?_⟩
  · exact ⟨hx, call_round C R (fun v F th => ⟨hm, th _ (fun F' g => ⟨fun _ => fin0 _ (h.gd g).gr, fun y => absurd rfl y⟩)⟩)⟩
  refine ⟨fun _ => ?_, fun _ => ?_⟩
  · obtain ⟨c1, s1, hc1, hs1, hbd, hpot⟩ := bud (Rch := M.2.2.2 ≠ none) (len := len) n4 n8
    refine ⟨hx, c1, s1, by omega, by omega, call_isTrue C R stc hbd (fun v S1 a' len' p' hr E th => ⟨(E.1 m km).1.trans hm, th _ (fun F' q' k e h1 h2 sm => ⟨fun _ => ?_, fun y => absurd rfl y⟩)⟩)⟩
    have hp2 := hpot len' E.le.1 hr
    have hp3 := E.le.2
    exact fin _ q' len' p' ls _ _ (h.zs E k e sm).gr (by omega) (by omega) (by omega) (by omega)
  refine ⟨fun _ => ?_, fun _ => ?_⟩
  · obtain ⟨c1, s1, hc1, hs1, hbd, hpot⟩ := bud (Rch := M.2.2.2 ≠ none ∧ (xs (nI (6 * j) + 1).toNatClampNeg = 0 ∨ xs (nI (6 * j) + 1).toNatClampNeg = 1)) (len := len) n4 n8
    refine ⟨vp1, hx, c1, s1, by omega, by omega, call_falseAt C R stc _ (fun y1 y2 => hbd ⟨y1, y2⟩) (fun v S1 a' len' p' hr E th => ⟨vp1, (E.1 m km).1.trans hm, th _ (fun F' q' k e h1 h2 sm => ⟨fun _ => ?_, fun y => absurd rfl y⟩)⟩)⟩
    have hp2 := hpot len' E.le.1 (fun y => hr y.1 y.2)
    have hp3 := E.le.2
    exact fin _ q' len' p' ls _ _ (h.zs E k e sm).gr (by omega) (by omega) (by omega) (by omega)
  refine ⟨fun _ => ?_, fun _ => ?_⟩
  · obtain ⟨c1, s1, hc1, hs1, hbd, hpot⟩ := bud (Rch := M.2.2.2 ≠ none) (len := len) n4 n8
    refine ⟨hx, c1, s1, by omega, by omega, call_repeats C R stc hbd (fun v S1 a' len' p' hr E th => ⟨(E.1 m km).1.trans hm, th _ (fun F' q' k e h1 h2 sm => ⟨fun _ => ?_, fun y => absurd rfl y⟩)⟩)⟩
    have hp2 := hpot len' E.le.1 hr
    have hp3 := E.le.2
    exact fin _ q' len' p' ls _ _ (h.zs E k e sm).gr (by omega) (by omega) (by omega) (by omega)
  refine ⟨fun _ => ?_, fun _ => ?_⟩
  · exact ⟨vp1, vp2, hx, call_place C R _ _ (fun v F th => ⟨vp1, vp2, hm, th _ (fun F' g => ⟨fun _ => fin0 _ (h.gd g).gr, fun y => absurd rfl y⟩)⟩)⟩
  refine ⟨fun _ => ?_, fun _ => ?_⟩
  · exact ⟨vp1, vp2, hx, call_blows C R _ _ (fun v F th => ⟨vp1, vp2, hm, th _ (fun F' g => ⟨fun _ => fin0 _ (h.gd g).gr, fun y => absurd rfl y⟩)⟩)⟩
  refine ⟨fun _ => ?_, fun _ => ?_⟩
  · exact ⟨vp1, hx, call_music C gt.1 R _ (fun v F th => ⟨vp1, hm, th _ (fun F' g => ⟨fun _ => fin0 _ (h.gd g).gr, fun y => absurd rfl y⟩)⟩)⟩
  refine ⟨fun _ => ?_, fun _ => ?_⟩
  · exact ⟨vp1, hx, call_runs C R _ (fun v F th => ⟨vp1, hm, th _ (fun F' g => ⟨fun _ => fin0 _ (h.gd g).gr, fun y => absurd rfl y⟩)⟩)⟩
  refine ⟨fun _ => ?_, fun _ => ?_⟩
  · exact ⟨vp1, hx, call_dodges C R _ (fun v F th => ⟨vp1, hm, th _ (fun F' g => ⟨fun _ => fin0 _ (h.gd g).gr, fun y => absurd rfl y⟩)⟩)⟩
  refine ⟨fun _ => ?_, fun _ => ?_⟩
  · exact ⟨vp1, hx, call_lies C R _ (fun v F th => ⟨vp1, hm, th _ (fun F' g => ⟨fun _ => fin0 _ (h.gd g).gr, fun y => absurd rfl y⟩)⟩)⟩
  refine ⟨fun _ => ?_, fun _ => ?_⟩
  · exact ⟨hx, call_backward C R (fun v F th => ⟨hm, th _ (fun F' g => ⟨fun _ => fin0 _ (h.gd g).gr, fun y => absurd rfl y⟩)⟩)⟩
  refine ⟨fun _ => ?_, fun _ => ?_⟩
  · exact ⟨vp1, vp2, hx, call_heard C R _ _ (fun v F th => ⟨vp1, vp2, hm, th _ (fun F' g => ⟨fun _ => fin0 _ (h.gd g).gr, fun y => absurd rfl y⟩)⟩)⟩
  refine ⟨fun _ => ?_, fun _ => ?_⟩
  · obtain ⟨c1, s1, hc1, hs1, hbd, hpot⟩ := bud (Rch := M.2.2.2 ≠ none) (len := len) n4 n8
    refine ⟨hx, c1, s1, by omega, by omega, call_heardAlike C R stc hbd (fun v S1 a' len' p' hr E th => ⟨(E.1 m km).1.trans hm, th _ (fun F' q' k e h1 h2 sm => ⟨fun _ => ?_, fun y => absurd rfl y⟩)⟩)⟩
    have hp2 := hpot len' E.le.1 hr
    have hp3 := E.le.2
    exact fin _ q' len' p' ls _ _ (h.zs E k e sm).gr (by omega) (by omega) (by omega) (by omega)
  refine ⟨fun _ => ?_, fun _ => ?_⟩
  · exact ⟨hx, call_evens C R (fun v s J th => ⟨hm, th _ (fun F' J' k e a0 je => ⟨fun _ => fin0 _ (h.wr k e a0 (by decide) je).gr, fun y => absurd rfl y⟩)⟩)⟩
  refine ⟨fun _ => ?_, fun _ => ?_⟩
  · exact ⟨vp1, vp2, hx, call_strayed C T _ _ (fun v s th => ⟨vp1, vp2, hm, th _ (fun F' k e a0 => ⟨fun _ => fin0 _ (h.wr (J := gJ S) (J' := gJ S) k e a0 (by decide) (Or.inl ⟨rfl, rfl⟩)).gr, fun y => absurd rfl y⟩)⟩)⟩
  refine ⟨fun _ => ?_, fun _ => ?_⟩
  · exact ⟨vp1, vp2, vp3, hx, call_odds C T _ _ _ (fun v s J th => ⟨vp1, vp2, vp3, hm, th _ (fun F' J' k e a0 je => ⟨fun _ => fin0 _ (h.wr k e a0 (by decide) je).gr, fun y => absurd rfl y⟩)⟩)⟩
  refine ⟨fun _ => ?_, fun _ => ?_⟩
  · obtain ⟨c1, s1, hc1, hs1, hbd, hpot⟩ := bud (Rch := ∃ k, k < fac (bn M.2.1) ∧ xs (nI (6 * j) + 1).toNatClampNeg = nI k) (len := ls) n4 n8
    refine ⟨vp1, hx, 2 * c1 + 1, 2 * s1 + 12602, by omega, by omega, call_way C ge.1 ge.2.1 ge.2.2.1 ge.2.2.2.1 gm.2.2.2 (by omega) dj (fun e he => ?_) (fun f hf g hg => aml hf (ge.2.2.2.2.2 g hg) (by decide)) _ (fun hr => ?_) (fun v S1 sa1 len1 wl1 hr fr xk fs hX hl hO th => ⟨vp1, (fr m km).1.trans hm, th _ (fun F' q' k e h1 h2 sm wy => ⟨fun _ => ?_, fun y => absurd rfl y⟩)⟩)⟩
    · rintro (e1 | ⟨f, hf, e1⟩)
      · exact iml he ge.2.2.2.2.1 (by decide) e1
      · exact iml he (ge.2.2.2.2.2 f hf) (by decide) e1
    · rcases hbd hr with y | ⟨y1, y2⟩
      · exact Or.inl ⟨y, by omega, by omega⟩
      · exact Or.inr ⟨by omega, by omega⟩
    · have hp2 := hpot len1 (by rcases hl with y | ⟨y, -⟩ <;> omega) hr
      exact fin _ q' len p len1 _ _ (h.wy fr xk fs hX hO k e sm wy).gr (by omega) (by omega) (by omega) (by omega)
  refine ⟨fun _ => ?_, fun _ => ?_⟩
  · exact ⟨vp1, vp2, hx, call_wayAt C ge.1 ge.2.1 ge.2.2.2.1 _ _ (fun v F th => ⟨vp1, vp2, hm, th _ (fun F' g => ⟨fun _ => fin0 _ (h.gd g).gr, fun y => absurd rfl y⟩)⟩)⟩
  refine ⟨fun _ => ?_, fun _ => ?_⟩
  · obtain ⟨c1, s1, hc1, hs1, hbd, hpot⟩ := bud (Rch := True) (len := ls) n4 n8
    refine ⟨hx, 2 * c1, 2 * s1, by omega, by omega, call_extent C ge.1 ge.2.1 ge.2.2.1 ge.2.2.2.1 gm.2.2.2 (by omega) dj (fun e he => ?_) (fun f hf g hg => aml hf (ge.2.2.2.2.2 g hg) (by decide)) ?_ (fun v S1 sa1 len1 hr fr xk fs hX hl hO th => ⟨(fr m km).1.trans hm, th _ (fun F' q' k e h1 h2 sm wy => ⟨fun _ => ?_, fun y => absurd rfl y⟩)⟩)⟩
    · rintro (e1 | ⟨f, hf, e1⟩)
      · exact iml he ge.2.2.2.2.1 (by decide) e1
      · exact iml he (ge.2.2.2.2.2 f hf) (by decide) e1
    · rcases hbd trivial with y | ⟨y1, y2⟩
      · exact Or.inl y
      · exact Or.inr ⟨by omega, by omega⟩
    · have hp2 := hpot len1 (by rcases hl with y | ⟨y, -⟩ <;> omega) (fun _ => hr)
      exact fin _ q' len p len1 _ _ (h.wy fr xk fs hX hO k e sm wy).gr (by omega) (by omega) (by omega) (by omega)
  refine ⟨fun _ => ?_, fun _ => ?_⟩
  · obtain ⟨c1, s1, hc1, hs1, hbd, hpot⟩ := bud (Rch := rcc M.2.1 (xs (nI (6 * j) + 1).toNatClampNeg) (xs (nI (6 * j) + 2).toNatClampNeg) (xs (nI (6 * j) + 3).toNatClampNeg)) (len := len) n4 n8
    refine ⟨vp1, vp2, vp3, hx, c1, s1, by omega, by omega, call_compositions C gs.1 gs.2.1 p31 gc.1 gc.2.1 gc.2.2.1 dj (fun e he => ?_) (fun f hf => ⟨aml hf gs.2.2.2 (by decide), fun g hg => aml hf (gc.2.2.2.2 g hg) (by decide)⟩) (fun f hf => lne gs.2.2.2 (gc.2.2.2.2 f hf) (by decide)) _ _ _ hbd (fun v S1 a' len' p' hr fr xk hc sx hp' cx th => ⟨vp1, vp2, vp3, (fr m km).1.trans hm, th _ (fun F' k e co => ⟨fun _ => ?_, fun y => absurd rfl y⟩)⟩)⟩
    · rintro (e1 | e1 | e1 | e1 | ⟨f, hf, e1⟩)
      · exact iml he ox (by decide) e1
      · exact iml he gs.2.2.1 (by decide) e1
      · exact iml he gs.2.2.2 (by decide) e1
      · exact iml he gc.2.2.2.1 (by decide) e1
      · exact iml he (gc.2.2.2.2 f hf) (by decide) e1
    · have hle : len ≤ len' := by
        rcases hc with ⟨-, y⟩ | y
        · omega
        · have := y.2; omega
      have hp2 := hpot len' hle hr
      exact fin _ q len' p' ls _ _ (h.cp fr xk hc sx cx k e co).gr (by omega) (by omega) (by omega) (by omega)
  refine ⟨fun _ => ?_, fun _ => ?_⟩
  · exact ⟨vp1, hx, call_callAt C gc.1 gc.2.1 gc.2.2.1 _ (fun v F th => ⟨vp1, hm, th _ (fun F' g => ⟨fun _ => fin0 _ (h.gd g).gr, fun y => absurd rfl y⟩)⟩)⟩
  refine ⟨fun _ => ?_, fun _ => ?_⟩
  · exact ⟨hx, call_mark C T R nm gk.1 dj (fun e he => ⟨iml he gk.2.1 (by decide), iml he gk.2.2.1 (by decide), iml he gk.2.2.2 (by decide)⟩) (fun v F R' f1 f2 f3 th => ⟨hm, th _ (fun F' J' c' Ms' k e a0 j1 j2 mk' => ⟨fun _ => fin0 _ (h.mr f1 f2 f3 k e a0 j1 j2 mk').gr, fun y => absurd rfl y⟩)⟩)⟩
  refine ⟨fun _ => ?_, fun _ => ?_⟩
  · exact ⟨hx, call_back C T R nm gk.1 dj (fun e he => ⟨iml he gk.2.1 (by decide), iml he gk.2.2.1 (by decide), iml he gk.2.2.2 (by decide)⟩) (fun v F R' f1 f2 f3 f4 th => ⟨hm, th _ (fun F' J' c' b' B' ot' o' k e a0 j1 j2 mk' C' T' R'' N' _ => ⟨fun _ => fin0 _ (h.bk f1 f2 f3 f4 k e j1 mk' C' T' R'' N').gr, fun y => absurd rfl y⟩)⟩)⟩
  exact fin0 _ h.gr
