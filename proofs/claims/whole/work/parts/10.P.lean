set_option maxRecDepth 100000 in
def P_X7_wordOf (p0 : Nat) (Q : Int64 → Prop) : Prop :=
  (∃ I_1 : Nat → Int64 → Int32 → Prop, (∃ k : Nat, I_1 k 0 0) ∧ ∀ (n_1 : Nat) (x1_2 : Int64) (x3_3 : Int32), I_1 n_1 x1_2 x3_3 → 
   (p0 < 13 ∧ (((nI (sLen.getD p0 0)) ≤ x3_3 → Q x1_2) ∧ (¬ (nI (sLen.getD p0 0)) ≤ x3_3 → (p0 < 13 ∧ (vp_in x3_3 (sLen.getD p0 0) ∧ 
        (∀ v_8 : Int64, v_8 = (x1_2 * 27) + ((((sCh p0 x3_3) - 97) + 1).toInt64) → (∀ v_9 : Int32, v_9 = x3_3 + 1 → 
          (∃ k : Nat, k < n_1 ∧ I_1 k v_8 v_9)))))))))
set_option maxRecDepth 100000 in
def P_X7_init (th : Nat) (S : St) (bc bs : Nat) (Q : St → Prop) : Prop :=
  (kd S th = 7 ∧ (1 ≤ bc ∧ (900 ≤ bs ∧ (∀ q_1 : Nat, kd S q_1 = 0 → ∀ S_1 : St, S_1 = alo S q_1 20 900 → (kd S_1 th = 7 ∧ 
       (∀ R_5 : Nat → Nat → Option Nat, R_5 = upR (gR S_1) th 0 (some q_1) → (∀ F_6 : Nat → Nat → Int32, F_6 = upI (gI S_1) th 1 0 → 
         (1 ≤ bc - 1 ∧ (12 ≤ bs - 900 ∧ (∀ q_7 : Nat, kd S_1 q_7 = 0 → ∀ S_7 : St, S_7 = alo (wA S_1 F_6 (gJ S_1) R_5) q_7 22 12 → 
            (kd S_7 th = 7 ∧ (∀ R_11 : Nat → Nat → Option Nat, R_11 = upR (gR S_7) th 2 (some q_7) → (∀ F_12 : Nat → 
               Nat → Int32, F_12 = upI (gI S_7) th 3 0 → (∀ F_13 : Nat → Nat → Int32, F_13 = upI F_12 th 4 0 → 
                (∀ F_14 : Nat → Nat → Int32, F_14 = upI F_13 th 5 0 → (∀ F_15 : Nat → Nat → Int32, F_15 = upI F_14 th 6 1 → 
                  (∀ F_16 : Nat → Nat → Int32, F_16 = upI F_15 th 7 0 → (∀ J_17 : Nat → Nat → Int64, J_17 = upJ (gJ S_7) th 8 0 → 
                    (∀ F_18 : Nat → Nat → Int32, F_18 = upI F_16 th 9 (-1) → (∀ F_19 : Nat → Nat → Int32, F_19 = upI F_18 th 10 (-1) → 
                      (∃ a_20 : Nat, R_11 th 2 = some a_20 ∧ (P_X7_wordOf 0 (fun (r_21 : Int64) => (kd S_7 a_20 = 22 ∧ 
                          (vp_in 0 (ln S_7 a_20) ∧ (∀ J_24 : Nat → Nat → Int64, J_24 = upJ J_17 a_20 0 r_21 → (P_X7_wordOf 1 (fun (r_25 : Int64) => (vp_in 1 (ln S_7 a_20) ∧ 
                               (∀ J_27 : Nat → Nat → Int64, J_27 = upJ J_24 a_20 1 r_25 → (P_X7_wordOf 2 (fun (r_28 : Int64) => (vp_in 2 (ln S_7 a_20) ∧ 
                                   (∀ J_30 : Nat → Nat → Int64, J_30 = upJ J_27 a_20 2 r_28 → (P_X7_wordOf 3 (fun (r_31 : Int64) => (vp_in 3 (ln S_7 a_20) ∧ 
                                       (∀ J_33 : Nat → Nat → Int64, J_33 = upJ J_30 a_20 3 r_31 → (P_X7_wordOf 4 (fun (r_34 : Int64) => (vp_in 4 (ln S_7 a_20) ∧ 
   (∀ J_36 : Nat → Nat → Int64, J_36 = upJ J_33 a_20 4 r_34 → (P_X7_wordOf 5 (fun (r_37 : Int64) => (vp_in 5 (ln S_7 a_20) ∧ 
       (∀ J_39 : Nat → Nat → Int64, J_39 = upJ J_36 a_20 5 r_37 → (P_X7_wordOf 6 (fun (r_40 : Int64) => (vp_in 6 (ln S_7 a_20) ∧ 
           (∀ J_42 : Nat → Nat → Int64, J_42 = upJ J_39 a_20 6 r_40 → (P_X7_wordOf 7 (fun (r_43 : Int64) => (vp_in 7 (ln S_7 a_20) ∧ 
               (∀ J_45 : Nat → Nat → Int64, J_45 = upJ J_42 a_20 7 r_43 → (P_X7_wordOf 8 (fun (r_46 : Int64) => (vp_in 8 (ln S_7 a_20) ∧ 
                   (∀ J_48 : Nat → Nat → Int64, J_48 = upJ J_45 a_20 8 r_46 → (P_X7_wordOf 9 (fun (r_49 : Int64) => (vp_in 9 (ln S_7 a_20) ∧ 
                       (∀ J_51 : Nat → Nat → Int64, J_51 = upJ J_48 a_20 9 r_49 → (P_X7_wordOf 10 (fun (r_52 : Int64) => (vp_in 10 (ln S_7 a_20) ∧ 
                           (∀ J_54 : Nat → Nat → Int64, J_54 = upJ J_51 a_20 10 r_52 → (P_X7_wordOf 11 (fun (r_55 : Int64) => (vp_in 11 (ln S_7 a_20) ∧ 
                               (∀ J_57 : Nat → Nat → Int64, J_57 = upJ J_54 a_20 11 r_55 → Q (wA S_7 F_19 J_57 R_11)))))))))))))))))))))))))))))))))))))))))))))))))))))))))))))))))))))))
set_option maxRecDepth 100000 in
def P_X1_init (th : Nat) (p0 : Nat) (S : St) (bc bs : Nat) (Q : St → Prop) : Prop :=
  (kd S th = 2 ∧ (∀ F_1 : Nat → Nat → Int32, F_1 = upI (gI S) th 1 4 → (∀ F_2 : Nat → Nat → Int32, F_2 = upI F_1 th 2 0 → 
     (∀ F_3 : Nat → Nat → Int32, F_3 = upI F_2 th 3 0 → (∀ F_4 : Nat → Nat → Int32, F_4 = upI F_3 th 4 0 → (∀ F_5 : Nat → 
        Nat → Int32, F_5 = upI F_4 th 5 (-1) → (1 ≤ bc ∧ (12 ≤ bs ∧ (∀ q_6 : Nat, kd S q_6 = 0 → ∀ S_6 : St, S_6 = alo (wI S F_5) q_6 22 12 → 
           (kd S_6 th = 2 ∧ (∀ R_10 : Nat → Nat → Option Nat, R_10 = upR (gR S_6) th 6 (some q_6) → (1 ≤ bc - 1 ∧ 
              (4 ≤ bs - 12 ∧ (∀ q_11 : Nat, kd S_6 q_11 = 0 → ∀ S_11 : St, S_11 = alo (wA S_6 (gI S_6) (gJ S_6) R_10) q_11 22 4 → 
                (kd S_11 th = 2 ∧ (∀ R_15 : Nat → Nat → Option Nat, R_15 = upR (gR S_11) th 7 (some q_11) → (5 ≤ bc - 2 ∧ 
                   (132 ≤ bs - 16 ∧ (∀ (q_16 : Nat) (rr_16 : Nat → Nat), kd S_11 q_16 = 0 → (∀ i, i < 4 → kd S_11 (rr_16 i) = 0 ∧ 
                      rr_16 i ≠ q_16) → (∀ i j, i < 4 → j < 4 → rr_16 i = rr_16 j → i = j) → ∀ S_16 : St, S_16 = mnaS (wA S_11 (gI S_11) (gJ S_11) R_15) q_16 rr_16 4 32 → 
                     (kd S_16 th = 2 ∧ (∀ R_20 : Nat → Nat → Option Nat, R_20 = upR (gR S_16) th 8 (some q_16) → 
                       (1 ≤ bc - 7 ∧ (4 ≤ bs - 148 ∧ (∀ q_21 : Nat, kd S_16 q_21 = 0 → ∀ S_21 : St, S_21 = alo (wA S_16 (gI S_16) (gJ S_16) R_20) q_21 21 4 → 
                          (kd S_21 th = 2 ∧ (∀ R_25 : Nat → Nat → Option Nat, R_25 = upR (gR S_21) th 9 (some q_21) → 
                            (1 ≤ bc - 8 ∧ (4 ≤ bs - 152 ∧ (∀ q_26 : Nat, kd S_21 q_26 = 0 → ∀ S_26 : St, S_26 = alo (wA S_21 (gI S_21) (gJ S_21) R_25) q_26 21 4 → 
                               (kd S_26 th = 2 ∧ (∀ R_30 : Nat → Nat → Option Nat, R_30 = upR (gR S_26) th 10 (some q_26) → 
                                 (1 ≤ bc - 9 ∧ (4 ≤ bs - 156 ∧ (∀ q_31 : Nat, kd S_26 q_31 = 0 → ∀ S_31 : St, S_31 = alo (wA S_26 (gI S_26) (gJ S_26) R_30) q_31 21 4 → 
                                    (kd S_31 th = 2 ∧ (∀ R_35 : Nat → Nat → Option Nat, R_35 = upR (gR S_31) th 11 (some q_31) → 
                                      (∀ R_36 : Nat → Nat → Option Nat, R_36 = upR R_35 th 0 (some p0) → Q (wA S_31 (gI S_31) (gJ S_31) R_36))))))))))))))))))))))))))))))))))))))
set_option maxRecDepth 100000 in
def P_X9_init (th : Nat) (p0 : Nat) (S : St) (bc bs : Nat) (Q : St → Prop) : Prop :=
  (kd S th = 9 ∧ (∀ F_1 : Nat → Nat → Int32, F_1 = upI (gI S) th 1 0 → (∀ F_2 : Nat → Nat → Int32, F_2 = upI F_1 th 2 0 → 
     (∀ F_3 : Nat → Nat → Int32, F_3 = upI F_2 th 3 0 → (1 ≤ bc ∧ (60 ≤ bs ∧ (∀ q_4 : Nat, kd S q_4 = 0 → ∀ S_4 : St, S_4 = alo (wI S F_3) q_4 21 60 → 
         (kd S_4 th = 9 ∧ (∀ R_8 : Nat → Nat → Option Nat, R_8 = upR (gR S_4) th 4 (some q_4) → (1 ≤ bc - 1 ∧ (60 ≤ bs - 60 ∧ 
             (∀ q_9 : Nat, kd S_4 q_9 = 0 → ∀ S_9 : St, S_9 = alo (wA S_4 (gI S_4) (gJ S_4) R_8) q_9 21 60 → (kd S_9 th = 9 ∧ 
               (∀ R_13 : Nat → Nat → Option Nat, R_13 = upR (gR S_9) th 5 (some q_9) → (1 ≤ bc - 2 ∧ (60 ≤ bs - 120 ∧ 
                  (∀ q_14 : Nat, kd S_9 q_14 = 0 → ∀ S_14 : St, S_14 = alo (wA S_9 (gI S_9) (gJ S_9) R_13) q_14 24 60 → 
                   (kd S_14 th = 9 ∧ (∀ R_18 : Nat → Nat → Option Nat, R_18 = upR (gR S_14) th 6 (some q_14) → 
                     (1 ≤ bc - 3 ∧ (3 ≤ bs - 180 ∧ (∀ q_19 : Nat, kd S_14 q_19 = 0 → ∀ S_19 : St, S_19 = alo (wA S_14 (gI S_14) (gJ S_14) R_18) q_19 21 3 → 
                        (kd S_19 th = 9 ∧ (∀ R_23 : Nat → Nat → Option Nat, R_23 = upR (gR S_19) th 7 (some q_19) → 
                          (1 ≤ bc - 4 ∧ (3 ≤ bs - 183 ∧ (∀ q_24 : Nat, kd S_19 q_24 = 0 → ∀ S_24 : St, S_24 = alo (wA S_19 (gI S_19) (gJ S_19) R_23) q_24 21 3 → 
                             (kd S_24 th = 9 ∧ (∀ R_28 : Nat → Nat → Option Nat, R_28 = upR (gR S_24) th 8 (some q_24) → 
                               (1 ≤ bc - 5 ∧ (2000 ≤ bs - 186 ∧ (∀ q_29 : Nat, kd S_24 q_29 = 0 → ∀ S_29 : St, S_29 = alo (wA S_24 (gI S_24) (gJ S_24) R_28) q_29 21 2000 → 
                                  (kd S_29 th = 9 ∧ (∀ R_33 : Nat → Nat → Option Nat, R_33 = upR (gR S_29) th 9 (some q_29) → 
                                    (∀ F_34 : Nat → Nat → Int32, F_34 = upI (gI S_29) th 10 0 → (∀ R_35 : Nat → 
                                      Nat → Option Nat, R_35 = upR R_33 th 0 (some p0) → Q (wA S_29 F_34 (gJ S_29) R_35)))))))))))))))))))))))))))))))))))))
set_option maxRecDepth 100000 in
def P_X4_allBells (p0 : Int32) (Q : Int32 → Prop) : Prop :=
  Q ((shl 1 p0) - 1)
set_option maxRecDepth 100000 in
def P_X4_many (p0 : Int32) (Q : Int32 → Prop) : Prop :=
  ((p0 < 0 → Q 0) ∧ (¬ p0 < 0 → ((9 ≤ p0 → Q 0) ∧ (¬ 9 ≤ p0 → (vp_in p0 9 ∧ Q (facs.getD p0.toNatClampNeg 0))))))
set_option maxRecDepth 100000 in
def P_X0_init (th : Nat) (p0 : Int32) (p1 : Int32) (p2 : Nat) (S : St) (Q : (Nat → Nat → Int32) → (Nat → Nat → Option Nat) → Prop) : Prop :=
  (kd S th = 1 ∧ (∀ F_1 : Nat → Nat → Int32, F_1 = upI (gI S) th 0 p0 → (P_X4_many p0 (fun (r_2 : Int32) => (∀ F_3 : Nat → 
       Nat → Int32, F_3 = upI F_1 th 1 r_2 → (∀ F_4 : Nat → Nat → Int32, F_4 = upI F_3 th 2 p1 → (∀ R_5 : Nat → 
         Nat → Option Nat, R_5 = upR (gR S) th 3 (some p2) → Q F_4 R_5)))))))
set_option maxRecDepth 100000 in
def P_X6_init (th : Nat) (S : St) (bc bs : Nat) (Q : St → Prop) : Prop :=
  (kd S th = 6 ∧ (1 ≤ bc ∧ (0 ≤ bs ∧ (∀ q_1 : Nat, kd S q_1 = 0 → ∀ S_1 : St, S_1 = alo S q_1 21 0 → (kd S_1 th = 6 ∧ 
       (∀ R_5 : Nat → Nat → Option Nat, R_5 = upR (gR S_1) th 0 (some q_1) → (∀ F_6 : Nat → Nat → Int32, F_6 = upI (gI S_1) th 1 0 → 
         Q (wA S_1 F_6 (gJ S_1) R_5))))))))
set_option maxRecDepth 100000 in
def P_X5_init (th : Nat) (S : St) (bc bs : Nat) (Q : St → Prop) : Prop :=
  (kd S th = 5 ∧ (∀ R_1 : Nat → Nat → Option Nat, R_1 = upR (gR S) th 0 none → (1 ≤ bc ∧ (0 ≤ bs ∧ (∀ q_2 : Nat, kd S q_2 = 0 → 
       ∀ S_2 : St, S_2 = alo (wA S (gI S) (gJ S) R_1) q_2 21 0 → (kd S_2 th = 5 ∧ (∀ R_6 : Nat → Nat → Option Nat, R_6 = upR (gR S_2) th 1 (some q_2) → 
         (1 ≤ bc - 1 ∧ (0 ≤ bs - 0 ∧ (∀ q_7 : Nat, kd S_2 q_7 = 0 → ∀ S_7 : St, S_7 = alo (wA S_2 (gI S_2) (gJ S_2) R_6) q_7 21 0 → 
            (kd S_7 th = 5 ∧ (∀ R_11 : Nat → Nat → Option Nat, R_11 = upR (gR S_7) th 2 (some q_7) → (1 ≤ bc - 2 ∧ 
               (12 ≤ bs - 0 ∧ (∀ q_12 : Nat, kd S_7 q_12 = 0 → ∀ S_12 : St, S_12 = alo (wA S_7 (gI S_7) (gJ S_7) R_11) q_12 21 12 → 
                 (kd S_12 th = 5 ∧ (∀ R_16 : Nat → Nat → Option Nat, R_16 = upR (gR S_12) th 3 (some q_12) → (1 ≤ bc - 3 ∧ 
                    (12 ≤ bs - 12 ∧ (∀ q_17 : Nat, kd S_12 q_17 = 0 → ∀ S_17 : St, S_17 = alo (wA S_12 (gI S_12) (gJ S_12) R_16) q_17 21 12 → 
                      (kd S_17 th = 5 ∧ (∀ R_21 : Nat → Nat → Option Nat, R_21 = upR (gR S_17) th 4 (some q_17) → 
                        (∀ F_22 : Nat → Nat → Int32, F_22 = upI (gI S_17) th 5 0 → (∀ F_23 : Nat → Nat → Int32, F_23 = upI F_22 th 6 0 → 
                          (1 ≤ bc - 4 ∧ (32 ≤ bs - 24 ∧ (∀ q_24 : Nat, kd S_17 q_24 = 0 → ∀ S_24 : St, S_24 = alo (wA S_17 F_23 (gJ S_17) R_21) q_24 21 32 → 
                             (kd S_24 th = 5 ∧ (∀ R_28 : Nat → Nat → Option Nat, R_28 = upR (gR S_24) th 7 (some q_24) → 
                               (∀ F_29 : Nat → Nat → Int32, F_29 = upI (gI S_24) th 8 0 → Q (wA S_24 F_29 (gJ S_24) R_28)))))))))))))))))))))))))))))))
set_option maxRecDepth 100000 in
def P_X2_init (th : Nat) (S : St) (bc bs : Nat) (Q : St → Prop) : Prop :=
  (kd S th = 3 ∧ (1 ≤ bc ∧ (8 ≤ bs ∧ (∀ q_1 : Nat, kd S q_1 = 0 → ∀ S_1 : St, S_1 = alo S q_1 21 8 → (kd S_1 th = 3 ∧ 
       (∀ R_5 : Nat → Nat → Option Nat, R_5 = upR (gR S_1) th 0 (some q_1) → (1 ≤ bc - 1 ∧ (8 ≤ bs - 8 ∧ (∀ q_6 : Nat, kd S_1 q_6 = 0 → 
           ∀ S_6 : St, S_6 = alo (wA S_1 (gI S_1) (gJ S_1) R_5) q_6 21 8 → (kd S_6 th = 3 ∧ (∀ R_10 : Nat → Nat → 
             Option Nat, R_10 = upR (gR S_6) th 1 (some q_6) → (1 ≤ bc - 2 ∧ (8 ≤ bs - 16 ∧ (∀ q_11 : Nat, kd S_6 q_11 = 0 → 
                ∀ S_11 : St, S_11 = alo (wA S_6 (gI S_6) (gJ S_6) R_10) q_11 21 8 → (kd S_11 th = 3 ∧ (∀ R_15 : Nat → 
                  Nat → Option Nat, R_15 = upR (gR S_11) th 2 (some q_11) → (1 ≤ bc - 3 ∧ (8 ≤ bs - 24 ∧ (∀ q_16 : Nat, kd S_11 q_16 = 0 → 
                     ∀ S_16 : St, S_16 = alo (wA S_11 (gI S_11) (gJ S_11) R_15) q_16 21 8 → (kd S_16 th = 3 ∧ (∀ R_20 : Nat → 
                       Nat → Option Nat, R_20 = upR (gR S_16) th 3 (some q_16) → (∀ F_21 : Nat → Nat → Int32, F_21 = upI (gI S_16) th 4 0 → 
                        (∀ F_22 : Nat → Nat → Int32, F_22 = upI F_21 th 5 0 → Q (wA S_16 F_22 (gJ S_16) R_20))))))))))))))))))))))))
set_option maxRecDepth 100000 in
def P_X11_init (th : Nat) (S : St) (bc bs : Nat) (Q : St → Prop) : Prop :=
  (kd S th = 11 ∧ (∀ F_1 : Nat → Nat → Int32, F_1 = upI (gI S) th 0 0 → (∀ J_2 : Nat → Nat → Int64, J_2 = upJ (gJ S) th 1 0 → 
     (∀ J_3 : Nat → Nat → Int64, J_3 = upJ J_2 th 2 1 → (1 ≤ bc ∧ (4 ≤ bs ∧ (∀ q_4 : Nat, kd S q_4 = 0 → ∀ S_4 : St, S_4 = alo (wA S F_1 J_3 (gR S)) q_4 26 4 → 
         (kd S_4 th = 11 ∧ (∀ R_8 : Nat → Nat → Option Nat, R_8 = upR (gR S_4) th 3 (some q_4) → (1 ≤ bc - 1 ∧ 
            (11 ≤ bs - 4 ∧ (∀ q_9 : Nat, kd S_4 q_9 = 0 → ∀ S_9 : St, S_9 = alo (wA S_4 (gI S_4) (gJ S_4) R_8) q_9 7 0 → 
              (∃ c_12 s_12 : Nat, c_12 ≤ bc - 2 ∧ s_12 ≤ bs - 15 ∧ (P_X7_init q_9 S_9 c_12 s_12 (fun (S_13 : St) => (kd S_13 th = 11 ∧ 
                  (∀ R_15 : Nat → Nat → Option Nat, R_15 = upR (gR S_13) th 4 (some q_9) → (1 ≤ bc - 2 - c_12 ∧ 
                    (12 ≤ bs - 15 - s_12 ∧ (∀ q_16 : Nat, kd S_13 q_16 = 0 → ∀ S_16 : St, S_16 = alo (wA S_13 (gI S_13) (gJ S_13) R_15) q_16 2 0 → 
                      (kd S_16 th = 11 ∧ (∃ a_20 : Nat, gR S_16 th 4 = some a_20 ∧ (∃ c_21 s_21 : Nat, c_21 ≤ bc - 2 - c_12 - 1 ∧ 
                         s_21 ≤ bs - 15 - s_12 - 12 ∧ (P_X1_init q_16 a_20 S_16 c_21 s_21 (fun (S_22 : St) => (kd S_22 th = 11 ∧ 
                            (∀ R_24 : Nat → Nat → Option Nat, R_24 = upR (gR S_22) th 5 (some q_16) → (1 ≤ bc - 2 - c_12 - 1 - c_21 ∧ 
                              (11 ≤ bs - 15 - s_12 - 12 - s_21 ∧ (∀ q_25 : Nat, kd S_22 q_25 = 0 → ∀ S_25 : St, S_25 = alo (wA S_22 (gI S_22) (gJ S_22) R_24) q_25 9 0 → 
                                (kd S_25 th = 11 ∧ (∃ a_29 : Nat, gR S_25 th 4 = some a_29 ∧ (∃ c_30 s_30 : Nat, c_30 ≤ bc - 2 - c_12 - 1 - c_21 - 1 ∧ 
                                   s_30 ≤ bs - 15 - s_12 - 12 - s_21 - 11 ∧ (P_X9_init q_25 a_29 S_25 c_30 s_30 (fun (S_31 : St) => (kd S_31 th = 11 ∧ 
                                      (∀ R_33 : Nat → Nat → Option Nat, R_33 = upR (gR S_31) th 6 (some q_25) → 
                                       (1 ≤ bc - 2 - c_12 - 1 - c_21 - 1 - c_30 ∧ (4 ≤ bs - 15 - s_12 - 12 - s_21 - 11 - s_30 ∧ 
                                        (∀ q_34 : Nat, kd S_31 q_34 = 0 → ∀ S_34 : St, S_34 = alo (wA S_31 (gI S_31) (gJ S_31) R_33) q_34 1 0 → 
  (P_X4_allBells 4 (fun (r_37 : Int32) => (1 ≤ bc - 2 - c_12 - 1 - c_21 - 1 - c_30 - 1 ∧ (0 ≤ bs - 15 - s_12 - 12 - s_21 - 11 - s_30 - 4 ∧ 
      (∀ q_38 : Nat, kd S_34 q_38 = 0 → ∀ S_38 : St, S_38 = alo S_34 q_38 24 0 → (P_X0_init q_34 4 r_37 q_38 S_38 (fun (F_41 : Nat → 
          Nat → Int32) (R_41 : Nat → Nat → Option Nat) => (kd S_38 th = 11 ∧ (∀ R_43 : Nat → Nat → Option Nat, R_43 = upR R_41 th 7 (some q_34) → 
           (∀ R_44 : Nat → Nat → Option Nat, R_44 = upR R_43 th 8 none → (∀ R_45 : Nat → Nat → Option Nat, R_45 = upR R_44 th 9 none → 
             (1 ≤ bc - 2 - c_12 - 1 - c_21 - 1 - c_30 - 2 ∧ (3 ≤ bs - 15 - s_12 - 12 - s_21 - 11 - s_30 - 4 ∧ (∀ q_46 : Nat, kd S_38 q_46 = 0 → 
                ∀ S_46 : St, S_46 = alo (wA S_38 F_41 (gJ S_38) R_45) q_46 23 3 → (kd S_46 th = 11 ∧ (∀ R_50 : Nat → 
                  Nat → Option Nat, R_50 = upR (gR S_46) th 10 (some q_46) → (1 ≤ bc - 2 - c_12 - 1 - c_21 - 1 - c_30 - 3 ∧ 
                   (3 ≤ bs - 15 - s_12 - 12 - s_21 - 11 - s_30 - 7 ∧ (∀ q_51 : Nat, kd S_46 q_51 = 0 → ∀ S_51 : St, S_51 = alo (wA S_46 (gI S_46) (gJ S_46) R_50) q_51 25 3 → 
                     (kd S_51 th = 11 ∧ (∀ R_55 : Nat → Nat → Option Nat, R_55 = upR (gR S_51) th 11 (some q_51) → 
                       (1 ≤ bc - 2 - c_12 - 1 - c_21 - 1 - c_30 - 4 ∧ (3 ≤ bs - 15 - s_12 - 12 - s_21 - 11 - s_30 - 10 ∧ 
                         (∀ q_56 : Nat, kd S_51 q_56 = 0 → ∀ S_56 : St, S_56 = alo (wA S_51 (gI S_51) (gJ S_51) R_55) q_56 25 3 → 
                          (kd S_56 th = 11 ∧ (∀ R_60 : Nat → Nat → Option Nat, R_60 = upR (gR S_56) th 12 (some q_56) → 
                            (∀ F_61 : Nat → Nat → Int32, F_61 = upI (gI S_56) th 13 0 → (1 ≤ bc - 2 - c_12 - 1 - c_21 - 1 - c_30 - 5 ∧ 
                              (2 ≤ bs - 15 - s_12 - 12 - s_21 - 11 - s_30 - 13 ∧ (∀ q_62 : Nat, kd S_56 q_62 = 0 → 
                                ∀ S_62 : St, S_62 = alo (wA S_56 F_61 (gJ S_56) R_60) q_62 6 0 → (∃ c_65 s_65 : Nat, c_65 ≤ bc - 2 - c_12 - 1 - c_21 - 1 - c_30 - 6 ∧ 
                                 s_65 ≤ bs - 15 - s_12 - 12 - s_21 - 11 - s_30 - 15 ∧ (P_X6_init q_62 S_62 c_65 s_65 (fun (S_66 : St) => (kd S_66 th = 11 ∧ 
                                    (∀ R_68 : Nat → Nat → Option Nat, R_68 = upR (gR S_66) th 14 (some q_62) → 
                                     (1 ≤ bc - 2 - c_12 - 1 - c_21 - 1 - c_30 - 6 - c_65 ∧ (9 ≤ bs - 15 - s_12 - 12 - s_21 - 11 - s_30 - 15 - s_65 ∧ 
                                       (∀ q_69 : Nat, kd S_66 q_69 = 0 → ∀ S_69 : St, S_69 = alo (wA S_66 (gI S_66) (gJ S_66) R_68) q_69 5 0 → 
                                        (∃ c_72 s_72 : Nat, c_72 ≤ bc - 2 - c_12 - 1 - c_21 - 1 - c_30 - 6 - c_65 - 1 ∧ 
                                        s_72 ≤ bs - 15 - s_12 - 12 - s_21 - 11 - s_30 - 15 - s_65 - 9 ∧ (P_X5_init q_69 S_69 c_72 s_72 (fun (S_73 : St) => (kd S_73 th = 11 ∧ 
    (∀ R_75 : Nat → Nat → Option Nat, R_75 = upR (gR S_73) th 15 (some q_69) → (1 ≤ bc - 2 - c_12 - 1 - c_21 - 1 - c_30 - 6 - c_65 - 1 - c_72 ∧ 
      (6 ≤ bs - 15 - s_12 - 12 - s_21 - 11 - s_30 - 15 - s_65 - 9 - s_72 ∧ (∀ q_76 : Nat, kd S_73 q_76 = 0 → ∀ S_76 : St, S_76 = alo (wA S_73 (gI S_73) (gJ S_73) R_75) q_76 3 0 → 
        (∃ c_79 s_79 : Nat, c_79 ≤ bc - 2 - c_12 - 1 - c_21 - 1 - c_30 - 6 - c_65 - 1 - c_72 - 1 ∧ s_79 ≤ bs - 15 - s_12 - 12 - s_21 - 11 - s_30 - 15 - s_65 - 9 - s_72 - 6 ∧ 
         (P_X2_init q_76 S_76 c_79 s_79 (fun (S_80 : St) => (kd S_80 th = 11 ∧ (∀ R_82 : Nat → Nat → Option Nat, R_82 = upR (gR S_80) th 16 (some q_76) → 
             Q (wA S_80 (gI S_80) (gJ S_80) R_82))))))))))))))))))))))))))))))))))))))))))))))))))))))))))))))))))))))))))))))))))))))))))))
set_option maxRecDepth 100000 in
def P_X11_status (th : Nat) (S : St) (Q : Int32 → Prop) : Prop :=
  (kd S th = 11 ∧ Q (gI S th 0))
set_option maxRecDepth 100000 in
def P_X11_top (th : Nat) (S : St) (Q : Int64 → Prop) : Prop :=
  (kd S th = 11 ∧ Q (gJ S th 1))
set_option maxRecDepth 100000 in
def P_X11_bottom (th : Nat) (S : St) (Q : Int64 → Prop) : Prop :=
  (kd S th = 11 ∧ Q (gJ S th 2))
set_option maxRecDepth 100000 in
def P_X11_isTray (p0 : Int32) (Q : Int32 → Prop) : Prop :=
  ((p0 < 0 → Q 0) ∧ (¬ p0 < 0 → ((4 ≤ p0 → Q 0) ∧ (¬ 4 ≤ p0 → Q 1))))
set_option maxRecDepth 100000 in
def P_X11_deny (th : Nat) (p0 : Int32) (S : St) (Q : Int32 → (Nat → Nat → Int32) → Prop) : Prop :=
  (kd S th = 11 ∧ (∀ F_1 : Nat → Nat → Int32, F_1 = upI (gI S) th 0 p0 → Q 0 F_1))
set_option maxRecDepth 100000 in
def P_X10_init (th : Nat) (p0 : Int32) (p1 : Int32) (S : St) (bc bs : Nat) (Q : St → Prop) : Prop :=
  (kd S th = 10 ∧ (∀ F_1 : Nat → Nat → Int32, F_1 = upI (gI S) th 0 p0 → (¬ p1 < 0 ∧ (p1.toNatClampNeg * 8 ≤ 536870912 ∧ 
      (1 ≤ bc ∧ (p1.toNatClampNeg ≤ bs ∧ (∀ q_2 : Nat, kd S q_2 = 0 → ∀ S_2 : St, S_2 = alo (wI S F_1) q_2 22 p1.toNatClampNeg → 
         (kd S_2 th = 10 ∧ (∀ R_8 : Nat → Nat → Option Nat, R_8 = upR (gR S_2) th 1 (some q_2) → Q (wA S_2 (gI S_2) (gJ S_2) R_8))))))))))
set_option maxRecDepth 100000 in
def P_X11_grant (th : Nat) (S : St) (Q : Int32 → (Nat → Nat → Int32) → Prop) : Prop :=
  (kd S th = 11 ∧ (∀ F_1 : Nat → Nat → Int32, F_1 = upI (gI S) th 0 0 → Q 1 F_1))
set_option maxRecDepth 100000 in
def P_X11_tray (th : Nat) (p0 : Int32) (p1 : Int32) (p2 : Int32) (S : St) (bc bs : Nat) (Q : Int32 → St → Prop) : Prop :=
  (kd S th = 11 ∧ (P_X11_isTray p0 (fun (r_1 : Int32) => (∃ J_3 : Prop, (J_3 → (P_X11_deny th 1 S (fun (r_4 : Int32) (F_4 : Nat → 
          Nat → Int32) => ((r_4 = 0 ∨ r_4 = 1) ∧ Q r_4 (wI S F_4))))) ∧ ((r_1 = 0 → J_3) ∧ (¬ r_1 = 0 → ((p1 < 0 → 
          J_3) ∧ (¬ p1 < 0 → ((4 ≤ p1 → J_3) ∧ (¬ 4 ≤ p1 → ((p2 < 0 → J_3) ∧ (¬ p2 < 0 → ((p2 ≤ 60 → (∃ a_9 : Nat, gR S th 3 = some a_9 ∧ 
                 (1 ≤ bc ∧ (2 ≤ bs ∧ (∀ q_10 : Nat, kd S q_10 = 0 → ∀ S_10 : St, S_10 = alo S q_10 10 0 → (∃ c_13 s_13 : Nat, c_13 ≤ bc - 1 ∧ 
                     s_13 ≤ bs - 2 ∧ (P_X10_init q_10 p1 p2 S_10 c_13 s_13 (fun (S_14 : St) => (kd S_14 a_9 = 26 ∧ 
                        (vp_in p0 (ln S_14 a_9) ∧ (kd S_14 q_10 = 10 ∧ (∀ R_18 : Nat → Nat → Option Nat, R_18 = upR (gR S_14) a_9 p0.toNatClampNeg (some q_10) → 
                           (kd S_14 th = 11 ∧ (P_X11_grant th (wA S_14 (gI S_14) (gJ S_14) R_18) (fun (r_20 : Int32) (F_20 : Nat → 
                               Nat → Int32) => ((r_20 = 0 ∨ r_20 = 1) ∧ Q r_20 (wA S_14 F_20 (gJ S_14) R_18))))))))))))))))) ∧ 
               (¬ p2 ≤ 60 → J_3))))))))))))))
set_option maxRecDepth 100000 in
def P_X10_has (th : Nat) (p0 : Int32) (p1 : Int32) (S : St) (Q : Int32 → Prop) : Prop :=
  (kd S th = 10 ∧ ((p0 < 0 → Q 0) ∧ (¬ p0 < 0 → (∃ a_2 : Nat, gR S th 1 = some a_2 ∧ (kd S a_2 = 22 ∧ (((nI (ln S a_2)) < p0 → 
         Q 0) ∧ (¬ (nI (ln S a_2)) < p0 → ((((nI (ln S a_2)) - p0) < p1 → Q 0) ∧ (¬ ((nI (ln S a_2)) - p0) < p1 → 
           Q 1)))))))))
set_option maxRecDepth 100000 in
def P_X11_whyNoPlace (th : Nat) (p0 : Int32) (p1 : Int32) (S : St) (Q : Int32 → Prop) : Prop :=
  (kd S th = 11 ∧ (P_X11_isTray p0 (fun (r_1 : Int32) => ((¬ r_1 = 0 → (∃ a_3 : Nat, gR S th 3 = some a_3 ∧ (kd S a_3 = 26 ∧ 
         (vp_in p0 (ln S a_3) ∧ ((¬ gR S a_3 p0.toNatClampNeg = none → (∃ a_7 : Nat, gR S a_3 p0.toNatClampNeg = some a_7 ∧ 
             (kd S a_7 = 10 ∧ (P_X10_has a_7 p1 1 S (fun (r_9 : Int32) => ((r_9 = 0 → Q 3) ∧ (¬ r_9 = 0 → Q 0))))))) ∧ 
           (gR S a_3 p0.toNatClampNeg = none → Q 2)))))) ∧ (r_1 = 0 → Q 1)))))
set_option maxRecDepth 100000 in
def P_X10_cut (p0 : Int64) (p1 : Int32) (Q : Int64 → Prop) : Prop :=
  ((p1 = 0 → Q p0.toInt32.toInt8.toInt32.toInt64) ∧ (¬ p1 = 0 → ((p1 = 1 → Q p0.toInt32.toInt16.toInt32.toInt64) ∧ 
     (¬ p1 = 1 → ((p1 = 2 → Q p0.toInt32.toInt64) ∧ (¬ p1 = 2 → Q p0))))))
set_option maxRecDepth 100000 in
def P_X11_write (th : Nat) (p0 : Int32) (p1 : Int32) (p2 : Int64) (S : St) (Q : Int32 → (Nat → Nat → Int32) → (Nat → Nat → Int64) → Prop) : Prop :=
  (kd S th = 11 ∧ (P_X11_whyNoPlace th p0 p1 S (fun (r_1 : Int32) => ((r_1 = 0 → (∃ a_3 : Nat, gR S th 3 = some a_3 ∧ 
        (kd S a_3 = 26 ∧ (vp_in p0 (ln S a_3) ∧ (∃ a_6 : Nat, gR S a_3 p0.toNatClampNeg = some a_6 ∧ (kd S a_6 = 10 ∧ 
            (∃ a_8 : Nat, gR S a_6 1 = some a_8 ∧ (P_X10_cut p2 (gI S a_6 0) (fun (r_9 : Int64) => (kd S a_8 = 22 ∧ 
                (vp_in p1 (ln S a_8) ∧ (∀ J_12 : Nat → Nat → Int64, J_12 = upJ (gJ S) a_8 p1.toNatClampNeg r_9 → 
                  (P_X11_grant th (wA S (gI S) J_12 (gR S)) (fun (r_13 : Int32) (F_13 : Nat → Nat → Int32) => ((r_13 = 0 ∨ r_13 = 1) ∧ 
                     Q r_13 F_13 J_12))))))))))))))) ∧ (¬ r_1 = 0 → (P_X11_deny th r_1 S (fun (r_14 : Int32) (F_14 : Nat → 
          Nat → Int32) => ((r_14 = 0 ∨ r_14 = 1) ∧ Q r_14 F_14 (gJ S)))))))))
set_option maxRecDepth 100000 in
def P_X11_refuse (th : Nat) (p0 : Int32) (S : St) (Q : Int32 → (Nat → Nat → Int32) → Prop) : Prop :=
  (kd S th = 11 ∧ (∀ F_1 : Nat → Nat → Int32, F_1 = upI (gI S) th 0 p0 → Q (-1) F_1))
set_option maxRecDepth 100000 in
def P_X11_read (th : Nat) (p0 : Int32) (p1 : Int32) (S : St) (Q : Int64 → (Nat → Nat → Int32) → Prop) : Prop :=
  (kd S th = 11 ∧ (P_X11_whyNoPlace th p0 p1 S (fun (r_1 : Int32) => ((r_1 = 0 → (∀ F_3 : Nat → Nat → Int32, F_3 = upI (gI S) th 0 0 → 
        (∃ a_4 : Nat, gR S th 3 = some a_4 ∧ (kd S a_4 = 26 ∧ (vp_in p0 (ln S a_4) ∧ (∃ a_7 : Nat, gR S a_4 p0.toNatClampNeg = some a_7 ∧ 
            (kd S a_7 = 10 ∧ (∃ a_9 : Nat, gR S a_7 1 = some a_9 ∧ (kd S a_9 = 22 ∧ (vp_in p1 (ln S a_9) ∧ Q (gJ S a_9 p1.toNatClampNeg) F_3)))))))))) ∧ 
      (¬ r_1 = 0 → (P_X11_refuse th r_1 S (fun (r_12 : Int32) (F_12 : Nat → Nat → Int32) => Q r_12.toInt64 F_12)))))))
set_option maxRecDepth 100000 in
def P_X11_pour (th : Nat) (p0 : Int32) (p1 : Int32) (p2 : Int32) (p3 : Int32) (p4 : Int32) (S : St) (Q : Int32 → (Nat → Nat → Int32) → (Nat → Nat → Int64) → Prop) : Prop :=
  (kd S th = 11 ∧ (P_X11_isTray p0 (fun (r_1 : Int32) => (∃ J_3 : Prop, (J_3 → (P_X11_deny th 1 S (fun (r_4 : Int32) (F_4 : Nat → 
          Nat → Int32) => ((r_4 = 0 ∨ r_4 = 1) ∧ Q r_4 F_4 (gJ S))))) ∧ ((r_1 = 0 → J_3) ∧ (¬ r_1 = 0 → (P_X11_isTray p2 (fun (r_5 : Int32) => ((r_5 = 0 → 
            J_3) ∧ (¬ r_5 = 0 → ((p1 < 0 → J_3) ∧ (¬ p1 < 0 → ((p3 < 0 → J_3) ∧ (¬ p3 < 0 → ((0 ≤ p4 → (∃ a_10 : Nat, gR S th 3 = some a_10 ∧ 
                   (kd S a_10 = 26 ∧ (vp_in p0 (ln S a_10) ∧ (vp_in p2 (ln S a_10) ∧ (∃ J_15 : Prop, (J_15 → (P_X11_deny th 2 S (fun (r_16 : Int32) (F_16 : Nat → 
                           Nat → Int32) => ((r_16 = 0 ∨ r_16 = 1) ∧ Q r_16 F_16 (gJ S))))) ∧ ((gR S a_10 p0.toNatClampNeg = none → 
                         J_15) ∧ (¬ gR S a_10 p0.toNatClampNeg = none → ((¬ gR S a_10 p2.toNatClampNeg = none → 
                           (∃ a_18 : Nat, gR S a_10 p0.toNatClampNeg = some a_18 ∧ (kd S a_18 = 10 ∧ (∃ a_20 : Nat, gR S a_10 p2.toNatClampNeg = some a_20 ∧ 
                              (kd S a_20 = 10 ∧ (((gI S a_18 0) = (gI S a_20 0) → (P_X10_has a_18 p1 p4 S (fun (r_23 : Int32) => (∃ J_25 : Prop, (J_25 → 
                                     (P_X11_deny th 3 S (fun (r_26 : Int32) (F_26 : Nat → Nat → Int32) => ((r_26 = 0 ∨ r_26 = 1) ∧ 
                                        Q r_26 F_26 (gJ S))))) ∧ ((r_23 = 0 → J_25) ∧ (¬ r_23 = 0 → (P_X10_has a_20 p3 p4 S (fun (r_27 : Int32) => ((¬ r_27 = 0 → 
  (∃ a_29 : Nat, gR S a_18 1 = some a_29 ∧ (∃ a_30 : Nat, gR S a_20 1 = some a_30 ∧ (kd S a_29 = 22 ∧ (kd S a_30 = 22 ∧ 
      (¬ p1 < 0 ∧ (¬ p3 < 0 ∧ (¬ p4 < 0 ∧ (p1.toNatClampNeg + p4.toNatClampNeg ≤ ln S a_29 ∧ (p3.toNatClampNeg + p4.toNatClampNeg ≤ ln S a_30 ∧ 
           (∀ J_38 : Nat → Nat → Int64, J_38 = cpJf (gJ S) a_29 a_30 p1.toNatClampNeg p3.toNatClampNeg p4.toNatClampNeg → 
            (P_X11_grant th (wA S (gI S) J_38 (gR S)) (fun (r_39 : Int32) (F_39 : Nat → Nat → Int32) => ((r_39 = 0 ∨ r_39 = 1) ∧ 
               Q r_39 F_39 J_38)))))))))))))) ∧ (r_27 = 0 → J_25)))))))))) ∧ (¬ (gI S a_18 0) = (gI S a_20 0) → 
                                 (P_X11_deny th 8 S (fun (r_40 : Int32) (F_40 : Nat → Nat → Int32) => ((r_40 = 0 ∨ r_40 = 1) ∧ 
                                    Q r_40 F_40 (gJ S))))))))))) ∧ (gR S a_10 p2.toNatClampNeg = none → J_15)))))))))) ∧ 
                 (¬ 0 ≤ p4 → J_3))))))))))))))))
set_option maxRecDepth 100000 in
def P_X7_tapeInt (th : Nat) (p0 : Int32) (S : St) (Q : (Nat → Nat → Int32) → Prop) : Prop :=
  (kd S th = 7 ∧ (∃ I_1 : Nat → Int32 → (Nat → Nat → Int32) → Prop, (∃ k : Nat, I_1 k 24 (gI S)) ∧ ∀ (n_1 : Nat) (x2_2 : Int32) (F_3 : Nat → 
     Nat → Int32), I_1 n_1 x2_2 F_3 → ((x2_2 < 0 → Q F_3) ∧ (¬ x2_2 < 0 → (∃ a_5 : Nat, gR S th 0 = some a_5 ∧ 
       (kd S a_5 = 20 ∧ (((nI (ln S a_5)) ≤ (F_3 th 1) → Q F_3) ∧ (¬ (nI (ln S a_5)) ≤ (F_3 th 1) → (vp_in (F_3 th 1) (ln S a_5) ∧ 
           (∀ v_9 : Int32, v_9 = (ushr p0 x2_2).toInt8.toInt32 → (∀ F_10 : Nat → Nat → Int32, F_10 = upI F_3 a_5 ((F_3 th 1).toNatClampNeg) v_9.toInt8.toInt32 → 
             (∀ v_11 : Int32, v_11 = (F_10 th 1) + 1 → (∀ F_12 : Nat → Nat → Int32, F_12 = upI F_10 th 1 v_11 → 
               (∀ v_13 : Int32, v_13 = x2_2 + (-8) → (∃ k : Nat, k < n_1 ∧ I_1 k v_13 F_12)))))))))))))))
set_option maxRecDepth 100000 in
def P_X11_feed (th : Nat) (p0 : Int32) (p1 : Int32) (p2 : Int32) (p3 : Int32) (p4 : Int32) (S : St) (Q : Int32 → (Nat → Nat → Int32) → Prop) : Prop :=
  (kd S th = 11 ∧ (∃ a_1 : Nat, gR S th 4 = some a_1 ∧ (kd S a_1 = 7 ∧ (((gI S a_1 1) ≤ 880 → (P_X7_tapeInt a_1 p0 S (fun (F_4 : Nat → 
          Nat → Int32) => (P_X7_tapeInt a_1 p1 (wI S F_4) (fun (F_5 : Nat → Nat → Int32) => (P_X7_tapeInt a_1 p2 (wI S F_5) (fun (F_6 : Nat → 
              Nat → Int32) => (P_X7_tapeInt a_1 p3 (wI S F_6) (fun (F_7 : Nat → Nat → Int32) => (P_X7_tapeInt a_1 p4 (wI S F_7) (fun (F_8 : Nat → 
                  Nat → Int32) => Q (F_8 a_1 1) F_8))))))))))) ∧ (¬ (gI S a_1 1) ≤ 880 → Q (-1) (gI S))))))
set_option maxRecDepth 100000 in
def P_X7_isLetter (th : Nat) (p0 : Int32) (S : St) (Q : Int32 → Prop) : Prop :=
  (kd S th = 7 ∧ (∃ a_1 : Nat, gR S th 0 = some a_1 ∧ (kd S a_1 = 20 ∧ (vp_in p0 (ln S a_1) ∧ (((gI S a_1 p0.toNatClampNeg) < 97 → 
        Q 0) ∧ (¬ (gI S a_1 p0.toNatClampNeg) < 97 → ((122 < (gI S a_1 p0.toNatClampNeg) → Q 0) ∧ (¬ 122 < (gI S a_1 p0.toNatClampNeg) → 
          Q 1))))))))
set_option maxRecDepth 100000 in
def P_X7_readWord (th : Nat) (S : St) (Q : (Nat → Nat → Int32) → (Nat → Nat → Int64) → Prop) : Prop :=
  (kd S th = 7 ∧ (∀ J_1 : Nat → Nat → Int64, J_1 = upJ (gJ S) th 8 0 → (∃ I_2 : Nat → (Nat → Nat → Int32) → (Nat → 
      Nat → Int64) → Prop, (∃ k : Nat, I_2 k (gI S) J_1) ∧ ∀ (n_2 : Nat) (F_3 : Nat → Nat → Int32) (J_4 : Nat → 
      Nat → Int64), I_2 n_2 F_3 J_4 → (∃ J_6 : Prop, (J_6 → (∃ J_8 : Int32 → Prop, (∀ (t_9 : Int32), J_8 t_9 → 
         (∀ F_10 : Nat → Nat → Int32, F_10 = upI F_3 th 6 t_9 → (∃ I_11 : Nat → Int32 → (Nat → Nat → Int32) → Prop, (∃ k : Nat, I_11 k 0 F_10) ∧ 
           ∀ (n_11 : Nat) (x1_12 : Int32) (F_13 : Nat → Nat → Int32), I_11 n_11 x1_12 F_13 → (∃ a_14 : Nat, gR S th 2 = some a_14 ∧ 
            (kd S a_14 = 22 ∧ (((nI (ln S a_14)) ≤ x1_12 → Q F_13 J_4) ∧ (¬ (nI (ln S a_14)) ≤ x1_12 → ((¬ (F_13 th 6) = 4 → 
                 Q F_13 J_4) ∧ ((F_13 th 6) = 4 → (vp_in x1_12 (ln S a_14) ∧ ((¬ (lg_cmp (J_4 a_14 x1_12.toNatClampNeg) (J_4 th 8)) = 0 → 
                    (∀ v_20 : Int32, v_20 = x1_12 + 1 → (∃ k : Nat, k < n_11 ∧ I_11 k v_20 F_13))) ∧ ((lg_cmp (J_4 a_14 x1_12.toNatClampNeg) (J_4 th 8)) = 0 → 
                    (∀ v_21 : Int32, v_21 = 6 + x1_12 → (∀ F_22 : Nat → Nat → Int32, F_22 = upI F_13 th 6 v_21 → 
                      (∀ v_23 : Int32, v_23 = x1_12 + 1 → (∃ k : Nat, k < n_11 ∧ I_11 k v_23 F_22)))))))))))))))) ∧ 
        ((((F_3 th 5) - (F_3 th 4)) ≤ 8 → J_8 4) ∧ (¬ ((F_3 th 5) - (F_3 th 4)) ≤ 8 → J_8 5)))) ∧ (((F_3 th 3) ≤ (F_3 th 5) → 
        J_6) ∧ (¬ (F_3 th 3) ≤ (F_3 th 5) → (P_X7_isLetter th (F_3 th 5) (wA S F_3 J_4 (gR S)) (fun (r_24 : Int32) => ((r_24 = 0 → 
            J_6) ∧ (¬ r_24 = 0 → (∃ a_26 : Nat, gR S th 0 = some a_26 ∧ (kd S a_26 = 20 ∧ (vp_in (F_3 th 5) (ln S a_26) ∧ 
               (∀ v_29 : Int64, v_29 = ((J_4 th 8) * 27) + ((((F_3 a_26 ((F_3 th 5).toNatClampNeg)) - 97) + 1).toInt64) → 
                (∀ J_30 : Nat → Nat → Int64, J_30 = upJ J_4 th 8 v_29 → (∀ v_31 : Int32, v_31 = (F_3 th 5) + 1 → 
                  (∀ F_32 : Nat → Nat → Int32, F_32 = upI F_3 th 5 v_31 → (∃ k : Nat, k < n_2 ∧ I_2 k F_32 J_30))))))))))))))))))
set_option maxRecDepth 100000 in
def P_X7_isDigit (th : Nat) (p0 : Int32) (S : St) (Q : Int32 → Prop) : Prop :=
  (kd S th = 7 ∧ (∃ a_1 : Nat, gR S th 0 = some a_1 ∧ (kd S a_1 = 20 ∧ (vp_in p0 (ln S a_1) ∧ (((gI S a_1 p0.toNatClampNeg) < 48 → 
        Q 0) ∧ (¬ (gI S a_1 p0.toNatClampNeg) < 48 → ((57 < (gI S a_1 p0.toNatClampNeg) → Q 0) ∧ (¬ 57 < (gI S a_1 p0.toNatClampNeg) → 
          Q 1))))))))
set_option maxRecDepth 100000 in
def P_X7_readNumber (th : Nat) (S : St) (Q : (Nat → Nat → Int32) → Prop) : Prop :=
  (kd S th = 7 ∧ (∀ F_1 : Nat → Nat → Int32, F_1 = upI (gI S) th 7 0 → (∃ I_2 : Nat → (Nat → Nat → Int32) → Prop, (∃ k : Nat, I_2 k F_1) ∧ 
     ∀ (n_2 : Nat) (F_3 : Nat → Nat → Int32), I_2 n_2 F_3 → (∃ J_5 : Prop, (J_5 → (∃ J_7 : Int32 → Prop, (∀ (t_8 : Int32), J_7 t_8 → 
         (∀ F_9 : Nat → Nat → Int32, F_9 = upI F_3 th 6 t_8 → Q F_9)) ∧ ((((F_3 th 5) - (F_3 th 4)) ≤ 8 → J_7 3) ∧ 
         (¬ ((F_3 th 5) - (F_3 th 4)) ≤ 8 → J_7 0)))) ∧ (((F_3 th 3) ≤ (F_3 th 5) → J_5) ∧ (¬ (F_3 th 3) ≤ (F_3 th 5) → 
        (P_X7_isDigit th (F_3 th 5) (wI S F_3) (fun (r_10 : Int32) => ((r_10 = 0 → J_5) ∧ (¬ r_10 = 0 → (∃ a_12 : Nat, gR S th 0 = some a_12 ∧ 
             (kd S a_12 = 20 ∧ (vp_in (F_3 th 5) (ln S a_12) ∧ (∀ v_15 : Int32, v_15 = ((F_3 th 7) * 10) + ((F_3 a_12 ((F_3 th 5).toNatClampNeg)) - 48) → 
                (∀ F_16 : Nat → Nat → Int32, F_16 = upI F_3 th 7 v_15 → (∀ v_17 : Int32, v_17 = (F_16 th 5) + 1 → 
                  (∀ F_18 : Nat → Nat → Int32, F_18 = upI F_16 th 5 v_17 → (∃ k : Nat, k < n_2 ∧ I_2 k F_18))))))))))))))))))
set_option maxRecDepth 100000 in
def P_X7_next (th : Nat) (S : St) (Q : (Nat → Nat → Int32) → (Nat → Nat → Int64) → Prop) : Prop :=
  (kd S th = 7 ∧ (∀ v_1 : Int32, v_1 = gI S th 5 → (∀ F_2 : Nat → Nat → Int32, F_2 = upI (gI S) th 4 v_1 → (∃ I_3 : Nat → 
      (Nat → Nat → Int32) → Prop, (∃ k : Nat, I_3 k F_2) ∧ ∀ (n_3 : Nat) (F_4 : Nat → Nat → Int32), I_3 n_3 F_4 → 
      (∃ J_6 : Prop, (J_6 → (∀ v_7 : Int32, v_7 = F_4 th 4 → (∀ F_8 : Nat → Nat → Int32, F_8 = upI F_4 th 5 v_7 → 
          (((F_8 th 4) < (F_8 th 3) → (P_X7_isLetter th (F_8 th 4) (wI S F_8) (fun (r_10 : Int32) => ((r_10 = 0 → 
                (P_X7_isDigit th (F_8 th 4) (wI S F_8) (fun (r_12 : Int32) => ((r_12 = 0 → (∃ a_14 : Nat, gR S th 0 = some a_14 ∧ 
                     (kd S a_14 = 20 ∧ (vp_in (F_8 th 4) (ln S a_14) ∧ (∃ J_18 : Int32 → Prop, (∀ (t_19 : Int32), J_18 t_19 → 
                         (∀ F_20 : Nat → Nat → Int32, F_20 = upI F_8 th 6 t_19 → (∀ v_21 : Int32, v_21 = (F_20 th 5) + 1 → 
                           (∀ F_22 : Nat → Nat → Int32, F_22 = upI F_20 th 5 v_21 → Q F_22 (gJ S))))) ∧ ((¬ (F_8 a_14 ((F_8 th 4).toNatClampNeg)) = 59 → 
                          J_18 0) ∧ ((F_8 a_14 ((F_8 th 4).toNatClampNeg)) = 59 → J_18 2))))))) ∧ (¬ r_12 = 0 → 
                    (P_X7_readNumber th (wI S F_8) (fun (F_23 : Nat → Nat → Int32) => Q F_23 (gJ S)))))))) ∧ (¬ r_10 = 0 → 
                (P_X7_readWord th (wI S F_8) (fun (F_24 : Nat → Nat → Int32) (J_24 : Nat → Nat → Int64) => Q F_24 J_24))))))) ∧ 
           (¬ (F_8 th 4) < (F_8 th 3) → (∀ F_25 : Nat → Nat → Int32, F_25 = upI F_8 th 6 1 → Q F_25 (gJ S))))))) ∧ 
       (((F_4 th 3) ≤ (F_4 th 4) → J_6) ∧ (¬ (F_4 th 3) ≤ (F_4 th 4) → (∃ a_26 : Nat, gR S th 0 = some a_26 ∧ (kd S a_26 = 20 ∧ 
           (vp_in (F_4 th 4) (ln S a_26) ∧ (∃ J_30 : Prop, (J_30 → (∀ v_31 : Int32, v_31 = (F_4 th 4) + 1 → (∀ F_32 : Nat → 
                Nat → Int32, F_32 = upI F_4 th 4 v_31 → (∃ k : Nat, k < n_3 ∧ I_3 k F_32)))) ∧ (((F_4 a_26 ((F_4 th 4).toNatClampNeg)) = 32 → 
               J_30) ∧ (¬ (F_4 a_26 ((F_4 th 4).toNatClampNeg)) = 32 → ((¬ (F_4 a_26 ((F_4 th 4).toNatClampNeg)) = 10 → 
                 J_6) ∧ ((F_4 a_26 ((F_4 th 4).toNatClampNeg)) = 10 → J_30)))))))))))))))
set_option maxRecDepth 100000 in
def P_X7_open (th : Nat) (p0 : Int32) (S : St) (Q : (Nat → Nat → Int32) → (Nat → Nat → Int64) → Prop) : Prop :=
  (kd S th = 7 ∧ (∃ a_1 : Nat, gR S th 0 = some a_1 ∧ (kd S a_1 = 20 ∧ (∀ v_3 : Int32, v_3 = imin p0 (nI (ln S a_1)) → 
      (∀ F_4 : Nat → Nat → Int32, F_4 = upI (gI S) th 3 v_3 → (∀ F_5 : Nat → Nat → Int32, F_5 = upI F_4 th 1 0 → 
        (∀ F_6 : Nat → Nat → Int32, F_6 = upI F_5 th 5 0 → (∀ F_7 : Nat → Nat → Int32, F_7 = upI F_6 th 9 0 → (∀ F_8 : Nat → 
           Nat → Int32, F_8 = upI F_7 th 10 (-1) → (P_X7_next th (wI S F_8) (fun (F_9 : Nat → Nat → Int32) (J_9 : Nat → 
              Nat → Int64) => Q F_9 J_9)))))))))))
set_option maxRecDepth 100000 in
def P_X7_wrong (th : Nat) (p0 : Int32) (S : St) (Q : Int32 → (Nat → Nat → Int32) → Prop) : Prop :=
  (kd S th = 7 ∧ (∀ F_1 : Nat → Nat → Int32, F_1 = upI (gI S) th 9 p0 → (∀ v_2 : Int32, v_2 = F_1 th 4 → (∀ F_3 : Nat → 
      Nat → Int32, F_3 = upI F_1 th 10 v_2 → Q 0 F_3))))
set_option maxRecDepth 100000 in
def P_X7_misplaced (th : Nat) (S : St) (Q : Int32 → (Nat → Nat → Int32) → Prop) : Prop :=
  (kd S th = 7 ∧ (∃ J_2 : Int32 → Prop, (∀ (t_3 : Int32), J_2 t_3 → (P_X7_wrong th t_3 S (fun (r_4 : Int32) (F_4 : Nat → 
        Nat → Int32) => ((r_4 = 0 ∨ r_4 = 1) ∧ Q r_4 F_4)))) ∧ ((¬ (gI S th 6) = 0 → J_2 2) ∧ ((gI S th 6) = 0 → 
      J_2 1))))
set_option maxRecDepth 100000 in
def P_X7_take (th : Nat) (p0 : Int32) (S : St) (Q : Int32 → (Nat → Nat → Int32) → (Nat → Nat → Int64) → Prop) : Prop :=
  (kd S th = 7 ∧ (((gI S th 6) = p0 → (P_X7_next th S (fun (F_2 : Nat → Nat → Int32) (J_2 : Nat → Nat → Int64) => Q 1 F_2 J_2))) ∧ 
    (¬ (gI S th 6) = p0 → (P_X7_misplaced th S (fun (r_3 : Int32) (F_3 : Nat → Nat → Int32) => ((r_3 = 0 ∨ r_3 = 1) ∧ 
        Q r_3 F_3 (gJ S)))))))
set_option maxRecDepth 100000 in
def P_X7_isAt (th : Nat) (p0 : Int32) (S : St) (Q : Int32 → Prop) : Prop :=
  (kd S th = 7 ∧ ((¬ (gI S th 6) = p0 → Q 0) ∧ ((gI S th 6) = p0 → Q 1)))
set_option maxRecDepth 100000 in
def P_X1_takesStage (th : Nat) (S : St) (Q : Int32 → (Nat → Nat → Int32) → (Nat → Nat → Int64) → Prop) : Prop :=
  (kd S th = 2 ∧ (∃ a_1 : Nat, gR S th 0 = some a_1 ∧ (kd S a_1 = 7 ∧ (P_X7_take a_1 6 S (fun (r_3 : Int32) (F_3 : Nat → 
        Nat → Int32) (J_3 : Nat → Nat → Int64) => ((¬ r_3 = 0 → (P_X7_isAt a_1 3 (wA S F_3 J_3 (gR S)) (fun (r_5 : Int32) => ((¬ r_5 = 0 → 
             (∃ J_8 : Prop, (J_8 → (P_X7_wrong a_1 4 (wA S F_3 J_3 (gR S)) (fun (r_9 : Int32) (F_9 : Nat → Nat → 
                  Int32) => ((r_9 = 0 ∨ r_9 = 1) ∧ Q r_9 F_9 J_3)))) ∧ (((F_3 a_1 7) < 4 → J_8) ∧ (¬ (F_3 a_1 7) < 4 → 
                (((F_3 a_1 7) ≤ 8 → (∀ v_11 : Int32, v_11 = F_3 a_1 7 → (∀ F_12 : Nat → Nat → Int32, F_12 = upI F_3 th 1 v_11 → 
                    (P_X7_next a_1 (wA S F_12 J_3 (gR S)) (fun (F_13 : Nat → Nat → Int32) (J_13 : Nat → Nat → Int64) => (P_X7_take a_1 2 (wA S F_13 J_13 (gR S)) (fun (r_14 : Int32) (F_14 : Nat → 
                         Nat → Int32) (J_14 : Nat → Nat → Int64) => ((r_14 = 0 ∨ r_14 = 1) ∧ Q r_14 F_14 J_14)))))))) ∧ 
                 (¬ (F_3 a_1 7) ≤ 8 → J_8)))))) ∧ (r_5 = 0 → (P_X7_misplaced a_1 (wA S F_3 J_3 (gR S)) (fun (r_15 : Int32) (F_15 : Nat → 
                Nat → Int32) => ((r_15 = 0 ∨ r_15 = 1) ∧ Q r_15 F_15 J_3)))))))) ∧ (r_3 = 0 → Q 0 F_3 J_3)))))))
set_option maxRecDepth 100000 in
def P_X1_takesNewName (th : Nat) (S : St) (Q : Int32 → (Nat → Nat → Int32) → (Nat → Nat → Int64) → Prop) : Prop :=
  (kd S th = 2 ∧ (∃ a_1 : Nat, gR S th 0 = some a_1 ∧ (kd S a_1 = 7 ∧ (P_X7_isAt a_1 4 S (fun (r_3 : Int32) => ((¬ r_3 = 0 → 
         (∀ v_5 : Int32, v_5 = (gI S th 2) + (gI S th 3) → (∃ I_6 : Nat → Int32 → Prop, (∃ k : Nat, I_6 k 0) ∧ 
           ∀ (n_6 : Nat) (x2_7 : Int32), I_6 n_6 x2_7 → (∃ J_9 : Prop, (J_9 → (∃ a_10 : Nat, gR S th 6 = some a_10 ∧ 
              (kd S a_10 = 22 ∧ (∃ J_13 : (Nat → Nat → Int64) → Prop, (∀ (J_14 : Nat → Nat → Int64), J_13 J_14 → 
                 (P_X7_next a_1 (wA S (gI S) J_14 (gR S)) (fun (F_15 : Nat → Nat → Int32) (J_15 : Nat → Nat → Int64) => Q 1 F_15 J_15))) ∧ 
                (((nI (ln S a_10)) ≤ v_5 → J_13 (gJ S)) ∧ (¬ (nI (ln S a_10)) ≤ v_5 → (vp_in v_5 (ln S a_10) ∧ 
                   (∀ v_17 : Int64, v_17 = gJ S a_1 8 → (∀ J_18 : Nat → Nat → Int64, J_18 = upJ (gJ S) a_10 v_5.toNatClampNeg v_17 → 
                     J_13 J_18))))))))) ∧ ((v_5 ≤ x2_7 → J_9) ∧ (¬ v_5 ≤ x2_7 → (∃ a_19 : Nat, gR S th 6 = some a_19 ∧ 
               (kd S a_19 = 22 ∧ (((nI (ln S a_19)) ≤ x2_7 → J_9) ∧ (¬ (nI (ln S a_19)) ≤ x2_7 → (vp_in x2_7 (ln S a_19) ∧ 
                   ((¬ (lg_cmp (gJ S a_19 x2_7.toNatClampNeg) (gJ S a_1 8)) = 0 → (∀ v_24 : Int32, v_24 = x2_7 + 1 → 
                      (∃ k : Nat, k < n_6 ∧ I_6 k v_24))) ∧ ((lg_cmp (gJ S a_19 x2_7.toNatClampNeg) (gJ S a_1 8)) = 0 → 
                     (P_X7_wrong a_1 3 S (fun (r_25 : Int32) (F_25 : Nat → Nat → Int32) => ((r_25 = 0 ∨ r_25 = 1) ∧ 
                        Q r_25 F_25 (gJ S))))))))))))))))) ∧ (r_3 = 0 → (P_X7_misplaced a_1 S (fun (r_26 : Int32) (F_26 : Nat → 
            Nat → Int32) => ((r_26 = 0 ∨ r_26 = 1) ∧ Q r_26 F_26 (gJ S)))))))))))
set_option maxRecDepth 100000 in
def P_X4_moveAround (p0 : Int32) (p1 : Int32) (Q : Int32 → Prop) : Prop :=
  (∃ I_1 : Nat → Int32 → Int32 → Prop, (∃ k : Nat, I_1 k 0 0) ∧ ∀ (n_1 : Nat) (x2_2 : Int32) (x3_3 : Int32), I_1 n_1 x2_2 x3_3 → 
   ((p1 ≤ x3_3 → Q x2_2) ∧ (¬ p1 ≤ x3_3 → ((¬ (p0 &&& (shl 1 x3_3)) = 0 → (∀ v_6 : Int32, v_6 = x3_3 + 1 → (∃ k : Nat, k < n_1 ∧ 
         I_1 k x2_2 v_6))) ∧ ((p0 &&& (shl 1 x3_3)) = 0 → (((x3_3 + 1) = p1 → Q (-1)) ∧ (¬ (x3_3 + 1) = p1 → (((p0 &&& (shl 1 (x3_3 + 1))) = 0 → 
           (∀ v_9 : Int32, v_9 = x2_2 ||| (shl 15 (4 * x3_3)) → (∀ v_10 : Int32, v_10 = x3_3 + 1 → (∀ v_11 : Int32, v_11 = v_10 + 1 → 
              (∃ k : Nat, k < n_1 ∧ I_1 k v_9 v_11))))) ∧ (¬ (p0 &&& (shl 1 (x3_3 + 1))) = 0 → Q (-1))))))))))
set_option maxRecDepth 100000 in
def P_X4_moveOf (p0 : Int32) (p1 : Int32) (Q : Int32 → Prop) : Prop :=
  ((0 ≤ p0 → (∀ v_2 : Int32, v_2 = p1 + 1 → (∃ I_3 : Nat → Int32 → Int32 → Int32 → Prop, (∃ k : Nat, I_3 k 0 v_2 p0) ∧ 
      ∀ (n_3 : Nat) (x2_4 : Int32) (x3_5 : Int32) (x4_6 : Int32), I_3 n_3 x2_4 x3_5 x4_6 → ((x4_6 ≤ 0 → (P_X4_moveAround x2_4 p1 (fun (r_8 : Int32) => Q r_8))) ∧ 
       (¬ x4_6 ≤ 0 → (∀ v_9 : Int32, v_9 = irm x4_6 10 → ((v_9 < 1 → Q (-1)) ∧ (¬ v_9 < 1 → ((v_9 < x3_5 → (∀ v_12 : Int32, v_12 = x2_4 ||| (shl 1 (v_9 - 1)) → 
              (∀ v_13 : Int32, v_13 = x4_6 / 10 → (∃ k : Nat, k < n_3 ∧ I_3 k v_12 v_9 v_13)))) ∧ (¬ v_9 < x3_5 → 
             Q (-1))))))))))) ∧ (¬ 0 ≤ p0 → Q (-1)))
set_option maxRecDepth 100000 in
def P_X7_beginsWithZero (th : Nat) (S : St) (Q : Int32 → Prop) : Prop :=
  (kd S th = 7 ∧ (((gI S th 3) ≤ (gI S th 4) → Q 0) ∧ (¬ (gI S th 3) ≤ (gI S th 4) → (∃ a_2 : Nat, gR S th 0 = some a_2 ∧ 
      (kd S a_2 = 20 ∧ (vp_in (gI S th 4) (ln S a_2) ∧ ((¬ (gI S a_2 ((gI S th 4).toNatClampNeg)) = 48 → Q 0) ∧ 
         ((gI S a_2 ((gI S th 4).toNatClampNeg)) = 48 → Q 1))))))))
set_option maxRecDepth 100000 in
def P_X1_seesPlaces (th : Nat) (S : St) (Q : Int32 → (Nat → Nat → Int32) → Prop) : Prop :=
  (kd S th = 2 ∧ (∃ a_1 : Nat, gR S th 0 = some a_1 ∧ (kd S a_1 = 7 ∧ (P_X7_isAt a_1 8 S (fun (r_3 : Int32) => (∃ J_5 : (Nat → 
         Nat → Int32) → Prop, (∀ (F_6 : Nat → Nat → Int32), J_5 F_6 → ((¬ (F_6 th 5) = (-1) → Q 1 F_6) ∧ ((F_6 th 5) = (-1) → 
           (P_X7_wrong a_1 4 (wI S F_6) (fun (r_8 : Int32) (F_8 : Nat → Nat → Int32) => ((r_8 = 0 → Q 0 F_8) ∧ 
              (¬ r_8 = 0 → Q 1 F_8))))))) ∧ ((r_3 = 0 → (P_X7_isAt a_1 3 S (fun (r_10 : Int32) => ((r_10 = 0 → 
              (P_X7_misplaced a_1 S (fun (r_12 : Int32) (F_12 : Nat → Nat → Int32) => ((r_12 = 0 ∨ r_12 = 1) ∧ 
                 Q r_12 F_12)))) ∧ (¬ r_10 = 0 → (P_X7_beginsWithZero a_1 S (fun (r_13 : Int32) => (∃ J_15 : Int32 → 
                 Prop, (∀ (t_16 : Int32), J_15 t_16 → (∀ F_17 : Nat → Nat → Int32, F_17 = upI (gI S) th 5 t_16 → 
                   J_5 F_17)) ∧ ((r_13 = 0 → (P_X4_moveOf (gI S a_1 7) (gI S th 1) (fun (r_18 : Int32) => J_15 r_18))) ∧ 
                  (¬ r_13 = 0 → J_15 (-1))))))))))) ∧ (¬ r_3 = 0 → (P_X4_moveOf 0 (gI S th 1) (fun (r_19 : Int32) => (∀ F_20 : Nat → 
             Nat → Int32, F_20 = upI (gI S) th 5 r_19 → J_5 F_20)))))))))))
set_option maxRecDepth 100000 in
def P_X1_takesChanges (th : Nat) (S : St) (Q : Int32 → (Nat → Nat → Int32) → (Nat → Nat → Int64) → Prop) : Prop :=
  (kd S th = 2 ∧ (∃ a_1 : Nat, gR S th 8 = some a_1 ∧ (kd S a_1 = 27 ∧ (vp_in (gI S th 2) (ln S a_1) ∧ (∃ a_4 : Nat, gR S th 9 = some a_4 ∧ 
       (kd S a_4 = 21 ∧ (vp_in (gI S th 2) (ln S a_4) ∧ (∀ F_7 : Nat → Nat → Int32, F_7 = upI (gI S) a_4 ((gI S th 2).toNatClampNeg) 0 → 
          (∃ I_8 : Nat → Int32 → (Nat → Nat → Int32) → (Nat → Nat → Int64) → Prop, (∃ k : Nat, I_8 k 0 F_7 (gJ S)) ∧ 
           ∀ (n_8 : Nat) (x2_9 : Int32) (F_10 : Nat → Nat → Int32) (J_11 : Nat → Nat → Int64), I_8 n_8 x2_9 F_10 J_11 → 
           ((32 < x2_9 → Q 1 F_10 J_11) ∧ (¬ 32 < x2_9 → (∃ J_14 : Prop, (J_14 → (P_X1_seesPlaces th (wA S F_10 J_11 (gR S)) (fun (r_15 : Int32) (F_15 : Nat → 
                  Nat → Int32) => ((¬ r_15 = 0 → ((x2_9 < 32 → (∃ a_18 : Nat, gR S a_1 ((gI S th 2).toNatClampNeg) = some a_18 ∧ 
                      (kd S a_18 = 21 ∧ (vp_in x2_9 (ln S a_18) ∧ (∀ v_21 : Int32, v_21 = F_15 th 5 → (∀ F_22 : Nat → 
                          Nat → Int32, F_22 = upI F_15 a_18 x2_9.toNatClampNeg v_21 → (vp_in (F_22 th 2) (ln S a_4) ∧ 
                           (∀ v_24 : Int32, v_24 = x2_9 + 1 → (∀ F_25 : Nat → Nat → Int32, F_25 = upI F_22 a_4 ((F_22 th 2).toNatClampNeg) v_24 → 
                             (∃ a_26 : Nat, gR S th 0 = some a_26 ∧ (kd S a_26 = 7 ∧ (P_X7_next a_26 (wA S F_25 J_11 (gR S)) (fun (F_28 : Nat → 
                                  Nat → Int32) (J_28 : Nat → Nat → Int64) => (∀ v_29 : Int32, v_29 = x2_9 + 1 → 
                                  (∃ k : Nat, k < n_8 ∧ I_8 k v_29 F_28 J_28))))))))))))))) ∧ (¬ x2_9 < 32 → (∃ a_30 : Nat, gR S th 0 = some a_30 ∧ 
                      (kd S a_30 = 7 ∧ (P_X7_wrong a_30 6 (wA S F_15 J_11 (gR S)) (fun (r_32 : Int32) (F_32 : Nat → 
                          Nat → Int32) => ((r_32 = 0 ∨ r_32 = 1) ∧ Q r_32 F_32 J_11)))))))) ∧ (r_15 = 0 → Q 0 F_15 J_11))))) ∧ 
              ((x2_9 ≤ 0 → J_14) ∧ (¬ x2_9 ≤ 0 → (∃ a_33 : Nat, gR S th 0 = some a_33 ∧ (kd S a_33 = 7 ∧ (P_X7_isAt a_33 8 (wA S F_10 J_11 (gR S)) (fun (r_35 : Int32) => ((¬ r_35 = 0 → 
                      J_14) ∧ (r_35 = 0 → (P_X7_isAt a_33 3 (wA S F_10 J_11 (gR S)) (fun (r_37 : Int32) => ((¬ r_37 = 0 → 
                          J_14) ∧ (r_37 = 0 → Q 1 F_10 J_11))))))))))))))))))))))))
set_option maxRecDepth 100000 in
def P_X1_takesBack (th : Nat) (S : St) (Q : Int32 → (Nat → Nat → Int32) → (Nat → Nat → Int64) → Prop) : Prop :=
  (kd S th = 2 ∧ (∃ a_1 : Nat, gR S th 0 = some a_1 ∧ (kd S a_1 = 7 ∧ (P_X7_isAt a_1 9 S (fun (r_3 : Int32) => ((¬ r_3 = 0 → 
         (∃ a_5 : Nat, gR S th 9 = some a_5 ∧ (kd S a_5 = 21 ∧ (vp_in (gI S th 2) (ln S a_5) ∧ (∀ v_8 : Int32, v_8 = gI S a_5 ((gI S th 2).toNatClampNeg) → 
             (∃ J_10 : Prop, (J_10 → (P_X7_wrong a_1 6 S (fun (r_11 : Int32) (F_11 : Nat → Nat → Int32) => ((r_11 = 0 ∨ r_11 = 1) ∧ 
                  Q r_11 F_11 (gJ S))))) ∧ ((v_8 < 1 → J_10) ∧ (¬ v_8 < 1 → (((2 * v_8) ≤ 32 → (P_X7_next a_1 S (fun (F_13 : Nat → 
                     Nat → Int32) (J_13 : Nat → Nat → Int64) => (P_X1_seesPlaces th (wA S F_13 J_13 (gR S)) (fun (r_14 : Int32) (F_14 : Nat → 
                       Nat → Int32) => ((¬ r_14 = 0 → (∃ a_16 : Nat, gR S th 8 = some a_16 ∧ (kd S a_16 = 27 ∧ 
                          (vp_in (F_14 th 2) (ln S a_16) ∧ (∃ I_19 : Nat → Int32 → (Nat → Nat → Int32) → Prop, (∃ k : Nat, I_19 k 0 F_14) ∧ 
                            ∀ (n_19 : Nat) (x3_20 : Int32) (F_21 : Nat → Nat → Int32), I_19 n_19 x3_20 F_21 → (((v_8 - 1) ≤ x3_20 → 
                              (∃ a_23 : Nat, gR S a_16 ((F_14 th 2).toNatClampNeg) = some a_23 ∧ (kd S a_23 = 21 ∧ 
                                (vp_in ((2 * v_8) - 1) (ln S a_23) ∧ (∀ v_26 : Int32, v_26 = F_21 th 5 → (∀ F_27 : Nat → 
                                   Nat → Int32, F_27 = upI F_21 a_23 (((2 * v_8) - 1).toNatClampNeg) v_26 → (vp_in (F_27 th 2) (ln S a_5) ∧ 
                                    (∀ v_29 : Int32, v_29 = 2 * v_8 → (∀ F_30 : Nat → Nat → Int32, F_30 = upI F_27 a_5 ((F_27 th 2).toNatClampNeg) v_29 → 
                                      (P_X7_next a_1 (wA S F_30 J_13 (gR S)) (fun (F_31 : Nat → Nat → Int32) (J_31 : Nat → 
                                        Nat → Int64) => Q 1 F_31 J_31))))))))))) ∧ (¬ (v_8 - 1) ≤ x3_20 → (∃ a_32 : Nat, gR S a_16 ((F_14 th 2).toNatClampNeg) = some a_32 ∧ 
                               (kd S a_32 = 21 ∧ (vp_in ((v_8 - 2) - x3_20) (ln S a_32) ∧ (vp_in (v_8 + x3_20) (ln S a_32) ∧ 
                                  (∀ v_36 : Int32, v_36 = F_21 a_32 (((v_8 - 2) - x3_20).toNatClampNeg) → (∀ F_37 : Nat → 
                                    Nat → Int32, F_37 = upI F_21 a_32 ((v_8 + x3_20).toNatClampNeg) v_36 → (∀ v_38 : Int32, v_38 = x3_20 + 1 → 
                                     (∃ k : Nat, k < n_19 ∧ I_19 k v_38 F_37))))))))))))))) ∧ (r_14 = 0 → Q 0 F_14 J_13))))))) ∧ 
                 (¬ (2 * v_8) ≤ 32 → J_10)))))))))) ∧ (r_3 = 0 → Q 1 (gI S) (gJ S))))))))
set_option maxRecDepth 100000 in
def P_X1_takesCall (th : Nat) (p0 : Int32) (p1 : Int32) (S : St) (Q : Int32 → (Nat → Nat → Int32) → (Nat → Nat → Int64) → Prop) : Prop :=
  (kd S th = 2 ∧ (∃ a_1 : Nat, gR S th 0 = some a_1 ∧ (kd S a_1 = 7 ∧ (P_X7_isAt a_1 p0 S (fun (r_3 : Int32) => ((¬ r_3 = 0 → 
         (P_X7_next a_1 S (fun (F_5 : Nat → Nat → Int32) (J_5 : Nat → Nat → Int64) => (P_X1_seesPlaces th (wA S F_5 J_5 (gR S)) (fun (r_6 : Int32) (F_6 : Nat → 
              Nat → Int32) => ((¬ r_6 = 0 → (P_X7_next a_1 (wA S F_6 J_5 (gR S)) (fun (F_8 : Nat → Nat → Int32) (J_8 : Nat → 
                  Nat → Int64) => Q 1 F_8 J_8))) ∧ (r_6 = 0 → Q 0 F_6 J_5))))))) ∧ (r_3 = 0 → (∀ F_9 : Nat → Nat → 
          Int32, F_9 = upI (gI S) th 5 p1 → Q 1 F_9 (gJ S)))))))))
set_option maxRecDepth 100000 in
def P_X1_takesMethod (th : Nat) (S : St) (Q : Int32 → (Nat → Nat → Int32) → (Nat → Nat → Int64) → Prop) : Prop :=
  (kd S th = 2 ∧ (((gI S th 2) < 4 → (∃ a_2 : Nat, gR S th 0 = some a_2 ∧ (kd S a_2 = 7 ∧ (P_X7_next a_2 S (fun (F_4 : Nat → 
          Nat → Int32) (J_4 : Nat → Nat → Int64) => (∃ a_5 : Nat, gR S th 7 = some a_5 ∧ (kd S a_5 = 22 ∧ (vp_in (F_4 th 2) (ln S a_5) ∧ 
            (∀ v_8 : Int64, v_8 = J_4 a_2 8 → (∀ J_9 : Nat → Nat → Int64, J_9 = upJ J_4 a_5 ((F_4 th 2).toNatClampNeg) v_8 → 
              (P_X1_takesNewName th (wA S F_4 J_9 (gR S)) (fun (r_10 : Int32) (F_10 : Nat → Nat → Int32) (J_10 : Nat → 
                 Nat → Int64) => ((r_10 = 0 → Q 0 F_10 J_10) ∧ (¬ r_10 = 0 → (P_X1_takesChanges th (wA S F_10 J_10 (gR S)) (fun (r_12 : Int32) (F_12 : Nat → 
                     Nat → Int32) (J_12 : Nat → Nat → Int64) => ((r_12 = 0 → Q 0 F_12 J_12) ∧ (¬ r_12 = 0 → (P_X1_takesBack th (wA S F_12 J_12 (gR S)) (fun (r_14 : Int32) (F_14 : Nat → 
                         Nat → Int32) (J_14 : Nat → Nat → Int64) => ((¬ r_14 = 0 → (∃ a_16 : Nat, gR S th 9 = some a_16 ∧ 
                           (kd S a_16 = 21 ∧ (vp_in (F_14 th 2) (ln S a_16) ∧ (∃ J_20 : Int32 → Prop, (∀ (t_21 : Int32), J_20 t_21 → 
                               (P_X1_takesCall th 10 t_21 (wA S F_14 J_14 (gR S)) (fun (r_22 : Int32) (F_22 : Nat → 
                                  Nat → Int32) (J_22 : Nat → Nat → Int64) => ((¬ r_22 = 0 → (∃ a_24 : Nat, gR S th 10 = some a_24 ∧ 
                                    (kd S a_24 = 21 ∧ (vp_in (F_22 th 2) (ln S a_24) ∧ (∀ v_27 : Int32, v_27 = F_22 th 5 → 
                                       (∀ F_28 : Nat → Nat → Int32, F_28 = upI F_22 a_24 ((F_22 th 2).toNatClampNeg) v_27 → 
                                        (P_X1_takesCall th 11 t_21 (wA S F_28 J_22 (gR S)) (fun (r_29 : Int32) (F_29 : Nat → 
   Nat → Int32) (J_29 : Nat → Nat → Int64) => ((¬ r_29 = 0 → (∃ a_31 : Nat, gR S th 11 = some a_31 ∧ (kd S a_31 = 21 ∧ 
      (vp_in (F_29 th 2) (ln S a_31) ∧ (∀ v_34 : Int32, v_34 = F_29 th 5 → (∀ F_35 : Nat → Nat → Int32, F_35 = upI F_29 a_31 ((F_29 th 2).toNatClampNeg) v_34 → 
         (∀ v_36 : Int32, v_36 = (F_35 th 2) + 1 → (∀ F_37 : Nat → Nat → Int32, F_37 = upI F_35 th 2 v_36 → (P_X7_take a_2 2 (wA S F_37 J_29 (gR S)) (fun (r_38 : Int32) (F_38 : Nat → 
              Nat → Int32) (J_38 : Nat → Nat → Int64) => ((r_38 = 0 ∨ r_38 = 1) ∧ Q r_38 F_38 J_38))))))))))) ∧ 
   (r_29 = 0 → Q 0 F_29 J_29)))))))))) ∧ (r_22 = 0 → Q 0 F_22 J_22))))) ∧ (((F_14 a_16 ((F_14 th 2).toNatClampNeg)) ≤ 0 → 
                                J_20 0) ∧ (¬ (F_14 a_16 ((F_14 th 2).toNatClampNeg)) ≤ 0 → (∃ a_39 : Nat, gR S th 8 = some a_39 ∧ 
                                 (kd S a_39 = 27 ∧ (vp_in (F_14 th 2) (ln S a_39) ∧ (∃ a_42 : Nat, gR S a_39 ((F_14 th 2).toNatClampNeg) = some a_42 ∧ 
                                    (kd S a_42 = 21 ∧ (vp_in ((F_14 a_16 ((F_14 th 2).toNatClampNeg)) - 1) (ln S a_42) ∧ 
                                      J_20 (F_14 a_42 (((F_14 a_16 ((F_14 th 2).toNatClampNeg)) - 1).toNatClampNeg))))))))))))))) ∧ 
                         (r_14 = 0 → Q 0 F_14 J_14)))))))))))))))))))))) ∧ (¬ (gI S th 2) < 4 → (∃ a_45 : Nat, gR S th 0 = some a_45 ∧ 
      (kd S a_45 = 7 ∧ (P_X7_wrong a_45 6 S (fun (r_47 : Int32) (F_47 : Nat → Nat → Int32) => ((r_47 = 0 ∨ r_47 = 1) ∧ 
          Q r_47 F_47 (gJ S)))))))))
set_option maxRecDepth 100000 in
def P_X1_takesRinger (th : Nat) (S : St) (Q : Int32 → (Nat → Nat → Int32) → (Nat → Nat → Int64) → Prop) : Prop :=
  (kd S th = 2 ∧ (((gI S th 3) < 8 → (∃ a_2 : Nat, gR S th 0 = some a_2 ∧ (kd S a_2 = 7 ∧ (P_X7_next a_2 S (fun (F_4 : Nat → 
          Nat → Int32) (J_4 : Nat → Nat → Int64) => (P_X1_takesNewName th (wA S F_4 J_4 (gR S)) (fun (r_5 : Int32) (F_5 : Nat → 
            Nat → Int32) (J_5 : Nat → Nat → Int64) => ((¬ r_5 = 0 → (∀ v_7 : Int32, v_7 = (F_5 th 3) + 1 → (∀ F_8 : Nat → 
               Nat → Int32, F_8 = upI F_5 th 3 v_7 → (P_X7_isAt a_2 3 (wA S F_8 J_5 (gR S)) (fun (r_9 : Int32) => ((¬ r_9 = 0 → 
                   (∃ J_12 : Prop, (J_12 → (P_X7_wrong a_2 4 (wA S F_8 J_5 (gR S)) (fun (r_13 : Int32) (F_13 : Nat → 
                        Nat → Int32) => ((r_13 = 0 ∨ r_13 = 1) ∧ Q r_13 F_13 J_5)))) ∧ (((F_8 a_2 7) < 1 → J_12) ∧ 
                     (¬ (F_8 a_2 7) < 1 → (((F_8 a_2 7) ≤ (F_8 th 1) → (∀ v_15 : Int32, v_15 = shl 1 ((F_8 a_2 7) - 1) → 
                         ((((F_8 th 4) &&& v_15) = 0 → (∀ v_17 : Int32, v_17 = (F_8 th 4) ||| v_15 → (∀ F_18 : Nat → 
                             Nat → Int32, F_18 = upI F_8 th 4 v_17 → (P_X7_next a_2 (wA S F_18 J_5 (gR S)) (fun (F_19 : Nat → 
                                Nat → Int32) (J_19 : Nat → Nat → Int64) => (P_X7_take a_2 2 (wA S F_19 J_19 (gR S)) (fun (r_20 : Int32) (F_20 : Nat → 
                                  Nat → Int32) (J_20 : Nat → Nat → Int64) => ((r_20 = 0 ∨ r_20 = 1) ∧ Q r_20 F_20 J_20)))))))) ∧ 
                          (¬ ((F_8 th 4) &&& v_15) = 0 → (P_X7_wrong a_2 5 (wA S F_8 J_5 (gR S)) (fun (r_21 : Int32) (F_21 : Nat → 
                              Nat → Int32) => ((r_21 = 0 ∨ r_21 = 1) ∧ Q r_21 F_21 J_5))))))) ∧ (¬ (F_8 a_2 7) ≤ (F_8 th 1) → 
                        J_12)))))) ∧ (r_9 = 0 → (P_X7_misplaced a_2 (wA S F_8 J_5 (gR S)) (fun (r_22 : Int32) (F_22 : Nat → 
                      Nat → Int32) => ((r_22 = 0 ∨ r_22 = 1) ∧ Q r_22 F_22 J_5)))))))))) ∧ (r_5 = 0 → Q 0 F_5 J_5))))))))) ∧ 
    (¬ (gI S th 3) < 8 → (∃ a_23 : Nat, gR S th 0 = some a_23 ∧ (kd S a_23 = 7 ∧ (P_X7_wrong a_23 6 S (fun (r_25 : Int32) (F_25 : Nat → 
          Nat → Int32) => ((r_25 = 0 ∨ r_25 = 1) ∧ Q r_25 F_25 (gJ S)))))))))
set_option maxRecDepth 100000 in
def P_X1_takes (th : Nat) (p0 : Int32) (S : St) (Q : Int32 → (Nat → Nat → Int32) → (Nat → Nat → Int64) → Prop) : Prop :=
  (kd S th = 2 ∧ (∀ F_1 : Nat → Nat → Int32, F_1 = upI (gI S) th 2 0 → (∀ F_2 : Nat → Nat → Int32, F_2 = upI F_1 th 3 0 → 
     (∀ F_3 : Nat → Nat → Int32, F_3 = upI F_2 th 4 0 → (∃ a_4 : Nat, gR S th 0 = some a_4 ∧ (kd S a_4 = 7 ∧ (P_X7_open a_4 p0 (wI S F_3) (fun (F_6 : Nat → 
           Nat → Int32) (J_6 : Nat → Nat → Int64) => (P_X1_takesStage th (wA S F_6 J_6 (gR S)) (fun (r_7 : Int32) (F_7 : Nat → 
             Nat → Int32) (J_7 : Nat → Nat → Int64) => ((¬ r_7 = 0 → (∃ I_9 : Nat → Int32 → (Nat → Nat → Int32) → 
               (Nat → Nat → Int64) → Prop, (∃ k : Nat, I_9 k 0 F_7 J_7) ∧ ∀ (n_9 : Nat) (x2_10 : Int32) (F_11 : Nat → 
                Nat → Int32) (J_12 : Nat → Nat → Int64), I_9 n_9 x2_10 F_11 J_12 → ((900 < x2_10 → Q 1 F_11 J_12) ∧ 
                (¬ 900 < x2_10 → (P_X7_isAt a_4 1 (wA S F_11 J_12 (gR S)) (fun (r_14 : Int32) => ((¬ r_14 = 0 → 
                     Q 1 F_11 J_12) ∧ (r_14 = 0 → (P_X7_isAt a_4 7 (wA S F_11 J_12 (gR S)) (fun (r_16 : Int32) => (∃ J_18 : Int32 → 
                        (Nat → Nat → Int32) → (Nat → Nat → Int64) → Prop, (∀ (x3_19 : Int32) (F_20 : Nat → Nat → 
                          Int32) (J_21 : Nat → Nat → Int64), J_18 x3_19 F_20 J_21 → ((¬ x3_19 = 0 → (∀ v_23 : Int32, v_23 = x2_10 + 1 → 
                            (∃ k : Nat, k < n_9 ∧ I_9 k v_23 F_20 J_21))) ∧ (x3_19 = 0 → Q 0 F_20 J_21))) ∧ ((r_16 = 0 → 
                          (P_X7_isAt a_4 12 (wA S F_11 J_12 (gR S)) (fun (r_24 : Int32) => ((r_24 = 0 → (P_X7_misplaced a_4 (wA S F_11 J_12 (gR S)) (fun (r_26 : Int32) (F_26 : Nat → 
                                 Nat → Int32) => J_18 r_26 F_26 J_12))) ∧ (¬ r_24 = 0 → (P_X1_takesRinger th (wA S F_11 J_12 (gR S)) (fun (r_27 : Int32) (F_27 : Nat → 
                                 Nat → Int32) (J_27 : Nat → Nat → Int64) => J_18 r_27 F_27 J_27))))))) ∧ (¬ r_16 = 0 → 
                          (P_X1_takesMethod th (wA S F_11 J_12 (gR S)) (fun (r_28 : Int32) (F_28 : Nat → Nat → 
                             Int32) (J_28 : Nat → Nat → Int64) => J_18 r_28 F_28 J_28))))))))))))))) ∧ (r_7 = 0 → 
              Q 0 F_7 J_7))))))))))))
set_option maxRecDepth 100000 in
def P_X4_roundsOf (p0 : Int32) (Q : Int32 → Prop) : Prop :=
  Q (1985229328 &&& (((lshl 1 (4 * p0)) - 1).toInt32))
set_option maxRecDepth 100000 in
def P_X4_moved (p0 : Int32) (p1 : Int32) (Q : Int32 → Prop) : Prop :=
  Q (((p0 &&& ((p1 ||| (shl p1 4)) ^^^ (-1))) ||| (shl (p0 &&& p1) 4)) ||| ((ushr p0 4) &&& p1))
set_option maxRecDepth 100000 in
def P_X3_init (th : Nat) (p0 : Int64) (p1 : Int32) (p2 : Nat) (p3 : Int32) (p4 : Int32) (S : St) (bc bs : Nat) (Q : St → Prop) : Prop :=
  (kd S th = 4 ∧ (∀ J_1 : Nat → Nat → Int64, J_1 = upJ (gJ S) th 0 p0 → (∀ R_2 : Nat → Nat → Option Nat, R_2 = upR (gR S) th 1 (some p2) → 
     (kd S p2 = 21 ∧ (∀ v_5 : Int32, v_5 = (nI (ln S p2)) + 1 → (¬ v_5 < 0 ∧ (v_5.toNatClampNeg * 4 ≤ 536870912 ∧ 
         (1 ≤ bc ∧ (v_5.toNatClampNeg ≤ bs ∧ (∀ q_4 : Nat, kd S q_4 = 0 → ∀ S_4 : St, S_4 = alo (wA S (gI S) J_1 R_2) q_4 21 v_5.toNatClampNeg → 
            (kd S_4 th = 4 ∧ (∀ R_11 : Nat → Nat → Option Nat, R_11 = upR (gR S_4) th 2 (some q_4) → (1 ≤ bc - 1 ∧ 
               (3 ≤ bs - v_5.toNatClampNeg ∧ (∀ q_12 : Nat, kd S_4 q_12 = 0 → ∀ S_12 : St, S_12 = alo (wA S_4 (gI S_4) (gJ S_4) R_11) q_12 21 3 → 
                 (kd S_12 th = 4 ∧ (∀ R_16 : Nat → Nat → Option Nat, R_16 = upR (gR S_12) th 3 (some q_12) → (1 ≤ bc - 2 ∧ 
                    (3 ≤ bs - v_5.toNatClampNeg - 3 ∧ (∀ q_17 : Nat, kd S_12 q_17 = 0 → ∀ S_17 : St, S_17 = alo (wA S_12 (gI S_12) (gJ S_12) R_16) q_17 21 3 → 
                      (kd S_17 th = 4 ∧ (∀ R_21 : Nat → Nat → Option Nat, R_21 = upR (gR S_17) th 4 (some q_17) → 
                        (∃ a_22 : Nat, R_21 th 2 = some a_22 ∧ (P_X4_roundsOf p1 (fun (r_23 : Int32) => (kd S_17 a_22 = 21 ∧ 
                            (vp_in 0 (ln S_17 a_22) ∧ (∀ F_26 : Nat → Nat → Int32, F_26 = upI (gI S_17) a_22 0 r_23 → 
                              (∃ I_27 : Nat → Int32 → (Nat → Nat → Int32) → Prop, (∃ k : Nat, I_27 k 0 F_26) ∧ 
                               ∀ (n_27 : Nat) (x7_28 : Int32) (F_29 : Nat → Nat → Int32), I_27 n_27 x7_28 F_29 → 
                               (kd S_17 p2 = 21 ∧ (((nI (ln S_17 p2)) ≤ x7_28 → (∀ v_32 : Int32, v_32 = (nI (ln S_17 p2)) - 1 → 
                                   ((v_32 < 0 → Q (wA S_17 F_29 (gJ S_17) R_21)) ∧ (¬ v_32 < 0 → (∃ a_34 : Nat, R_21 th 3 = some a_34 ∧ 
                                      (vp_in v_32 (ln S_17 p2) ∧ (kd S_17 a_34 = 21 ∧ (vp_in 0 (ln S_17 a_34) ∧ 
                                        (∀ v_38 : Int32, v_38 = F_29 p2 v_32.toNatClampNeg → (∀ F_39 : Nat → Nat → 
   Int32, F_39 = upI F_29 a_34 0 v_38 → (vp_in 1 (ln S_17 a_34) ∧ (∀ F_41 : Nat → Nat → Int32, F_41 = upI F_39 a_34 1 p3 → 
     (vp_in 2 (ln S_17 a_34) ∧ (∀ F_43 : Nat → Nat → Int32, F_43 = upI F_41 a_34 2 p4 → (∃ I_44 : Nat → Int32 → 
        (Nat → Nat → Int32) → Prop, (∃ k : Nat, I_44 k 0 F_43) ∧ ∀ (n_44 : Nat) (x8_45 : Int32) (F_46 : Nat → Nat → 
         Int32), I_44 n_44 x8_45 F_46 → ((3 ≤ x8_45 → Q (wA S_17 F_46 (gJ S_17) R_21)) ∧ (¬ 3 ≤ x8_45 → (∃ a_48 : Nat, R_21 th 4 = some a_48 ∧ 
           (vp_in v_32 (ln S_17 a_22) ∧ (vp_in x8_45 (ln S_17 a_34) ∧ (P_X4_moved (F_46 a_22 v_32.toNatClampNeg) (F_46 a_34 x8_45.toNatClampNeg) (fun (r_51 : Int32) => (kd S_17 a_48 = 21 ∧ 
                (vp_in x8_45 (ln S_17 a_48) ∧ (∀ F_54 : Nat → Nat → Int32, F_54 = upI F_46 a_48 x8_45.toNatClampNeg r_51 → 
                  (∀ v_55 : Int32, v_55 = x8_45 + 1 → (∃ k : Nat, k < n_44 ∧ I_44 k v_55 F_54))))))))))))))))))))))))))) ∧ 
                                 (¬ (nI (ln S_17 p2)) ≤ x7_28 → (vp_in x7_28 (ln S_17 a_22) ∧ (vp_in x7_28 (ln S_17 p2) ∧ 
                                    (P_X4_moved (F_29 a_22 x7_28.toNatClampNeg) (F_29 p2 x7_28.toNatClampNeg) (fun (r_58 : Int32) => (vp_in (x7_28 + 1) (ln S_17 a_22) ∧ 
                                       (∀ F_60 : Nat → Nat → Int32, F_60 = upI F_29 a_22 ((x7_28 + 1).toNatClampNeg) r_58 → 
                                        (∀ v_61 : Int32, v_61 = x7_28 + 1 → (∃ k : Nat, k < n_27 ∧ I_27 k v_61 F_60))))))))))))))))))))))))))))))))))))))))
set_option maxRecDepth 100000 in
def P_X1_made (th : Nat) (S : St) (bc bs : Nat) (Q : Option Nat → St → Prop) : Prop :=
  (kd S th = 2 ∧ (∀ v_2 : Int32, v_2 = gI S th 2 → (¬ v_2 < 0 ∧ (v_2.toNatClampNeg * 4 ≤ 536870912 ∧ (1 ≤ bc ∧ (v_2.toNatClampNeg ≤ bs ∧ 
        (∀ q_1 : Nat, kd S q_1 = 0 → ∀ S_1 : St, S_1 = alo S q_1 24 v_2.toNatClampNeg → (∃ I_7 : Nat → Int32 → 
          St → Nat → Nat → Prop, (∃ k : Nat, I_7 k 0 S_1 (bc - 1) (bs - v_2.toNatClampNeg)) ∧ ∀ (n_7 : Nat) (x2_8 : Int32) (S_9 : St) (b_10 : Nat) (d_10 : Nat), I_7 n_7 x2_8 S_9 b_10 d_10 → 
          (kd S_9 th = 2 ∧ (((gI S_9 th 2) ≤ x2_8 → (1 ≤ b_10 ∧ (4 ≤ d_10 ∧ (∀ q_13 : Nat, kd S_9 q_13 = 0 → ∀ S_13 : St, S_13 = alo S_9 q_13 1 0 → 
                (kd S_13 th = 2 ∧ (P_X4_allBells (gI S_13 th 1) (fun (r_17 : Int32) => (P_X0_init q_13 (gI S_13 th 1) (r_17 &&& ((gI S_13 th 4) ^^^ (-1))) q_1 S_13 (fun (F_18 : Nat → 
                      Nat → Int32) (R_18 : Nat → Nat → Option Nat) => Q (some q_13) (wA S_13 F_18 (gJ S_13) R_18)))))))))) ∧ 
            (¬ (gI S_9 th 2) ≤ x2_8 → (∃ a_19 : Nat, gR S_9 th 8 = some a_19 ∧ (kd S_9 a_19 = 27 ∧ (vp_in x2_8 (ln S_9 a_19) ∧ 
                (∃ a_22 : Nat, gR S_9 a_19 x2_8.toNatClampNeg = some a_22 ∧ (∃ a_23 : Nat, gR S_9 th 9 = some a_23 ∧ 
                  (kd S_9 a_23 = 21 ∧ (vp_in x2_8 (ln S_9 a_23) ∧ (∃ c_26 s_26 : Nat, c_26 ≤ b_10 ∧ s_26 ≤ d_10 ∧ 
                     (P_J7_copyOf_59c91 a_22 (gI S_9 a_23 x2_8.toNatClampNeg) S_9 c_26 s_26 (fun (r_27 : Option Nat) (S_27 : St) => (1 ≤ b_10 - c_26 ∧ 
                        (5 ≤ d_10 - s_26 ∧ (∀ q_28 : Nat, kd S_27 q_28 = 0 → ∀ S_28 : St, S_28 = alo S_27 q_28 4 0 → 
                          (kd S_28 th = 2 ∧ (∃ a_32 : Nat, gR S_28 th 7 = some a_32 ∧ (kd S_28 a_32 = 22 ∧ (vp_in x2_8 (ln S_28 a_32) ∧ 
                              (∃ a_35 : Nat, r_27 = some a_35 ∧ (∃ a_36 : Nat, gR S_28 th 10 = some a_36 ∧ (kd S_28 a_36 = 21 ∧ 
                                 (vp_in x2_8 (ln S_28 a_36) ∧ (∃ a_39 : Nat, gR S_28 th 11 = some a_39 ∧ (kd S_28 a_39 = 21 ∧ 
                                    (vp_in x2_8 (ln S_28 a_39) ∧ (∃ c_42 s_42 : Nat, c_42 ≤ b_10 - c_26 - 1 ∧ s_42 ≤ d_10 - s_26 - 5 ∧ 
                                      (P_X3_init q_28 (gJ S_28 a_32 x2_8.toNatClampNeg) (gI S_28 th 1) a_35 (gI S_28 a_36 x2_8.toNatClampNeg) (gI S_28 a_39 x2_8.toNatClampNeg) S_28 c_42 s_42 (fun (S_43 : St) => (kd S_43 q_1 = 24 ∧ 
                                        (vp_in x2_8 (ln S_43 q_1) ∧ (kd S_43 q_28 = 4 ∧ (∀ R_47 : Nat → Nat → Option Nat, R_47 = upR (gR S_43) q_1 x2_8.toNatClampNeg (some q_28) → 
    (∀ v_48 : Int32, v_48 = x2_8 + 1 → (∃ k : Nat, k < n_7 ∧ I_7 k v_48 (wA S_43 (gI S_43) (gJ S_43) R_47) (b_10 - c_26 - 1 - c_42) (d_10 - s_26 - 5 - s_42)))))))))))))))))))))))))))))))))))))))))))))
set_option maxRecDepth 100000 in
def P_X11_answer (th : Nat) (p0 : Int32) (S : St) (Q : Int32 → (Nat → Nat → Int32) → Prop) : Prop :=
  (kd S th = 11 ∧ (∀ F_1 : Nat → Nat → Int32, F_1 = upI (gI S) th 0 0 → Q p0 F_1))
set_option maxRecDepth 100000 in
def P_X11_book (th : Nat) (p0 : Int32) (S : St) (bc bs : Nat) (Q : Int32 → St → Prop) : Prop :=
  (kd S th = 11 ∧ (∃ J_2 : Prop, (J_2 → (P_X11_refuse th 1 S (fun (r_3 : Int32) (F_3 : Nat → Nat → Int32) => Q r_3 (wI S F_3)))) ∧ 
    ((p0 < 0 → J_2) ∧ (¬ p0 < 0 → (∃ a_4 : Nat, gR S th 4 = some a_4 ∧ (kd S a_4 = 7 ∧ ((p0 ≤ (gI S a_4 1) → (∃ a_7 : Nat, gR S th 5 = some a_7 ∧ 
           (kd S a_7 = 2 ∧ (P_X1_takes a_7 p0 S (fun (r_9 : Int32) (F_9 : Nat → Nat → Int32) (J_9 : Nat → Nat → 
               Int64) => ((¬ r_9 = 0 → (∃ c_11 s_11 : Nat, c_11 ≤ bc ∧ s_11 ≤ bs ∧ (P_X1_made a_7 (wA S F_9 J_9 (gR S)) c_11 s_11 (fun (r_12 : Option Nat) (S_12 : St) => (kd S_12 th = 11 ∧ 
                    (∀ R_14 : Nat → Nat → Option Nat, R_14 = upR (gR S_12) th 7 r_12 → (∀ R_15 : Nat → Nat → Option Nat, R_15 = upR R_14 th 8 none → 
                      (∀ R_16 : Nat → Nat → Option Nat, R_16 = upR R_15 th 9 none → (∃ a_17 : Nat, R_16 th 7 = some a_17 ∧ 
                        (kd S_12 a_17 = 1 ∧ (∃ a_19 : Nat, R_16 a_17 3 = some a_19 ∧ (kd S_12 a_19 = 24 ∧ (P_X11_answer th (nI (ln S_12 a_19)) (wA S_12 (gI S_12) (gJ S_12) R_16) (fun (r_21 : Int32) (F_21 : Nat → 
                              Nat → Int32) => Q r_21 (wA S_12 F_21 (gJ S_12) R_16))))))))))))))) ∧ (r_9 = 0 → (P_X11_refuse th 9 (wA S F_9 J_9 (gR S)) (fun (r_22 : Int32) (F_22 : Nat → 
                   Nat → Int32) => Q r_22 (wA S F_22 J_9 (gR S))))))))))) ∧ (¬ p0 ≤ (gI S a_4 1) → J_2))))))))
set_option maxRecDepth 100000 in
def P_X9_addLine (th : Nat) (p0 : Int32) (S : St) (Q : (Nat → Nat → Int32) → (Nat → Nat → Option Nat) → Prop) : Prop :=
  (kd S th = 9 ∧ ((60 ≤ (gI S th 3) → Q (gI S) (gR S)) ∧ (¬ 60 ≤ (gI S th 3) → (∃ a_2 : Nat, gR S th 4 = some a_2 ∧ 
      (kd S a_2 = 21 ∧ (vp_in (gI S th 3) (ln S a_2) ∧ (∀ F_5 : Nat → Nat → Int32, F_5 = upI (gI S) a_2 ((gI S th 3).toNatClampNeg) p0 → 
         (∃ a_6 : Nat, gR S th 5 = some a_6 ∧ (kd S a_6 = 21 ∧ (vp_in (F_5 th 3) (ln S a_6) ∧ (∀ F_9 : Nat → Nat → 
             Int32, F_9 = upI F_5 a_6 ((F_5 th 3).toNatClampNeg) 0 → (∃ a_10 : Nat, gR S th 6 = some a_10 ∧ (kd S a_10 = 24 ∧ 
               (vp_in (F_9 th 3) (ln S a_10) ∧ (∀ R_13 : Nat → Nat → Option Nat, R_13 = upR (gR S) a_10 ((F_9 th 3).toNatClampNeg) none → 
                 (∀ v_14 : Int32, v_14 = (F_9 th 3) + 1 → (∀ F_15 : Nat → Nat → Int32, F_15 = upI F_9 th 3 v_14 → 
                   Q F_15 R_13)))))))))))))))))
set_option maxRecDepth 100000 in
def P_X9_takesEnd (th : Nat) (S : St) (Q : Int32 → (Nat → Nat → Int32) → (Nat → Nat → Int64) → (Nat → Nat → Option Nat) → Prop) : Prop :=
  (kd S th = 9 ∧ ((¬ (gI S th 2) = 0 → (∀ v_2 : Int32, v_2 = (gI S th 2) - 1 → (∀ F_3 : Nat → Nat → Int32, F_3 = upI (gI S) th 2 v_2 → 
       (P_X9_addLine th 16 (wI S F_3) (fun (F_4 : Nat → Nat → Int32) (R_4 : Nat → Nat → Option Nat) => (∃ a_5 : Nat, R_4 th 0 = some a_5 ∧ 
          (kd S a_5 = 7 ∧ (P_X7_next a_5 (wA S F_4 (gJ S) R_4) (fun (F_7 : Nat → Nat → Int32) (J_7 : Nat → Nat → 
              Int64) => (P_X7_take a_5 2 (wA S F_7 J_7 R_4) (fun (r_8 : Int32) (F_8 : Nat → Nat → Int32) (J_8 : Nat → 
                Nat → Int64) => ((r_8 = 0 ∨ r_8 = 1) ∧ Q r_8 F_8 J_8 R_4)))))))))))) ∧ ((gI S th 2) = 0 → (∃ a_9 : Nat, gR S th 0 = some a_9 ∧ 
      (kd S a_9 = 7 ∧ (P_X7_misplaced a_9 S (fun (r_11 : Int32) (F_11 : Nat → Nat → Int32) => ((r_11 = 0 ∨ r_11 = 1) ∧ 
          Q r_11 F_11 (gJ S) (gR S)))))))))
set_option maxRecDepth 100000 in
def P_X9_isStep (p0 : Int32) (Q : Int32 → Prop) : Prop :=
  ((p0 = 10 → Q 1) ∧ (¬ p0 = 10 → ((p0 = 11 → Q 1) ∧ (¬ p0 = 11 → ((p0 = 12 → Q 0) ∧ (¬ p0 = 12 → ((p0 = 13 → Q 1) ∧ 
         (¬ p0 = 13 → ((p0 = 14 → Q 1) ∧ (¬ p0 = 14 → ((p0 = 15 → Q 1) ∧ (¬ p0 = 15 → ((p0 = 16 → Q 0) ∧ (¬ p0 = 16 → 
                ((p0 = 17 → Q 1) ∧ (¬ p0 = 17 → Q 0))))))))))))))))
set_option maxRecDepth 100000 in
def P_X9_takesCount (th : Nat) (p0 : Int32) (S : St) (Q : Int32 → (Nat → Nat → Int32) → (Nat → Nat → Int64) → Prop) : Prop :=
  (kd S th = 9 ∧ (∃ a_1 : Nat, gR S th 0 = some a_1 ∧ (kd S a_1 = 7 ∧ (P_X7_isAt a_1 3 S (fun (r_3 : Int32) => ((¬ r_3 = 0 → 
         (∃ J_6 : Prop, (J_6 → (P_X7_wrong a_1 4 S (fun (r_7 : Int32) (F_7 : Nat → Nat → Int32) => ((r_7 = 0 ∨ r_7 = 1) ∧ 
              Q r_7 F_7 (gJ S))))) ∧ (((gI S a_1 7) < 1 → J_6) ∧ (¬ (gI S a_1 7) < 1 → (((gI S a_1 7) ≤ p0 → (∃ J_10 : (Nat → 
                Nat → Int32) → Prop, (∀ (F_11 : Nat → Nat → Int32), J_10 F_11 → (P_X7_next a_1 (wI S F_11) (fun (F_12 : Nat → 
                   Nat → Int32) (J_12 : Nat → Nat → Int64) => Q 1 F_12 J_12))) ∧ (((gI S th 3) ≤ 0 → J_10 (gI S)) ∧ 
                (¬ (gI S th 3) ≤ 0 → (∃ a_13 : Nat, gR S th 5 = some a_13 ∧ (kd S a_13 = 21 ∧ (vp_in ((gI S th 3) - 1) (ln S a_13) ∧ 
                    (∀ v_16 : Int32, v_16 = gI S a_1 7 → (∀ F_17 : Nat → Nat → Int32, F_17 = upI (gI S) a_13 (((gI S th 3) - 1).toNatClampNeg) v_16 → 
                      J_10 F_17))))))))) ∧ (¬ (gI S a_1 7) ≤ p0 → J_6)))))) ∧ (r_3 = 0 → (P_X7_misplaced a_1 S (fun (r_18 : Int32) (F_18 : Nat → 
            Nat → Int32) => ((r_18 = 0 ∨ r_18 = 1) ∧ Q r_18 F_18 (gJ S)))))))))))
set_option maxRecDepth 100000 in
def P_X0_methodNamed (th : Nat) (p0 : Int64) (S : St) (Q : Option Nat → Prop) : Prop :=
  (kd S th = 1 ∧ (∃ I_1 : Nat → Int32 → Prop, (∃ k : Nat, I_1 k 0) ∧ ∀ (n_1 : Nat) (x3_2 : Int32), I_1 n_1 x3_2 → 
    (∃ a_3 : Nat, gR S th 3 = some a_3 ∧ (kd S a_3 = 24 ∧ (((nI (ln S a_3)) ≤ x3_2 → Q none) ∧ (¬ (nI (ln S a_3)) ≤ x3_2 → 
        (vp_in x3_2 (ln S a_3) ∧ (∃ a_7 : Nat, gR S a_3 x3_2.toNatClampNeg = some a_7 ∧ (kd S a_7 = 4 ∧ ((¬ (lg_cmp (gJ S a_7 0) p0) = 0 → 
             (∀ v_10 : Int32, v_10 = x3_2 + 1 → (∃ k : Nat, k < n_1 ∧ I_1 k v_10))) ∧ ((lg_cmp (gJ S a_7 0) p0) = 0 → 
             Q (gR S a_3 x3_2.toNatClampNeg))))))))))))
set_option maxRecDepth 100000 in
def P_X3_length (th : Nat) (S : St) (Q : Int32 → Prop) : Prop :=
  (kd S th = 4 ∧ (∃ a_1 : Nat, gR S th 1 = some a_1 ∧ (kd S a_1 = 21 ∧ Q (nI (ln S a_1)))))
set_option maxRecDepth 100000 in
def P_X9_takesMethodName (th : Nat) (p0 : Nat) (S : St) (Q : Int32 → (Nat → Nat → Int32) → (Nat → Nat → Int64) → (Nat → Nat → Option Nat) → Prop) : Prop :=
  (kd S th = 9 ∧ (∃ a_1 : Nat, gR S th 0 = some a_1 ∧ (kd S a_1 = 7 ∧ (P_X7_isAt a_1 4 S (fun (r_3 : Int32) => ((¬ r_3 = 0 → 
         (kd S p0 = 1 ∧ (P_X0_methodNamed p0 (gJ S a_1 8) S (fun (r_6 : Option Nat) => ((¬ r_6 = none → (∃ J_9 : (Nat → 
                Nat → Int32) → (Nat → Nat → Option Nat) → Prop, (∀ (F_10 : Nat → Nat → Int32) (R_11 : Nat → Nat → 
                 Option Nat), J_9 F_10 R_11 → (∃ a_12 : Nat, R_11 th 0 = some a_12 ∧ (kd S a_12 = 7 ∧ (P_X7_next a_12 (wA S F_10 (gJ S) R_11) (fun (F_14 : Nat → 
                     Nat → Int32) (J_14 : Nat → Nat → Int64) => Q 1 F_14 J_14 R_11))))) ∧ (((gI S th 3) ≤ 0 → J_9 (gI S) (gR S)) ∧ 
                (¬ (gI S th 3) ≤ 0 → (∃ a_15 : Nat, gR S th 6 = some a_15 ∧ (kd S a_15 = 24 ∧ (vp_in ((gI S th 3) - 1) (ln S a_15) ∧ 
                    ((∀ v : Nat, r_6 = some v → kd S v = 4) ∧ (∀ R_19 : Nat → Nat → Option Nat, R_19 = upR (gR S) a_15 (((gI S th 3) - 1).toNatClampNeg) r_6 → 
                      (∃ a_20 : Nat, R_19 th 5 = some a_20 ∧ (∃ a_21 : Nat, r_6 = some a_21 ∧ (kd S a_21 = 4 ∧ 
                         (P_X3_length a_21 (wA S (gI S) (gJ S) R_19) (fun (r_23 : Int32) => (kd S a_20 = 21 ∧ (vp_in ((gI S th 3) - 1) (ln S a_20) ∧ 
                             (∀ F_26 : Nat → Nat → Int32, F_26 = upI (gI S) a_20 (((gI S th 3) - 1).toNatClampNeg) r_23 → 
                              J_9 F_26 R_19))))))))))))))))) ∧ (r_6 = none → (P_X7_wrong a_1 3 S (fun (r_27 : Int32) (F_27 : Nat → 
                 Nat → Int32) => ((r_27 = 0 ∨ r_27 = 1) ∧ Q r_27 F_27 (gJ S) (gR S)))))))))) ∧ (r_3 = 0 → (P_X7_misplaced a_1 S (fun (r_28 : Int32) (F_28 : Nat → 
            Nat → Int32) => ((r_28 = 0 ∨ r_28 = 1) ∧ Q r_28 F_28 (gJ S) (gR S)))))))))))
set_option maxRecDepth 100000 in
def P_X9_lastCount (th : Nat) (S : St) (Q : Int32 → Prop) : Prop :=
  (kd S th = 9 ∧ (((gI S th 3) ≤ 0 → Q 0) ∧ (¬ (gI S th 3) ≤ 0 → (∃ a_2 : Nat, gR S th 5 = some a_2 ∧ (kd S a_2 = 21 ∧ 
       (vp_in ((gI S th 3) - 1) (ln S a_2) ∧ Q (gI S a_2 (((gI S th 3) - 1).toNatClampNeg))))))))
set_option maxRecDepth 100000 in
def P_X9_takesStep (th : Nat) (p0 : Nat) (S : St) (Q : Int32 → (Nat → Nat → Int32) → (Nat → Nat → Int64) → (Nat → Nat → Option Nat) → Prop) : Prop :=
  (kd S th = 9 ∧ (∃ a_1 : Nat, gR S th 0 = some a_1 ∧ (kd S a_1 = 7 ∧ (∀ v_3 : Int32, v_3 = gI S a_1 6 → (P_X9_isStep v_3 (fun (r_4 : Int32) => ((¬ r_4 = 0 → 
          (((gI S th 1) < 30 → (∃ J_8 : Prop, (J_8 → (∀ v_9 : Int32, v_9 = (gI S th 1) + 1 → (∀ F_10 : Nat → Nat → 
                Int32, F_10 = upI (gI S) th 1 v_9 → (P_X9_addLine th v_3 (wI S F_10) (fun (F_11 : Nat → Nat → Int32) (R_11 : Nat → 
                   Nat → Option Nat) => (∃ a_12 : Nat, R_11 th 0 = some a_12 ∧ (kd S a_12 = 7 ∧ (P_X7_next a_12 (wA S F_11 (gJ S) R_11) (fun (F_14 : Nat → 
                       Nat → Int32) (J_14 : Nat → Nat → Int64) => ((¬ v_3 = 15 → (∃ J_17 : (Nat → Nat → Int32) → 
                         (Nat → Nat → Int64) → (Nat → Nat → Option Nat) → Prop, (∀ (F_18 : Nat → Nat → Int32) (J_19 : Nat → 
                           Nat → Int64) (R_20 : Nat → Nat → Option Nat), J_17 F_18 J_19 R_20 → (∃ J_22 : (Nat → 
                            Nat → Int32) → (Nat → Nat → Int64) → Prop, (∀ (F_23 : Nat → Nat → Int32) (J_24 : Nat → 
                             Nat → Int64), J_22 F_23 J_24 → (∃ a_25 : Nat, R_20 th 0 = some a_25 ∧ (kd S a_25 = 7 ∧ 
                              (P_X7_take a_25 2 (wA S F_23 J_24 R_20) (fun (r_27 : Int32) (F_27 : Nat → Nat → Int32) (J_27 : Nat → 
                                 Nat → Int64) => ((r_27 = 0 ∨ r_27 = 1) ∧ Q r_27 F_27 J_27 R_20)))))) ∧ ((¬ v_3 = 14 → 
                             J_22 F_18 J_19) ∧ (v_3 = 14 → (P_X9_lastCount th (wA S F_18 J_19 R_20) (fun (r_28 : Int32) => (P_X9_takesCount th r_28 (wA S F_18 J_19 R_20) (fun (r_29 : Int32) (F_29 : Nat → 
                                  Nat → Int32) (J_29 : Nat → Nat → Int64) => ((¬ r_29 = 0 → J_22 F_29 J_29) ∧ (r_29 = 0 → 
                                   Q 0 F_29 J_29 R_20)))))))))) ∧ ((v_3 = 17 → J_17 F_14 J_14 R_11) ∧ (¬ v_3 = 17 → 
                           (P_X9_takesMethodName th p0 (wA S F_14 J_14 R_11) (fun (r_31 : Int32) (F_31 : Nat → 
                              Nat → Int32) (J_31 : Nat → Nat → Int64) (R_31 : Nat → Nat → Option Nat) => ((¬ r_31 = 0 → 
                               J_17 F_31 J_31 R_31) ∧ (r_31 = 0 → Q 0 F_31 J_31 R_31)))))))) ∧ (v_3 = 15 → (∀ v_33 : Int32, v_33 = (F_14 th 2) + 1 → 
                         (∀ F_34 : Nat → Nat → Int32, F_34 = upI F_14 th 2 v_33 → (P_X9_takesCount th 99 (wA S F_34 J_14 R_11) (fun (r_35 : Int32) (F_35 : Nat → 
                             Nat → Int32) (J_35 : Nat → Nat → Int64) => ((r_35 = 0 → Q 0 F_35 J_35 R_11) ∧ (¬ r_35 = 0 → 
                              (P_X7_take a_12 2 (wA S F_35 J_35 R_11) (fun (r_37 : Int32) (F_37 : Nat → Nat → Int32) (J_37 : Nat → 
                                 Nat → Int64) => ((r_37 = 0 → Q 0 F_37 J_37 R_11) ∧ (¬ r_37 = 0 → Q 1 F_37 J_37 R_11))))))))))))))))))))) ∧ 
             ((¬ v_3 = 15 → J_8) ∧ (v_3 = 15 → (((gI S th 2) < 3 → J_8) ∧ (¬ (gI S th 2) < 3 → (P_X7_wrong a_1 7 S (fun (r_40 : Int32) (F_40 : Nat → 
                    Nat → Int32) => ((r_40 = 0 ∨ r_40 = 1) ∧ Q r_40 F_40 (gJ S) (gR S)))))))))) ∧ (¬ (gI S th 1) < 30 → 
            (P_X7_wrong a_1 6 S (fun (r_41 : Int32) (F_41 : Nat → Nat → Int32) => ((r_41 = 0 ∨ r_41 = 1) ∧ Q r_41 F_41 (gJ S) (gR S))))))) ∧ 
         (r_4 = 0 → (P_X7_misplaced a_1 S (fun (r_42 : Int32) (F_42 : Nat → Nat → Int32) => ((r_42 = 0 ∨ r_42 = 1) ∧ 
             Q r_42 F_42 (gJ S) (gR S))))))))))))
set_option maxRecDepth 100000 in
def P_X9_takes (th : Nat) (p0 : Int32) (p1 : Nat) (S : St) (Q : Int32 → (Nat → Nat → Int32) → (Nat → Nat → Int64) → (Nat → Nat → Option Nat) → Prop) : Prop :=
  (kd S th = 9 ∧ (∀ F_1 : Nat → Nat → Int32, F_1 = upI (gI S) th 1 0 → (∀ F_2 : Nat → Nat → Int32, F_2 = upI F_1 th 2 0 → 
     (∀ F_3 : Nat → Nat → Int32, F_3 = upI F_2 th 3 0 → (∃ a_4 : Nat, gR S th 0 = some a_4 ∧ (kd S a_4 = 7 ∧ (P_X7_open a_4 p0 (wI S F_3) (fun (F_6 : Nat → 
           Nat → Int32) (J_6 : Nat → Nat → Int64) => (∃ I_7 : Nat → Int32 → (Nat → Nat → Int32) → (Nat → Nat → 
            Int64) → (Nat → Nat → Option Nat) → Prop, (∃ k : Nat, I_7 k 0 F_6 J_6 (gR S)) ∧ ∀ (n_7 : Nat) (x3_8 : Int32) (F_9 : Nat → 
            Nat → Int32) (J_10 : Nat → Nat → Int64) (R_11 : Nat → Nat → Option Nat), I_7 n_7 x3_8 F_9 J_10 R_11 → 
           (∃ J_13 : Prop, (J_13 → (((F_9 th 2) = 0 → Q 1 F_9 J_10 R_11) ∧ (¬ (F_9 th 2) = 0 → (∃ a_15 : Nat, R_11 th 0 = some a_15 ∧ 
                (kd S a_15 = 7 ∧ (P_X7_misplaced a_15 (wA S F_9 J_10 R_11) (fun (r_17 : Int32) (F_17 : Nat → Nat → 
                    Int32) => ((r_17 = 0 → Q 0 F_17 J_10 R_11) ∧ (¬ r_17 = 0 → Q 1 F_17 J_10 R_11))))))))) ∧ ((300 < x3_8 → 
              J_13) ∧ (¬ 300 < x3_8 → (∃ a_19 : Nat, R_11 th 0 = some a_19 ∧ (kd S a_19 = 7 ∧ (P_X7_isAt a_19 1 (wA S F_9 J_10 R_11) (fun (r_21 : Int32) => ((¬ r_21 = 0 → 
                    J_13) ∧ (r_21 = 0 → (P_X7_isAt a_19 16 (wA S F_9 J_10 R_11) (fun (r_23 : Int32) => (∃ J_25 : Int32 → 
                       (Nat → Nat → Int32) → (Nat → Nat → Int64) → (Nat → Nat → Option Nat) → Prop, (∀ (t_26 : Int32) (F_27 : Nat → 
                         Nat → Int32) (J_28 : Nat → Nat → Int64) (R_29 : Nat → Nat → Option Nat), J_25 t_26 F_27 J_28 R_29 → 
                        ((¬ t_26 = 0 → (∀ v_31 : Int32, v_31 = x3_8 + 1 → (∃ k : Nat, k < n_7 ∧ I_7 k v_31 F_27 J_28 R_29))) ∧ 
                         (t_26 = 0 → Q 0 F_27 J_28 R_29))) ∧ ((r_23 = 0 → (P_X9_takesStep th p1 (wA S F_9 J_10 R_11) (fun (r_32 : Int32) (F_32 : Nat → 
                            Nat → Int32) (J_32 : Nat → Nat → Int64) (R_32 : Nat → Nat → Option Nat) => J_25 r_32 F_32 J_32 R_32))) ∧ 
                        (¬ r_23 = 0 → (P_X9_takesEnd th (wA S F_9 J_10 R_11) (fun (r_33 : Int32) (F_33 : Nat → 
                            Nat → Int32) (J_33 : Nat → Nat → Int64) (R_33 : Nat → Nat → Option Nat) => J_25 r_33 F_33 J_33 R_33)))))))))))))))))))))))))
set_option maxRecDepth 100000 in
def P_X9_behindEnd (th : Nat) (p0 : Int32) (S : St) (Q : Int32 → (Nat → Nat → Int32) → Prop) : Prop :=
  (kd S th = 9 ∧ (((gI S th 2) ≤ 0 → Q (p0 + 1) (gI S)) ∧ (¬ (gI S th 2) ≤ 0 → (∃ a_2 : Nat, gR S th 8 = some a_2 ∧ 
      (kd S a_2 = 21 ∧ (vp_in ((gI S th 2) - 1) (ln S a_2) ∧ (∀ v_5 : Int32, v_5 = (gI S a_2 (((gI S th 2) - 1).toNatClampNeg)) - 1 → 
         (∀ F_6 : Nat → Nat → Int32, F_6 = upI (gI S) a_2 (((gI S th 2) - 1).toNatClampNeg) v_5 → (vp_in ((F_6 th 2) - 1) (ln S a_2) ∧ 
           (((F_6 a_2 (((F_6 th 2) - 1).toNatClampNeg)) ≤ 0 → (∀ v_9 : Int32, v_9 = (F_6 th 2) - 1 → (∀ F_10 : Nat → 
               Nat → Int32, F_10 = upI F_6 th 2 v_9 → Q (p0 + 1) F_10))) ∧ (¬ (F_6 a_2 (((F_6 th 2) - 1).toNatClampNeg)) ≤ 0 → 
             (∃ a_11 : Nat, gR S th 7 = some a_11 ∧ (kd S a_11 = 21 ∧ (vp_in ((F_6 th 2) - 1) (ln S a_11) ∧ Q (F_6 a_11 (((F_6 th 2) - 1).toNatClampNeg)) F_6))))))))))))))
set_option maxRecDepth 100000 in
def P_X9_beginLoop (th : Nat) (p0 : Int32) (S : St) (Q : (Nat → Nat → Int32) → Prop) : Prop :=
  (kd S th = 9 ∧ ((3 ≤ (gI S th 2) → Q (gI S)) ∧ (¬ 3 ≤ (gI S th 2) → (∃ a_2 : Nat, gR S th 7 = some a_2 ∧ (kd S a_2 = 21 ∧ 
       (vp_in (gI S th 2) (ln S a_2) ∧ (∀ v_5 : Int32, v_5 = p0 + 1 → (∀ F_6 : Nat → Nat → Int32, F_6 = upI (gI S) a_2 ((gI S th 2).toNatClampNeg) v_5 → 
          (∃ a_7 : Nat, gR S th 8 = some a_7 ∧ (∃ a_8 : Nat, gR S th 5 = some a_8 ∧ (kd S a_8 = 21 ∧ (vp_in p0 (ln S a_8) ∧ 
              (kd S a_7 = 21 ∧ (vp_in (F_6 th 2) (ln S a_7) ∧ (∀ v_13 : Int32, v_13 = F_6 a_8 p0.toNatClampNeg → 
                 (∀ F_14 : Nat → Nat → Int32, F_14 = upI F_6 a_7 ((F_6 th 2).toNatClampNeg) v_13 → (∀ v_15 : Int32, v_15 = (F_14 th 2) + 1 → 
                   (∀ F_16 : Nat → Nat → Int32, F_16 = upI F_14 th 2 v_15 → Q F_16))))))))))))))))))
set_option maxRecDepth 100000 in
def P_X3_moveAt (th : Nat) (p0 : Int32) (p1 : Int32) (S : St) (Q : Int32 → Prop) : Prop :=
  (kd S th = 4 ∧ (∃ a_1 : Nat, gR S th 1 = some a_1 ∧ (kd S a_1 = 21 ∧ ((¬ p1 = ((nI (ln S a_1)) - 1) → (vp_in p1 (ln S a_1) ∧ 
        Q (gI S a_1 p1.toNatClampNeg))) ∧ (p1 = ((nI (ln S a_1)) - 1) → (∃ a_5 : Nat, gR S th 3 = some a_5 ∧ (kd S a_5 = 21 ∧ 
         (vp_in p0 (ln S a_5) ∧ Q (gI S a_5 p0.toNatClampNeg)))))))))
set_option maxRecDepth 100000 in
def P_X9_ringLead (th : Nat) (p0 : Int32) (S : St) (Q : (Nat → Nat → Int32) → Prop) : Prop :=
  (kd S th = 9 ∧ (∃ a_1 : Nat, gR S th 6 = some a_1 ∧ (kd S a_1 = 24 ∧ (vp_in p0 (ln S a_1) ∧ ((¬ gR S a_1 p0.toNatClampNeg = none → 
        (∃ a_5 : Nat, gR S th 4 = some a_5 ∧ (kd S a_5 = 21 ∧ (vp_in p0 (ln S a_5) ∧ (∃ J_9 : Int32 → Prop, (∀ (t_10 : Int32), J_9 t_10 → 
             (∃ a_11 : Nat, gR S th 5 = some a_11 ∧ (kd S a_11 = 21 ∧ (vp_in p0 (ln S a_11) ∧ (∃ a_14 : Nat, gR S a_1 p0.toNatClampNeg = some a_14 ∧ 
                 (kd S a_14 = 4 ∧ (P_X3_length a_14 S (fun (r_16 : Int32) => (∀ v_17 : Int32, v_17 = imin (gI S a_11 p0.toNatClampNeg) (imin r_16 (2000 - (gI S th 10))) → 
                     (∃ I_18 : Nat → Int32 → (Nat → Nat → Int32) → Prop, (∃ k : Nat, I_18 k 0 (gI S)) ∧ ∀ (n_18 : Nat) (x5_19 : Int32) (F_20 : Nat → 
                       Nat → Int32), I_18 n_18 x5_19 F_20 → ((v_17 ≤ x5_19 → Q F_20) ∧ (¬ v_17 ≤ x5_19 → (∃ a_22 : Nat, gR S th 9 = some a_22 ∧ 
                         (P_X3_moveAt a_14 t_10 x5_19 (wI S F_20) (fun (r_23 : Int32) => (kd S a_22 = 21 ∧ (vp_in (F_20 th 10) (ln S a_22) ∧ 
                             (∀ F_26 : Nat → Nat → Int32, F_26 = upI F_20 a_22 ((F_20 th 10).toNatClampNeg) r_23 → 
                              (∀ v_27 : Int32, v_27 = (F_26 th 10) + 1 → (∀ F_28 : Nat → Nat → Int32, F_28 = upI F_26 th 10 v_27 → 
                                (∀ v_29 : Int32, v_29 = x5_19 + 1 → (∃ k : Nat, k < n_18 ∧ I_18 k v_29 F_28)))))))))))))))))))))) ∧ 
            ((¬ (gI S a_5 p0.toNatClampNeg) = 10 → ((¬ (gI S a_5 p0.toNatClampNeg) = 11 → J_9 0) ∧ ((gI S a_5 p0.toNatClampNeg) = 11 → 
                J_9 2))) ∧ ((gI S a_5 p0.toNatClampNeg) = 10 → J_9 1))))))) ∧ (gR S a_1 p0.toNatClampNeg = none → 
        Q (gI S)))))))
set_option maxRecDepth 100000 in
def P_X8_init (th : Nat) (p0 : Int32) (p1 : Int32) (p2 : Nat) (S : St) (bc bs : Nat) (Q : St → Prop) : Prop :=
  (kd S th = 8 ∧ (∀ F_1 : Nat → Nat → Int32, F_1 = upI (gI S) th 0 p0 → (∀ F_2 : Nat → Nat → Int32, F_2 = upI F_1 th 1 p1 → 
     (∀ R_3 : Nat → Nat → Option Nat, R_3 = upR (gR S) th 2 (some p2) → (kd S p2 = 21 ∧ (∀ v_6 : Int32, v_6 = (nI (ln S p2)) + 1 → 
        (¬ v_6 < 0 ∧ (v_6.toNatClampNeg * 4 ≤ 536870912 ∧ (1 ≤ bc ∧ (v_6.toNatClampNeg ≤ bs ∧ (∀ q_5 : Nat, kd S q_5 = 0 → 
             ∀ S_5 : St, S_5 = alo (wA S F_2 (gJ S) R_3) q_5 21 v_6.toNatClampNeg → (kd S_5 th = 8 ∧ (∀ R_12 : Nat → 
               Nat → Option Nat, R_12 = upR (gR S_5) th 3 (some q_5) → (∃ a_13 : Nat, R_12 th 3 = some a_13 ∧ (P_X4_roundsOf p0 (fun (r_14 : Int32) => (kd S_5 a_13 = 21 ∧ 
                   (vp_in 0 (ln S_5 a_13) ∧ (∀ F_17 : Nat → Nat → Int32, F_17 = upI (gI S_5) a_13 0 r_14 → (∃ I_18 : Nat → 
                      Int32 → (Nat → Nat → Int32) → Prop, (∃ k : Nat, I_18 k 0 F_17) ∧ ∀ (n_18 : Nat) (x4_19 : Int32) (F_20 : Nat → 
                       Nat → Int32), I_18 n_18 x4_19 F_20 → (kd S_5 p2 = 21 ∧ (((nI (ln S_5 p2)) ≤ x4_19 → Q (wA S_5 F_20 (gJ S_5) R_12)) ∧ 
                        (¬ (nI (ln S_5 p2)) ≤ x4_19 → (vp_in x4_19 (ln S_5 a_13) ∧ (vp_in x4_19 (ln S_5 p2) ∧ (P_X4_moved (F_20 a_13 x4_19.toNatClampNeg) (F_20 p2 x4_19.toNatClampNeg) (fun (r_25 : Int32) => (vp_in (x4_19 + 1) (ln S_5 a_13) ∧ 
                              (∀ F_27 : Nat → Nat → Int32, F_27 = upI F_20 a_13 ((x4_19 + 1).toNatClampNeg) r_25 → 
                               (∀ v_28 : Int32, v_28 = x4_19 + 1 → (∃ k : Nat, k < n_18 ∧ I_18 k v_28 F_27)))))))))))))))))))))))))))))))
set_option maxRecDepth 100000 in
def P_X9_made (th : Nat) (p0 : Nat) (S : St) (bc bs : Nat) (Q : Option Nat → St → Prop) : Prop :=
  (kd S th = 9 ∧ (∀ F_1 : Nat → Nat → Int32, F_1 = upI (gI S) th 10 0 → (∀ F_2 : Nat → Nat → Int32, F_2 = upI F_1 th 2 0 → 
     (∃ I_3 : Nat → Int32 → Int32 → Int32 → (Nat → Nat → Int32) → Prop, (∃ k : Nat, I_3 k 0 0 0 F_2) ∧ ∀ (n_3 : Nat) (x2_4 : Int32) (x3_5 : Int32) (x4_6 : Int32) (F_7 : Nat → 
       Nat → Int32), I_3 n_3 x2_4 x3_5 x4_6 F_7 → (∃ J_9 : Prop, (J_9 → (1 ≤ bc ∧ (4 ≤ bs ∧ (∀ q_10 : Nat, kd S q_10 = 0 → 
           ∀ S_10 : St, S_10 = alo (wI S F_7) q_10 8 0 → (kd S_10 p0 = 1 ∧ (kd S_10 th = 9 ∧ (∃ a_15 : Nat, gR S_10 th 9 = some a_15 ∧ 
              (∃ c_16 s_16 : Nat, c_16 ≤ bc - 1 ∧ s_16 ≤ bs - 4 ∧ (P_J7_copyOf_59c91 a_15 (gI S_10 th 10) S_10 c_16 s_16 (fun (r_17 : Option Nat) (S_17 : St) => (∃ a_18 : Nat, r_17 = some a_18 ∧ 
                  (∃ c_19 s_19 : Nat, c_19 ≤ bc - 1 - c_16 ∧ s_19 ≤ bs - 4 - s_16 ∧ (P_X8_init q_10 (gI S_10 p0 0) (gI S_10 th 1) a_18 S_17 c_19 s_19 (fun (S_20 : St) => Q (some q_10) S_20)))))))))))))) ∧ 
       ((30300 ≤ x4_6 → J_9) ∧ (¬ 30300 ≤ x4_6 → (((F_7 th 3) ≤ x3_5 → J_9) ∧ (¬ (F_7 th 3) ≤ x3_5 → (∃ a_22 : Nat, gR S th 4 = some a_22 ∧ 
            (kd S a_22 = 21 ∧ (vp_in x3_5 (ln S a_22) ∧ (∀ v_25 : Int32, v_25 = F_7 a_22 x3_5.toNatClampNeg → ((¬ v_25 = 16 → 
                 ((v_25 = 17 → J_9) ∧ (¬ v_25 = 17 → ((x2_4 < 300 → (∀ v_29 : Int32, v_29 = x2_4 + 1 → ((¬ v_25 = 15 → 
                        (P_X9_ringLead th x3_5 (wI S F_7) (fun (F_31 : Nat → Nat → Int32) => (∀ v_32 : Int32, v_32 = x3_5 + 1 → 
                           (∀ v_33 : Int32, v_33 = x4_6 + 1 → (∃ k : Nat, k < n_3 ∧ I_3 k v_29 v_32 v_33 F_31)))))) ∧ 
                       (v_25 = 15 → (P_X9_beginLoop th x3_5 (wI S F_7) (fun (F_34 : Nat → Nat → Int32) => (∀ v_35 : Int32, v_35 = x3_5 + 1 → 
                           (∀ v_36 : Int32, v_36 = x4_6 + 1 → (∃ k : Nat, k < n_3 ∧ I_3 k v_29 v_35 v_36 F_34))))))))) ∧ 
                    (¬ x2_4 < 300 → J_9))))) ∧ (v_25 = 16 → (P_X9_behindEnd th x3_5 (wI S F_7) (fun (r_37 : Int32) (F_37 : Nat → 
                    Nat → Int32) => (∀ v_38 : Int32, v_38 = x4_6 + 1 → (∃ k : Nat, k < n_3 ∧ I_3 k x2_4 r_37 v_38 F_37)))))))))))))))))))
set_option maxRecDepth 100000 in
def P_X11_touch (th : Nat) (p0 : Int32) (S : St) (bc bs : Nat) (Q : Int32 → St → Prop) : Prop :=
  (kd S th = 11 ∧ (∃ J_2 : Prop, (J_2 → (P_X11_refuse th 1 S (fun (r_3 : Int32) (F_3 : Nat → Nat → Int32) => Q r_3 (wI S F_3)))) ∧ 
    ((p0 < 0 → J_2) ∧ (¬ p0 < 0 → (∃ a_4 : Nat, gR S th 4 = some a_4 ∧ (kd S a_4 = 7 ∧ (((gI S a_4 1) < p0 → J_2) ∧ 
         (¬ (gI S a_4 1) < p0 → ((p0 ≤ 300 → (∃ a_8 : Nat, gR S th 6 = some a_8 ∧ (∃ a_9 : Nat, gR S th 7 = some a_9 ∧ 
              (kd S a_8 = 9 ∧ (P_X9_takes a_8 p0 a_9 S (fun (r_11 : Int32) (F_11 : Nat → Nat → Int32) (J_11 : Nat → 
                  Nat → Int64) (R_11 : Nat → Nat → Option Nat) => ((¬ r_11 = 0 → (∃ a_13 : Nat, R_11 th 6 = some a_13 ∧ 
                    (∃ a_14 : Nat, R_11 th 7 = some a_14 ∧ (kd S a_13 = 9 ∧ (∃ c_16 s_16 : Nat, c_16 ≤ bc ∧ s_16 ≤ bs ∧ 
                       (P_X9_made a_13 a_14 (wA S F_11 J_11 R_11) c_16 s_16 (fun (r_17 : Option Nat) (S_17 : St) => (kd S_17 th = 11 ∧ 
                          (∀ R_19 : Nat → Nat → Option Nat, R_19 = upR (gR S_17) th 8 r_17 → (∀ R_20 : Nat → Nat → 
                            Option Nat, R_20 = upR R_19 th 9 none → (∃ a_21 : Nat, R_20 th 8 = some a_21 ∧ (kd S_17 a_21 = 8 ∧ 
                              (P_X11_answer th (gI S_17 a_21 1) (wA S_17 (gI S_17) (gJ S_17) R_20) (fun (r_23 : Int32) (F_23 : Nat → 
                                 Nat → Int32) => Q r_23 (wA S_17 F_23 (gJ S_17) R_20))))))))))))))) ∧ (r_11 = 0 → 
                   (P_X11_refuse th 9 (wA S F_11 J_11 R_11) (fun (r_24 : Int32) (F_24 : Nat → Nat → Int32) => Q r_24 (wA S F_24 J_11 R_11))))))))))) ∧ 
           (¬ p0 ≤ 300 → J_2))))))))))
set_option maxRecDepth 100000 in
def P_X11_fault (th : Nat) (p0 : Int32) (S : St) (Q : Int32 → Prop) : Prop :=
  (kd S th = 11 ∧ ((¬ p0 = 0 → ((¬ p0 = 1 → Q (-1)) ∧ (p0 = 1 → (∃ a_3 : Nat, gR S th 4 = some a_3 ∧ (kd S a_3 = 7 ∧ 
         Q (gI S a_3 10)))))) ∧ (p0 = 0 → (∃ a_5 : Nat, gR S th 4 = some a_5 ∧ (kd S a_5 = 7 ∧ Q (gI S a_5 9))))))
set_option maxRecDepth 100000 in
def P_X8_last (th : Nat) (S : St) (Q : Int32 → Prop) : Prop :=
  (kd S th = 8 ∧ (∃ a_1 : Nat, gR S th 3 = some a_1 ∧ (kd S a_1 = 21 ∧ Q ((nI (ln S a_1)) - 1))))
set_option maxRecDepth 100000 in
def P_X11_told (th : Nat) (p0 : Int32) (S : St) (Q : Int32 → (Nat → Nat → Int32) → Prop) : Prop :=
  (kd S th = 11 ∧ ((p0 = 0 → (∃ a_2 : Nat, gR S th 7 = some a_2 ∧ (kd S a_2 = 1 ∧ (P_X11_answer th (gI S a_2 0) S (fun (r_4 : Int32) (F_4 : Nat → 
          Nat → Int32) => Q r_4 F_4))))) ∧ (¬ p0 = 0 → ((p0 = 1 → (∃ a_5 : Nat, gR S th 7 = some a_5 ∧ (kd S a_5 = 1 ∧ 
         (∃ a_7 : Nat, gR S a_5 3 = some a_7 ∧ (kd S a_7 = 24 ∧ (P_X11_answer th (nI (ln S a_7)) S (fun (r_9 : Int32) (F_9 : Nat → 
              Nat → Int32) => Q r_9 F_9))))))) ∧ (¬ p0 = 1 → ((p0 = 2 → (∃ a_10 : Nat, gR S th 7 = some a_10 ∧ 
          (kd S a_10 = 1 ∧ (P_X11_answer th (gI S a_10 1) S (fun (r_12 : Int32) (F_12 : Nat → Nat → Int32) => Q r_12 F_12))))) ∧ 
        (¬ p0 = 2 → ((p0 = 3 → (∃ a_13 : Nat, gR S th 7 = some a_13 ∧ (kd S a_13 = 1 ∧ (P_X11_answer th (gI S a_13 2) S (fun (r_15 : Int32) (F_15 : Nat → 
                Nat → Int32) => Q r_15 F_15))))) ∧ (¬ p0 = 3 → ((p0 = 4 → ((¬ gR S th 8 = none → (∃ a_17 : Nat, gR S th 8 = some a_17 ∧ 
                (kd S a_17 = 8 ∧ (P_X11_answer th (gI S a_17 1) S (fun (r_19 : Int32) (F_19 : Nat → Nat → Int32) => Q r_19 F_19))))) ∧ 
              (gR S th 8 = none → (P_X11_refuse th 6 S (fun (r_20 : Int32) (F_20 : Nat → Nat → Int32) => Q r_20 F_20))))) ∧ 
            (¬ p0 = 4 → ((p0 = 5 → ((¬ gR S th 9 = none → (∃ a_22 : Nat, gR S th 9 = some a_22 ∧ (kd S a_22 = 8 ∧ 
                   (P_X8_last a_22 S (fun (r_24 : Int32) => (P_X11_answer th r_24 S (fun (r_25 : Int32) (F_25 : Nat → 
                        Nat → Int32) => Q r_25 F_25))))))) ∧ (gR S th 9 = none → (P_X11_refuse th 6 S (fun (r_26 : Int32) (F_26 : Nat → 
                    Nat → Int32) => Q r_26 F_26))))) ∧ (¬ p0 = 5 → (P_X11_refuse th 1 S (fun (r_27 : Int32) (F_27 : Nat → 
                  Nat → Int32) => Q r_27 F_27)))))))))))))))
set_option maxRecDepth 100000 in
def P_X11_isRow (th : Nat) (p0 : Int32) (S : St) (Q : Int32 → Prop) : Prop :=
  (kd S th = 11 ∧ ((p0 < 0 → Q 0) ∧ (¬ p0 < 0 → (∃ a_2 : Nat, gR S th 7 = some a_2 ∧ (kd S a_2 = 1 ∧ (((gI S a_2 1) ≤ p0 → 
         Q 0) ∧ (¬ (gI S a_2 1) ≤ p0 → Q 1)))))))
set_option maxRecDepth 100000 in
def P_X11_isBell (th : Nat) (p0 : Int32) (S : St) (Q : Int32 → Prop) : Prop :=
  (kd S th = 11 ∧ ((p0 < 1 → Q 0) ∧ (¬ p0 < 1 → (∃ a_2 : Nat, gR S th 7 = some a_2 ∧ (kd S a_2 = 1 ∧ (((gI S a_2 0) < p0 → 
         Q 0) ∧ (¬ (gI S a_2 0) < p0 → Q 1)))))))
set_option maxRecDepth 100000 in
def P_X4_unrank (p0 : Int32) (p1 : Int32) (S : St) (Q : Int32 → Prop) : Prop :=
  (∃ I_1 : Nat → Int32 → Int32 → Int32 → Int32 → Prop, (∃ k : Nat, I_1 k 1985229328 p0 0 0) ∧ ∀ (n_1 : Nat) (x2_2 : Int32) (x3_3 : Int32) (x4_4 : Int32) (x5_5 : Int32), I_1 n_1 x2_2 x3_3 x4_4 x5_5 → 
   ((p1 ≤ x5_5 → Q x4_4) ∧ (¬ p1 ≤ x5_5 → (P_X4_many ((p1 - 1) - x5_5) (fun (r_7 : Int32) => (∀ v_8 : Int32, v_8 = imax 1 r_7 → 
        (¬ v_8 = 0 ∧ (∀ v_10 : Int32, v_10 = shl (x3_3 / v_8) 2 → (¬ v_8 = 0 ∧ (∀ v_12 : Int32, v_12 = irm x3_3 v_8 → 
            (∀ v_13 : Int32, v_13 = x4_4 ||| (shl ((ushr x2_2 v_10) &&& 7) (4 * x5_5)) → (∀ v_14 : Int32, v_14 = (shl 1 v_10) - 1 → 
              (∀ v_15 : Int32, v_15 = (x2_2 &&& v_14) ||| ((ushr x2_2 4) &&& (v_14 ^^^ (-1))) → (∀ v_16 : Int32, v_16 = x5_5 + 1 → 
                (∃ k : Nat, k < n_1 ∧ I_1 k v_15 v_12 v_13 v_16)))))))))))))))
set_option maxRecDepth 100000 in
def P_X11_packed (th : Nat) (p0 : Int32) (S : St) (Q : Int32 → Prop) : Prop :=
  (kd S th = 11 ∧ (∃ a_1 : Nat, gR S th 7 = some a_1 ∧ (kd S a_1 = 1 ∧ (P_X4_unrank p0 (gI S a_1 0) S (fun (r_3 : Int32) => Q r_3)))))
set_option maxRecDepth 100000 in
def P_X4_bellAt (p0 : Int32) (p1 : Int32) (Q : Int32 → Prop) : Prop :=
  Q ((ushr p0 (4 * p1)) &&& 7)
set_option maxRecDepth 100000 in
def P_X11_bell (th : Nat) (p0 : Int32) (p1 : Int32) (S : St) (Q : Int32 → (Nat → Nat → Int32) → Prop) : Prop :=
  (kd S th = 11 ∧ (P_X11_isRow th p0 S (fun (r_1 : Int32) => (∃ J_3 : Prop, (J_3 → (P_X11_refuse th 1 S (fun (r_4 : Int32) (F_4 : Nat → 
          Nat → Int32) => Q r_4 F_4))) ∧ ((r_1 = 0 → J_3) ∧ (¬ r_1 = 0 → (P_X11_isBell th p1 S (fun (r_5 : Int32) => ((¬ r_5 = 0 → 
            (P_X11_packed th p0 S (fun (r_7 : Int32) => (P_X4_bellAt r_7 (p1 - 1) (fun (r_8 : Int32) => (P_X11_answer th (r_8 + 1) S (fun (r_9 : Int32) (F_9 : Nat → 
                   Nat → Int32) => Q r_9 F_9))))))) ∧ (r_5 = 0 → J_3))))))))))
set_option maxRecDepth 100000 in
def P_X11_whyNoBells (th : Nat) (p0 : Int32) (p1 : Int32) (S : St) (Q : Int32 → Prop) : Prop :=
  (kd S th = 11 ∧ (P_X11_isTray p0 (fun (r_1 : Int32) => ((¬ r_1 = 0 → (∃ a_3 : Nat, gR S th 3 = some a_3 ∧ (kd S a_3 = 26 ∧ 
         (vp_in p0 (ln S a_3) ∧ ((¬ gR S a_3 p0.toNatClampNeg = none → (∃ a_7 : Nat, gR S a_3 p0.toNatClampNeg = some a_7 ∧ 
             (∃ a_8 : Nat, gR S th 7 = some a_8 ∧ (kd S a_8 = 1 ∧ (kd S a_7 = 10 ∧ (P_X10_has a_7 0 (gI S a_8 0) S (fun (r_11 : Int32) => ((¬ r_11 = 0 → 
                    (∃ I_13 : Nat → Int32 → Prop, (∃ k : Nat, I_13 k 0) ∧ ∀ (n_13 : Nat) (x3_14 : Int32), I_13 n_13 x3_14 → 
                     (((gI S a_8 0) ≤ x3_14 → Q 0) ∧ (¬ (gI S a_8 0) ≤ x3_14 → (∃ a_16 : Nat, gR S a_7 1 = some a_16 ∧ 
                        (kd S a_16 = 22 ∧ (vp_in x3_14 (ln S a_16) ∧ (∀ v_19 : Int64, v_19 = gJ S a_16 x3_14.toNatClampNeg → 
                           (((lg_cmp v_19 p1.toInt64) < 0 → Q 5) ∧ (¬ (lg_cmp v_19 p1.toInt64) < 0 → (((lg_cmp v_19 ((gI S a_8 0).toInt64)) ≤ 0 → 
                               (∀ v_22 : Int32, v_22 = x3_14 + 1 → (∃ k : Nat, k < n_13 ∧ I_13 k v_22))) ∧ (¬ (lg_cmp v_19 ((gI S a_8 0).toInt64)) ≤ 0 → 
                               Q 5)))))))))))) ∧ (r_11 = 0 → Q 3))))))))) ∧ (gR S a_3 p0.toNatClampNeg = none → 
            Q 2)))))) ∧ (r_1 = 0 → Q 1)))))
set_option maxRecDepth 100000 in
def P_X4_rank (p0 : Int32) (p1 : Int32) (Q : Int32 → Prop) : Prop :=
  (∃ I_1 : Nat → Int32 → Int32 → Int32 → Prop, (∃ k : Nat, I_1 k 1985229328 0 0) ∧ ∀ (n_1 : Nat) (x2_2 : Int32) (x3_3 : Int32) (x4_4 : Int32), I_1 n_1 x2_2 x3_3 x4_4 → 
   ((p1 ≤ x4_4 → Q x3_3) ∧ (¬ p1 ≤ x4_4 → (∀ v_6 : Int32, v_6 = shl ((ushr p0 (4 * x4_4)) &&& 7) 2 → (∀ v_7 : Int32, v_7 = (x3_3 * (p1 - x4_4)) + ((ushr x2_2 v_6) &&& 7) → 
       (∀ v_8 : Int32, v_8 = x2_2 - (shl 286331152 v_6) → (∀ v_9 : Int32, v_9 = x4_4 + 1 → (∃ k : Nat, k < n_1 ∧ 
          I_1 k v_8 v_7 v_9))))))))
set_option maxRecDepth 100000 in
def P_X11_numbered (th : Nat) (p0 : Int32) (S : St) (Q : Int32 → Prop) : Prop :=
  (kd S th = 11 ∧ (∃ a_1 : Nat, gR S th 7 = some a_1 ∧ (kd S a_1 = 1 ∧ (P_X4_rank p0 (gI S a_1 0) (fun (r_3 : Int32) => Q r_3)))))
set_option maxRecDepth 100000 in
def P_X11_number (th : Nat) (p0 : Int32) (S : St) (Q : Int32 → (Nat → Nat → Int32) → Prop) : Prop :=
  (kd S th = 11 ∧ (P_X11_whyNoBells th p0 1 S (fun (r_1 : Int32) => ((r_1 = 0 → (∃ I_3 : Nat → Int32 → Int32 → Int32 → 
        Prop, (∃ k : Nat, I_3 k 0 0 0) ∧ ∀ (n_3 : Nat) (x3_4 : Int32) (x4_5 : Int32) (x5_6 : Int32), I_3 n_3 x3_4 x4_5 x5_6 → 
        (∃ a_7 : Nat, gR S th 7 = some a_7 ∧ (kd S a_7 = 1 ∧ (((gI S a_7 0) ≤ x5_6 → (P_X11_numbered th x3_4 S (fun (r_10 : Int32) => (P_X11_answer th r_10 S (fun (r_11 : Int32) (F_11 : Nat → 
                 Nat → Int32) => Q r_11 F_11))))) ∧ (¬ (gI S a_7 0) ≤ x5_6 → (∃ a_12 : Nat, gR S th 3 = some a_12 ∧ 
             (kd S a_12 = 26 ∧ (vp_in p0 (ln S a_12) ∧ (∃ a_15 : Nat, gR S a_12 p0.toNatClampNeg = some a_15 ∧ 
                (kd S a_15 = 10 ∧ (∃ a_17 : Nat, gR S a_15 1 = some a_17 ∧ (kd S a_17 = 22 ∧ (vp_in x5_6 (ln S a_17) ∧ 
                    (∀ v_20 : Int32, v_20 = ((gJ S a_17 x5_6.toNatClampNeg).toInt32) - 1 → (((x4_5 &&& (shl 1 v_20)) = 0 → 
                       (∀ v_22 : Int32, v_22 = x4_5 ||| (shl 1 v_20) → (∀ v_23 : Int32, v_23 = x3_4 ||| (shl v_20 (4 * x5_6)) → 
                         (∀ v_24 : Int32, v_24 = x5_6 + 1 → (∃ k : Nat, k < n_3 ∧ I_3 k v_23 v_22 v_24))))) ∧ (¬ (x4_5 &&& (shl 1 v_20)) = 0 → 
                       (P_X11_refuse th 5 S (fun (r_25 : Int32) (F_25 : Nat → Nat → Int32) => Q r_25 F_25))))))))))))))))))) ∧ 
      (¬ r_1 = 0 → (P_X11_refuse th r_1 S (fun (r_26 : Int32) (F_26 : Nat → Nat → Int32) => Q r_26 F_26)))))))
set_option maxRecDepth 100000 in
def P_X4_rankMultiplied (p0 : Int32) (p1 : Int32) (p2 : Int32) (Q : Int32 → Prop) : Prop :=
  (∃ I_1 : Nat → Int32 → Int32 → Int32 → Prop, (∃ k : Nat, I_1 k 1985229328 0 0) ∧ ∀ (n_1 : Nat) (x3_2 : Int32) (x4_3 : Int32) (x5_4 : Int32), I_1 n_1 x3_2 x4_3 x5_4 → 
   ((p2 ≤ x5_4 → Q x4_3) ∧ (¬ p2 ≤ x5_4 → (∀ v_6 : Int32, v_6 = shl ((ushr p0 (shl ((ushr p1 (4 * x5_4)) &&& 7) 2)) &&& 7) 2 → 
      (∀ v_7 : Int32, v_7 = (x4_3 * (p2 - x5_4)) + ((ushr x3_2 v_6) &&& 7) → (∀ v_8 : Int32, v_8 = x3_2 - (shl 286331152 v_6) → 
        (∀ v_9 : Int32, v_9 = x5_4 + 1 → (∃ k : Nat, k < n_1 ∧ I_1 k v_8 v_7 v_9))))))))
set_option maxRecDepth 100000 in
def P_X11_product (th : Nat) (p0 : Int32) (p1 : Int32) (S : St) (Q : Int32 → (Nat → Nat → Int32) → Prop) : Prop :=
  (kd S th = 11 ∧ (P_X11_isRow th p0 S (fun (r_1 : Int32) => (∃ J_3 : Prop, (J_3 → (P_X11_refuse th 1 S (fun (r_4 : Int32) (F_4 : Nat → 
          Nat → Int32) => Q r_4 F_4))) ∧ ((r_1 = 0 → J_3) ∧ (¬ r_1 = 0 → (P_X11_isRow th p1 S (fun (r_5 : Int32) => ((¬ r_5 = 0 → 
            (P_X11_packed th p0 S (fun (r_7 : Int32) => (P_X11_packed th p1 S (fun (r_8 : Int32) => (∃ a_9 : Nat, gR S th 7 = some a_9 ∧ 
                 (kd S a_9 = 1 ∧ (P_X4_rankMultiplied r_7 r_8 (gI S a_9 0) (fun (r_11 : Int32) => (P_X11_answer th r_11 S (fun (r_12 : Int32) (F_12 : Nat → 
                       Nat → Int32) => Q r_12 F_12))))))))))) ∧ (r_5 = 0 → J_3))))))))))
set_option maxRecDepth 100000 in
def P_X4_invert (p0 : Int32) (p1 : Int32) (Q : Int32 → Prop) : Prop :=
  (∃ I_1 : Nat → Int32 → Int32 → Prop, (∃ k : Nat, I_1 k 0 0) ∧ ∀ (n_1 : Nat) (x2_2 : Int32) (x3_3 : Int32), I_1 n_1 x2_2 x3_3 → 
   ((p1 ≤ x3_3 → Q x2_2) ∧ (¬ p1 ≤ x3_3 → (∀ v_5 : Int32, v_5 = x2_2 ||| (shl x3_3 (shl ((ushr p0 (4 * x3_3)) &&& 7) 2)) → 
      (∀ v_6 : Int32, v_6 = x3_3 + 1 → (∃ k : Nat, k < n_1 ∧ I_1 k v_5 v_6))))))
set_option maxRecDepth 100000 in
def P_X11_inverse (th : Nat) (p0 : Int32) (S : St) (Q : Int32 → (Nat → Nat → Int32) → Prop) : Prop :=
  (kd S th = 11 ∧ (P_X11_isRow th p0 S (fun (r_1 : Int32) => ((¬ r_1 = 0 → (P_X11_packed th p0 S (fun (r_3 : Int32) => (∃ a_4 : Nat, gR S th 7 = some a_4 ∧ 
          (kd S a_4 = 1 ∧ (P_X4_invert r_3 (gI S a_4 0) (fun (r_6 : Int32) => (P_X11_numbered th r_6 S (fun (r_7 : Int32) => (P_X11_answer th r_7 S (fun (r_8 : Int32) (F_8 : Nat → 
                  Nat → Int32) => Q r_8 F_8))))))))))) ∧ (r_1 = 0 → (P_X11_refuse th 1 S (fun (r_9 : Int32) (F_9 : Nat → 
          Nat → Int32) => Q r_9 F_9)))))))
set_option maxRecDepth 100000 in
def P_X4_multiply (p0 : Int32) (p1 : Int32) (p2 : Int32) (Q : Int32 → Prop) : Prop :=
  (∃ I_1 : Nat → Int32 → Int32 → Prop, (∃ k : Nat, I_1 k 0 0) ∧ ∀ (n_1 : Nat) (x3_2 : Int32) (x4_3 : Int32), I_1 n_1 x3_2 x4_3 → 
   ((p2 ≤ x4_3 → Q x3_2) ∧ (¬ p2 ≤ x4_3 → (∀ v_5 : Int32, v_5 = x3_2 ||| (shl ((ushr p0 (shl ((ushr p1 (4 * x4_3)) &&& 7) 2)) &&& 7) (4 * x4_3)) → 
      (∀ v_6 : Int32, v_6 = x4_3 + 1 → (∃ k : Nat, k < n_1 ∧ I_1 k v_5 v_6))))))
set_option maxRecDepth 100000 in
def P_X4_orderOf (p0 : Int32) (p1 : Int32) (Q : Int32 → Prop) : Prop :=
  (P_X4_roundsOf p1 (fun (r_1 : Int32) => (∃ I_2 : Nat → Int32 → Int32 → Prop, (∃ k : Nat, I_2 k p0 1) ∧ ∀ (n_2 : Nat) (x3_3 : Int32) (x4_4 : Int32), I_2 n_2 x3_3 x4_4 → 
     ((x3_3 = r_1 → Q x4_4) ∧ (¬ x3_3 = r_1 → ((840 ≤ x4_4 → Q x4_4) ∧ (¬ 840 ≤ x4_4 → (P_X4_multiply x3_3 p0 p1 (fun (r_7 : Int32) => (∀ v_8 : Int32, v_8 = x4_4 + 1 → 
            (∃ k : Nat, k < n_2 ∧ I_2 k r_7 v_8)))))))))))
set_option maxRecDepth 100000 in
def P_X11_order (th : Nat) (p0 : Int32) (S : St) (Q : Int32 → (Nat → Nat → Int32) → Prop) : Prop :=
  (kd S th = 11 ∧ (P_X11_isRow th p0 S (fun (r_1 : Int32) => ((¬ r_1 = 0 → (P_X11_packed th p0 S (fun (r_3 : Int32) => (∃ a_4 : Nat, gR S th 7 = some a_4 ∧ 
          (kd S a_4 = 1 ∧ (P_X4_orderOf r_3 (gI S a_4 0) (fun (r_6 : Int32) => (P_X11_answer th r_6 S (fun (r_7 : Int32) (F_7 : Nat → 
                Nat → Int32) => Q r_7 F_7))))))))) ∧ (r_1 = 0 → (P_X11_refuse th 1 S (fun (r_8 : Int32) (F_8 : Nat → 
          Nat → Int32) => Q r_8 F_8)))))))
set_option maxRecDepth 100000 in
def P_X4_inversions (p0 : Int32) (p1 : Int32) (Q : Int32 → Prop) : Prop :=
  (∃ I_1 : Nat → Int32 → Int32 → Int32 → Prop, (∃ k : Nat, I_1 k 1985229328 0 0) ∧ ∀ (n_1 : Nat) (x2_2 : Int32) (x3_3 : Int32) (x4_4 : Int32), I_1 n_1 x2_2 x3_3 x4_4 → 
   ((p1 ≤ x4_4 → Q x3_3) ∧ (¬ p1 ≤ x4_4 → (∀ v_6 : Int32, v_6 = shl ((ushr p0 (4 * x4_4)) &&& 7) 2 → (∀ v_7 : Int32, v_7 = x3_3 + ((ushr x2_2 v_6) &&& 7) → 
       (∀ v_8 : Int32, v_8 = x2_2 - (shl 286331152 v_6) → (∀ v_9 : Int32, v_9 = x4_4 + 1 → (∃ k : Nat, k < n_1 ∧ 
          I_1 k v_8 v_7 v_9))))))))
set_option maxRecDepth 100000 in
def P_X4_isEven (p0 : Int32) (p1 : Int32) (Q : Int32 → Prop) : Prop :=
  (P_X4_inversions p0 p1 (fun (r_1 : Int32) => ((¬ (r_1 &&& 1) = 0 → Q 0) ∧ ((r_1 &&& 1) = 0 → Q 1))))
set_option maxRecDepth 100000 in
def P_X11_even (th : Nat) (p0 : Int32) (S : St) (Q : Int32 → (Nat → Nat → Int32) → Prop) : Prop :=
  (kd S th = 11 ∧ (P_X11_isRow th p0 S (fun (r_1 : Int32) => ((¬ r_1 = 0 → (P_X11_packed th p0 S (fun (r_3 : Int32) => (∃ a_4 : Nat, gR S th 7 = some a_4 ∧ 
          (kd S a_4 = 1 ∧ (P_X4_isEven r_3 (gI S a_4 0) (fun (r_6 : Int32) => (∃ J_8 : Int32 → Prop, (∀ (t_9 : Int32), J_8 t_9 → 
               (P_X11_answer th t_9 S (fun (r_10 : Int32) (F_10 : Nat → Nat → Int32) => Q r_10 F_10))) ∧ ((r_6 = 0 → 
                J_8 0) ∧ (¬ r_6 = 0 → J_8 1)))))))))) ∧ (r_1 = 0 → (P_X11_refuse th 1 S (fun (r_11 : Int32) (F_11 : Nat → 
          Nat → Int32) => Q r_11 F_11)))))))
set_option maxRecDepth 100000 in
def P_X11_done (th : Nat) (p0 : Int32) (p1 : Int32) (S : St) (Q : Int32 → (Nat → Nat → Int32) → Prop) : Prop :=
  (kd S th = 11 ∧ (P_X11_isRow th p0 S (fun (r_1 : Int32) => ((¬ r_1 = 0 → (∃ a_3 : Nat, gR S th 7 = some a_3 ∧ (kd S a_3 = 1 ∧ 
         (P_X4_moveOf p1 (gI S a_3 0) (fun (r_5 : Int32) => ((¬ r_5 = (-1) → (P_X11_packed th p0 S (fun (r_7 : Int32) => (P_X4_moved r_7 r_5 (fun (r_8 : Int32) => (P_X11_numbered th r_8 S (fun (r_9 : Int32) => (P_X11_answer th r_9 S (fun (r_10 : Int32) (F_10 : Nat → 
                      Nat → Int32) => Q r_10 F_10))))))))) ∧ (r_5 = (-1) → (P_X11_refuse th 7 S (fun (r_11 : Int32) (F_11 : Nat → 
                Nat → Int32) => Q r_11 F_11))))))))) ∧ (r_1 = 0 → (P_X11_refuse th 1 S (fun (r_12 : Int32) (F_12 : Nat → 
          Nat → Int32) => Q r_12 F_12)))))))
set_option maxRecDepth 100000 in
def P_X11_power (th : Nat) (p0 : Int32) (p1 : Int32) (S : St) (Q : Int32 → (Nat → Nat → Int32) → Prop) : Prop :=
  (kd S th = 11 ∧ (P_X11_isRow th p0 S (fun (r_1 : Int32) => (∃ J_3 : Prop, (J_3 → (P_X11_refuse th 1 S (fun (r_4 : Int32) (F_4 : Nat → 
          Nat → Int32) => Q r_4 F_4))) ∧ ((r_1 = 0 → J_3) ∧ (¬ r_1 = 0 → ((p1 < 0 → J_3) ∧ (¬ p1 < 0 → ((p1 ≤ 99 → 
            (P_X11_packed th p0 S (fun (r_7 : Int32) => (∃ a_8 : Nat, gR S th 7 = some a_8 ∧ (kd S a_8 = 1 ∧ (P_X4_roundsOf (gI S a_8 0) (fun (r_10 : Int32) => (∃ I_11 : Nat → 
                   Int32 → Int32 → Prop, (∃ k : Nat, I_11 k r_10 0) ∧ ∀ (n_11 : Nat) (x4_12 : Int32) (x5_13 : Int32), I_11 n_11 x4_12 x5_13 → 
                   ((p1 ≤ x5_13 → (P_X11_numbered th x4_12 S (fun (r_15 : Int32) => (P_X11_answer th r_15 S (fun (r_16 : Int32) (F_16 : Nat → 
                          Nat → Int32) => Q r_16 F_16))))) ∧ (¬ p1 ≤ x5_13 → (P_X4_multiply x4_12 r_7 (gI S a_8 0) (fun (r_17 : Int32) => (∀ v_18 : Int32, v_18 = x5_13 + 1 → 
                        (∃ k : Nat, k < n_11 ∧ I_11 k r_17 v_18)))))))))))))) ∧ (¬ p1 ≤ 99 → J_3))))))))))
set_option maxRecDepth 100000 in
def P_X4_cyclesOf (p0 : Int32) (p1 : Int32) (p2 : Int32) (Q : Int32 → Prop) : Prop :=
  (∃ I_1 : Nat → Int32 → Int32 → Int32 → Prop, (∃ k : Nat, I_1 k 0 0 0) ∧ ∀ (n_1 : Nat) (x3_2 : Int32) (x4_3 : Int32) (x5_4 : Int32), I_1 n_1 x3_2 x4_3 x5_4 → 
   ((p2 ≤ x5_4 → Q x4_3) ∧ (¬ p2 ≤ x5_4 → (∃ I_6 : Nat → Int32 → Int32 → Int32 → Prop, (∃ k : Nat, I_6 k x3_2 0 x5_4) ∧ 
      ∀ (n_6 : Nat) (x3_7 : Int32) (x6_8 : Int32) (x7_9 : Int32), I_6 n_6 x3_7 x6_8 x7_9 → (∃ J_11 : Prop, (J_11 → 
        ((¬ x6_8 = p1 → (∀ v_13 : Int32, v_13 = x5_4 + 1 → (∃ k : Nat, k < n_1 ∧ I_1 k x3_7 x4_3 v_13))) ∧ (x6_8 = p1 → 
          (∀ v_14 : Int32, v_14 = x4_3 + 1 → (∀ v_15 : Int32, v_15 = x5_4 + 1 → (∃ k : Nat, k < n_1 ∧ I_1 k x3_7 v_14 v_15)))))) ∧ 
       ((p2 ≤ x6_8 → J_11) ∧ (¬ p2 ≤ x6_8 → ((¬ (x3_7 &&& (shl 1 x7_9)) = 0 → J_11) ∧ ((x3_7 &&& (shl 1 x7_9)) = 0 → 
           (∀ v_17 : Int32, v_17 = x3_7 ||| (shl 1 x7_9) → (P_X4_bellAt p0 x7_9 (fun (r_18 : Int32) => (∀ v_19 : Int32, v_19 = x6_8 + 1 → 
               (∃ k : Nat, k < n_6 ∧ I_6 k v_17 v_19 r_18))))))))))))))
set_option maxRecDepth 100000 in
def P_X11_cycles (th : Nat) (p0 : Int32) (p1 : Int32) (S : St) (Q : Int32 → (Nat → Nat → Int32) → Prop) : Prop :=
  (kd S th = 11 ∧ (P_X11_isRow th p0 S (fun (r_1 : Int32) => (∃ J_3 : Prop, (J_3 → (P_X11_refuse th 1 S (fun (r_4 : Int32) (F_4 : Nat → 
          Nat → Int32) => Q r_4 F_4))) ∧ ((r_1 = 0 → J_3) ∧ (¬ r_1 = 0 → (P_X11_isBell th p1 S (fun (r_5 : Int32) => ((¬ r_5 = 0 → 
            (P_X11_packed th p0 S (fun (r_7 : Int32) => (∃ a_8 : Nat, gR S th 7 = some a_8 ∧ (kd S a_8 = 1 ∧ (P_X4_cyclesOf r_7 p1 (gI S a_8 0) (fun (r_10 : Int32) => (P_X11_answer th r_10 S (fun (r_11 : Int32) (F_11 : Nat → 
                     Nat → Int32) => Q r_11 F_11))))))))) ∧ (r_5 = 0 → J_3))))))))))
set_option maxRecDepth 100000 in
def P_X11_distance (th : Nat) (p0 : Int32) (p1 : Int32) (S : St) (Q : Int32 → (Nat → Nat → Int32) → Prop) : Prop :=
  (kd S th = 11 ∧ (P_X11_isRow th p0 S (fun (r_1 : Int32) => (∃ J_3 : Prop, (J_3 → (P_X11_refuse th 1 S (fun (r_4 : Int32) (F_4 : Nat → 
          Nat → Int32) => Q r_4 F_4))) ∧ ((r_1 = 0 → J_3) ∧ (¬ r_1 = 0 → (P_X11_isRow th p1 S (fun (r_5 : Int32) => ((¬ r_5 = 0 → 
            (P_X11_packed th p0 S (fun (r_7 : Int32) => (∃ a_8 : Nat, gR S th 7 = some a_8 ∧ (kd S a_8 = 1 ∧ (P_X4_invert r_7 (gI S a_8 0) (fun (r_10 : Int32) => (P_X11_packed th p1 S (fun (r_11 : Int32) => (P_X4_multiply r_10 r_11 (gI S a_8 0) (fun (r_12 : Int32) => (P_X4_inversions r_12 (gI S a_8 0) (fun (r_13 : Int32) => (P_X11_answer th r_13 S (fun (r_14 : Int32) (F_14 : Nat → 
                           Nat → Int32) => Q r_14 F_14))))))))))))))) ∧ (r_5 = 0 → J_3))))))))))
set_option maxRecDepth 100000 in
def P_X4_moveBetween (p0 : Int32) (p1 : Int32) (p2 : Int32) (Q : Int32 → Prop) : Prop :=
  (∃ I_1 : Nat → Int32 → Int32 → Prop, (∃ k : Nat, I_1 k 0 0) ∧ ∀ (n_1 : Nat) (x3_2 : Int32) (x4_3 : Int32), I_1 n_1 x3_2 x4_3 → 
   ((p2 ≤ x4_3 → (P_X4_moveAround x3_2 p2 (fun (r_5 : Int32) => ((r_5 = (-1) → Q (-1)) ∧ (¬ r_5 = (-1) → (P_X4_moved p0 r_5 (fun (r_7 : Int32) => ((¬ r_7 = p1 → 
             Q (-1)) ∧ (r_7 = p1 → Q r_5))))))))) ∧ (¬ p2 ≤ x4_3 → (P_X4_bellAt p0 x4_3 (fun (r_9 : Int32) => (P_X4_bellAt p1 x4_3 (fun (r_10 : Int32) => ((¬ r_9 = r_10 → 
           (∀ v_12 : Int32, v_12 = x4_3 + 1 → (∃ k : Nat, k < n_1 ∧ I_1 k x3_2 v_12))) ∧ (r_9 = r_10 → (∀ v_13 : Int32, v_13 = x3_2 ||| (shl 1 x4_3) → 
            (∀ v_14 : Int32, v_14 = x4_3 + 1 → (∃ k : Nat, k < n_1 ∧ I_1 k v_13 v_14))))))))))))
set_option maxRecDepth 100000 in
def P_X4_placesOf (p0 : Int32) (p1 : Int32) (Q : Int32 → Prop) : Prop :=
  (∃ I_1 : Nat → Int32 → Int32 → Prop, (∃ k : Nat, I_1 k 0 0) ∧ ∀ (n_1 : Nat) (x2_2 : Int32) (x3_3 : Int32), I_1 n_1 x2_2 x3_3 → 
   ((p1 ≤ x3_3 → Q x2_2) ∧ (¬ p1 ≤ x3_3 → ((¬ (p0 &&& (shl 15 (4 * x3_3))) = 0 → (∀ v_6 : Int32, v_6 = x3_3 + 1 → 
        (∀ v_7 : Int32, v_7 = v_6 + 1 → (∃ k : Nat, k < n_1 ∧ I_1 k x2_2 v_7)))) ∧ ((p0 &&& (shl 15 (4 * x3_3))) = 0 → 
       (∀ v_8 : Int32, v_8 = ((x2_2 * 10) + x3_3) + 1 → (∀ v_9 : Int32, v_9 = x3_3 + 1 → (∃ k : Nat, k < n_1 ∧ 
          I_1 k v_8 v_9))))))))
set_option maxRecDepth 100000 in
def P_X11_between (th : Nat) (p0 : Int32) (p1 : Int32) (S : St) (Q : Int32 → (Nat → Nat → Int32) → Prop) : Prop :=
  (kd S th = 11 ∧ (P_X11_isRow th p0 S (fun (r_1 : Int32) => (∃ J_3 : Prop, (J_3 → (P_X11_refuse th 1 S (fun (r_4 : Int32) (F_4 : Nat → 
          Nat → Int32) => Q r_4 F_4))) ∧ ((r_1 = 0 → J_3) ∧ (¬ r_1 = 0 → (P_X11_isRow th p1 S (fun (r_5 : Int32) => ((¬ r_5 = 0 → 
            (P_X11_packed th p0 S (fun (r_7 : Int32) => (P_X11_packed th p1 S (fun (r_8 : Int32) => (∃ a_9 : Nat, gR S th 7 = some a_9 ∧ 
                 (kd S a_9 = 1 ∧ (P_X4_moveBetween r_7 r_8 (gI S a_9 0) (fun (r_11 : Int32) => ((¬ r_11 = (-1) → 
                      (P_X4_placesOf r_11 (gI S a_9 0) (fun (r_13 : Int32) => (P_X11_answer th r_13 S (fun (r_14 : Int32) (F_14 : Nat → 
                           Nat → Int32) => Q r_14 F_14))))) ∧ (r_11 = (-1) → (P_X11_refuse th 7 S (fun (r_15 : Int32) (F_15 : Nat → 
                         Nat → Int32) => Q r_15 F_15))))))))))))) ∧ (r_5 = 0 → J_3))))))))))
set_option maxRecDepth 100000 in
def P_X11_isMethod (th : Nat) (p0 : Int32) (S : St) (Q : Int32 → Prop) : Prop :=
  (kd S th = 11 ∧ ((p0 < 0 → Q 0) ∧ (¬ p0 < 0 → (∃ a_2 : Nat, gR S th 7 = some a_2 ∧ (kd S a_2 = 1 ∧ (∃ a_4 : Nat, gR S a_2 3 = some a_4 ∧ 
        (kd S a_4 = 24 ∧ (((nI (ln S a_4)) ≤ p0 → Q 0) ∧ (¬ (nI (ln S a_4)) ≤ p0 → Q 1)))))))))
set_option maxRecDepth 100000 in
def P_X11_changes (th : Nat) (p0 : Int32) (S : St) (Q : Int32 → (Nat → Nat → Int32) → Prop) : Prop :=
  (kd S th = 11 ∧ (P_X11_isMethod th p0 S (fun (r_1 : Int32) => ((¬ r_1 = 0 → (∃ a_3 : Nat, gR S th 7 = some a_3 ∧ 
        (kd S a_3 = 1 ∧ (∃ a_5 : Nat, gR S a_3 3 = some a_5 ∧ (kd S a_5 = 24 ∧ (vp_in p0 (ln S a_5) ∧ (∃ a_8 : Nat, gR S a_5 p0.toNatClampNeg = some a_8 ∧ 
             (kd S a_8 = 4 ∧ (P_X3_length a_8 S (fun (r_10 : Int32) => (P_X11_answer th r_10 S (fun (r_11 : Int32) (F_11 : Nat → 
                   Nat → Int32) => Q r_11 F_11)))))))))))) ∧ (r_1 = 0 → (P_X11_refuse th 1 S (fun (r_12 : Int32) (F_12 : Nat → 
          Nat → Int32) => Q r_12 F_12)))))))
set_option maxRecDepth 100000 in
def P_X11_isCall (p0 : Int32) (Q : Int32 → Prop) : Prop :=
  ((p0 < 0 → Q 0) ∧ (¬ p0 < 0 → ((3 ≤ p0 → Q 0) ∧ (¬ 3 ≤ p0 → Q 1))))
set_option maxRecDepth 100000 in
def P_X11_change (th : Nat) (p0 : Int32) (p1 : Int32) (p2 : Int32) (S : St) (Q : Int32 → (Nat → Nat → Int32) → Prop) : Prop :=
  (kd S th = 11 ∧ (P_X11_isMethod th p0 S (fun (r_1 : Int32) => (∃ J_3 : Prop, (J_3 → (P_X11_refuse th 1 S (fun (r_4 : Int32) (F_4 : Nat → 
          Nat → Int32) => Q r_4 F_4))) ∧ ((r_1 = 0 → J_3) ∧ (¬ r_1 = 0 → (P_X11_isCall p1 (fun (r_5 : Int32) => ((r_5 = 0 → 
            J_3) ∧ (¬ r_5 = 0 → ((p2 < 0 → J_3) ∧ (¬ p2 < 0 → (∃ a_8 : Nat, gR S th 7 = some a_8 ∧ (kd S a_8 = 1 ∧ 
                (∃ a_10 : Nat, gR S a_8 3 = some a_10 ∧ (kd S a_10 = 24 ∧ (vp_in p0 (ln S a_10) ∧ (∃ a_13 : Nat, gR S a_10 p0.toNatClampNeg = some a_13 ∧ 
                    (kd S a_13 = 4 ∧ (P_X3_length a_13 S (fun (r_15 : Int32) => ((p2 < r_15 → (P_X3_moveAt a_13 p1 p2 S (fun (r_17 : Int32) => (P_X4_placesOf r_17 (gI S a_8 0) (fun (r_18 : Int32) => (P_X11_answer th r_18 S (fun (r_19 : Int32) (F_19 : Nat → 
                                Nat → Int32) => Q r_19 F_19))))))) ∧ (¬ p2 < r_15 → J_3)))))))))))))))))))))))
set_option maxRecDepth 100000 in
def P_X11_head (th : Nat) (p0 : Int32) (p1 : Int32) (S : St) (Q : Int32 → (Nat → Nat → Int32) → Prop) : Prop :=
  (kd S th = 11 ∧ (P_X11_isMethod th p0 S (fun (r_1 : Int32) => (∃ J_3 : Prop, (J_3 → (P_X11_refuse th 1 S (fun (r_4 : Int32) (F_4 : Nat → 
          Nat → Int32) => Q r_4 F_4))) ∧ ((r_1 = 0 → J_3) ∧ (¬ r_1 = 0 → (P_X11_isCall p1 (fun (r_5 : Int32) => ((¬ r_5 = 0 → 
            (∃ a_7 : Nat, gR S th 7 = some a_7 ∧ (kd S a_7 = 1 ∧ (∃ a_9 : Nat, gR S a_7 3 = some a_9 ∧ (kd S a_9 = 24 ∧ 
                (vp_in p0 (ln S a_9) ∧ (∃ a_12 : Nat, gR S a_9 p0.toNatClampNeg = some a_12 ∧ (kd S a_12 = 4 ∧ 
                   (∃ a_14 : Nat, gR S a_12 4 = some a_14 ∧ (kd S a_14 = 21 ∧ (vp_in p1 (ln S a_14) ∧ (P_X11_numbered th (gI S a_14 p1.toNatClampNeg) S (fun (r_17 : Int32) => (P_X11_answer th r_17 S (fun (r_18 : Int32) (F_18 : Nat → 
                           Nat → Int32) => Q r_18 F_18))))))))))))))) ∧ (r_5 = 0 → J_3))))))))))
set_option maxRecDepth 100000 in
def P_X11_course (th : Nat) (p0 : Int32) (p1 : Int32) (S : St) (Q : Int32 → (Nat → Nat → Int32) → Prop) : Prop :=
  (kd S th = 11 ∧ (P_X11_isMethod th p0 S (fun (r_1 : Int32) => (∃ J_3 : Prop, (J_3 → (P_X11_refuse th 1 S (fun (r_4 : Int32) (F_4 : Nat → 
          Nat → Int32) => Q r_4 F_4))) ∧ ((r_1 = 0 → J_3) ∧ (¬ r_1 = 0 → (P_X11_isCall p1 (fun (r_5 : Int32) => ((¬ r_5 = 0 → 
            (∃ a_7 : Nat, gR S th 7 = some a_7 ∧ (kd S a_7 = 1 ∧ (∃ a_9 : Nat, gR S a_7 3 = some a_9 ∧ (kd S a_9 = 24 ∧ 
                (vp_in p0 (ln S a_9) ∧ (∃ a_12 : Nat, gR S a_9 p0.toNatClampNeg = some a_12 ∧ (kd S a_12 = 4 ∧ 
                   (∃ a_14 : Nat, gR S a_12 4 = some a_14 ∧ (kd S a_14 = 21 ∧ (vp_in p1 (ln S a_14) ∧ (P_X4_orderOf (gI S a_14 p1.toNatClampNeg) (gI S a_7 0) (fun (r_17 : Int32) => (P_X11_answer th r_17 S (fun (r_18 : Int32) (F_18 : Nat → 
                           Nat → Int32) => Q r_18 F_18))))))))))))))) ∧ (r_5 = 0 → J_3))))))))))
set_option maxRecDepth 100000 in
def P_X4_fixedOf (p0 : Int32) (p1 : Int32) (Q : Int32 → Prop) : Prop :=
  (∃ I_1 : Nat → Int32 → Int32 → Prop, (∃ k : Nat, I_1 k 0 0) ∧ ∀ (n_1 : Nat) (x2_2 : Int32) (x3_3 : Int32), I_1 n_1 x2_2 x3_3 → 
   ((p1 ≤ x3_3 → Q x2_2) ∧ (¬ p1 ≤ x3_3 → (P_X4_bellAt p0 x3_3 (fun (r_5 : Int32) => ((¬ r_5 = x3_3 → (∀ v_7 : Int32, v_7 = x3_3 + 1 → 
          (∃ k : Nat, k < n_1 ∧ I_1 k x2_2 v_7))) ∧ (r_5 = x3_3 → (∀ v_8 : Int32, v_8 = x2_2 ||| (shl 1 x3_3) → 
          (∀ v_9 : Int32, v_9 = x3_3 + 1 → (∃ k : Nat, k < n_1 ∧ I_1 k v_8 v_9))))))))))
set_option maxRecDepth 100000 in
def P_X11_fixed (th : Nat) (p0 : Int32) (p1 : Int32) (S : St) (Q : Int32 → (Nat → Nat → Int32) → Prop) : Prop :=
  (kd S th = 11 ∧ (P_X11_isMethod th p0 S (fun (r_1 : Int32) => (∃ J_3 : Prop, (J_3 → (P_X11_refuse th 1 S (fun (r_4 : Int32) (F_4 : Nat → 
          Nat → Int32) => Q r_4 F_4))) ∧ ((r_1 = 0 → J_3) ∧ (¬ r_1 = 0 → (P_X11_isCall p1 (fun (r_5 : Int32) => ((¬ r_5 = 0 → 
            (∃ a_7 : Nat, gR S th 7 = some a_7 ∧ (kd S a_7 = 1 ∧ (∃ a_9 : Nat, gR S a_7 3 = some a_9 ∧ (kd S a_9 = 24 ∧ 
                (vp_in p0 (ln S a_9) ∧ (∃ a_12 : Nat, gR S a_9 p0.toNatClampNeg = some a_12 ∧ (kd S a_12 = 4 ∧ 
                   (∃ a_14 : Nat, gR S a_12 4 = some a_14 ∧ (kd S a_14 = 21 ∧ (vp_in p1 (ln S a_14) ∧ (P_X4_fixedOf (gI S a_14 p1.toNatClampNeg) (gI S a_7 0) (fun (r_17 : Int32) => (P_X11_answer th r_17 S (fun (r_18 : Int32) (F_18 : Nat → 
                           Nat → Int32) => Q r_18 F_18))))))))))))))) ∧ (r_5 = 0 → J_3))))))))))
set_option maxRecDepth 100000 in
def P_X11_readsBackward (p0 : Nat) (p1 : Int32) (S : St) (Q : Int32 → Prop) : Prop :=
  (∃ I_1 : Nat → Int32 → Prop, (∃ k : Nat, I_1 k 0) ∧ ∀ (n_1 : Nat) (x2_2 : Int32), I_1 n_1 x2_2 → (((p1 / 2) ≤ x2_2 → 
     Q 1) ∧ (¬ (p1 / 2) ≤ x2_2 → (kd S p0 = 21 ∧ (vp_in x2_2 (ln S p0) ∧ (vp_in ((p1 - 1) - x2_2) (ln S p0) ∧ (((gI S p0 x2_2.toNatClampNeg) = (gI S p0 (((p1 - 1) - x2_2).toNatClampNeg)) → 
          (∀ v_8 : Int32, v_8 = x2_2 + 1 → (∃ k : Nat, k < n_1 ∧ I_1 k v_8))) ∧ (¬ (gI S p0 x2_2.toNatClampNeg) = (gI S p0 (((p1 - 1) - x2_2).toNatClampNeg)) → 
          Q 0))))))))
set_option maxRecDepth 100000 in
def P_X11_symmetric (th : Nat) (p0 : Int32) (S : St) (Q : Int32 → (Nat → Nat → Int32) → Prop) : Prop :=
  (kd S th = 11 ∧ (P_X11_isMethod th p0 S (fun (r_1 : Int32) => ((¬ r_1 = 0 → (∃ a_3 : Nat, gR S th 7 = some a_3 ∧ 
        (kd S a_3 = 1 ∧ (∃ a_5 : Nat, gR S a_3 3 = some a_5 ∧ (kd S a_5 = 24 ∧ (vp_in p0 (ln S a_5) ∧ (∃ a_8 : Nat, gR S a_5 p0.toNatClampNeg = some a_8 ∧ 
             (kd S a_8 = 4 ∧ (∃ a_10 : Nat, gR S a_8 1 = some a_10 ∧ (kd S a_10 = 21 ∧ (P_X11_readsBackward a_10 ((nI (ln S a_10)) - 1) S (fun (r_12 : Int32) => (∃ J_14 : Int32 → 
                   Prop, (∀ (t_15 : Int32), J_14 t_15 → (P_X11_answer th t_15 S (fun (r_16 : Int32) (F_16 : Nat → 
                       Nat → Int32) => Q r_16 F_16))) ∧ ((r_12 = 0 → J_14 0) ∧ (¬ r_12 = 0 → J_14 1))))))))))))))) ∧ 
      (r_1 = 0 → (P_X11_refuse th 1 S (fun (r_17 : Int32) (F_17 : Nat → Nat → Int32) => Q r_17 F_17)))))))
set_option maxRecDepth 100000 in
def P_X3_isUnlike (th : Nat) (p0 : Int32) (S : St) (Q : Int32 → Prop) : Prop :=
  (kd S th = 4 ∧ (∃ a_1 : Nat, gR S th 1 = some a_1 ∧ (kd S a_1 = 21 ∧ (∃ a_3 : Nat, gR S th 2 = some a_3 ∧ (kd S a_3 = 21 ∧ 
       (∀ v_5 : Int32, v_5 = imin (p0 + (nI (ln S a_1))) (nI (ln S a_3)) → (∃ I_6 : Nat → Int32 → Prop, (∃ k : Nat, I_6 k p0) ∧ 
         ∀ (n_6 : Nat) (x3_7 : Int32), I_6 n_6 x3_7 → ((v_5 ≤ x3_7 → Q 1) ∧ (¬ v_5 ≤ x3_7 → (∀ v_9 : Int32, v_9 = x3_7 + 1 → 
            (∃ I_10 : Nat → Int32 → Prop, (∃ k : Nat, I_10 k v_9) ∧ ∀ (n_10 : Nat) (x4_11 : Int32), I_10 n_10 x4_11 → 
             ((v_5 ≤ x4_11 → (∀ v_13 : Int32, v_13 = x3_7 + 1 → (∃ k : Nat, k < n_6 ∧ I_6 k v_13))) ∧ (¬ v_5 ≤ x4_11 → 
               (vp_in x3_7 (ln S a_3) ∧ (vp_in x4_11 (ln S a_3) ∧ ((¬ (gI S a_3 x3_7.toNatClampNeg) = (gI S a_3 x4_11.toNatClampNeg) → 
                   (∀ v_17 : Int32, v_17 = x4_11 + 1 → (∃ k : Nat, k < n_10 ∧ I_10 k v_17))) ∧ ((gI S a_3 x3_7.toNatClampNeg) = (gI S a_3 x4_11.toNatClampNeg) → 
                   Q 0)))))))))))))))))
set_option maxRecDepth 100000 in
def P_X11_leadTrue (th : Nat) (p0 : Int32) (S : St) (Q : Int32 → (Nat → Nat → Int32) → Prop) : Prop :=
  (kd S th = 11 ∧ (P_X11_isMethod th p0 S (fun (r_1 : Int32) => ((¬ r_1 = 0 → (∃ a_3 : Nat, gR S th 7 = some a_3 ∧ 
        (kd S a_3 = 1 ∧ (∃ a_5 : Nat, gR S a_3 3 = some a_5 ∧ (kd S a_5 = 24 ∧ (vp_in p0 (ln S a_5) ∧ (∃ a_8 : Nat, gR S a_5 p0.toNatClampNeg = some a_8 ∧ 
             (kd S a_8 = 4 ∧ (P_X3_isUnlike a_8 1 S (fun (r_10 : Int32) => (∃ J_12 : Int32 → Prop, (∀ (t_13 : Int32), J_12 t_13 → 
                  (P_X11_answer th t_13 S (fun (r_14 : Int32) (F_14 : Nat → Nat → Int32) => Q r_14 F_14))) ∧ ((r_10 = 0 → 
                   J_12 0) ∧ (¬ r_10 = 0 → J_12 1))))))))))))) ∧ (r_1 = 0 → (P_X11_refuse th 1 S (fun (r_15 : Int32) (F_15 : Nat → 
          Nat → Int32) => Q r_15 F_15)))))))
set_option maxRecDepth 100000 in
def P_X3_behind (th : Nat) (p0 : Int32) (S : St) (Q : Int32 → Prop) : Prop :=
  (kd S th = 4 ∧ (∃ I_1 : Nat → Int32 → Prop, (∃ k : Nat, I_1 k 1) ∧ ∀ (n_1 : Nat) (x2_2 : Int32), I_1 n_1 x2_2 → 
    (∃ a_3 : Nat, gR S th 2 = some a_3 ∧ (kd S a_3 = 21 ∧ (((nI (ln S a_3)) ≤ x2_2 → Q (-1)) ∧ (¬ (nI (ln S a_3)) ≤ x2_2 → 
        (vp_in x2_2 (ln S a_3) ∧ ((¬ (gI S a_3 x2_2.toNatClampNeg) = p0 → (∀ v_8 : Int32, v_8 = x2_2 + 1 → (∃ k : Nat, k < n_1 ∧ 
             I_1 k v_8))) ∧ ((gI S a_3 x2_2.toNatClampNeg) = p0 → Q x2_2)))))))))
set_option maxRecDepth 100000 in
def P_X11_falseAgainst (th : Nat) (p0 : Int32) (p1 : Int32) (S : St) (Q : Int32 → (Nat → Nat → Int32) → Prop) : Prop :=
  (kd S th = 11 ∧ (P_X11_isMethod th p0 S (fun (r_1 : Int32) => (∃ J_3 : Prop, (J_3 → (P_X11_refuse th 1 S (fun (r_4 : Int32) (F_4 : Nat → 
          Nat → Int32) => Q r_4 F_4))) ∧ ((r_1 = 0 → J_3) ∧ (¬ r_1 = 0 → (P_X11_isRow th p1 S (fun (r_5 : Int32) => ((¬ r_5 = 0 → 
            ((¬ p1 = 0 → (∃ a_8 : Nat, gR S th 7 = some a_8 ∧ (kd S a_8 = 1 ∧ (∃ a_10 : Nat, gR S a_8 3 = some a_10 ∧ 
                 (kd S a_10 = 24 ∧ (vp_in p0 (ln S a_10) ∧ (P_X11_packed th p1 S (fun (r_13 : Int32) => (∃ I_14 : Nat → 
                      Int32 → Prop, (∃ k : Nat, I_14 k 1) ∧ ∀ (n_14 : Nat) (x5_15 : Int32), I_14 n_14 x5_15 → (∃ a_16 : Nat, gR S a_10 p0.toNatClampNeg = some a_16 ∧ 
                       (kd S a_16 = 4 ∧ (P_X3_length a_16 S (fun (r_18 : Int32) => ((r_18 < x5_15 → (P_X11_answer th 0 S (fun (r_20 : Int32) (F_20 : Nat → 
                               Nat → Int32) => Q r_20 F_20))) ∧ (¬ r_18 < x5_15 → (∃ a_21 : Nat, gR S a_16 2 = some a_21 ∧ 
                             (kd S a_21 = 21 ∧ (vp_in x5_15 (ln S a_21) ∧ (P_X4_multiply r_13 (gI S a_21 x5_15.toNatClampNeg) (gI S a_8 0) (fun (r_24 : Int32) => (P_X3_behind a_16 r_24 S (fun (r_25 : Int32) => ((r_25 = (-1) → 
                                     (∀ v_27 : Int32, v_27 = x5_15 + 1 → (∃ k : Nat, k < n_14 ∧ I_14 k v_27))) ∧ 
                                    (¬ r_25 = (-1) → (P_X11_answer th 1 S (fun (r_28 : Int32) (F_28 : Nat → Nat → 
                                        Int32) => Q r_28 F_28)))))))))))))))))))))))))) ∧ (p1 = 0 → (P_X11_answer th 0 S (fun (r_29 : Int32) (F_29 : Nat → 
                 Nat → Int32) => Q r_29 F_29))))) ∧ (r_5 = 0 → J_3))))))))))
set_option maxRecDepth 100000 in
def P_X6_begin (th : Nat) (p0 : Int32) (S : St) (bc bs : Nat) (Q : St → Prop) : Prop :=
  (kd S th = 6 ∧ (∃ a_1 : Nat, gR S th 0 = some a_1 ∧ (kd S a_1 = 21 ∧ (∃ J_4 : St → Nat → Nat → Prop, (∀ (S_5 : St) (b_6 : Nat) (d_6 : Nat), J_4 S_5 b_6 d_6 → 
       (kd S_5 th = 6 ∧ (∀ v_8 : Int32, v_8 = (gI S_5 th 1) + 1 → (∀ F_9 : Nat → Nat → Int32, F_9 = upI (gI S_5) th 1 v_8 → 
          Q (wI S_5 F_9))))) ∧ ((p0 ≤ (nI (ln S a_1)) → J_4 S bc bs) ∧ (¬ p0 ≤ (nI (ln S a_1)) → (¬ p0 < 0 ∧ (p0.toNatClampNeg * 4 ≤ 536870912 ∧ 
          (1 ≤ bc ∧ (p0.toNatClampNeg ≤ bs ∧ (∀ q_10 : Nat, kd S q_10 = 0 → ∀ S_10 : St, S_10 = alo S q_10 21 p0.toNatClampNeg → 
             (kd S_10 th = 6 ∧ (∀ R_16 : Nat → Nat → Option Nat, R_16 = upR (gR S_10) th 0 (some q_10) → (∀ F_17 : Nat → 
                Nat → Int32, F_17 = upI (gI S_10) th 1 0 → J_4 (wA S_10 F_17 (gJ S_10) R_16) (bc - 1) (bs - p0.toNatClampNeg)))))))))))))))
set_option maxRecDepth 100000 in
def P_X6_add (th : Nat) (p0 : Int32) (S : St) (Q : Int32 → (Nat → Nat → Int32) → Prop) : Prop :=
  (kd S th = 6 ∧ ((p0 < 0 → Q 0 (gI S)) ∧ (¬ p0 < 0 → (∃ a_2 : Nat, gR S th 0 = some a_2 ∧ (kd S a_2 = 21 ∧ (((nI (ln S a_2)) ≤ p0 → 
         Q 0 (gI S)) ∧ (¬ (nI (ln S a_2)) ≤ p0 → (vp_in p0 (ln S a_2) ∧ ((¬ (gI S a_2 p0.toNatClampNeg) = (gI S th 1) → 
            (∀ v_7 : Int32, v_7 = gI S th 1 → (∀ F_8 : Nat → Nat → Int32, F_8 = upI (gI S) a_2 p0.toNatClampNeg v_7 → 
              Q 1 F_8))) ∧ ((gI S a_2 p0.toNatClampNeg) = (gI S th 1) → Q 0 (gI S)))))))))))
set_option maxRecDepth 100000 in
def P_X6_stampFalse (th : Nat) (p0 : Nat) (p1 : Nat) (p2 : Int32) (S : St) (bc bs : Nat) (Q : Int32 → St → Prop) : Prop :=
  (kd S th = 6 ∧ (kd S p0 = 1 ∧ (∃ c_2 s_2 : Nat, c_2 ≤ bc ∧ s_2 ≤ bs ∧ (P_X6_begin th (gI S p0 1) S c_2 s_2 (fun (S_3 : St) => (kd S_3 th = 6 ∧ 
        (P_X6_add th 0 S_3 (fun (r_5 : Int32) (F_5 : Nat → Nat → Int32) => (kd S_3 p1 = 4 ∧ (P_X3_length p1 (wI S_3 F_5) (fun (r_7 : Int32) => (∃ a_8 : Nat, gR S_3 p1 2 = some a_8 ∧ 
              (kd S_3 a_8 = 21 ∧ (∀ v_10 : Int32, v_10 = imin (p2 + r_7) (nI (ln S_3 a_8)) → (∃ I_11 : Nat → Int32 → 
                 Int32 → (Nat → Nat → Int32) → Prop, (∃ k : Nat, I_11 k 0 p2 F_5) ∧ ∀ (n_11 : Nat) (x4_12 : Int32) (x6_13 : Int32) (F_14 : Nat → 
                  Nat → Int32), I_11 n_11 x4_12 x6_13 F_14 → ((v_10 ≤ x6_13 → Q x4_12 (wI S_3 F_14)) ∧ (¬ v_10 ≤ x6_13 → 
                   (vp_in x6_13 (ln S_3 a_8) ∧ (kd S_3 p0 = 1 ∧ (P_X4_invert (F_14 a_8 x6_13.toNatClampNeg) (F_14 p0 0) (fun (r_18 : Int32) => (∃ I_19 : Nat → 
                        Int32 → Int32 → (Nat → Nat → Int32) → Prop, (∃ k : Nat, I_19 k x4_12 p2 F_14) ∧ ∀ (n_19 : Nat) (x4_20 : Int32) (x8_21 : Int32) (F_22 : Nat → 
                         Nat → Int32), I_19 n_19 x4_20 x8_21 F_22 → ((v_10 ≤ x8_21 → (∀ v_24 : Int32, v_24 = x6_13 + 1 → 
                           (∃ k : Nat, k < n_11 ∧ I_11 k x4_20 v_24 F_22))) ∧ (¬ v_10 ≤ x8_21 → (vp_in x8_21 (ln S_3 a_8) ∧ 
                           (P_X4_rankMultiplied (F_22 a_8 x8_21.toNatClampNeg) r_18 (F_22 p0 0) (fun (r_26 : Int32) => (P_X6_add th r_26 (wI S_3 F_22) (fun (r_27 : Int32) (F_27 : Nat → 
                                Nat → Int32) => ((r_27 = 0 → (∀ v_29 : Int32, v_29 = x8_21 + 1 → (∃ k : Nat, k < n_19 ∧ 
                                   I_19 k x4_20 v_29 F_27))) ∧ (¬ r_27 = 0 → (∀ v_30 : Int32, v_30 = x4_20 + 1 → 
                                  (∀ v_31 : Int32, v_31 = x8_21 + 1 → (∃ k : Nat, k < n_19 ∧ I_19 k v_30 v_31 F_27))))))))))))))))))))))))))))))))))
set_option maxRecDepth 100000 in
def P_X11_falses (th : Nat) (p0 : Int32) (S : St) (bc bs : Nat) (Q : Int32 → St → Prop) : Prop :=
  (kd S th = 11 ∧ (P_X11_isMethod th p0 S (fun (r_1 : Int32) => ((¬ r_1 = 0 → (∃ a_3 : Nat, gR S th 14 = some a_3 ∧ 
        (∃ a_4 : Nat, gR S th 7 = some a_4 ∧ (kd S a_4 = 1 ∧ (∃ a_6 : Nat, gR S a_4 3 = some a_6 ∧ (kd S a_6 = 24 ∧ 
            (vp_in p0 (ln S a_6) ∧ (∃ a_9 : Nat, gR S a_6 p0.toNatClampNeg = some a_9 ∧ (kd S a_3 = 6 ∧ (∃ c_11 s_11 : Nat, c_11 ≤ bc ∧ 
                s_11 ≤ bs ∧ (P_X6_stampFalse a_3 a_4 a_9 1 S c_11 s_11 (fun (r_12 : Int32) (S_12 : St) => (kd S_12 th = 11 ∧ 
                   (P_X11_answer th r_12 S_12 (fun (r_14 : Int32) (F_14 : Nat → Nat → Int32) => Q r_14 (wI S_12 F_14)))))))))))))))) ∧ 
      (r_1 = 0 → (P_X11_refuse th 1 S (fun (r_15 : Int32) (F_15 : Nat → Nat → Int32) => Q r_15 (wI S F_15))))))))
set_option maxRecDepth 100000 in
def P_X11_leadsTo (th : Nat) (p0 : Int32) (p1 : Int32) (S : St) (Q : Int32 → (Nat → Nat → Int32) → Prop) : Prop :=
  (kd S th = 11 ∧ (P_X11_isMethod th p0 S (fun (r_1 : Int32) => (∃ J_3 : Prop, (J_3 → (P_X11_refuse th 1 S (fun (r_4 : Int32) (F_4 : Nat → 
          Nat → Int32) => Q r_4 F_4))) ∧ ((r_1 = 0 → J_3) ∧ (¬ r_1 = 0 → (P_X11_isRow th p1 S (fun (r_5 : Int32) => ((¬ r_5 = 0 → 
            (∃ a_7 : Nat, gR S th 7 = some a_7 ∧ (kd S a_7 = 1 ∧ (∃ a_9 : Nat, gR S a_7 3 = some a_9 ∧ (kd S a_9 = 24 ∧ 
                (vp_in p0 (ln S a_9) ∧ (∃ a_12 : Nat, gR S a_9 p0.toNatClampNeg = some a_12 ∧ (kd S a_12 = 4 ∧ 
                   (∃ a_14 : Nat, gR S a_12 4 = some a_14 ∧ (kd S a_14 = 21 ∧ (vp_in 0 (ln S a_14) ∧ (∀ v_17 : Int32, v_17 = gI S a_14 0 → 
                       (P_X11_packed th p1 S (fun (r_18 : Int32) => (P_X4_roundsOf (gI S a_7 0) (fun (r_19 : Int32) => (P_X4_orderOf v_17 (gI S a_7 0) (fun (r_20 : Int32) => (∃ I_21 : Nat → 
                              Int32 → Int32 → Prop, (∃ k : Nat, I_21 k r_19 0) ∧ ∀ (n_21 : Nat) (x5_22 : Int32) (x7_23 : Int32), I_21 n_21 x5_22 x7_23 → 
                              ((r_20 ≤ x7_23 → (P_X11_refuse th 6 S (fun (r_25 : Int32) (F_25 : Nat → Nat → Int32) => Q r_25 F_25))) ∧ 
                               (¬ r_20 ≤ x7_23 → ((¬ x5_22 = r_18 → (P_X4_multiply x5_22 v_17 (gI S a_7 0) (fun (r_27 : Int32) => (∀ v_28 : Int32, v_28 = x7_23 + 1 → 
                                     (∃ k : Nat, k < n_21 ∧ I_21 k r_27 v_28))))) ∧ (x5_22 = r_18 → (P_X11_answer th x7_23 S (fun (r_29 : Int32) (F_29 : Nat → 
                                     Nat → Int32) => Q r_29 F_29))))))))))))))))))))))))) ∧ (r_5 = 0 → J_3))))))))))
set_option maxRecDepth 100000 in
def P_X11_inLead (th : Nat) (p0 : Int32) (p1 : Int32) (S : St) (Q : Int32 → (Nat → Nat → Int32) → Prop) : Prop :=
  (kd S th = 11 ∧ (P_X11_isMethod th p0 S (fun (r_1 : Int32) => (∃ J_3 : Prop, (J_3 → (P_X11_refuse th 1 S (fun (r_4 : Int32) (F_4 : Nat → 
          Nat → Int32) => Q r_4 F_4))) ∧ ((r_1 = 0 → J_3) ∧ (¬ r_1 = 0 → (P_X11_isRow th p1 S (fun (r_5 : Int32) => ((¬ r_5 = 0 → 
            (∃ a_7 : Nat, gR S th 7 = some a_7 ∧ (kd S a_7 = 1 ∧ (∃ a_9 : Nat, gR S a_7 3 = some a_9 ∧ (kd S a_9 = 24 ∧ 
                (vp_in p0 (ln S a_9) ∧ (∃ a_12 : Nat, gR S a_9 p0.toNatClampNeg = some a_12 ∧ (P_X11_packed th p1 S (fun (r_13 : Int32) => (kd S a_12 = 4 ∧ 
                     (P_X3_behind a_12 r_13 S (fun (r_15 : Int32) => ((¬ r_15 = (-1) → (P_X11_answer th r_15 S (fun (r_17 : Int32) (F_17 : Nat → 
                            Nat → Int32) => Q r_17 F_17))) ∧ (r_15 = (-1) → (P_X11_refuse th 6 S (fun (r_18 : Int32) (F_18 : Nat → 
                            Nat → Int32) => Q r_18 F_18)))))))))))))))) ∧ (r_5 = 0 → J_3))))))))))
set_option maxRecDepth 100000 in
def P_X11_ring (th : Nat) (S : St) (Q : Int32 → (Nat → Nat → Int32) → (Nat → Nat → Option Nat) → Prop) : Prop :=
  (kd S th = 11 ∧ ((¬ gR S th 8 = none → (∀ R_2 : Nat → Nat → Option Nat, R_2 = upR (gR S) th 9 (gR S th 8) → (∃ a_3 : Nat, R_2 th 9 = some a_3 ∧ 
       (kd S a_3 = 8 ∧ (P_X8_last a_3 (wA S (gI S) (gJ S) R_2) (fun (r_5 : Int32) => (P_X11_answer th r_5 (wA S (gI S) (gJ S) R_2) (fun (r_6 : Int32) (F_6 : Nat → 
             Nat → Int32) => Q r_6 F_6 R_2)))))))) ∧ (gR S th 8 = none → (P_X11_refuse th 6 S (fun (r_7 : Int32) (F_7 : Nat → 
        Nat → Int32) => Q r_7 F_7 (gR S))))))
set_option maxRecDepth 100000 in
def P_X11_whyNotRung (th : Nat) (p0 : Int32) (S : St) (Q : Int32 → Prop) : Prop :=
  (kd S th = 11 ∧ ((0 ≤ p0 → ((¬ gR S th 9 = none → (∃ a_3 : Nat, gR S th 9 = some a_3 ∧ (kd S a_3 = 8 ∧ (P_X8_last a_3 S (fun (r_5 : Int32) => ((p0 ≤ r_5 → 
             Q 0) ∧ (¬ p0 ≤ r_5 → Q 1))))))) ∧ (gR S th 9 = none → Q 6))) ∧ (¬ 0 ≤ p0 → Q 1)))
set_option maxRecDepth 100000 in
def P_X11_rowAt (th : Nat) (p0 : Int32) (S : St) (Q : Int32 → (Nat → Nat → Int32) → Prop) : Prop :=
  (kd S th = 11 ∧ (P_X11_whyNotRung th p0 S (fun (r_1 : Int32) => ((r_1 = 0 → (∃ a_3 : Nat, gR S th 9 = some a_3 ∧ 
        (kd S a_3 = 8 ∧ (∃ a_5 : Nat, gR S a_3 3 = some a_5 ∧ (kd S a_5 = 21 ∧ (vp_in p0 (ln S a_5) ∧ (P_X11_numbered th (gI S a_5 p0.toNatClampNeg) S (fun (r_8 : Int32) => (P_X11_answer th r_8 S (fun (r_9 : Int32) (F_9 : Nat → 
                 Nat → Int32) => Q r_9 F_9)))))))))) ∧ (¬ r_1 = 0 → (P_X11_refuse th r_1 S (fun (r_10 : Int32) (F_10 : Nat → 
          Nat → Int32) => Q r_10 F_10)))))))
set_option maxRecDepth 100000 in
def P_X8_nextLike (th : Nat) (p0 : Int32) (S : St) (Q : Int32 → Prop) : Prop :=
  (kd S th = 8 ∧ (∃ I_1 : Nat → Int32 → Prop, (∃ k : Nat, I_1 k 1) ∧ ∀ (n_1 : Nat) (x2_2 : Int32), I_1 n_1 x2_2 → 
    (∃ a_3 : Nat, gR S th 3 = some a_3 ∧ (kd S a_3 = 21 ∧ (((nI (ln S a_3)) ≤ x2_2 → Q (-1)) ∧ (¬ (nI (ln S a_3)) ≤ x2_2 → 
        (vp_in x2_2 (ln S a_3) ∧ ((¬ (gI S a_3 x2_2.toNatClampNeg) = p0 → (∀ v_8 : Int32, v_8 = x2_2 + 1 → (∃ k : Nat, k < n_1 ∧ 
             I_1 k v_8))) ∧ ((gI S a_3 x2_2.toNatClampNeg) = p0 → Q x2_2)))))))))
set_option maxRecDepth 100000 in
def P_X8_firstRounds (th : Nat) (S : St) (Q : Int32 → Prop) : Prop :=
  (kd S th = 8 ∧ (∃ a_1 : Nat, gR S th 3 = some a_1 ∧ (kd S a_1 = 21 ∧ (vp_in 0 (ln S a_1) ∧ (P_X8_nextLike th (gI S a_1 0) S (fun (r_4 : Int32) => Q r_4))))))
set_option maxRecDepth 100000 in
def P_X11_round (th : Nat) (S : St) (Q : Int32 → (Nat → Nat → Int32) → Prop) : Prop :=
  (kd S th = 11 ∧ (∃ J_2 : Int32 → Prop, (∀ (t_3 : Int32), J_2 t_3 → ((¬ t_3 = (-1) → (P_X11_answer th t_3 S (fun (r_5 : Int32) (F_5 : Nat → 
          Nat → Int32) => Q r_5 F_5))) ∧ (t_3 = (-1) → (P_X11_refuse th 6 S (fun (r_6 : Int32) (F_6 : Nat → Nat → 
          Int32) => Q r_6 F_6))))) ∧ ((¬ gR S th 9 = none → (∃ a_7 : Nat, gR S th 9 = some a_7 ∧ (kd S a_7 = 8 ∧ 
        (P_X8_firstRounds a_7 S (fun (r_9 : Int32) => J_2 r_9))))) ∧ (gR S th 9 = none → J_2 (-1)))))
set_option maxRecDepth 100000 in
def P_X8_secondAlike (th : Nat) (p0 : Nat) (S : St) (bc bs : Nat) (Q : Int32 → St → Prop) : Prop :=
  (kd S th = 8 ∧ (P_X4_many (gI S th 0) (fun (r_1 : Int32) => (kd S p0 = 6 ∧ (∃ c_3 s_3 : Nat, c_3 ≤ bc ∧ s_3 ≤ bs ∧ 
       (P_X6_begin p0 r_1 S c_3 s_3 (fun (S_4 : St) => (∃ I_5 : Nat → Int32 → (Nat → Nat → Int32) → Prop, (∃ k : Nat, I_5 k 1 (gI S_4)) ∧ 
          ∀ (n_5 : Nat) (x2_6 : Int32) (F_7 : Nat → Nat → Int32), I_5 n_5 x2_6 F_7 → (kd S_4 th = 8 ∧ (∃ a_9 : Nat, gR S_4 th 3 = some a_9 ∧ 
            (kd S_4 a_9 = 21 ∧ (((nI (ln S_4 a_9)) ≤ x2_6 → Q (-1) (wI S_4 F_7)) ∧ (¬ (nI (ln S_4 a_9)) ≤ x2_6 → 
               (vp_in x2_6 (ln S_4 a_9) ∧ (P_X4_rank (F_7 a_9 x2_6.toNatClampNeg) (F_7 th 0) (fun (r_13 : Int32) => (kd S_4 p0 = 6 ∧ 
                   (P_X6_add p0 r_13 (wI S_4 F_7) (fun (r_15 : Int32) (F_15 : Nat → Nat → Int32) => ((¬ r_15 = 0 → 
                       (∀ v_17 : Int32, v_17 = x2_6 + 1 → (∃ k : Nat, k < n_5 ∧ I_5 k v_17 F_15))) ∧ (r_15 = 0 → 
                       Q x2_6 (wI S_4 F_15))))))))))))))))))))))
set_option maxRecDepth 100000 in
def P_X11_isTrue (th : Nat) (S : St) (bc bs : Nat) (Q : Int32 → St → Prop) : Prop :=
  (kd S th = 11 ∧ ((¬ gR S th 9 = none → (∃ a_2 : Nat, gR S th 9 = some a_2 ∧ (∃ a_3 : Nat, gR S th 14 = some a_3 ∧ 
       (kd S a_2 = 8 ∧ (∃ c_5 s_5 : Nat, c_5 ≤ bc ∧ s_5 ≤ bs ∧ (P_X8_secondAlike a_2 a_3 S c_5 s_5 (fun (r_6 : Int32) (S_6 : St) => (∃ J_8 : Int32 → 
            Prop, (∀ (t_9 : Int32), J_8 t_9 → (kd S_6 th = 11 ∧ (P_X11_answer th t_9 S_6 (fun (r_11 : Int32) (F_11 : Nat → 
                 Nat → Int32) => Q r_11 (wI S_6 F_11))))) ∧ ((¬ r_6 = (-1) → J_8 0) ∧ (r_6 = (-1) → J_8 1)))))))))) ∧ 
    (gR S th 9 = none → (P_X11_refuse th 6 S (fun (r_12 : Int32) (F_12 : Nat → Nat → Int32) => Q r_12 (wI S F_12))))))
set_option maxRecDepth 100000 in
def P_X8_firstLike (th : Nat) (p0 : Int32) (S : St) (Q : Int32 → Prop) : Prop :=
  (kd S th = 8 ∧ (∃ a_1 : Nat, gR S th 3 = some a_1 ∧ (kd S a_1 = 21 ∧ (vp_in p0 (ln S a_1) ∧ (P_X8_nextLike th (gI S a_1 p0.toNatClampNeg) S (fun (r_4 : Int32) => Q r_4))))))
set_option maxRecDepth 100000 in
def P_X11_falseAt (th : Nat) (p0 : Int32) (S : St) (bc bs : Nat) (Q : Int32 → St → Prop) : Prop :=
  (kd S th = 11 ∧ (∃ J_2 : Prop, (J_2 → (∃ J_4 : Int32 → St → Nat → Nat → Prop, (∀ (t_5 : Int32) (S_6 : St) (b_7 : Nat) (d_7 : Nat), J_4 t_5 S_6 b_7 d_7 → 
       ((¬ t_5 = (-1) → (∃ J_10 : Int32 → Prop, (∀ (t_11 : Int32), J_10 t_11 → (kd S_6 th = 11 ∧ (P_X11_answer th t_11 S_6 (fun (r_13 : Int32) (F_13 : Nat → 
               Nat → Int32) => Q r_13 (wI S_6 F_13))))) ∧ ((¬ p0 = 1 → (kd S_6 th = 11 ∧ (∃ a_15 : Nat, gR S_6 th 9 = some a_15 ∧ 
              (kd S_6 a_15 = 8 ∧ (P_X8_firstLike a_15 t_5 S_6 (fun (r_17 : Int32) => J_10 r_17)))))) ∧ (p0 = 1 → 
            J_10 t_5)))) ∧ (t_5 = (-1) → (kd S_6 th = 11 ∧ (P_X11_refuse th 6 S_6 (fun (r_19 : Int32) (F_19 : Nat → 
             Nat → Int32) => Q r_19 (wI S_6 F_19))))))) ∧ ((¬ gR S th 9 = none → (∃ a_20 : Nat, gR S th 9 = some a_20 ∧ 
         (∃ a_21 : Nat, gR S th 14 = some a_21 ∧ (kd S a_20 = 8 ∧ (∃ c_23 s_23 : Nat, c_23 ≤ bc ∧ s_23 ≤ bs ∧ (P_X8_secondAlike a_20 a_21 S c_23 s_23 (fun (r_24 : Int32) (S_24 : St) => J_4 r_24 S_24 (bc - c_23) (bs - s_23)))))))) ∧ 
       (gR S th 9 = none → J_4 (-1) S bc bs)))) ∧ ((p0 = 0 → J_2) ∧ (¬ p0 = 0 → ((p0 = 1 → J_2) ∧ (¬ p0 = 1 → (P_X11_refuse th 1 S (fun (r_26 : Int32) (F_26 : Nat → 
           Nat → Int32) => Q r_26 (wI S F_26)))))))))
set_option maxRecDepth 100000 in
def P_X8_silentLast (th : Nat) (p0 : Int32) (p1 : Int32) (S : St) (Q : Int32 → Prop) : Prop :=
  (kd S th = 8 ∧ (∃ I_1 : Nat → Int32 → Int32 → Int32 → Prop, (∃ k : Nat, I_1 k 0 0 0) ∧ ∀ (n_1 : Nat) (x3_2 : Int32) (x4_3 : Int32) (x5_4 : Int32), I_1 n_1 x3_2 x4_3 x5_4 → 
    (((gI S th 0) ≤ x5_4 → (∃ I_6 : Nat → Int32 → Int32 → Int32 → Prop, (∃ k : Nat, I_6 k x3_2 x4_3 0) ∧ ∀ (n_6 : Nat) (x3_7 : Int32) (x4_8 : Int32) (x5_9 : Int32), I_6 n_6 x3_7 x4_8 x5_9 → 
       (((gI S th 0) ≤ x5_9 → Q x3_7) ∧ (¬ (gI S th 0) ≤ x5_9 → (((p1 &&& (shl 1 x5_9)) = 0 → (∀ v_12 : Int32, v_12 = x5_9 + 1 → 
            (∃ k : Nat, k < n_6 ∧ I_6 k x3_7 x4_8 v_12))) ∧ (¬ (p1 &&& (shl 1 x5_9)) = 0 → (∀ v_13 : Int32, v_13 = x3_7 ||| (shl x5_9 x4_8) → 
            (∀ v_14 : Int32, v_14 = x4_8 + 4 → (∀ v_15 : Int32, v_15 = x5_9 + 1 → (∃ k : Nat, k < n_6 ∧ I_6 k v_13 v_14 v_15)))))))))) ∧ 
     (¬ (gI S th 0) ≤ x5_4 → (P_X4_bellAt p0 x5_4 (fun (r_16 : Int32) => ((¬ (p1 &&& (shl 1 r_16)) = 0 → (∀ v_18 : Int32, v_18 = x5_4 + 1 → 
           (∃ k : Nat, k < n_1 ∧ I_1 k x3_2 x4_3 v_18))) ∧ ((p1 &&& (shl 1 r_16)) = 0 → (∀ v_19 : Int32, v_19 = x3_2 ||| (shl r_16 x4_3) → 
           (∀ v_20 : Int32, v_20 = x4_3 + 4 → (∀ v_21 : Int32, v_21 = x5_4 + 1 → (∃ k : Nat, k < n_1 ∧ I_1 k v_19 v_20 v_21))))))))))))
set_option maxRecDepth 100000 in
def P_X8_alike (th : Nat) (p0 : Nat) (p1 : Int32) (S : St) (bc bs : Nat) (Q : Int32 → St → Prop) : Prop :=
  (kd S th = 8 ∧ (P_X4_many (gI S th 0) (fun (r_1 : Int32) => (kd S p0 = 6 ∧ (∃ c_3 s_3 : Nat, c_3 ≤ bc ∧ s_3 ≤ bs ∧ 
       (P_X6_begin p0 r_1 S c_3 s_3 (fun (S_4 : St) => (∃ I_5 : Nat → Int32 → Int32 → (Nat → Nat → Int32) → Prop, (∃ k : Nat, I_5 k 0 1 (gI S_4)) ∧ 
          ∀ (n_5 : Nat) (x3_6 : Int32) (x4_7 : Int32) (F_8 : Nat → Nat → Int32), I_5 n_5 x3_6 x4_7 F_8 → (kd S_4 th = 8 ∧ 
           (∃ a_10 : Nat, gR S_4 th 3 = some a_10 ∧ (kd S_4 a_10 = 21 ∧ (((nI (ln S_4 a_10)) ≤ x4_7 → Q x3_6 (wI S_4 F_8)) ∧ 
              (¬ (nI (ln S_4 a_10)) ≤ x4_7 → (∃ J_14 : Int32 → Prop, (∀ (t_15 : Int32), J_14 t_15 → (P_X4_rank t_15 (F_8 th 0) (fun (r_16 : Int32) => (kd S_4 p0 = 6 ∧ 
                    (P_X6_add p0 r_16 (wI S_4 F_8) (fun (r_18 : Int32) (F_18 : Nat → Nat → Int32) => ((¬ r_18 = 0 → 
                        (∀ v_20 : Int32, v_20 = x4_7 + 1 → (∃ k : Nat, k < n_5 ∧ I_5 k x3_6 v_20 F_18))) ∧ (r_18 = 0 → 
                        (∀ v_21 : Int32, v_21 = x3_6 + 1 → (∀ v_22 : Int32, v_22 = x4_7 + 1 → (∃ k : Nat, k < n_5 ∧ 
                           I_5 k v_21 v_22 F_18))))))))))) ∧ ((¬ p1 = 0 → (vp_in x4_7 (ln S_4 a_10) ∧ (P_X8_silentLast th (F_8 a_10 x4_7.toNatClampNeg) p1 (wI S_4 F_8) (fun (r_24 : Int32) => J_14 r_24)))) ∧ 
                 (p1 = 0 → (vp_in x4_7 (ln S_4 a_10) ∧ J_14 (F_8 a_10 x4_7.toNatClampNeg))))))))))))))))))
set_option maxRecDepth 100000 in
def P_X11_repeats (th : Nat) (S : St) (bc bs : Nat) (Q : Int32 → St → Prop) : Prop :=
  (kd S th = 11 ∧ ((¬ gR S th 9 = none → (∃ a_2 : Nat, gR S th 9 = some a_2 ∧ (∃ a_3 : Nat, gR S th 14 = some a_3 ∧ 
       (kd S a_2 = 8 ∧ (∃ c_5 s_5 : Nat, c_5 ≤ bc ∧ s_5 ≤ bs ∧ (P_X8_alike a_2 a_3 0 S c_5 s_5 (fun (r_6 : Int32) (S_6 : St) => (kd S_6 th = 11 ∧ 
            (P_X11_answer th r_6 S_6 (fun (r_8 : Int32) (F_8 : Nat → Nat → Int32) => Q r_8 (wI S_6 F_8))))))))))) ∧ 
    (gR S th 9 = none → (P_X11_refuse th 6 S (fun (r_9 : Int32) (F_9 : Nat → Nat → Int32) => Q r_9 (wI S F_9))))))
set_option maxRecDepth 100000 in
def P_X8_spot (th : Nat) (p0 : Int32) (p1 : Int32) (S : St) (Q : Int32 → Prop) : Prop :=
  (kd S th = 8 ∧ (∃ I_1 : Nat → Int32 → Prop, (∃ k : Nat, I_1 k 0) ∧ ∀ (n_1 : Nat) (x3_2 : Int32), I_1 n_1 x3_2 → 
    (((gI S th 0) ≤ x3_2 → Q (-1)) ∧ (¬ (gI S th 0) ≤ x3_2 → (∃ a_4 : Nat, gR S th 3 = some a_4 ∧ (kd S a_4 = 21 ∧ 
        (vp_in p1 (ln S a_4) ∧ (P_X4_bellAt (gI S a_4 p1.toNatClampNeg) x3_2 (fun (r_7 : Int32) => ((¬ r_7 = p0 → 
             (∀ v_9 : Int32, v_9 = x3_2 + 1 → (∃ k : Nat, k < n_1 ∧ I_1 k v_9))) ∧ (r_7 = p0 → Q x3_2)))))))))))
set_option maxRecDepth 100000 in
def P_X11_place (th : Nat) (p0 : Int32) (p1 : Int32) (S : St) (Q : Int32 → (Nat → Nat → Int32) → Prop) : Prop :=
  (kd S th = 11 ∧ (P_X11_isBell th p0 S (fun (r_1 : Int32) => (∃ J_3 : Int32 → Prop, (∀ (t_4 : Int32), J_3 t_4 → 
       ((t_4 = 0 → (∃ a_6 : Nat, gR S th 9 = some a_6 ∧ (kd S a_6 = 8 ∧ (P_X8_spot a_6 (p0 - 1) p1 S (fun (r_8 : Int32) => (P_X11_answer th (r_8 + 1) S (fun (r_9 : Int32) (F_9 : Nat → 
                Nat → Int32) => Q r_9 F_9))))))) ∧ (¬ t_4 = 0 → (P_X11_refuse th t_4 S (fun (r_10 : Int32) (F_10 : Nat → 
            Nat → Int32) => Q r_10 F_10))))) ∧ ((r_1 = 0 → J_3 1) ∧ (¬ r_1 = 0 → (P_X11_whyNotRung th p1 S (fun (r_11 : Int32) => J_3 r_11))))))))
set_option maxRecDepth 100000 in
def P_X8_fitting (th : Nat) (p0 : Int32) (p1 : Int32) (S : St) (Q : Int32 → Prop) : Prop :=
  (kd S th = 8 ∧ (∃ I_1 : Nat → Int32 → Int32 → Prop, (∃ k : Nat, I_1 k 0 1) ∧ ∀ (n_1 : Nat) (x3_2 : Int32) (x4_3 : Int32), I_1 n_1 x3_2 x4_3 → 
    (∃ a_4 : Nat, gR S th 3 = some a_4 ∧ (kd S a_4 = 21 ∧ (((nI (ln S a_4)) ≤ x4_3 → Q x3_2) ∧ (¬ (nI (ln S a_4)) ≤ x4_3 → 
        (vp_in x4_3 (ln S a_4) ∧ ((¬ ((gI S a_4 x4_3.toNatClampNeg) &&& p0) = p1 → (∀ v_9 : Int32, v_9 = x4_3 + 1 → 
            (∃ k : Nat, k < n_1 ∧ I_1 k x3_2 v_9))) ∧ (((gI S a_4 x4_3.toNatClampNeg) &&& p0) = p1 → (∀ v_10 : Int32, v_10 = x3_2 + 1 → 
            (∀ v_11 : Int32, v_11 = x4_3 + 1 → (∃ k : Nat, k < n_1 ∧ I_1 k v_10 v_11))))))))))))
set_option maxRecDepth 100000 in
def P_X11_blows (th : Nat) (p0 : Int32) (p1 : Int32) (S : St) (Q : Int32 → (Nat → Nat → Int32) → Prop) : Prop :=
  (kd S th = 11 ∧ (P_X11_isBell th p0 S (fun (r_1 : Int32) => (∃ J_3 : Prop, (J_3 → (P_X11_refuse th 1 S (fun (r_4 : Int32) (F_4 : Nat → 
          Nat → Int32) => Q r_4 F_4))) ∧ ((r_1 = 0 → J_3) ∧ (¬ r_1 = 0 → (P_X11_isBell th p1 S (fun (r_5 : Int32) => ((¬ r_5 = 0 → 
            ((¬ gR S th 9 = none → (∀ v_8 : Int32, v_8 = 4 * (p1 - 1) → (∃ a_9 : Nat, gR S th 9 = some a_9 ∧ (kd S a_9 = 8 ∧ 
                 (P_X8_fitting a_9 (shl 15 v_8) (shl (p0 - 1) v_8) S (fun (r_11 : Int32) => (P_X11_answer th r_11 S (fun (r_12 : Int32) (F_12 : Nat → 
                      Nat → Int32) => Q r_12 F_12)))))))) ∧ (gR S th 9 = none → (P_X11_refuse th 6 S (fun (r_13 : Int32) (F_13 : Nat → 
                 Nat → Int32) => Q r_13 F_13))))) ∧ (r_5 = 0 → J_3))))))))))
set_option maxRecDepth 100000 in
def P_X11_music (th : Nat) (p0 : Int32) (S : St) (Q : Int32 → (Nat → Nat → Int32) → Prop) : Prop :=
  (kd S th = 11 ∧ (P_X11_whyNoBells th p0 0 S (fun (r_1 : Int32) => (∃ J_3 : Int32 → Prop, (∀ (x2_4 : Int32), J_3 x2_4 → 
       ((x2_4 = 0 → (∃ I_6 : Nat → Int32 → Int32 → Int32 → Prop, (∃ k : Nat, I_6 k 0 0 0) ∧ ∀ (n_6 : Nat) (x3_7 : Int32) (x4_8 : Int32) (x5_9 : Int32), I_6 n_6 x3_7 x4_8 x5_9 → 
          (∃ a_10 : Nat, gR S th 7 = some a_10 ∧ (kd S a_10 = 1 ∧ (((gI S a_10 0) ≤ x5_9 → (∃ a_13 : Nat, gR S th 9 = some a_13 ∧ 
               (kd S a_13 = 8 ∧ (P_X8_fitting a_13 x3_7 x4_8 S (fun (r_15 : Int32) => (P_X11_answer th r_15 S (fun (r_16 : Int32) (F_16 : Nat → 
                     Nat → Int32) => Q r_16 F_16))))))) ∧ (¬ (gI S a_10 0) ≤ x5_9 → (∃ a_17 : Nat, gR S th 3 = some a_17 ∧ 
               (kd S a_17 = 26 ∧ (vp_in p0 (ln S a_17) ∧ (∃ a_20 : Nat, gR S a_17 p0.toNatClampNeg = some a_20 ∧ 
                  (kd S a_20 = 10 ∧ (∃ a_22 : Nat, gR S a_20 1 = some a_22 ∧ (kd S a_22 = 22 ∧ (vp_in x5_9 (ln S a_22) ∧ 
                      (∀ v_25 : Int32, v_25 = (gJ S a_22 x5_9.toNatClampNeg).toInt32 → ((v_25 ≤ 0 → (∀ v_27 : Int32, v_27 = x5_9 + 1 → 
                          (∃ k : Nat, k < n_6 ∧ I_6 k x3_7 x4_8 v_27))) ∧ (¬ v_25 ≤ 0 → (∀ v_28 : Int32, v_28 = x3_7 ||| (shl 15 (4 * x5_9)) → 
                          (∀ v_29 : Int32, v_29 = x4_8 ||| (shl (v_25 - 1) (4 * x5_9)) → (∀ v_30 : Int32, v_30 = x5_9 + 1 → 
                            (∃ k : Nat, k < n_6 ∧ I_6 k v_28 v_29 v_30))))))))))))))))))))) ∧ (¬ x2_4 = 0 → (P_X11_refuse th x2_4 S (fun (r_31 : Int32) (F_31 : Nat → 
            Nat → Int32) => Q r_31 F_31))))) ∧ ((¬ r_1 = 0 → J_3 r_1) ∧ (r_1 = 0 → ((¬ gR S th 9 = none → J_3 r_1) ∧ 
         (gR S th 9 = none → J_3 6))))))))
set_option maxRecDepth 100000 in
def P_X8_runsOf (th : Nat) (p0 : Int32) (S : St) (Q : Int32 → Prop) : Prop :=
  (kd S th = 8 ∧ (∃ I_1 : Nat → Int32 → Int32 → Prop, (∃ k : Nat, I_1 k 0 1) ∧ ∀ (n_1 : Nat) (x2_2 : Int32) (x3_3 : Int32), I_1 n_1 x2_2 x3_3 → 
    (∃ a_4 : Nat, gR S th 3 = some a_4 ∧ (kd S a_4 = 21 ∧ (((nI (ln S a_4)) ≤ x3_3 → Q x2_2) ∧ (¬ (nI (ln S a_4)) ≤ x3_3 → 
        (∃ I_7 : Nat → Int32 → Int32 → Int32 → Int32 → Prop, (∃ k : Nat, I_7 k x2_2 1 1 1) ∧ ∀ (n_7 : Nat) (x2_8 : Int32) (x4_9 : Int32) (x5_10 : Int32) (x6_11 : Int32), I_7 n_7 x2_8 x4_9 x5_10 x6_11 → 
         (((gI S th 0) ≤ x6_11 → (∀ v_13 : Int32, v_13 = x3_3 + 1 → (∃ k : Nat, k < n_1 ∧ I_1 k x2_8 v_13))) ∧ 
          (¬ (gI S th 0) ≤ x6_11 → (vp_in x3_3 (ln S a_4) ∧ (P_X4_bellAt (gI S a_4 x3_3.toNatClampNeg) x6_11 (fun (r_15 : Int32) => (P_X4_bellAt (gI S a_4 x3_3.toNatClampNeg) (x6_11 - 1) (fun (r_16 : Int32) => (∀ v_17 : Int32, v_17 = r_15 - r_16 → 
                 (∃ J_19 : Int32 → Prop, (∀ (t_20 : Int32), J_19 t_20 → (∃ J_22 : Int32 → Prop, (∀ (t_23 : Int32), J_22 t_23 → 
                     ((p0 ≤ t_20 → (∀ v_25 : Int32, v_25 = x2_8 + 1 → (∀ v_26 : Int32, v_26 = x6_11 + 1 → (∃ k : Nat, k < n_7 ∧ 
                          I_7 k v_25 t_20 t_23 v_26)))) ∧ (¬ p0 ≤ t_20 → ((t_23 < p0 → (∀ v_28 : Int32, v_28 = x6_11 + 1 → 
                          (∃ k : Nat, k < n_7 ∧ I_7 k x2_8 t_20 t_23 v_28))) ∧ (¬ t_23 < p0 → (∀ v_29 : Int32, v_29 = x2_8 + 1 → 
                          (∀ v_30 : Int32, v_30 = x6_11 + 1 → (∃ k : Nat, k < n_7 ∧ I_7 k v_29 t_20 t_23 v_30)))))))) ∧ 
                    ((¬ v_17 = (-1) → J_22 1) ∧ (v_17 = (-1) → J_22 (x5_10 + 1))))) ∧ ((¬ v_17 = 1 → J_19 1) ∧ 
                   (v_17 = 1 → J_19 (x4_9 + 1)))))))))))))))))))
set_option maxRecDepth 100000 in
def P_X11_runs (th : Nat) (p0 : Int32) (S : St) (Q : Int32 → (Nat → Nat → Int32) → Prop) : Prop :=
  (kd S th = 11 ∧ (∃ J_2 : Prop, (J_2 → (P_X11_refuse th 1 S (fun (r_3 : Int32) (F_3 : Nat → Nat → Int32) => Q r_3 F_3))) ∧ 
    ((p0 < 3 → J_2) ∧ (¬ p0 < 3 → (∃ a_4 : Nat, gR S th 7 = some a_4 ∧ (kd S a_4 = 1 ∧ ((p0 ≤ (gI S a_4 0) → ((¬ gR S th 9 = none → 
            (∃ a_8 : Nat, gR S th 9 = some a_8 ∧ (kd S a_8 = 8 ∧ (P_X8_runsOf a_8 p0 S (fun (r_10 : Int32) => (P_X11_answer th r_10 S (fun (r_11 : Int32) (F_11 : Nat → 
                   Nat → Int32) => Q r_11 F_11))))))) ∧ (gR S th 9 = none → (P_X11_refuse th 6 S (fun (r_12 : Int32) (F_12 : Nat → 
               Nat → Int32) => Q r_12 F_12))))) ∧ (¬ p0 ≤ (gI S a_4 0) → J_2))))))))
set_option maxRecDepth 100000 in
def P_X8_dodgesOf (th : Nat) (p0 : Int32) (S : St) (Q : Int32 → Prop) : Prop :=
  (kd S th = 8 ∧ (∃ I_1 : Nat → Int32 → Int32 → Int32 → Int32 → Prop, (∃ k : Nat, I_1 k 0 (-1) (-1) 0) ∧ ∀ (n_1 : Nat) (x2_2 : Int32) (x3_3 : Int32) (x4_4 : Int32) (x5_5 : Int32), I_1 n_1 x2_2 x3_3 x4_4 x5_5 → 
    (∃ a_6 : Nat, gR S th 3 = some a_6 ∧ (kd S a_6 = 21 ∧ (((nI (ln S a_6)) ≤ x5_5 → Q x2_2) ∧ (¬ (nI (ln S a_6)) ≤ x5_5 → 
        (P_X8_spot th p0 x5_5 S (fun (r_9 : Int32) => ((x5_5 ≤ 1 → (∀ v_11 : Int32, v_11 = x5_5 + 1 → (∃ k : Nat, k < n_1 ∧ 
              I_1 k x2_2 x4_4 r_9 v_11))) ∧ (¬ x5_5 ≤ 1 → ((¬ r_9 = x3_3 → (∀ v_13 : Int32, v_13 = x5_5 + 1 → (∃ k : Nat, k < n_1 ∧ 
                I_1 k x2_2 x4_4 r_9 v_13))) ∧ (r_9 = x3_3 → ((r_9 = x4_4 → (∀ v_15 : Int32, v_15 = x5_5 + 1 → (∃ k : Nat, k < n_1 ∧ 
                  I_1 k x2_2 x4_4 r_9 v_15))) ∧ (¬ r_9 = x4_4 → (∀ v_16 : Int32, v_16 = x2_2 + 1 → (∀ v_17 : Int32, v_17 = x5_5 + 1 → 
                  (∃ k : Nat, k < n_1 ∧ I_1 k v_16 x4_4 r_9 v_17)))))))))))))))))
set_option maxRecDepth 100000 in
def P_X11_dodges (th : Nat) (p0 : Int32) (S : St) (Q : Int32 → (Nat → Nat → Int32) → Prop) : Prop :=
  (kd S th = 11 ∧ (P_X11_isBell th p0 S (fun (r_1 : Int32) => ((¬ r_1 = 0 → ((¬ gR S th 9 = none → (∃ a_4 : Nat, gR S th 9 = some a_4 ∧ 
          (kd S a_4 = 8 ∧ (P_X8_dodgesOf a_4 (p0 - 1) S (fun (r_6 : Int32) => (P_X11_answer th r_6 S (fun (r_7 : Int32) (F_7 : Nat → 
                Nat → Int32) => Q r_7 F_7))))))) ∧ (gR S th 9 = none → (P_X11_refuse th 6 S (fun (r_8 : Int32) (F_8 : Nat → 
            Nat → Int32) => Q r_8 F_8))))) ∧ (r_1 = 0 → (P_X11_refuse th 1 S (fun (r_9 : Int32) (F_9 : Nat → Nat → 
          Int32) => Q r_9 F_9)))))))
set_option maxRecDepth 100000 in
def P_X8_liesOf (th : Nat) (p0 : Int32) (S : St) (Q : Int32 → Prop) : Prop :=
  (kd S th = 8 ∧ (∃ I_1 : Nat → Int32 → Int32 → Int32 → Prop, (∃ k : Nat, I_1 k 0 (-1) 0) ∧ ∀ (n_1 : Nat) (x2_2 : Int32) (x3_3 : Int32) (x4_4 : Int32), I_1 n_1 x2_2 x3_3 x4_4 → 
    (∃ a_5 : Nat, gR S th 3 = some a_5 ∧ (kd S a_5 = 21 ∧ (((nI (ln S a_5)) ≤ x4_4 → Q x2_2) ∧ (¬ (nI (ln S a_5)) ≤ x4_4 → 
        (P_X8_spot th p0 x4_4 S (fun (r_8 : Int32) => ((¬ r_8 = x3_3 → (∀ v_10 : Int32, v_10 = x4_4 + 1 → (∃ k : Nat, k < n_1 ∧ 
              I_1 k x2_2 r_8 v_10))) ∧ (r_8 = x3_3 → (∀ v_11 : Int32, v_11 = x2_2 + 1 → (∀ v_12 : Int32, v_12 = x4_4 + 1 → 
              (∃ k : Nat, k < n_1 ∧ I_1 k v_11 r_8 v_12)))))))))))))
set_option maxRecDepth 100000 in
def P_X11_lies (th : Nat) (p0 : Int32) (S : St) (Q : Int32 → (Nat → Nat → Int32) → Prop) : Prop :=
  (kd S th = 11 ∧ (P_X11_isBell th p0 S (fun (r_1 : Int32) => ((¬ r_1 = 0 → ((¬ gR S th 9 = none → (∃ a_4 : Nat, gR S th 9 = some a_4 ∧ 
          (kd S a_4 = 8 ∧ (P_X8_liesOf a_4 (p0 - 1) S (fun (r_6 : Int32) => (P_X11_answer th r_6 S (fun (r_7 : Int32) (F_7 : Nat → 
                Nat → Int32) => Q r_7 F_7))))))) ∧ (gR S th 9 = none → (P_X11_refuse th 6 S (fun (r_8 : Int32) (F_8 : Nat → 
            Nat → Int32) => Q r_8 F_8))))) ∧ (r_1 = 0 → (P_X11_refuse th 1 S (fun (r_9 : Int32) (F_9 : Nat → Nat → 
          Int32) => Q r_9 F_9)))))))
set_option maxRecDepth 100000 in
def P_X11_backward (th : Nat) (S : St) (Q : Int32 → (Nat → Nat → Int32) → Prop) : Prop :=
  (kd S th = 11 ∧ ((¬ gR S th 9 = none → (∃ a_2 : Nat, gR S th 9 = some a_2 ∧ (kd S a_2 = 8 ∧ (∃ a_4 : Nat, gR S a_2 2 = some a_4 ∧ 
        (kd S a_4 = 21 ∧ (P_X11_readsBackward a_4 (nI (ln S a_4)) S (fun (r_6 : Int32) => (∃ J_8 : Int32 → Prop, (∀ (t_9 : Int32), J_8 t_9 → 
             (P_X11_answer th t_9 S (fun (r_10 : Int32) (F_10 : Nat → Nat → Int32) => Q r_10 F_10))) ∧ ((r_6 = 0 → 
              J_8 0) ∧ (¬ r_6 = 0 → J_8 1)))))))))) ∧ (gR S th 9 = none → (P_X11_refuse th 6 S (fun (r_11 : Int32) (F_11 : Nat → 
        Nat → Int32) => Q r_11 F_11)))))
set_option maxRecDepth 100000 in
def P_X8_heardBell (th : Nat) (p0 : Int32) (p1 : Int32) (p2 : Int32) (S : St) (Q : Int32 → Prop) : Prop :=
  (kd S th = 8 ∧ (∃ I_1 : Nat → Int32 → Int32 → Prop, (∃ k : Nat, I_1 k 0 0) ∧ ∀ (n_1 : Nat) (x4_2 : Int32) (x5_3 : Int32), I_1 n_1 x4_2 x5_3 → 
    (((gI S th 0) ≤ x5_3 → Q (-1)) ∧ (¬ (gI S th 0) ≤ x5_3 → (∃ a_5 : Nat, gR S th 3 = some a_5 ∧ (kd S a_5 = 21 ∧ 
        (vp_in p0 (ln S a_5) ∧ (P_X4_bellAt (gI S a_5 p0.toNatClampNeg) x5_3 (fun (r_8 : Int32) => ((¬ (p2 &&& (shl 1 r_8)) = 0 → 
             (∀ v_10 : Int32, v_10 = x5_3 + 1 → (∃ k : Nat, k < n_1 ∧ I_1 k x4_2 v_10))) ∧ ((p2 &&& (shl 1 r_8)) = 0 → 
             ((¬ x4_2 = p1 → (∀ v_12 : Int32, v_12 = x4_2 + 1 → (∀ v_13 : Int32, v_13 = x5_3 + 1 → (∃ k : Nat, k < n_1 ∧ 
                  I_1 k v_12 v_13)))) ∧ (x4_2 = p1 → Q r_8)))))))))))))
set_option maxRecDepth 100000 in
def P_X11_heard (th : Nat) (p0 : Int32) (p1 : Int32) (S : St) (Q : Int32 → (Nat → Nat → Int32) → Prop) : Prop :=
  (kd S th = 11 ∧ (P_X11_whyNotRung th p0 S (fun (r_1 : Int32) => ((r_1 = 0 → (∃ a_3 : Nat, gR S th 9 = some a_3 ∧ 
        (∃ a_4 : Nat, gR S th 7 = some a_4 ∧ (kd S a_4 = 1 ∧ (kd S a_3 = 8 ∧ (P_X8_heardBell a_3 p0 p1 (gI S a_4 2) S (fun (r_7 : Int32) => ((¬ r_7 = (-1) → 
               (P_X11_answer th (r_7 + 1) S (fun (r_9 : Int32) (F_9 : Nat → Nat → Int32) => Q r_9 F_9))) ∧ (r_7 = (-1) → 
               (P_X11_refuse th 6 S (fun (r_10 : Int32) (F_10 : Nat → Nat → Int32) => Q r_10 F_10))))))))))) ∧ 
      (¬ r_1 = 0 → (P_X11_refuse th r_1 S (fun (r_11 : Int32) (F_11 : Nat → Nat → Int32) => Q r_11 F_11)))))))
set_option maxRecDepth 100000 in
def P_X11_heardAlike (th : Nat) (S : St) (bc bs : Nat) (Q : Int32 → St → Prop) : Prop :=
  (kd S th = 11 ∧ ((¬ gR S th 9 = none → (∃ a_2 : Nat, gR S th 9 = some a_2 ∧ (∃ a_3 : Nat, gR S th 14 = some a_3 ∧ 
       (∃ a_4 : Nat, gR S th 7 = some a_4 ∧ (kd S a_4 = 1 ∧ (kd S a_2 = 8 ∧ (∃ c_7 s_7 : Nat, c_7 ≤ bc ∧ s_7 ≤ bs ∧ 
           (P_X8_alike a_2 a_3 (gI S a_4 2) S c_7 s_7 (fun (r_8 : Int32) (S_8 : St) => (kd S_8 th = 11 ∧ (P_X11_answer th r_8 S_8 (fun (r_10 : Int32) (F_10 : Nat → 
                 Nat → Int32) => Q r_10 (wI S_8 F_10))))))))))))) ∧ (gR S th 9 = none → (P_X11_refuse th 6 S (fun (r_11 : Int32) (F_11 : Nat → 
        Nat → Int32) => Q r_11 (wI S F_11))))))
set_option maxRecDepth 100000 in
def P_X8_evenRows (th : Nat) (S : St) (Q : Int32 → Prop) : Prop :=
  (kd S th = 8 ∧ (∃ I_1 : Nat → Int32 → Int32 → Prop, (∃ k : Nat, I_1 k 0 1) ∧ ∀ (n_1 : Nat) (x1_2 : Int32) (x2_3 : Int32), I_1 n_1 x1_2 x2_3 → 
    (∃ a_4 : Nat, gR S th 3 = some a_4 ∧ (kd S a_4 = 21 ∧ (((nI (ln S a_4)) ≤ x2_3 → Q x1_2) ∧ (¬ (nI (ln S a_4)) ≤ x2_3 → 
        (vp_in x2_3 (ln S a_4) ∧ (P_X4_isEven (gI S a_4 x2_3.toNatClampNeg) (gI S th 0) (fun (r_8 : Int32) => ((r_8 = 0 → 
             (∀ v_10 : Int32, v_10 = x2_3 + 1 → (∃ k : Nat, k < n_1 ∧ I_1 k x1_2 v_10))) ∧ (¬ r_8 = 0 → (∀ v_11 : Int32, v_11 = x1_2 + 1 → 
              (∀ v_12 : Int32, v_12 = x2_3 + 1 → (∃ k : Nat, k < n_1 ∧ I_1 k v_11 v_12))))))))))))))
set_option maxRecDepth 100000 in
def P_X11_commonDivisor (p0 : Int32) (p1 : Int32) (Q : Int32 → Prop) : Prop :=
  (∃ I_1 : Nat → Int32 → Int32 → Int32 → Prop, (∃ k : Nat, I_1 k p0 p1 0) ∧ ∀ (n_1 : Nat) (x2_2 : Int32) (x3_3 : Int32) (x4_4 : Int32), I_1 n_1 x2_2 x3_3 x4_4 → 
   ((64 ≤ x4_4 → Q x2_2) ∧ (¬ 64 ≤ x4_4 → ((x3_3 = 0 → Q x2_2) ∧ (¬ x3_3 = 0 → (¬ x3_3 = 0 ∧ (∀ v_8 : Int32, v_8 = irm x2_2 x3_3 → 
         (∀ v_9 : Int32, v_9 = x4_4 + 1 → (∃ k : Nat, k < n_1 ∧ I_1 k x3_3 v_8 v_9)))))))))
set_option maxRecDepth 100000 in
def P_X11_tellFraction (th : Nat) (p0 : Int32) (p1 : Int32) (S : St) (Q : (Nat → Nat → Int64) → Prop) : Prop :=
  (kd S th = 11 ∧ (P_X11_commonDivisor p0 p1 (fun (r_1 : Int32) => ((r_1 ≤ 0 → Q (gJ S)) ∧ (¬ r_1 ≤ 0 → (¬ r_1 = 0 ∧ 
        (∀ v_4 : Int64, v_4 = (p0 / r_1).toInt64 → (∀ J_5 : Nat → Nat → Int64, J_5 = upJ (gJ S) th 1 v_4 → (¬ r_1 = 0 ∧ 
           (∀ v_7 : Int64, v_7 = (p1 / r_1).toInt64 → (∀ J_8 : Nat → Nat → Int64, J_8 = upJ J_5 th 2 v_7 → Q J_8)))))))))))
set_option maxRecDepth 100000 in
def P_X11_evens (th : Nat) (S : St) (Q : Int32 → (Nat → Nat → Int32) → (Nat → Nat → Int64) → Prop) : Prop :=
  (kd S th = 11 ∧ (∃ J_2 : Prop, (J_2 → (P_X11_deny th 6 S (fun (r_3 : Int32) (F_3 : Nat → Nat → Int32) => ((r_3 = 0 ∨ r_3 = 1) ∧ 
        Q r_3 F_3 (gJ S))))) ∧ ((gR S th 9 = none → J_2) ∧ (¬ gR S th 9 = none → (∃ a_4 : Nat, gR S th 9 = some a_4 ∧ 
       (kd S a_4 = 8 ∧ (P_X8_last a_4 S (fun (r_6 : Int32) => ((¬ r_6 = 0 → (P_X8_evenRows a_4 S (fun (r_8 : Int32) => (P_X8_last a_4 S (fun (r_9 : Int32) => (P_X11_tellFraction th r_8 r_9 S (fun (J_10 : Nat → 
                   Nat → Int64) => (P_X11_grant th (wA S (gI S) J_10 (gR S)) (fun (r_11 : Int32) (F_11 : Nat → 
                     Nat → Int32) => ((r_11 = 0 ∨ r_11 = 1) ∧ Q r_11 F_11 J_10)))))))))) ∧ (r_6 = 0 → J_2))))))))))
set_option maxRecDepth 100000 in
def P_X11_isSeed (p0 : Int32) (Q : Int32 → Prop) : Prop :=
  ((p0 < 0 → Q 0) ∧ (¬ p0 < 0 → ((9999 < p0 → Q 0) ∧ (¬ 9999 < p0 → Q 1))))
set_option maxRecDepth 100000 in
def P_X8_strayedRow (th : Nat) (p0 : Int32) (p1 : Int32) (S : St) (Q : Int32 → Prop) : Prop :=
  (kd S th = 8 ∧ (∃ a_1 : Nat, gR S th 3 = some a_1 ∧ (kd S a_1 = 21 ∧ (vp_in 0 (ln S a_1) ∧ (∀ v_4 : Int32, v_4 = gI S a_1 0 → 
       (∃ I_5 : Nat → Int32 → Int32 → Int32 → Prop, (∃ k : Nat, I_5 k v_4 p0 0) ∧ ∀ (n_5 : Nat) (x3_6 : Int32) (x4_7 : Int32) (x5_8 : Int32), I_5 n_5 x3_6 x4_7 x5_8 → 
        (∃ a_9 : Nat, gR S th 2 = some a_9 ∧ (kd S a_9 = 21 ∧ (((nI (ln S a_9)) ≤ x5_8 → Q x3_6) ∧ (¬ (nI (ln S a_9)) ≤ x5_8 → 
            (vp_in x5_8 (ln S a_9) ∧ (∀ v_13 : Int32, v_13 = gI S a_9 x5_8.toNatClampNeg → (∀ v_14 : Int32, v_14 = irm ((x4_7 * 2693) + 10007) 65536 → 
               (∃ J_16 : Int32 → Prop, (∀ (x6_17 : Int32), J_16 x6_17 → (P_X4_moved x3_6 x6_17 (fun (r_18 : Int32) => (∀ v_19 : Int32, v_19 = x5_8 + 1 → 
                    (∃ k : Nat, k < n_5 ∧ I_5 k r_18 v_14 v_19))))) ∧ ((p1 ≤ (irm (v_14 / 8) 16) → J_16 v_13) ∧ 
                 (¬ p1 ≤ (irm (v_14 / 8) 16) → (∀ v_20 : Int32, v_20 = v_13 &&& (-v_13) → (∀ v_21 : Int32, v_21 = v_13 &&& ((v_20 * 15) ^^^ (-1)) → 
                    J_16 v_21))))))))))))))))))
set_option maxRecDepth 100000 in
def P_X11_strayed (th : Nat) (p0 : Int32) (p1 : Int32) (S : St) (Q : Int32 → (Nat → Nat → Int32) → Prop) : Prop :=
  (kd S th = 11 ∧ (P_X11_isSeed p0 (fun (r_1 : Int32) => (∃ J_3 : Prop, (J_3 → (P_X11_refuse th 1 S (fun (r_4 : Int32) (F_4 : Nat → 
          Nat → Int32) => Q r_4 F_4))) ∧ ((r_1 = 0 → J_3) ∧ (¬ r_1 = 0 → ((p1 < 0 → J_3) ∧ (¬ p1 < 0 → ((p1 ≤ 16 → 
            ((¬ gR S th 8 = none → (∃ a_8 : Nat, gR S th 8 = some a_8 ∧ (kd S a_8 = 8 ∧ (P_X8_strayedRow a_8 p0 p1 S (fun (r_10 : Int32) => (P_X11_numbered th r_10 S (fun (r_11 : Int32) => (P_X11_answer th r_11 S (fun (r_12 : Int32) (F_12 : Nat → 
                       Nat → Int32) => Q r_12 F_12))))))))) ∧ (gR S th 8 = none → (P_X11_refuse th 6 S (fun (r_13 : Int32) (F_13 : Nat → 
                 Nat → Int32) => Q r_13 F_13))))) ∧ (¬ p1 ≤ 16 → J_3))))))))))
set_option maxRecDepth 100000 in
def P_X11_odds (th : Nat) (p0 : Int32) (p1 : Int32) (p2 : Int32) (S : St) (Q : Int32 → (Nat → Nat → Int32) → (Nat → Nat → Int64) → Prop) : Prop :=
  (kd S th = 11 ∧ (P_X11_isSeed p0 (fun (r_1 : Int32) => (∃ J_3 : Prop, (J_3 → (P_X11_deny th 1 S (fun (r_4 : Int32) (F_4 : Nat → 
          Nat → Int32) => ((r_4 = 0 ∨ r_4 = 1) ∧ Q r_4 F_4 (gJ S))))) ∧ ((r_1 = 0 → J_3) ∧ (¬ r_1 = 0 → ((p1 < 1 → 
          J_3) ∧ (¬ p1 < 1 → ((20 < p1 → J_3) ∧ (¬ 20 < p1 → (P_X11_isSeed ((p0 + p1) - 1) (fun (r_7 : Int32) => ((r_7 = 0 → 
                J_3) ∧ (¬ r_7 = 0 → ((p2 < 0 → J_3) ∧ (¬ p2 < 0 → ((p2 ≤ 16 → ((¬ gR S th 8 = none → (∃ a_12 : Nat, gR S th 8 = some a_12 ∧ 
                       (kd S a_12 = 8 ∧ (∃ a_14 : Nat, gR S a_12 3 = some a_14 ∧ (P_X8_last a_12 S (fun (r_15 : Int32) => (kd S a_14 = 21 ∧ 
                            (vp_in r_15 (ln S a_14) ∧ (∀ v_18 : Int32, v_18 = gI S a_14 r_15.toNatClampNeg → (∃ I_19 : Nat → 
                               Int32 → Int32 → Prop, (∃ k : Nat, I_19 k 0 0) ∧ ∀ (n_19 : Nat) (x5_20 : Int32) (x6_21 : Int32), I_19 n_19 x5_20 x6_21 → 
                               ((p1 ≤ x6_21 → (P_X11_tellFraction th x5_20 p1 S (fun (J_23 : Nat → Nat → Int64) => (P_X11_grant th (wA S (gI S) J_23 (gR S)) (fun (r_24 : Int32) (F_24 : Nat → 
                                      Nat → Int32) => ((r_24 = 0 ∨ r_24 = 1) ∧ Q r_24 F_24 J_23)))))) ∧ (¬ p1 ≤ x6_21 → 
                                 (P_X8_strayedRow a_12 (p0 + x6_21) p2 S (fun (r_25 : Int32) => ((¬ r_25 = v_18 → 
                                     (∀ v_27 : Int32, v_27 = x6_21 + 1 → (∃ k : Nat, k < n_19 ∧ I_19 k x5_20 v_27))) ∧ 
                                    (r_25 = v_18 → (∀ v_28 : Int32, v_28 = x5_20 + 1 → (∀ v_29 : Int32, v_29 = x6_21 + 1 → 
                                       (∃ k : Nat, k < n_19 ∧ I_19 k v_28 v_29))))))))))))))))))) ∧ (gR S th 8 = none → 
                      (P_X11_deny th 6 S (fun (r_30 : Int32) (F_30 : Nat → Nat → Int32) => ((r_30 = 0 ∨ r_30 = 1) ∧ 
                         Q r_30 F_30 (gJ S))))))) ∧ (¬ p2 ≤ 16 → J_3))))))))))))))))))
set_option maxRecDepth 100000 in
def P_J7_fill_53178 (p0 : Nat) (p1 : Int32) (S : St) (Q : (Nat → Nat → Int32) → Prop) : Prop :=
  (kd S p0 = 21 ∧ (∀ v_2 : Int32, v_2 = nI (ln S p0) → (∃ I_3 : Nat → Int32 → (Nat → Nat → Int32) → Prop, (∃ k : Nat, I_3 k 0 (gI S)) ∧ 
     ∀ (n_3 : Nat) (x2_4 : Int32) (F_5 : Nat → Nat → Int32), I_3 n_3 x2_4 F_5 → ((v_2 ≤ x2_4 → Q F_5) ∧ (¬ v_2 ≤ x2_4 → 
       (vp_in x2_4 (ln S p0) ∧ (∀ F_8 : Nat → Nat → Int32, F_8 = upI F_5 p0 x2_4.toNatClampNeg p1 → (∀ v_9 : Int32, v_9 = x2_4 + 1 → 
          (∃ k : Nat, k < n_3 ∧ I_3 k v_9 F_8)))))))))
set_option maxRecDepth 100000 in
def P_X5_isTried (th : Nat) (p0 : Int32) (S : St) (Q : Int32 → Prop) : Prop :=
  (kd S th = 5 ∧ (∃ I_1 : Nat → Int32 → Prop, (∃ k : Nat, I_1 k 0) ∧ ∀ (n_1 : Nat) (x2_2 : Int32), I_1 n_1 x2_2 → 
    (((gI S th 5) ≤ x2_2 → Q 0) ∧ (¬ (gI S th 5) ≤ x2_2 → (∃ a_4 : Nat, gR S th 3 = some a_4 ∧ (kd S a_4 = 21 ∧ 
        (vp_in x2_2 (ln S a_4) ∧ ((¬ (gI S a_4 x2_2.toNatClampNeg) = p0 → (∀ v_8 : Int32, v_8 = x2_2 + 1 → (∃ k : Nat, k < n_1 ∧ 
             I_1 k v_8))) ∧ ((gI S a_4 x2_2.toNatClampNeg) = p0 → Q 1)))))))))
set_option maxRecDepth 100000 in
def P_X5_gatherHeads (th : Nat) (p0 : Nat) (S : St) (Q : (Nat → Nat → Int32) → Prop) : Prop :=
  (kd S th = 5 ∧ (∀ F_1 : Nat → Nat → Int32, F_1 = upI (gI S) th 5 0 → (∀ F_2 : Nat → Nat → Int32, F_2 = upI F_1 th 6 0 → 
     (∃ I_3 : Nat → Int32 → (Nat → Nat → Int32) → Prop, (∃ k : Nat, I_3 k 0 F_2) ∧ ∀ (n_3 : Nat) (x2_4 : Int32) (F_5 : Nat → 
       Nat → Int32), I_3 n_3 x2_4 F_5 → (kd S p0 = 1 ∧ (∃ a_7 : Nat, gR S p0 3 = some a_7 ∧ (kd S a_7 = 24 ∧ (((nI (ln S a_7)) ≤ x2_4 → 
           Q F_5) ∧ (¬ (nI (ln S a_7)) ≤ x2_4 → (∃ I_10 : Nat → Int32 → (Nat → Nat → Int32) → Prop, (∃ k : Nat, I_10 k 0 F_5) ∧ 
            ∀ (n_10 : Nat) (x3_11 : Int32) (F_12 : Nat → Nat → Int32), I_10 n_10 x3_11 F_12 → ((3 ≤ x3_11 → (∀ v_14 : Int32, v_14 = x2_4 + 1 → 
               (∃ k : Nat, k < n_3 ∧ I_3 k v_14 F_12))) ∧ (¬ 3 ≤ x3_11 → (vp_in x2_4 (ln S a_7) ∧ (∃ a_16 : Nat, gR S a_7 x2_4.toNatClampNeg = some a_16 ∧ 
                (kd S a_16 = 4 ∧ (∃ a_18 : Nat, gR S a_16 4 = some a_18 ∧ (kd S a_18 = 21 ∧ (vp_in x3_11 (ln S a_18) ∧ 
                    (∀ v_21 : Int32, v_21 = F_12 a_18 x3_11.toNatClampNeg → ((12 ≤ (F_12 th 5) → (∀ v_23 : Int32, v_23 = x3_11 + 1 → 
                        (∃ k : Nat, k < n_10 ∧ I_10 k v_23 F_12))) ∧ (¬ 12 ≤ (F_12 th 5) → (P_X4_roundsOf (F_12 p0 0) (fun (r_24 : Int32) => ((v_21 = r_24 → 
                           (∀ v_26 : Int32, v_26 = x3_11 + 1 → (∃ k : Nat, k < n_10 ∧ I_10 k v_26 F_12))) ∧ (¬ v_21 = r_24 → 
                           (P_X5_isTried th v_21 (wI S F_12) (fun (r_27 : Int32) => ((¬ r_27 = 0 → (∀ v_29 : Int32, v_29 = x3_11 + 1 → 
                                (∃ k : Nat, k < n_10 ∧ I_10 k v_29 F_12))) ∧ (r_27 = 0 → (∃ a_30 : Nat, gR S th 3 = some a_30 ∧ 
                                (kd S a_30 = 21 ∧ (vp_in (F_12 th 5) (ln S a_30) ∧ (∀ F_33 : Nat → Nat → Int32, F_33 = upI F_12 a_30 ((F_12 th 5).toNatClampNeg) v_21 → 
                                   (∃ a_34 : Nat, gR S th 4 = some a_34 ∧ (kd S a_34 = 21 ∧ (vp_in (F_33 th 5) (ln S a_34) ∧ 
                                      (∀ v_37 : Int32, v_37 = (x2_4 * 3) + x3_11 → (∀ F_38 : Nat → Nat → Int32, F_38 = upI F_33 a_34 ((F_33 th 5).toNatClampNeg) v_37 → 
                                        (∀ v_39 : Int32, v_39 = (F_38 th 5) + 1 → (∀ F_40 : Nat → Nat → Int32, F_40 = upI F_38 th 5 v_39 → 
  (∀ v_41 : Int32, v_41 = x3_11 + 1 → (∃ k : Nat, k < n_10 ∧ I_10 k v_41 F_40))))))))))))))))))))))))))))))))))))))))))
set_option maxRecDepth 100000 in
def P_X5_keepFound (th : Nat) (p0 : Int32) (p1 : Int32) (p2 : Int32) (p3 : Int32) (S : St) (Q : (Nat → Nat → Int32) → Prop) : Prop :=
  (kd S th = 5 ∧ (∃ a_1 : Nat, gR S th 1 = some a_1 ∧ (kd S a_1 = 21 ∧ (((nI (ln S a_1)) ≤ (gI S th 6) → Q (gI S)) ∧ 
      (¬ (nI (ln S a_1)) ≤ (gI S th 6) → (∃ a_4 : Nat, gR S th 2 = some a_4 ∧ (kd S a_4 = 21 ∧ (((nI (ln S a_4)) ≤ p1 → 
           Q (gI S)) ∧ (¬ (nI (ln S a_4)) ≤ p1 → (vp_in (gI S th 6) (ln S a_1) ∧ (∀ F_8 : Nat → Nat → Int32, F_8 = upI (gI S) a_1 ((gI S th 6).toNatClampNeg) p0 → 
             (vp_in p1 (ln S a_4) ∧ (∀ v_10 : Int32, v_10 = p3 + p2 → (∀ F_11 : Nat → Nat → Int32, F_11 = upI F_8 a_4 p1.toNatClampNeg v_10 → 
                (∀ v_12 : Int32, v_12 = (F_11 th 6) + 1 → (∀ F_13 : Nat → Nat → Int32, F_13 = upI F_11 th 6 v_12 → 
                  Q F_13))))))))))))))))
set_option maxRecDepth 100000 in
def P_X5_spread (th : Nat) (p0 : Int32) (p1 : Int32) (S : St) (Q : (Nat → Nat → Int32) → Prop) : Prop :=
  (kd S th = 5 ∧ (P_X4_rank p0 p1 (fun (r_1 : Int32) => (∀ v_2 : Int32, v_2 = r_1 * 12 → (∃ I_3 : Nat → Int32 → (Nat → 
        Nat → Int32) → Prop, (∃ k : Nat, I_3 k 0 (gI S)) ∧ ∀ (n_3 : Nat) (x4_4 : Int32) (F_5 : Nat → Nat → Int32), I_3 n_3 x4_4 F_5 → 
       (((F_5 th 5) ≤ x4_4 → Q F_5) ∧ (¬ (F_5 th 5) ≤ x4_4 → (∃ a_7 : Nat, gR S th 3 = some a_7 ∧ (kd S a_7 = 21 ∧ 
           (vp_in x4_4 (ln S a_7) ∧ (P_X4_rankMultiplied p0 (F_5 a_7 x4_4.toNatClampNeg) p1 (fun (r_10 : Int32) => (∃ a_11 : Nat, gR S th 2 = some a_11 ∧ 
               (kd S a_11 = 21 ∧ (((nI (ln S a_11)) ≤ r_10 → (∀ v_14 : Int32, v_14 = x4_4 + 1 → (∃ k : Nat, k < n_3 ∧ 
                    I_3 k v_14 F_5))) ∧ (¬ (nI (ln S a_11)) ≤ r_10 → (vp_in r_10 (ln S a_11) ∧ ((¬ (F_5 a_11 r_10.toNatClampNeg) = 0 → 
                     (∀ v_17 : Int32, v_17 = x4_4 + 1 → (∃ k : Nat, k < n_3 ∧ I_3 k v_17 F_5))) ∧ ((F_5 a_11 r_10.toNatClampNeg) = 0 → 
                     (P_X4_multiply p0 (F_5 a_7 x4_4.toNatClampNeg) p1 (fun (r_18 : Int32) => (∃ a_19 : Nat, gR S th 4 = some a_19 ∧ 
                        (kd S a_19 = 21 ∧ (vp_in x4_4 (ln S a_19) ∧ (P_X5_keepFound th r_18 r_10 ((F_5 a_19 x4_4.toNatClampNeg) + 1) v_2 (wI S F_5) (fun (F_22 : Nat → 
                             Nat → Int32) => (∀ v_23 : Int32, v_23 = x4_4 + 1 → (∃ k : Nat, k < n_3 ∧ I_3 k v_23 F_22))))))))))))))))))))))))))))
set_option maxRecDepth 100000 in
def P_X5_over (th : Nat) (p0 : Nat) (S : St) (bc bs : Nat) (Q : St → Prop) : Prop :=
  (kd S th = 5 ∧ ((¬ gR S th 0 = (some p0) → (∀ R_2 : Nat → Nat → Option Nat, R_2 = upR (gR S) th 0 (some p0) → (∃ a_3 : Nat, R_2 th 1 = some a_3 ∧ 
       (kd S a_3 = 21 ∧ (kd S p0 = 1 ∧ (∃ J_7 : St → Nat → Nat → Prop, (∀ (S_8 : St) (b_9 : Nat) (d_9 : Nat), J_7 S_8 b_9 d_9 → 
           (kd S_8 th = 5 ∧ (P_X5_gatherHeads th p0 S_8 (fun (F_11 : Nat → Nat → Int32) => (kd S_8 p0 = 1 ∧ (P_X4_roundsOf (F_11 p0 0) (fun (r_13 : Int32) => (P_X5_keepFound th r_13 0 1 0 (wI S_8 F_11) (fun (F_14 : Nat → 
                    Nat → Int32) => (∃ I_15 : Nat → Int32 → (Nat → Nat → Int32) → Prop, (∃ k : Nat, I_15 k 0 F_14) ∧ 
                    ∀ (n_15 : Nat) (x2_16 : Int32) (F_17 : Nat → Nat → Int32), I_15 n_15 x2_16 F_17 → (((F_17 th 6) ≤ x2_16 → 
                      Q (wI S_8 F_17)) ∧ (¬ (F_17 th 6) ≤ x2_16 → (∃ a_19 : Nat, gR S_8 th 1 = some a_19 ∧ (kd S_8 a_19 = 21 ∧ 
                        (((nI (ln S_8 a_19)) ≤ x2_16 → Q (wI S_8 F_17)) ∧ (¬ (nI (ln S_8 a_19)) ≤ x2_16 → (vp_in x2_16 (ln S_8 a_19) ∧ 
                           (P_X5_spread th (F_17 a_19 x2_16.toNatClampNeg) (F_17 p0 0) (wI S_8 F_17) (fun (F_23 : Nat → 
                              Nat → Int32) => (∀ v_24 : Int32, v_24 = x2_16 + 1 → (∃ k : Nat, k < n_15 ∧ I_15 k v_24 F_23))))))))))))))))))))) ∧ 
          (((gI S p0 1) ≤ (nI (ln S a_3)) → (∃ a_25 : Nat, R_2 th 2 = some a_25 ∧ (P_J7_fill_53178 a_25 0 (wA S (gI S) (gJ S) R_2) (fun (F_26 : Nat → 
                Nat → Int32) => J_7 (wA S F_26 (gJ S) R_2) bc bs)))) ∧ (¬ (gI S p0 1) ≤ (nI (ln S a_3)) → (∀ v_28 : Int32, v_28 = gI S p0 1 → 
             (¬ v_28 < 0 ∧ (v_28.toNatClampNeg * 4 ≤ 536870912 ∧ (1 ≤ bc ∧ (v_28.toNatClampNeg ≤ bs ∧ (∀ q_27 : Nat, kd S q_27 = 0 → 
                  ∀ S_27 : St, S_27 = alo (wA S (gI S) (gJ S) R_2) q_27 21 v_28.toNatClampNeg → (kd S_27 th = 5 ∧ 
                   (∀ R_34 : Nat → Nat → Option Nat, R_34 = upR (gR S_27) th 1 (some q_27) → (kd S_27 p0 = 1 ∧ 
                     (∀ v_37 : Int32, v_37 = gI S_27 p0 1 → (¬ v_37 < 0 ∧ (v_37.toNatClampNeg * 4 ≤ 536870912 ∧ 
                        (1 ≤ bc - 1 ∧ (v_37.toNatClampNeg ≤ bs - v_28.toNatClampNeg ∧ (∀ q_36 : Nat, kd S_27 q_36 = 0 → 
                           ∀ S_36 : St, S_36 = alo (wA S_27 (gI S_27) (gJ S_27) R_34) q_36 21 v_37.toNatClampNeg → 
                           (kd S_36 th = 5 ∧ (∀ R_43 : Nat → Nat → Option Nat, R_43 = upR (gR S_36) th 2 (some q_36) → 
                             J_7 (wA S_36 (gI S_36) (gJ S_36) R_43) (bc - 2) (bs - v_28.toNatClampNeg - v_37.toNatClampNeg)))))))))))))))))))))))))) ∧ 
    (gR S th 0 = (some p0) → Q S)))
set_option maxRecDepth 100000 in
def P_X5_isFound (th : Nat) (p0 : Int32) (S : St) (Q : Int32 → Prop) : Prop :=
  (kd S th = 5 ∧ ((p0 < 0 → Q 0) ∧ (¬ p0 < 0 → (∃ a_2 : Nat, gR S th 2 = some a_2 ∧ (kd S a_2 = 21 ∧ (((nI (ln S a_2)) ≤ p0 → 
         Q 0) ∧ (¬ (nI (ln S a_2)) ≤ p0 → (vp_in p0 (ln S a_2) ∧ (((gI S a_2 p0.toNatClampNeg) = 0 → Q 0) ∧ (¬ (gI S a_2 p0.toNatClampNeg) = 0 → 
            Q 1))))))))))
set_option maxRecDepth 100000 in
def P_X5_rowAhead (th : Nat) (p0 : Int32) (S : St) (Q : Int32 → Prop) : Prop :=
  (kd S th = 5 ∧ (P_X5_isFound th p0 S (fun (r_1 : Int32) => ((r_1 = 0 → Q 0) ∧ (¬ r_1 = 0 → (∃ a_3 : Nat, gR S th 2 = some a_3 ∧ 
        (kd S a_3 = 21 ∧ (vp_in p0 (ln S a_3) ∧ Q (((gI S a_3 p0.toNatClampNeg) - 1) / 12)))))))))
set_option maxRecDepth 100000 in
def P_X5_keepWay (th : Nat) (p0 : Int32) (S : St) (bc bs : Nat) (Q : St → Prop) : Prop :=
  (kd S th = 5 ∧ (∃ I_1 : Nat → Int32 → Int32 → Prop, (∃ k : Nat, I_1 k 0 p0) ∧ ∀ (n_1 : Nat) (x2_2 : Int32) (x3_3 : Int32), I_1 n_1 x2_2 x3_3 → 
    (∃ J_5 : Prop, (J_5 → (∃ a_6 : Nat, gR S th 7 = some a_6 ∧ (kd S a_6 = 21 ∧ (∃ J_9 : St → Nat → Nat → Prop, (∀ (S_10 : St) (b_11 : Nat) (d_11 : Nat), J_9 S_10 b_11 d_11 → 
          (kd S_10 th = 5 ∧ (∀ F_13 : Nat → Nat → Int32, F_13 = upI (gI S_10) th 8 x2_2 → (∀ v_14 : Int32, v_14 = x2_2 - 1 → 
             (∃ I_15 : Nat → Int32 → Int32 → (Nat → Nat → Int32) → Prop, (∃ k : Nat, I_15 k p0 v_14 F_13) ∧ ∀ (n_15 : Nat) (x3_16 : Int32) (x4_17 : Int32) (F_18 : Nat → 
               Nat → Int32), I_15 n_15 x3_16 x4_17 F_18 → ((x4_17 < 0 → Q (wI S_10 F_18)) ∧ (¬ x4_17 < 0 → (∃ a_20 : Nat, gR S_10 th 7 = some a_20 ∧ 
                 (P_X5_isFound th x3_16 (wI S_10 F_18) (fun (r_21 : Int32) => (∃ J_23 : Int32 → Prop, (∀ (t_24 : Int32), J_23 t_24 → 
                     (kd S_10 a_20 = 21 ∧ (vp_in x4_17 (ln S_10 a_20) ∧ (∀ F_27 : Nat → Nat → Int32, F_27 = upI F_18 a_20 x4_17.toNatClampNeg t_24 → 
                        (P_X5_rowAhead th x3_16 (wI S_10 F_27) (fun (r_28 : Int32) => (∀ v_29 : Int32, v_29 = x4_17 + (-1) → 
                           (∃ k : Nat, k < n_15 ∧ I_15 k r_28 v_29 F_27)))))))) ∧ ((r_21 = 0 → J_23 0) ∧ (¬ r_21 = 0 → 
                      (∃ a_30 : Nat, gR S_10 th 2 = some a_30 ∧ (kd S_10 a_30 = 21 ∧ (vp_in x3_16 (ln S_10 a_30) ∧ 
                         J_23 (irm ((F_18 a_30 x3_16.toNatClampNeg) - 1) 12))))))))))))))))) ∧ ((x2_2 ≤ (nI (ln S a_6)) → 
           J_9 S bc bs) ∧ (¬ x2_2 ≤ (nI (ln S a_6)) → (¬ x2_2 < 0 ∧ (x2_2.toNatClampNeg * 4 ≤ 536870912 ∧ (1 ≤ bc ∧ 
              (x2_2.toNatClampNeg ≤ bs ∧ (∀ q_33 : Nat, kd S q_33 = 0 → ∀ S_33 : St, S_33 = alo S q_33 21 x2_2.toNatClampNeg → 
                (kd S_33 th = 5 ∧ (∀ R_39 : Nat → Nat → Option Nat, R_39 = upR (gR S_33) th 7 (some q_33) → J_9 (wA S_33 (gI S_33) (gJ S_33) R_39) (bc - 1) (bs - x2_2.toNatClampNeg)))))))))))))) ∧ 
     ((x3_3 = 0 → J_5) ∧ (¬ x3_3 = 0 → (∃ a_40 : Nat, gR S th 2 = some a_40 ∧ (kd S a_40 = 21 ∧ (((nI (ln S a_40)) ≤ x2_2 → 
           J_5) ∧ (¬ (nI (ln S a_40)) ≤ x2_2 → (∀ v_43 : Int32, v_43 = x2_2 + 1 → (P_X5_rowAhead th x3_3 S (fun (r_44 : Int32) => (∃ k : Nat, k < n_1 ∧ 
               I_1 k v_43 r_44)))))))))))))
set_option maxRecDepth 100000 in
def P_X11_way (th : Nat) (p0 : Int32) (S : St) (bc bs : Nat) (Q : Int32 → St → Prop) : Prop :=
  (kd S th = 11 ∧ (P_X11_isRow th p0 S (fun (r_1 : Int32) => ((¬ r_1 = 0 → (∃ a_3 : Nat, gR S th 15 = some a_3 ∧ 
        (∃ a_4 : Nat, gR S th 7 = some a_4 ∧ (kd S a_3 = 5 ∧ (∃ c_6 s_6 : Nat, c_6 ≤ bc ∧ s_6 ≤ bs ∧ (P_X5_over a_3 a_4 S c_6 s_6 (fun (S_7 : St) => (kd S_7 th = 11 ∧ 
              (∃ a_9 : Nat, gR S_7 th 15 = some a_9 ∧ (kd S_7 a_9 = 5 ∧ (P_X5_isFound a_9 p0 S_7 (fun (r_11 : Int32) => ((¬ r_11 = 0 → 
                    (∃ c_13 s_13 : Nat, c_13 ≤ bc - c_6 ∧ s_13 ≤ bs - s_6 ∧ (P_X5_keepWay a_9 p0 S_7 c_13 s_13 (fun (S_14 : St) => (kd S_14 th = 11 ∧ 
                        (∃ a_16 : Nat, gR S_14 th 15 = some a_16 ∧ (kd S_14 a_16 = 5 ∧ (P_X11_answer th (gI S_14 a_16 8) S_14 (fun (r_18 : Int32) (F_18 : Nat → 
                             Nat → Int32) => Q r_18 (wI S_14 F_18)))))))))) ∧ (r_11 = 0 → (P_X11_refuse th 6 S_7 (fun (r_19 : Int32) (F_19 : Nat → 
                       Nat → Int32) => Q r_19 (wI S_7 F_19))))))))))))))))) ∧ (r_1 = 0 → (P_X11_refuse th 1 S (fun (r_20 : Int32) (F_20 : Nat → 
          Nat → Int32) => Q r_20 (wI S F_20))))))))
set_option maxRecDepth 100000 in
def P_X11_wayAt (th : Nat) (p0 : Int32) (p1 : Int32) (S : St) (Q : Int32 → (Nat → Nat → Int32) → Prop) : Prop :=
  (kd S th = 11 ∧ (∃ J_2 : Prop, (J_2 → (∃ J_4 : Prop, (J_4 → (P_X11_refuse th 6 S (fun (r_5 : Int32) (F_5 : Nat → 
          Nat → Int32) => Q r_5 F_5))) ∧ ((p0 < 0 → J_4) ∧ (¬ p0 < 0 → (∃ a_6 : Nat, gR S th 15 = some a_6 ∧ (kd S a_6 = 5 ∧ 
          ((p0 < (gI S a_6 8) → (∃ a_9 : Nat, gR S a_6 7 = some a_9 ∧ (kd S a_9 = 21 ∧ (vp_in p0 (ln S a_9) ∧ (∀ v_12 : Int32, v_12 = gI S a_9 p0.toNatClampNeg → 
                (∃ J_14 : Int32 → Prop, (∀ (t_15 : Int32), J_14 t_15 → (P_X11_answer th t_15 S (fun (r_16 : Int32) (F_16 : Nat → 
                     Nat → Int32) => Q r_16 F_16))) ∧ ((¬ p1 = 0 → J_14 (irm v_12 3)) ∧ (p1 = 0 → J_14 (v_12 / 3))))))))) ∧ 
           (¬ p0 < (gI S a_6 8) → J_4)))))))) ∧ ((p1 = 0 → J_2) ∧ (¬ p1 = 0 → ((p1 = 1 → J_2) ∧ (¬ p1 = 1 → (P_X11_refuse th 1 S (fun (r_18 : Int32) (F_18 : Nat → 
           Nat → Int32) => Q r_18 F_18))))))))
set_option maxRecDepth 100000 in
def P_X11_extent (th : Nat) (S : St) (bc bs : Nat) (Q : Int32 → St → Prop) : Prop :=
  (kd S th = 11 ∧ (∃ a_1 : Nat, gR S th 15 = some a_1 ∧ (∃ a_2 : Nat, gR S th 7 = some a_2 ∧ (kd S a_1 = 5 ∧ (∃ c_4 s_4 : Nat, c_4 ≤ bc ∧ 
       s_4 ≤ bs ∧ (P_X5_over a_1 a_2 S c_4 s_4 (fun (S_5 : St) => (kd S_5 th = 11 ∧ (∃ a_7 : Nat, gR S_5 th 15 = some a_7 ∧ 
           (kd S_5 a_7 = 5 ∧ (P_X11_answer th (gI S_5 a_7 6) S_5 (fun (r_9 : Int32) (F_9 : Nat → Nat → Int32) => Q r_9 (wI S_5 F_9)))))))))))))
set_option maxRecDepth 100000 in
def P_X2_begin (th : Nat) (p0 : Int32) (p1 : Int32) (p2 : Int32) (S : St) (Q : (Nat → Nat → Int32) → Prop) : Prop :=
  (kd S th = 3 ∧ (∃ a_1 : Nat, gR S th 1 = some a_1 ∧ (kd S a_1 = 21 ∧ (vp_in p0 (ln S a_1) ∧ (∀ F_4 : Nat → Nat → 
       Int32, F_4 = upI (gI S) a_1 p0.toNatClampNeg p1 → (∃ a_5 : Nat, gR S th 2 = some a_5 ∧ (P_X4_invert p1 p2 (fun (r_6 : Int32) => (kd S a_5 = 21 ∧ 
           (vp_in p0 (ln S a_5) ∧ (∀ F_9 : Nat → Nat → Int32, F_9 = upI F_4 a_5 p0.toNatClampNeg r_6 → (∃ a_10 : Nat, gR S th 0 = some a_10 ∧ 
              (kd S a_10 = 21 ∧ (vp_in p0 (ln S a_10) ∧ (∀ F_13 : Nat → Nat → Int32, F_13 = upI F_9 a_10 p0.toNatClampNeg (-1) → 
                 Q F_13)))))))))))))))
set_option maxRecDepth 100000 in
def P_X6_has (th : Nat) (p0 : Int32) (S : St) (Q : Int32 → Prop) : Prop :=
  (kd S th = 6 ∧ ((p0 < 0 → Q 0) ∧ (¬ p0 < 0 → (∃ a_2 : Nat, gR S th 0 = some a_2 ∧ (kd S a_2 = 21 ∧ (((nI (ln S a_2)) ≤ p0 → 
         Q 0) ∧ (¬ (nI (ln S a_2)) ≤ p0 → (vp_in p0 (ln S a_2) ∧ ((¬ (gI S a_2 p0.toNatClampNeg) = (gI S th 1) → 
            Q 0) ∧ ((gI S a_2 p0.toNatClampNeg) = (gI S th 1) → Q 1))))))))))
set_option maxRecDepth 100000 in
def P_X2_isFalse (th : Nat) (p0 : Int32) (p1 : Int32) (p2 : Int32) (p3 : Nat) (S : St) (Q : Int32 → Prop) : Prop :=
  (kd S th = 3 ∧ (∃ I_1 : Nat → Int32 → Prop, (∃ k : Nat, I_1 k 0) ∧ ∀ (n_1 : Nat) (x5_2 : Int32), I_1 n_1 x5_2 → 
    ((p0 ≤ x5_2 → Q 0) ∧ (¬ p0 ≤ x5_2 → (∃ a_4 : Nat, gR S th 2 = some a_4 ∧ (kd S a_4 = 21 ∧ (vp_in x5_2 (ln S a_4) ∧ 
         (P_X4_rankMultiplied (gI S a_4 x5_2.toNatClampNeg) p1 p2 (fun (r_7 : Int32) => (kd S p3 = 6 ∧ (P_X6_has p3 r_7 S (fun (r_9 : Int32) => ((r_9 = 0 → 
                (∀ v_11 : Int32, v_11 = x5_2 + 1 → (∃ k : Nat, k < n_1 ∧ I_1 k v_11))) ∧ (¬ r_9 = 0 → Q 1))))))))))))))
set_option maxRecDepth 100000 in
def P_X2_keep (th : Nat) (p0 : Int32) (S : St) (Q : (Nat → Nat → Int32) → Prop) : Prop :=
  (kd S th = 3 ∧ (∃ J_2 : (Nat → Nat → Int32) → Prop, (∀ (F_3 : Nat → Nat → Int32), J_2 F_3 → (∀ v_4 : Int32, v_4 = (F_3 th 5) + 1 → 
      (∀ F_5 : Nat → Nat → Int32, F_5 = upI F_3 th 5 v_4 → Q F_5))) ∧ ((¬ (gI S th 5) = 0 → J_2 (gI S)) ∧ ((gI S th 5) = 0 → 
      (∃ a_6 : Nat, gR S th 0 = some a_6 ∧ (∃ a_7 : Nat, gR S th 3 = some a_7 ∧ (kd S a_6 = 21 ∧ (kd S a_7 = 21 ∧ 
          (¬ p0 < 0 ∧ (0 + p0.toNatClampNeg ≤ ln S a_6 ∧ (0 + p0.toNatClampNeg ≤ ln S a_7 ∧ (∀ F_13 : Nat → Nat → 
              Int32, F_13 = cpIf (gI S) a_6 a_7 0 0 p0.toNatClampNeg → (∀ F_14 : Nat → Nat → Int32, F_14 = upI F_13 th 4 p0 → 
               J_2 F_14)))))))))))))
set_option maxRecDepth 100000 in
def P_X2_tryCalls (th : Nat) (p0 : Int32) (p1 : Nat) (p2 : Int32) (p3 : Int32) (p4 : Nat) (S : St) (Q : (Nat → Nat → Int32) → Prop) : Prop :=
  (kd S th = 3 ∧ (P_X4_roundsOf p0 (fun (r_1 : Int32) => (P_X2_begin th 0 r_1 p0 S (fun (F_2 : Nat → Nat → Int32) => (∃ I_3 : Nat → 
        Int32 → Int32 → (Nat → Nat → Int32) → Prop, (∃ k : Nat, I_3 k 0 0 F_2) ∧ ∀ (n_3 : Nat) (x7_4 : Int32) (x8_5 : Int32) (F_6 : Nat → 
         Nat → Int32), I_3 n_3 x7_4 x8_5 F_6 → ((1000000 ≤ x8_5 → Q F_6) ∧ (¬ 1000000 ≤ x8_5 → ((x7_4 < 0 → Q F_6) ∧ 
           (¬ x7_4 < 0 → (∃ a_9 : Nat, gR S th 0 = some a_9 ∧ (kd S a_9 = 21 ∧ (vp_in x7_4 (ln S a_9) ∧ (∀ v_12 : Int32, v_12 = (F_6 a_9 x7_4.toNatClampNeg) + 1 → 
                (∀ F_13 : Nat → Nat → Int32, F_13 = upI F_6 a_9 x7_4.toNatClampNeg v_12 → (((F_13 a_9 x7_4.toNatClampNeg) < 3 → 
                   (((p3 &&& (shl 1 (F_13 a_9 x7_4.toNatClampNeg))) = 0 → (∀ v_16 : Int32, v_16 = x8_5 + 1 → (∃ k : Nat, k < n_3 ∧ 
                       I_3 k x7_4 v_16 F_13))) ∧ (¬ (p3 &&& (shl 1 (F_13 a_9 x7_4.toNatClampNeg))) = 0 → (∃ a_17 : Nat, gR S th 1 = some a_17 ∧ 
                      (kd S a_17 = 21 ∧ (vp_in x7_4 (ln S a_17) ∧ (kd S p1 = 4 ∧ (∃ a_21 : Nat, gR S p1 4 = some a_21 ∧ 
                          (kd S a_21 = 21 ∧ (vp_in (F_13 a_9 x7_4.toNatClampNeg) (ln S a_21) ∧ (P_X4_multiply (F_13 a_17 x7_4.toNatClampNeg) (F_13 a_21 ((F_13 a_9 x7_4.toNatClampNeg).toNatClampNeg)) p0 (fun (r_24 : Int32) => ((p2 ≤ (x7_4 + 1) → 
                                ((¬ r_24 = r_1 → (∀ v_27 : Int32, v_27 = x8_5 + 1 → (∃ k : Nat, k < n_3 ∧ I_3 k x7_4 v_27 F_13))) ∧ 
                                 (r_24 = r_1 → (P_X2_keep th p2 (wI S F_13) (fun (F_28 : Nat → Nat → Int32) => (∀ v_29 : Int32, v_29 = x8_5 + 1 → 
                                     (∃ k : Nat, k < n_3 ∧ I_3 k x7_4 v_29 F_28))))))) ∧ (¬ p2 ≤ (x7_4 + 1) → (P_X2_isFalse th (x7_4 + 1) r_24 p0 p4 (wI S F_13) (fun (r_30 : Int32) => ((¬ r_30 = 0 → 
                                    (∀ v_32 : Int32, v_32 = x8_5 + 1 → (∃ k : Nat, k < n_3 ∧ I_3 k x7_4 v_32 F_13))) ∧ 
                                   (r_30 = 0 → (∀ v_33 : Int32, v_33 = x7_4 + 1 → (P_X2_begin th v_33 r_24 p0 (wI S F_13) (fun (F_34 : Nat → 
                                        Nat → Int32) => (∀ v_35 : Int32, v_35 = x8_5 + 1 → (∃ k : Nat, k < n_3 ∧ 
                                        I_3 k v_33 v_35 F_34))))))))))))))))))))))) ∧ (¬ (F_13 a_9 x7_4.toNatClampNeg) < 3 → 
                   (∀ v_36 : Int32, v_36 = x7_4 + (-1) → (∀ v_37 : Int32, v_37 = x8_5 + 1 → (∃ k : Nat, k < n_3 ∧ 
                      I_3 k v_36 v_37 F_13))))))))))))))))))))
set_option maxRecDepth 100000 in
def P_X2_composed (th : Nat) (p0 : Nat) (p1 : Nat) (p2 : Int32) (p3 : Int32) (p4 : Nat) (S : St) (bc bs : Nat) (Q : Int32 → St → Prop) : Prop :=
  (kd S th = 3 ∧ (∀ F_1 : Nat → Nat → Int32, F_1 = upI (gI S) th 5 0 → (∀ F_2 : Nat → Nat → Int32, F_2 = upI F_1 th 4 0 → 
     (kd S p1 = 4 ∧ (P_X3_isUnlike p1 0 (wI S F_2) (fun (r_4 : Int32) => ((r_4 = 0 → Q (F_2 th 5) (wI S F_2)) ∧ 
         (¬ r_4 = 0 → (kd S p4 = 6 ∧ (∃ c_7 s_7 : Nat, c_7 ≤ bc ∧ s_7 ≤ bs ∧ (P_X6_stampFalse p4 p0 p1 0 (wI S F_2) c_7 s_7 (fun (r_8 : Int32) (S_8 : St) => (kd S_8 p0 = 1 ∧ 
               (kd S_8 th = 3 ∧ (P_X2_tryCalls th (gI S_8 p0 0) p1 (imin p2 8) p3 p4 S_8 (fun (F_11 : Nat → Nat → 
                   Int32) => Q (F_11 th 5) (wI S_8 F_11)))))))))))))))))
set_option maxRecDepth 100000 in
def P_X11_compositions (th : Nat) (p0 : Int32) (p1 : Int32) (p2 : Int32) (S : St) (bc bs : Nat) (Q : Int32 → St → Prop) : Prop :=
  (kd S th = 11 ∧ (P_X11_isMethod th p0 S (fun (r_1 : Int32) => (∃ J_3 : Prop, (J_3 → (P_X11_refuse th 1 S (fun (r_4 : Int32) (F_4 : Nat → 
          Nat → Int32) => Q r_4 (wI S F_4)))) ∧ ((r_1 = 0 → J_3) ∧ (¬ r_1 = 0 → ((p1 < 1 → J_3) ∧ (¬ p1 < 1 → ((8 < p1 → 
            J_3) ∧ (¬ 8 < p1 → ((p2 < 1 → J_3) ∧ (¬ p2 < 1 → ((p2 < 8 → (∃ a_9 : Nat, gR S th 16 = some a_9 ∧ (∃ a_10 : Nat, gR S th 7 = some a_10 ∧ 
                  (kd S a_10 = 1 ∧ (∃ a_12 : Nat, gR S a_10 3 = some a_12 ∧ (kd S a_12 = 24 ∧ (vp_in p0 (ln S a_12) ∧ 
                      (∃ a_15 : Nat, gR S a_12 p0.toNatClampNeg = some a_15 ∧ (∃ a_16 : Nat, gR S th 14 = some a_16 ∧ 
                        (kd S a_9 = 3 ∧ (∃ c_18 s_18 : Nat, c_18 ≤ bc ∧ s_18 ≤ bs ∧ (P_X2_composed a_9 a_10 a_15 p1 p2 a_16 S c_18 s_18 (fun (r_19 : Int32) (S_19 : St) => (kd S_19 th = 11 ∧ 
                             (P_X11_answer th r_19 S_19 (fun (r_21 : Int32) (F_21 : Nat → Nat → Int32) => Q r_21 (wI S_19 F_21))))))))))))))))) ∧ 
               (¬ p2 < 8 → J_3))))))))))))))
set_option maxRecDepth 100000 in
def P_X11_callAt (th : Nat) (p0 : Int32) (S : St) (Q : Int32 → (Nat → Nat → Int32) → Prop) : Prop :=
  (kd S th = 11 ∧ (∃ J_2 : Prop, (J_2 → (P_X11_refuse th 6 S (fun (r_3 : Int32) (F_3 : Nat → Nat → Int32) => Q r_3 F_3))) ∧ 
    ((p0 < 0 → J_2) ∧ (¬ p0 < 0 → (∃ a_4 : Nat, gR S th 16 = some a_4 ∧ (kd S a_4 = 3 ∧ ((p0 < (gI S a_4 4) → (∃ a_7 : Nat, gR S a_4 3 = some a_7 ∧ 
           (kd S a_7 = 21 ∧ (vp_in p0 (ln S a_7) ∧ (P_X11_answer th (gI S a_7 p0.toNatClampNeg) S (fun (r_10 : Int32) (F_10 : Nat → 
                Nat → Int32) => Q r_10 F_10)))))) ∧ (¬ p0 < (gI S a_4 4) → J_2))))))))
set_option maxRecDepth 100000 in
def P_X11_mark (th : Nat) (S : St) (Q : Int32 → (Nat → Nat → Int32) → (Nat → Nat → Option Nat) → Prop) : Prop :=
  (kd S th = 11 ∧ (((gI S th 13) < 3 → (∃ a_2 : Nat, gR S th 10 = some a_2 ∧ (kd S a_2 = 23 ∧ (vp_in (gI S th 13) (ln S a_2) ∧ 
        ((∀ v : Nat, gR S th 7 = some v → kd S v = 1) ∧ (∀ R_6 : Nat → Nat → Option Nat, R_6 = upR (gR S) a_2 ((gI S th 13).toNatClampNeg) (gR S th 7) → 
          (∃ a_7 : Nat, R_6 th 11 = some a_7 ∧ (kd S a_7 = 25 ∧ (vp_in (gI S th 13) (ln S a_7) ∧ ((∀ v : Nat, R_6 th 8 = some v → 
               kd S v = 8) ∧ (∀ R_11 : Nat → Nat → Option Nat, R_11 = upR R_6 a_7 ((gI S th 13).toNatClampNeg) (R_6 th 8) → 
               (∃ a_12 : Nat, R_11 th 12 = some a_12 ∧ (kd S a_12 = 25 ∧ (vp_in (gI S th 13) (ln S a_12) ∧ ((∀ v : Nat, R_11 th 9 = some v → 
                    kd S v = 8) ∧ (∀ R_16 : Nat → Nat → Option Nat, R_16 = upR R_11 a_12 ((gI S th 13).toNatClampNeg) (R_11 th 9) → 
                    (∀ v_17 : Int32, v_17 = (gI S th 13) + 1 → (∀ F_18 : Nat → Nat → Int32, F_18 = upI (gI S) th 13 v_17 → 
                      (P_X11_answer th (F_18 th 13) (wA S F_18 (gJ S) R_16) (fun (r_19 : Int32) (F_19 : Nat → Nat → 
                         Int32) => Q r_19 F_19 R_16)))))))))))))))))))) ∧ (¬ (gI S th 13) < 3 → (P_X11_refuse th 4 S (fun (r_20 : Int32) (F_20 : Nat → 
        Nat → Int32) => Q r_20 F_20 (gR S))))))
set_option maxRecDepth 100000 in
def P_X11_back (th : Nat) (S : St) (Q : Int32 → (Nat → Nat → Int32) → (Nat → Nat → Option Nat) → Prop) : Prop :=
  (kd S th = 11 ∧ ((0 < (gI S th 13) → (∀ v_2 : Int32, v_2 = (gI S th 13) - 1 → (∀ F_3 : Nat → Nat → Int32, F_3 = upI (gI S) th 13 v_2 → 
       (∃ a_4 : Nat, gR S th 10 = some a_4 ∧ (kd S a_4 = 23 ∧ (vp_in (F_3 th 13) (ln S a_4) ∧ (∀ R_7 : Nat → Nat → 
           Option Nat, R_7 = upR (gR S) th 7 (gR S a_4 ((F_3 th 13).toNatClampNeg)) → (∃ a_8 : Nat, R_7 th 11 = some a_8 ∧ 
            (kd S a_8 = 25 ∧ (vp_in (F_3 th 13) (ln S a_8) ∧ (∀ R_11 : Nat → Nat → Option Nat, R_11 = upR R_7 th 8 (R_7 a_8 ((F_3 th 13).toNatClampNeg)) → 
               (∃ a_12 : Nat, R_11 th 12 = some a_12 ∧ (kd S a_12 = 25 ∧ (vp_in (F_3 th 13) (ln S a_12) ∧ (∀ R_15 : Nat → 
                   Nat → Option Nat, R_15 = upR R_11 th 9 (R_11 a_12 ((F_3 th 13).toNatClampNeg)) → (P_X11_answer th (F_3 th 13) (wA S F_3 (gJ S) R_15) (fun (r_16 : Int32) (F_16 : Nat → 
                      Nat → Int32) => Q r_16 F_16 R_15))))))))))))))))) ∧ (¬ 0 < (gI S th 13) → (P_X11_refuse th 6 S (fun (r_17 : Int32) (F_17 : Nat → 
        Nat → Int32) => Q r_17 F_17 (gR S))))))
set_option maxRecDepth 100000 in
def P_X12_init (th : Nat) (S : St) (bc bs : Nat) (Q : St → Prop) : Prop :=
  (kd S th = 12 ∧ (1 ≤ bc ∧ (12100 ≤ bs ∧ (∀ q_1 : Nat, kd S q_1 = 0 → ∀ S_1 : St, S_1 = alo S q_1 21 12100 → (kd S_1 th = 12 ∧ 
       (∀ R_5 : Nat → Nat → Option Nat, R_5 = upR (gR S_1) th 0 (some q_1) → (1 ≤ bc - 1 ∧ (70 ≤ bs - 12100 ∧ (∀ q_6 : Nat, kd S_1 q_6 = 0 → 
           ∀ S_6 : St, S_6 = alo (wA S_1 (gI S_1) (gJ S_1) R_5) q_6 22 70 → (kd S_6 th = 12 ∧ (∀ R_10 : Nat → Nat → 
             Option Nat, R_10 = upR (gR S_6) th 1 (some q_6) → (∀ J_11 : Nat → Nat → Int64, J_11 = upJ (gJ S_6) th 4 1 → 
              (1 ≤ bc - 2 ∧ (4 ≤ bs - 12170 ∧ (∀ q_12 : Nat, kd S_6 q_12 = 0 → ∀ S_12 : St, S_12 = alo (wA S_6 (gI S_6) J_11 R_10) q_12 21 4 → 
                 (kd S_12 th = 12 ∧ (∀ R_16 : Nat → Nat → Option Nat, R_16 = upR (gR S_12) th 5 (some q_12) → (1 ≤ bc - 3 ∧ 
                    (4 ≤ bs - 12174 ∧ (∀ q_17 : Nat, kd S_12 q_17 = 0 → ∀ S_17 : St, S_17 = alo (wA S_12 (gI S_12) (gJ S_12) R_16) q_17 21 4 → 
                      (vp_in 0 (ln S_17 q_17) ∧ (∀ F_21 : Nat → Nat → Int32, F_21 = upI (gI S_17) q_17 0 (-1) → 
                        (vp_in 1 (ln S_17 q_17) ∧ (∀ F_23 : Nat → Nat → Int32, F_23 = upI F_21 q_17 1 (-1) → (vp_in 2 (ln S_17 q_17) ∧ 
                           (∀ F_25 : Nat → Nat → Int32, F_25 = upI F_23 q_17 2 (-1) → (vp_in 3 (ln S_17 q_17) ∧ 
                             (∀ F_27 : Nat → Nat → Int32, F_27 = upI F_25 q_17 3 (-1) → (kd S_17 th = 12 ∧ (∀ R_29 : Nat → 
                                Nat → Option Nat, R_29 = upR (gR S_17) th 6 (some q_17) → (1 ≤ bc - 4 ∧ (240 ≤ bs - 12178 ∧ 
                                  (∀ q_30 : Nat, kd S_17 q_30 = 0 → ∀ S_30 : St, S_30 = alo (wA S_17 F_27 (gJ S_17) R_29) q_30 22 240 → 
                                   (kd S_30 th = 12 ∧ (∀ R_34 : Nat → Nat → Option Nat, R_34 = upR (gR S_30) th 7 (some q_30) → 
                                     (1 ≤ bc - 5 ∧ (900 ≤ bs - 12418 ∧ (∀ q_35 : Nat, kd S_30 q_35 = 0 → ∀ S_35 : St, S_35 = alo (wA S_30 (gI S_30) (gJ S_30) R_34) q_35 20 900 → 
                                        (kd S_35 th = 12 ∧ (∀ R_39 : Nat → Nat → Option Nat, R_39 = upR (gR S_35) th 8 (some q_35) → 
  (1 ≤ bc - 6 ∧ (900 ≤ bs - 13318 ∧ (∀ q_40 : Nat, kd S_35 q_40 = 0 → ∀ S_40 : St, S_40 = alo (wA S_35 (gI S_35) (gJ S_35) R_39) q_40 20 900 → 
     (kd S_40 th = 12 ∧ (∀ R_44 : Nat → Nat → Option Nat, R_44 = upR (gR S_40) th 9 (some q_40) → (∀ F_45 : Nat → 
        Nat → Int32, F_45 = upI (gI S_40) th 16 (-1) → (∀ F_46 : Nat → Nat → Int32, F_46 = upI F_45 th 17 (-1) → 
         (1 ≤ bc - 7 ∧ (3 ≤ bs - 14218 ∧ (∀ q_47 : Nat, kd S_40 q_47 = 0 → ∀ S_47 : St, S_47 = alo (wA S_40 F_46 (gJ S_40) R_44) q_47 21 3 → 
            (kd S_47 th = 12 ∧ (∀ R_51 : Nat → Nat → Option Nat, R_51 = upR (gR S_47) th 20 (some q_47) → (1 ≤ bc - 8 ∧ 
               (8 ≤ bs - 14221 ∧ (∀ q_52 : Nat, kd S_47 q_52 = 0 → ∀ S_52 : St, S_52 = alo (wA S_47 (gI S_47) (gJ S_47) R_51) q_52 21 8 → 
                 (kd S_52 th = 12 ∧ (∀ R_56 : Nat → Nat → Option Nat, R_56 = upR (gR S_52) th 23 (some q_52) → 
                   (1 ≤ bc - 9 ∧ (8 ≤ bs - 14229 ∧ (∀ q_57 : Nat, kd S_52 q_57 = 0 → ∀ S_57 : St, S_57 = alo (wA S_52 (gI S_52) (gJ S_52) R_56) q_57 21 8 → 
                      (kd S_57 th = 12 ∧ (∀ R_61 : Nat → Nat → Option Nat, R_61 = upR (gR S_57) th 24 (some q_57) → 
                        (1 ≤ bc - 10 ∧ (8 ≤ bs - 14237 ∧ (∀ q_62 : Nat, kd S_57 q_62 = 0 → ∀ S_62 : St, S_62 = alo (wA S_57 (gI S_57) (gJ S_57) R_61) q_62 21 8 → 
                           (kd S_62 th = 12 ∧ (∀ R_66 : Nat → Nat → Option Nat, R_66 = upR (gR S_62) th 25 (some q_62) → 
                             (1 ≤ bc - 11 ∧ (32 ≤ bs - 14245 ∧ (∀ q_67 : Nat, kd S_62 q_67 = 0 → ∀ S_67 : St, S_67 = alo (wA S_62 (gI S_62) (gJ S_62) R_66) q_67 21 32 → 
                                (kd S_67 th = 12 ∧ (∀ R_71 : Nat → Nat → Option Nat, R_71 = upR (gR S_67) th 26 (some q_67) → 
                                  (1 ≤ bc - 12 ∧ (32 ≤ bs - 14277 ∧ (∀ q_72 : Nat, kd S_67 q_72 = 0 → ∀ S_72 : St, S_72 = alo (wA S_67 (gI S_67) (gJ S_67) R_71) q_72 21 32 → 
                                     (kd S_72 th = 12 ∧ (∀ R_76 : Nat → Nat → Option Nat, R_76 = upR (gR S_72) th 27 (some q_72) → 
                                       (1 ≤ bc - 13 ∧ (40320 ≤ bs - 14309 ∧ (∀ q_77 : Nat, kd S_72 q_77 = 0 → ∀ S_77 : St, S_77 = alo (wA S_72 (gI S_72) (gJ S_72) R_76) q_77 21 40320 → 
  (kd S_77 th = 12 ∧ (∀ R_81 : Nat → Nat → Option Nat, R_81 = upR (gR S_77) th 28 (some q_77) → (1 ≤ bc - 14 ∧ 
     (80 ≤ bs - 54629 ∧ (∀ q_82 : Nat, kd S_77 q_82 = 0 → ∀ S_82 : St, S_82 = alo (wA S_77 (gI S_77) (gJ S_77) R_81) q_82 21 80 → 
       (kd S_82 th = 12 ∧ (∀ R_86 : Nat → Nat → Option Nat, R_86 = upR (gR S_82) th 30 (some q_82) → (1 ≤ bc - 15 ∧ 
          (2001 ≤ bs - 54709 ∧ (∀ q_87 : Nat, kd S_82 q_87 = 0 → ∀ S_87 : St, S_87 = alo (wA S_82 (gI S_82) (gJ S_82) R_86) q_87 21 2001 → 
            (kd S_87 th = 12 ∧ (∀ R_91 : Nat → Nat → Option Nat, R_91 = upR (gR S_87) th 37 (some q_87) → (1 ≤ bc - 16 ∧ 
               (40320 ≤ bs - 56710 ∧ (∀ q_92 : Nat, kd S_87 q_92 = 0 → ∀ S_92 : St, S_92 = alo (wA S_87 (gI S_87) (gJ S_87) R_91) q_92 21 40320 → 
                 (kd S_92 th = 12 ∧ (∀ R_96 : Nat → Nat → Option Nat, R_96 = upR (gR S_92) th 38 (some q_92) → 
                   (1 ≤ bc - 17 ∧ (40320 ≤ bs - 97030 ∧ (∀ q_97 : Nat, kd S_92 q_97 = 0 → ∀ S_97 : St, S_97 = alo (wA S_92 (gI S_92) (gJ S_92) R_96) q_97 21 40320 → 
                      (kd S_97 th = 12 ∧ (∀ R_101 : Nat → Nat → Option Nat, R_101 = upR (gR S_97) th 39 (some q_97) → 
                        (1 ≤ bc - 18 ∧ (40320 ≤ bs - 137350 ∧ (∀ q_102 : Nat, kd S_97 q_102 = 0 → ∀ S_102 : St, S_102 = alo (wA S_97 (gI S_97) (gJ S_97) R_101) q_102 21 40320 → 
                           (kd S_102 th = 12 ∧ (∀ R_106 : Nat → Nat → Option Nat, R_106 = upR (gR S_102) th 40 (some q_102) → 
                             (1 ≤ bc - 19 ∧ (40320 ≤ bs - 177670 ∧ (∀ q_107 : Nat, kd S_102 q_107 = 0 → ∀ S_107 : St, S_107 = alo (wA S_102 (gI S_102) (gJ S_102) R_106) q_107 21 40320 → 
                                (kd S_107 th = 12 ∧ (∀ R_111 : Nat → Nat → Option Nat, R_111 = upR (gR S_107) th 42 (some q_107) → 
                                  (∀ F_112 : Nat → Nat → Int32, F_112 = upI (gI S_107) th 43 (-1) → (1 ≤ bc - 20 ∧ 
                                    (9 ≤ bs - 217990 ∧ (∀ q_113 : Nat, kd S_107 q_113 = 0 → ∀ S_113 : St, S_113 = alo (wA S_107 F_112 (gJ S_107) R_111) q_113 21 9 → 
                                      (kd S_113 th = 12 ∧ (∀ R_117 : Nat → Nat → Option Nat, R_117 = upR (gR S_113) th 44 (some q_113) → 
                                        (1 ≤ bc - 21 ∧ (8 ≤ bs - 217999 ∧ (∀ q_118 : Nat, kd S_113 q_118 = 0 → 
   ∀ S_118 : St, S_118 = alo (wA S_113 (gI S_113) (gJ S_113) R_117) q_118 21 8 → (kd S_118 th = 12 ∧ (∀ R_122 : Nat → 
     Nat → Option Nat, R_122 = upR (gR S_118) th 45 (some q_118) → (1 ≤ bc - 22 ∧ (9 ≤ bs - 218007 ∧ (∀ q_123 : Nat, kd S_118 q_123 = 0 → 
        ∀ S_123 : St, S_123 = alo (wA S_118 (gI S_118) (gJ S_118) R_122) q_123 21 9 → (kd S_123 th = 12 ∧ (∀ R_127 : Nat → 
          Nat → Option Nat, R_127 = upR (gR S_123) th 46 (some q_123) → (1 ≤ bc - 23 ∧ (257 ≤ bs - 218016 ∧ (∀ q_128 : Nat, kd S_123 q_128 = 0 → 
             ∀ S_128 : St, S_128 = alo (wA S_123 (gI S_123) (gJ S_123) R_127) q_128 21 257 → (kd S_128 th = 12 ∧ 
              (∀ R_132 : Nat → Nat → Option Nat, R_132 = upR (gR S_128) th 47 (some q_128) → (∃ a_133 : Nat, R_132 th 0 = some a_133 ∧ 
                (kd S_128 a_133 = 21 ∧ (vp_in 0 (ln S_128 a_133) ∧ (∀ F_136 : Nat → Nat → Int32, F_136 = upI (gI S_128) a_133 0 4 → 
                   (vp_in 4 (ln S_128 a_133) ∧ (∀ F_138 : Nat → Nat → Int32, F_138 = upI F_136 a_133 4 (-1) → (vp_in 6 (ln S_128 a_133) ∧ 
                      (∀ F_140 : Nat → Nat → Int32, F_140 = upI F_138 a_133 6 (-1) → Q (wA S_128 F_140 (gJ S_128) R_132))))))))))))))))))))))))))))))))))))))))))))))))))))))))))))))))))))))))))))))))))))))))))))))))))))))))))))))))))))))))))))))))))))))))))))))
set_option maxRecDepth 100000 in
def P_X12_status (th : Nat) (S : St) (Q : Int32 → Prop) : Prop :=
  (kd S th = 12 ∧ Q (gI S th 2))
set_option maxRecDepth 100000 in
def P_X12_top (th : Nat) (S : St) (Q : Int64 → Prop) : Prop :=
  (kd S th = 12 ∧ Q (gJ S th 3))
set_option maxRecDepth 100000 in
def P_X12_bottom (th : Nat) (S : St) (Q : Int64 → Prop) : Prop :=
  (kd S th = 12 ∧ Q (gJ S th 4))
set_option maxRecDepth 100000 in
def P_X12_is (th : Nat) (p0 : Int32) (S : St) (Q : Int32 → (Nat → Nat → Int32) → Prop) : Prop :=
  (kd S th = 12 ∧ (∀ F_1 : Nat → Nat → Int32, F_1 = upI (gI S) th 2 p0 → ((¬ p0 = 0 → Q 0 F_1) ∧ (p0 = 0 → Q 1 F_1))))
set_option maxRecDepth 100000 in
def P_X12_refuse (th : Nat) (p0 : Int32) (S : St) (Q : Int32 → (Nat → Nat → Int32) → Prop) : Prop :=
  (kd S th = 12 ∧ (∀ F_1 : Nat → Nat → Int32, F_1 = upI (gI S) th 2 p0 → Q (-1) F_1))
set_option maxRecDepth 100000 in
def P_X12_gives (th : Nat) (p0 : Int32) (S : St) (Q : Int32 → (Nat → Nat → Int32) → Prop) : Prop :=
  (kd S th = 12 ∧ (∀ F_1 : Nat → Nat → Int32, F_1 = upI (gI S) th 2 0 → Q p0 F_1))
set_option maxRecDepth 100000 in
def P_X12_orNone (th : Nat) (p0 : Int32) (S : St) (Q : Int32 → (Nat → Nat → Int32) → Prop) : Prop :=
  (kd S th = 12 ∧ ((¬ p0 = (-1) → (P_X12_gives th p0 S (fun (r_2 : Int32) (F_2 : Nat → Nat → Int32) => Q r_2 F_2))) ∧ 
    (p0 = (-1) → (P_X12_refuse th 6 S (fun (r_3 : Int32) (F_3 : Nat → Nat → Int32) => Q r_3 F_3)))))
set_option maxRecDepth 100000 in
def P_X12_tellsBy (th : Nat) (p0 : Int64) (p1 : Int64) (S : St) (Q : Int32 → (Nat → Nat → Int32) → (Nat → Nat → Int64) → Prop) : Prop :=
  (kd S th = 12 ∧ (∃ I_1 : Nat → Int64 → Int64 → Prop, (∃ k : Nat, I_1 k p0 p1) ∧ ∀ (n_1 : Nat) (x5_2 : Int64) (x7_3 : Int64), I_1 n_1 x5_2 x7_3 → 
    (((lg_cmp x7_3 0) = 0 → (¬ x5_2 = 0 ∧ (∀ v_6 : Int64, v_6 = p0 / x5_2 → (∀ J_7 : Nat → Nat → Int64, J_7 = upJ (gJ S) th 3 v_6 → 
         (¬ x5_2 = 0 ∧ (∀ v_9 : Int64, v_9 = p1 / x5_2 → (∀ J_10 : Nat → Nat → Int64, J_10 = upJ J_7 th 4 v_9 → 
            (P_X12_is th 0 (wA S (gI S) J_10 (gR S)) (fun (r_11 : Int32) (F_11 : Nat → Nat → Int32) => ((r_11 = 0 ∨ r_11 = 1) ∧ 
               Q r_11 F_11 J_10)))))))))) ∧ (¬ (lg_cmp x7_3 0) = 0 → (¬ x7_3 = 0 ∧ (∀ v_13 : Int64, v_13 = lrm x5_2 x7_3 → 
        (∃ k : Nat, k < n_1 ∧ I_1 k x7_3 v_13)))))))
set_option maxRecDepth 100000 in
def P_X12_isTray (p0 : Int32) (Q : Int32 → Prop) : Prop :=
  ((p0 < 0 → Q 0) ∧ (¬ p0 < 0 → ((4 ≤ p0 → Q 0) ∧ (¬ 4 ≤ p0 → Q 1))))
set_option maxRecDepth 100000 in
def P_X12_cut (p0 : Int64) (p1 : Int32) (Q : Int64 → Prop) : Prop :=
  ((¬ p1 = 0 → ((¬ p1 = 1 → ((¬ p1 = 2 → Q p0) ∧ (p1 = 2 → Q p0.toInt32.toInt64))) ∧ (p1 = 1 → Q p0.toInt32.toInt16.toInt32.toInt64))) ∧ 
   (p1 = 0 → Q p0.toInt32.toInt8.toInt32.toInt64))
set_option maxRecDepth 100000 in
def P_X12_tray (th : Nat) (p0 : Int32) (p1 : Int32) (p2 : Int32) (S : St) (Q : Int32 → (Nat → Nat → Int32) → (Nat → Nat → Int64) → Prop) : Prop :=
  (kd S th = 12 ∧ (P_X12_isTray p0 (fun (r_1 : Int32) => (∃ J_3 : Prop, (J_3 → (P_X12_is th 1 S (fun (r_4 : Int32) (F_4 : Nat → 
          Nat → Int32) => ((r_4 = 0 ∨ r_4 = 1) ∧ Q r_4 F_4 (gJ S))))) ∧ ((r_1 = 0 → J_3) ∧ (¬ r_1 = 0 → ((p1 < 0 → 
          J_3) ∧ (¬ p1 < 0 → ((3 < p1 → J_3) ∧ (¬ 3 < p1 → ((p2 < 0 → J_3) ∧ (¬ p2 < 0 → ((p2 ≤ 60 → (∃ a_9 : Nat, gR S th 5 = some a_9 ∧ 
                 (kd S a_9 = 21 ∧ (vp_in p0 (ln S a_9) ∧ (∀ F_12 : Nat → Nat → Int32, F_12 = upI (gI S) a_9 p0.toNatClampNeg p1 → 
                    (∃ a_13 : Nat, gR S th 6 = some a_13 ∧ (kd S a_13 = 21 ∧ (vp_in p0 (ln S a_13) ∧ (∀ F_16 : Nat → 
                        Nat → Int32, F_16 = upI F_12 a_13 p0.toNatClampNeg p2 → (∃ I_17 : Nat → Int32 → (Nat → 
                          Nat → Int64) → Prop, (∃ k : Nat, I_17 k 0 (gJ S)) ∧ ∀ (n_17 : Nat) (x4_18 : Int32) (J_19 : Nat → 
                          Nat → Int64), I_17 n_17 x4_18 J_19 → ((p2 ≤ x4_18 → (P_X12_is th 0 (wA S F_16 J_19 (gR S)) (fun (r_21 : Int32) (F_21 : Nat → 
                              Nat → Int32) => ((r_21 = 0 ∨ r_21 = 1) ∧ Q r_21 F_21 J_19)))) ∧ (¬ p2 ≤ x4_18 → (∃ a_22 : Nat, gR S th 7 = some a_22 ∧ 
                            (kd S a_22 = 22 ∧ (vp_in ((60 * p0) + x4_18) (ln S a_22) ∧ (∀ J_25 : Nat → Nat → Int64, J_25 = upJ J_19 a_22 (((60 * p0) + x4_18).toNatClampNeg) 0 → 
                               (∀ v_26 : Int32, v_26 = x4_18 + 1 → (∃ k : Nat, k < n_17 ∧ I_17 k v_26 J_25)))))))))))))))))) ∧ 
               (¬ p2 ≤ 60 → J_3))))))))))))))
set_option maxRecDepth 100000 in
def P_X12_wrongPlace (th : Nat) (p0 : Int32) (p1 : Int32) (S : St) (Q : Int32 → Prop) : Prop :=
  (kd S th = 12 ∧ (P_X12_isTray p0 (fun (r_1 : Int32) => ((¬ r_1 = 0 → (∃ a_3 : Nat, gR S th 6 = some a_3 ∧ (kd S a_3 = 21 ∧ 
         (vp_in p0 (ln S a_3) ∧ ((¬ (gI S a_3 p0.toNatClampNeg) = (-1) → ((p1 < 0 → Q 3) ∧ (¬ p1 < 0 → ((p1 < (gI S a_3 p0.toNatClampNeg) → 
                Q 0) ∧ (¬ p1 < (gI S a_3 p0.toNatClampNeg) → Q 3))))) ∧ ((gI S a_3 p0.toNatClampNeg) = (-1) → Q 2)))))) ∧ 
      (r_1 = 0 → Q 1)))))
set_option maxRecDepth 100000 in
def P_X12_write (th : Nat) (p0 : Int32) (p1 : Int32) (p2 : Int64) (S : St) (Q : Int32 → (Nat → Nat → Int32) → (Nat → Nat → Int64) → Prop) : Prop :=
  (kd S th = 12 ∧ (P_X12_wrongPlace th p0 p1 S (fun (r_1 : Int32) => (∃ J_3 : (Nat → Nat → Int64) → Prop, (∀ (J_4 : Nat → 
        Nat → Int64), J_3 J_4 → (P_X12_is th r_1 (wA S (gI S) J_4 (gR S)) (fun (r_5 : Int32) (F_5 : Nat → Nat → 
          Int32) => ((r_5 = 0 ∨ r_5 = 1) ∧ Q r_5 F_5 J_4)))) ∧ ((¬ r_1 = 0 → J_3 (gJ S)) ∧ (r_1 = 0 → (∃ a_6 : Nat, gR S th 7 = some a_6 ∧ 
         (∃ a_7 : Nat, gR S th 5 = some a_7 ∧ (kd S a_7 = 21 ∧ (vp_in p0 (ln S a_7) ∧ (P_X12_cut p2 (gI S a_7 p0.toNatClampNeg) (fun (r_10 : Int64) => (kd S a_6 = 22 ∧ 
               (vp_in ((60 * p0) + p1) (ln S a_6) ∧ (∀ J_13 : Nat → Nat → Int64, J_13 = upJ (gJ S) a_6 (((60 * p0) + p1).toNatClampNeg) r_10 → 
                 J_3 J_13)))))))))))))))
set_option maxRecDepth 100000 in
def P_X12_read (th : Nat) (p0 : Int32) (p1 : Int32) (S : St) (Q : Int64 → (Nat → Nat → Int32) → Prop) : Prop :=
  (kd S th = 12 ∧ (P_X12_wrongPlace th p0 p1 S (fun (r_1 : Int32) => (∀ F_2 : Nat → Nat → Int32, F_2 = upI (gI S) th 2 r_1 → 
      (((F_2 th 2) ≤ 0 → (∃ a_4 : Nat, gR S th 7 = some a_4 ∧ (kd S a_4 = 22 ∧ (vp_in ((60 * p0) + p1) (ln S a_4) ∧ 
           Q (gJ S a_4 (((60 * p0) + p1).toNatClampNeg)) F_2)))) ∧ (¬ (F_2 th 2) ≤ 0 → Q (-1) F_2))))))
set_option maxRecDepth 100000 in
def P_X12_pour (th : Nat) (p0 : Int32) (p1 : Int32) (p2 : Int32) (p3 : Int32) (p4 : Int32) (S : St) (Q : Int32 → (Nat → Nat → Int32) → (Nat → Nat → Int64) → Prop) : Prop :=
  (kd S th = 12 ∧ (P_X12_isTray p0 (fun (r_1 : Int32) => (∃ J_3 : Prop, (J_3 → (P_X12_is th 1 S (fun (r_4 : Int32) (F_4 : Nat → 
          Nat → Int32) => ((r_4 = 0 ∨ r_4 = 1) ∧ Q r_4 F_4 (gJ S))))) ∧ ((r_1 = 0 → J_3) ∧ (¬ r_1 = 0 → (P_X12_isTray p2 (fun (r_5 : Int32) => ((r_5 = 0 → 
            J_3) ∧ (¬ r_5 = 0 → ((p1 < 0 → J_3) ∧ (¬ p1 < 0 → ((p3 < 0 → J_3) ∧ (¬ p3 < 0 → ((0 ≤ p4 → (∃ a_10 : Nat, gR S th 6 = some a_10 ∧ 
                   (kd S a_10 = 21 ∧ (vp_in p0 (ln S a_10) ∧ (∃ J_14 : Prop, (J_14 → (P_X12_is th 2 S (fun (r_15 : Int32) (F_15 : Nat → 
                          Nat → Int32) => ((r_15 = 0 ∨ r_15 = 1) ∧ Q r_15 F_15 (gJ S))))) ∧ (((gI S a_10 p0.toNatClampNeg) = (-1) → 
                        J_14) ∧ (¬ (gI S a_10 p0.toNatClampNeg) = (-1) → (vp_in p2 (ln S a_10) ∧ ((¬ (gI S a_10 p2.toNatClampNeg) = (-1) → 
                           (∃ a_18 : Nat, gR S th 5 = some a_18 ∧ (kd S a_18 = 21 ∧ (vp_in p0 (ln S a_18) ∧ (vp_in p2 (ln S a_18) ∧ 
                               (((gI S a_18 p0.toNatClampNeg) = (gI S a_18 p2.toNatClampNeg) → (∃ J_24 : Prop, (J_24 → 
                                   (P_X12_is th 3 S (fun (r_25 : Int32) (F_25 : Nat → Nat → Int32) => ((r_25 = 0 ∨ r_25 = 1) ∧ 
                                      Q r_25 F_25 (gJ S))))) ∧ ((((gI S a_10 p0.toNatClampNeg) - p1) < p4 → J_24) ∧ 
                                   (¬ ((gI S a_10 p0.toNatClampNeg) - p1) < p4 → ((p4 ≤ ((gI S a_10 p2.toNatClampNeg) - p3) → 
                                      (∃ I_27 : Nat → Int32 → (Nat → Nat → Int64) → Prop, (∃ k : Nat, I_27 k 0 (gJ S)) ∧ 
                                       ∀ (n_27 : Nat) (x6_28 : Int32) (J_29 : Nat → Nat → Int64), I_27 n_27 x6_28 J_29 → 
                                       ((p4 ≤ x6_28 → (P_X12_is th 0 (wA S (gI S) J_29 (gR S)) (fun (r_31 : Int32) (F_31 : Nat → 
    Nat → Int32) => ((r_31 = 0 ∨ r_31 = 1) ∧ Q r_31 F_31 J_29)))) ∧ (¬ p4 ≤ x6_28 → (∃ J_33 : Int32 → Prop, (∀ (t_34 : Int32), J_33 t_34 → 
   (∃ a_35 : Nat, gR S th 7 = some a_35 ∧ (kd S a_35 = 22 ∧ (vp_in (((60 * p0) + p1) + t_34) (ln S a_35) ∧ (vp_in (((60 * p2) + p3) + t_34) (ln S a_35) ∧ 
       (∀ v_39 : Int64, v_39 = J_29 a_35 ((((60 * p0) + p1) + t_34).toNatClampNeg) → (∀ J_40 : Nat → Nat → Int64, J_40 = upJ J_29 a_35 ((((60 * p2) + p3) + t_34).toNatClampNeg) v_39 → 
         (∀ v_41 : Int32, v_41 = x6_28 + 1 → (∃ k : Nat, k < n_27 ∧ I_27 k v_41 J_40))))))))) ∧ ((p3 ≤ p1 → J_33 x6_28) ∧ 
   (¬ p3 ≤ p1 → J_33 ((p4 - 1) - x6_28)))))))) ∧ (¬ p4 ≤ ((gI S a_10 p2.toNatClampNeg) - p3) → J_24)))))) ∧ (¬ (gI S a_18 p0.toNatClampNeg) = (gI S a_18 p2.toNatClampNeg) → 
                                 (P_X12_is th 8 S (fun (r_42 : Int32) (F_42 : Nat → Nat → Int32) => ((r_42 = 0 ∨ r_42 = 1) ∧ 
                                    Q r_42 F_42 (gJ S))))))))))) ∧ ((gI S a_10 p2.toNatClampNeg) = (-1) → J_14)))))))))) ∧ 
                 (¬ 0 ≤ p4 → J_3))))))))))))))))
set_option maxRecDepth 100000 in
def P_X12_isFrom (p0 : Int64) (p1 : Int64) (p2 : Int64) (Q : Int32 → Prop) : Prop :=
  (((lg_cmp p0 p1) < 0 → Q 0) ∧ (¬ (lg_cmp p0 p1) < 0 → ((0 < (lg_cmp p0 p2) → Q 0) ∧ (¬ 0 < (lg_cmp p0 p2) → Q 1))))
set_option maxRecDepth 100000 in
def P_X12_four (th : Nat) (p0 : Int32) (S : St) (Q : (Nat → Nat → Int32) → Prop) : Prop :=
  (kd S th = 12 ∧ (∃ I_1 : Nat → Int32 → (Nat → Nat → Int32) → Prop, (∃ k : Nat, I_1 k 24 (gI S)) ∧ ∀ (n_1 : Nat) (x2_2 : Int32) (F_3 : Nat → 
     Nat → Int32), I_1 n_1 x2_2 F_3 → ((x2_2 < 0 → Q F_3) ∧ (¬ x2_2 < 0 → (∃ a_5 : Nat, gR S th 8 = some a_5 ∧ 
       (kd S a_5 = 20 ∧ (vp_in (F_3 th 10) (ln S a_5) ∧ (∀ v_8 : Int32, v_8 = (shr p0 x2_2).toInt8.toInt32 → (∀ F_9 : Nat → 
           Nat → Int32, F_9 = upI F_3 a_5 ((F_3 th 10).toNatClampNeg) v_8.toInt8.toInt32 → (∀ v_10 : Int32, v_10 = (F_9 th 10) + 1 → 
            (∀ F_11 : Nat → Nat → Int32, F_11 = upI F_9 th 10 v_10 → (∀ v_12 : Int32, v_12 = x2_2 + (-8) → (∃ k : Nat, k < n_1 ∧ 
               I_1 k v_12 F_11)))))))))))))
set_option maxRecDepth 100000 in
def P_X12_feed (th : Nat) (p0 : Int32) (p1 : Int32) (p2 : Int32) (p3 : Int32) (p4 : Int32) (S : St) (Q : Int32 → (Nat → Nat → Int32) → Prop) : Prop :=
  (kd S th = 12 ∧ ((((gI S th 10) + 20) ≤ 900 → (P_X12_four th p0 S (fun (F_2 : Nat → Nat → Int32) => (P_X12_four th p1 (wI S F_2) (fun (F_3 : Nat → 
          Nat → Int32) => (P_X12_four th p2 (wI S F_3) (fun (F_4 : Nat → Nat → Int32) => (P_X12_four th p3 (wI S F_4) (fun (F_5 : Nat → 
              Nat → Int32) => (P_X12_four th p4 (wI S F_5) (fun (F_6 : Nat → Nat → Int32) => Q (F_6 th 10) F_6))))))))))) ∧ 
    (¬ ((gI S th 10) + 20) ≤ 900 → Q (-1) (gI S))))
set_option maxRecDepth 100000 in
def P_X12_byteAt (th : Nat) (p0 : Int32) (S : St) (Q : Int32 → Prop) : Prop :=
  (kd S th = 12 ∧ (((gI S th 11) ≤ p0 → Q (-1)) ∧ (¬ (gI S th 11) ≤ p0 → (∃ a_2 : Nat, gR S th 9 = some a_2 ∧ (kd S a_2 = 20 ∧ 
       (vp_in p0 (ln S a_2) ∧ Q ((gI S a_2 p0.toNatClampNeg) &&& 255)))))))
set_option maxRecDepth 100000 in
def P_X12_isSmall (p0 : Int32) (Q : Int32 → Prop) : Prop :=
  ((p0 < 97 → Q 0) ∧ (¬ p0 < 97 → ((122 < p0 → Q 0) ∧ (¬ 122 < p0 → Q 1))))
set_option maxRecDepth 100000 in
def P_X12_isDigit (p0 : Int32) (Q : Int32 → Prop) : Prop :=
  ((p0 < 48 → Q 0) ∧ (¬ p0 < 48 → ((57 < p0 → Q 0) ∧ (¬ 57 < p0 → Q 1))))
set_option maxRecDepth 100000 in
def P_X12_ahead (th : Nat) (S : St) (Q : (Nat → Nat → Int32) → Prop) : Prop :=
  (kd S th = 12 ∧ (∃ I_1 : Nat → (Nat → Nat → Int32) → Prop, (∃ k : Nat, I_1 k (gI S)) ∧ ∀ (n_1 : Nat) (F_2 : Nat → 
     Nat → Int32), I_1 n_1 F_2 → (P_X12_byteAt th (F_2 th 14) (wI S F_2) (fun (r_3 : Int32) => (∃ J_5 : Prop, (J_5 → 
        (∀ v_6 : Int32, v_6 = (F_2 th 14) + 1 → (∀ F_7 : Nat → Nat → Int32, F_7 = upI F_2 th 14 v_6 → (∃ k : Nat, k < n_1 ∧ 
           I_1 k F_7)))) ∧ ((r_3 = 32 → J_5) ∧ (¬ r_3 = 32 → (P_X12_byteAt th (F_2 th 14) (wI S F_2) (fun (r_8 : Int32) => ((¬ r_8 = 10 → 
             (∀ v_10 : Int32, v_10 = F_2 th 14 → (∀ F_11 : Nat → Nat → Int32, F_11 = upI F_2 th 13 v_10 → (P_X12_byteAt th (F_11 th 14) (wI S F_11) (fun (r_12 : Int32) => (∀ F_13 : Nat → 
                  Nat → Int32, F_13 = upI F_11 th 15 r_12 → ((¬ r_12 = (-1) → (P_X12_isSmall r_12 (fun (r_15 : Int32) => ((r_15 = 0 → 
                        (P_X12_isDigit r_12 (fun (r_17 : Int32) => ((r_17 = 0 → (∀ v_19 : Int32, v_19 = (F_13 th 14) + 1 → 
                             (∀ F_20 : Nat → Nat → Int32, F_20 = upI F_13 th 14 v_19 → (∃ J_22 : Int32 → Prop, (∀ (t_23 : Int32), J_22 t_23 → 
                                (∀ F_24 : Nat → Nat → Int32, F_24 = upI F_20 th 12 t_23 → Q F_24)) ∧ ((¬ r_12 = 59 → 
                                 J_22 1) ∧ (r_12 = 59 → J_22 4)))))) ∧ (¬ r_17 = 0 → (∀ F_25 : Nat → Nat → Int32, F_25 = upI F_13 th 15 0 → 
                             (∃ I_26 : Nat → (Nat → Nat → Int32) → Prop, (∃ k : Nat, I_26 k F_25) ∧ ∀ (n_26 : Nat) (F_27 : Nat → 
                               Nat → Int32), I_26 n_26 F_27 → (P_X12_byteAt th (F_27 th 14) (wI S F_27) (fun (r_28 : Int32) => (P_X12_isDigit r_28 (fun (r_29 : Int32) => ((r_29 = 0 → 
                                    (∃ J_32 : Int32 → Prop, (∀ (t_33 : Int32), J_32 t_33 → (∀ F_34 : Nat → Nat → 
                                       Int32, F_34 = upI F_27 th 12 t_33 → Q F_34)) ∧ ((((F_27 th 14) - (F_27 th 13)) ≤ 8 → 
                                       J_32 3) ∧ (¬ ((F_27 th 14) - (F_27 th 13)) ≤ 8 → J_32 1)))) ∧ (¬ r_29 = 0 → 
                                    (P_X12_byteAt th (F_27 th 14) (wI S F_27) (fun (r_35 : Int32) => (∀ v_36 : Int32, v_36 = imin 100000000 (((10 * (F_27 th 15)) + r_35) - 48) → 
                                       (∀ F_37 : Nat → Nat → Int32, F_37 = upI F_27 th 15 v_36 → (∀ v_38 : Int32, v_38 = (F_37 th 14) + 1 → 
                                        (∀ F_39 : Nat → Nat → Int32, F_39 = upI F_37 th 14 v_38 → (∃ k : Nat, k < n_26 ∧ 
   I_26 k F_39)))))))))))))))))))) ∧ (¬ r_15 = 0 → (∃ I_40 : Nat → (Nat → Nat → Int32) → Prop, (∃ k : Nat, I_40 k F_13) ∧ 
                         ∀ (n_40 : Nat) (F_41 : Nat → Nat → Int32), I_40 n_40 F_41 → (P_X12_byteAt th (F_41 th 14) (wI S F_41) (fun (r_42 : Int32) => (P_X12_isSmall r_42 (fun (r_43 : Int32) => ((r_43 = 0 → 
                               (∀ F_45 : Nat → Nat → Int32, F_45 = upI F_41 th 12 2 → Q F_45)) ∧ (¬ r_43 = 0 → 
                               (∀ v_46 : Int32, v_46 = (F_41 th 14) + 1 → (∀ F_47 : Nat → Nat → Int32, F_47 = upI F_41 th 14 v_46 → 
                                 (∃ k : Nat, k < n_40 ∧ I_40 k F_47))))))))))))))) ∧ (r_12 = (-1) → (∀ F_48 : Nat → 
                     Nat → Int32, F_48 = upI F_13 th 12 0 → Q F_48))))))))) ∧ (r_8 = 10 → J_5)))))))))))
set_option maxRecDepth 100000 in
def P_X12_isSign (th : Nat) (p0 : Int32) (S : St) (Q : Int32 → Prop) : Prop :=
  (kd S th = 12 ∧ ((¬ (gI S th 12) = 4 → Q 0) ∧ ((gI S th 12) = 4 → ((¬ (gI S th 15) = p0 → Q 0) ∧ ((gI S th 15) = p0 → 
       Q 1)))))
set_option maxRecDepth 100000 in
def P_X12_inWords (th : Nat) (p0 : Nat) (S : St) (Q : Int32 → Prop) : Prop :=
  (kd S th = 12 ∧ (((gI S th 12) = 2 → (∃ I_2 : Nat → Int32 → Int32 → Prop, (∃ k : Nat, I_2 k 0 1) ∧ ∀ (n_2 : Nat) (x2_3 : Int32) (x3_4 : Int32), I_2 n_2 x2_3 x3_4 → 
      (p0 < 13 ∧ (((nI (sLen.getD p0 0)) ≤ x3_4 → Q (-1)) ∧ (¬ (nI (sLen.getD p0 0)) ≤ x3_4 → (∃ I_7 : Nat → Int32 → 
          Prop, (∃ k : Nat, I_7 k x3_4) ∧ ∀ (n_7 : Nat) (x4_8 : Int32), I_7 n_7 x4_8 → (p0 < 13 ∧ (vp_in x4_8 (sLen.getD p0 0) ∧ 
            (((sCh p0 x4_8) = 32 → ((¬ (x4_8 - x3_4) = ((gI S th 14) - (gI S th 13)) → (∃ I_13 : Nat → Int32 → 
                 Int32 → Prop, (∃ k : Nat, I_13 k 0 x3_4) ∧ ∀ (n_13 : Nat) (x5_14 : Int32) (x6_15 : Int32), I_13 n_13 x5_14 x6_15 → 
                 (∃ J_17 : Prop, (J_17 → ((x5_14 = 0 → (∀ v_19 : Int32, v_19 = x2_3 + 1 → (∀ v_20 : Int32, v_20 = x4_8 + 1 → 
                       (∃ k : Nat, k < n_2 ∧ I_2 k v_19 v_20)))) ∧ (¬ x5_14 = 0 → Q x2_3))) ∧ ((x4_8 ≤ x6_15 → 
                    J_17) ∧ (¬ x4_8 ≤ x6_15 → ((x5_14 = 0 → J_17) ∧ (¬ x5_14 = 0 → (p0 < 13 ∧ (vp_in x6_15 (sLen.getD p0 0) ∧ 
                        (P_X12_byteAt th (((gI S th 13) + x6_15) - x3_4) S (fun (r_24 : Int32) => ((¬ (sCh p0 x6_15) = r_24 → 
                            (∀ v_26 : Int32, v_26 = x6_15 + 1 → (∃ k : Nat, k < n_13 ∧ I_13 k 0 v_26))) ∧ ((sCh p0 x6_15) = r_24 → 
                            (∀ v_27 : Int32, v_27 = x6_15 + 1 → (∃ k : Nat, k < n_13 ∧ I_13 k 1 v_27))))))))))))))) ∧ 
               ((x4_8 - x3_4) = ((gI S th 14) - (gI S th 13)) → (∃ I_28 : Nat → Int32 → Int32 → Prop, (∃ k : Nat, I_28 k 1 x3_4) ∧ 
                 ∀ (n_28 : Nat) (x5_29 : Int32) (x6_30 : Int32), I_28 n_28 x5_29 x6_30 → (∃ J_32 : Prop, (J_32 → 
                   ((x5_29 = 0 → (∀ v_34 : Int32, v_34 = x2_3 + 1 → (∀ v_35 : Int32, v_35 = x4_8 + 1 → (∃ k : Nat, k < n_2 ∧ 
                        I_2 k v_34 v_35)))) ∧ (¬ x5_29 = 0 → Q x2_3))) ∧ ((x4_8 ≤ x6_30 → J_32) ∧ (¬ x4_8 ≤ x6_30 → 
                    ((x5_29 = 0 → J_32) ∧ (¬ x5_29 = 0 → (p0 < 13 ∧ (vp_in x6_30 (sLen.getD p0 0) ∧ (P_X12_byteAt th (((gI S th 13) + x6_30) - x3_4) S (fun (r_39 : Int32) => ((¬ (sCh p0 x6_30) = r_39 → 
                            (∀ v_41 : Int32, v_41 = x6_30 + 1 → (∃ k : Nat, k < n_28 ∧ I_28 k 0 v_41))) ∧ ((sCh p0 x6_30) = r_39 → 
                            (∀ v_42 : Int32, v_42 = x6_30 + 1 → (∃ k : Nat, k < n_28 ∧ I_28 k 1 v_42))))))))))))))))) ∧ 
             (¬ (sCh p0 x4_8) = 32 → (∀ v_43 : Int32, v_43 = x4_8 + 1 → (∃ k : Nat, k < n_7 ∧ I_7 k v_43)))))))))))) ∧ 
    (¬ (gI S th 12) = 2 → Q (-1))))
set_option maxRecDepth 100000 in
def P_X12_fails (th : Nat) (p0 : Int32) (S : St) (Q : Int32 → (Nat → Nat → Int32) → Prop) : Prop :=
  (kd S th = 12 ∧ ((¬ (gI S th 18) = 0 → Q 0 (gI S)) ∧ ((gI S th 18) = 0 → (∃ J_3 : Int32 → Prop, (∀ (t_4 : Int32), J_3 t_4 → 
       (∀ F_5 : Nat → Nat → Int32, F_5 = upI (gI S) th 18 t_4 → (∀ v_6 : Int32, v_6 = F_5 th 13 → (∀ F_7 : Nat → 
          Nat → Int32, F_7 = upI F_5 th 17 v_6 → Q 0 F_7)))) ∧ ((¬ (gI S th 12) = 1 → J_3 p0) ∧ ((gI S th 12) = 1 → 
        J_3 1))))))
set_option maxRecDepth 100000 in
def P_X12_begins (th : Nat) (p0 : Int32) (p1 : Int32) (S : St) (Q : Int32 → (Nat → Nat → Int32) → Prop) : Prop :=
  (kd S th = 12 ∧ ((p0 < 0 → Q 0 (gI S)) ∧ (¬ p0 < 0 → (((gI S th 10) < p0 → Q 0 (gI S)) ∧ (¬ (gI S th 10) < p0 → 
       ((p0 ≤ p1 → (∀ F_4 : Nat → Nat → Int32, F_4 = upI (gI S) th 11 p0 → (∃ I_5 : Nat → Int32 → (Nat → Nat → 
            Int32) → Prop, (∃ k : Nat, I_5 k 0 F_4) ∧ ∀ (n_5 : Nat) (x3_6 : Int32) (F_7 : Nat → Nat → Int32), I_5 n_5 x3_6 F_7 → 
           ((p0 ≤ x3_6 → (∀ F_9 : Nat → Nat → Int32, F_9 = upI F_7 th 10 0 → (∀ F_10 : Nat → Nat → Int32, F_10 = upI F_9 th 18 0 → 
               (∀ F_11 : Nat → Nat → Int32, F_11 = upI F_10 th 17 (-1) → (∀ F_12 : Nat → Nat → Int32, F_12 = upI F_11 th 14 0 → 
                 (∀ F_13 : Nat → Nat → Int32, F_13 = upI F_12 th 19 0 → (P_X12_ahead th (wI S F_13) (fun (F_14 : Nat → 
                     Nat → Int32) => Q 1 F_14)))))))) ∧ (¬ p0 ≤ x3_6 → (∃ a_15 : Nat, gR S th 9 = some a_15 ∧ (∃ a_16 : Nat, gR S th 8 = some a_16 ∧ 
               (kd S a_16 = 20 ∧ (vp_in x3_6 (ln S a_16) ∧ (kd S a_15 = 20 ∧ (vp_in x3_6 (ln S a_15) ∧ (∀ v_21 : Int32, v_21 = F_7 a_16 x3_6.toNatClampNeg → 
                    (∀ F_22 : Nat → Nat → Int32, F_22 = upI F_7 a_15 x3_6.toNatClampNeg v_21.toInt8.toInt32 → (∀ v_23 : Int32, v_23 = x3_6 + 1 → 
                      (∃ k : Nat, k < n_5 ∧ I_5 k v_23 F_22))))))))))))))) ∧ (¬ p0 ≤ p1 → Q 0 (gI S))))))))
set_option maxRecDepth 100000 in
def P_X12_wantSign (th : Nat) (p0 : Int32) (S : St) (Q : Int32 → (Nat → Nat → Int32) → Prop) : Prop :=
  (kd S th = 12 ∧ (P_X12_isSign th p0 S (fun (r_1 : Int32) => ((¬ r_1 = 0 → (P_X12_ahead th S (fun (F_3 : Nat → Nat → 
          Int32) => Q 1 F_3))) ∧ (r_1 = 0 → (P_X12_fails th 2 S (fun (r_4 : Int32) (F_4 : Nat → Nat → Int32) => ((r_4 = 0 ∨ r_4 = 1) ∧ 
          Q r_4 F_4))))))))
set_option maxRecDepth 100000 in
def P_X12_wantWord (th : Nat) (p0 : Nat) (p1 : Int32) (S : St) (Q : Int32 → (Nat → Nat → Int32) → Prop) : Prop :=
  (kd S th = 12 ∧ (P_X12_inWords th p0 S (fun (r_1 : Int32) => ((r_1 = p1 → (P_X12_ahead th S (fun (F_3 : Nat → Nat → 
          Int32) => Q 1 F_3))) ∧ (¬ r_1 = p1 → (P_X12_fails th 2 S (fun (r_4 : Int32) (F_4 : Nat → Nat → Int32) => ((r_4 = 0 ∨ r_4 = 1) ∧ 
          Q r_4 F_4))))))))
set_option maxRecDepth 100000 in
def P_X12_numberTo (th : Nat) (p0 : Int32) (p1 : Int32) (p2 : Int32) (S : St) (Q : Int32 → (Nat → Nat → Int32) → Prop) : Prop :=
  (kd S th = 12 ∧ (((gI S th 12) = 3 → (∃ J_3 : Prop, (J_3 → (P_X12_fails th 4 S (fun (r_4 : Int32) (F_4 : Nat → 
          Nat → Int32) => ((r_4 = 0 ∨ r_4 = 1) ∧ Q r_4 F_4)))) ∧ (((gI S th 15) < p1 → J_3) ∧ (¬ (gI S th 15) < p1 → 
        (((gI S th 15) ≤ p2 → (∃ a_6 : Nat, gR S th 0 = some a_6 ∧ (kd S a_6 = 21 ∧ (vp_in p0 (ln S a_6) ∧ (∀ v_9 : Int32, v_9 = gI S th 15 → 
              (∀ F_10 : Nat → Nat → Int32, F_10 = upI (gI S) a_6 p0.toNatClampNeg v_9 → (P_X12_ahead th (wI S F_10) (fun (F_11 : Nat → 
                  Nat → Int32) => Q 1 F_11)))))))) ∧ (¬ (gI S th 15) ≤ p2 → J_3)))))) ∧ (¬ (gI S th 12) = 3 → (P_X12_fails th 2 S (fun (r_12 : Int32) (F_12 : Nat → 
        Nat → Int32) => ((r_12 = 0 ∨ r_12 = 1) ∧ Q r_12 F_12))))))
set_option maxRecDepth 100000 in
def P_X12_isName (th : Nat) (p0 : Nat) (S : St) (Q : Int32 → Prop) : Prop :=
  (kd S th = 12 ∧ ((¬ (gI S th 12) = 2 → Q 0) ∧ ((gI S th 12) = 2 → ((8 < ((gI S th 14) - (gI S th 13)) → Q 0) ∧ 
      (¬ 8 < ((gI S th 14) - (gI S th 13)) → (P_X12_inWords th p0 S (fun (r_3 : Int32) => ((¬ r_3 = (-1) → Q 0) ∧ 
          (r_3 = (-1) → Q 1)))))))))
set_option maxRecDepth 100000 in
def P_X12_nameHere (th : Nat) (S : St) (Q : Int64 → Prop) : Prop :=
  (kd S th = 12 ∧ (∀ v_1 : Int32, v_1 = gI S th 13 → (∃ I_2 : Nat → Int64 → Int32 → Prop, (∃ k : Nat, I_2 k 0 v_1) ∧ 
     ∀ (n_2 : Nat) (x1_3 : Int64) (x3_4 : Int32), I_2 n_2 x1_3 x3_4 → (((gI S th 14) ≤ x3_4 → Q x1_3) ∧ (¬ (gI S th 14) ≤ x3_4 → 
       (P_X12_byteAt th x3_4 S (fun (r_6 : Int32) => (∀ v_7 : Int64, v_7 = (lshl x1_3 8) ||| r_6.toInt64 → (∀ v_8 : Int32, v_8 = x3_4 + 1 → 
           (∃ k : Nat, k < n_2 ∧ I_2 k v_7 v_8))))))))))
set_option maxRecDepth 100000 in
def P_X12_findHere (th : Nat) (p0 : Int32) (p1 : Int32) (S : St) (Q : Int32 → Prop) : Prop :=
  (kd S th = 12 ∧ (∃ I_1 : Nat → Int32 → Prop, (∃ k : Nat, I_1 k 0) ∧ ∀ (n_1 : Nat) (x3_2 : Int32), I_1 n_1 x3_2 → 
    ((p1 ≤ x3_2 → Q (-1)) ∧ (¬ p1 ≤ x3_2 → (∃ a_4 : Nat, gR S th 1 = some a_4 ∧ (kd S a_4 = 22 ∧ (vp_in (p0 + x3_2) (ln S a_4) ∧ 
         (P_X12_nameHere th S (fun (r_7 : Int64) => ((¬ (lg_cmp (gJ S a_4 ((p0 + x3_2).toNatClampNeg)) r_7) = 0 → 
             (∀ v_9 : Int32, v_9 = x3_2 + 1 → (∃ k : Nat, k < n_1 ∧ I_1 k v_9))) ∧ ((lg_cmp (gJ S a_4 ((p0 + x3_2).toNatClampNeg)) r_7) = 0 → 
             Q x3_2)))))))))))
set_option maxRecDepth 100000 in
def P_X12_fault (th : Nat) (p0 : Int32) (S : St) (Q : Int32 → Prop) : Prop :=
  (kd S th = 12 ∧ ((¬ p0 = 0 → ((¬ p0 = 1 → Q (-1)) ∧ (p0 = 1 → Q (gI S th 17)))) ∧ (p0 = 0 → Q (gI S th 16))))
set_option maxRecDepth 100000 in
def P_X12_taken (th : Nat) (p0 : Int32) (S : St) (Q : Int32 → (Nat → Nat → Int32) → Prop) : Prop :=
  (kd S th = 12 ∧ (∀ v_1 : Int32, v_1 = gI S th 18 → (∀ F_2 : Nat → Nat → Int32, F_2 = upI (gI S) th 16 v_1 → (((F_2 th 18) ≤ 0 → 
       (P_X12_gives th p0 (wI S F_2) (fun (r_4 : Int32) (F_4 : Nat → Nat → Int32) => Q r_4 F_4))) ∧ (¬ (F_2 th 18) ≤ 0 → 
       (P_X12_refuse th 9 (wI S F_2) (fun (r_5 : Int32) (F_5 : Nat → Nat → Int32) => Q r_5 F_5)))))))
set_option maxRecDepth 100000 in
def P_X12_canChange (p0 : Int32) (p1 : Int32) (Q : Int32 → Prop) : Prop :=
  (∃ I_1 : Nat → Int32 → Prop, (∃ k : Nat, I_1 k 0) ∧ ∀ (n_1 : Nat) (x2_2 : Int32), I_1 n_1 x2_2 → ((p1 ≤ x2_2 → 
     Q 1) ∧ (¬ p1 ≤ x2_2 → ((¬ ((shr p0 x2_2) &&& 1) = 1 → (((x2_2 + 1) = p1 → Q 0) ∧ (¬ (x2_2 + 1) = p1 → ((¬ ((shr p0 (x2_2 + 1)) &&& 1) = 1 → 
           (∀ v_7 : Int32, v_7 = x2_2 + 2 → (∃ k : Nat, k < n_1 ∧ I_1 k v_7))) ∧ (((shr p0 (x2_2 + 1)) &&& 1) = 1 → 
           Q 0))))) ∧ (((shr p0 x2_2) &&& 1) = 1 → (∀ v_8 : Int32, v_8 = x2_2 + 1 → (∃ k : Nat, k < n_1 ∧ I_1 k v_8)))))))
set_option maxRecDepth 100000 in
def P_X12_isPlaces (th : Nat) (S : St) (Q : Int32 → Prop) : Prop :=
  (kd S th = 12 ∧ (((gI S th 12) = 3 → Q 1) ∧ (¬ (gI S th 12) = 3 → (P_X12_inWords th 12 S (fun (r_2 : Int32) => ((¬ r_2 = 3 → 
         Q 0) ∧ (r_2 = 3 → Q 1)))))))
set_option maxRecDepth 100000 in
def P_X12_placesHere (th : Nat) (S : St) (Q : Int32 → Prop) : Prop :=
  (kd S th = 12 ∧ (∀ v_1 : Int32, v_1 = gI S th 13 → (∃ I_2 : Nat → Int32 → Int32 → Int32 → Prop, (∃ k : Nat, I_2 k 0 0 v_1) ∧ 
     ∀ (n_2 : Nat) (x1_3 : Int32) (x2_4 : Int32) (x3_5 : Int32), I_2 n_2 x1_3 x2_4 x3_5 → (∃ J_7 : Prop, (J_7 → 
       (∃ a_8 : Nat, gR S th 0 = some a_8 ∧ (kd S a_8 = 21 ∧ (vp_in 9680 (ln S a_8) ∧ (P_X12_canChange x1_3 (gI S a_8 9680) (fun (r_11 : Int32) => ((r_11 = 0 → 
              Q (-1)) ∧ (¬ r_11 = 0 → Q x1_3)))))))) ∧ (((gI S th 14) ≤ x3_5 → J_7) ∧ (¬ (gI S th 14) ≤ x3_5 → 
        ((¬ (gI S th 12) = 3 → J_7) ∧ ((gI S th 12) = 3 → (P_X12_byteAt th x3_5 S (fun (r_14 : Int32) => (∀ v_15 : Int32, v_15 = r_14 - 48 → 
             ((v_15 ≤ x2_4 → Q (-1)) ∧ (¬ v_15 ≤ x2_4 → (∃ a_17 : Nat, gR S th 0 = some a_17 ∧ (kd S a_17 = 21 ∧ 
                 (vp_in 9680 (ln S a_17) ∧ ((v_15 ≤ (gI S a_17 9680) → (∀ v_21 : Int32, v_21 = x1_3 ||| (shl 1 (v_15 - 1)) → 
                     (∀ v_22 : Int32, v_22 = x3_5 + 1 → (∃ k : Nat, k < n_2 ∧ I_2 k v_21 v_15 v_22)))) ∧ (¬ v_15 ≤ (gI S a_17 9680) → 
                    Q (-1)))))))))))))))))))
set_option maxRecDepth 100000 in
def P_X12_placesTo (th : Nat) (p0 : Int32) (S : St) (Q : Int32 → (Nat → Nat → Int32) → Prop) : Prop :=
  (kd S th = 12 ∧ (P_X12_isPlaces th S (fun (r_1 : Int32) => ((¬ r_1 = 0 → (P_X12_placesHere th S (fun (r_3 : Int32) => ((¬ r_3 = (-1) → 
           (∃ a_5 : Nat, gR S th 0 = some a_5 ∧ (kd S a_5 = 21 ∧ (vp_in p0 (ln S a_5) ∧ (∀ F_8 : Nat → Nat → Int32, F_8 = upI (gI S) a_5 p0.toNatClampNeg r_3 → 
               (P_X12_ahead th (wI S F_8) (fun (F_9 : Nat → Nat → Int32) => Q 1 F_9))))))) ∧ (r_3 = (-1) → (P_X12_fails th 4 S (fun (r_10 : Int32) (F_10 : Nat → 
              Nat → Int32) => ((r_10 = 0 ∨ r_10 = 1) ∧ Q r_10 F_10)))))))) ∧ (r_1 = 0 → (P_X12_fails th 2 S (fun (r_11 : Int32) (F_11 : Nat → 
          Nat → Int32) => ((r_11 = 0 ∨ r_11 = 1) ∧ Q r_11 F_11))))))))
set_option maxRecDepth 100000 in
def P_X12_newName (th : Nat) (p0 : Int32) (S : St) (Q : Int32 → (Nat → Nat → Int32) → (Nat → Nat → Int64) → Prop) : Prop :=
  (kd S th = 12 ∧ (P_X12_ahead th S (fun (F_1 : Nat → Nat → Int32) => (P_X12_isName th 12 (wI S F_1) (fun (r_2 : Int32) => ((¬ r_2 = 0 → 
         (∃ a_4 : Nat, gR S th 0 = some a_4 ∧ (kd S a_4 = 21 ∧ (vp_in 9681 (ln S a_4) ∧ (P_X12_findHere th 48 (F_1 a_4 9681) (wI S F_1) (fun (r_7 : Int32) => (∃ J_9 : Prop, (J_9 → 
                (P_X12_fails th 3 (wI S F_1) (fun (r_10 : Int32) (F_10 : Nat → Nat → Int32) => ((r_10 = 0 ∨ r_10 = 1) ∧ 
                   Q r_10 F_10 (gJ S))))) ∧ ((¬ r_7 = (-1) → J_9) ∧ (r_7 = (-1) → (vp_in 9682 (ln S a_4) ∧ (P_X12_findHere th 52 (F_1 a_4 9682) (wI S F_1) (fun (r_12 : Int32) => ((r_12 = (-1) → 
                      (∃ a_14 : Nat, gR S th 1 = some a_14 ∧ (P_X12_nameHere th (wI S F_1) (fun (r_15 : Int64) => (kd S a_14 = 22 ∧ 
                          (vp_in (48 + p0) (ln S a_14) ∧ (∀ J_18 : Nat → Nat → Int64, J_18 = upJ (gJ S) a_14 ((48 + p0).toNatClampNeg) r_15 → 
                            (P_X12_ahead th (wA S F_1 J_18 (gR S)) (fun (F_19 : Nat → Nat → Int32) => Q 1 F_19 J_18))))))))) ∧ 
                     (¬ r_12 = (-1) → J_9)))))))))))))) ∧ (r_2 = 0 → (P_X12_fails th 2 (wI S F_1) (fun (r_20 : Int32) (F_20 : Nat → 
            Nat → Int32) => ((r_20 = 0 ∨ r_20 = 1) ∧ Q r_20 F_20 (gJ S)))))))))))
set_option maxRecDepth 100000 in
def P_X12_aMethod (th : Nat) (S : St) (Q : Int32 → (Nat → Nat → Int32) → (Nat → Nat → Int64) → Prop) : Prop :=
  (kd S th = 12 ∧ (∃ a_1 : Nat, gR S th 0 = some a_1 ∧ (kd S a_1 = 21 ∧ (vp_in 9681 (ln S a_1) ∧ (∀ v_4 : Int32, v_4 = 9690 + (40 * (gI S a_1 9681)) → 
       ((¬ (gI S a_1 9681) = 4 → (P_X12_newName th (gI S a_1 9681) S (fun (r_6 : Int32) (F_6 : Nat → Nat → Int32) (J_6 : Nat → 
            Nat → Int64) => ((¬ r_6 = 0 → (P_X12_isPlaces th (wA S F_6 J_6 (gR S)) (fun (r_8 : Int32) => ((¬ r_8 = 0 → 
                 (∃ I_10 : Nat → Int32 → (Nat → Nat → Int32) → Prop, (∃ k : Nat, I_10 k 0 F_6) ∧ ∀ (n_10 : Nat) (x2_11 : Int32) (F_12 : Nat → 
                   Nat → Int32), I_10 n_10 x2_11 F_12 → (P_X12_isPlaces th (wA S F_12 J_6 (gR S)) (fun (r_13 : Int32) => ((r_13 = 0 → 
                      (P_X12_inWords th 12 (wA S F_12 J_6 (gR S)) (fun (r_15 : Int32) => (∃ J_17 : Int32 → (Nat → 
                          Nat → Int32) → Prop, (∀ (x2_18 : Int32) (F_19 : Nat → Nat → Int32), J_17 x2_18 F_19 → 
                          (vp_in v_4 (ln S a_1) ∧ (∀ F_21 : Nat → Nat → Int32, F_21 = upI F_19 a_1 v_4.toNatClampNeg x2_18 → 
                            (vp_in (v_4 + x2_18) (ln S a_1) ∧ (vp_in (v_4 + 33) (ln S a_1) ∧ (∀ v_24 : Int32, v_24 = F_21 a_1 ((v_4 + x2_18).toNatClampNeg) → 
                               (∀ F_25 : Nat → Nat → Int32, F_25 = upI F_21 a_1 ((v_4 + 33).toNatClampNeg) v_24 → 
                                (vp_in (v_4 + 34) (ln S a_1) ∧ (∀ v_27 : Int32, v_27 = F_25 a_1 ((v_4 + x2_18).toNatClampNeg) → 
                                  (∀ F_28 : Nat → Nat → Int32, F_28 = upI F_25 a_1 ((v_4 + 34).toNatClampNeg) v_27 → 
                                   (P_X12_inWords th 12 (wA S F_28 J_6 (gR S)) (fun (r_29 : Int32) => (∃ J_31 : (Nat → 
                                       Nat → Int32) → Prop, (∀ (F_32 : Nat → Nat → Int32), J_31 F_32 → (P_X12_inWords th 12 (wA S F_32 J_6 (gR S)) (fun (r_33 : Int32) => (∃ J_35 : (Nat → 
   Nat → Int32) → Prop, (∀ (F_36 : Nat → Nat → Int32), J_35 F_36 → (∀ v_37 : Int32, v_37 = (F_36 a_1 9681) + 1 → 
    (∀ F_38 : Nat → Nat → Int32, F_38 = upI F_36 a_1 9681 v_37 → Q 1 F_38 J_6))) ∧ ((¬ r_33 = 6 → J_35 F_32) ∧ 
   (r_33 = 6 → (P_X12_ahead th (wA S F_32 J_6 (gR S)) (fun (F_39 : Nat → Nat → Int32) => (P_X12_placesTo th (v_4 + 34) (wA S F_39 J_6 (gR S)) (fun (r_40 : Int32) (F_40 : Nat → 
         Nat → Int32) => ((¬ r_40 = 0 → J_35 F_40) ∧ (r_40 = 0 → Q 0 F_40 J_6)))))))))))) ∧ ((¬ r_29 = 5 → J_31 F_28) ∧ 
                                       (r_29 = 5 → (P_X12_ahead th (wA S F_28 J_6 (gR S)) (fun (F_42 : Nat → Nat → 
   Int32) => (P_X12_placesTo th (v_4 + 33) (wA S F_42 J_6 (gR S)) (fun (r_43 : Int32) (F_43 : Nat → Nat → Int32) => ((¬ r_43 = 0 → 
      J_31 F_43) ∧ (r_43 = 0 → Q 0 F_43 J_6))))))))))))))))))))) ∧ ((¬ r_15 = 4 → J_17 x2_11 F_12) ∧ (r_15 = 4 → 
                           (((2 * x2_11) ≤ 32 → (P_X12_ahead th (wA S F_12 J_6 (gR S)) (fun (F_46 : Nat → Nat → 
                                Int32) => (∃ I_47 : Nat → Int32 → (Nat → Nat → Int32) → Prop, (∃ k : Nat, I_47 k 0 F_46) ∧ 
                                ∀ (n_47 : Nat) (x3_48 : Int32) (F_49 : Nat → Nat → Int32), I_47 n_47 x3_48 F_49 → 
                                (((x2_11 - 1) ≤ x3_48 → (∀ v_51 : Int32, v_51 = 2 * x2_11 → (P_X12_placesTo th (v_4 + v_51) (wA S F_49 J_6 (gR S)) (fun (r_52 : Int32) (F_52 : Nat → 
                                      Nat → Int32) => ((¬ r_52 = 0 → J_17 v_51 F_52) ∧ (r_52 = 0 → Q 0 F_52 J_6)))))) ∧ 
                                 (¬ (x2_11 - 1) ≤ x3_48 → (vp_in (((v_4 + x2_11) - 1) - x3_48) (ln S a_1) ∧ (vp_in (((v_4 + 1) + x2_11) + x3_48) (ln S a_1) ∧ 
                                    (∀ v_56 : Int32, v_56 = F_49 a_1 ((((v_4 + x2_11) - 1) - x3_48).toNatClampNeg) → 
                                     (∀ F_57 : Nat → Nat → Int32, F_57 = upI F_49 a_1 ((((v_4 + 1) + x2_11) + x3_48).toNatClampNeg) v_56 → 
                                      (∀ v_58 : Int32, v_58 = x3_48 + 1 → (∃ k : Nat, k < n_47 ∧ I_47 k v_58 F_57)))))))))))) ∧ 
                            (¬ (2 * x2_11) ≤ 32 → (P_X12_fails th 6 (wA S F_12 J_6 (gR S)) (fun (r_59 : Int32) (F_59 : Nat → 
                                Nat → Int32) => ((r_59 = 0 ∨ r_59 = 1) ∧ Q r_59 F_59 J_6))))))))))) ∧ (¬ r_13 = 0 → 
                      (P_X12_placesHere th (wA S F_12 J_6 (gR S)) (fun (r_60 : Int32) => ((¬ r_60 = (-1) → ((¬ x2_11 = 32 → 
                            (vp_in ((v_4 + 1) + x2_11) (ln S a_1) ∧ (∀ F_64 : Nat → Nat → Int32, F_64 = upI F_12 a_1 (((v_4 + 1) + x2_11).toNatClampNeg) r_60 → 
                              (∀ v_65 : Int32, v_65 = x2_11 + 1 → (P_X12_ahead th (wA S F_64 J_6 (gR S)) (fun (F_66 : Nat → 
                                  Nat → Int32) => (∃ k : Nat, k < n_10 ∧ I_10 k v_65 F_66))))))) ∧ (x2_11 = 32 → 
                            (P_X12_fails th 6 (wA S F_12 J_6 (gR S)) (fun (r_67 : Int32) (F_67 : Nat → Nat → Int32) => ((r_67 = 0 ∨ r_67 = 1) ∧ 
                               Q r_67 F_67 J_6)))))) ∧ (r_60 = (-1) → (P_X12_fails th 4 (wA S F_12 J_6 (gR S)) (fun (r_68 : Int32) (F_68 : Nat → 
                             Nat → Int32) => ((r_68 = 0 ∨ r_68 = 1) ∧ Q r_68 F_68 J_6))))))))))))) ∧ (r_8 = 0 → 
                 (P_X12_fails th 2 (wA S F_6 J_6 (gR S)) (fun (r_69 : Int32) (F_69 : Nat → Nat → Int32) => ((r_69 = 0 ∨ r_69 = 1) ∧ 
                    Q r_69 F_69 J_6)))))))) ∧ (r_6 = 0 → Q 0 F_6 J_6))))) ∧ ((gI S a_1 9681) = 4 → (P_X12_fails th 6 S (fun (r_70 : Int32) (F_70 : Nat → 
            Nat → Int32) => ((r_70 = 0 ∨ r_70 = 1) ∧ Q r_70 F_70 (gJ S)))))))))))
set_option maxRecDepth 100000 in
def P_X12_aRinger (th : Nat) (S : St) (Q : Int32 → (Nat → Nat → Int32) → (Nat → Nat → Int64) → Prop) : Prop :=
  (kd S th = 12 ∧ (∃ a_1 : Nat, gR S th 0 = some a_1 ∧ (kd S a_1 = 21 ∧ (vp_in 9682 (ln S a_1) ∧ ((¬ (gI S a_1 9682) = 8 → 
        (P_X12_newName th (4 + (gI S a_1 9682)) S (fun (r_5 : Int32) (F_5 : Nat → Nat → Int32) (J_5 : Nat → Nat → 
           Int64) => ((¬ r_5 = 0 → (((F_5 th 12) = 3 → (∃ J_9 : Prop, (J_9 → (P_X12_fails th 4 (wA S F_5 J_5 (gR S)) (fun (r_10 : Int32) (F_10 : Nat → 
                   Nat → Int32) => ((r_10 = 0 ∨ r_10 = 1) ∧ Q r_10 F_10 J_5)))) ∧ (((F_5 th 15) < 1 → J_9) ∧ (¬ (F_5 th 15) < 1 → 
                 (vp_in 9680 (ln S a_1) ∧ (((F_5 th 15) ≤ (F_5 a_1 9680) → (vp_in 9683 (ln S a_1) ∧ ((¬ ((shr (F_5 a_1 9683) ((F_5 th 15) - 1)) &&& 1) = 1 → 
                       (∀ v_15 : Int32, v_15 = (F_5 a_1 9683) ||| (shl 1 ((F_5 th 15) - 1)) → (∀ F_16 : Nat → Nat → 
                         Int32, F_16 = upI F_5 a_1 9683 v_15 → (P_X12_ahead th (wA S F_16 J_5 (gR S)) (fun (F_17 : Nat → 
                            Nat → Int32) => (∀ v_18 : Int32, v_18 = (F_17 a_1 9682) + 1 → (∀ F_19 : Nat → Nat → 
                             Int32, F_19 = upI F_17 a_1 9682 v_18 → Q 1 F_19 J_5))))))) ∧ (((shr (F_5 a_1 9683) ((F_5 th 15) - 1)) &&& 1) = 1 → 
                       (P_X12_fails th 5 (wA S F_5 J_5 (gR S)) (fun (r_20 : Int32) (F_20 : Nat → Nat → Int32) => ((r_20 = 0 ∨ r_20 = 1) ∧ 
                          Q r_20 F_20 J_5))))))) ∧ (¬ (F_5 th 15) ≤ (F_5 a_1 9680) → J_9))))))) ∧ (¬ (F_5 th 12) = 3 → 
              (P_X12_fails th 2 (wA S F_5 J_5 (gR S)) (fun (r_21 : Int32) (F_21 : Nat → Nat → Int32) => ((r_21 = 0 ∨ r_21 = 1) ∧ 
                 Q r_21 F_21 J_5)))))) ∧ (r_5 = 0 → Q 0 F_5 J_5))))) ∧ ((gI S a_1 9682) = 8 → (P_X12_fails th 6 S (fun (r_22 : Int32) (F_22 : Nat → 
           Nat → Int32) => ((r_22 = 0 ∨ r_22 = 1) ∧ Q r_22 F_22 (gJ S))))))))))
set_option maxRecDepth 100000 in
def P_X12_bookPart (th : Nat) (S : St) (Q : Int32 → (Nat → Nat → Int32) → (Nat → Nat → Int64) → Prop) : Prop :=
  (kd S th = 12 ∧ (P_X12_inWords th 12 S (fun (r_1 : Int32) => (∃ J_3 : Prop, (J_3 → (∃ J_5 : (Nat → Nat → Int32) → 
        (Nat → Nat → Int64) → Prop, (∀ (F_6 : Nat → Nat → Int32) (J_7 : Nat → Nat → Int64), J_5 F_6 J_7 → (P_X12_wantSign th 59 (wA S F_6 J_7 (gR S)) (fun (r_8 : Int32) (F_8 : Nat → 
            Nat → Int32) => ((r_8 = 0 → Q 0 F_8 J_7) ∧ (¬ r_8 = 0 → Q 1 F_8 J_7))))) ∧ ((¬ r_1 = 1 → (P_X12_aRinger th S (fun (r_10 : Int32) (F_10 : Nat → 
             Nat → Int32) (J_10 : Nat → Nat → Int64) => ((r_10 = 0 → Q 0 F_10 J_10) ∧ (¬ r_10 = 0 → J_5 F_10 J_10))))) ∧ 
         (r_1 = 1 → (P_X12_aMethod th S (fun (r_12 : Int32) (F_12 : Nat → Nat → Int32) (J_12 : Nat → Nat → Int64) => ((r_12 = 0 → 
              Q 0 F_12 J_12) ∧ (¬ r_12 = 0 → J_5 F_12 J_12)))))))) ∧ ((r_1 = 1 → J_3) ∧ (¬ r_1 = 1 → ((r_1 = 2 → 
          J_3) ∧ (¬ r_1 = 2 → (P_X12_fails th 2 S (fun (r_15 : Int32) (F_15 : Nat → Nat → Int32) => ((r_15 = 0 ∨ r_15 = 1) ∧ 
             Q r_15 F_15 (gJ S))))))))))))
set_option maxRecDepth 100000 in
def P_X12_book (th : Nat) (p0 : Int32) (S : St) (Q : Int32 → (Nat → Nat → Int32) → (Nat → Nat → Int64) → Prop) : Prop :=
  (kd S th = 12 ∧ (P_X12_begins th p0 900 S (fun (r_1 : Int32) (F_1 : Nat → Nat → Int32) => ((¬ r_1 = 0 → (∃ I_3 : Nat → 
        Int32 → (Nat → Nat → Int32) → Prop, (∃ k : Nat, I_3 k 0 F_1) ∧ ∀ (n_3 : Nat) (x2_4 : Int32) (F_5 : Nat → 
         Nat → Int32), I_3 n_3 x2_4 F_5 → ((2420 ≤ x2_4 → (∃ a_7 : Nat, gR S th 0 = some a_7 ∧ (kd S a_7 = 21 ∧ 
            (vp_in 9684 (ln S a_7) ∧ (∀ F_10 : Nat → Nat → Int32, F_10 = upI F_5 a_7 9684 (-1) → (vp_in 9686 (ln S a_7) ∧ 
               (∀ F_12 : Nat → Nat → Int32, F_12 = upI F_10 a_7 9686 (-1) → (P_X12_wantWord th 12 0 (wI S F_12) (fun (r_13 : Int32) (F_13 : Nat → 
                   Nat → Int32) => ((r_13 = 0 → (∃ I_15 : Nat → Int32 → (Nat → Nat → Int32) → (Nat → Nat → Int64) → 
                     Prop, (∃ k : Nat, I_15 k 0 F_13 (gJ S)) ∧ ∀ (n_15 : Nat) (x2_16 : Int32) (F_17 : Nat → Nat → 
                      Int32) (J_18 : Nat → Nat → Int64), I_15 n_15 x2_16 F_17 J_18 → (∃ J_20 : Prop, (J_20 → (∃ J_22 : (Nat → 
                         Nat → Int32) → (Nat → Nat → Int64) → Prop, (∀ (F_23 : Nat → Nat → Int32) (J_24 : Nat → 
                          Nat → Int64), J_22 F_23 J_24 → (vp_in 1 (ln S a_7) ∧ (P_X12_taken th (F_23 a_7 1) (wA S F_23 J_24 (gR S)) (fun (r_26 : Int32) (F_26 : Nat → 
                             Nat → Int32) => Q r_26 F_26 J_24)))) ∧ ((¬ (F_17 th 18) = 0 → J_22 F_17 J_18) ∧ ((F_17 th 18) = 0 → 
                          (∃ I_27 : Nat → Int32 → (Nat → Nat → Int32) → Prop, (∃ k : Nat, I_27 k 0 F_17) ∧ ∀ (n_27 : Nat) (x3_28 : Int32) (F_29 : Nat → 
                            Nat → Int32), I_27 n_27 x3_28 F_29 → ((2420 ≤ x3_28 → (∃ I_31 : Nat → Int32 → (Nat → 
                               Nat → Int64) → Prop, (∃ k : Nat, I_31 k 0 J_18) ∧ ∀ (n_31 : Nat) (x3_32 : Int32) (J_33 : Nat → 
                               Nat → Int64), I_31 n_31 x3_32 J_33 → ((12 ≤ x3_32 → J_22 F_29 J_33) ∧ (¬ 12 ≤ x3_32 → 
                                (∃ a_35 : Nat, gR S th 1 = some a_35 ∧ (kd S a_35 = 22 ∧ (vp_in (48 + x3_32) (ln S a_35) ∧ 
                                   (vp_in x3_32 (ln S a_35) ∧ (∀ v_39 : Int64, v_39 = J_33 a_35 ((48 + x3_32).toNatClampNeg) → 
                                     (∀ J_40 : Nat → Nat → Int64, J_40 = upJ J_33 a_35 x3_32.toNatClampNeg v_39 → 
                                      (∀ v_41 : Int32, v_41 = x3_32 + 1 → (∃ k : Nat, k < n_31 ∧ I_31 k v_41 J_40)))))))))))) ∧ 
                            (¬ 2420 ≤ x3_28 → (vp_in (9680 + x3_28) (ln S a_7) ∧ (vp_in x3_28 (ln S a_7) ∧ (∀ v_44 : Int32, v_44 = F_29 a_7 ((9680 + x3_28).toNatClampNeg) → 
                                (∀ F_45 : Nat → Nat → Int32, F_45 = upI F_29 a_7 x3_28.toNatClampNeg v_44 → (∀ v_46 : Int32, v_46 = x3_28 + 1 → 
                                  (∃ k : Nat, k < n_27 ∧ I_27 k v_46 F_45))))))))))))) ∧ ((x2_16 = 0 → J_20) ∧ 
                       (¬ x2_16 = 0 → (((F_17 th 12) = 0 → J_20) ∧ (¬ (F_17 th 12) = 0 → (P_X12_bookPart th (wA S F_17 J_18 (gR S)) (fun (r_48 : Int32) (F_48 : Nat → 
                             Nat → Int32) (J_48 : Nat → Nat → Int64) => (∃ k : Nat, k < n_15 ∧ I_15 k r_48 F_48 J_48)))))))))) ∧ 
                   (¬ r_13 = 0 → (P_X12_numberTo th 9680 4 8 (wI S F_13) (fun (r_49 : Int32) (F_49 : Nat → Nat → 
                       Int32) => ((r_49 = 0 → (∃ I_51 : Nat → Int32 → (Nat → Nat → Int32) → (Nat → Nat → Int64) → 
                         Prop, (∃ k : Nat, I_51 k 0 F_49 (gJ S)) ∧ ∀ (n_51 : Nat) (x2_52 : Int32) (F_53 : Nat → 
                          Nat → Int32) (J_54 : Nat → Nat → Int64), I_51 n_51 x2_52 F_53 J_54 → (∃ J_56 : Prop, (J_56 → 
                           (∃ J_58 : (Nat → Nat → Int32) → (Nat → Nat → Int64) → Prop, (∀ (F_59 : Nat → Nat → Int32) (J_60 : Nat → 
                              Nat → Int64), J_58 F_59 J_60 → (vp_in 1 (ln S a_7) ∧ (P_X12_taken th (F_59 a_7 1) (wA S F_59 J_60 (gR S)) (fun (r_62 : Int32) (F_62 : Nat → 
                                 Nat → Int32) => Q r_62 F_62 J_60)))) ∧ ((¬ (F_53 th 18) = 0 → J_58 F_53 J_54) ∧ 
                             ((F_53 th 18) = 0 → (∃ I_63 : Nat → Int32 → (Nat → Nat → Int32) → Prop, (∃ k : Nat, I_63 k 0 F_53) ∧ 
                               ∀ (n_63 : Nat) (x3_64 : Int32) (F_65 : Nat → Nat → Int32), I_63 n_63 x3_64 F_65 → 
                               ((2420 ≤ x3_64 → (∃ I_67 : Nat → Int32 → (Nat → Nat → Int64) → Prop, (∃ k : Nat, I_67 k 0 J_54) ∧ 
                                  ∀ (n_67 : Nat) (x3_68 : Int32) (J_69 : Nat → Nat → Int64), I_67 n_67 x3_68 J_69 → 
                                  ((12 ≤ x3_68 → J_58 F_65 J_69) ∧ (¬ 12 ≤ x3_68 → (∃ a_71 : Nat, gR S th 1 = some a_71 ∧ 
                                     (kd S a_71 = 22 ∧ (vp_in (48 + x3_68) (ln S a_71) ∧ (vp_in x3_68 (ln S a_71) ∧ 
                                        (∀ v_75 : Int64, v_75 = J_69 a_71 ((48 + x3_68).toNatClampNeg) → (∀ J_76 : Nat → 
  Nat → Int64, J_76 = upJ J_69 a_71 x3_68.toNatClampNeg v_75 → (∀ v_77 : Int32, v_77 = x3_68 + 1 → (∃ k : Nat, k < n_67 ∧ 
    I_67 k v_77 J_76)))))))))))) ∧ (¬ 2420 ≤ x3_64 → (vp_in (9680 + x3_64) (ln S a_7) ∧ (vp_in x3_64 (ln S a_7) ∧ 
                                   (∀ v_80 : Int32, v_80 = F_65 a_7 ((9680 + x3_64).toNatClampNeg) → (∀ F_81 : Nat → 
                                     Nat → Int32, F_81 = upI F_65 a_7 x3_64.toNatClampNeg v_80 → (∀ v_82 : Int32, v_82 = x3_64 + 1 → 
                                      (∃ k : Nat, k < n_63 ∧ I_63 k v_82 F_81))))))))))))) ∧ ((x2_52 = 0 → J_56) ∧ 
                           (¬ x2_52 = 0 → (((F_53 th 12) = 0 → J_56) ∧ (¬ (F_53 th 12) = 0 → (P_X12_bookPart th (wA S F_53 J_54 (gR S)) (fun (r_84 : Int32) (F_84 : Nat → 
                                 Nat → Int32) (J_84 : Nat → Nat → Int64) => (∃ k : Nat, k < n_51 ∧ I_51 k r_84 F_84 J_84)))))))))) ∧ 
                       (¬ r_49 = 0 → (P_X12_wantSign th 59 (wI S F_49) (fun (r_85 : Int32) (F_85 : Nat → Nat → 
                           Int32) => ((r_85 = 0 → (∃ I_87 : Nat → Int32 → (Nat → Nat → Int32) → (Nat → Nat → Int64) → 
                             Prop, (∃ k : Nat, I_87 k 0 F_85 (gJ S)) ∧ ∀ (n_87 : Nat) (x2_88 : Int32) (F_89 : Nat → 
                              Nat → Int32) (J_90 : Nat → Nat → Int64), I_87 n_87 x2_88 F_89 J_90 → (∃ J_92 : Prop, (J_92 → 
                               (∃ J_94 : (Nat → Nat → Int32) → (Nat → Nat → Int64) → Prop, (∀ (F_95 : Nat → Nat → 
                                  Int32) (J_96 : Nat → Nat → Int64), J_94 F_95 J_96 → (vp_in 1 (ln S a_7) ∧ (P_X12_taken th (F_95 a_7 1) (wA S F_95 J_96 (gR S)) (fun (r_98 : Int32) (F_98 : Nat → 
                                     Nat → Int32) => Q r_98 F_98 J_96)))) ∧ ((¬ (F_89 th 18) = 0 → J_94 F_89 J_90) ∧ 
                                 ((F_89 th 18) = 0 → (∃ I_99 : Nat → Int32 → (Nat → Nat → Int32) → Prop, (∃ k : Nat, I_99 k 0 F_89) ∧ 
                                   ∀ (n_99 : Nat) (x3_100 : Int32) (F_101 : Nat → Nat → Int32), I_99 n_99 x3_100 F_101 → 
                                   ((2420 ≤ x3_100 → (∃ I_103 : Nat → Int32 → (Nat → Nat → Int64) → Prop, (∃ k : Nat, I_103 k 0 J_90) ∧ 
                                      ∀ (n_103 : Nat) (x3_104 : Int32) (J_105 : Nat → Nat → Int64), I_103 n_103 x3_104 J_105 → 
                                      ((12 ≤ x3_104 → J_94 F_101 J_105) ∧ (¬ 12 ≤ x3_104 → (∃ a_107 : Nat, gR S th 1 = some a_107 ∧ 
                                        (kd S a_107 = 22 ∧ (vp_in (48 + x3_104) (ln S a_107) ∧ (vp_in x3_104 (ln S a_107) ∧ 
    (∀ v_111 : Int64, v_111 = J_105 a_107 ((48 + x3_104).toNatClampNeg) → (∀ J_112 : Nat → Nat → Int64, J_112 = upJ J_105 a_107 x3_104.toNatClampNeg v_111 → 
      (∀ v_113 : Int32, v_113 = x3_104 + 1 → (∃ k : Nat, k < n_103 ∧ I_103 k v_113 J_112)))))))))))) ∧ (¬ 2420 ≤ x3_100 → 
                                     (vp_in (9680 + x3_100) (ln S a_7) ∧ (vp_in x3_100 (ln S a_7) ∧ (∀ v_116 : Int32, v_116 = F_101 a_7 ((9680 + x3_100).toNatClampNeg) → 
                                        (∀ F_117 : Nat → Nat → Int32, F_117 = upI F_101 a_7 x3_100.toNatClampNeg v_116 → 
                                        (∀ v_118 : Int32, v_118 = x3_100 + 1 → (∃ k : Nat, k < n_99 ∧ I_99 k v_118 F_117))))))))))))) ∧ 
                              ((x2_88 = 0 → J_92) ∧ (¬ x2_88 = 0 → (((F_89 th 12) = 0 → J_92) ∧ (¬ (F_89 th 12) = 0 → 
                                  (P_X12_bookPart th (wA S F_89 J_90 (gR S)) (fun (r_120 : Int32) (F_120 : Nat → 
                                     Nat → Int32) (J_120 : Nat → Nat → Int64) => (∃ k : Nat, k < n_87 ∧ I_87 k r_120 F_120 J_120)))))))))) ∧ 
                           (¬ r_85 = 0 → (∃ I_121 : Nat → Int32 → (Nat → Nat → Int32) → (Nat → Nat → Int64) → Prop, (∃ k : Nat, I_121 k 1 F_85 (gJ S)) ∧ 
                             ∀ (n_121 : Nat) (x2_122 : Int32) (F_123 : Nat → Nat → Int32) (J_124 : Nat → Nat → 
                              Int64), I_121 n_121 x2_122 F_123 J_124 → (∃ J_126 : Prop, (J_126 → (∃ J_128 : (Nat → 
                                 Nat → Int32) → (Nat → Nat → Int64) → Prop, (∀ (F_129 : Nat → Nat → Int32) (J_130 : Nat → 
                                  Nat → Int64), J_128 F_129 J_130 → (vp_in 1 (ln S a_7) ∧ (P_X12_taken th (F_129 a_7 1) (wA S F_129 J_130 (gR S)) (fun (r_132 : Int32) (F_132 : Nat → 
                                     Nat → Int32) => Q r_132 F_132 J_130)))) ∧ ((¬ (F_123 th 18) = 0 → J_128 F_123 J_124) ∧ 
                                 ((F_123 th 18) = 0 → (∃ I_133 : Nat → Int32 → (Nat → Nat → Int32) → Prop, (∃ k : Nat, I_133 k 0 F_123) ∧ 
                                   ∀ (n_133 : Nat) (x3_134 : Int32) (F_135 : Nat → Nat → Int32), I_133 n_133 x3_134 F_135 → 
                                   ((2420 ≤ x3_134 → (∃ I_137 : Nat → Int32 → (Nat → Nat → Int64) → Prop, (∃ k : Nat, I_137 k 0 J_124) ∧ 
                                      ∀ (n_137 : Nat) (x3_138 : Int32) (J_139 : Nat → Nat → Int64), I_137 n_137 x3_138 J_139 → 
                                      ((12 ≤ x3_138 → J_128 F_135 J_139) ∧ (¬ 12 ≤ x3_138 → (∃ a_141 : Nat, gR S th 1 = some a_141 ∧ 
                                        (kd S a_141 = 22 ∧ (vp_in (48 + x3_138) (ln S a_141) ∧ (vp_in x3_138 (ln S a_141) ∧ 
    (∀ v_145 : Int64, v_145 = J_139 a_141 ((48 + x3_138).toNatClampNeg) → (∀ J_146 : Nat → Nat → Int64, J_146 = upJ J_139 a_141 x3_138.toNatClampNeg v_145 → 
      (∀ v_147 : Int32, v_147 = x3_138 + 1 → (∃ k : Nat, k < n_137 ∧ I_137 k v_147 J_146)))))))))))) ∧ (¬ 2420 ≤ x3_134 → 
                                     (vp_in (9680 + x3_134) (ln S a_7) ∧ (vp_in x3_134 (ln S a_7) ∧ (∀ v_150 : Int32, v_150 = F_135 a_7 ((9680 + x3_134).toNatClampNeg) → 
                                        (∀ F_151 : Nat → Nat → Int32, F_151 = upI F_135 a_7 x3_134.toNatClampNeg v_150 → 
                                        (∀ v_152 : Int32, v_152 = x3_134 + 1 → (∃ k : Nat, k < n_133 ∧ I_133 k v_152 F_151))))))))))))) ∧ 
                              ((x2_122 = 0 → J_126) ∧ (¬ x2_122 = 0 → (((F_123 th 12) = 0 → J_126) ∧ (¬ (F_123 th 12) = 0 → 
                                  (P_X12_bookPart th (wA S F_123 J_124 (gR S)) (fun (r_154 : Int32) (F_154 : Nat → 
                                     Nat → Int32) (J_154 : Nat → Nat → Int64) => (∃ k : Nat, k < n_121 ∧ I_121 k r_154 F_154 J_154)))))))))))))))))))))))))))) ∧ 
         (¬ 2420 ≤ x2_4 → (∃ a_155 : Nat, gR S th 0 = some a_155 ∧ (kd S a_155 = 21 ∧ (vp_in (9680 + x2_4) (ln S a_155) ∧ 
             (∀ F_158 : Nat → Nat → Int32, F_158 = upI F_5 a_155 ((9680 + x2_4).toNatClampNeg) 0 → (∀ v_159 : Int32, v_159 = x2_4 + 1 → 
               (∃ k : Nat, k < n_3 ∧ I_3 k v_159 F_158)))))))))) ∧ (r_1 = 0 → (P_X12_refuse th 1 (wI S F_1) (fun (r_160 : Int32) (F_160 : Nat → 
          Nat → Int32) => Q r_160 F_160 (gJ S))))))))
set_option maxRecDepth 100000 in
def P_X12_aLead (th : Nat) (p0 : Int32) (S : St) (Q : Int32 → (Nat → Nat → Int32) → Prop) : Prop :=
  (kd S th = 12 ∧ (P_X12_isName th 12 S (fun (r_1 : Int32) => ((¬ r_1 = 0 → (∃ a_3 : Nat, gR S th 0 = some a_3 ∧ 
        (kd S a_3 = 21 ∧ (vp_in 1 (ln S a_3) ∧ (P_X12_findHere th 0 (gI S a_3 1) S (fun (r_6 : Int32) => ((¬ r_6 = (-1) → 
              (vp_in (p0 + 1) (ln S a_3) ∧ (∀ F_9 : Nat → Nat → Int32, F_9 = upI (gI S) a_3 ((p0 + 1).toNatClampNeg) r_6 → 
                (P_X12_ahead th (wI S F_9) (fun (F_10 : Nat → Nat → Int32) => Q 1 F_10))))) ∧ (r_6 = (-1) → (P_X12_fails th 3 S (fun (r_11 : Int32) (F_11 : Nat → 
                 Nat → Int32) => ((r_11 = 0 ∨ r_11 = 1) ∧ Q r_11 F_11))))))))))) ∧ (r_1 = 0 → (P_X12_fails th 2 S (fun (r_12 : Int32) (F_12 : Nat → 
          Nat → Int32) => ((r_12 = 0 ∨ r_12 = 1) ∧ Q r_12 F_12))))))))
set_option maxRecDepth 100000 in
def P_X12_step (th : Nat) (S : St) (Q : Int32 → (Nat → Nat → Int32) → Prop) : Prop :=
  (kd S th = 12 ∧ (P_X12_inWords th 12 S (fun (r_1 : Int32) => (∃ a_2 : Nat, gR S th 0 = some a_2 ∧ (kd S a_2 = 21 ∧ 
       (vp_in 9684 (ln S a_2) ∧ (∀ v_5 : Int32, v_5 = gI S a_2 9684 → (∀ v_6 : Int32, v_6 = 9850 + (4 * v_5) → 
          (∃ J_8 : Int32 → Prop, (∀ (t_9 : Int32), J_8 t_9 → (∃ J_11 : Prop, (J_11 → (∃ J_13 : Prop, (J_13 → (∃ J_15 : Prop, (J_15 → 
                  (∃ J_17 : Int32 → Prop, (∀ (t_18 : Int32), J_17 t_18 → (∀ v_19 : Int32, v_19 = (gI S th 22) + t_18 → 
                     (∀ F_20 : Nat → Nat → Int32, F_20 = upI (gI S) th 22 v_19 → (vp_in v_6 (ln S a_2) ∧ (∀ F_22 : Nat → 
                        Nat → Int32, F_22 = upI F_20 a_2 v_6.toNatClampNeg r_1 → (∃ I_23 : Nat → Int32 → (Nat → 
                          Nat → Int32) → Prop, (∃ k : Nat, I_23 k 1 F_22) ∧ ∀ (n_23 : Nat) (x5_24 : Int32) (F_25 : Nat → 
                          Nat → Int32), I_23 n_23 x5_24 F_25 → ((4 ≤ x5_24 → (∀ v_27 : Int32, v_27 = (F_25 a_2 9684) + 1 → 
                            (∀ F_28 : Nat → Nat → Int32, F_28 = upI F_25 a_2 9684 v_27 → (P_X12_ahead th (wI S F_28) (fun (F_29 : Nat → 
                                Nat → Int32) => (∃ J_31 : (Nat → Nat → Int32) → Prop, (∀ (F_32 : Nat → Nat → Int32), J_31 F_32 → 
                                 (∃ J_34 : (Nat → Nat → Int32) → Prop, (∀ (F_35 : Nat → Nat → Int32), J_34 F_35 → 
                                   (∃ J_37 : (Nat → Nat → Int32) → Prop, (∀ (F_38 : Nat → Nat → Int32), J_37 F_38 → 
                                     (∃ J_40 : (Nat → Nat → Int32) → Prop, (∀ (F_41 : Nat → Nat → Int32), J_40 F_41 → 
                                       (P_X12_wantSign th 59 (wI S F_41) (fun (r_42 : Int32) (F_42 : Nat → Nat → 
  Int32) => ((r_42 = 0 ∨ r_42 = 1) ∧ Q r_42 F_42)))) ∧ ((¬ r_1 = 10 → J_40 F_38) ∧ (r_1 = 10 → (∀ v_43 : Int32, v_43 = (F_38 th 21) - 1 → 
                                        (∀ F_44 : Nat → Nat → Int32, F_44 = upI F_38 th 21 v_43 → (∃ a_45 : Nat, gR S th 20 = some a_45 ∧ 
   (kd S a_45 = 21 ∧ (vp_in (F_44 th 21) (ln S a_45) ∧ (vp_in (v_6 + 3) (ln S a_2) ∧ (∀ v_49 : Int32, v_49 = F_44 a_45 ((F_44 th 21).toNatClampNeg) → 
       (∀ F_50 : Nat → Nat → Int32, F_50 = upI F_44 a_2 ((v_6 + 3).toNatClampNeg) v_49 → J_40 F_50)))))))))))) ∧ 
                                    ((¬ r_1 = 9 → J_37 F_35) ∧ (r_1 = 9 → (P_X12_numberTo th (v_6 + 2) 1 99 (wI S F_35) (fun (r_51 : Int32) (F_51 : Nat → 
                                        Nat → Int32) => ((¬ r_51 = 0 → (∃ a_53 : Nat, gR S th 20 = some a_53 ∧ 
   (kd S a_53 = 21 ∧ (vp_in (F_51 th 21) (ln S a_53) ∧ (∀ F_56 : Nat → Nat → Int32, F_56 = upI F_51 a_53 ((F_51 th 21).toNatClampNeg) v_5 → 
      (∀ v_57 : Int32, v_57 = (F_56 th 21) + 1 → (∀ F_58 : Nat → Nat → Int32, F_58 = upI F_56 th 21 v_57 → J_37 F_58))))))) ∧ 
                                        (r_51 = 0 → Q 0 F_51)))))))) ∧ ((¬ r_1 = 8 → J_34 F_32) ∧ (r_1 = 8 → (vp_in (v_6 + 1) (ln S a_2) ∧ 
                                     (vp_in (10 + (40 * (F_32 a_2 ((v_6 + 1).toNatClampNeg)))) (ln S a_2) ∧ (P_X12_numberTo th (v_6 + 2) 1 (F_32 a_2 ((10 + (40 * (F_32 a_2 ((v_6 + 1).toNatClampNeg)))).toNatClampNeg)) (wI S F_32) (fun (r_61 : Int32) (F_61 : Nat → 
                                        Nat → Int32) => ((¬ r_61 = 0 → J_34 F_61) ∧ (r_61 = 0 → Q 0 F_61)))))))))) ∧ 
                                ((t_9 = 0 → J_31 F_29) ∧ (¬ t_9 = 0 → (P_X12_aLead th v_6 (wI S F_29) (fun (r_63 : Int32) (F_63 : Nat → 
                                     Nat → Int32) => ((¬ r_63 = 0 → J_31 F_63) ∧ (r_63 = 0 → Q 0 F_63)))))))))))) ∧ 
                          (¬ 4 ≤ x5_24 → (vp_in (v_6 + x5_24) (ln S a_2) ∧ (∀ F_66 : Nat → Nat → Int32, F_66 = upI F_25 a_2 ((v_6 + x5_24).toNatClampNeg) 0 → 
                             (∀ v_67 : Int32, v_67 = x5_24 + 1 → (∃ k : Nat, k < n_23 ∧ I_23 k v_67 F_66)))))))))))) ∧ 
                   ((¬ r_1 = 10 → J_17 1) ∧ (r_1 = 10 → J_17 0)))) ∧ ((¬ r_1 = 9 → J_15) ∧ (r_1 = 9 → ((¬ (gI S th 21) = 3 → 
                     J_15) ∧ ((gI S th 21) = 3 → (P_X12_fails th 7 S (fun (r_69 : Int32) (F_69 : Nat → Nat → Int32) => ((r_69 = 0 ∨ r_69 = 1) ∧ 
                        Q r_69 F_69))))))))) ∧ ((r_1 = 10 → J_13) ∧ (¬ r_1 = 10 → ((¬ (gI S th 22) = 30 → J_13) ∧ 
                  ((gI S th 22) = 30 → (P_X12_fails th 6 S (fun (r_71 : Int32) (F_71 : Nat → Nat → Int32) => ((r_71 = 0 ∨ r_71 = 1) ∧ 
                      Q r_71 F_71))))))))) ∧ ((¬ t_9 = 0 → J_11) ∧ (t_9 = 0 → ((r_1 = 9 → J_11) ∧ (¬ r_1 = 9 → 
                 ((r_1 = 11 → J_11) ∧ (¬ r_1 = 11 → (∃ J_75 : Prop, (J_75 → (P_X12_fails th 2 S (fun (r_76 : Int32) (F_76 : Nat → 
                        Nat → Int32) => ((r_76 = 0 ∨ r_76 = 1) ∧ Q r_76 F_76)))) ∧ ((¬ r_1 = 10 → J_75) ∧ (r_1 = 10 → 
                      ((¬ (gI S th 21) = 0 → J_11) ∧ ((gI S th 21) = 0 → J_75))))))))))))) ∧ ((r_1 = 7 → J_8 1) ∧ 
            (¬ r_1 = 7 → ((r_1 = 5 → J_8 1) ∧ (¬ r_1 = 5 → ((r_1 = 6 → J_8 1) ∧ (¬ r_1 = 6 → ((¬ r_1 = 8 → J_8 0) ∧ 
                  (r_1 = 8 → J_8 1)))))))))))))))))
set_option maxRecDepth 100000 in
def P_X12_touch (th : Nat) (p0 : Int32) (S : St) (Q : Int32 → (Nat → Nat → Int32) → Prop) : Prop :=
  (kd S th = 12 ∧ (P_X12_begins th p0 300 S (fun (r_1 : Int32) (F_1 : Nat → Nat → Int32) => ((¬ r_1 = 0 → (∃ a_3 : Nat, gR S th 0 = some a_3 ∧ 
        (kd S a_3 = 21 ∧ (vp_in 9684 (ln S a_3) ∧ (∀ F_6 : Nat → Nat → Int32, F_6 = upI F_1 a_3 9684 0 → (∀ F_7 : Nat → 
            Nat → Int32, F_7 = upI F_6 th 21 0 → (∀ F_8 : Nat → Nat → Int32, F_8 = upI F_7 th 22 0 → (∃ I_9 : Nat → 
              Int32 → (Nat → Nat → Int32) → Prop, (∃ k : Nat, I_9 k 1 F_8) ∧ ∀ (n_9 : Nat) (x2_10 : Int32) (F_11 : Nat → 
               Nat → Int32), I_9 n_9 x2_10 F_11 → (∃ J_13 : Prop, (J_13 → (∃ J_15 : (Nat → Nat → Int32) → Prop, (∀ (F_16 : Nat → 
                   Nat → Int32), J_15 F_16 → (∃ J_18 : (Nat → Nat → Int32) → Prop, (∀ (F_19 : Nat → Nat → Int32), J_18 F_19 → 
                    (P_X12_taken th (F_19 th 22) (wI S F_19) (fun (r_20 : Int32) (F_20 : Nat → Nat → Int32) => Q r_20 F_20))) ∧ 
                   ((¬ (F_16 th 18) = 0 → J_18 F_16) ∧ ((F_16 th 18) = 0 → (vp_in 4 (ln S a_3) ∧ (∀ v_22 : Int32, v_22 = F_16 a_3 9684 → 
                       (∀ F_23 : Nat → Nat → Int32, F_23 = upI F_16 a_3 4 v_22 → (vp_in 5 (ln S a_3) ∧ (∀ v_25 : Int32, v_25 = F_23 th 22 → 
                          (∀ F_26 : Nat → Nat → Int32, F_26 = upI F_23 a_3 5 v_25 → (vp_in 6 (ln S a_3) ∧ (∀ F_28 : Nat → 
                             Nat → Int32, F_28 = upI F_26 a_3 6 (-1) → (∃ I_29 : Nat → Int32 → (Nat → Nat → Int32) → 
                              Prop, (∃ k : Nat, I_29 k 170 F_28) ∧ ∀ (n_29 : Nat) (x3_30 : Int32) (F_31 : Nat → 
                               Nat → Int32), I_29 n_29 x3_30 F_31 → ((410 ≤ x3_30 → J_18 F_31) ∧ (¬ 410 ≤ x3_30 → 
                                (vp_in (9680 + x3_30) (ln S a_3) ∧ (vp_in x3_30 (ln S a_3) ∧ (∀ v_35 : Int32, v_35 = F_31 a_3 ((9680 + x3_30).toNatClampNeg) → 
                                   (∀ F_36 : Nat → Nat → Int32, F_36 = upI F_31 a_3 x3_30.toNatClampNeg v_35 → 
                                    (∀ v_37 : Int32, v_37 = x3_30 + 1 → (∃ k : Nat, k < n_29 ∧ I_29 k v_37 F_36))))))))))))))))))))) ∧ 
                 ((¬ (F_11 th 18) = 0 → J_15 F_11) ∧ ((F_11 th 18) = 0 → (((F_11 th 21) ≤ 0 → J_15 F_11) ∧ (¬ (F_11 th 21) ≤ 0 → 
                     (P_X12_fails th 2 (wI S F_11) (fun (r_39 : Int32) (F_39 : Nat → Nat → Int32) => J_15 F_39)))))))) ∧ 
               ((x2_10 = 0 → J_13) ∧ (¬ x2_10 = 0 → (((F_11 th 12) = 0 → J_13) ∧ (¬ (F_11 th 12) = 0 → (P_X12_step th (wI S F_11) (fun (r_41 : Int32) (F_41 : Nat → 
                      Nat → Int32) => (∃ k : Nat, k < n_9 ∧ I_9 k r_41 F_41)))))))))))))))) ∧ (r_1 = 0 → (P_X12_refuse th 1 (wI S F_1) (fun (r_42 : Int32) (F_42 : Nat → 
          Nat → Int32) => Q r_42 F_42)))))))
set_option maxRecDepth 100000 in
def P_X12_rowsMany (th : Nat) (S : St) (Q : Int32 → Prop) : Prop :=
  (kd S th = 12 ∧ (∃ I_1 : Nat → Int32 → Int32 → Prop, (∃ k : Nat, I_1 k 1 2) ∧ ∀ (n_1 : Nat) (x1_2 : Int32) (x2_3 : Int32), I_1 n_1 x1_2 x2_3 → 
    (∃ a_4 : Nat, gR S th 0 = some a_4 ∧ (kd S a_4 = 21 ∧ (vp_in 0 (ln S a_4) ∧ (((gI S a_4 0) < x2_3 → Q x1_2) ∧ 
        (¬ (gI S a_4 0) < x2_3 → (∀ v_8 : Int32, v_8 = x1_2 * x2_3 → (∀ v_9 : Int32, v_9 = x2_3 + 1 → (∃ k : Nat, k < n_1 ∧ 
            I_1 k v_8 v_9))))))))))
set_option maxRecDepth 100000 in
def P_X12_laysRow (th : Nat) (p0 : Int32) (p1 : Nat) (S : St) (Q : (Nat → Nat → Int32) → Prop) : Prop :=
  (kd S th = 12 ∧ (∃ a_1 : Nat, gR S th 0 = some a_1 ∧ (kd S a_1 = 21 ∧ (vp_in 0 (ln S a_1) ∧ (∀ v_4 : Int32, v_4 = gI S a_1 0 → 
       (P_X12_rowsMany th S (fun (r_5 : Int32) => (∃ I_6 : Nat → Int32 → Int32 → Int32 → Int32 → (Nat → Nat → Int32) → 
          Prop, (∃ k : Nat, I_6 k r_5 p0 0 0 (gI S)) ∧ ∀ (n_6 : Nat) (x4_7 : Int32) (x5_8 : Int32) (x6_9 : Int32) (x7_10 : Int32) (F_11 : Nat → 
           Nat → Int32), I_6 n_6 x4_7 x5_8 x6_9 x7_10 F_11 → ((v_4 ≤ x7_10 → Q F_11) ∧ (¬ v_4 ≤ x7_10 → (¬ v_4 - x7_10 = 0 ∧ 
             (∀ v_14 : Int32, v_14 = x4_7 / (v_4 - x7_10) → (¬ v_14 = 0 ∧ (∀ v_16 : Int32, v_16 = x5_8 / v_14 → 
                (¬ v_14 = 0 ∧ (∀ v_18 : Int32, v_18 = irm x5_8 v_14 → (∃ I_19 : Nat → Int32 → Int32 → Prop, (∃ k : Nat, I_19 k v_16 0) ∧ 
                   ∀ (n_19 : Nat) (x8_20 : Int32) (x9_21 : Int32), I_19 n_19 x8_20 x9_21 → (∃ J_23 : Prop, (J_23 → 
                     ((¬ ((shr x6_9 x9_21) &&& 1) = 0 → (∀ v_25 : Int32, v_25 = x9_21 + 1 → (∃ k : Nat, k < n_19 ∧ 
                         I_19 k x8_20 v_25))) ∧ (((shr x6_9 x9_21) &&& 1) = 0 → (∀ v_26 : Int32, v_26 = x8_20 + (-1) → 
                        (∀ v_27 : Int32, v_27 = x9_21 + 1 → (∃ k : Nat, k < n_19 ∧ I_19 k v_26 v_27)))))) ∧ ((((shr x6_9 x9_21) &&& 1) = 1 → 
                      J_23) ∧ (¬ ((shr x6_9 x9_21) &&& 1) = 1 → ((x8_20 ≤ 0 → (kd S p1 = 21 ∧ (vp_in x7_10 (ln S p1) ∧ 
                          (∀ F_31 : Nat → Nat → Int32, F_31 = upI F_11 p1 x7_10.toNatClampNeg x9_21 → (∀ v_32 : Int32, v_32 = x6_9 ||| (shl 1 x9_21) → 
                            (∀ v_33 : Int32, v_33 = x7_10 + 1 → (∃ k : Nat, k < n_6 ∧ I_6 k v_14 v_18 v_32 v_33 F_31))))))) ∧ 
                       (¬ x8_20 ≤ 0 → J_23))))))))))))))))))))))
set_option maxRecDepth 100000 in
def P_X12_numberOf (th : Nat) (p0 : Nat) (S : St) (Q : Int32 → Prop) : Prop :=
  (kd S th = 12 ∧ (∃ a_1 : Nat, gR S th 0 = some a_1 ∧ (kd S a_1 = 21 ∧ (vp_in 0 (ln S a_1) ∧ (∀ v_4 : Int32, v_4 = gI S a_1 0 → 
       (∃ I_5 : Nat → Int32 → Int32 → Prop, (∃ k : Nat, I_5 k 0 0) ∧ ∀ (n_5 : Nat) (x3_6 : Int32) (x4_7 : Int32), I_5 n_5 x3_6 x4_7 → 
        ((v_4 ≤ x4_7 → Q x3_6) ∧ (¬ v_4 ≤ x4_7 → (∀ v_9 : Int32, v_9 = x4_7 + 1 → (∃ I_10 : Nat → Int32 → Int32 → 
            Prop, (∃ k : Nat, I_10 k 0 v_9) ∧ ∀ (n_10 : Nat) (x5_11 : Int32) (x6_12 : Int32), I_10 n_10 x5_11 x6_12 → 
            ((v_4 ≤ x6_12 → (∀ v_14 : Int32, v_14 = (x3_6 * (v_4 - x4_7)) + x5_11 → (∀ v_15 : Int32, v_15 = x4_7 + 1 → 
                (∃ k : Nat, k < n_5 ∧ I_5 k v_14 v_15)))) ∧ (¬ v_4 ≤ x6_12 → (kd S p0 = 21 ∧ (vp_in x6_12 (ln S p0) ∧ 
                (vp_in x4_7 (ln S p0) ∧ (((gI S p0 x4_7.toNatClampNeg) ≤ (gI S p0 x6_12.toNatClampNeg) → (∀ v_20 : Int32, v_20 = x5_11 + 0 → 
                    (∀ v_21 : Int32, v_21 = x6_12 + 1 → (∃ k : Nat, k < n_10 ∧ I_10 k v_20 v_21)))) ∧ (¬ (gI S p0 x4_7.toNatClampNeg) ≤ (gI S p0 x6_12.toNatClampNeg) → 
                   (∀ v_22 : Int32, v_22 = x5_11 + 1 → (∀ v_23 : Int32, v_23 = x6_12 + 1 → (∃ k : Nat, k < n_10 ∧ 
                      I_10 k v_22 v_23))))))))))))))))))))
set_option maxRecDepth 100000 in
def P_X12_productOf (th : Nat) (p0 : Int32) (p1 : Int32) (S : St) (Q : Int32 → (Nat → Nat → Int32) → Prop) : Prop :=
  (kd S th = 12 ∧ (∃ a_1 : Nat, gR S th 23 = some a_1 ∧ (P_X12_laysRow th p0 a_1 S (fun (F_2 : Nat → Nat → Int32) => (∃ a_3 : Nat, gR S th 24 = some a_3 ∧ 
       (P_X12_laysRow th p1 a_3 (wI S F_2) (fun (F_4 : Nat → Nat → Int32) => (∃ I_5 : Nat → Int32 → (Nat → Nat → 
           Int32) → Prop, (∃ k : Nat, I_5 k 0 F_4) ∧ ∀ (n_5 : Nat) (x3_6 : Int32) (F_7 : Nat → Nat → Int32), I_5 n_5 x3_6 F_7 → 
          (∃ a_8 : Nat, gR S th 0 = some a_8 ∧ (kd S a_8 = 21 ∧ (vp_in 0 (ln S a_8) ∧ (((F_7 a_8 0) ≤ x3_6 → (∃ a_12 : Nat, gR S th 25 = some a_12 ∧ 
                (P_X12_numberOf th a_12 (wI S F_7) (fun (r_13 : Int32) => Q r_13 F_7)))) ∧ (¬ (F_7 a_8 0) ≤ x3_6 → 
               (∃ a_14 : Nat, gR S th 25 = some a_14 ∧ (kd S a_3 = 21 ∧ (vp_in x3_6 (ln S a_3) ∧ (kd S a_1 = 21 ∧ 
                   (vp_in (F_7 a_3 x3_6.toNatClampNeg) (ln S a_1) ∧ (kd S a_14 = 21 ∧ (vp_in x3_6 (ln S a_14) ∧ 
                      (∀ v_21 : Int32, v_21 = F_7 a_1 ((F_7 a_3 x3_6.toNatClampNeg).toNatClampNeg) → (∀ F_22 : Nat → 
                        Nat → Int32, F_22 = upI F_7 a_14 x3_6.toNatClampNeg v_21 → (∀ v_23 : Int32, v_23 = x3_6 + 1 → 
                         (∃ k : Nat, k < n_5 ∧ I_5 k v_23 F_22))))))))))))))))))))))))
set_option maxRecDepth 100000 in
def P_X12_inverseOf (th : Nat) (p0 : Int32) (S : St) (Q : Int32 → (Nat → Nat → Int32) → Prop) : Prop :=
  (kd S th = 12 ∧ (∃ a_1 : Nat, gR S th 23 = some a_1 ∧ (P_X12_laysRow th p0 a_1 S (fun (F_2 : Nat → Nat → Int32) => (∃ I_3 : Nat → 
       Int32 → (Nat → Nat → Int32) → Prop, (∃ k : Nat, I_3 k 0 F_2) ∧ ∀ (n_3 : Nat) (x2_4 : Int32) (F_5 : Nat → 
        Nat → Int32), I_3 n_3 x2_4 F_5 → (∃ a_6 : Nat, gR S th 0 = some a_6 ∧ (kd S a_6 = 21 ∧ (vp_in 0 (ln S a_6) ∧ 
          (((F_5 a_6 0) ≤ x2_4 → (∃ a_10 : Nat, gR S th 25 = some a_10 ∧ (P_X12_numberOf th a_10 (wI S F_5) (fun (r_11 : Int32) => Q r_11 F_5)))) ∧ 
           (¬ (F_5 a_6 0) ≤ x2_4 → (∃ a_12 : Nat, gR S th 25 = some a_12 ∧ (kd S a_1 = 21 ∧ (vp_in x2_4 (ln S a_1) ∧ 
               (kd S a_12 = 21 ∧ (vp_in (F_5 a_1 x2_4.toNatClampNeg) (ln S a_12) ∧ (∀ F_17 : Nat → Nat → Int32, F_17 = upI F_5 a_12 ((F_5 a_1 x2_4.toNatClampNeg).toNatClampNeg) x2_4 → 
                  (∀ v_18 : Int32, v_18 = x2_4 + 1 → (∃ k : Nat, k < n_3 ∧ I_3 k v_18 F_17))))))))))))))))))
set_option maxRecDepth 100000 in
def P_X12_changes0 (th : Nat) (p0 : Int32) (p1 : Int32) (S : St) (Q : (Nat → Nat → Int32) → Prop) : Prop :=
  (kd S th = 12 ∧ (∃ I_1 : Nat → Int32 → Int32 → (Nat → Nat → Int32) → Prop, (∃ k : Nat, I_1 k p1 0 (gI S)) ∧ ∀ (n_1 : Nat) (x3_2 : Int32) (x4_3 : Int32) (F_4 : Nat → 
     Nat → Int32), I_1 n_1 x3_2 x4_3 F_4 → (∃ a_5 : Nat, gR S th 0 = some a_5 ∧ (kd S a_5 = 21 ∧ (vp_in 0 (ln S a_5) ∧ 
       (((F_4 a_5 0) ≤ x4_3 → Q F_4) ∧ (¬ (F_4 a_5 0) ≤ x4_3 → ((¬ ((shr p0 x4_3) &&& 1) = 1 → ((¬ x3_2 = 0 → (∀ v_11 : Int32, v_11 = x4_3 + 2 → 
              (∃ k : Nat, k < n_1 ∧ I_1 k 0 v_11 F_4))) ∧ (x3_2 = 0 → (∃ a_12 : Nat, gR S th 23 = some a_12 ∧ (kd S a_12 = 21 ∧ 
               (vp_in x4_3 (ln S a_12) ∧ (∀ v_15 : Int32, v_15 = F_4 a_12 x4_3.toNatClampNeg → (vp_in (x4_3 + 1) (ln S a_12) ∧ 
                  (∀ v_17 : Int32, v_17 = F_4 a_12 ((x4_3 + 1).toNatClampNeg) → (∀ F_18 : Nat → Nat → Int32, F_18 = upI F_4 a_12 x4_3.toNatClampNeg v_17 → 
                    (∀ F_19 : Nat → Nat → Int32, F_19 = upI F_18 a_12 ((x4_3 + 1).toNatClampNeg) v_15 → (∀ v_20 : Int32, v_20 = x4_3 + 2 → 
                      (∃ k : Nat, k < n_1 ∧ I_1 k 0 v_20 F_19))))))))))))) ∧ (((shr p0 x4_3) &&& 1) = 1 → (∀ v_21 : Int32, v_21 = x4_3 + 1 → 
            (∃ k : Nat, k < n_1 ∧ I_1 k x3_2 v_21 F_4)))))))))))
set_option maxRecDepth 100000 in
def P_X12_isRow (th : Nat) (p0 : Int32) (S : St) (Q : Int32 → Prop) : Prop :=
  (kd S th = 12 ∧ ((p0 < 0 → Q 0) ∧ (¬ p0 < 0 → (P_X12_rowsMany th S (fun (r_2 : Int32) => ((r_2 ≤ p0 → Q 0) ∧ (¬ r_2 ≤ p0 → 
         Q 1)))))))
set_option maxRecDepth 100000 in
def P_X12_isMethod (th : Nat) (p0 : Int32) (S : St) (Q : Int32 → Prop) : Prop :=
  (kd S th = 12 ∧ ((p0 < 0 → Q 0) ∧ (¬ p0 < 0 → (∃ a_2 : Nat, gR S th 0 = some a_2 ∧ (kd S a_2 = 21 ∧ (vp_in 1 (ln S a_2) ∧ 
        (((gI S a_2 1) ≤ p0 → Q 0) ∧ (¬ (gI S a_2 1) ≤ p0 → Q 1))))))))
set_option maxRecDepth 100000 in
def P_X12_isCall (p0 : Int32) (Q : Int32 → Prop) : Prop :=
  ((p0 < 0 → Q 0) ∧ (¬ p0 < 0 → ((2 < p0 → Q 0) ∧ (¬ 2 < p0 → Q 1))))
set_option maxRecDepth 100000 in
def P_X12_isBell (th : Nat) (p0 : Int32) (S : St) (Q : Int32 → Prop) : Prop :=
  (kd S th = 12 ∧ ((p0 < 1 → Q 0) ∧ (¬ p0 < 1 → (∃ a_2 : Nat, gR S th 0 = some a_2 ∧ (kd S a_2 = 21 ∧ (vp_in 0 (ln S a_2) ∧ 
        (((gI S a_2 0) < p0 → Q 0) ∧ (¬ (gI S a_2 0) < p0 → Q 1))))))))
set_option maxRecDepth 100000 in
def P_X12_told (th : Nat) (p0 : Int32) (S : St) (Q : Int32 → (Nat → Nat → Int32) → Prop) : Prop :=
  (kd S th = 12 ∧ ((p0 = 0 → (∃ a_2 : Nat, gR S th 0 = some a_2 ∧ (kd S a_2 = 21 ∧ (vp_in 0 (ln S a_2) ∧ (P_X12_gives th (gI S a_2 0) S (fun (r_5 : Int32) (F_5 : Nat → 
           Nat → Int32) => Q r_5 F_5)))))) ∧ (¬ p0 = 0 → ((p0 = 1 → (∃ a_6 : Nat, gR S th 0 = some a_6 ∧ (kd S a_6 = 21 ∧ 
         (vp_in 1 (ln S a_6) ∧ (P_X12_gives th (gI S a_6 1) S (fun (r_9 : Int32) (F_9 : Nat → Nat → Int32) => Q r_9 F_9)))))) ∧ 
      (¬ p0 = 1 → ((p0 = 2 → (P_X12_rowsMany th S (fun (r_10 : Int32) => (P_X12_gives th r_10 S (fun (r_11 : Int32) (F_11 : Nat → 
              Nat → Int32) => Q r_11 F_11))))) ∧ (¬ p0 = 2 → ((p0 = 3 → (∃ a_12 : Nat, gR S th 0 = some a_12 ∧ 
            (kd S a_12 = 21 ∧ (vp_in 0 (ln S a_12) ∧ (vp_in 3 (ln S a_12) ∧ (P_X12_gives th (((shl 1 (gI S a_12 0)) - 1) &&& ((gI S a_12 3) ^^^ (-1))) S (fun (r_16 : Int32) (F_16 : Nat → 
                  Nat → Int32) => Q r_16 F_16))))))) ∧ (¬ p0 = 3 → ((p0 = 4 → (∃ a_17 : Nat, gR S th 0 = some a_17 ∧ 
              (kd S a_17 = 21 ∧ (vp_in 4 (ln S a_17) ∧ ((¬ (gI S a_17 4) = (-1) → (vp_in 5 (ln S a_17) ∧ (P_X12_gives th (gI S a_17 5) S (fun (r_22 : Int32) (F_22 : Nat → 
                      Nat → Int32) => Q r_22 F_22)))) ∧ ((gI S a_17 4) = (-1) → (P_X12_refuse th 6 S (fun (r_23 : Int32) (F_23 : Nat → 
                     Nat → Int32) => Q r_23 F_23)))))))) ∧ (¬ p0 = 4 → ((p0 = 5 → (∃ a_24 : Nat, gR S th 0 = some a_24 ∧ 
                (kd S a_24 = 21 ∧ (vp_in 6 (ln S a_24) ∧ (P_X12_orNone th (gI S a_24 6) S (fun (r_27 : Int32) (F_27 : Nat → 
                     Nat → Int32) => Q r_27 F_27)))))) ∧ (¬ p0 = 5 → (P_X12_refuse th 1 S (fun (r_28 : Int32) (F_28 : Nat → 
                  Nat → Int32) => Q r_28 F_28)))))))))))))))
set_option maxRecDepth 100000 in
def P_X12_bell (th : Nat) (p0 : Int32) (p1 : Int32) (S : St) (Q : Int32 → (Nat → Nat → Int32) → Prop) : Prop :=
  (kd S th = 12 ∧ (P_X12_isRow th p0 S (fun (r_1 : Int32) => (∃ J_3 : Prop, (J_3 → (P_X12_refuse th 1 S (fun (r_4 : Int32) (F_4 : Nat → 
          Nat → Int32) => Q r_4 F_4))) ∧ ((r_1 = 0 → J_3) ∧ (¬ r_1 = 0 → (P_X12_isBell th p1 S (fun (r_5 : Int32) => ((¬ r_5 = 0 → 
            (∃ a_7 : Nat, gR S th 24 = some a_7 ∧ (P_X12_laysRow th p0 a_7 S (fun (F_8 : Nat → Nat → Int32) => (kd S a_7 = 21 ∧ 
                (vp_in (p1 - 1) (ln S a_7) ∧ (P_X12_gives th ((F_8 a_7 ((p1 - 1).toNatClampNeg)) + 1) (wI S F_8) (fun (r_11 : Int32) (F_11 : Nat → 
                    Nat → Int32) => Q r_11 F_11)))))))) ∧ (r_5 = 0 → J_3))))))))))
set_option maxRecDepth 100000 in
def P_X12_number (th : Nat) (p0 : Int32) (S : St) (Q : Int32 → (Nat → Nat → Int32) → Prop) : Prop :=
  (kd S th = 12 ∧ (P_X12_isTray p0 (fun (r_1 : Int32) => ((¬ r_1 = 0 → (∃ a_3 : Nat, gR S th 6 = some a_3 ∧ (kd S a_3 = 21 ∧ 
         (vp_in p0 (ln S a_3) ∧ ((¬ (gI S a_3 p0.toNatClampNeg) = (-1) → (∃ a_7 : Nat, gR S th 0 = some a_7 ∧ (kd S a_7 = 21 ∧ 
              (vp_in 0 (ln S a_7) ∧ (((gI S a_7 0) ≤ (gI S a_3 p0.toNatClampNeg) → (∃ I_11 : Nat → Int32 → Int32 → 
                  (Nat → Nat → Int32) → Prop, (∃ k : Nat, I_11 k 0 0 (gI S)) ∧ ∀ (n_11 : Nat) (x2_12 : Int32) (x3_13 : Int32) (F_14 : Nat → 
                   Nat → Int32), I_11 n_11 x2_12 x3_13 F_14 → (((F_14 a_7 0) ≤ x3_13 → (∃ a_16 : Nat, gR S th 25 = some a_16 ∧ 
                     (P_X12_numberOf th a_16 (wI S F_14) (fun (r_17 : Int32) => (P_X12_gives th r_17 (wI S F_14) (fun (r_18 : Int32) (F_18 : Nat → 
                          Nat → Int32) => Q r_18 F_18)))))) ∧ (¬ (F_14 a_7 0) ≤ x3_13 → (∃ a_19 : Nat, gR S th 7 = some a_19 ∧ 
                     (kd S a_19 = 22 ∧ (vp_in ((60 * p0) + x3_13) (ln S a_19) ∧ (∀ v_22 : Int64, v_22 = gJ S a_19 (((60 * p0) + x3_13).toNatClampNeg) → 
                        (P_X12_isFrom v_22 1 ((F_14 a_7 0).toInt64) (fun (r_23 : Int32) => (∃ J_25 : Prop, (J_25 → 
                            (P_X12_refuse th 5 (wI S F_14) (fun (r_26 : Int32) (F_26 : Nat → Nat → Int32) => Q r_26 F_26))) ∧ 
                           ((r_23 = 0 → J_25) ∧ (¬ r_23 = 0 → ((¬ ((shr x2_12 v_22.toInt32) &&& 1) = 1 → (∀ v_28 : Int32, v_28 = x2_12 ||| (shl 1 v_22.toInt32) → 
                                (∃ a_29 : Nat, gR S th 25 = some a_29 ∧ (kd S a_29 = 21 ∧ (vp_in x3_13 (ln S a_29) ∧ 
                                   (∀ v_32 : Int32, v_32 = v_22.toInt32 - 1 → (∀ F_33 : Nat → Nat → Int32, F_33 = upI F_14 a_29 x3_13.toNatClampNeg v_32 → 
                                     (∀ v_34 : Int32, v_34 = x3_13 + 1 → (∃ k : Nat, k < n_11 ∧ I_11 k v_28 v_34 F_33))))))))) ∧ 
                              (((shr x2_12 v_22.toInt32) &&& 1) = 1 → J_25))))))))))))))) ∧ (¬ (gI S a_7 0) ≤ (gI S a_3 p0.toNatClampNeg) → 
                 (P_X12_refuse th 3 S (fun (r_35 : Int32) (F_35 : Nat → Nat → Int32) => Q r_35 F_35)))))))) ∧ ((gI S a_3 p0.toNatClampNeg) = (-1) → 
            (P_X12_refuse th 2 S (fun (r_36 : Int32) (F_36 : Nat → Nat → Int32) => Q r_36 F_36)))))))) ∧ (r_1 = 0 → 
       (P_X12_refuse th 1 S (fun (r_37 : Int32) (F_37 : Nat → Nat → Int32) => Q r_37 F_37)))))))
set_option maxRecDepth 100000 in
def P_X12_product (th : Nat) (p0 : Int32) (p1 : Int32) (S : St) (Q : Int32 → (Nat → Nat → Int32) → Prop) : Prop :=
  (kd S th = 12 ∧ (P_X12_isRow th p0 S (fun (r_1 : Int32) => (∃ J_3 : Prop, (J_3 → (P_X12_refuse th 1 S (fun (r_4 : Int32) (F_4 : Nat → 
          Nat → Int32) => Q r_4 F_4))) ∧ ((r_1 = 0 → J_3) ∧ (¬ r_1 = 0 → (P_X12_isRow th p1 S (fun (r_5 : Int32) => ((r_5 = 0 → 
            J_3) ∧ (¬ r_5 = 0 → (P_X12_productOf th p0 p1 S (fun (r_7 : Int32) (F_7 : Nat → Nat → Int32) => (P_X12_gives th r_7 (wI S F_7) (fun (r_8 : Int32) (F_8 : Nat → 
                 Nat → Int32) => Q r_8 F_8))))))))))))))
set_option maxRecDepth 100000 in
def P_X12_inverse (th : Nat) (p0 : Int32) (S : St) (Q : Int32 → (Nat → Nat → Int32) → Prop) : Prop :=
  (kd S th = 12 ∧ (P_X12_isRow th p0 S (fun (r_1 : Int32) => ((r_1 = 0 → (P_X12_refuse th 1 S (fun (r_3 : Int32) (F_3 : Nat → 
          Nat → Int32) => Q r_3 F_3))) ∧ (¬ r_1 = 0 → (P_X12_inverseOf th p0 S (fun (r_4 : Int32) (F_4 : Nat → 
          Nat → Int32) => (P_X12_gives th r_4 (wI S F_4) (fun (r_5 : Int32) (F_5 : Nat → Nat → Int32) => Q r_5 F_5)))))))))
set_option maxRecDepth 100000 in
def P_X12_orderOf (th : Nat) (p0 : Int32) (S : St) (Q : Int32 → (Nat → Nat → Int32) → Prop) : Prop :=
  (kd S th = 12 ∧ (∃ I_1 : Nat → Int32 → Int32 → (Nat → Nat → Int32) → Prop, (∃ k : Nat, I_1 k 1 p0 (gI S)) ∧ ∀ (n_1 : Nat) (x2_2 : Int32) (x3_3 : Int32) (F_4 : Nat → 
     Nat → Int32), I_1 n_1 x2_2 x3_3 F_4 → ((x3_3 = 0 → Q x2_2 F_4) ∧ (¬ x3_3 = 0 → (P_X12_productOf th x3_3 p0 (wI S F_4) (fun (r_6 : Int32) (F_6 : Nat → 
         Nat → Int32) => (∀ v_7 : Int32, v_7 = x2_2 + 1 → (∃ k : Nat, k < n_1 ∧ I_1 k v_7 r_6 F_6))))))))
set_option maxRecDepth 100000 in
def P_X12_order (th : Nat) (p0 : Int32) (S : St) (Q : Int32 → (Nat → Nat → Int32) → Prop) : Prop :=
  (kd S th = 12 ∧ (P_X12_isRow th p0 S (fun (r_1 : Int32) => ((r_1 = 0 → (P_X12_refuse th 1 S (fun (r_3 : Int32) (F_3 : Nat → 
          Nat → Int32) => Q r_3 F_3))) ∧ (¬ r_1 = 0 → (P_X12_orderOf th p0 S (fun (r_4 : Int32) (F_4 : Nat → Nat → 
          Int32) => (P_X12_gives th r_4 (wI S F_4) (fun (r_5 : Int32) (F_5 : Nat → Nat → Int32) => Q r_5 F_5)))))))))
set_option maxRecDepth 100000 in
def P_X12_isEven (th : Nat) (p0 : Int32) (S : St) (Q : Int32 → (Nat → Nat → Int32) → Prop) : Prop :=
  (kd S th = 12 ∧ (∃ a_1 : Nat, gR S th 24 = some a_1 ∧ (P_X12_laysRow th p0 a_1 S (fun (F_2 : Nat → Nat → Int32) => (∃ I_3 : Nat → 
       Int32 → Int32 → Prop, (∃ k : Nat, I_3 k 0 0) ∧ ∀ (n_3 : Nat) (x2_4 : Int32) (x3_5 : Int32), I_3 n_3 x2_4 x3_5 → 
       (∃ a_6 : Nat, gR S th 0 = some a_6 ∧ (kd S a_6 = 21 ∧ (vp_in 0 (ln S a_6) ∧ (((F_2 a_6 0) ≤ x3_5 → ((¬ (irm x2_4 2) = 0 → 
              Q 0 F_2) ∧ ((irm x2_4 2) = 0 → Q 1 F_2))) ∧ (¬ (F_2 a_6 0) ≤ x3_5 → (∀ v_11 : Int32, v_11 = x3_5 + 1 → 
             (∃ I_12 : Nat → Int32 → Int32 → Prop, (∃ k : Nat, I_12 k x2_4 v_11) ∧ ∀ (n_12 : Nat) (x2_13 : Int32) (x4_14 : Int32), I_12 n_12 x2_13 x4_14 → 
              (((F_2 a_6 0) ≤ x4_14 → (∀ v_16 : Int32, v_16 = x3_5 + 1 → (∃ k : Nat, k < n_3 ∧ I_3 k x2_13 v_16))) ∧ 
               (¬ (F_2 a_6 0) ≤ x4_14 → (kd S a_1 = 21 ∧ (vp_in x4_14 (ln S a_1) ∧ (vp_in x3_5 (ln S a_1) ∧ (((F_2 a_1 x3_5.toNatClampNeg) ≤ (F_2 a_1 x4_14.toNatClampNeg) → 
                     (∀ v_21 : Int32, v_21 = x2_13 + 0 → (∀ v_22 : Int32, v_22 = x4_14 + 1 → (∃ k : Nat, k < n_12 ∧ 
                        I_12 k v_21 v_22)))) ∧ (¬ (F_2 a_1 x3_5.toNatClampNeg) ≤ (F_2 a_1 x4_14.toNatClampNeg) → 
                     (∀ v_23 : Int32, v_23 = x2_13 + 1 → (∀ v_24 : Int32, v_24 = x4_14 + 1 → (∃ k : Nat, k < n_12 ∧ 
                        I_12 k v_23 v_24))))))))))))))))))))))
set_option maxRecDepth 100000 in
def P_X12_even (th : Nat) (p0 : Int32) (S : St) (Q : Int32 → (Nat → Nat → Int32) → Prop) : Prop :=
  (kd S th = 12 ∧ (P_X12_isRow th p0 S (fun (r_1 : Int32) => ((r_1 = 0 → (P_X12_refuse th 1 S (fun (r_3 : Int32) (F_3 : Nat → 
          Nat → Int32) => Q r_3 F_3))) ∧ (¬ r_1 = 0 → (P_X12_isEven th p0 S (fun (r_4 : Int32) (F_4 : Nat → Nat → 
          Int32) => (∃ J_6 : Int32 → Prop, (∀ (t_7 : Int32), J_6 t_7 → (P_X12_gives th t_7 (wI S F_4) (fun (r_8 : Int32) (F_8 : Nat → 
              Nat → Int32) => Q r_8 F_8))) ∧ ((r_4 = 0 → J_6 0) ∧ (¬ r_4 = 0 → J_6 1))))))))))
set_option maxRecDepth 100000 in
def P_X12_placesOf (th : Nat) (p0 : Int32) (S : St) (Q : Int32 → Prop) : Prop :=
  (kd S th = 12 ∧ (∃ I_1 : Nat → Int32 → Int32 → Int32 → Prop, (∃ k : Nat, I_1 k 0 9 p0) ∧ ∀ (n_1 : Nat) (x2_2 : Int32) (x3_3 : Int32) (x4_4 : Int32), I_1 n_1 x2_2 x3_3 x4_4 → 
    ((x4_4 ≤ 0 → (∃ a_6 : Nat, gR S th 0 = some a_6 ∧ (kd S a_6 = 21 ∧ (vp_in 0 (ln S a_6) ∧ (P_X12_canChange x2_2 (gI S a_6 0) (fun (r_9 : Int32) => ((r_9 = 0 → 
             Q (-1)) ∧ (¬ r_9 = 0 → Q x2_2)))))))) ∧ (¬ x4_4 ≤ 0 → (∀ v_11 : Int32, v_11 = irm x4_4 10 → ((v_11 = 0 → 
         Q (-1)) ∧ (¬ v_11 = 0 → ((x3_3 ≤ v_11 → Q (-1)) ∧ (¬ x3_3 ≤ v_11 → (∃ a_14 : Nat, gR S th 0 = some a_14 ∧ 
            (kd S a_14 = 21 ∧ (vp_in 0 (ln S a_14) ∧ ((v_11 ≤ (gI S a_14 0) → (∀ v_18 : Int32, v_18 = x2_2 ||| (shl 1 (v_11 - 1)) → 
                 (∀ v_19 : Int32, v_19 = x4_4 / 10 → (∃ k : Nat, k < n_1 ∧ I_1 k v_18 v_11 v_19)))) ∧ (¬ v_11 ≤ (gI S a_14 0) → 
                Q (-1)))))))))))))))
set_option maxRecDepth 100000 in
def P_X12_done (th : Nat) (p0 : Int32) (p1 : Int32) (S : St) (Q : Int32 → (Nat → Nat → Int32) → Prop) : Prop :=
  (kd S th = 12 ∧ (P_X12_isRow th p0 S (fun (r_1 : Int32) => ((¬ r_1 = 0 → (∃ J_4 : Int32 → Prop, (∀ (t_5 : Int32), J_4 t_5 → 
         ((¬ t_5 = (-1) → (∃ a_7 : Nat, gR S th 23 = some a_7 ∧ (P_X12_laysRow th p0 a_7 S (fun (F_8 : Nat → Nat → 
               Int32) => (P_X12_changes0 th t_5 0 (wI S F_8) (fun (F_9 : Nat → Nat → Int32) => (P_X12_numberOf th a_7 (wI S F_9) (fun (r_10 : Int32) => (P_X12_gives th r_10 (wI S F_9) (fun (r_11 : Int32) (F_11 : Nat → 
                     Nat → Int32) => Q r_11 F_11)))))))))) ∧ (t_5 = (-1) → (P_X12_refuse th 7 S (fun (r_12 : Int32) (F_12 : Nat → 
              Nat → Int32) => Q r_12 F_12))))) ∧ ((0 ≤ p1 → (P_X12_placesOf th p1 S (fun (r_13 : Int32) => J_4 r_13))) ∧ 
         (¬ 0 ≤ p1 → J_4 (-1))))) ∧ (r_1 = 0 → (P_X12_refuse th 1 S (fun (r_14 : Int32) (F_14 : Nat → Nat → Int32) => Q r_14 F_14)))))))
set_option maxRecDepth 100000 in
def P_X12_power (th : Nat) (p0 : Int32) (p1 : Int32) (S : St) (Q : Int32 → (Nat → Nat → Int32) → Prop) : Prop :=
  (kd S th = 12 ∧ (P_X12_isRow th p0 S (fun (r_1 : Int32) => (∃ J_3 : Prop, (J_3 → (P_X12_refuse th 1 S (fun (r_4 : Int32) (F_4 : Nat → 
          Nat → Int32) => Q r_4 F_4))) ∧ ((r_1 = 0 → J_3) ∧ (¬ r_1 = 0 → (P_X12_isFrom p1.toInt64 0 99 (fun (r_5 : Int32) => ((¬ r_5 = 0 → 
            (∃ I_7 : Nat → Int32 → Int32 → (Nat → Nat → Int32) → Prop, (∃ k : Nat, I_7 k 0 0 (gI S)) ∧ ∀ (n_7 : Nat) (x3_8 : Int32) (x4_9 : Int32) (F_10 : Nat → 
              Nat → Int32), I_7 n_7 x3_8 x4_9 F_10 → ((p1 ≤ x4_9 → (P_X12_gives th x3_8 (wI S F_10) (fun (r_12 : Int32) (F_12 : Nat → 
                  Nat → Int32) => Q r_12 F_12))) ∧ (¬ p1 ≤ x4_9 → (P_X12_productOf th x3_8 p0 (wI S F_10) (fun (r_13 : Int32) (F_13 : Nat → 
                  Nat → Int32) => (∀ v_14 : Int32, v_14 = x4_9 + 1 → (∃ k : Nat, k < n_7 ∧ I_7 k r_13 v_14 F_13)))))))) ∧ 
           (r_5 = 0 → J_3))))))))))
set_option maxRecDepth 100000 in
def P_X12_cycles (th : Nat) (p0 : Int32) (p1 : Int32) (S : St) (Q : Int32 → (Nat → Nat → Int32) → Prop) : Prop :=
  (kd S th = 12 ∧ (P_X12_isRow th p0 S (fun (r_1 : Int32) => (∃ J_3 : Prop, (J_3 → (P_X12_refuse th 1 S (fun (r_4 : Int32) (F_4 : Nat → 
          Nat → Int32) => Q r_4 F_4))) ∧ ((r_1 = 0 → J_3) ∧ (¬ r_1 = 0 → (P_X12_isBell th p1 S (fun (r_5 : Int32) => ((¬ r_5 = 0 → 
            (∃ a_7 : Nat, gR S th 24 = some a_7 ∧ (P_X12_laysRow th p0 a_7 S (fun (F_8 : Nat → Nat → Int32) => (∃ I_9 : Nat → 
                Int32 → Int32 → Int32 → Prop, (∃ k : Nat, I_9 k 0 0 0) ∧ ∀ (n_9 : Nat) (x3_10 : Int32) (x4_11 : Int32) (x5_12 : Int32), I_9 n_9 x3_10 x4_11 x5_12 → 
                (∃ a_13 : Nat, gR S th 0 = some a_13 ∧ (kd S a_13 = 21 ∧ (vp_in 0 (ln S a_13) ∧ (((F_8 a_13 0) ≤ x5_12 → 
                     (P_X12_gives th x3_10 (wI S F_8) (fun (r_17 : Int32) (F_17 : Nat → Nat → Int32) => Q r_17 F_17))) ∧ 
                    (¬ (F_8 a_13 0) ≤ x5_12 → (∃ I_18 : Nat → Int32 → Int32 → Int32 → Prop, (∃ k : Nat, I_18 k x4_11 0 x5_12) ∧ 
                      ∀ (n_18 : Nat) (x4_19 : Int32) (x6_20 : Int32) (x7_21 : Int32), I_18 n_18 x4_19 x6_20 x7_21 → 
                      ((¬ ((shr x4_19 x7_21) &&& 1) = 0 → ((¬ x6_20 = p1 → (∀ v_24 : Int32, v_24 = x3_10 + 0 → 
                           (∀ v_25 : Int32, v_25 = x5_12 + 1 → (∃ k : Nat, k < n_9 ∧ I_9 k v_24 x4_19 v_25)))) ∧ 
                         (x6_20 = p1 → (∀ v_26 : Int32, v_26 = x3_10 + 1 → (∀ v_27 : Int32, v_27 = x5_12 + 1 → 
                            (∃ k : Nat, k < n_9 ∧ I_9 k v_26 x4_19 v_27)))))) ∧ (((shr x4_19 x7_21) &&& 1) = 0 → 
                        (∀ v_28 : Int32, v_28 = x4_19 ||| (shl 1 x7_21) → (kd S a_7 = 21 ∧ (vp_in x7_21 (ln S a_7) ∧ 
                           (∀ v_31 : Int32, v_31 = F_8 a_7 x7_21.toNatClampNeg → (∀ v_32 : Int32, v_32 = x6_20 + 1 → 
                             (∃ k : Nat, k < n_18 ∧ I_18 k v_28 v_32 v_31))))))))))))))))))) ∧ (r_5 = 0 → J_3))))))))))
set_option maxRecDepth 100000 in
def P_X12_distance (th : Nat) (p0 : Int32) (p1 : Int32) (S : St) (Q : Int32 → (Nat → Nat → Int32) → Prop) : Prop :=
  (kd S th = 12 ∧ (P_X12_isRow th p0 S (fun (r_1 : Int32) => (∃ J_3 : Prop, (J_3 → (P_X12_refuse th 1 S (fun (r_4 : Int32) (F_4 : Nat → 
          Nat → Int32) => Q r_4 F_4))) ∧ ((r_1 = 0 → J_3) ∧ (¬ r_1 = 0 → (P_X12_isRow th p1 S (fun (r_5 : Int32) => ((¬ r_5 = 0 → 
            (P_X12_inverseOf th p1 S (fun (r_7 : Int32) (F_7 : Nat → Nat → Int32) => (∃ a_8 : Nat, gR S th 25 = some a_8 ∧ 
               (P_X12_laysRow th r_7 a_8 (wI S F_7) (fun (F_9 : Nat → Nat → Int32) => (∃ a_10 : Nat, gR S th 23 = some a_10 ∧ 
                  (P_X12_laysRow th p0 a_10 (wI S F_9) (fun (F_11 : Nat → Nat → Int32) => (∃ I_12 : Nat → Int32 → 
                     Int32 → Prop, (∃ k : Nat, I_12 k 0 0) ∧ ∀ (n_12 : Nat) (x3_13 : Int32) (x4_14 : Int32), I_12 n_12 x3_13 x4_14 → 
                     (∃ a_15 : Nat, gR S th 0 = some a_15 ∧ (kd S a_15 = 21 ∧ (vp_in 0 (ln S a_15) ∧ (((F_11 a_15 0) ≤ x4_14 → 
                          (P_X12_gives th x3_13 (wI S F_11) (fun (r_19 : Int32) (F_19 : Nat → Nat → Int32) => Q r_19 F_19))) ∧ 
                         (¬ (F_11 a_15 0) ≤ x4_14 → (∀ v_20 : Int32, v_20 = x4_14 + 1 → (∃ I_21 : Nat → Int32 → 
                            Int32 → Prop, (∃ k : Nat, I_21 k x3_13 v_20) ∧ ∀ (n_21 : Nat) (x3_22 : Int32) (x5_23 : Int32), I_21 n_21 x3_22 x5_23 → 
                            (((F_11 a_15 0) ≤ x5_23 → (∀ v_25 : Int32, v_25 = x4_14 + 1 → (∃ k : Nat, k < n_12 ∧ 
                                I_12 k x3_22 v_25))) ∧ (¬ (F_11 a_15 0) ≤ x5_23 → (kd S a_10 = 21 ∧ (vp_in x4_14 (ln S a_10) ∧ 
                                (kd S a_8 = 21 ∧ (vp_in (F_11 a_10 x4_14.toNatClampNeg) (ln S a_8) ∧ (vp_in x5_23 (ln S a_10) ∧ 
                                   (vp_in (F_11 a_10 x5_23.toNatClampNeg) (ln S a_8) ∧ (((F_11 a_8 ((F_11 a_10 x4_14.toNatClampNeg).toNatClampNeg)) ≤ (F_11 a_8 ((F_11 a_10 x5_23.toNatClampNeg).toNatClampNeg)) → 
                                      (∀ v_33 : Int32, v_33 = x3_22 + 0 → (∀ v_34 : Int32, v_34 = x5_23 + 1 → (∃ k : Nat, k < n_21 ∧ 
                                        I_21 k v_33 v_34)))) ∧ (¬ (F_11 a_8 ((F_11 a_10 x4_14.toNatClampNeg).toNatClampNeg)) ≤ (F_11 a_8 ((F_11 a_10 x5_23.toNatClampNeg).toNatClampNeg)) → 
                                      (∀ v_35 : Int32, v_35 = x3_22 + 1 → (∀ v_36 : Int32, v_36 = x5_23 + 1 → (∃ k : Nat, k < n_21 ∧ 
                                        I_21 k v_35 v_36)))))))))))))))))))))))))))))) ∧ (r_5 = 0 → J_3))))))))))
set_option maxRecDepth 100000 in
def P_X12_numberOfPlaces (th : Nat) (p0 : Int32) (S : St) (Q : Int32 → Prop) : Prop :=
  (kd S th = 12 ∧ (∃ I_1 : Nat → Int32 → Int32 → Prop, (∃ k : Nat, I_1 k 0 0) ∧ ∀ (n_1 : Nat) (x2_2 : Int32) (x3_3 : Int32), I_1 n_1 x2_2 x3_3 → 
    (∃ a_4 : Nat, gR S th 0 = some a_4 ∧ (kd S a_4 = 21 ∧ (vp_in 0 (ln S a_4) ∧ (((gI S a_4 0) ≤ x3_3 → Q x2_2) ∧ 
        (¬ (gI S a_4 0) ≤ x3_3 → ((¬ ((shr p0 x3_3) &&& 1) = 1 → (∀ v_9 : Int32, v_9 = x3_3 + 1 → (∃ k : Nat, k < n_1 ∧ 
             I_1 k x2_2 v_9))) ∧ (((shr p0 x3_3) &&& 1) = 1 → (∀ v_10 : Int32, v_10 = ((10 * x2_2) + x3_3) + 1 → 
            (∀ v_11 : Int32, v_11 = x3_3 + 1 → (∃ k : Nat, k < n_1 ∧ I_1 k v_10 v_11))))))))))))
set_option maxRecDepth 100000 in
def P_X12_staysIn (th : Nat) (p0 : Int32) (p1 : Int32) (S : St) (Q : Int32 → (Nat → Nat → Int32) → Prop) : Prop :=
  (kd S th = 12 ∧ (∃ a_1 : Nat, gR S th 23 = some a_1 ∧ (P_X12_laysRow th p0 a_1 S (fun (F_2 : Nat → Nat → Int32) => (∃ a_3 : Nat, gR S th 24 = some a_3 ∧ 
       (P_X12_laysRow th p1 a_3 (wI S F_2) (fun (F_4 : Nat → Nat → Int32) => (∃ I_5 : Nat → Int32 → Int32 → Prop, (∃ k : Nat, I_5 k 0 0) ∧ 
          ∀ (n_5 : Nat) (x3_6 : Int32) (x4_7 : Int32), I_5 n_5 x3_6 x4_7 → (∃ a_8 : Nat, gR S th 0 = some a_8 ∧ 
           (kd S a_8 = 21 ∧ (vp_in 0 (ln S a_8) ∧ (((F_4 a_8 0) ≤ x4_7 → Q x3_6 F_4) ∧ (¬ (F_4 a_8 0) ≤ x4_7 → 
               (kd S a_1 = 21 ∧ (vp_in x4_7 (ln S a_1) ∧ (kd S a_3 = 21 ∧ (vp_in x4_7 (ln S a_3) ∧ ((¬ (F_4 a_1 x4_7.toNatClampNeg) = (F_4 a_3 x4_7.toNatClampNeg) → 
                     (∀ v_17 : Int32, v_17 = x3_6 ||| 0 → (∀ v_18 : Int32, v_18 = x4_7 + 1 → (∃ k : Nat, k < n_5 ∧ 
                        I_5 k v_17 v_18)))) ∧ ((F_4 a_1 x4_7.toNatClampNeg) = (F_4 a_3 x4_7.toNatClampNeg) → (∀ v_19 : Int32, v_19 = x3_6 ||| (shl 1 x4_7) → 
                      (∀ v_20 : Int32, v_20 = x4_7 + 1 → (∃ k : Nat, k < n_5 ∧ I_5 k v_19 v_20))))))))))))))))))))))
set_option maxRecDepth 100000 in
def P_X12_between (th : Nat) (p0 : Int32) (p1 : Int32) (S : St) (Q : Int32 → (Nat → Nat → Int32) → Prop) : Prop :=
  (kd S th = 12 ∧ (P_X12_isRow th p0 S (fun (r_1 : Int32) => (∃ J_3 : Prop, (J_3 → (P_X12_refuse th 1 S (fun (r_4 : Int32) (F_4 : Nat → 
          Nat → Int32) => Q r_4 F_4))) ∧ ((r_1 = 0 → J_3) ∧ (¬ r_1 = 0 → (P_X12_isRow th p1 S (fun (r_5 : Int32) => ((¬ r_5 = 0 → 
            (P_X12_staysIn th p0 p1 S (fun (r_7 : Int32) (F_7 : Nat → Nat → Int32) => (∃ a_8 : Nat, gR S th 0 = some a_8 ∧ 
               (kd S a_8 = 21 ∧ (vp_in 0 (ln S a_8) ∧ (P_X12_canChange r_7 (F_7 a_8 0) (fun (r_11 : Int32) => ((¬ r_11 = 0 → 
                     (P_X12_changes0 th r_7 0 (wI S F_7) (fun (F_13 : Nat → Nat → Int32) => (∃ a_14 : Nat, gR S th 23 = some a_14 ∧ 
                        (P_X12_numberOf th a_14 (wI S F_13) (fun (r_15 : Int32) => ((¬ r_15 = p1 → (P_X12_refuse th 7 (wI S F_13) (fun (r_17 : Int32) (F_17 : Nat → 
                               Nat → Int32) => Q r_17 F_17))) ∧ (r_15 = p1 → (P_X12_numberOfPlaces th r_7 (wI S F_13) (fun (r_18 : Int32) => (P_X12_gives th r_18 (wI S F_13) (fun (r_19 : Int32) (F_19 : Nat → 
                                 Nat → Int32) => Q r_19 F_19)))))))))))) ∧ (r_11 = 0 → (P_X12_refuse th 7 (wI S F_7) (fun (r_20 : Int32) (F_20 : Nat → 
                        Nat → Int32) => Q r_20 F_20)))))))))))) ∧ (r_5 = 0 → J_3))))))))))
set_option maxRecDepth 100000 in
def P_X12_changesOf (th : Nat) (p0 : Int32) (S : St) (Q : Int32 → Prop) : Prop :=
  (kd S th = 12 ∧ (∃ a_1 : Nat, gR S th 0 = some a_1 ∧ (kd S a_1 = 21 ∧ (vp_in (10 + (40 * p0)) (ln S a_1) ∧ Q (gI S a_1 ((10 + (40 * p0)).toNatClampNeg))))))
set_option maxRecDepth 100000 in
def P_X12_changeOf (th : Nat) (p0 : Int32) (p1 : Int32) (p2 : Int32) (S : St) (Q : Int32 → Prop) : Prop :=
  (kd S th = 12 ∧ (∃ a_1 : Nat, gR S th 0 = some a_1 ∧ (P_X12_changesOf th p0 S (fun (r_2 : Int32) => (∃ J_4 : Prop, (J_4 → 
        (kd S a_1 = 21 ∧ (vp_in ((10 + (40 * p0)) + (1 + p2)) (ln S a_1) ∧ Q (gI S a_1 (((10 + (40 * p0)) + (1 + p2)).toNatClampNeg))))) ∧ 
       (((p2 + 1) < r_2 → J_4) ∧ (¬ (p2 + 1) < r_2 → ((¬ p1 = 0 → ((¬ p1 = 1 → (kd S a_1 = 21 ∧ (vp_in ((10 + (40 * p0)) + 34) (ln S a_1) ∧ 
               Q (gI S a_1 (((10 + (40 * p0)) + 34).toNatClampNeg))))) ∧ (p1 = 1 → (kd S a_1 = 21 ∧ (vp_in ((10 + (40 * p0)) + 33) (ln S a_1) ∧ 
               Q (gI S a_1 (((10 + (40 * p0)) + 33).toNatClampNeg))))))) ∧ (p1 = 0 → J_4)))))))))
set_option maxRecDepth 100000 in
def P_X12_changes (th : Nat) (p0 : Int32) (S : St) (Q : Int32 → (Nat → Nat → Int32) → Prop) : Prop :=
  (kd S th = 12 ∧ (P_X12_isMethod th p0 S (fun (r_1 : Int32) => ((r_1 = 0 → (P_X12_refuse th 1 S (fun (r_3 : Int32) (F_3 : Nat → 
          Nat → Int32) => Q r_3 F_3))) ∧ (¬ r_1 = 0 → (P_X12_changesOf th p0 S (fun (r_4 : Int32) => (P_X12_gives th r_4 S (fun (r_5 : Int32) (F_5 : Nat → 
            Nat → Int32) => Q r_5 F_5)))))))))
set_option maxRecDepth 100000 in
def P_X12_change (th : Nat) (p0 : Int32) (p1 : Int32) (p2 : Int32) (S : St) (Q : Int32 → (Nat → Nat → Int32) → Prop) : Prop :=
  (kd S th = 12 ∧ (P_X12_isMethod th p0 S (fun (r_1 : Int32) => (∃ J_3 : Prop, (J_3 → (P_X12_refuse th 1 S (fun (r_4 : Int32) (F_4 : Nat → 
          Nat → Int32) => Q r_4 F_4))) ∧ ((r_1 = 0 → J_3) ∧ (¬ r_1 = 0 → (P_X12_isCall p1 (fun (r_5 : Int32) => ((r_5 = 0 → 
            J_3) ∧ (¬ r_5 = 0 → ((p2 < 0 → J_3) ∧ (¬ p2 < 0 → (P_X12_changesOf th p0 S (fun (r_8 : Int32) => ((p2 < r_8 → 
                  (P_X12_changeOf th p0 p1 p2 S (fun (r_10 : Int32) => (P_X12_numberOfPlaces th r_10 S (fun (r_11 : Int32) => (P_X12_gives th r_11 S (fun (r_12 : Int32) (F_12 : Nat → 
                         Nat → Int32) => Q r_12 F_12))))))) ∧ (¬ p2 < r_8 → J_3))))))))))))))))
set_option maxRecDepth 100000 in
def P_X12_leadFrom (th : Nat) (p0 : Int32) (p1 : Int32) (p2 : Int32) (S : St) (Q : Int32 → (Nat → Nat → Int32) → Prop) : Prop :=
  (kd S th = 12 ∧ (∃ a_1 : Nat, gR S th 23 = some a_1 ∧ (P_X12_laysRow th p0 a_1 S (fun (F_2 : Nat → Nat → Int32) => (∃ I_3 : Nat → 
       Int32 → (Nat → Nat → Int32) → Prop, (∃ k : Nat, I_3 k 0 F_2) ∧ ∀ (n_3 : Nat) (x4_4 : Int32) (F_5 : Nat → 
        Nat → Int32), I_3 n_3 x4_4 F_5 → (P_X12_changesOf th p1 (wI S F_5) (fun (r_6 : Int32) => ((r_6 ≤ x4_4 → 
           (P_X12_numberOf th a_1 (wI S F_5) (fun (r_8 : Int32) => Q r_8 F_5))) ∧ (¬ r_6 ≤ x4_4 → (P_X12_changeOf th p1 p2 x4_4 (wI S F_5) (fun (r_9 : Int32) => (P_X12_changes0 th r_9 0 (wI S F_5) (fun (F_10 : Nat → 
                Nat → Int32) => (∀ v_11 : Int32, v_11 = x4_4 + 1 → (∃ k : Nat, k < n_3 ∧ I_3 k v_11 F_10)))))))))))))))
set_option maxRecDepth 100000 in
def P_X12_head (th : Nat) (p0 : Int32) (p1 : Int32) (S : St) (Q : Int32 → (Nat → Nat → Int32) → Prop) : Prop :=
  (kd S th = 12 ∧ (P_X12_isMethod th p0 S (fun (r_1 : Int32) => (∃ J_3 : Prop, (J_3 → (P_X12_refuse th 1 S (fun (r_4 : Int32) (F_4 : Nat → 
          Nat → Int32) => Q r_4 F_4))) ∧ ((r_1 = 0 → J_3) ∧ (¬ r_1 = 0 → (P_X12_isCall p1 (fun (r_5 : Int32) => ((r_5 = 0 → 
            J_3) ∧ (¬ r_5 = 0 → (P_X12_leadFrom th 0 p0 p1 S (fun (r_7 : Int32) (F_7 : Nat → Nat → Int32) => (P_X12_gives th r_7 (wI S F_7) (fun (r_8 : Int32) (F_8 : Nat → 
                 Nat → Int32) => Q r_8 F_8))))))))))))))
set_option maxRecDepth 100000 in
def P_X12_course (th : Nat) (p0 : Int32) (p1 : Int32) (S : St) (Q : Int32 → (Nat → Nat → Int32) → Prop) : Prop :=
  (kd S th = 12 ∧ (P_X12_isMethod th p0 S (fun (r_1 : Int32) => (∃ J_3 : Prop, (J_3 → (P_X12_refuse th 1 S (fun (r_4 : Int32) (F_4 : Nat → 
          Nat → Int32) => Q r_4 F_4))) ∧ ((r_1 = 0 → J_3) ∧ (¬ r_1 = 0 → (P_X12_isCall p1 (fun (r_5 : Int32) => ((r_5 = 0 → 
            J_3) ∧ (¬ r_5 = 0 → (P_X12_leadFrom th 0 p0 p1 S (fun (r_7 : Int32) (F_7 : Nat → Nat → Int32) => (P_X12_orderOf th r_7 (wI S F_7) (fun (r_8 : Int32) (F_8 : Nat → 
                 Nat → Int32) => (P_X12_gives th r_8 (wI S F_8) (fun (r_9 : Int32) (F_9 : Nat → Nat → Int32) => Q r_9 F_9))))))))))))))))
set_option maxRecDepth 100000 in
def P_X12_fixed (th : Nat) (p0 : Int32) (p1 : Int32) (S : St) (Q : Int32 → (Nat → Nat → Int32) → Prop) : Prop :=
  (kd S th = 12 ∧ (P_X12_isMethod th p0 S (fun (r_1 : Int32) => (∃ J_3 : Prop, (J_3 → (P_X12_refuse th 1 S (fun (r_4 : Int32) (F_4 : Nat → 
          Nat → Int32) => Q r_4 F_4))) ∧ ((r_1 = 0 → J_3) ∧ (¬ r_1 = 0 → (P_X12_isCall p1 (fun (r_5 : Int32) => ((¬ r_5 = 0 → 
            (P_X12_leadFrom th 0 p0 p1 S (fun (r_7 : Int32) (F_7 : Nat → Nat → Int32) => (∃ a_8 : Nat, gR S th 24 = some a_8 ∧ 
               (P_X12_laysRow th r_7 a_8 (wI S F_7) (fun (F_9 : Nat → Nat → Int32) => (∃ I_10 : Nat → Int32 → Int32 → 
                  Prop, (∃ k : Nat, I_10 k 0 0) ∧ ∀ (n_10 : Nat) (x3_11 : Int32) (x4_12 : Int32), I_10 n_10 x3_11 x4_12 → 
                  (∃ a_13 : Nat, gR S th 0 = some a_13 ∧ (kd S a_13 = 21 ∧ (vp_in 0 (ln S a_13) ∧ (((F_9 a_13 0) ≤ x4_12 → 
                       (P_X12_gives th x3_11 (wI S F_9) (fun (r_17 : Int32) (F_17 : Nat → Nat → Int32) => Q r_17 F_17))) ∧ 
                      (¬ (F_9 a_13 0) ≤ x4_12 → (kd S a_8 = 21 ∧ (vp_in x4_12 (ln S a_8) ∧ ((¬ (F_9 a_8 x4_12.toNatClampNeg) = x4_12 → 
                           (∀ v_21 : Int32, v_21 = x3_11 ||| 0 → (∀ v_22 : Int32, v_22 = x4_12 + 1 → (∃ k : Nat, k < n_10 ∧ 
                              I_10 k v_21 v_22)))) ∧ ((F_9 a_8 x4_12.toNatClampNeg) = x4_12 → (∀ v_23 : Int32, v_23 = x3_11 ||| (shl 1 x4_12) → 
                            (∀ v_24 : Int32, v_24 = x4_12 + 1 → (∃ k : Nat, k < n_10 ∧ I_10 k v_23 v_24))))))))))))))))))) ∧ 
           (r_5 = 0 → J_3))))))))))
set_option maxRecDepth 100000 in
def P_X12_symmetric (th : Nat) (p0 : Int32) (S : St) (Q : Int32 → (Nat → Nat → Int32) → Prop) : Prop :=
  (kd S th = 12 ∧ (P_X12_isMethod th p0 S (fun (r_1 : Int32) => ((¬ r_1 = 0 → (P_X12_changesOf th p0 S (fun (r_3 : Int32) => (∀ v_4 : Int32, v_4 = r_3 - 1 → 
          (∃ I_5 : Nat → Int32 → Int32 → Prop, (∃ k : Nat, I_5 k 1 0) ∧ ∀ (n_5 : Nat) (x3_6 : Int32) (x4_7 : Int32), I_5 n_5 x3_6 x4_7 → 
           ((v_4 ≤ x4_7 → (∃ J_10 : Int32 → Prop, (∀ (t_11 : Int32), J_10 t_11 → (P_X12_gives th t_11 S (fun (r_12 : Int32) (F_12 : Nat → 
                  Nat → Int32) => Q r_12 F_12))) ∧ ((x3_6 = 0 → J_10 0) ∧ (¬ x3_6 = 0 → J_10 1)))) ∧ (¬ v_4 ≤ x4_7 → 
             ((x3_6 = 0 → (∀ v_14 : Int32, v_14 = x4_7 + 1 → (∃ k : Nat, k < n_5 ∧ I_5 k 0 v_14))) ∧ (¬ x3_6 = 0 → 
               (P_X12_changeOf th p0 0 x4_7 S (fun (r_15 : Int32) => (P_X12_changeOf th p0 0 ((v_4 - 1) - x4_7) S (fun (r_16 : Int32) => ((¬ r_15 = r_16 → 
                     (∀ v_18 : Int32, v_18 = x4_7 + 1 → (∃ k : Nat, k < n_5 ∧ I_5 k 0 v_18))) ∧ (r_15 = r_16 → 
                     (∀ v_19 : Int32, v_19 = x4_7 + 1 → (∃ k : Nat, k < n_5 ∧ I_5 k 1 v_19))))))))))))))))) ∧ (r_1 = 0 → 
       (P_X12_refuse th 1 S (fun (r_20 : Int32) (F_20 : Nat → Nat → Int32) => Q r_20 F_20)))))))
set_option maxRecDepth 100000 in
def P_X12_laysLead (th : Nat) (p0 : Int32) (S : St) (Q : (Nat → Nat → Int32) → Prop) : Prop :=
  (kd S th = 12 ∧ (∃ I_1 : Nat → Int32 → (Nat → Nat → Int32) → Prop, (∃ k : Nat, I_1 k 0 (gI S)) ∧ ∀ (n_1 : Nat) (x2_2 : Int32) (F_3 : Nat → 
     Nat → Int32), I_1 n_1 x2_2 F_3 → (∃ a_4 : Nat, gR S th 0 = some a_4 ∧ (kd S a_4 = 21 ∧ (vp_in 0 (ln S a_4) ∧ 
       (((F_3 a_4 0) ≤ x2_2 → (∃ I_8 : Nat → Int32 → (Nat → Nat → Int32) → Prop, (∃ k : Nat, I_8 k 0 F_3) ∧ ∀ (n_8 : Nat) (x2_9 : Int32) (F_10 : Nat → 
           Nat → Int32), I_8 n_8 x2_9 F_10 → (P_X12_changesOf th p0 (wI S F_10) (fun (r_11 : Int32) => ((r_11 ≤ x2_9 → 
              (∃ I_13 : Nat → Int32 → (Nat → Nat → Int32) → Prop, (∃ k : Nat, I_13 k 0 F_10) ∧ ∀ (n_13 : Nat) (x2_14 : Int32) (F_15 : Nat → 
                Nat → Int32), I_13 n_13 x2_14 F_15 → (P_X12_changesOf th p0 (wI S F_15) (fun (r_16 : Int32) => ((r_16 ≤ x2_14 → 
                   Q F_15) ∧ (¬ r_16 ≤ x2_14 → (∃ a_18 : Nat, gR S th 27 = some a_18 ∧ (∃ a_19 : Nat, gR S th 26 = some a_19 ∧ 
                     (kd S a_19 = 21 ∧ (vp_in x2_14 (ln S a_19) ∧ (P_X12_inverseOf th (F_15 a_19 x2_14.toNatClampNeg) (wI S F_15) (fun (r_22 : Int32) (F_22 : Nat → 
                          Nat → Int32) => (kd S a_18 = 21 ∧ (vp_in x2_14 (ln S a_18) ∧ (∀ F_25 : Nat → Nat → Int32, F_25 = upI F_22 a_18 x2_14.toNatClampNeg r_22 → 
                            (∀ v_26 : Int32, v_26 = x2_14 + 1 → (∃ k : Nat, k < n_13 ∧ I_13 k v_26 F_25))))))))))))))))) ∧ 
             (¬ r_11 ≤ x2_9 → (P_X12_changeOf th p0 0 x2_9 (wI S F_10) (fun (r_27 : Int32) => (P_X12_changes0 th r_27 0 (wI S F_10) (fun (F_28 : Nat → 
                   Nat → Int32) => (∃ a_29 : Nat, gR S th 26 = some a_29 ∧ (∃ a_30 : Nat, gR S th 23 = some a_30 ∧ 
                    (P_X12_numberOf th a_30 (wI S F_28) (fun (r_31 : Int32) => (kd S a_29 = 21 ∧ (vp_in x2_9 (ln S a_29) ∧ 
                        (∀ F_34 : Nat → Nat → Int32, F_34 = upI F_28 a_29 x2_9.toNatClampNeg r_31 → (∀ v_35 : Int32, v_35 = x2_9 + 1 → 
                          (∃ k : Nat, k < n_8 ∧ I_8 k v_35 F_34))))))))))))))))))) ∧ (¬ (F_3 a_4 0) ≤ x2_2 → (∃ a_36 : Nat, gR S th 23 = some a_36 ∧ 
          (kd S a_36 = 21 ∧ (vp_in x2_2 (ln S a_36) ∧ (∀ F_39 : Nat → Nat → Int32, F_39 = upI F_3 a_36 x2_2.toNatClampNeg x2_2 → 
             (∀ v_40 : Int32, v_40 = x2_2 + 1 → (∃ k : Nat, k < n_1 ∧ I_1 k v_40 F_39)))))))))))))
set_option maxRecDepth 100000 in
def P_X12_leadsTo (th : Nat) (p0 : Int32) (p1 : Int32) (S : St) (Q : Int32 → (Nat → Nat → Int32) → Prop) : Prop :=
  (kd S th = 12 ∧ (P_X12_isMethod th p0 S (fun (r_1 : Int32) => (∃ J_3 : Prop, (J_3 → (P_X12_refuse th 1 S (fun (r_4 : Int32) (F_4 : Nat → 
          Nat → Int32) => Q r_4 F_4))) ∧ ((r_1 = 0 → J_3) ∧ (¬ r_1 = 0 → (P_X12_isRow th p1 S (fun (r_5 : Int32) => ((¬ r_5 = 0 → 
            (P_X12_leadFrom th 0 p0 0 S (fun (r_7 : Int32) (F_7 : Nat → Nat → Int32) => (∃ I_8 : Nat → Int32 → 
               Int32 → (Nat → Nat → Int32) → Prop, (∃ k : Nat, I_8 k 0 0 F_7) ∧ ∀ (n_8 : Nat) (x4_9 : Int32) (x5_10 : Int32) (F_11 : Nat → 
                Nat → Int32), I_8 n_8 x4_9 x5_10 F_11 → ((x4_9 = p1 → (P_X12_gives th x5_10 (wI S F_11) (fun (r_13 : Int32) (F_13 : Nat → 
                    Nat → Int32) => Q r_13 F_13))) ∧ (¬ x4_9 = p1 → (P_X12_productOf th x4_9 r_7 (wI S F_11) (fun (r_14 : Int32) (F_14 : Nat → 
                    Nat → Int32) => (∀ v_15 : Int32, v_15 = x5_10 + 1 → ((¬ r_14 = 0 → (∃ k : Nat, k < n_8 ∧ I_8 k r_14 v_15 F_14)) ∧ 
                     (r_14 = 0 → (P_X12_refuse th 6 (wI S F_14) (fun (r_17 : Int32) (F_17 : Nat → Nat → Int32) => Q r_17 F_17))))))))))))) ∧ 
           (r_5 = 0 → J_3))))))))))
set_option maxRecDepth 100000 in
def P_X12_inLead (th : Nat) (p0 : Int32) (p1 : Int32) (S : St) (Q : Int32 → (Nat → Nat → Int32) → Prop) : Prop :=
  (kd S th = 12 ∧ (P_X12_isMethod th p0 S (fun (r_1 : Int32) => (∃ J_3 : Prop, (J_3 → (P_X12_refuse th 1 S (fun (r_4 : Int32) (F_4 : Nat → 
          Nat → Int32) => Q r_4 F_4))) ∧ ((r_1 = 0 → J_3) ∧ (¬ r_1 = 0 → (P_X12_isRow th p1 S (fun (r_5 : Int32) => ((¬ r_5 = 0 → 
            (P_X12_laysLead th p0 S (fun (F_7 : Nat → Nat → Int32) => (∃ I_8 : Nat → Int32 → Prop, (∃ k : Nat, I_8 k 0) ∧ 
               ∀ (n_8 : Nat) (x3_9 : Int32), I_8 n_8 x3_9 → (P_X12_changesOf th p0 (wI S F_7) (fun (r_10 : Int32) => ((r_10 ≤ x3_9 → 
                   (P_X12_refuse th 6 (wI S F_7) (fun (r_12 : Int32) (F_12 : Nat → Nat → Int32) => Q r_12 F_12))) ∧ 
                  (¬ r_10 ≤ x3_9 → (∃ a_13 : Nat, gR S th 26 = some a_13 ∧ (kd S a_13 = 21 ∧ (vp_in x3_9 (ln S a_13) ∧ 
                      ((¬ (F_7 a_13 x3_9.toNatClampNeg) = p1 → (∀ v_17 : Int32, v_17 = x3_9 + 1 → (∃ k : Nat, k < n_8 ∧ 
                          I_8 k v_17))) ∧ ((F_7 a_13 x3_9.toNatClampNeg) = p1 → (P_X12_gives th (x3_9 + 1) (wI S F_7) (fun (r_18 : Int32) (F_18 : Nat → 
                           Nat → Int32) => Q r_18 F_18))))))))))))))) ∧ (r_5 = 0 → J_3))))))))))
set_option maxRecDepth 100000 in
def P_X12_leadTrue (th : Nat) (p0 : Int32) (S : St) (Q : Int32 → (Nat → Nat → Int32) → Prop) : Prop :=
  (kd S th = 12 ∧ (P_X12_isMethod th p0 S (fun (r_1 : Int32) => ((¬ r_1 = 0 → (P_X12_laysLead th p0 S (fun (F_3 : Nat → 
          Nat → Int32) => (∃ I_4 : Nat → Int32 → Prop, (∃ k : Nat, I_4 k 0) ∧ ∀ (n_4 : Nat) (x2_5 : Int32), I_4 n_4 x2_5 → 
          (P_X12_changesOf th p0 (wI S F_3) (fun (r_6 : Int32) => ((r_6 ≤ x2_5 → (P_X12_gives th 1 (wI S F_3) (fun (r_8 : Int32) (F_8 : Nat → 
                 Nat → Int32) => Q r_8 F_8))) ∧ (¬ r_6 ≤ x2_5 → (∃ I_9 : Nat → Int32 → Prop, (∃ k : Nat, I_9 k 0) ∧ 
               ∀ (n_9 : Nat) (x3_10 : Int32), I_9 n_9 x3_10 → ((x2_5 ≤ x3_10 → (∀ v_12 : Int32, v_12 = x2_5 + 1 → 
                  (∃ k : Nat, k < n_4 ∧ I_4 k v_12))) ∧ (¬ x2_5 ≤ x3_10 → (∃ a_13 : Nat, gR S th 26 = some a_13 ∧ 
                  (kd S a_13 = 21 ∧ (vp_in x3_10 (ln S a_13) ∧ (vp_in x2_5 (ln S a_13) ∧ ((¬ (F_3 a_13 x3_10.toNatClampNeg) = (F_3 a_13 x2_5.toNatClampNeg) → 
                       (∀ v_18 : Int32, v_18 = x3_10 + 1 → (∃ k : Nat, k < n_9 ∧ I_9 k v_18))) ∧ ((F_3 a_13 x3_10.toNatClampNeg) = (F_3 a_13 x2_5.toNatClampNeg) → 
                       (P_X12_gives th 0 (wI S F_3) (fun (r_19 : Int32) (F_19 : Nat → Nat → Int32) => Q r_19 F_19))))))))))))))))))) ∧ 
      (r_1 = 0 → (P_X12_refuse th 1 S (fun (r_20 : Int32) (F_20 : Nat → Nat → Int32) => Q r_20 F_20)))))))
set_option maxRecDepth 100000 in
def P_X12_marksFalse (th : Nat) (p0 : Int32) (S : St) (Q : Int32 → (Nat → Nat → Int32) → Prop) : Prop :=
  (kd S th = 12 ∧ (P_X12_laysLead th p0 S (fun (F_1 : Nat → Nat → Int32) => (∀ v_2 : Int32, v_2 = (F_1 th 29) + 1 → 
      (∀ F_3 : Nat → Nat → Int32, F_3 = upI F_1 th 29 v_2 → (∃ I_4 : Nat → Int32 → Int32 → (Nat → Nat → Int32) → 
        Prop, (∃ k : Nat, I_4 k 0 0 F_3) ∧ ∀ (n_4 : Nat) (x2_5 : Int32) (x3_6 : Int32) (F_7 : Nat → Nat → Int32), I_4 n_4 x2_5 x3_6 F_7 → 
        (P_X12_changesOf th p0 (wI S F_7) (fun (r_8 : Int32) => ((r_8 ≤ x3_6 → Q x2_5 F_7) ∧ (¬ r_8 ≤ x3_6 → (∃ I_10 : Nat → 
             Int32 → Int32 → (Nat → Nat → Int32) → Prop, (∃ k : Nat, I_10 k x2_5 0 F_7) ∧ ∀ (n_10 : Nat) (x2_11 : Int32) (x4_12 : Int32) (F_13 : Nat → 
              Nat → Int32), I_10 n_10 x2_11 x4_12 F_13 → (P_X12_changesOf th p0 (wI S F_13) (fun (r_14 : Int32) => ((r_14 ≤ x4_12 → 
                 (∀ v_16 : Int32, v_16 = x3_6 + 1 → (∃ k : Nat, k < n_4 ∧ I_4 k x2_11 v_16 F_13))) ∧ (¬ r_14 ≤ x4_12 → 
                 (∃ a_17 : Nat, gR S th 26 = some a_17 ∧ (kd S a_17 = 21 ∧ (vp_in x3_6 (ln S a_17) ∧ (∃ a_20 : Nat, gR S th 27 = some a_20 ∧ 
                     (kd S a_20 = 21 ∧ (vp_in x4_12 (ln S a_20) ∧ (P_X12_productOf th (F_13 a_17 x3_6.toNatClampNeg) (F_13 a_20 x4_12.toNatClampNeg) (wI S F_13) (fun (r_23 : Int32) (F_23 : Nat → 
                          Nat → Int32) => ((r_23 = 0 → (∀ v_25 : Int32, v_25 = x4_12 + 1 → (∃ k : Nat, k < n_10 ∧ 
                             I_10 k x2_11 v_25 F_23))) ∧ (¬ r_23 = 0 → (∃ a_26 : Nat, gR S th 28 = some a_26 ∧ 
                            (kd S a_26 = 21 ∧ (vp_in r_23 (ln S a_26) ∧ ((¬ (F_23 a_26 r_23.toNatClampNeg) = (F_23 th 29) → 
                                (∀ v_30 : Int32, v_30 = F_23 th 29 → (∀ F_31 : Nat → Nat → Int32, F_31 = upI F_23 a_26 r_23.toNatClampNeg v_30 → 
                                  (∀ v_32 : Int32, v_32 = x2_11 + 1 → (∀ v_33 : Int32, v_33 = x4_12 + 1 → (∃ k : Nat, k < n_10 ∧ 
                                     I_10 k v_32 v_33 F_31)))))) ∧ ((F_23 a_26 r_23.toNatClampNeg) = (F_23 th 29) → 
                                (∀ v_34 : Int32, v_34 = x4_12 + 1 → (∃ k : Nat, k < n_10 ∧ I_10 k x2_11 v_34 F_23))))))))))))))))))))))))))))))))
set_option maxRecDepth 100000 in
def P_X12_falseAgainst (th : Nat) (p0 : Int32) (p1 : Int32) (S : St) (Q : Int32 → (Nat → Nat → Int32) → Prop) : Prop :=
  (kd S th = 12 ∧ (P_X12_isMethod th p0 S (fun (r_1 : Int32) => (∃ J_3 : Prop, (J_3 → (P_X12_refuse th 1 S (fun (r_4 : Int32) (F_4 : Nat → 
          Nat → Int32) => Q r_4 F_4))) ∧ ((r_1 = 0 → J_3) ∧ (¬ r_1 = 0 → (P_X12_isRow th p1 S (fun (r_5 : Int32) => ((¬ r_5 = 0 → 
            (P_X12_marksFalse th p0 S (fun (r_7 : Int32) (F_7 : Nat → Nat → Int32) => (∃ J_9 : Int32 → Prop, (∀ (t_10 : Int32), J_9 t_10 → 
                (P_X12_gives th t_10 (wI S F_7) (fun (r_11 : Int32) (F_11 : Nat → Nat → Int32) => Q r_11 F_11))) ∧ 
               ((r_7 ≤ 0 → J_9 0) ∧ (¬ r_7 ≤ 0 → (∃ a_12 : Nat, gR S th 28 = some a_12 ∧ (kd S a_12 = 21 ∧ (vp_in p1 (ln S a_12) ∧ 
                    ((¬ (F_7 a_12 p1.toNatClampNeg) = (F_7 th 29) → J_9 0) ∧ ((F_7 a_12 p1.toNatClampNeg) = (F_7 th 29) → 
                      J_9 1))))))))))) ∧ (r_5 = 0 → J_3))))))))))
set_option maxRecDepth 100000 in
def P_X12_falses (th : Nat) (p0 : Int32) (S : St) (Q : Int32 → (Nat → Nat → Int32) → Prop) : Prop :=
  (kd S th = 12 ∧ (P_X12_isMethod th p0 S (fun (r_1 : Int32) => ((r_1 = 0 → (P_X12_refuse th 1 S (fun (r_3 : Int32) (F_3 : Nat → 
          Nat → Int32) => Q r_3 F_3))) ∧ (¬ r_1 = 0 → (P_X12_marksFalse th p0 S (fun (r_4 : Int32) (F_4 : Nat → 
          Nat → Int32) => (P_X12_gives th r_4 (wI S F_4) (fun (r_5 : Int32) (F_5 : Nat → Nat → Int32) => Q r_5 F_5)))))))))
set_option maxRecDepth 100000 in
def P_X12_strays (th : Nat) (p0 : Int32) (S : St) (Q : Int32 → (Nat → Nat → Int32) → Prop) : Prop :=
  (kd S th = 12 ∧ ((¬ p0 = (-1) → (∀ v_2 : Int32, v_2 = irm (((gI S th 31) * 2693) + 10007) 65536 → (∀ F_3 : Nat → 
       Nat → Int32, F_3 = upI (gI S) th 31 v_2 → ((p0 ≤ (irm ((F_3 th 31) / 8) 16) → Q 0 F_3) ∧ (¬ p0 ≤ (irm ((F_3 th 31) / 8) 16) → 
         Q 1 F_3))))) ∧ (p0 = (-1) → Q 0 (gI S))))
set_option maxRecDepth 100000 in
def P_X12_rings (th : Nat) (p0 : Int32) (p1 : Int32) (p2 : Int32) (S : St) (Q : Int32 → (Nat → Nat → Int32) → Prop) : Prop :=
  (kd S th = 12 ∧ (∃ a_1 : Nat, gR S th 0 = some a_1 ∧ (kd S a_1 = 21 ∧ (vp_in (p0 + 1) (ln S a_1) ∧ (∀ v_4 : Int32, v_4 = gI S a_1 ((p0 + 1).toNatClampNeg) → 
       (vp_in p0 (ln S a_1) ∧ (∃ J_7 : Int32 → Prop, (∀ (t_8 : Int32), J_7 t_8 → ((¬ (gI S a_1 p0.toNatClampNeg) = 8 → 
            (P_X12_changesOf th v_4 S (fun (r_10 : Int32) => (∃ I_11 : Nat → Int32 → (Nat → Nat → Int32) → Prop, (∃ k : Nat, I_11 k 0 (gI S)) ∧ 
               ∀ (n_11 : Nat) (x7_12 : Int32) (F_13 : Nat → Nat → Int32), I_11 n_11 x7_12 F_13 → ((r_10 ≤ x7_12 → 
                 Q 1 F_13) ∧ (¬ r_10 ≤ x7_12 → ((¬ (F_13 th 32) = 2000 → (P_X12_changeOf th v_4 t_8 x7_12 (wI S F_13) (fun (r_16 : Int32) => (P_X12_strays th p1 (wI S F_13) (fun (r_17 : Int32) (F_17 : Nat → 
                        Nat → Int32) => (P_X12_changes0 th r_16 r_17 (wI S F_17) (fun (F_18 : Nat → Nat → Int32) => (∀ v_19 : Int32, v_19 = (F_18 th 32) + 1 → 
                          (∀ F_20 : Nat → Nat → Int32, F_20 = upI F_18 th 32 v_19 → ((p2 = (-1) → (∀ v_22 : Int32, v_22 = x7_12 + 1 → 
                              (∃ k : Nat, k < n_11 ∧ I_11 k v_22 F_20))) ∧ (¬ p2 = (-1) → (∃ a_23 : Nat, gR S th 23 = some a_23 ∧ 
                              (P_X12_numberOf th a_23 (wI S F_20) (fun (r_24 : Int32) => (vp_in (p2 + (F_20 th 32)) (ln S a_1) ∧ 
                                 (∀ F_26 : Nat → Nat → Int32, F_26 = upI F_20 a_1 ((p2 + (F_20 th 32)).toNatClampNeg) r_24 → 
                                  (∀ v_27 : Int32, v_27 = x7_12 + 1 → (∃ k : Nat, k < n_11 ∧ I_11 k v_27 F_26)))))))))))))))))) ∧ 
                  ((F_13 th 32) = 2000 → Q 0 F_13)))))))) ∧ ((gI S a_1 p0.toNatClampNeg) = 8 → (vp_in (p0 + 2) (ln S a_1) ∧ 
             (∀ v_29 : Int32, v_29 = gI S a_1 ((p0 + 2).toNatClampNeg) → (∃ I_30 : Nat → Int32 → (Nat → Nat → Int32) → 
               Prop, (∃ k : Nat, I_30 k 0 (gI S)) ∧ ∀ (n_30 : Nat) (x7_31 : Int32) (F_32 : Nat → Nat → Int32), I_30 n_30 x7_31 F_32 → 
               ((v_29 ≤ x7_31 → Q 1 F_32) ∧ (¬ v_29 ≤ x7_31 → ((¬ (F_32 th 32) = 2000 → (P_X12_changeOf th v_4 t_8 x7_31 (wI S F_32) (fun (r_35 : Int32) => (P_X12_strays th p1 (wI S F_32) (fun (r_36 : Int32) (F_36 : Nat → 
                        Nat → Int32) => (P_X12_changes0 th r_35 r_36 (wI S F_36) (fun (F_37 : Nat → Nat → Int32) => (∀ v_38 : Int32, v_38 = (F_37 th 32) + 1 → 
                          (∀ F_39 : Nat → Nat → Int32, F_39 = upI F_37 th 32 v_38 → ((p2 = (-1) → (∀ v_41 : Int32, v_41 = x7_31 + 1 → 
                              (∃ k : Nat, k < n_30 ∧ I_30 k v_41 F_39))) ∧ (¬ p2 = (-1) → (∃ a_42 : Nat, gR S th 23 = some a_42 ∧ 
                              (P_X12_numberOf th a_42 (wI S F_39) (fun (r_43 : Int32) => (vp_in (p2 + (F_39 th 32)) (ln S a_1) ∧ 
                                 (∀ F_45 : Nat → Nat → Int32, F_45 = upI F_39 a_1 ((p2 + (F_39 th 32)).toNatClampNeg) r_43 → 
                                  (∀ v_46 : Int32, v_46 = x7_31 + 1 → (∃ k : Nat, k < n_30 ∧ I_30 k v_46 F_45)))))))))))))))))) ∧ 
                  ((F_32 th 32) = 2000 → Q 0 F_32)))))))))) ∧ ((¬ (gI S a_1 p0.toNatClampNeg) = 5 → ((¬ (gI S a_1 p0.toNatClampNeg) = 6 → 
             J_7 0) ∧ ((gI S a_1 p0.toNatClampNeg) = 6 → J_7 2))) ∧ ((gI S a_1 p0.toNatClampNeg) = 5 → J_7 1)))))))))
set_option maxRecDepth 100000 in
def P_X12_behindEnds (th : Nat) (p0 : Int32) (S : St) (Q : Int32 → (Nat → Nat → Int32) → Prop) : Prop :=
  (kd S th = 12 ∧ (∃ I_1 : Nat → Int32 → (Nat → Nat → Int32) → Prop, (∃ k : Nat, I_1 k p0 (gI S)) ∧ ∀ (n_1 : Nat) (x2_2 : Int32) (F_3 : Nat → 
     Nat → Int32), I_1 n_1 x2_2 F_3 → (∃ a_4 : Nat, gR S th 0 = some a_4 ∧ (kd S a_4 = 21 ∧ (vp_in 4 (ln S a_4) ∧ 
       (((F_3 a_4 4) ≤ x2_2 → Q x2_2 F_3) ∧ (¬ (F_3 a_4 4) ≤ x2_2 → (vp_in (170 + (4 * x2_2)) (ln S a_4) ∧ ((¬ (F_3 a_4 ((170 + (4 * x2_2)).toNatClampNeg)) = 10 → 
            Q x2_2 F_3) ∧ ((F_3 a_4 ((170 + (4 * x2_2)).toNatClampNeg)) = 10 → (vp_in ((170 + (4 * x2_2)) + 3) (ln S a_4) ∧ 
             (∀ v_11 : Int32, v_11 = F_3 a_4 (((170 + (4 * x2_2)) + 3).toNatClampNeg) → (∃ a_12 : Nat, gR S th 30 = some a_12 ∧ 
               (kd S a_12 = 21 ∧ (vp_in v_11 (ln S a_12) ∧ (∃ J_16 : Int32 → Prop, (∀ (t_17 : Int32), J_16 t_17 → 
                   (∃ J_19 : Int32 → Prop, (∀ (t_20 : Int32), J_19 t_20 → (∀ v_21 : Int32, v_21 = (F_3 a_12 v_11.toNatClampNeg) - t_20 → 
                      (∀ F_22 : Nat → Nat → Int32, F_22 = upI F_3 a_12 v_11.toNatClampNeg v_21 → ((t_17 = 0 → (∀ v_24 : Int32, v_24 = x2_2 + 1 → 
                          (∃ k : Nat, k < n_1 ∧ I_1 k v_24 F_22))) ∧ (¬ t_17 = 0 → (∀ v_25 : Int32, v_25 = v_11 + 1 → 
                          (∃ k : Nat, k < n_1 ∧ I_1 k v_25 F_22))))))) ∧ ((t_17 = 0 → J_19 0) ∧ (¬ t_17 = 0 → J_19 1)))) ∧ 
                  (((F_3 a_12 v_11.toNatClampNeg) ≤ 0 → J_16 0) ∧ (¬ (F_3 a_12 v_11.toNatClampNeg) ≤ 0 → J_16 1))))))))))))))))))
set_option maxRecDepth 100000 in
def P_X12_ringsAll (th : Nat) (p0 : Int32) (p1 : Int32) (S : St) (Q : (Nat → Nat → Int32) → Prop) : Prop :=
  (kd S th = 12 ∧ (∃ I_1 : Nat → Int32 → (Nat → Nat → Int32) → Prop, (∃ k : Nat, I_1 k 0 (gI S)) ∧ ∀ (n_1 : Nat) (x3_2 : Int32) (F_3 : Nat → 
     Nat → Int32), I_1 n_1 x3_2 F_3 → (∃ a_4 : Nat, gR S th 0 = some a_4 ∧ (kd S a_4 = 21 ∧ (vp_in 0 (ln S a_4) ∧ 
       (((F_3 a_4 0) ≤ x3_2 → (∀ F_8 : Nat → Nat → Int32, F_8 = upI F_3 th 32 0 → ((p1 = (-1) → (∃ I_10 : Nat → 
             Int32 → Int32 → Int32 → (Nat → Nat → Int32) → Prop, (∃ k : Nat, I_10 k 0 1 0 F_8) ∧ ∀ (n_10 : Nat) (x3_11 : Int32) (x4_12 : Int32) (x5_13 : Int32) (F_14 : Nat → 
              Nat → Int32), I_10 n_10 x3_11 x4_12 x5_13 F_14 → (∃ J_16 : Prop, (J_16 → (∃ a_17 : Nat, gR S th 23 = some a_17 ∧ 
                (P_X12_numberOf th a_17 (wI S F_14) (fun (r_18 : Int32) => (∀ F_19 : Nat → Nat → Int32, F_19 = upI F_14 th 33 r_18 → 
                   Q F_19))))) ∧ ((300 ≤ x5_13 → J_16) ∧ (¬ 300 ≤ x5_13 → ((x4_12 = 0 → J_16) ∧ (¬ x4_12 = 0 → 
                  (vp_in 4 (ln S a_4) ∧ (((F_14 a_4 4) ≤ x3_11 → J_16) ∧ (¬ (F_14 a_4 4) ≤ x3_11 → (vp_in (170 + (4 * x3_11)) (ln S a_4) ∧ 
                      (((F_14 a_4 ((170 + (4 * x3_11)).toNatClampNeg)) = 11 → J_16) ∧ (¬ (F_14 a_4 ((170 + (4 * x3_11)).toNatClampNeg)) = 11 → 
                        (∀ v_25 : Int32, v_25 = 170 + (4 * x3_11) → (vp_in v_25 (ln S a_4) ∧ (∃ J_28 : Int32 → 
                           (Nat → Nat → Int32) → Prop, (∀ (x4_29 : Int32) (F_30 : Nat → Nat → Int32), J_28 x4_29 F_30 → 
                            (P_X12_behindEnds th (x3_11 + 1) (wI S F_30) (fun (r_31 : Int32) (F_31 : Nat → Nat → 
                               Int32) => (∀ v_32 : Int32, v_32 = x5_13 + 1 → (∃ k : Nat, k < n_10 ∧ I_10 k r_31 x4_29 v_32 F_31))))) ∧ 
                           ((¬ (F_14 a_4 v_25.toNatClampNeg) = 9 → (P_X12_rings th v_25 p0 p1 (wI S F_14) (fun (r_33 : Int32) (F_33 : Nat → 
                                Nat → Int32) => J_28 r_33 F_33))) ∧ ((F_14 a_4 v_25.toNatClampNeg) = 9 → (∃ a_34 : Nat, gR S th 30 = some a_34 ∧ 
                              (vp_in (v_25 + 2) (ln S a_4) ∧ (kd S a_34 = 21 ∧ (vp_in x3_11 (ln S a_34) ∧ (∀ v_38 : Int32, v_38 = (F_14 a_4 ((v_25 + 2).toNatClampNeg)) - 1 → 
                                  (∀ F_39 : Nat → Nat → Int32, F_39 = upI F_14 a_34 x3_11.toNatClampNeg v_38 → 
                                   J_28 x4_12 F_39)))))))))))))))))))))))) ∧ (¬ p1 = (-1) → (vp_in p1 (ln S a_4) ∧ 
             (∀ F_41 : Nat → Nat → Int32, F_41 = upI F_8 a_4 p1.toNatClampNeg 0 → (∃ I_42 : Nat → Int32 → Int32 → 
               Int32 → (Nat → Nat → Int32) → Prop, (∃ k : Nat, I_42 k 0 1 0 F_41) ∧ ∀ (n_42 : Nat) (x3_43 : Int32) (x4_44 : Int32) (x5_45 : Int32) (F_46 : Nat → 
                Nat → Int32), I_42 n_42 x3_43 x4_44 x5_45 F_46 → (∃ J_48 : Prop, (J_48 → (∃ a_49 : Nat, gR S th 23 = some a_49 ∧ 
                  (P_X12_numberOf th a_49 (wI S F_46) (fun (r_50 : Int32) => (∀ F_51 : Nat → Nat → Int32, F_51 = upI F_46 th 33 r_50 → 
                     Q F_51))))) ∧ ((300 ≤ x5_45 → J_48) ∧ (¬ 300 ≤ x5_45 → ((x4_44 = 0 → J_48) ∧ (¬ x4_44 = 0 → 
                    (vp_in 4 (ln S a_4) ∧ (((F_46 a_4 4) ≤ x3_43 → J_48) ∧ (¬ (F_46 a_4 4) ≤ x3_43 → (vp_in (170 + (4 * x3_43)) (ln S a_4) ∧ 
                        (((F_46 a_4 ((170 + (4 * x3_43)).toNatClampNeg)) = 11 → J_48) ∧ (¬ (F_46 a_4 ((170 + (4 * x3_43)).toNatClampNeg)) = 11 → 
                          (∀ v_57 : Int32, v_57 = 170 + (4 * x3_43) → (vp_in v_57 (ln S a_4) ∧ (∃ J_60 : Int32 → 
                             (Nat → Nat → Int32) → Prop, (∀ (x4_61 : Int32) (F_62 : Nat → Nat → Int32), J_60 x4_61 F_62 → 
                              (P_X12_behindEnds th (x3_43 + 1) (wI S F_62) (fun (r_63 : Int32) (F_63 : Nat → Nat → 
                                 Int32) => (∀ v_64 : Int32, v_64 = x5_45 + 1 → (∃ k : Nat, k < n_42 ∧ I_42 k r_63 x4_61 v_64 F_63))))) ∧ 
                             ((¬ (F_46 a_4 v_57.toNatClampNeg) = 9 → (P_X12_rings th v_57 p0 p1 (wI S F_46) (fun (r_65 : Int32) (F_65 : Nat → 
                                  Nat → Int32) => J_60 r_65 F_65))) ∧ ((F_46 a_4 v_57.toNatClampNeg) = 9 → (∃ a_66 : Nat, gR S th 30 = some a_66 ∧ 
                                (vp_in (v_57 + 2) (ln S a_4) ∧ (kd S a_66 = 21 ∧ (vp_in x3_43 (ln S a_66) ∧ (∀ v_70 : Int32, v_70 = (F_46 a_4 ((v_57 + 2).toNatClampNeg)) - 1 → 
                                    (∀ F_71 : Nat → Nat → Int32, F_71 = upI F_46 a_66 x3_43.toNatClampNeg v_70 → 
                                     J_60 x4_44 F_71))))))))))))))))))))))))))))) ∧ (¬ (F_3 a_4 0) ≤ x3_2 → (∃ a_72 : Nat, gR S th 23 = some a_72 ∧ 
          (kd S a_72 = 21 ∧ (vp_in x3_2 (ln S a_72) ∧ (∀ F_75 : Nat → Nat → Int32, F_75 = upI F_3 a_72 x3_2.toNatClampNeg x3_2 → 
             (∀ v_76 : Int32, v_76 = x3_2 + 1 → (∃ k : Nat, k < n_1 ∧ I_1 k v_76 F_75)))))))))))))
set_option maxRecDepth 100000 in
def P_X12_ring (th : Nat) (S : St) (Q : Int32 → (Nat → Nat → Int32) → Prop) : Prop :=
  (kd S th = 12 ∧ (∃ a_1 : Nat, gR S th 0 = some a_1 ∧ (kd S a_1 = 21 ∧ (vp_in 4 (ln S a_1) ∧ ((¬ (gI S a_1 4) = (-1) → 
        (P_X12_ringsAll th (-1) 410 S (fun (F_5 : Nat → Nat → Int32) => (vp_in 6 (ln S a_1) ∧ (∀ v_7 : Int32, v_7 = F_5 th 32 → 
            (∀ F_8 : Nat → Nat → Int32, F_8 = upI F_5 a_1 6 v_7 → (P_X12_gives th (F_8 th 32) (wI S F_8) (fun (r_9 : Int32) (F_9 : Nat → 
                Nat → Int32) => Q r_9 F_9)))))))) ∧ ((gI S a_1 4) = (-1) → (P_X12_refuse th 6 S (fun (r_10 : Int32) (F_10 : Nat → 
           Nat → Int32) => Q r_10 F_10))))))))
set_option maxRecDepth 100000 in
def P_X12_rowAt (th : Nat) (p0 : Int32) (S : St) (Q : Int32 → (Nat → Nat → Int32) → Prop) : Prop :=
  (kd S th = 12 ∧ (∃ J_2 : Prop, (J_2 → (P_X12_refuse th 1 S (fun (r_3 : Int32) (F_3 : Nat → Nat → Int32) => Q r_3 F_3))) ∧ 
    ((p0 < 0 → J_2) ∧ (¬ p0 < 0 → (∃ a_4 : Nat, gR S th 0 = some a_4 ∧ (kd S a_4 = 21 ∧ (vp_in 6 (ln S a_4) ∧ (∃ J_8 : Prop, (J_8 → 
           ((¬ (gI S a_4 6) = (-1) → (vp_in (410 + p0) (ln S a_4) ∧ (P_X12_gives th (gI S a_4 ((410 + p0).toNatClampNeg)) S (fun (r_11 : Int32) (F_11 : Nat → 
                 Nat → Int32) => Q r_11 F_11)))) ∧ ((gI S a_4 6) = (-1) → (P_X12_refuse th 6 S (fun (r_12 : Int32) (F_12 : Nat → 
                Nat → Int32) => Q r_12 F_12))))) ∧ (((gI S a_4 6) = (-1) → J_8) ∧ (¬ (gI S a_4 6) = (-1) → ((p0 ≤ (gI S a_4 6) → 
              J_8) ∧ (¬ p0 ≤ (gI S a_4 6) → J_2))))))))))))
set_option maxRecDepth 100000 in
def P_X12_round (th : Nat) (S : St) (Q : Int32 → (Nat → Nat → Int32) → Prop) : Prop :=
  (kd S th = 12 ∧ (∃ I_1 : Nat → Int32 → Prop, (∃ k : Nat, I_1 k 1) ∧ ∀ (n_1 : Nat) (x1_2 : Int32), I_1 n_1 x1_2 → 
    (∃ a_3 : Nat, gR S th 0 = some a_3 ∧ (kd S a_3 = 21 ∧ (vp_in 6 (ln S a_3) ∧ (((gI S a_3 6) < x1_2 → (P_X12_refuse th 6 S (fun (r_7 : Int32) (F_7 : Nat → 
            Nat → Int32) => Q r_7 F_7))) ∧ (¬ (gI S a_3 6) < x1_2 → (vp_in (410 + x1_2) (ln S a_3) ∧ ((¬ (gI S a_3 ((410 + x1_2).toNatClampNeg)) = 0 → 
            (∀ v_10 : Int32, v_10 = x1_2 + 1 → (∃ k : Nat, k < n_1 ∧ I_1 k v_10))) ∧ ((gI S a_3 ((410 + x1_2).toNatClampNeg)) = 0 → 
            (P_X12_gives th x1_2 S (fun (r_11 : Int32) (F_11 : Nat → Nat → Int32) => Q r_11 F_11))))))))))))
set_option maxRecDepth 100000 in
def P_X12_findsLikes (th : Nat) (S : St) (Q : (Nat → Nat → Int32) → Prop) : Prop :=
  (kd S th = 12 ∧ (∀ v_1 : Int32, v_1 = (gI S th 29) + 1 → (∀ F_2 : Nat → Nat → Int32, F_2 = upI (gI S) th 34 (-1) → 
     (∀ F_3 : Nat → Nat → Int32, F_3 = upI F_2 th 35 (-1) → (∀ F_4 : Nat → Nat → Int32, F_4 = upI F_3 th 36 0 → 
       (∃ I_5 : Nat → Int32 → (Nat → Nat → Int32) → Prop, (∃ k : Nat, I_5 k 1 F_4) ∧ ∀ (n_5 : Nat) (x2_6 : Int32) (F_7 : Nat → 
         Nat → Int32), I_5 n_5 x2_6 F_7 → (∃ a_8 : Nat, gR S th 0 = some a_8 ∧ (kd S a_8 = 21 ∧ (vp_in 6 (ln S a_8) ∧ 
           (((F_7 a_8 6) < x2_6 → (∀ v_12 : Int32, v_12 = (v_1 + 2000) + 1 → (∀ F_13 : Nat → Nat → Int32, F_13 = upI F_7 th 29 v_12 → 
               Q F_13))) ∧ (¬ (F_7 a_8 6) < x2_6 → (vp_in (410 + x2_6) (ln S a_8) ∧ (∀ v_15 : Int32, v_15 = F_7 a_8 ((410 + x2_6).toNatClampNeg) → 
               (∃ a_16 : Nat, gR S th 28 = some a_16 ∧ (kd S a_16 = 21 ∧ (vp_in v_15 (ln S a_16) ∧ ((v_1 ≤ (F_7 a_16 v_15.toNatClampNeg) → 
                    (∀ v_20 : Int32, v_20 = (F_7 th 36) + 1 → (∀ F_21 : Nat → Nat → Int32, F_21 = upI F_7 th 36 v_20 → 
                      (((F_21 th 35) = (-1) → (∀ F_23 : Nat → Nat → Int32, F_23 = upI F_21 th 35 x2_6 → (∀ v_24 : Int32, v_24 = (F_23 a_16 v_15.toNatClampNeg) - v_1 → 
                          (∀ F_25 : Nat → Nat → Int32, F_25 = upI F_23 th 34 v_24 → (∀ v_26 : Int32, v_26 = x2_6 + 1 → 
                            (∃ k : Nat, k < n_5 ∧ I_5 k v_26 F_25)))))) ∧ (¬ (F_21 th 35) = (-1) → (∀ v_27 : Int32, v_27 = x2_6 + 1 → 
                         (∃ k : Nat, k < n_5 ∧ I_5 k v_27 F_21))))))) ∧ (¬ v_1 ≤ (F_7 a_16 v_15.toNatClampNeg) → 
                    (∀ v_28 : Int32, v_28 = v_1 + x2_6 → (∀ F_29 : Nat → Nat → Int32, F_29 = upI F_7 a_16 v_15.toNatClampNeg v_28 → 
                      (∀ v_30 : Int32, v_30 = x2_6 + 1 → (∃ k : Nat, k < n_5 ∧ I_5 k v_30 F_29))))))))))))))))))))))
set_option maxRecDepth 100000 in
def P_X12_isTrue (th : Nat) (S : St) (Q : Int32 → (Nat → Nat → Int32) → Prop) : Prop :=
  (kd S th = 12 ∧ (∃ a_1 : Nat, gR S th 0 = some a_1 ∧ (kd S a_1 = 21 ∧ (vp_in 6 (ln S a_1) ∧ ((¬ (gI S a_1 6) = (-1) → 
        (P_X12_findsLikes th S (fun (F_5 : Nat → Nat → Int32) => (∃ J_7 : Int32 → Prop, (∀ (t_8 : Int32), J_7 t_8 → 
            (P_X12_gives th t_8 (wI S F_5) (fun (r_9 : Int32) (F_9 : Nat → Nat → Int32) => Q r_9 F_9))) ∧ ((¬ (F_5 th 36) = 0 → 
             J_7 0) ∧ ((F_5 th 36) = 0 → J_7 1)))))) ∧ ((gI S a_1 6) = (-1) → (P_X12_refuse th 6 S (fun (r_10 : Int32) (F_10 : Nat → 
           Nat → Int32) => Q r_10 F_10))))))))
set_option maxRecDepth 100000 in
def P_X12_falseAt (th : Nat) (p0 : Int32) (S : St) (Q : Int32 → (Nat → Nat → Int32) → Prop) : Prop :=
  (kd S th = 12 ∧ (∃ J_2 : Prop, (J_2 → (P_X12_refuse th 1 S (fun (r_3 : Int32) (F_3 : Nat → Nat → Int32) => Q r_3 F_3))) ∧ 
    ((p0 < 0 → J_2) ∧ (¬ p0 < 0 → ((p0 ≤ 1 → (∃ a_5 : Nat, gR S th 0 = some a_5 ∧ (kd S a_5 = 21 ∧ (vp_in 6 (ln S a_5) ∧ 
           ((¬ (gI S a_5 6) = (-1) → (P_X12_findsLikes th S (fun (F_9 : Nat → Nat → Int32) => (∃ J_11 : Int32 → 
                Prop, (∀ (t_12 : Int32), J_11 t_12 → (P_X12_orNone th t_12 (wI S F_9) (fun (r_13 : Int32) (F_13 : Nat → 
                    Nat → Int32) => Q r_13 F_13))) ∧ ((¬ p0 = 0 → J_11 (F_9 th 35)) ∧ (p0 = 0 → J_11 (F_9 th 34))))))) ∧ 
            ((gI S a_5 6) = (-1) → (P_X12_refuse th 6 S (fun (r_14 : Int32) (F_14 : Nat → Nat → Int32) => Q r_14 F_14)))))))) ∧ 
       (¬ p0 ≤ 1 → J_2))))))
set_option maxRecDepth 100000 in
def P_X12_repeats (th : Nat) (S : St) (Q : Int32 → (Nat → Nat → Int32) → Prop) : Prop :=
  (kd S th = 12 ∧ (∃ a_1 : Nat, gR S th 0 = some a_1 ∧ (kd S a_1 = 21 ∧ (vp_in 6 (ln S a_1) ∧ ((¬ (gI S a_1 6) = (-1) → 
        (P_X12_findsLikes th S (fun (F_5 : Nat → Nat → Int32) => (P_X12_gives th (F_5 th 36) (wI S F_5) (fun (r_6 : Int32) (F_6 : Nat → 
             Nat → Int32) => Q r_6 F_6))))) ∧ ((gI S a_1 6) = (-1) → (P_X12_refuse th 6 S (fun (r_7 : Int32) (F_7 : Nat → 
           Nat → Int32) => Q r_7 F_7))))))))
set_option maxRecDepth 100000 in
def P_X12_placeIn (th : Nat) (p0 : Int32) (p1 : Int32) (S : St) (Q : Int32 → (Nat → Nat → Int32) → Prop) : Prop :=
  (kd S th = 12 ∧ (∃ a_1 : Nat, gR S th 24 = some a_1 ∧ (P_X12_laysRow th p1 a_1 S (fun (F_2 : Nat → Nat → Int32) => (∃ I_3 : Nat → 
       Int32 → Prop, (∃ k : Nat, I_3 k 0) ∧ ∀ (n_3 : Nat) (x3_4 : Int32), I_3 n_3 x3_4 → (kd S a_1 = 21 ∧ (vp_in x3_4 (ln S a_1) ∧ 
         (((F_2 a_1 x3_4.toNatClampNeg) = (p0 - 1) → Q (x3_4 + 1) F_2) ∧ (¬ (F_2 a_1 x3_4.toNatClampNeg) = (p0 - 1) → 
           (∀ v_8 : Int32, v_8 = x3_4 + 1 → (∃ k : Nat, k < n_3 ∧ I_3 k v_8)))))))))))
set_option maxRecDepth 100000 in
def P_X12_place (th : Nat) (p0 : Int32) (p1 : Int32) (S : St) (Q : Int32 → (Nat → Nat → Int32) → Prop) : Prop :=
  (kd S th = 12 ∧ (P_X12_isBell th p0 S (fun (r_1 : Int32) => (∃ J_3 : Prop, (J_3 → (P_X12_refuse th 1 S (fun (r_4 : Int32) (F_4 : Nat → 
          Nat → Int32) => Q r_4 F_4))) ∧ ((r_1 = 0 → J_3) ∧ (¬ r_1 = 0 → ((p1 < 0 → J_3) ∧ (¬ p1 < 0 → (∃ a_6 : Nat, gR S th 0 = some a_6 ∧ 
           (kd S a_6 = 21 ∧ (vp_in 6 (ln S a_6) ∧ (∃ J_10 : Prop, (J_10 → ((¬ (gI S a_6 6) = (-1) → (vp_in (410 + p1) (ln S a_6) ∧ 
                  (P_X12_placeIn th p0 (gI S a_6 ((410 + p1).toNatClampNeg)) S (fun (r_13 : Int32) (F_13 : Nat → 
                     Nat → Int32) => (P_X12_gives th r_13 (wI S F_13) (fun (r_14 : Int32) (F_14 : Nat → Nat → Int32) => Q r_14 F_14)))))) ∧ 
                ((gI S a_6 6) = (-1) → (P_X12_refuse th 6 S (fun (r_15 : Int32) (F_15 : Nat → Nat → Int32) => Q r_15 F_15))))) ∧ 
              (((gI S a_6 6) = (-1) → J_10) ∧ (¬ (gI S a_6 6) = (-1) → ((p1 ≤ (gI S a_6 6) → J_10) ∧ (¬ p1 ≤ (gI S a_6 6) → 
                  J_3))))))))))))))))
set_option maxRecDepth 100000 in
def P_X12_blows (th : Nat) (p0 : Int32) (p1 : Int32) (S : St) (Q : Int32 → (Nat → Nat → Int32) → Prop) : Prop :=
  (kd S th = 12 ∧ (P_X12_isBell th p0 S (fun (r_1 : Int32) => (∃ J_3 : Prop, (J_3 → (P_X12_refuse th 1 S (fun (r_4 : Int32) (F_4 : Nat → 
          Nat → Int32) => Q r_4 F_4))) ∧ ((r_1 = 0 → J_3) ∧ (¬ r_1 = 0 → (P_X12_isBell th p1 S (fun (r_5 : Int32) => ((¬ r_5 = 0 → 
            (∃ a_7 : Nat, gR S th 0 = some a_7 ∧ (kd S a_7 = 21 ∧ (vp_in 6 (ln S a_7) ∧ ((¬ (gI S a_7 6) = (-1) → 
                 (∃ I_11 : Nat → Int32 → Int32 → (Nat → Nat → Int32) → Prop, (∃ k : Nat, I_11 k 0 1 (gI S)) ∧ ∀ (n_11 : Nat) (x3_12 : Int32) (x4_13 : Int32) (F_14 : Nat → 
                   Nat → Int32), I_11 n_11 x3_12 x4_13 F_14 → (((F_14 a_7 6) < x4_13 → (P_X12_gives th x3_12 (wI S F_14) (fun (r_16 : Int32) (F_16 : Nat → 
                       Nat → Int32) => Q r_16 F_16))) ∧ (¬ (F_14 a_7 6) < x4_13 → (vp_in (410 + x4_13) (ln S a_7) ∧ 
                     (P_X12_placeIn th p0 (F_14 a_7 ((410 + x4_13).toNatClampNeg)) (wI S F_14) (fun (r_18 : Int32) (F_18 : Nat → 
                        Nat → Int32) => ((¬ r_18 = p1 → (∀ v_20 : Int32, v_20 = x3_12 + 0 → (∀ v_21 : Int32, v_21 = x4_13 + 1 → 
                           (∃ k : Nat, k < n_11 ∧ I_11 k v_20 v_21 F_18)))) ∧ (r_18 = p1 → (∀ v_22 : Int32, v_22 = x3_12 + 1 → 
                          (∀ v_23 : Int32, v_23 = x4_13 + 1 → (∃ k : Nat, k < n_11 ∧ I_11 k v_22 v_23 F_18)))))))))))) ∧ 
                ((gI S a_7 6) = (-1) → (P_X12_refuse th 6 S (fun (r_24 : Int32) (F_24 : Nat → Nat → Int32) => Q r_24 F_24)))))))) ∧ 
           (r_5 = 0 → J_3))))))))))
set_option maxRecDepth 100000 in
def P_X12_dodges (th : Nat) (p0 : Int32) (S : St) (Q : Int32 → (Nat → Nat → Int32) → Prop) : Prop :=
  (kd S th = 12 ∧ (P_X12_isBell th p0 S (fun (r_1 : Int32) => ((¬ r_1 = 0 → (∃ a_3 : Nat, gR S th 0 = some a_3 ∧ 
        (kd S a_3 = 21 ∧ (vp_in 6 (ln S a_3) ∧ ((¬ (gI S a_3 6) = (-1) → (∃ I_7 : Nat → Int32 → Int32 → (Nat → 
              Nat → Int32) → Prop, (∃ k : Nat, I_7 k 0 2 (gI S)) ∧ ∀ (n_7 : Nat) (x2_8 : Int32) (x3_9 : Int32) (F_10 : Nat → 
              Nat → Int32), I_7 n_7 x2_8 x3_9 F_10 → (((F_10 a_3 6) < x3_9 → (P_X12_gives th x2_8 (wI S F_10) (fun (r_12 : Int32) (F_12 : Nat → 
                  Nat → Int32) => Q r_12 F_12))) ∧ (¬ (F_10 a_3 6) < x3_9 → (vp_in (410 + x3_9) (ln S a_3) ∧ (P_X12_placeIn th p0 (F_10 a_3 ((410 + x3_9).toNatClampNeg)) (wI S F_10) (fun (r_14 : Int32) (F_14 : Nat → 
                   Nat → Int32) => (vp_in ((410 + x3_9) - 2) (ln S a_3) ∧ (P_X12_placeIn th p0 (F_14 a_3 (((410 + x3_9) - 2).toNatClampNeg)) (wI S F_14) (fun (r_16 : Int32) (F_16 : Nat → 
                      Nat → Int32) => ((¬ r_16 = r_14 → (∀ v_18 : Int32, v_18 = x2_8 + 0 → (∀ v_19 : Int32, v_19 = x3_9 + 1 → 
                         (∃ k : Nat, k < n_7 ∧ I_7 k v_18 v_19 F_16)))) ∧ (r_16 = r_14 → (vp_in ((410 + x3_9) - 1) (ln S a_3) ∧ 
                        (P_X12_placeIn th p0 (F_16 a_3 (((410 + x3_9) - 1).toNatClampNeg)) (wI S F_16) (fun (r_21 : Int32) (F_21 : Nat → 
                           Nat → Int32) => ((r_21 = r_14 → (∀ v_23 : Int32, v_23 = x2_8 + 0 → (∀ v_24 : Int32, v_24 = x3_9 + 1 → 
                              (∃ k : Nat, k < n_7 ∧ I_7 k v_23 v_24 F_21)))) ∧ (¬ r_21 = r_14 → (∀ v_25 : Int32, v_25 = x2_8 + 1 → 
                             (∀ v_26 : Int32, v_26 = x3_9 + 1 → (∃ k : Nat, k < n_7 ∧ I_7 k v_25 v_26 F_21)))))))))))))))))))) ∧ 
           ((gI S a_3 6) = (-1) → (P_X12_refuse th 6 S (fun (r_27 : Int32) (F_27 : Nat → Nat → Int32) => Q r_27 F_27)))))))) ∧ 
      (r_1 = 0 → (P_X12_refuse th 1 S (fun (r_28 : Int32) (F_28 : Nat → Nat → Int32) => Q r_28 F_28)))))))
set_option maxRecDepth 100000 in
def P_X12_lies (th : Nat) (p0 : Int32) (S : St) (Q : Int32 → (Nat → Nat → Int32) → Prop) : Prop :=
  (kd S th = 12 ∧ (P_X12_isBell th p0 S (fun (r_1 : Int32) => ((¬ r_1 = 0 → (∃ a_3 : Nat, gR S th 0 = some a_3 ∧ 
        (kd S a_3 = 21 ∧ (vp_in 6 (ln S a_3) ∧ ((¬ (gI S a_3 6) = (-1) → (∃ I_7 : Nat → Int32 → Int32 → (Nat → 
              Nat → Int32) → Prop, (∃ k : Nat, I_7 k 0 1 (gI S)) ∧ ∀ (n_7 : Nat) (x2_8 : Int32) (x3_9 : Int32) (F_10 : Nat → 
              Nat → Int32), I_7 n_7 x2_8 x3_9 F_10 → (((F_10 a_3 6) < x3_9 → (P_X12_gives th x2_8 (wI S F_10) (fun (r_12 : Int32) (F_12 : Nat → 
                  Nat → Int32) => Q r_12 F_12))) ∧ (¬ (F_10 a_3 6) < x3_9 → (vp_in (410 + x3_9) (ln S a_3) ∧ (P_X12_placeIn th p0 (F_10 a_3 ((410 + x3_9).toNatClampNeg)) (wI S F_10) (fun (r_14 : Int32) (F_14 : Nat → 
                   Nat → Int32) => (vp_in ((410 + x3_9) - 1) (ln S a_3) ∧ (P_X12_placeIn th p0 (F_14 a_3 (((410 + x3_9) - 1).toNatClampNeg)) (wI S F_14) (fun (r_16 : Int32) (F_16 : Nat → 
                      Nat → Int32) => ((¬ r_14 = r_16 → (∀ v_18 : Int32, v_18 = x2_8 + 0 → (∀ v_19 : Int32, v_19 = x3_9 + 1 → 
                         (∃ k : Nat, k < n_7 ∧ I_7 k v_18 v_19 F_16)))) ∧ (r_14 = r_16 → (∀ v_20 : Int32, v_20 = x2_8 + 1 → 
                        (∀ v_21 : Int32, v_21 = x3_9 + 1 → (∃ k : Nat, k < n_7 ∧ I_7 k v_20 v_21 F_16))))))))))))))) ∧ 
           ((gI S a_3 6) = (-1) → (P_X12_refuse th 6 S (fun (r_22 : Int32) (F_22 : Nat → Nat → Int32) => Q r_22 F_22)))))))) ∧ 
      (r_1 = 0 → (P_X12_refuse th 1 S (fun (r_23 : Int32) (F_23 : Nat → Nat → Int32) => Q r_23 F_23)))))))
set_option maxRecDepth 100000 in
def P_X12_backward (th : Nat) (S : St) (Q : Int32 → (Nat → Nat → Int32) → Prop) : Prop :=
  (kd S th = 12 ∧ (∃ a_1 : Nat, gR S th 0 = some a_1 ∧ (kd S a_1 = 21 ∧ (vp_in 6 (ln S a_1) ∧ ((¬ (gI S a_1 6) = (-1) → 
        (∃ I_5 : Nat → Int32 → (Nat → Nat → Int32) → Prop, (∃ k : Nat, I_5 k 0 (gI S)) ∧ ∀ (n_5 : Nat) (x1_6 : Int32) (F_7 : Nat → 
          Nat → Int32), I_5 n_5 x1_6 F_7 → (((F_7 a_1 6) ≤ x1_6 → (P_X12_gives th 1 (wI S F_7) (fun (r_9 : Int32) (F_9 : Nat → 
              Nat → Int32) => Q r_9 F_9))) ∧ (¬ (F_7 a_1 6) ≤ x1_6 → (vp_in (410 + x1_6) (ln S a_1) ∧ (vp_in ((410 + x1_6) + 1) (ln S a_1) ∧ 
             (P_X12_staysIn th (F_7 a_1 ((410 + x1_6).toNatClampNeg)) (F_7 a_1 (((410 + x1_6) + 1).toNatClampNeg)) (wI S F_7) (fun (r_12 : Int32) (F_12 : Nat → 
                Nat → Int32) => (vp_in (((410 + (F_12 a_1 6)) - x1_6) - 1) (ln S a_1) ∧ (vp_in ((410 + (F_12 a_1 6)) - x1_6) (ln S a_1) ∧ 
                 (P_X12_staysIn th (F_12 a_1 ((((410 + (F_12 a_1 6)) - x1_6) - 1).toNatClampNeg)) (F_12 a_1 (((410 + (F_12 a_1 6)) - x1_6).toNatClampNeg)) (wI S F_12) (fun (r_15 : Int32) (F_15 : Nat → 
                    Nat → Int32) => ((r_12 = r_15 → (∀ v_17 : Int32, v_17 = x1_6 + 1 → (∃ k : Nat, k < n_5 ∧ I_5 k v_17 F_15))) ∧ 
                    (¬ r_12 = r_15 → (P_X12_gives th 0 (wI S F_15) (fun (r_18 : Int32) (F_18 : Nat → Nat → Int32) => Q r_18 F_18)))))))))))))))) ∧ 
       ((gI S a_1 6) = (-1) → (P_X12_refuse th 6 S (fun (r_19 : Int32) (F_19 : Nat → Nat → Int32) => Q r_19 F_19))))))))
set_option maxRecDepth 100000 in
def P_X12_music (th : Nat) (p0 : Int32) (S : St) (Q : Int32 → (Nat → Nat → Int32) → Prop) : Prop :=
  (kd S th = 12 ∧ (P_X12_isTray p0 (fun (r_1 : Int32) => ((¬ r_1 = 0 → (∃ a_3 : Nat, gR S th 6 = some a_3 ∧ (kd S a_3 = 21 ∧ 
         (vp_in p0 (ln S a_3) ∧ ((¬ (gI S a_3 p0.toNatClampNeg) = (-1) → (∃ a_7 : Nat, gR S th 0 = some a_7 ∧ (kd S a_7 = 21 ∧ 
              (vp_in 0 (ln S a_7) ∧ (((gI S a_7 0) ≤ (gI S a_3 p0.toNatClampNeg) → (∃ I_11 : Nat → Int32 → Prop, (∃ k : Nat, I_11 k 0) ∧ 
                  ∀ (n_11 : Nat) (x2_12 : Int32), I_11 n_11 x2_12 → (((gI S a_7 0) ≤ x2_12 → (vp_in 6 (ln S a_7) ∧ 
                     ((¬ (gI S a_7 6) = (-1) → (∃ I_16 : Nat → Int32 → Int32 → (Nat → Nat → Int32) → Prop, (∃ k : Nat, I_16 k 0 1 (gI S)) ∧ 
                        ∀ (n_16 : Nat) (x2_17 : Int32) (x3_18 : Int32) (F_19 : Nat → Nat → Int32), I_16 n_16 x2_17 x3_18 F_19 → 
                        (((F_19 a_7 6) < x3_18 → (P_X12_gives th x2_17 (wI S F_19) (fun (r_21 : Int32) (F_21 : Nat → 
                             Nat → Int32) => Q r_21 F_21))) ∧ (¬ (F_19 a_7 6) < x3_18 → (vp_in (410 + x3_18) (ln S a_7) ∧ 
                           (∃ a_23 : Nat, gR S th 24 = some a_23 ∧ (P_X12_laysRow th (F_19 a_7 ((410 + x3_18).toNatClampNeg)) a_23 (wI S F_19) (fun (F_24 : Nat → 
                               Nat → Int32) => (∃ I_25 : Nat → Int32 → Int32 → Prop, (∃ k : Nat, I_25 k 1 0) ∧ 
                               ∀ (n_25 : Nat) (x4_26 : Int32) (x5_27 : Int32), I_25 n_25 x4_26 x5_27 → (((F_24 a_7 0) ≤ x5_27 → 
                                 ((x4_26 = 0 → (∀ v_30 : Int32, v_30 = x2_17 + 0 → (∀ v_31 : Int32, v_31 = x3_18 + 1 → 
                                     (∃ k : Nat, k < n_16 ∧ I_16 k v_30 v_31 F_24)))) ∧ (¬ x4_26 = 0 → (∀ v_32 : Int32, v_32 = x2_17 + 1 → 
                                    (∀ v_33 : Int32, v_33 = x3_18 + 1 → (∃ k : Nat, k < n_16 ∧ I_16 k v_32 v_33 F_24)))))) ∧ 
                                (¬ (F_24 a_7 0) ≤ x5_27 → ((x4_26 = 0 → (∀ v_35 : Int32, v_35 = x5_27 + 1 → (∃ k : Nat, k < n_25 ∧ 
                                     I_25 k 0 v_35))) ∧ (¬ x4_26 = 0 → (∃ a_36 : Nat, gR S th 7 = some a_36 ∧ (kd S a_36 = 22 ∧ 
                                     (vp_in ((60 * p0) + x5_27) (ln S a_36) ∧ (((lg_cmp (gJ S a_36 (((60 * p0) + x5_27).toNatClampNeg)) 0) = 0 → 
                                        (∀ v_40 : Int32, v_40 = x5_27 + 1 → (∃ k : Nat, k < n_25 ∧ I_25 k 1 v_40))) ∧ 
                                       (¬ (lg_cmp (gJ S a_36 (((60 * p0) + x5_27).toNatClampNeg)) 0) = 0 → (kd S a_23 = 21 ∧ 
                                        (vp_in x5_27 (ln S a_23) ∧ ((¬ (lg_cmp (gJ S a_36 (((60 * p0) + x5_27).toNatClampNeg)) (((F_24 a_23 x5_27.toNatClampNeg) + 1).toInt64)) = 0 → 
    (∀ v_44 : Int32, v_44 = x5_27 + 1 → (∃ k : Nat, k < n_25 ∧ I_25 k 0 v_44))) ∧ ((lg_cmp (gJ S a_36 (((60 * p0) + x5_27).toNatClampNeg)) (((F_24 a_23 x5_27.toNatClampNeg) + 1).toInt64)) = 0 → 
    (∀ v_45 : Int32, v_45 = x5_27 + 1 → (∃ k : Nat, k < n_25 ∧ I_25 k 1 v_45)))))))))))))))))))))))) ∧ ((gI S a_7 6) = (-1) → 
                       (P_X12_refuse th 6 S (fun (r_46 : Int32) (F_46 : Nat → Nat → Int32) => Q r_46 F_46)))))) ∧ 
                   (¬ (gI S a_7 0) ≤ x2_12 → (∃ a_47 : Nat, gR S th 7 = some a_47 ∧ (kd S a_47 = 22 ∧ (vp_in ((60 * p0) + x2_12) (ln S a_47) ∧ 
                       (P_X12_isFrom (gJ S a_47 (((60 * p0) + x2_12).toNatClampNeg)) 0 ((gI S a_7 0).toInt64) (fun (r_50 : Int32) => ((¬ r_50 = 0 → 
                           (∀ v_52 : Int32, v_52 = x2_12 + 1 → (∃ k : Nat, k < n_11 ∧ I_11 k v_52))) ∧ (r_50 = 0 → 
                           (P_X12_refuse th 5 S (fun (r_53 : Int32) (F_53 : Nat → Nat → Int32) => Q r_53 F_53))))))))))))) ∧ 
                (¬ (gI S a_7 0) ≤ (gI S a_3 p0.toNatClampNeg) → (P_X12_refuse th 3 S (fun (r_54 : Int32) (F_54 : Nat → 
                    Nat → Int32) => Q r_54 F_54)))))))) ∧ ((gI S a_3 p0.toNatClampNeg) = (-1) → (P_X12_refuse th 2 S (fun (r_55 : Int32) (F_55 : Nat → 
               Nat → Int32) => Q r_55 F_55)))))))) ∧ (r_1 = 0 → (P_X12_refuse th 1 S (fun (r_56 : Int32) (F_56 : Nat → 
          Nat → Int32) => Q r_56 F_56)))))))
set_option maxRecDepth 100000 in
def P_X12_isRun (th : Nat) (p0 : Int32) (p1 : Int32) (p2 : Int32) (S : St) (Q : Int32 → Prop) : Prop :=
  (kd S th = 12 ∧ (∀ v_1 : Int32, v_1 = p0 + 1 → (∃ I_2 : Nat → Int32 → Prop, (∃ k : Nat, I_2 k v_1) ∧ ∀ (n_2 : Nat) (x4_3 : Int32), I_2 n_2 x4_3 → 
     (((p0 + p1) ≤ x4_3 → Q 1) ∧ (¬ (p0 + p1) ≤ x4_3 → (∃ a_5 : Nat, gR S th 24 = some a_5 ∧ (kd S a_5 = 21 ∧ (vp_in x4_3 (ln S a_5) ∧ 
          (vp_in (x4_3 - 1) (ln S a_5) ∧ (((gI S a_5 x4_3.toNatClampNeg) = ((gI S a_5 ((x4_3 - 1).toNatClampNeg)) + p2) → 
             (∀ v_10 : Int32, v_10 = x4_3 + 1 → (∃ k : Nat, k < n_2 ∧ I_2 k v_10))) ∧ (¬ (gI S a_5 x4_3.toNatClampNeg) = ((gI S a_5 ((x4_3 - 1).toNatClampNeg)) + p2) → 
             Q 0)))))))))))
set_option maxRecDepth 100000 in
def P_X12_runs (th : Nat) (p0 : Int32) (S : St) (Q : Int32 → (Nat → Nat → Int32) → Prop) : Prop :=
  (kd S th = 12 ∧ (∃ J_2 : Prop, (J_2 → (P_X12_refuse th 1 S (fun (r_3 : Int32) (F_3 : Nat → Nat → Int32) => Q r_3 F_3))) ∧ 
    ((p0 < 3 → J_2) ∧ (¬ p0 < 3 → (∃ a_4 : Nat, gR S th 0 = some a_4 ∧ (kd S a_4 = 21 ∧ (vp_in 0 (ln S a_4) ∧ ((p0 ≤ (gI S a_4 0) → 
           (vp_in 6 (ln S a_4) ∧ ((¬ (gI S a_4 6) = (-1) → (∃ I_10 : Nat → Int32 → Int32 → (Nat → Nat → Int32) → 
               Prop, (∃ k : Nat, I_10 k 0 1 (gI S)) ∧ ∀ (n_10 : Nat) (x2_11 : Int32) (x3_12 : Int32) (F_13 : Nat → 
                Nat → Int32), I_10 n_10 x2_11 x3_12 F_13 → (((F_13 a_4 6) < x3_12 → (P_X12_gives th x2_11 (wI S F_13) (fun (r_15 : Int32) (F_15 : Nat → 
                    Nat → Int32) => Q r_15 F_15))) ∧ (¬ (F_13 a_4 6) < x3_12 → (vp_in (410 + x3_12) (ln S a_4) ∧ 
                  (∃ a_17 : Nat, gR S th 24 = some a_17 ∧ (P_X12_laysRow th (F_13 a_4 ((410 + x3_12).toNatClampNeg)) a_17 (wI S F_13) (fun (F_18 : Nat → 
                      Nat → Int32) => (∃ I_19 : Nat → Int32 → Int32 → Prop, (∃ k : Nat, I_19 k x2_11 0) ∧ ∀ (n_19 : Nat) (x2_20 : Int32) (x4_21 : Int32), I_19 n_19 x2_20 x4_21 → 
                      (((F_18 a_4 0) < (x4_21 + p0) → (∀ v_23 : Int32, v_23 = x3_12 + 1 → (∃ k : Nat, k < n_10 ∧ 
                          I_10 k x2_20 v_23 F_18))) ∧ (¬ (F_18 a_4 0) < (x4_21 + p0) → (P_X12_isRun th x4_21 p0 1 (wI S F_18) (fun (r_24 : Int32) => ((¬ r_24 = 0 → 
                            (∀ v_26 : Int32, v_26 = x2_20 + 1 → (∀ v_27 : Int32, v_27 = x4_21 + 1 → (∃ k : Nat, k < n_19 ∧ 
                               I_19 k v_26 v_27)))) ∧ (r_24 = 0 → (P_X12_isRun th x4_21 p0 (-1) (wI S F_18) (fun (r_28 : Int32) => ((r_28 = 0 → 
                                (∀ v_30 : Int32, v_30 = x2_20 + 0 → (∀ v_31 : Int32, v_31 = x4_21 + 1 → (∃ k : Nat, k < n_19 ∧ 
                                   I_19 k v_30 v_31)))) ∧ (¬ r_28 = 0 → (∀ v_32 : Int32, v_32 = x2_20 + 1 → (∀ v_33 : Int32, v_33 = x4_21 + 1 → 
                                  (∃ k : Nat, k < n_19 ∧ I_19 k v_32 v_33)))))))))))))))))))))) ∧ ((gI S a_4 6) = (-1) → 
              (P_X12_refuse th 6 S (fun (r_34 : Int32) (F_34 : Nat → Nat → Int32) => Q r_34 F_34)))))) ∧ (¬ p0 ≤ (gI S a_4 0) → 
           J_2)))))))))
set_option maxRecDepth 100000 in
def P_X12_heard (th : Nat) (p0 : Int32) (p1 : Int32) (S : St) (Q : Int32 → (Nat → Nat → Int32) → Prop) : Prop :=
  (kd S th = 12 ∧ (∃ J_2 : Prop, (J_2 → (P_X12_refuse th 1 S (fun (r_3 : Int32) (F_3 : Nat → Nat → Int32) => Q r_3 F_3))) ∧ 
    ((p0 < 0 → J_2) ∧ (¬ p0 < 0 → (∃ a_4 : Nat, gR S th 0 = some a_4 ∧ (kd S a_4 = 21 ∧ (vp_in 6 (ln S a_4) ∧ (∃ J_8 : Prop, (J_8 → 
           ((¬ (gI S a_4 6) = (-1) → (vp_in (410 + p0) (ln S a_4) ∧ (∃ a_11 : Nat, gR S th 24 = some a_11 ∧ (P_X12_laysRow th (gI S a_4 ((410 + p0).toNatClampNeg)) a_11 S (fun (F_12 : Nat → 
                  Nat → Int32) => (∃ I_13 : Nat → Int32 → Int32 → Prop, (∃ k : Nat, I_13 k 0 0) ∧ ∀ (n_13 : Nat) (x3_14 : Int32) (x4_15 : Int32), I_13 n_13 x3_14 x4_15 → 
                  (vp_in 0 (ln S a_4) ∧ (((F_12 a_4 0) ≤ x4_15 → (P_X12_refuse th 6 (wI S F_12) (fun (r_18 : Int32) (F_18 : Nat → 
                        Nat → Int32) => Q r_18 F_18))) ∧ (¬ (F_12 a_4 0) ≤ x4_15 → (vp_in 3 (ln S a_4) ∧ (kd S a_11 = 21 ∧ 
                       (vp_in x4_15 (ln S a_11) ∧ ((¬ ((shr (F_12 a_4 3) (F_12 a_11 x4_15.toNatClampNeg)) &&& 1) = 0 → 
                          ((¬ x3_14 = p1 → (∀ v_24 : Int32, v_24 = x3_14 + 1 → (∀ v_25 : Int32, v_25 = x4_15 + 1 → 
                              (∃ k : Nat, k < n_13 ∧ I_13 k v_24 v_25)))) ∧ (x3_14 = p1 → (P_X12_gives th ((F_12 a_11 x4_15.toNatClampNeg) + 1) (wI S F_12) (fun (r_26 : Int32) (F_26 : Nat → 
                               Nat → Int32) => Q r_26 F_26))))) ∧ (((shr (F_12 a_4 3) (F_12 a_11 x4_15.toNatClampNeg)) &&& 1) = 0 → 
                          (∀ v_27 : Int32, v_27 = x4_15 + 1 → (∃ k : Nat, k < n_13 ∧ I_13 k x3_14 v_27)))))))))))))))) ∧ 
            ((gI S a_4 6) = (-1) → (P_X12_refuse th 6 S (fun (r_28 : Int32) (F_28 : Nat → Nat → Int32) => Q r_28 F_28))))) ∧ 
          (((gI S a_4 6) = (-1) → J_8) ∧ (¬ (gI S a_4 6) = (-1) → ((p0 ≤ (gI S a_4 6) → J_8) ∧ (¬ p0 ≤ (gI S a_4 6) → 
              J_2))))))))))))
set_option maxRecDepth 100000 in
def P_X12_heardOf (th : Nat) (p0 : Int32) (S : St) (Q : Int32 → (Nat → Nat → Int32) → Prop) : Prop :=
  (kd S th = 12 ∧ (∃ a_1 : Nat, gR S th 24 = some a_1 ∧ (P_X12_laysRow th p0 a_1 S (fun (F_2 : Nat → Nat → Int32) => (∃ I_3 : Nat → 
       Int32 → Int32 → Prop, (∃ k : Nat, I_3 k 0 0) ∧ ∀ (n_3 : Nat) (x2_4 : Int32) (x3_5 : Int32), I_3 n_3 x2_4 x3_5 → 
       (∃ a_6 : Nat, gR S th 0 = some a_6 ∧ (kd S a_6 = 21 ∧ (vp_in 0 (ln S a_6) ∧ (((F_2 a_6 0) ≤ x3_5 → Q x2_4 F_2) ∧ 
           (¬ (F_2 a_6 0) ≤ x3_5 → (vp_in 3 (ln S a_6) ∧ (kd S a_1 = 21 ∧ (vp_in x3_5 (ln S a_1) ∧ ((¬ ((shr (F_2 a_6 3) (F_2 a_1 x3_5.toNatClampNeg)) &&& 1) = 1 → 
                 (∀ v_14 : Int32, v_14 = x3_5 + 1 → (∃ k : Nat, k < n_3 ∧ I_3 k x2_4 v_14))) ∧ (((shr (F_2 a_6 3) (F_2 a_1 x3_5.toNatClampNeg)) &&& 1) = 1 → 
                 (∀ v_15 : Int32, v_15 = ((9 * x2_4) + (F_2 a_1 x3_5.toNatClampNeg)) + 1 → (∀ v_16 : Int32, v_16 = x3_5 + 1 → 
                   (∃ k : Nat, k < n_3 ∧ I_3 k v_15 v_16))))))))))))))))))
set_option maxRecDepth 100000 in
def P_X12_heardAlike (th : Nat) (S : St) (Q : Int32 → (Nat → Nat → Int32) → Prop) : Prop :=
  (kd S th = 12 ∧ (∃ a_1 : Nat, gR S th 0 = some a_1 ∧ (kd S a_1 = 21 ∧ (vp_in 6 (ln S a_1) ∧ ((¬ (gI S a_1 6) = (-1) → 
        (∃ I_5 : Nat → Int32 → Int32 → (Nat → Nat → Int32) → Prop, (∃ k : Nat, I_5 k 0 1 (gI S)) ∧ ∀ (n_5 : Nat) (x1_6 : Int32) (x2_7 : Int32) (F_8 : Nat → 
          Nat → Int32), I_5 n_5 x1_6 x2_7 F_8 → (((F_8 a_1 6) < x2_7 → (P_X12_gives th x1_6 (wI S F_8) (fun (r_10 : Int32) (F_10 : Nat → 
              Nat → Int32) => Q r_10 F_10))) ∧ (¬ (F_8 a_1 6) < x2_7 → (∃ a_11 : Nat, gR S th 37 = some a_11 ∧ 
            (vp_in (410 + x2_7) (ln S a_1) ∧ (P_X12_heardOf th (F_8 a_1 ((410 + x2_7).toNatClampNeg)) (wI S F_8) (fun (r_13 : Int32) (F_13 : Nat → 
                Nat → Int32) => (kd S a_11 = 21 ∧ (vp_in x2_7 (ln S a_11) ∧ (∀ F_16 : Nat → Nat → Int32, F_16 = upI F_13 a_11 x2_7.toNatClampNeg r_13 → 
                  (∃ I_17 : Nat → Int32 → Prop, (∃ k : Nat, I_17 k 1) ∧ ∀ (n_17 : Nat) (x3_18 : Int32), I_17 n_17 x3_18 → 
                   (vp_in x3_18 (ln S a_11) ∧ (((F_16 a_11 x3_18.toNatClampNeg) = (F_16 a_11 x2_7.toNatClampNeg) → 
                      ((x2_7 ≤ x3_18 → (∀ v_22 : Int32, v_22 = x1_6 + 0 → (∀ v_23 : Int32, v_23 = x2_7 + 1 → (∃ k : Nat, k < n_5 ∧ 
                           I_5 k v_22 v_23 F_16)))) ∧ (¬ x2_7 ≤ x3_18 → (∀ v_24 : Int32, v_24 = x1_6 + 1 → (∀ v_25 : Int32, v_25 = x2_7 + 1 → 
                          (∃ k : Nat, k < n_5 ∧ I_5 k v_24 v_25 F_16)))))) ∧ (¬ (F_16 a_11 x3_18.toNatClampNeg) = (F_16 a_11 x2_7.toNatClampNeg) → 
                      (∀ v_26 : Int32, v_26 = x3_18 + 1 → (∃ k : Nat, k < n_17 ∧ I_17 k v_26))))))))))))))))) ∧ 
       ((gI S a_1 6) = (-1) → (P_X12_refuse th 6 S (fun (r_27 : Int32) (F_27 : Nat → Nat → Int32) => Q r_27 F_27))))))))
set_option maxRecDepth 100000 in
def P_X12_evens (th : Nat) (S : St) (Q : Int32 → (Nat → Nat → Int32) → (Nat → Nat → Int64) → Prop) : Prop :=
  (kd S th = 12 ∧ (∃ a_1 : Nat, gR S th 0 = some a_1 ∧ (kd S a_1 = 21 ∧ (vp_in 6 (ln S a_1) ∧ ((0 < (gI S a_1 6) → 
        (∃ I_5 : Nat → Int32 → Int32 → (Nat → Nat → Int32) → Prop, (∃ k : Nat, I_5 k 0 1 (gI S)) ∧ ∀ (n_5 : Nat) (x1_6 : Int32) (x2_7 : Int32) (F_8 : Nat → 
          Nat → Int32), I_5 n_5 x1_6 x2_7 F_8 → (((F_8 a_1 6) < x2_7 → (P_X12_tellsBy th x1_6.toInt64 ((F_8 a_1 6).toInt64) (wI S F_8) (fun (r_10 : Int32) (F_10 : Nat → 
              Nat → Int32) (J_10 : Nat → Nat → Int64) => ((r_10 = 0 ∨ r_10 = 1) ∧ Q r_10 F_10 J_10)))) ∧ (¬ (F_8 a_1 6) < x2_7 → 
           (vp_in (410 + x2_7) (ln S a_1) ∧ (P_X12_isEven th (F_8 a_1 ((410 + x2_7).toNatClampNeg)) (wI S F_8) (fun (r_12 : Int32) (F_12 : Nat → 
               Nat → Int32) => ((r_12 = 0 → (∀ v_14 : Int32, v_14 = x1_6 + 0 → (∀ v_15 : Int32, v_15 = x2_7 + 1 → 
                  (∃ k : Nat, k < n_5 ∧ I_5 k v_14 v_15 F_12)))) ∧ (¬ r_12 = 0 → (∀ v_16 : Int32, v_16 = x1_6 + 1 → 
                 (∀ v_17 : Int32, v_17 = x2_7 + 1 → (∃ k : Nat, k < n_5 ∧ I_5 k v_16 v_17 F_12)))))))))))) ∧ (¬ 0 < (gI S a_1 6) → 
        (P_X12_is th 6 S (fun (r_18 : Int32) (F_18 : Nat → Nat → Int32) => ((r_18 = 0 ∨ r_18 = 1) ∧ Q r_18 F_18 (gJ S))))))))))
set_option maxRecDepth 100000 in
def P_X12_strayed (th : Nat) (p0 : Int32) (p1 : Int32) (S : St) (Q : Int32 → (Nat → Nat → Int32) → Prop) : Prop :=
  (kd S th = 12 ∧ (P_X12_isFrom p0.toInt64 0 9999 (fun (r_1 : Int32) => (∃ J_3 : Prop, (J_3 → (P_X12_refuse th 1 S (fun (r_4 : Int32) (F_4 : Nat → 
          Nat → Int32) => Q r_4 F_4))) ∧ ((r_1 = 0 → J_3) ∧ (¬ r_1 = 0 → (P_X12_isFrom p1.toInt64 0 16 (fun (r_5 : Int32) => ((¬ r_5 = 0 → 
            (∃ a_7 : Nat, gR S th 0 = some a_7 ∧ (kd S a_7 = 21 ∧ (vp_in 4 (ln S a_7) ∧ ((¬ (gI S a_7 4) = (-1) → 
                 (∀ F_11 : Nat → Nat → Int32, F_11 = upI (gI S) th 31 p0 → (P_X12_ringsAll th p1 (-1) (wI S F_11) (fun (F_12 : Nat → 
                     Nat → Int32) => (P_X12_gives th (F_12 th 33) (wI S F_12) (fun (r_13 : Int32) (F_13 : Nat → 
                       Nat → Int32) => Q r_13 F_13)))))) ∧ ((gI S a_7 4) = (-1) → (P_X12_refuse th 6 S (fun (r_14 : Int32) (F_14 : Nat → 
                    Nat → Int32) => Q r_14 F_14)))))))) ∧ (r_5 = 0 → J_3))))))))))
set_option maxRecDepth 100000 in
def P_X12_odds (th : Nat) (p0 : Int32) (p1 : Int32) (p2 : Int32) (S : St) (Q : Int32 → (Nat → Nat → Int32) → (Nat → Nat → Int64) → Prop) : Prop :=
  (kd S th = 12 ∧ (P_X12_isFrom p0.toInt64 0 9999 (fun (r_1 : Int32) => (∃ J_3 : Prop, (J_3 → (P_X12_is th 1 S (fun (r_4 : Int32) (F_4 : Nat → 
          Nat → Int32) => ((r_4 = 0 ∨ r_4 = 1) ∧ Q r_4 F_4 (gJ S))))) ∧ ((r_1 = 0 → J_3) ∧ (¬ r_1 = 0 → (P_X12_isFrom p1.toInt64 1 20 (fun (r_5 : Int32) => ((r_5 = 0 → 
            J_3) ∧ (¬ r_5 = 0 → ((9999 < ((p0 + p1) - 1) → J_3) ∧ (¬ 9999 < ((p0 + p1) - 1) → (P_X12_isFrom p2.toInt64 0 16 (fun (r_8 : Int32) => ((¬ r_8 = 0 → 
                  (∃ a_10 : Nat, gR S th 0 = some a_10 ∧ (kd S a_10 = 21 ∧ (vp_in 4 (ln S a_10) ∧ ((¬ (gI S a_10 4) = (-1) → 
                       (P_X12_ringsAll th (-1) (-1) S (fun (F_14 : Nat → Nat → Int32) => (∀ v_15 : Int32, v_15 = F_14 th 33 → 
                          (∃ I_16 : Nat → Int32 → Int32 → (Nat → Nat → Int32) → Prop, (∃ k : Nat, I_16 k 0 0 F_14) ∧ 
                           ∀ (n_16 : Nat) (x5_17 : Int32) (x6_18 : Int32) (F_19 : Nat → Nat → Int32), I_16 n_16 x5_17 x6_18 F_19 → 
                           ((p1 ≤ x6_18 → (P_X12_tellsBy th x5_17.toInt64 p1.toInt64 (wI S F_19) (fun (r_21 : Int32) (F_21 : Nat → 
                                Nat → Int32) (J_21 : Nat → Nat → Int64) => ((r_21 = 0 ∨ r_21 = 1) ∧ Q r_21 F_21 J_21)))) ∧ 
                            (¬ p1 ≤ x6_18 → (∀ v_22 : Int32, v_22 = p0 + x6_18 → (∀ F_23 : Nat → Nat → Int32, F_23 = upI F_19 th 31 v_22 → 
                               (P_X12_ringsAll th p2 (-1) (wI S F_23) (fun (F_24 : Nat → Nat → Int32) => ((¬ (F_24 th 33) = v_15 → 
                                   (∀ v_26 : Int32, v_26 = x5_17 + 0 → (∀ v_27 : Int32, v_27 = x6_18 + 1 → (∃ k : Nat, k < n_16 ∧ 
                                      I_16 k v_26 v_27 F_24)))) ∧ ((F_24 th 33) = v_15 → (∀ v_28 : Int32, v_28 = x5_17 + 1 → 
                                    (∀ v_29 : Int32, v_29 = x6_18 + 1 → (∃ k : Nat, k < n_16 ∧ I_16 k v_28 v_29 F_24)))))))))))))))) ∧ 
                      ((gI S a_10 4) = (-1) → (P_X12_is th 6 S (fun (r_30 : Int32) (F_30 : Nat → Nat → Int32) => ((r_30 = 0 ∨ r_30 = 1) ∧ 
                          Q r_30 F_30 (gJ S)))))))))) ∧ (r_8 = 0 → J_3))))))))))))))))
set_option maxRecDepth 100000 in
def P_X12_findsAll (th : Nat) (S : St) (Q : (Nat → Nat → Int32) → Prop) : Prop :=
  (kd S th = 12 ∧ (∀ v_1 : Int32, v_1 = (gI S th 29) + 1 → (∀ F_2 : Nat → Nat → Int32, F_2 = upI (gI S) th 29 v_1 → 
     (∃ a_3 : Nat, gR S th 38 = some a_3 ∧ (kd S a_3 = 21 ∧ (vp_in 0 (ln S a_3) ∧ (∀ F_6 : Nat → Nat → Int32, F_6 = upI F_2 a_3 0 0 → 
         (∃ a_7 : Nat, gR S th 28 = some a_7 ∧ (kd S a_7 = 21 ∧ (vp_in 0 (ln S a_7) ∧ (∀ v_10 : Int32, v_10 = F_6 th 29 → 
             (∀ F_11 : Nat → Nat → Int32, F_11 = upI F_6 a_7 0 v_10 → (∀ F_12 : Nat → Nat → Int32, F_12 = upI F_11 th 41 1 → 
               (∃ I_13 : Nat → Int32 → (Nat → Nat → Int32) → Prop, (∃ k : Nat, I_13 k 0 F_12) ∧ ∀ (n_13 : Nat) (x1_14 : Int32) (F_15 : Nat → 
                 Nat → Int32), I_13 n_13 x1_14 F_15 → (((F_15 th 41) ≤ x1_14 → Q F_15) ∧ (¬ (F_15 th 41) ≤ x1_14 → 
                  (∃ I_17 : Nat → Int32 → (Nat → Nat → Int32) → Prop, (∃ k : Nat, I_17 k 0 F_15) ∧ ∀ (n_17 : Nat) (x2_18 : Int32) (F_19 : Nat → 
                    Nat → Int32), I_17 n_17 x2_18 F_19 → (∃ a_20 : Nat, gR S th 0 = some a_20 ∧ (kd S a_20 = 21 ∧ 
                     (vp_in 1 (ln S a_20) ∧ (((3 * (F_19 a_20 1)) ≤ x2_18 → (∀ v_24 : Int32, v_24 = x1_14 + 1 → 
                         (∃ k : Nat, k < n_13 ∧ I_13 k v_24 F_19))) ∧ (¬ (3 * (F_19 a_20 1)) ≤ x2_18 → (vp_in x1_14 (ln S a_3) ∧ 
                         (P_X12_leadFrom th (F_19 a_3 x1_14.toNatClampNeg) (x2_18 / 3) (irm x2_18 3) (wI S F_19) (fun (r_26 : Int32) (F_26 : Nat → 
                            Nat → Int32) => (vp_in r_26 (ln S a_7) ∧ ((¬ (F_26 a_7 r_26.toNatClampNeg) = (F_26 th 29) → 
                              (∀ v_29 : Int32, v_29 = F_26 th 29 → (∀ F_30 : Nat → Nat → Int32, F_30 = upI F_26 a_7 r_26.toNatClampNeg v_29 → 
                                (∃ a_31 : Nat, gR S th 39 = some a_31 ∧ (kd S a_31 = 21 ∧ (vp_in r_26 (ln S a_31) ∧ 
                                   (∀ v_34 : Int32, v_34 = F_30 a_3 x1_14.toNatClampNeg → (∀ F_35 : Nat → Nat → 
                                     Int32, F_35 = upI F_30 a_31 r_26.toNatClampNeg v_34 → (∃ a_36 : Nat, gR S th 40 = some a_36 ∧ 
                                      (kd S a_36 = 21 ∧ (vp_in r_26 (ln S a_36) ∧ (∀ F_39 : Nat → Nat → Int32, F_39 = upI F_35 a_36 r_26.toNatClampNeg x2_18 → 
                                        (vp_in (F_39 th 41) (ln S a_3) ∧ (∀ F_41 : Nat → Nat → Int32, F_41 = upI F_39 a_3 ((F_39 th 41).toNatClampNeg) r_26 → 
   (∀ v_42 : Int32, v_42 = (F_41 th 41) + 1 → (∀ F_43 : Nat → Nat → Int32, F_43 = upI F_41 th 41 v_42 → (∀ v_44 : Int32, v_44 = x2_18 + 1 → 
      (∃ k : Nat, k < n_17 ∧ I_17 k v_44 F_43)))))))))))))))))) ∧ ((F_26 a_7 r_26.toNatClampNeg) = (F_26 th 29) → 
                              (∀ v_45 : Int32, v_45 = x2_18 + 1 → (∃ k : Nat, k < n_17 ∧ I_17 k v_45 F_26))))))))))))))))))))))))))))))
set_option maxRecDepth 100000 in
def P_X12_way (th : Nat) (p0 : Int32) (S : St) (Q : Int32 → (Nat → Nat → Int32) → Prop) : Prop :=
  (kd S th = 12 ∧ (P_X12_isRow th p0 S (fun (r_1 : Int32) => ((¬ r_1 = 0 → (P_X12_findsAll th S (fun (F_3 : Nat → 
          Nat → Int32) => (∃ a_4 : Nat, gR S th 28 = some a_4 ∧ (kd S a_4 = 21 ∧ (vp_in p0 (ln S a_4) ∧ (((F_3 a_4 p0.toNatClampNeg) = (F_3 th 29) → 
              (∃ I_8 : Nat → Int32 → Int32 → Prop, (∃ k : Nat, I_8 k 0 p0) ∧ ∀ (n_8 : Nat) (x2_9 : Int32) (x3_10 : Int32), I_8 n_8 x2_9 x3_10 → 
               ((x3_10 = 0 → (∀ F_12 : Nat → Nat → Int32, F_12 = upI F_3 th 43 x2_9 → (∀ v_13 : Int32, v_13 = x2_9 - 1 → 
                   (∃ I_14 : Nat → Int32 → Int32 → (Nat → Nat → Int32) → Prop, (∃ k : Nat, I_14 k v_13 p0 F_12) ∧ 
                    ∀ (n_14 : Nat) (x3_15 : Int32) (x4_16 : Int32) (F_17 : Nat → Nat → Int32), I_14 n_14 x3_15 x4_16 F_17 → 
                    ((x4_16 = 0 → (P_X12_gives th x2_9 (wI S F_17) (fun (r_19 : Int32) (F_19 : Nat → Nat → Int32) => Q r_19 F_19))) ∧ 
                     (¬ x4_16 = 0 → (∃ a_20 : Nat, gR S th 42 = some a_20 ∧ (∃ a_21 : Nat, gR S th 40 = some a_21 ∧ 
                        (kd S a_21 = 21 ∧ (vp_in x4_16 (ln S a_21) ∧ (kd S a_20 = 21 ∧ (vp_in x3_15 (ln S a_20) ∧ 
                            (∀ v_26 : Int32, v_26 = F_17 a_21 x4_16.toNatClampNeg → (∀ F_27 : Nat → Nat → Int32, F_27 = upI F_17 a_20 x3_15.toNatClampNeg v_26 → 
                              (∀ v_28 : Int32, v_28 = x3_15 + (-1) → (∃ a_29 : Nat, gR S th 39 = some a_29 ∧ (kd S a_29 = 21 ∧ 
                                 (vp_in x4_16 (ln S a_29) ∧ (∀ v_32 : Int32, v_32 = F_27 a_29 x4_16.toNatClampNeg → 
                                   (∃ k : Nat, k < n_14 ∧ I_14 k v_28 v_32 F_27)))))))))))))))))))) ∧ (¬ x3_10 = 0 → 
                 (∀ v_33 : Int32, v_33 = x2_9 + 1 → (∃ a_34 : Nat, gR S th 39 = some a_34 ∧ (kd S a_34 = 21 ∧ (vp_in x3_10 (ln S a_34) ∧ 
                     (∀ v_37 : Int32, v_37 = F_3 a_34 x3_10.toNatClampNeg → (∃ k : Nat, k < n_8 ∧ I_8 k v_33 v_37)))))))))) ∧ 
             (¬ (F_3 a_4 p0.toNatClampNeg) = (F_3 th 29) → (P_X12_refuse th 6 (wI S F_3) (fun (r_38 : Int32) (F_38 : Nat → 
                 Nat → Int32) => Q r_38 F_38)))))))))) ∧ (r_1 = 0 → (P_X12_refuse th 1 S (fun (r_39 : Int32) (F_39 : Nat → 
          Nat → Int32) => Q r_39 F_39)))))))
set_option maxRecDepth 100000 in
def P_X12_wayAt (th : Nat) (p0 : Int32) (p1 : Int32) (S : St) (Q : Int32 → (Nat → Nat → Int32) → Prop) : Prop :=
  (kd S th = 12 ∧ (∃ J_2 : Prop, (J_2 → (P_X12_refuse th 1 S (fun (r_3 : Int32) (F_3 : Nat → Nat → Int32) => Q r_3 F_3))) ∧ 
    ((p1 < 0 → J_2) ∧ (¬ p1 < 0 → ((p1 ≤ 1 → (∃ J_6 : Prop, (J_6 → (P_X12_refuse th 6 S (fun (r_7 : Int32) (F_7 : Nat → 
             Nat → Int32) => Q r_7 F_7))) ∧ ((p0 < 0 → J_6) ∧ (¬ p0 < 0 → ((p0 < (gI S th 43) → (∃ J_10 : Int32 → 
              Prop, (∀ (t_11 : Int32), J_10 t_11 → (P_X12_gives th t_11 S (fun (r_12 : Int32) (F_12 : Nat → Nat → 
                  Int32) => Q r_12 F_12))) ∧ ((¬ p1 = 0 → (∃ a_13 : Nat, gR S th 42 = some a_13 ∧ (kd S a_13 = 21 ∧ 
                  (vp_in p0 (ln S a_13) ∧ J_10 (irm (gI S a_13 p0.toNatClampNeg) 3))))) ∧ (p1 = 0 → (∃ a_16 : Nat, gR S th 42 = some a_16 ∧ 
                 (kd S a_16 = 21 ∧ (vp_in p0 (ln S a_16) ∧ J_10 ((gI S a_16 p0.toNatClampNeg) / 3)))))))) ∧ (¬ p0 < (gI S th 43) → 
             J_6)))))) ∧ (¬ p1 ≤ 1 → J_2))))))
set_option maxRecDepth 100000 in
def P_X12_extent (th : Nat) (S : St) (Q : Int32 → (Nat → Nat → Int32) → Prop) : Prop :=
  (kd S th = 12 ∧ (P_X12_findsAll th S (fun (F_1 : Nat → Nat → Int32) => (P_X12_gives th (F_1 th 41) (wI S F_1) (fun (r_2 : Int32) (F_2 : Nat → 
        Nat → Int32) => Q r_2 F_2)))))
set_option maxRecDepth 100000 in
def P_X12_ringsLead (th : Nat) (p0 : Int32) (p1 : Int32) (S : St) (Q : Int32 → (Nat → Nat → Int32) → Prop) : Prop :=
  (kd S th = 12 ∧ (∃ I_1 : Nat → Int32 → (Nat → Nat → Int32) → Prop, (∃ k : Nat, I_1 k 0 (gI S)) ∧ ∀ (n_1 : Nat) (x3_2 : Int32) (F_3 : Nat → 
     Nat → Int32), I_1 n_1 x3_2 F_3 → (P_X12_changesOf th p0 (wI S F_3) (fun (r_4 : Int32) => ((r_4 ≤ x3_2 → Q 1 F_3) ∧ 
       (¬ r_4 ≤ x3_2 → (P_X12_changeOf th p0 p1 x3_2 (wI S F_3) (fun (r_6 : Int32) => (P_X12_changes0 th r_6 0 (wI S F_3) (fun (F_7 : Nat → 
             Nat → Int32) => (∃ a_8 : Nat, gR S th 23 = some a_8 ∧ (P_X12_numberOf th a_8 (wI S F_7) (fun (r_9 : Int32) => (∃ I_10 : Nat → 
                Int32 → Prop, (∃ k : Nat, I_10 k 0) ∧ ∀ (n_10 : Nat) (x5_11 : Int32), I_10 n_10 x5_11 → (((F_7 th 49) ≤ x5_11 → 
                  (∃ a_13 : Nat, gR S th 47 = some a_13 ∧ (kd S a_13 = 21 ∧ (vp_in (F_7 th 49) (ln S a_13) ∧ (∀ F_16 : Nat → 
                      Nat → Int32, F_16 = upI F_7 a_13 ((F_7 th 49).toNatClampNeg) r_9 → (∀ v_17 : Int32, v_17 = (F_16 th 49) + 1 → 
                       (∀ F_18 : Nat → Nat → Int32, F_18 = upI F_16 th 49 v_17 → (∀ v_19 : Int32, v_19 = x3_2 + 1 → 
                         (∃ k : Nat, k < n_1 ∧ I_1 k v_19 F_18))))))))) ∧ (¬ (F_7 th 49) ≤ x5_11 → (∃ a_20 : Nat, gR S th 47 = some a_20 ∧ 
                   (kd S a_20 = 21 ∧ (vp_in x5_11 (ln S a_20) ∧ ((¬ (F_7 a_20 x5_11.toNatClampNeg) = r_9 → (∀ v_24 : Int32, v_24 = x5_11 + 1 → 
                        (∃ k : Nat, k < n_10 ∧ I_10 k v_24))) ∧ ((F_7 a_20 x5_11.toNatClampNeg) = r_9 → Q 0 F_7)))))))))))))))))))))
set_option maxRecDepth 100000 in
def P_X12_compositions (th : Nat) (p0 : Int32) (p1 : Int32) (p2 : Int32) (S : St) (Q : Int32 → (Nat → Nat → Int32) → Prop) : Prop :=
  (kd S th = 12 ∧ (P_X12_isMethod th p0 S (fun (r_1 : Int32) => (∃ J_3 : Prop, (J_3 → (P_X12_refuse th 1 S (fun (r_4 : Int32) (F_4 : Nat → 
          Nat → Int32) => Q r_4 F_4))) ∧ ((r_1 = 0 → J_3) ∧ (¬ r_1 = 0 → (P_X12_isFrom p1.toInt64 1 8 (fun (r_5 : Int32) => ((r_5 = 0 → 
            J_3) ∧ (¬ r_5 = 0 → (P_X12_isFrom p2.toInt64 1 7 (fun (r_7 : Int32) => ((¬ r_7 = 0 → (∀ F_9 : Nat → 
                 Nat → Int32, F_9 = upI (gI S) th 48 0 → (∃ a_10 : Nat, gR S th 46 = some a_10 ∧ (kd S a_10 = 21 ∧ 
                   (vp_in 0 (ln S a_10) ∧ (∀ F_13 : Nat → Nat → Int32, F_13 = upI F_9 a_10 0 0 → (∃ a_14 : Nat, gR S th 44 = some a_14 ∧ 
                      (kd S a_14 = 21 ∧ (vp_in 0 (ln S a_14) ∧ (∀ F_17 : Nat → Nat → Int32, F_17 = upI F_13 a_14 0 (-1) → 
                         (∃ I_18 : Nat → Int32 → Int32 → (Nat → Nat → Int32) → Prop, (∃ k : Nat, I_18 k 0 0 F_17) ∧ 
                          ∀ (n_18 : Nat) (x4_19 : Int32) (x5_20 : Int32) (F_21 : Nat → Nat → Int32), I_18 n_18 x4_19 x5_20 F_21 → 
                          ((x5_20 < 0 → (P_X12_gives th x4_19 (wI S F_21) (fun (r_23 : Int32) (F_23 : Nat → Nat → 
                               Int32) => Q r_23 F_23))) ∧ (¬ x5_20 < 0 → (vp_in x5_20 (ln S a_14) ∧ (∀ v_25 : Int32, v_25 = (F_21 a_14 x5_20.toNatClampNeg) + 1 → 
                              (∀ F_26 : Nat → Nat → Int32, F_26 = upI F_21 a_14 x5_20.toNatClampNeg v_25 → (((F_26 a_14 x5_20.toNatClampNeg) ≤ 2 → 
                                 ((¬ ((shr p2 (F_26 a_14 x5_20.toNatClampNeg)) &&& 1) = 0 → (vp_in x5_20 (ln S a_10) ∧ 
                                    (∃ a_30 : Nat, gR S th 23 = some a_30 ∧ (P_X12_laysRow th (F_26 a_10 x5_20.toNatClampNeg) a_30 (wI S F_26) (fun (F_31 : Nat → 
                                        Nat → Int32) => (P_X12_changesOf th p0 (wI S F_31) (fun (r_32 : Int32) => (∀ v_33 : Int32, v_33 = r_32 * x5_20 → 
  (∀ F_34 : Nat → Nat → Int32, F_34 = upI F_31 th 49 v_33 → (P_X12_ringsLead th p0 (F_34 a_14 x5_20.toNatClampNeg) (wI S F_34) (fun (r_35 : Int32) (F_35 : Nat → 
      Nat → Int32) => ((¬ r_35 = 0 → (P_X12_numberOf th a_30 (wI S F_35) (fun (r_37 : Int32) => ((p1 ≤ (x5_20 + 1) → 
           ((r_37 = 0 → (∀ v_40 : Int32, v_40 = x4_19 + 1 → (∃ I_41 : Nat → Int32 → (Nat → Nat → Int32) → Prop, (∃ k : Nat, I_41 k 0 F_35) ∧ 
               ∀ (n_41 : Nat) (x7_42 : Int32) (F_43 : Nat → Nat → Int32), I_41 n_41 x7_42 F_43 → (∃ J_45 : Prop, (J_45 → 
                 (∀ F_46 : Nat → Nat → Int32, F_46 = upI F_43 th 48 p1 → (∃ k : Nat, k < n_18 ∧ I_18 k v_40 x5_20 F_46))) ∧ 
                ((p1 ≤ x7_42 → J_45) ∧ (¬ p1 ≤ x7_42 → ((¬ v_40 = 1 → J_45) ∧ (v_40 = 1 → (∃ a_48 : Nat, gR S th 45 = some a_48 ∧ 
                     (vp_in x7_42 (ln S a_14) ∧ (kd S a_48 = 21 ∧ (vp_in x7_42 (ln S a_48) ∧ (∀ v_52 : Int32, v_52 = F_43 a_14 x7_42.toNatClampNeg → 
                         (∀ F_53 : Nat → Nat → Int32, F_53 = upI F_43 a_48 x7_42.toNatClampNeg v_52 → (∀ v_54 : Int32, v_54 = x7_42 + 1 → 
                           (∃ k : Nat, k < n_41 ∧ I_41 k v_54 F_53)))))))))))))))) ∧ (¬ r_37 = 0 → (∃ k : Nat, k < n_18 ∧ 
              I_18 k x4_19 x5_20 F_35)))) ∧ (¬ p1 ≤ (x5_20 + 1) → (∀ v_55 : Int32, v_55 = x5_20 + 1 → (vp_in v_55 (ln S a_10) ∧ 
             (∀ F_57 : Nat → Nat → Int32, F_57 = upI F_35 a_10 v_55.toNatClampNeg r_37 → (vp_in v_55 (ln S a_14) ∧ 
               (∀ F_59 : Nat → Nat → Int32, F_59 = upI F_57 a_14 v_55.toNatClampNeg (-1) → (∃ k : Nat, k < n_18 ∧ 
                 I_18 k x4_19 v_55 F_59))))))))))) ∧ (r_35 = 0 → (∃ k : Nat, k < n_18 ∧ I_18 k x4_19 x5_20 F_35)))))))))))))) ∧ 
                                  (((shr p2 (F_26 a_14 x5_20.toNatClampNeg)) &&& 1) = 0 → (∃ k : Nat, k < n_18 ∧ 
                                    I_18 k x4_19 x5_20 F_26)))) ∧ (¬ (F_26 a_14 x5_20.toNatClampNeg) ≤ 2 → (∀ v_60 : Int32, v_60 = x5_20 + (-1) → 
                                  (∃ k : Nat, k < n_18 ∧ I_18 k x4_19 v_60 F_26)))))))))))))))))))) ∧ (r_7 = 0 → 
                J_3))))))))))))))
set_option maxRecDepth 100000 in
def P_X12_callAt (th : Nat) (p0 : Int32) (S : St) (Q : Int32 → (Nat → Nat → Int32) → Prop) : Prop :=
  (kd S th = 12 ∧ (∃ J_2 : Prop, (J_2 → (P_X12_refuse th 6 S (fun (r_3 : Int32) (F_3 : Nat → Nat → Int32) => Q r_3 F_3))) ∧ 
    ((p0 < 0 → J_2) ∧ (¬ p0 < 0 → ((p0 < (gI S th 48) → (∃ a_5 : Nat, gR S th 45 = some a_5 ∧ (kd S a_5 = 21 ∧ 
          (vp_in p0 (ln S a_5) ∧ (P_X12_gives th (gI S a_5 p0.toNatClampNeg) S (fun (r_8 : Int32) (F_8 : Nat → 
              Nat → Int32) => Q r_8 F_8)))))) ∧ (¬ p0 < (gI S th 48) → J_2))))))
set_option maxRecDepth 100000 in
def P_X12_copies (th : Nat) (p0 : Int32) (p1 : Int32) (S : St) (Q : (Nat → Nat → Int32) → (Nat → Nat → Int64) → Prop) : Prop :=
  (kd S th = 12 ∧ (∃ I_1 : Nat → Int32 → (Nat → Nat → Int32) → Prop, (∃ k : Nat, I_1 k 0 (gI S)) ∧ ∀ (n_1 : Nat) (x3_2 : Int32) (F_3 : Nat → 
     Nat → Int32), I_1 n_1 x3_2 F_3 → ((2420 ≤ x3_2 → (∃ I_5 : Nat → Int32 → (Nat → Nat → Int64) → Prop, (∃ k : Nat, I_5 k 0 (gJ S)) ∧ 
       ∀ (n_5 : Nat) (x3_6 : Int32) (J_7 : Nat → Nat → Int64), I_5 n_5 x3_6 J_7 → ((12 ≤ x3_6 → Q F_3 J_7) ∧ (¬ 12 ≤ x3_6 → 
         (∃ a_9 : Nat, gR S th 1 = some a_9 ∧ (kd S a_9 = 22 ∧ (vp_in ((12 * p0) + x3_6) (ln S a_9) ∧ (vp_in ((12 * p1) + x3_6) (ln S a_9) ∧ 
             (∀ v_13 : Int64, v_13 = J_7 a_9 (((12 * p0) + x3_6).toNatClampNeg) → (∀ J_14 : Nat → Nat → Int64, J_14 = upJ J_7 a_9 (((12 * p1) + x3_6).toNatClampNeg) v_13 → 
               (∀ v_15 : Int32, v_15 = x3_6 + 1 → (∃ k : Nat, k < n_5 ∧ I_5 k v_15 J_14)))))))))))) ∧ (¬ 2420 ≤ x3_2 → 
      (∃ a_16 : Nat, gR S th 0 = some a_16 ∧ (kd S a_16 = 21 ∧ (vp_in ((2420 * p0) + x3_2) (ln S a_16) ∧ (vp_in ((2420 * p1) + x3_2) (ln S a_16) ∧ 
          (∀ v_20 : Int32, v_20 = F_3 a_16 (((2420 * p0) + x3_2).toNatClampNeg) → (∀ F_21 : Nat → Nat → Int32, F_21 = upI F_3 a_16 (((2420 * p1) + x3_2).toNatClampNeg) v_20 → 
            (∀ v_22 : Int32, v_22 = x3_2 + 1 → (∃ k : Nat, k < n_1 ∧ I_1 k v_22 F_21))))))))))))
set_option maxRecDepth 100000 in
def P_X12_mark (th : Nat) (S : St) (Q : Int32 → (Nat → Nat → Int32) → (Nat → Nat → Int64) → Prop) : Prop :=
  (kd S th = 12 ∧ ((¬ (gI S th 50) = 3 → (∀ v_2 : Int32, v_2 = (gI S th 50) + 1 → (∀ F_3 : Nat → Nat → Int32, F_3 = upI (gI S) th 50 v_2 → 
       (P_X12_copies th 0 (F_3 th 50) (wI S F_3) (fun (F_4 : Nat → Nat → Int32) (J_4 : Nat → Nat → Int64) => (P_X12_gives th (F_4 th 50) (wA S F_4 J_4 (gR S)) (fun (r_5 : Int32) (F_5 : Nat → 
            Nat → Int32) => Q r_5 F_5 J_4))))))) ∧ ((gI S th 50) = 3 → (P_X12_refuse th 4 S (fun (r_6 : Int32) (F_6 : Nat → 
        Nat → Int32) => Q r_6 F_6 (gJ S))))))
set_option maxRecDepth 100000 in
def P_X12_back (th : Nat) (S : St) (Q : Int32 → (Nat → Nat → Int32) → (Nat → Nat → Int64) → Prop) : Prop :=
  (kd S th = 12 ∧ ((¬ (gI S th 50) = 0 → (P_X12_copies th (gI S th 50) 0 S (fun (F_2 : Nat → Nat → Int32) (J_2 : Nat → 
        Nat → Int64) => (∀ v_3 : Int32, v_3 = (F_2 th 50) - 1 → (∀ F_4 : Nat → Nat → Int32, F_4 = upI F_2 th 50 v_3 → 
         (P_X12_gives th (F_4 th 50) (wA S F_4 J_2 (gR S)) (fun (r_5 : Int32) (F_5 : Nat → Nat → Int32) => Q r_5 F_5 J_2))))))) ∧ 
    ((gI S th 50) = 0 → (P_X12_refuse th 6 S (fun (r_6 : Int32) (F_6 : Nat → Nat → Int32) => Q r_6 F_6 (gJ S))))))
