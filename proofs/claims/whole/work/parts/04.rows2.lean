section SY
variable {G : GG} {p : Program} {l : Launch} {e : Env} {R : Room} {s : State} {m : MethodId} {args : Array Value} {below : List Frame} {meth : Method} {c : Code} {H : Heap} {locs : List Loc} {cells slots : Nat} {Q : State → Prop}
variable {cc : ByteArray} {nL pc : Nat} {own : String} {ls : Array Slot} {rest : List Value} {A : Nat → Prop} {S : St} {a : Nat}
variable {ci j index N : Nat} {C : String} {T : u_T} {ty : Nat → FieldType}
theorem sx_getI (B : Bd G p s m args c cc nL own A) (h : Hp G A s.heap S H locs) (hk : kd S a = ci + 1) (hC : CO ci C T N ty) (ht : (fty ci)[j]? = some 0) (hw : Cond.fieldLink own index C (T j).2.1 (T j).2.2.1 ∈ TB) (hT : (T j).1 = C) (hdg : decode cc pc = .ok (.getfield index, 3))
    (kk : W p l e R s m args below meth c H locs cells slots Q (F0 m (pc + 3) ls (.int (gI S a j) :: rest))) : W p l e R s m args below meth c H locs cells slots Q (F0 m pc ls (.ref a :: rest)) := sx_get B h hk hC ht rfl hw hT hdg kk
theorem sx_getJ (B : Bd G p s m args c cc nL own A) (h : Hp G A s.heap S H locs) (hk : kd S a = ci + 1) (hC : CO ci C T N ty) (ht : (fty ci)[j]? = some 1) (hw : Cond.fieldLink own index C (T j).2.1 (T j).2.2.1 ∈ TB) (hT : (T j).1 = C) (hdg : decode cc pc = .ok (.getfield index, 3))
    (kk : W p l e R s m args below meth c H locs cells slots Q (F0 m (pc + 3) ls (.long (gJ S a j) :: rest))) : W p l e R s m args below meth c H locs cells slots Q (F0 m pc ls (.ref a :: rest)) := sx_get B h hk hC ht rfl hw hT hdg kk
theorem sx_getR (B : Bd G p s m args c cc nL own A) (h : Hp G A s.heap S H locs) (hk : kd S a = ci + 1) (hC : CO ci C T N ty) (ht : (fty ci)[j]? = some 2) (hw : Cond.fieldLink own index C (T j).2.1 (T j).2.2.1 ∈ TB) (hT : (T j).1 = C) (hdg : decode cc pc = .ok (.getfield index, 3))
    (kk : W p l e R s m args below meth c H locs cells slots Q (F0 m (pc + 3) ls (va_rf (gR S a j) :: rest))) : W p l e R s m args below meth c H locs cells slots Q (F0 m pc ls (.ref a :: rest)) := sx_get B h hk hC ht rfl hw hT hdg kk
theorem sx_putI {x : Int32} (B : Bd G p s m args c cc nL own A) (h : Hp G A s.heap S H locs) (hk : kd S a = ci + 1) (hC : CO ci C T N ty) (ht : (fty ci)[j]? = some 0) (hw : Cond.fieldLink own index C (T j).2.1 (T j).2.2.1 ∈ TB) (hT : (T j).1 = C) (hfin : (T j).2.2.2 = false ∨ ((T j).2.2.2 = true ∧ meth.name = "<init>" ∧ (T j).1 = own)) (hy : ty j = .int) (hdg : decode cc pc = .ok (.putfield index, 3))
    (kk : ∀ (H : Heap) (locs : List Loc), Hp G A s.heap (puI S a j x) H locs → W p l e R s m args below meth c H locs cells slots Q (F0 m (pc + 3) ls rest)) : W p l e R s m args below meth c H locs cells slots Q (F0 m pc ls (.int x :: .ref a :: rest)) := by
  refine sx_put (S2 := puI S a j x) B h hk hC ht hw hT hfin (by rw [hy]; rfl) (by rw [hy]; rfl) rfl ?_ (fun b hb => enc_eq rfl rfl (gI_puIn hb) rfl rfl) hdg kk
  rw [enc_o (S := puI S a j x) hk hC.2.1, gI_puI]
  refine congrArg (fun z => Sum.inr (ci, z)) (fvs_set ht ?_ (fun k u hk2 _ => ?_)).symm
  · simp [fv, upd]
  · unfold fv
    rw [show upd (gI S a) j x k = gI S a k from if_neg hk2]
    rfl
theorem sx_putJ {x : Int64} (B : Bd G p s m args c cc nL own A) (h : Hp G A s.heap S H locs) (hk : kd S a = ci + 1) (hC : CO ci C T N ty) (ht : (fty ci)[j]? = some 1) (hw : Cond.fieldLink own index C (T j).2.1 (T j).2.2.1 ∈ TB) (hT : (T j).1 = C) (hfin : (T j).2.2.2 = false ∨ ((T j).2.2.2 = true ∧ meth.name = "<init>" ∧ (T j).1 = own)) (hy : ty j = .long) (hdg : decode cc pc = .ok (.putfield index, 3))
    (kk : ∀ (H : Heap) (locs : List Loc), Hp G A s.heap (puJ S a j x) H locs → W p l e R s m args below meth c H locs cells slots Q (F0 m (pc + 3) ls rest)) : W p l e R s m args below meth c H locs cells slots Q (F0 m pc ls (.long x :: .ref a :: rest)) := by
  refine sx_put (S2 := puJ S a j x) B h hk hC ht hw hT hfin (by rw [hy]; rfl) (by rw [hy]; rfl) rfl ?_ (fun b hb => enc_eq rfl rfl rfl (gJ_puJn hb) rfl) hdg kk
  rw [enc_o (S := puJ S a j x) hk hC.2.1, gJ_puJ]
  refine congrArg (fun z => Sum.inr (ci, z)) (fvs_set ht ?_ (fun k u hk2 _ => ?_)).symm
  · simp [fv, vp_updL]
  · unfold fv
    rw [show vp_updL (gJ S a) j x k = gJ S a k from if_neg hk2]
    rfl
def isRf : FieldType → Bool
  | .object _ => true
  | .array _ => true
  | _ => false
theorem nar_rf {t : FieldType} (h : isRf t = true) (r : Option Nat) : narrow t (va_rf r) = va_rf r ∧ fits t (va_rf r) = true := by
  cases t <;> simp [isRf] at h <;> cases r <;> exact ⟨rfl, rfl⟩
theorem sx_putR {x : Option Nat} (B : Bd G p s m args c cc nL own A) (h : Hp G A s.heap S H locs) (hk : kd S a = ci + 1) (hC : CO ci C T N ty) (ht : (fty ci)[j]? = some 2) (hw : Cond.fieldLink own index C (T j).2.1 (T j).2.2.1 ∈ TB) (hT : (T j).1 = C) (hfin : (T j).2.2.2 = false ∨ ((T j).2.2.2 = true ∧ meth.name = "<init>" ∧ (T j).1 = own)) (hy : isRf (ty j) = true) (hdg : decode cc pc = .ok (.putfield index, 3))
    (kk : ∀ (H : Heap) (locs : List Loc), Hp G A s.heap (puR S a j x) H locs → W p l e R s m args below meth c H locs cells slots Q (F0 m (pc + 3) ls rest)) : W p l e R s m args below meth c H locs cells slots Q (F0 m pc ls (va_rf x :: .ref a :: rest)) := by
  refine sx_put (S2 := puR S a j x) B h hk hC ht hw hT hfin (nar_rf hy x).1 (nar_rf hy x).2 rfl ?_ (fun b hb => enc_eq rfl rfl rfl rfl (gR_puRn hb)) hdg kk
  rw [enc_o (S := puR S a j x) hk hC.2.1, gR_puR]
  refine congrArg (fun z => Sum.inr (ci, z)) (fvs_set ht ?_ (fun k u hk2 _ => ?_)).symm
  · simp [fv, va_up]
  · unfold fv
    rw [show va_up (gR S a) j x k = gR S a k from if_neg hk2]
    rfl
-- arrays
theorem sx_iald {i : Int32} (B : Bd G p s m args c cc nL own A) (h : Hp G A s.heap S H locs) (hk : kd S a = 21) (hin : vp_in i (ln S a)) (hdg : decode cc pc = .ok (.iaload, 1))
    (kk : W p l e R s m args below meth c H locs cells slots Q (F0 m (pc + 1) ls (.int (gI S a i.toNatClampNeg) :: rest))) : W p l e R s m args below meth c H locs cells slots Q (F0 m pc ls (.int i :: .ref a :: rest)) := by
  obtain ⟨ws, k, hP, hk2⟩ := rp_at h.1 (by omega) (enc_i hk (Or.inr rfl))
  exact va_iald (D := G.1) B.1 B.2.1 B.2.2.2.2.2.1.1 hP k 1 hk2 rfl hin hdg kk
theorem sx_bald {i : Int32} (B : Bd G p s m args c cc nL own A) (h : Hp G A s.heap S H locs) (hk : kd S a = 20) (hin : vp_in i (ln S a)) (hdg : decode cc pc = .ok (.baload, 1))
    (kk : W p l e R s m args below meth c H locs cells slots Q (F0 m (pc + 1) ls (.int (gI S a i.toNatClampNeg) :: rest))) : W p l e R s m args below meth c H locs cells slots Q (F0 m pc ls (.int i :: .ref a :: rest)) := by
  obtain ⟨ws, k, hP, hk2⟩ := rp_at h.1 (by omega) (enc_i hk (Or.inl rfl))
  exact va_bald (D := G.1) B.1 B.2.1 B.2.2.2.2.2.1.1 hP k 0 hk2 rfl hin hdg kk
theorem sx_lald {i : Int32} (B : Bd G p s m args c cc nL own A) (h : Hp G A s.heap S H locs) (hk : kd S a = 22) (hin : vp_in i (ln S a)) (hdg : decode cc pc = .ok (.laload, 1))
    (kk : W p l e R s m args below meth c H locs cells slots Q (F0 m (pc + 1) ls (.long (gJ S a i.toNatClampNeg) :: rest))) : W p l e R s m args below meth c H locs cells slots Q (F0 m pc ls (.int i :: .ref a :: rest)) := by
  obtain ⟨ws, k, hP, hk2⟩ := rp_at h.1 (by omega) (enc_j hk)
  exact va_lald (D := G.1) B.1 B.2.1 B.2.2.2.2.2.1.1 hP k 2 hk2 rfl hin hdg kk
theorem sx_aald {i : Int32} {kk0 : Nat} (B : Bd G p s m args c cc nL own A) (h : Hp G A s.heap S H locs) (hk : kd S a = kk0) (hk0 : 22 < kk0) (hk1 : kk0 < 28) (hin : vp_in i (ln S a)) (hdg : decode cc pc = .ok (.aaload, 1))
    (kk : W p l e R s m args below meth c H locs cells slots Q (F0 m (pc + 1) ls (va_rf (gR S a i.toNatClampNeg) :: rest))) : W p l e R s m args below meth c H locs cells slots Q (F0 m pc ls (.int i :: .ref a :: rest)) := by
  obtain ⟨ws, k, hP, hk2⟩ := rp_at h.1 (by omega) (enc_r hk hk0)
  have hlt : i.toNatClampNeg < ln S a := Nat.not_le.mp fun q => hin (Or.inr q)
  have key : ∀ (t0 : Nat) (t : FieldType), (tyl G.2.1)[t0]? = some (G.2.1 kk0, t) → refKind t = true → W p l e R s m args below meth c H locs cells slots Q (F0 m pc ls (.int i :: .ref a :: rest)) := fun t0 t ht hr =>
    W.aald (v := va_rf (gR S a i.toNatClampNeg)) (ty := t) B.1 B.2.1 (hP k _ hk2) ((B.2.2.2.2.2.1.1.2 t0 _ ht).1 (ln S a) (fun j => va_rf (gR S a j))) hr (fun q => by cases q) (by show ¬ (i < 0 ∨ (arrV _ _ _).slots.size ≤ _); rw [arrV_size]; exact hin) (by show (arrV _ _ _).slots[_]? = _; rw [arrV_read _ _ hlt]) rfl rfl hdg kk
  rcases (by omega : kk0 = 23 ∨ kk0 = 24 ∨ kk0 = 25 ∨ kk0 = 26 ∨ kk0 = 27) with q | q | q | q | q <;> subst q
  · exact key 3 _ rfl rfl
  · exact key 4 _ rfl rfl
  · exact key 5 _ rfl rfl
  · exact key 6 _ rfl rfl
  · exact key 7 _ rfl rfl
theorem sx_alen {k0 : Nat} (B : Bd G p s m args c cc nL own A) (h : Hp G A s.heap S H locs) (hk : kd S a = k0) (hk0 : 19 < k0) (hk1 : k0 < 28) (hdg : decode cc pc = .ok (.arraylength, 1))
    (kk : W p l e R s m args below meth c H locs cells slots Q (F0 m (pc + 1) ls (.int (nI (ln S a)) :: rest))) : W p l e R s m args below meth c H locs cells slots Q (F0 m pc ls (.ref a :: rest)) := by
  rcases (by omega : k0 = 20 ∨ k0 = 21 ∨ k0 = 22 ∨ k0 = 23 ∨ k0 = 24 ∨ k0 = 25 ∨ k0 = 26 ∨ k0 = 27) with q | q | q | q | q | q | q | q <;> subst q
  · obtain ⟨ws, k, hP, hk2⟩ := rp_at h.1 (by omega) (enc_i hk (Or.inl rfl))
    exact va_alen (D := G.1) B.1 B.2.1 B.2.2.2.2.2.1.1 hP k 0 hk2 rfl rfl hdg kk
  · obtain ⟨ws, k, hP, hk2⟩ := rp_at h.1 (by omega) (enc_i hk (Or.inr rfl))
    exact va_alen (D := G.1) B.1 B.2.1 B.2.2.2.2.2.1.1 hP k 1 hk2 rfl rfl hdg kk
  · obtain ⟨ws, k, hP, hk2⟩ := rp_at h.1 (by omega) (enc_j hk)
    exact va_alen (D := G.1) B.1 B.2.1 B.2.2.2.2.2.1.1 hP k 2 hk2 rfl rfl hdg kk
  · obtain ⟨ws, k, hP, hk2⟩ := rp_at h.1 (by omega) (enc_r hk (by decide))
    exact va_alen (D := G.1) B.1 B.2.1 B.2.2.2.2.2.1.1 hP k 3 hk2 rfl rfl hdg kk
  · obtain ⟨ws, k, hP, hk2⟩ := rp_at h.1 (by omega) (enc_r hk (by decide))
    exact va_alen (D := G.1) B.1 B.2.1 B.2.2.2.2.2.1.1 hP k 4 hk2 rfl rfl hdg kk
  · obtain ⟨ws, k, hP, hk2⟩ := rp_at h.1 (by omega) (enc_r hk (by decide))
    exact va_alen (D := G.1) B.1 B.2.1 B.2.2.2.2.2.1.1 hP k 5 hk2 rfl rfl hdg kk
  · obtain ⟨ws, k, hP, hk2⟩ := rp_at h.1 (by omega) (enc_r hk (by decide))
    exact va_alen (D := G.1) B.1 B.2.1 B.2.2.2.2.2.1.1 hP k 6 hk2 rfl rfl hdg kk
  · obtain ⟨ws, k, hP, hk2⟩ := rp_at h.1 (by omega) (enc_r hk (by decide))
    exact va_alen (D := G.1) B.1 B.2.1 B.2.2.2.2.2.1.1 hP k 7 hk2 rfl rfl hdg kk
theorem sx_iast {i x : Int32} (B : Bd G p s m args c cc nL own A) (h : Hp G A s.heap S H locs) (hk : kd S a = 21) (hin : vp_in i (ln S a)) (hdg : decode cc pc = .ok (.iastore, 1))
    (kk : ∀ (H : Heap) (locs : List Loc), Hp G A s.heap (puI S a i.toNatClampNeg x) H locs → W p l e R s m args below meth c H locs cells slots Q (F0 m (pc + 1) ls rest)) : W p l e R s m args below meth c H locs cells slots Q (F0 m pc ls (.int x :: .int i :: .ref a :: rest)) := by
  obtain ⟨ws, k, hP, hD, hS, hk2, -, go⟩ := rp_put (S2 := puI S a i.toNatClampNeg x) h (by omega) (enc_i hk (Or.inr rfl)) rfl (enc_i (S := puI S a i.toNatClampNeg x) hk (Or.inr rfl)) (fun b hb => enc_eq rfl rfl (gI_puIn hb) rfl rfl)
  rw [gI_puI] at go
  exact va_iast (D := G.1) B.1 B.2.1 B.2.2.2.2.2.1.1 hP hD hS k 1 hk2 rfl hin hdg (fun H1 locs1 a1 a2 a3 => kk H1 locs1 (go H1 locs1 a1 a2 a3))
theorem sx_bast {i x : Int32} (B : Bd G p s m args c cc nL own A) (h : Hp G A s.heap S H locs) (hk : kd S a = 20) (hin : vp_in i (ln S a)) (hdg : decode cc pc = .ok (.bastore, 1))
    (kk : ∀ (H : Heap) (locs : List Loc), Hp G A s.heap (puI S a i.toNatClampNeg x.toInt8.toInt32) H locs → W p l e R s m args below meth c H locs cells slots Q (F0 m (pc + 1) ls rest)) : W p l e R s m args below meth c H locs cells slots Q (F0 m pc ls (.int x :: .int i :: .ref a :: rest)) := by
  obtain ⟨ws, k, hP, hD, hS, hk2, -, go⟩ := rp_put (S2 := puI S a i.toNatClampNeg x.toInt8.toInt32) h (by omega) (enc_i hk (Or.inl rfl)) rfl (enc_i (S := puI S a i.toNatClampNeg x.toInt8.toInt32) hk (Or.inl rfl)) (fun b hb => enc_eq rfl rfl (gI_puIn hb) rfl rfl)
  rw [gI_puI] at go
  exact va_bast (D := G.1) B.1 B.2.1 B.2.2.2.2.2.1.1 hP hD hS k 0 hk2 rfl hin hdg (fun H1 locs1 a1 a2 a3 => kk H1 locs1 (go H1 locs1 (by rw [vp_nar_byte] at a1; exact a1) (by rw [vp_nar_byte] at a2; exact a2) a3))
theorem sx_last {i : Int32} {x : Int64} (B : Bd G p s m args c cc nL own A) (h : Hp G A s.heap S H locs) (hk : kd S a = 22) (hin : vp_in i (ln S a)) (hdg : decode cc pc = .ok (.lastore, 1))
    (kk : ∀ (H : Heap) (locs : List Loc), Hp G A s.heap (puJ S a i.toNatClampNeg x) H locs → W p l e R s m args below meth c H locs cells slots Q (F0 m (pc + 1) ls rest)) : W p l e R s m args below meth c H locs cells slots Q (F0 m pc ls (.long x :: .int i :: .ref a :: rest)) := by
  obtain ⟨ws, k, hP, hD, hS, hk2, -, go⟩ := rp_put (S2 := puJ S a i.toNatClampNeg x) h (by omega) (enc_j hk) rfl (enc_j (S := puJ S a i.toNatClampNeg x) hk) (fun b hb => enc_eq rfl rfl rfl (gJ_puJn hb) rfl)
  rw [gJ_puJ] at go
  exact va_last (D := G.1) B.1 B.2.1 B.2.2.2.2.2.1.1 hP hD hS k 2 hk2 rfl hin hdg (fun H1 locs1 a1 a2 a3 => kk H1 locs1 (go H1 locs1 a1 a2 a3))
end SY
