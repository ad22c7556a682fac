section SU
variable {G : GG} {p : Program} {l : Launch} {e : Env} {R : Room} {s : State} {m : MethodId} {args : Array Value} {below : List Frame} {meth : Method} {c : Code} {H : Heap} {locs : List Loc} {cells slots : Nat} {Q : State → Prop}
variable {cc : ByteArray} {nL pc index : Nat} {own : String} {ls : Array Slot} {rest : List Value} {A : Nat → Prop} {S S0 : St} {a mc ms : Nat} {Q' : Option Value → St → Prop}
-- answers
theorem sx_iret {v : Int32} (B : Bd G p s m args c cc nL own (FA S0 s.heap.size)) (h : Hp G (FA S0 s.heap.size) s.heap S H locs) (hr : meth.sig.returnType = some .int) (hlk : meth.locks = false) (hq : Q' (some (.int v)) S) (hc : cells ≤ mc) (hs : slots ≤ ms) (hdg : decode cc pc = .ok (.ireturn, 1)) :
    W p l e R s m args below meth c H locs cells slots (MQ below (Qd G S0 s.heap.size Q') args s mc ms (FA S0 s.heap.size)) (F0 m pc ls [.int v]) := by
  refine W.widen (k := mc) (n := ms) hc hs ?_
  exact W.iret B.1 B.2.1 hr (fun t ht hW => ⟨⟨_, S, rfl, hq, by rw [ht]; exact h.1, h.2.1⟩, h.2.2.F ht⟩) h.2.2.2.2 hdg hlk
theorem sx_zret {v : Int32} (B : Bd G p s m args c cc nL own (FA S0 s.heap.size)) (h : Hp G (FA S0 s.heap.size) s.heap S H locs) (hr : meth.sig.returnType = some .boolean) (hlk : meth.locks = false) (hz : v = 0 ∨ v = 1) (hq : Q' (some (.int v)) S) (hc : cells ≤ mc) (hs : slots ≤ ms) (hdg : decode cc pc = .ok (.ireturn, 1)) :
    W p l e R s m args below meth c H locs cells slots (MQ below (Qd G S0 s.heap.size Q') args s mc ms (FA S0 s.heap.size)) (F0 m pc ls [.int v]) := by
  refine W.widen (k := mc) (n := ms) hc hs ?_
  exact W.zret B.1 B.2.1 hr (by rcases hz with rfl | rfl <;> decide) (fun t ht hW => ⟨⟨_, S, rfl, hq, by rw [ht]; exact h.1, h.2.1⟩, h.2.2.F ht⟩) h.2.2.2.2 hdg hlk
theorem sx_lret {v : Int64} (B : Bd G p s m args c cc nL own (FA S0 s.heap.size)) (h : Hp G (FA S0 s.heap.size) s.heap S H locs) (hr : meth.sig.returnType = some .long) (hlk : meth.locks = false) (hq : Q' (some (.long v)) S) (hc : cells ≤ mc) (hs : slots ≤ ms) (hdg : decode cc pc = .ok (.lreturn, 1)) :
    W p l e R s m args below meth c H locs cells slots (MQ below (Qd G S0 s.heap.size Q') args s mc ms (FA S0 s.heap.size)) (F0 m pc ls [.long v]) := by
  refine W.widen (k := mc) (n := ms) hc hs ?_
  exact W.lret B.1 B.2.1 hr (fun t ht hW => ⟨⟨_, S, rfl, hq, by rw [ht]; exact h.1, h.2.1⟩, h.2.2.F ht⟩) h.2.2.2.2 hdg hlk
theorem sx_vret (B : Bd G p s m args c cc nL own (FA S0 s.heap.size)) (h : Hp G (FA S0 s.heap.size) s.heap S H locs) (hr : meth.sig.returnType = none) (hlk : meth.locks = false) (hq : Q' none S) (hc : cells ≤ mc) (hs : slots ≤ ms) (hdg : decode cc pc = .ok (.return_, 1)) :
    W p l e R s m args below meth c H locs cells slots (MQ below (Qd G S0 s.heap.size Q') args s mc ms (FA S0 s.heap.size)) (F0 m pc ls []) := by
  refine W.widen (k := mc) (n := ms) hc hs ?_
  exact W.vret B.1 B.2.1 hr (fun t ht hW => ⟨⟨_, S, rfl, hq, by rw [ht]; exact h.1, h.2.1⟩, h.2.2.F ht⟩) h.2.2.2.2 hdg hlk
theorem sx_aret {r : Option Nat} {rt : FieldType} (B : Bd G p s m args c cc nL own (FA S0 s.heap.size)) (h : Hp G (FA S0 s.heap.size) s.heap S H locs) (hr : meth.sig.returnType = some rt) (hrt : (∃ n, rt = .object n) ∨ ∃ t, rt = .array t) (hlk : meth.locks = false) (hq : Q' (some (va_rf r)) S) (hc : cells ≤ mc) (hs : slots ≤ ms) (hdg : decode cc pc = .ok (.areturn, 1)) :
    W p l e R s m args below meth c H locs cells slots (MQ below (Qd G S0 s.heap.size Q') args s mc ms (FA S0 s.heap.size)) (F0 m pc ls [va_rf r]) := by
  refine W.widen (k := mc) (n := ms) hc hs ?_
  exact W.aret B.1 B.2.1 hr hrt (by cases r <;> simp [va_rf]) (fun t ht hW => ⟨⟨_, S, rfl, hq, by rw [ht]; exact h.1, h.2.1⟩, h.2.2.F ht⟩) h.2.2.2.2 hdg hlk
-- references that may be null, in locals
theorem rf_cat (r : Option Nat) : (va_rf r).category = 1 := by cases r <;> rfl
theorem sx_aload_n {k : Fin 4} {i : Nat} {r : Option Nat} (B : Bd G p s m args c cc nL own A) (hdg : decode cc pc = .ok (.aload_n k, 1)) (hi : (k : Nat) = i) (hl : ls[i]? = some (.val (va_rf r)))
    (kk : W p l e R s m args below meth c H locs cells slots Q (F0 m (pc + 1) ls (va_rf r :: rest))) : W p l e R s m args below meth c H locs cells slots Q (F0 m pc ls rest) := by
  cases r with
  | none => exact lv_aload_nN B.1 B.2.1 hdg hi hl kk
  | some x => exact lv_aload_n B.1 B.2.1 hdg hi hl kk
theorem sx_aload {i : Nat} {r : Option Nat} (B : Bd G p s m args c cc nL own A) (hdg : decode cc pc = .ok (.aload i, 2)) (hl : ls[i]? = some (.val (va_rf r)))
    (kk : W p l e R s m args below meth c H locs cells slots Q (F0 m (pc + 2) ls (va_rf r :: rest))) : W p l e R s m args below meth c H locs cells slots Q (F0 m pc ls rest) := by
  cases r with
  | none => exact lv_aloadN B.1 B.2.1 hdg hl kk
  | some x => exact lv_aload B.1 B.2.1 hdg hl kk
theorem sx_astore_n {k : Fin 4} {i : Nat} {r : Option Nat} {lv lv' : List (Nat × Value)} (B : Bd G p s m args c cc nL own A) (hdg : decode cc pc = .ok (.astore_n k, 1)) (hi : (k : Nat) = i) (h : lv_has ls nL lv) (hn : i < nL) (hl : (i, va_rf r) :: lv.filter (fun q => !(q.1 == i) && !(q.1 + 1 == i && q.2.category == 2)) = lv')
    (kk : ∀ ls' : Array Slot, lv_has ls' nL lv' → W p l e R s m args below meth c H locs cells slots Q (F0 m (pc + 1) ls' rest)) : W p l e R s m args below meth c H locs cells slots Q (F0 m pc ls (va_rf r :: rest)) := by
  cases r with
  | none => exact lv_astore_nN B.1 B.2.1 hdg hi h hn hl kk
  | some x => exact lv_astore_n B.1 B.2.1 hdg hi h hn hl kk
theorem sx_astore {i : Nat} {r : Option Nat} {lv lv' : List (Nat × Value)} (B : Bd G p s m args c cc nL own A) (hdg : decode cc pc = .ok (.astore i, 2)) (h : lv_has ls nL lv) (hn : i < nL) (hl : (i, va_rf r) :: lv.filter (fun q => !(q.1 == i) && !(q.1 + 1 == i && q.2.category == 2)) = lv')
    (kk : ∀ ls' : Array Slot, lv_has ls' nL lv' → W p l e R s m args below meth c H locs cells slots Q (F0 m (pc + 2) ls' rest)) : W p l e R s m args below meth c H locs cells slots Q (F0 m pc ls (va_rf r :: rest)) := by
  cases r with
  | none => exact lv_astoreN B.1 B.2.1 hdg h hn hl kk
  | some x => exact lv_astore B.1 B.2.1 hdg h hn hl kk
theorem sx_ifnonnull {r : Option Nat} {off : Int} {tgt : Nat} (B : Bd G p s m args c cc nL own A) (hdg : decode cc pc = .ok (.ifnonnull off, 3)) (ht : (pc : Int) + off = (tgt : Int)) (kt : ¬ r = none → W p l e R s m args below meth c H locs cells slots Q (F0 m tgt ls rest)) (kf : r = none → W p l e R s m args below meth c H locs cells slots Q (F0 m (pc + 3) ls rest)) : W p l e R s m args below meth c H locs cells slots Q (F0 m pc ls (va_rf r :: rest)) := by
  cases r with
  | none => exact lv_ifnonnullN B.1 B.2.1 hdg (kf rfl)
  | some x => exact lv_ifnonnull B.1 B.2.1 hdg ht (kt (fun h => by cases h))
theorem sx_ifnull {r : Option Nat} {off : Int} {tgt : Nat} (B : Bd G p s m args c cc nL own A) (hdg : decode cc pc = .ok (.ifnull off, 3)) (ht : (pc : Int) + off = (tgt : Int)) (kt : r = none → W p l e R s m args below meth c H locs cells slots Q (F0 m tgt ls rest)) (kf : ¬ r = none → W p l e R s m args below meth c H locs cells slots Q (F0 m (pc + 3) ls rest)) : W p l e R s m args below meth c H locs cells slots Q (F0 m pc ls (va_rf r :: rest)) := by
  cases r with
  | none => exact lv_ifnullN B.1 B.2.1 hdg ht (kt rfl)
  | some x => exact lv_ifnull B.1 B.2.1 hdg (kf (fun h => by cases h))
-- a name for what is on top
theorem sx_nonnull {r : Option Nat} {x : Nat} (h : r = some x) (kk : W p l e R s m args below meth c H locs cells slots Q (F0 m pc ls (.ref x :: rest))) : W p l e R s m args below meth c H locs cells slots Q (F0 m pc ls (va_rf r :: rest)) := by
  rw [h]; exact kk
-- constants
theorem sx_ldc {v : Int32} (B : Bd G p s m args c cc nL own A) (hw : Cond.constant own index v ∈ TB) (hdg : decode cc pc = .ok (.ldc index, 2)) (kk : W p l e R s m args below meth c H locs cells slots Q (F0 m (pc + 2) ls (.int v :: rest))) : W p l e R s m args below meth c H locs cells slots Q (F0 m pc ls rest) := lv_ldc B.1 B.2.1 B.2.2.2.1 (B.2.2.2.2.1 _ hw) hdg kk
theorem sx_ldcw {v : Int32} (B : Bd G p s m args c cc nL own A) (hw : Cond.constant own index v ∈ TB) (hdg : decode cc pc = .ok (.ldc_w index, 3)) (kk : W p l e R s m args below meth c H locs cells slots Q (F0 m (pc + 3) ls (.int v :: rest))) : W p l e R s m args below meth c H locs cells slots Q (F0 m pc ls rest) := lv_ldcw B.1 B.2.1 B.2.2.2.1 (B.2.2.2.2.1 _ hw) hdg kk
theorem sx_ldc2 {v : Int64} (B : Bd G p s m args c cc nL own A) (hw : Cond.constantLong own index v ∈ TB) (hdg : decode cc pc = .ok (.ldc2_w index, 3)) (kk : W p l e R s m args below meth c H locs cells slots Q (F0 m (pc + 3) ls (.long v :: rest))) : W p l e R s m args below meth c H locs cells slots Q (F0 m pc ls rest) := lv_ldc2 B.1 B.2.1 B.2.2.2.1 (B.2.2.2.2.1 _ hw) hdg kk
theorem sx_ldcS (i : Nat) (B : Bd G p s m args c cc nL own A) (hi : i < 13) (ho : sOwn i = own) (hx : sIdx.getD i 0 = index) (hdg : decode cc pc = .ok (.ldc index, 2)) (kk : W p l e R s m args below meth c H locs cells slots Q (F0 m (pc + 2) ls (.ref (G.2.2.1 i) :: rest))) : W p l e R s m args below meth c H locs cells slots Q (F0 m pc ls rest) := by
  subst ho
  subst hx
  exact va_ldcS B.1 B.2.1 B.2.2.2.1 (B.2.2.2.2.2.2.1.2.2.2.2.1 i hi) hdg kk
theorem sx_fac (B : Bd G p s m args c cc nL own A) (h : Hp G A s.heap S H locs) (hw : Cond.fieldLink own index RX4 "FACTORIALS" "[I" ∈ TB) (hdg : decode cc pc = .ok (.getstatic index, 3)) (kk : W p l e R s m args below meth c H locs cells slots Q (F0 m (pc + 3) ls (.ref G.2.2.2.2 :: rest))) : W p l e R s m args below meth c H locs cells slots Q (F0 m pc ls rest) :=
  va_gets B.1 B.2.1 B.2.2.2.2.2.2.1.1 h.2.2 B.2.2.2.1 (B.2.2.2.2.1 _ hw) (fun _ h9 => h9) hdg kk
theorem sx_facAt {i : Int32} (B : Bd G p s m args c cc nL own A) (h : Hp G A s.heap S H locs) (hin : vp_in i 9) (hdg : decode cc pc = .ok (.iaload, 1)) (kk : W p l e R s m args below meth c H locs cells slots Q (F0 m (pc + 1) ls (.int (facs.getD i.toNatClampNeg 0) :: rest))) : W p l e R s m args below meth c H locs cells slots Q (F0 m pc ls (.int i :: .ref G.2.2.2.2 :: rest)) :=
  va_ti B.1 B.2.1 B.2.2.2.2.2.2.1.2.1 h.2.2 hin rfl hdg kk
theorem sx_facLen (B : Bd G p s m args c cc nL own A) (h : Hp G A s.heap S H locs) (hdg : decode cc pc = .ok (.arraylength, 1)) (kk : W p l e R s m args below meth c H locs cells slots Q (F0 m (pc + 1) ls (.int 9 :: rest))) : W p l e R s m args below meth c H locs cells slots Q (F0 m pc ls (.ref G.2.2.2.2 :: rest)) :=
  va_tlen B.1 B.2.1 B.2.2.2.2.2.2.1.2.1 h.2.2 rfl hdg kk
-- Math, System
theorem sx_min {x y : Int32} (B : Bd G p s m args c cc nL own A) (hl : ls.size = nL) (hw : Cond.methodLink own index Lib.Math.min.name ∈ TB) (h1 : Cond.static Lib.Math.min.name ∈ TB) (h2 : Cond.initialized "java/lang/Math" ∈ TB) (h3 : Cond.code Lib.Math.min.name Lib.Math.min.code 2 (some .int) ∈ TB) (hf : 1 ≤ R.frames) (hlo : (rest.map fun v => v.category).sum + 13 ≤ R.locals) (hc : cells ≤ R.cells) (hs : slots ≤ R.slots) (hdg : decode cc pc = .ok (.invokestatic index, 3))
    (kk : W p l e R s m args below meth c H locs cells slots Q (F0 m (pc + 3) ls (.int (if y < x then y else x) :: rest))) : W p l e R s m args below meth c H locs cells slots Q (F0 m pc ls (.int y :: .int x :: rest)) :=
  va_mmin B.1 B.2.1 (B.2.2.1.trans hl.symm) B.2.2.2.1 (B.2.2.2.2.1 _ hw) (B.2.2.2.2.1 _ h1) (B.2.2.2.2.1 _ h2) (B.2.2.2.2.1 _ h3) hf hlo hc hs hdg kk
theorem sx_max {x y : Int32} (B : Bd G p s m args c cc nL own A) (hl : ls.size = nL) (hw : Cond.methodLink own index Lib.Math.max.name ∈ TB) (h1 : Cond.static Lib.Math.max.name ∈ TB) (h2 : Cond.initialized "java/lang/Math" ∈ TB) (h3 : Cond.code Lib.Math.max.name Lib.Math.max.code 2 (some .int) ∈ TB) (hf : 1 ≤ R.frames) (hlo : (rest.map fun v => v.category).sum + 13 ≤ R.locals) (hc : cells ≤ R.cells) (hs : slots ≤ R.slots) (hdg : decode cc pc = .ok (.invokestatic index, 3))
    (kk : W p l e R s m args below meth c H locs cells slots Q (F0 m (pc + 3) ls (.int (if x < y then y else x) :: rest))) : W p l e R s m args below meth c H locs cells slots Q (F0 m pc ls (.int y :: .int x :: rest)) :=
  va_mmax B.1 B.2.1 (B.2.2.1.trans hl.symm) B.2.2.2.1 (B.2.2.2.2.1 _ hw) (B.2.2.2.2.1 _ h1) (B.2.2.2.2.1 _ h2) (B.2.2.2.2.1 _ h3) hf hlo hc hs hdg kk
theorem sx_copyI {a0 : Nat} {sp dp n : Int32} (B : Bd G p s m args c cc nL own A) (h : Hp G A s.heap S H locs) (hl : ls.size = nL) (hw : Cond.methodLink own index arraycopyName ∈ TB) (w1 : Cond.native arraycopyName ∈ TB) (w2 : Cond.static arraycopyName ∈ TB) (w3 : Cond.initialized "java/lang/System" ∈ TB) (k0 : kd S a0 = 21) (k1 : kd S a = 21) (h1 : ¬ sp < 0) (h2 : ¬ dp < 0) (h3 : ¬ n < 0) (h4 : sp.toNatClampNeg + n.toNatClampNeg ≤ ln S a0) (h5 : dp.toNatClampNeg + n.toNatClampNeg ≤ ln S a) (hf : 1 ≤ R.frames) (hlo : (rest.map fun v => v.category).sum + (nativeFrameWords "java/lang/System" "arraycopy" 5 + 11) ≤ R.locals) (hdg : decode cc pc = .ok (.invokestatic index, 3))
    (kk : ∀ (H : Heap) (locs : List Loc), Hp G A s.heap (cpI S a0 a sp.toNatClampNeg dp.toNatClampNeg n.toNatClampNeg) H locs → W p l e R s m args below meth c H locs cells slots Q (F0 m (pc + 3) ls rest)) : W p l e R s m args below meth c H locs cells slots Q (F0 m pc ls (.int n :: .int dp :: .ref a :: .int sp :: .ref a0 :: rest)) := by
  obtain ⟨ws, k, hP, hD, hS, hk2, other, go⟩ := rp_put (S2 := cpI S a0 a sp.toNatClampNeg dp.toNatClampNeg n.toNatClampNeg) h (by omega) (enc_i k1 (Or.inr rfl)) rfl (enc_i (S := cpI S a0 a sp.toNatClampNeg dp.toNatClampNeg n.toNatClampNeg) k1 (Or.inr rfl)) (fun b hb => enc_eq rfl rfl (gI_cpIn hb) rfl rfl)
  rw [gI_cpI] at go
  obtain ⟨k3, hk3⟩ := other a0 _ (by omega) (enc_i k0 (Or.inr rfl))
  exact va_copyi (D := G.1) B.1 B.2.1 (B.2.2.1.trans hl.symm) B.2.2.2.1 (B.2.2.2.2.1 _ hw) (B.2.2.2.2.1 _ w1) (B.2.2.2.2.1 _ w2) (B.2.2.2.2.1 _ w3) B.2.2.2.2.2.1.1 hP hD hS k3 k 1 1 hk3 hk2 rfl rfl rfl h1 h2 h3 h4 h5 (fun _ _ => rfl) hf hlo hdg (fun H1 locs1 a1 a2 a3 => kk H1 locs1 (go H1 locs1 a1 a2 a3))
theorem sx_copyJ {a0 : Nat} {sp dp n : Int32} (B : Bd G p s m args c cc nL own A) (h : Hp G A s.heap S H locs) (hl : ls.size = nL) (hw : Cond.methodLink own index arraycopyName ∈ TB) (w1 : Cond.native arraycopyName ∈ TB) (w2 : Cond.static arraycopyName ∈ TB) (w3 : Cond.initialized "java/lang/System" ∈ TB) (k0 : kd S a0 = 22) (k1 : kd S a = 22) (h1 : ¬ sp < 0) (h2 : ¬ dp < 0) (h3 : ¬ n < 0) (h4 : sp.toNatClampNeg + n.toNatClampNeg ≤ ln S a0) (h5 : dp.toNatClampNeg + n.toNatClampNeg ≤ ln S a) (hf : 1 ≤ R.frames) (hlo : (rest.map fun v => v.category).sum + (nativeFrameWords "java/lang/System" "arraycopy" 5 + 11) ≤ R.locals) (hdg : decode cc pc = .ok (.invokestatic index, 3))
    (kk : ∀ (H : Heap) (locs : List Loc), Hp G A s.heap (cpJ S a0 a sp.toNatClampNeg dp.toNatClampNeg n.toNatClampNeg) H locs → W p l e R s m args below meth c H locs cells slots Q (F0 m (pc + 3) ls rest)) : W p l e R s m args below meth c H locs cells slots Q (F0 m pc ls (.int n :: .int dp :: .ref a :: .int sp :: .ref a0 :: rest)) := by
  obtain ⟨ws, k, hP, hD, hS, hk2, other, go⟩ := rp_put (S2 := cpJ S a0 a sp.toNatClampNeg dp.toNatClampNeg n.toNatClampNeg) h (by omega) (enc_j k1) rfl (enc_j (S := cpJ S a0 a sp.toNatClampNeg dp.toNatClampNeg n.toNatClampNeg) k1) (fun b hb => enc_eq rfl rfl rfl (gJ_cpJn hb) rfl)
  rw [gJ_cpJ] at go
  obtain ⟨k3, hk3⟩ := other a0 _ (by omega) (enc_j k0)
  exact va_copyl (D := G.1) B.1 B.2.1 (B.2.2.1.trans hl.symm) B.2.2.2.1 (B.2.2.2.2.1 _ hw) (B.2.2.2.2.1 _ w1) (B.2.2.2.2.1 _ w2) (B.2.2.2.2.1 _ w3) B.2.2.2.2.2.1.1 hP hD hS k3 k 2 2 hk3 hk2 rfl rfl rfl h1 h2 h3 h4 h5 (fun _ _ => rfl) hf hlo hdg (fun H1 locs1 a1 a2 a3 => kk H1 locs1 (go H1 locs1 a1 a2 a3))
theorem sx_objInit (B : Bd G p s m args c cc nL own A) (hl : ls.size = nL) (hw : Cond.methodLink own index Lib.objectInit ∈ TB) (h1 : Cond.instanceMethod Lib.objectInit ∈ TB) (h2 : Cond.code Lib.objectInit ⟨#[0xb1]⟩ 1 none ∈ TB) (hf : 1 ≤ R.frames) (hlo : (rest.map fun v => v.category).sum + 12 ≤ R.locals) (hdg : decode cc pc = .ok (.invokespecial index, 3))
    (kk : W p l e R s m args below meth c H locs cells slots Q (F0 m (pc + 3) ls rest)) : W p l e R s m args below meth c H locs cells slots Q (F0 m pc ls (.ref a :: rest)) :=
  W.objInit B.1 B.2.1 B.2.2.2.1 (B.2.2.2.2.1 _ hw) (B.2.2.2.2.1 _ h1) (B.2.2.2.2.1 _ h2) rfl (hl.trans B.2.2.1.symm) rfl hdg hf (by show 2 * 0 + _ + 12 ≤ _; omega) kk
end SU
/-- a method's contract out of the walk of its body -/
theorem Ctr.of {G : GG} {l : Launch} {y : MethodName} {bc : ByteArray} {mL : Nat} {rt : Option FieldType} {fr lo mc ms : Nat} {av : List Value} {S : St} {Q : Option Value → St → Prop} (hy : plainName y.cls = true) (hlen : (lg_sl av).length ≤ mL)
    (body : ∀ (p : Program) (e : Env) (s : State) (m : MethodId) (args : Array Value) (below : List Frame) (meth : Method) (c : Code) (ls : Array Slot), Bd G p s m args c bc mL y.cls (FA S s.heap.size) → meth.sig.returnType = rt → meth.locks = false → meth.name = y.name → lv_has ls mL (lv_args 0 av) → Hp G (FA S s.heap.size) s.heap S s.heap [] →
      W p l e { frames := fr, cells := mc, slots := ms, locals := lo } s m args below meth c s.heap [] 0 0 (MQ below (Qd G S s.heap.size Q) args s mc ms (FA S s.heap.size)) (F0 m 0 ls [])) : Ctr G l y bc mL rt fr lo mc ms av S Q := by
  intro sz
  refine Met.ofW (cc := bc) (maxL := mL) (ret := rt) hy rfl ?_
  intro p e s m args below meth c s₁ B hml hv
  obtain ⟨rfl, hsz, hR, hK, hF⟩ := hv
  subst hsz
  have hts := atoms_spec (ws := Cond.code y bc mL rt :: TB) B.pre
  rw [lg_entry_eq]
  exact body p e s m _ below meth c _ ⟨B.exec, B.bytes, hml, findClass_of_methodNamed B.named, fun w hw => hts w (List.mem_cons_of_mem _ hw), hK, hF, fun q hq => Or.inr hq⟩ B.returns B.notSynchronized (name_of_methodNamed B.named B.method).1 (lv_entry av hlen) ⟨hR, fun a ha => Or.inl ha, va_S.rf⟩
