section SZ
variable {G : GG} {p : Program} {l : Launch} {e : Env} {R : Room} {s : State} {m : MethodId} {args : Array Value} {below : List Frame} {meth : Method} {c : Code} {H : Heap} {locs : List Loc} {cells slots : Nat} {Q : State → Prop}
variable {cc : ByteArray} {nL pc : Nat} {own : String} {ls : Array Slot} {rest : List Value} {A : Nat → Prop} {S : St} {a : Nat}
variable {ci j index N : Nat} {C : String} {T : u_T} {ty : Nat → FieldType}
theorem sx_aast {i : Int32} {r : Option Nat} {k0 : Nat} (B : Bd G p s m args c cc nL own A) (h : Hp G A s.heap S H locs) (hk : kd S a = k0) (hk0 : 22 < k0) (hty : (tyl G.2.1)[k0 - 20]? = some (G.2.1 k0, .object C)) (hC : CO ci C T N ty) (hv : ∀ v, r = some v → kd S v = ci + 1) (hin : vp_in i (ln S a)) (hdg : decode cc pc = .ok (.aastore, 1))
    (kk : ∀ (H : Heap) (locs : List Loc), Hp G A s.heap (puR S a i.toNatClampNeg r) H locs → W p l e R s m args below meth c H locs cells slots Q (F0 m (pc + 1) ls rest)) : W p l e R s m args below meth c H locs cells slots Q (F0 m pc ls (va_rf r :: .int i :: .ref a :: rest)) := by
  obtain ⟨ws, k, hP, hD, hS, hk2, other, go⟩ := rp_put (S2 := puR S a i.toNatClampNeg r) h (by omega) (enc_r hk hk0) rfl (enc_r (S := puR S a i.toNatClampNeg r) hk hk0) (fun b hb => enc_eq rfl rfl rfl rfl (gR_puRn hb))
  rw [gR_puR] at go
  cases r with
  | none => exact va_astqN (D := G.1) B.1 B.2.1 B.2.2.2.2.2.1.1 hP hD hS k (k0 - 20) hk2 hty hin hdg (fun H1 locs1 a1 a2 a3 => kk H1 locs1 (go H1 locs1 a1 a2 a3))
  | some v =>
    obtain ⟨k3, hk3⟩ := other v _ (by rw [hv v rfl]; omega) (enc_o (hv v rfl) hC.2.1)
    exact va_astq (D := G.1) (r := (C, T, N)) B.1 B.2.1 B.2.2.2.2.2.1.1 hP hD hS k (k0 - 20) k3 ci hk2 hty hk3 hC.1 hin hdg (fun H1 locs1 a1 a2 a3 => kk H1 locs1 (go H1 locs1 a1 a2 a3))
def DV (ci N : Nat) (ty : Nat → FieldType) : Prop := ∀ j, j < N → defaultValue (ty j) = vp_V (fvs (fun _ => 0) (fun _ => 0) (fun _ => none) 0 (fty ci)) j
theorem sx_new (B : Bd G p s m args c cc nL own A) (h : Hp G A s.heap S H locs) (hC : CO ci C T N ty) (hdv : DV ci N ty) (hcl : Cond.classLink own index C ∈ TB) (hins : Cond.instantiable C N ∈ TB) (hini : Cond.initialized C ∈ TB) (hcells : cells + 1 ≤ R.cells) (hslots : slots + N ≤ R.slots) (hdg : decode cc pc = .ok (.new index, 3))
    (kk : ∀ (q : Nat) (H : Heap), kd S q = 0 → Hp G A s.heap (alo S q (ci + 1) 0) H locs → W p l e R s m args below meth c H locs (cells + 1) (slots + N) Q (F0 m (pc + 3) ls (.ref q :: rest))) : W p l e R s m args below meth c H locs cells slots Q (F0 m pc ls rest) := by
  obtain ⟨hx, hb, hml, hown, hts, hK, -, hA⟩ := B
  obtain ⟨c1, c2, c3, c4, c5, c6⟩ := hC
  obtain ⟨ws, hP, hD, hS, go⟩ := rp_new h
  refine va_new (D := G.1) (cl := vwCl) (ci := ci) hx hb hts c3 ty c4 hown (hts _ hcl) (hts _ hins) (hts _ hini) hK.1 hP hD hS hA c1 hdv hcells hslots hdg (fun q H1 a1 a2 a3 => ?_)
  obtain ⟨g1, g2⟩ := go q (ci + 1) 0 _ H1 (by omega) (by unfold encv; rw [if_pos (by omega)]; rfl) a1 a2 a3
  exact kk q H1 g1 g2
theorem cy_same {D : va_G} {cy : Nat → ClassId} {cA : ClassId} {t : FieldType} {k : Nat} (hK : va_K D vwCl (tyl cy) s) (h : (tyl cy)[k]? = some (cy (k + 20), t)) (hK2 : va_K D vwCl (tyl cy ++ [(cA, t)]) s) : cA = cy (k + 20) := by
  have h1 := (hK.2 k _ h).2
  have h2 := (hK2.2 8 (cA, t) rfl).2
  have key : ∀ (c1 c2 : ClassId) (u : FieldType), va_RA s c1 u → va_RA s c2 u → c1 = c2 := by
    intro c1 c2 u q1 q2
    cases u with
    | object C =>
      obtain ⟨_, _, _, _, _, z1⟩ := q1
      obtain ⟨_, _, _, _, _, z2⟩ := q2
      exact Option.some.inj (z1.symm.trans z2)
    | _ => exact Option.some.inj (Eq.trans (Eq.symm q1) q2)
  exact key _ _ _ h2 h1
theorem sx_newi {n : Int32} {M0 : Nat} (B : Bd G p s m args c cc nL own A) (h : Hp G A s.heap S H locs) (harr : Cond.arrayClass .int ∈ TB) (hN0 : n.toNatClampNeg = M0) (hn : ¬ n < 0) (hbytes : M0 * 4 ≤ 536870912) (hcells : cells + 1 ≤ R.cells) (hslots : slots + M0 ≤ R.slots) (hdg : decode cc pc = .ok (.newarray .int, 2))
    (kk : ∀ (q : Nat) (H : Heap), kd S q = 0 → Hp G A s.heap (alo S q 21 M0) H locs → W p l e R s m args below meth c H locs (cells + 1) (slots + M0) Q (F0 m (pc + 2) ls (.ref q :: rest))) : W p l e R s m args below meth c H locs cells slots Q (F0 m pc ls (.int n :: rest)) := by
  subst hN0
  obtain ⟨hx, hb, hml, hown, hts, hK, -, hA⟩ := B
  obtain ⟨ws, hP, hD, hS, go⟩ := rp_new h
  refine va_newa (atype := .int) (D := G.1) (cl := vwCl) (a0 := (n.toNatClampNeg, .inl (fun _ => 0))) hx hb (hts _ harr) rfl hK.1 hP hD hS hA (fun _ => rfl) hn rfl hbytes hcells hslots hdg (fun q cA H1 a0 a1 a2 a3 => ?_)
  have e : cA = G.2.1 21 := cy_same (k := 1) hK.1 rfl a0
  rw [e] at a1 a2
  obtain ⟨g1, g2⟩ := go q 21 n.toNatClampNeg _ H1 (by omega) rfl a1 a2 a3
  exact kk q H1 g1 g2
theorem sx_newj {n : Int32} {M0 : Nat} (B : Bd G p s m args c cc nL own A) (h : Hp G A s.heap S H locs) (harr : Cond.arrayClass .long ∈ TB) (hN0 : n.toNatClampNeg = M0) (hn : ¬ n < 0) (hbytes : M0 * 8 ≤ 536870912) (hcells : cells + 1 ≤ R.cells) (hslots : slots + M0 ≤ R.slots) (hdg : decode cc pc = .ok (.newarray .long, 2))
    (kk : ∀ (q : Nat) (H : Heap), kd S q = 0 → Hp G A s.heap (alo S q 22 M0) H locs → W p l e R s m args below meth c H locs (cells + 1) (slots + M0) Q (F0 m (pc + 2) ls (.ref q :: rest))) : W p l e R s m args below meth c H locs cells slots Q (F0 m pc ls (.int n :: rest)) := by
  subst hN0
  obtain ⟨hx, hb, hml, hown, hts, hK, -, hA⟩ := B
  obtain ⟨ws, hP, hD, hS, go⟩ := rp_new h
  refine va_newa (atype := .long) (D := G.1) (cl := vwCl) (a0 := (n.toNatClampNeg, .inr (.inl (fun _ => 0)))) hx hb (hts _ harr) rfl hK.1 hP hD hS hA (fun _ => rfl) hn rfl hbytes hcells hslots hdg (fun q cA H1 a0 a1 a2 a3 => ?_)
  have e : cA = G.2.1 22 := cy_same (k := 2) hK.1 rfl a0
  rw [e] at a1 a2
  obtain ⟨g1, g2⟩ := go q 22 n.toNatClampNeg _ H1 (by omega) rfl a1 a2 a3
  exact kk q H1 g1 g2
theorem sx_newb {n : Int32} {M0 : Nat} (B : Bd G p s m args c cc nL own A) (h : Hp G A s.heap S H locs) (harr : Cond.arrayClass .byte ∈ TB) (hN0 : n.toNatClampNeg = M0) (hn : ¬ n < 0) (hbytes : M0 * 1 ≤ 536870912) (hcells : cells + 1 ≤ R.cells) (hslots : slots + M0 ≤ R.slots) (hdg : decode cc pc = .ok (.newarray .byte, 2))
    (kk : ∀ (q : Nat) (H : Heap), kd S q = 0 → Hp G A s.heap (alo S q 20 M0) H locs → W p l e R s m args below meth c H locs (cells + 1) (slots + M0) Q (F0 m (pc + 2) ls (.ref q :: rest))) : W p l e R s m args below meth c H locs cells slots Q (F0 m pc ls (.int n :: rest)) := by
  subst hN0
  obtain ⟨hx, hb, hml, hown, hts, hK, -, hA⟩ := B
  obtain ⟨ws, hP, hD, hS, go⟩ := rp_new h
  refine va_newa (atype := .byte) (D := G.1) (cl := vwCl) (a0 := (n.toNatClampNeg, .inl (fun _ => 0))) hx hb (hts _ harr) rfl hK.1 hP hD hS hA (fun _ => rfl) hn rfl hbytes hcells hslots hdg (fun q cA H1 a0 a1 a2 a3 => ?_)
  have e : cA = G.2.1 20 := cy_same (k := 0) hK.1 rfl a0
  rw [e] at a1 a2
  obtain ⟨g1, g2⟩ := go q 20 n.toNatClampNeg _ H1 (by omega) rfl a1 a2 a3
  exact kk q H1 g1 g2
theorem sx_newq {n : Int32} {M0 : Nat} {k0 : Nat} (B : Bd G p s m args c cc nL own A) (h : Hp G A s.heap S H locs) (hAO : va_AO C s) (hk0 : 2 < k0) (hty : (tyl G.2.1)[k0]? = some (G.2.1 (k0 + 20), .object C)) (hcl : Cond.classLink own index C ∈ TB) (hN0 : n.toNatClampNeg = M0) (hn : ¬ n < 0) (hbytes : M0 * 4 ≤ 536870912) (hcells : cells + 1 ≤ R.cells) (hslots : slots + M0 ≤ R.slots) (hdg : decode cc pc = .ok (.anewarray index, 3))
    (kk : ∀ (q : Nat) (H : Heap), kd S q = 0 → Hp G A s.heap (alo S q (k0 + 20) M0) H locs → W p l e R s m args below meth c H locs (cells + 1) (slots + M0) Q (F0 m (pc + 3) ls (.ref q :: rest))) : W p l e R s m args below meth c H locs cells slots Q (F0 m pc ls (.int n :: rest)) := by
  subst hN0
  obtain ⟨hx, hb, hml, hown, hts, hK, -, hA⟩ := B
  obtain ⟨ws, hP, hD, hS, go⟩ := rp_new h
  refine va_newq (D := G.1) (cl := vwCl) hx hb hown (hts _ hcl) hAO hK.1 hP hD hS hA hn rfl hbytes hcells hslots hdg (fun q cA H1 a0 a1 a2 a3 => ?_)
  have e : cA = G.2.1 (k0 + 20) := cy_same (k := k0) hK.1 hty a0
  rw [e] at a1 a2
  obtain ⟨g1, g2⟩ := go q (k0 + 20) n.toNatClampNeg _ H1 (by omega) (by unfold encv; rw [if_neg (by omega), if_neg (by omega), if_neg (by omega)]) a1 a2 a3
  exact kk q H1 g1 g2
-- calls
theorem good_tb {w : Cond} (h : w ∈ TB) : GoodIn TB (w :: TB) := fun x hx => by
  rcases List.mem_cons.mp hx with rfl | hx
  · exact ⟨h, good_of_word (tb_good h)⟩
  · exact ⟨hx, good_of_word (tb_good hx)⟩
theorem wd_blind (av : List Value) (sz : Nat) : FrameBlind (va_Pc av (Wd G S sz)) := fun a U g mk q => by
  obtain ⟨q0, q1, q2, q3, q4⟩ := q
  exact ⟨q0, q1, q2, q3.same rfl, q4.same rfl⟩
theorem fa_sub (B : Bd G p s m args c cc nL own A) (h : Hp G A s.heap S H locs) : ∀ q, FA S H.size q → A q := fun q hq => by
  rcases hq with hq | hq
  · exact h.2.1 q hq
  · exact B.2.2.2.2.2.2.2 q (Nat.le_trans h.2.2.1 hq)
theorem wd_at (B : Bd G p s m args c cc nL own A) (h : Hp G A s.heap S H locs) {U : State} (hU : U.heap = H) (hW : s.WarmedH U.vm) : Wd G S H.size U :=
  ⟨by rw [hU], by rw [hU]; exact h.1, B.2.2.2.2.2.1.warm hW, B.2.2.2.2.2.2.1.pass hW (fun q h1 h2 => by rw [hU]; exact h.2.2.2.1 q h1 h2) (fa_sub B h)⟩
theorem sx_go {mc' ms' : Nat} {Q' : Option Value → St → Prop} {st0 : List Value} {aa : Array Value} (B : Bd G p s m args c cc nL own A) (h : Hp G A s.heap S H locs) (hr : va_Run p l e R s m args below meth c H locs cells slots mc' ms' (F0 m pc ls st0) rest (Qd G S H.size Q' aa) (FA S H.size))
    (kk : ∀ (v : Option Value) (S1 : St) (H : Heap) (locs : List Loc), Q' v S1 → Hp G A s.heap S1 H locs → W p l e R s m args below meth c H locs (cells + mc') (slots + ms') Q (F0 m (pc + 3) ls (v.toList ++ rest))) : W p l e R s m args below meth c H locs cells slots Q (F0 m pc ls st0) := by
  intro T hT X
  obtain ⟨v, st₀, t, T', L, h0, X', hL, e1, e2, ⟨⟨v', S1, hv, hq, hR, hF⟩, hz, hk⟩, st⟩ := hr T hT X
  cases hv
  rw [h0] at hz hk
  have hAA := fa_sub B h
  have hS := h.2.2
  obtain ⟨t2, a1, b1⟩ := kk v S1 T'.heap (locs ++ L) hq ⟨by rw [e1]; exact hR, fun a ha => hAA a (hF a ha), Nat.le_trans hS.1 (by rw [e1]; exact hz), fun q h1 h2 => by rw [e1, hk q (Nat.lt_of_lt_of_le h1 hS.1) (fun z => h2 (hAA q z))]; exact hS.2.1 q h1 h2, fun q hq => by
      rcases List.mem_append.mp hq with h | h
      · exact hS.2.2 q h
      · exact hAA _ (hL q h)⟩ T' rfl X'
  exact ⟨t2, st t2 a1, b1⟩
/-- what is known of a method that is called -/
def MI (y : MethodName) (bc : ByteArray) (mL : Nat) (rt : Option FieldType) (n : Nat) : Prop := Cond.code y bc mL rt ∈ TB ∧ Cond.initialized y.cls ∈ TB ∧ y.cls ≠ "java/lang/invoke/MethodHandle" ∧ y.cls ≠ "java/lang/invoke/VarHandle" ∧ (parseMethodDescriptor y.desc).map (fun d => d.parameters.length) = some n
variable {y : MethodName} {bc : ByteArray} {mL n fr lo mc' ms' : Nat} {rt : Option FieldType} {As : List Value} {Q' : Option Value → St → Prop} {st0 : List Value}
theorem sx_S (B : Bd G p s m args c cc nL own A) (h : Hp G A s.heap S H locs) (hl : ls.size = nL) (hM : Ctr G l y bc mL rt fr lo mc' ms' As S Q') (hy : MI y bc mL rt n) (hst : Cond.static y ∈ TB) (hw : Cond.methodLink own index y ∈ TB) (hn : As.length = n) (hs : st0 = As.reverse ++ rest) (hR : fr + 1 ≤ R.frames ∧ 8 + (mL + 11) + lo ≤ R.locals) (hrest : (rest.map fun v => v.category).sum ≤ 8) (hf : cells + mc' ≤ R.cells ∧ slots + ms' ≤ R.slots) (hdg : decode cc pc = .ok (.invokestatic index, 3))
    (kk : ∀ (v : Option Value) (S1 : St) (H : Heap) (locs : List Loc), Q' v S1 → Hp G A s.heap S1 H locs → W p l e R s m args below meth c H locs (cells + mc') (slots + ms') Q (F0 m (pc + 3) ls (v.toList ++ rest))) : W p l e R s m args below meth c H locs cells slots Q (F0 m pc ls st0) := by
  have B' := B
  obtain ⟨hx, hb, hml, hown, hts, hK, -, hA⟩ := B
  refine sx_go B' h (va_runS (As := As) ⟨hx, hb, hml, hown, hts⟩ (hM H.size) ⟨callB_of (ws' := TB) n hts (good_tb hy.1) rfl rfl rfl (hts _ hy.2.1) (hts _ hw) hy.2.2 hR, hts _ hst⟩ ⟨wd_blind _ _, fun U hU hW => ⟨rfl, wd_at B' h hU hW⟩⟩ rfl hn hl hs (lv_room hrest) hdg hf) kk
theorem sx_V {b : Nat} (B : Bd G p s m args c cc nL own A) (h : Hp G A s.heap S H locs) (hl : ls.size = nL) (hM : Ctr G l y bc mL rt fr lo mc' ms' (.ref b :: As) S Q') (hy : MI y bc mL rt n) (hC : CO ci C T N ty) (hk : kd S b = ci + 1) (hst : Cond.instanceMethod y ∈ TB) (hse : Cond.selects C y y ∈ TB) (hw : Cond.methodLink own index y ∈ TB) (hn : As.length = n) (hs : st0 = As.reverse ++ .ref b :: rest) (hR : fr + 1 ≤ R.frames ∧ 8 + (mL + 11) + lo ≤ R.locals) (hrest : (rest.map fun v => v.category).sum ≤ 8) (hf : cells + mc' ≤ R.cells ∧ slots + ms' ≤ R.slots) (hdg : decode cc pc = .ok (.invokevirtual index, 3))
    (kk : ∀ (v : Option Value) (S1 : St) (H : Heap) (locs : List Loc), Q' v S1 → Hp G A s.heap S1 H locs → W p l e R s m args below meth c H locs (cells + mc') (slots + ms') Q (F0 m (pc + 3) ls (v.toList ++ rest))) : W p l e R s m args below meth c H locs cells slots Q (F0 m pc ls st0) := by
  have B' := B
  obtain ⟨hx, hb, hml, hown, hts, hK, -, hA⟩ := B
  obtain ⟨ws, k, hP, hk2⟩ := rp_at h.1 (by omega) (enc_o hk hC.2.1)
  refine sx_go B' h (va_runV (C := C) (As := As) ⟨hx, hb, hml, hown, hts⟩ (hM H.size) ⟨callB_of (ws' := TB) n hts (good_tb hy.1) rfl rfl rfl (hts _ hy.2.1) (hts _ hw) hy.2.2 hR, hts _ hst, hts _ hse⟩ ⟨wd_blind _ _, va_recv hK.1 hP hC.1 hk2, fun U hU hW => ⟨rfl, wd_at B' h hU hW⟩⟩ rfl hn hl hs (lv_room hrest) hdg hf) kk
theorem sx_I {b : Nat} (B : Bd G p s m args c cc nL own A) (h : Hp G A s.heap S H locs) (hl : ls.size = nL) (hM : Ctr G l y bc mL none fr lo mc' ms' (.ref b :: As) S Q') (hy : MI y bc mL none n) (hini : y.name = "<init>") (hst : Cond.instanceMethod y ∈ TB) (hw : Cond.methodLink own index y ∈ TB) (hn : As.length = n) (hs : st0 = As.reverse ++ .ref b :: rest) (hR : fr + 1 ≤ R.frames ∧ 8 + (mL + 11) + lo ≤ R.locals) (hrest : (rest.map fun v => v.category).sum ≤ 8) (hf : cells + mc' ≤ R.cells ∧ slots + ms' ≤ R.slots) (hdg : decode cc pc = .ok (.invokespecial index, 3))
    (kk : ∀ (v : Option Value) (S1 : St) (H : Heap) (locs : List Loc), Q' v S1 → Hp G A s.heap S1 H locs → W p l e R s m args below meth c H locs (cells + mc') (slots + ms') Q (F0 m (pc + 3) ls (v.toList ++ rest))) : W p l e R s m args below meth c H locs cells slots Q (F0 m pc ls st0) := by
  have B' := B
  obtain ⟨hx, hb, hml, hown, hts, hK, -, hA⟩ := B
  refine sx_go B' h (va_runI (As := As) ⟨hx, hb, hml, hown, hts⟩ (hM H.size) ⟨callB_of (ws' := TB) n hts (good_tb hy.1) rfl rfl rfl (hts _ hy.2.1) (hts _ hw) hy.2.2 hR, hini, hts _ hst⟩ ⟨wd_blind _ _, fun U hU hW => ⟨rfl, wd_at B' h hU hW⟩⟩ rfl hn hl hs (lv_room hrest) hdg hf) kk
theorem sx_IN {b : Nat} {host : String} (B : Bd G p s m args c cc nL own A) (h : Hp G A s.heap S H locs) (hl : ls.size = nL) (hM : Ctr G l y bc mL none fr lo mc' ms' (.ref b :: As) S Q') (hy : MI y bc mL none n) (hini : y.name = "<init>") (hst : Cond.instanceMethod y ∈ TB) (hw : va_Nw (.methodLinkNest own index y host) s) (hn : As.length = n) (hs : st0 = As.reverse ++ .ref b :: rest) (hR : fr + 1 ≤ R.frames ∧ 8 + (mL + 11) + lo ≤ R.locals) (hrest : (rest.map fun v => v.category).sum ≤ 8) (hf : cells + mc' ≤ R.cells ∧ slots + ms' ≤ R.slots) (hdg : decode cc pc = .ok (.invokespecial index, 3))
    (kk : ∀ (v : Option Value) (S1 : St) (H : Heap) (locs : List Loc), Q' v S1 → Hp G A s.heap S1 H locs → W p l e R s m args below meth c H locs (cells + mc') (slots + ms') Q (F0 m (pc + 3) ls (v.toList ++ rest))) : W p l e R s m args below meth c H locs cells slots Q (F0 m pc ls st0) := by
  have B' := B
  obtain ⟨hx, hb, hml, hown, hts, hK, -, hA⟩ := B
  refine sx_go B' h (va_runIN (As := As) ⟨hx, hb, hml, hown, hts⟩ (hM H.size) ⟨va_cnB (ws' := TB) n hts (good_tb hy.1) rfl rfl rfl hw (hts _ hy.2.1) hy.2.2 hR, hini, hts _ hst⟩ ⟨wd_blind _ _, fun U hU hW => ⟨rfl, wd_at B' h hU hW⟩⟩ rfl hn hl hs (lv_room hrest) hdg hf) kk
end SZ
