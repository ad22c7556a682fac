/-! THE CLAIM OUT OF ONE WALK OF THE LAW'S BODY. Your part is whole_start (and what it stands on); all else here is the same for every law, but numbers. -/
def R_law : String := "RingChamberLaw"
def lw_P (b : Addr) (xs : List Int32) (args : Array Value) (s : State) : Prop := args = #[.ref b] ∧ s.IntsAt b xs ∧ xs.length ≤ 3072 ∧ (Jvm.Cond.and given_1 narrow_1).before args s = true
def lw_Q (_ : Array Value) (s : State) (o : Outcome) (t : State) : Prop := o = .returned (some (.int 1)) ∧ Framed s o t [] 600000 7302250
def lw_Z (below : List Frame) (a : Array Value) (s : State) : State → Prop := fun t => ∃ o, t.status = .running ∧ Ended t below o ∧ lw_Q a s o t
/-- the law's own end, with 1 on the stack, nothing written that was there before, its room as the claim has it -/
theorem lw_ret {p : Program} {l : Launch} {e : Env} {s : State} {m : MethodId} {below : List Frame} {meth : Method} {c : Code} {b : Nat} (hx : p.tables.exec = Jvm.exec) (hb : c.code = code) (hr : meth.sig.returnType = ret) (hlocks : meth.locks = false) {pc : Nat} {H : Heap} {ls : Array Slot} (hdg : decode code pc = .ok (.ireturn, 1)) : W p l e room_1 s m #[Value.ref b] below meth c H [] 600000 7302250 (lw_Z below #[Value.ref b] s) (F0 m pc ls [.int 1]) := by
  intro T hT X
  obtain ⟨fs, hret, hrun, hended, hW, hframe⟩ := X.leave (v := some (.int 1)) (hlocks := hlocks) (fun h => by rw [hr] at h; cases h)
  have hmeth' : T.vm.method? m = some meth := X.method'
  refine ⟨T.setFrames fs, ?_, .returned (some (.int 1)), hrun, hended, rfl, ⟨_, rfl⟩, hW, hframe⟩
  jvm_step X.here [X.here.top, hx, hb, hdg, hmeth', hr, ret, narrow_b1]
  (try refine ⟨rfl, ?_⟩); (try refine ⟨rfl, ?_⟩)
  first | (intro acts; rw [hret _ acts rfl rfl rfl]) | rw [hret _ _ rfl rfl rfl]
  exact Steps.refl _
/-- what holds at the law's entry: the machine, the code, the tables' words (any of lw_tbl by 'hts w (by decide +kernel)'), the script of L ints xs at the cell b, what the Statement gives of the start (any of its parts by flat_of_before) -/
def lw_At (p : Program) (s : State) (m : MethodId) (meth : Method) (c : Code) (b L : Nat) (xs : Nat → Int32) : Prop :=
  p.tables.exec = Jvm.exec ∧ c.code = code ∧ meth.sig.returnType = ret ∧ c.maxLocals = 4 ∧ s.vm.findClass R_law = some m.cls ∧ (∀ w ∈ lw_tbl, w.before #[Value.ref b] s = true) ∧ va_X b L xs s s.heap ∧ b < s.heap.size ∧ meth.locks = false ∧ (Jvm.Cond.and given_1 narrow_1).before #[Value.ref b] s = true
def es : St := (fun _ => 0, fun _ => 0, fun _ _ => 0, fun _ _ => 0, fun _ _ => none)
theorem es_FA {sz q : Nat} (h : FA es sz q) : sz ≤ q := h.elim (fun h => absurd rfl h) id
theorem es_Rp (D : va_G) (cy : Nat → ClassId) (H : Heap) : Rp D cy es H := ⟨[], fun a => ⟨fun h => (by cases h), fun h => absurd rfl h⟩, fun k q h => by simp [va_pl] at h, ⟨fun i j p q h => by simp [va_pl] at h, fun k q h => by simp [va_pl] at h⟩⟩
theorem st_arr {s : State} {args : Array Value} {t : FieldType} (h : (Cond.arrayClass t).before args s = true) (ht : isRf t = false) : ∃ c, ArrOfT s c t ∧ va_RA s c t := by
  obtain ⟨c, k, comp, h1, h2, h3⟩ := Cond.arrayClass_spec h
  refine ⟨c, fun n z => ⟨(fun k h => by cases h), k, h2, comp, h3⟩, ?_⟩
  cases t <;> first | exact h1 | (simp [isRf] at ht)
theorem st_arrO {s : State} {args : Array Value} {C : String} (h : (Cond.arrayOver (.object C)).before args s = true) : ∃ c, ArrOfT s c (.object C) ∧ va_RA s c (.object C) := by
  obtain ⟨comp, c, k, h1, h2, h3, h4, h5⟩ := Cond.arrayOver_spec h
  exact ⟨c, fun n z => ⟨(fun k h => by cases h), k, h3, comp, h4⟩, k, comp, h3, h4, h1, h5⟩
theorem st_arrA {s : State} (h : va_AOI s) : ∃ c, ArrOfT s c (.array .int) ∧ va_RA s c (.array .int) := by
  obtain ⟨comp, c, k, h1, h2, h3, h4, h5⟩ := h.spec
  exact ⟨c, fun n z => ⟨(fun k h => by cases h), k, h3, comp, h4⟩, h5⟩
def tmS (i : Nat) : Term := Term.string (sOwn i) (sIdx.getD i 0)
def flG : List Cond := flatC (Jvm.Cond.and given_1 narrow_1)
set_option maxRecDepth 100000 in
theorem fl_ex : ∀ i, i < 13 → Cond.exactly (tmS i) "java/lang/String" ∈ flG := by decide +kernel
set_option maxRecDepth 100000 in
theorem fl_co : ∀ i, i < 13 → Cond.eq (.field (tmS i) "java/lang/String" "coder" "B") (.int 0) ∈ flG := by decide +kernel
set_option maxRecDepth 100000 in
theorem fl_ar : ∀ i, i < 13 → Cond.arrayOf (.field (tmS i) "java/lang/String" "value" "[B") .byte ∈ flG := by decide +kernel
set_option maxRecDepth 100000 in
theorem fl_le : ∀ i, i < 13 → Cond.eq (.length (.field (tmS i) "java/lang/String" "value" "[B")) (.int (Int32.ofNat (sLen.getD i 0))) ∈ flG := by decide +kernel
set_option maxRecDepth 100000 in
theorem fl_el : ∀ i, i < 13 → ∀ j, j < sLen.getD i 0 → Cond.eq (.elem (.field (tmS i) "java/lang/String" "value" "[B") (.int (Int32.ofNat j))) (.int ((sByt.getD i []).getD j 0)) ∈ flG := by decide +kernel
set_option maxRecDepth 100000 in
theorem fl_ne0 : ∀ j, j < 0 → Cond.not (Cond.eq (tmS j) (tmS 0)) ∈ flG := by decide +kernel
set_option maxRecDepth 100000 in
theorem fl_ne1 : ∀ j, j < 1 → Cond.not (Cond.eq (tmS j) (tmS 1)) ∈ flG := by decide +kernel
set_option maxRecDepth 100000 in
theorem fl_ne2 : ∀ j, j < 2 → Cond.not (Cond.eq (tmS j) (tmS 2)) ∈ flG := by decide +kernel
set_option maxRecDepth 100000 in
theorem fl_ne3 : ∀ j, j < 3 → Cond.not (Cond.eq (tmS j) (tmS 3)) ∈ flG := by decide +kernel
set_option maxRecDepth 100000 in
theorem fl_ne4 : ∀ j, j < 4 → Cond.not (Cond.eq (tmS j) (tmS 4)) ∈ flG := by decide +kernel
set_option maxRecDepth 100000 in
theorem fl_ne5 : ∀ j, j < 5 → Cond.not (Cond.eq (tmS j) (tmS 5)) ∈ flG := by decide +kernel
set_option maxRecDepth 100000 in
theorem fl_ne6 : ∀ j, j < 6 → Cond.not (Cond.eq (tmS j) (tmS 6)) ∈ flG := by decide +kernel
set_option maxRecDepth 100000 in
theorem fl_ne7 : ∀ j, j < 7 → Cond.not (Cond.eq (tmS j) (tmS 7)) ∈ flG := by decide +kernel
set_option maxRecDepth 100000 in
theorem fl_ne8 : ∀ j, j < 8 → Cond.not (Cond.eq (tmS j) (tmS 8)) ∈ flG := by decide +kernel
set_option maxRecDepth 100000 in
theorem fl_ne9 : ∀ j, j < 9 → Cond.not (Cond.eq (tmS j) (tmS 9)) ∈ flG := by decide +kernel
set_option maxRecDepth 100000 in
theorem fl_ne10 : ∀ j, j < 10 → Cond.not (Cond.eq (tmS j) (tmS 10)) ∈ flG := by decide +kernel
set_option maxRecDepth 100000 in
theorem fl_ne11 : ∀ j, j < 11 → Cond.not (Cond.eq (tmS j) (tmS 11)) ∈ flG := by decide +kernel
set_option maxRecDepth 100000 in
theorem fl_ne12 : ∀ j, j < 12 → Cond.not (Cond.eq (tmS j) (tmS 12)) ∈ flG := by decide +kernel
theorem fl_nel : ∀ i, i < 13 → ∀ j, j < i → Cond.not (Cond.eq (tmS j) (tmS i)) ∈ flG := by
  intro i hi
  match i, hi with
  | 0, _ => exact fl_ne0
  | 1, _ => exact fl_ne1
  | 2, _ => exact fl_ne2
  | 3, _ => exact fl_ne3
  | 4, _ => exact fl_ne4
  | 5, _ => exact fl_ne5
  | 6, _ => exact fl_ne6
  | 7, _ => exact fl_ne7
  | 8, _ => exact fl_ne8
  | 9, _ => exact fl_ne9
  | 10, _ => exact fl_ne10
  | 11, _ => exact fl_ne11
  | 12, _ => exact fl_ne12
  | k + 13, h => exact absurd h (by omega)
theorem fl_ne (i : Nat) (hi : i < 13) (j : Nat) (hj : j < 13) (hne : i ≠ j) : (Cond.not (Cond.eq (tmS i) (tmS j)) ∈ flG ∨ Cond.not (Cond.eq (tmS j) (tmS i)) ∈ flG) := by
  rcases Nat.lt_or_gt_of_ne hne with h | h
  · exact Or.inl (fl_nel j hj i h)
  · exact Or.inr (fl_nel i hi j h)
set_option maxRecDepth 100000 in
theorem fl_fe : ∀ j, j < 9 → Cond.eq (.elem (.static "RingChamber$Rows" "FACTORIALS" "[I") (.int (Int32.ofNat j))) (.int (facs.getD j 0)) ∈ flG := by decide +kernel
set_option maxRecDepth 100000 in
theorem fl_sr : ∀ i, i < 13 → Cond.stringRef (sOwn i) (sIdx.getD i 0) (sTx.getD i "") ∈ lw_tbl := by decide +kernel
set_option maxRecDepth 100000 in
theorem start_facts {p : Program} {s : State} {m : MethodId} {meth : Method} {c : Code} {b L : Nat} {xs : Nat → Int32} (C0 : lw_At p s m meth c b L xs) : ∃ G : GG, KK G.1 G.2.1 s ∧ Fx G.2.2.1 G.2.2.2.1 G.2.2.2.2 (FA es s.heap.size) s s.heap := by
  obtain ⟨hx, hb, hr, hml, hown, hts, hX, hbl, hlocks, hgv⟩ := C0
  have hs : ∀ w ∈ flG, w.before #[Value.ref b] s = true := flat_of_before _ hgv
  have hT : ∀ w ∈ TB, w.before #[Value.ref b] s = true := fun w h => hts w (tb_tbl h)
  have hA : ∀ a : Nat, a < s.heap.size → ¬ FA es s.heap.size a := fun a ha h => by have := es_FA h; omega
  obtain ⟨c0, i0, k0⟩ := u_known (C := RX0) (T := TX0) (N := 4) (n := 4) hT inX0 (hts (.instantiable RX0 4) (by decide +kernel))
  obtain ⟨c1, i1, k1⟩ := u_known (C := RX1) (T := TX1) (N := 12) (n := 12) hT inX1 (hts (.instantiable RX1 12) (by decide +kernel))
  obtain ⟨c2, i2, k2⟩ := u_known (C := RX2) (T := TX2) (N := 6) (n := 6) hT inX2 (hts (.instantiable RX2 6) (by decide +kernel))
  obtain ⟨c3, i3, k3⟩ := u_known (C := RX3) (T := TX3) (N := 5) (n := 5) hT inX3 (hts (.instantiable RX3 5) (by decide +kernel))
  obtain ⟨c4, i4, k4⟩ := u_known (C := RX5) (T := TX5) (N := 9) (n := 9) hT inX5 (hts (.instantiable RX5 9) (by decide +kernel))
  obtain ⟨c5, i5, k5⟩ := u_known (C := RX6) (T := TX6) (N := 2) (n := 2) hT inX6 (hts (.instantiable RX6 2) (by decide +kernel))
  obtain ⟨c6, i6, k6⟩ := u_known (C := RX7) (T := TX7) (N := 11) (n := 11) hT inX7 (hts (.instantiable RX7 11) (by decide +kernel))
  obtain ⟨c7, i7, k7⟩ := u_known (C := RX8) (T := TX8) (N := 4) (n := 4) hT inX8 (hts (.instantiable RX8 4) (by decide +kernel))
  obtain ⟨c8, i8, k8⟩ := u_known (C := RX9) (T := TX9) (N := 11) (n := 11) hT inX9 (hts (.instantiable RX9 11) (by decide +kernel))
  obtain ⟨c9, i9, k9⟩ := u_known (C := RX10) (T := TX10) (N := 2) (n := 2) hT inX10 (hts (.instantiable RX10 2) (by decide +kernel))
  obtain ⟨c10, i10, k10⟩ := u_known (C := RX11) (T := TX11) (N := 17) (n := 17) hT inX11 (hts (.instantiable RX11 17) (by decide +kernel))
  obtain ⟨c11, i11, k11⟩ := u_known (C := RX12) (T := TX12) (N := 51) (n := 51) hT inX12 (hts (.instantiable RX12 51) (by decide +kernel))
  obtain ⟨y20, a20, r20⟩ := st_arr (hts (.arrayClass .byte) (by decide +kernel)) rfl
  obtain ⟨y21, a21, r21⟩ := st_arr (hts (.arrayClass .int) (by decide +kernel)) rfl
  obtain ⟨y22, a22, r22⟩ := st_arr (hts (.arrayClass .long) (by decide +kernel)) rfl
  have o0 : va_AO RX0 s := hts (.arrayOver (.object RX0)) (by decide +kernel)
  have o3 : va_AO RX3 s := hts (.arrayOver (.object RX3)) (by decide +kernel)
  have o8 : va_AO RX8 s := hts (.arrayOver (.object RX8)) (by decide +kernel)
  have o10 : va_AO RX10 s := hts (.arrayOver (.object RX10)) (by decide +kernel)
  have oI : va_AOI s := hts (.arrayOver (.array .int)) (by decide +kernel)
  obtain ⟨y23, a23, r23⟩ := st_arrO (C := RX0) o0
  obtain ⟨y24, a24, r24⟩ := st_arrO (C := RX3) o3
  obtain ⟨y25, a25, r25⟩ := st_arrO (C := RX8) o8
  obtain ⟨y26, a26, r26⟩ := st_arrO (C := RX10) o10
  obtain ⟨y27, a27, r27⟩ := st_arrA oI
  obtain ⟨sk, sv, hS, hev⟩ := vk_Sof (N := 13) (tm := tmS) (len := sLen) (byt := sByt) (A := FA es s.heap.size) (args := #[Value.ref b]) (s := s) (by decide) (fun i hi => hs _ (fl_ex i hi)) (fun i hi => hs _ (fl_co i hi)) (fun i hi => hs _ (fl_ar i hi)) (fun i hi => hs _ (fl_le i hi)) (fun i hi j hj => hs _ (fl_el i hi j hj)) (fun i j hi hj hne => (fl_ne i hi j hj hne).elim (fun h => Or.inl (hs _ h)) (fun h => Or.inr (hs _ h))) hA
  have lF : (Cond.laysStatic "RingChamber$Rows" "FACTORIALS" "[I").before #[Value.ref b] s = true := hts _ (by decide +kernel)
  obtain ⟨sf, evF, hTF⟩ := va_Tof (args := #[Value.ref b]) (s := s) (tm := .static "RingChamber$Rows" "FACTORIALS" "[I") (ty := .int) (N := 9) (f := fun j => .int (facs.getD j 0)) (A := FA es s.heap.size) (by decide) (hs _ (by decide +kernel)) (va_eqt (hs (Cond.eq (.length (.static "RingChamber$Rows" "FACTORIALS" "[I")) (.int 9)) (by decide +kernel))) (fun j hj => va_eqt (hs _ (fl_fe j hj))) hA
  refine ⟨((fun k => if k = 0 then c0 else if k = 1 then c1 else if k = 2 then c2 else if k = 3 then c3 else if k = 4 then c4 else if k = 5 then c5 else if k = 6 then c6 else if k = 7 then c7 else if k = 8 then c8 else if k = 9 then c9 else if k = 10 then c10 else c11,
      fun k => if k = 0 then i0 else if k = 1 then i1 else if k = 2 then i2 else if k = 3 then i3 else if k = 4 then i4 else if k = 5 then i5 else if k = 6 then i6 else if k = 7 then i7 else if k = 8 then i8 else if k = 9 then i9 else if k = 10 then i10 else i11),
      fun k => if k = 20 then y20 else if k = 21 then y21 else if k = 22 then y22 else if k = 23 then y23 else if k = 24 then y24 else if k = 25 then y25 else if k = 26 then y26 else y27, sk, sv, sf), ⟨⟨?_, ?_⟩, ⟨o0, o3, o8, o10, oI, va_Nw.of rfl (hts (.castable "[I" "java/lang/Cloneable") (by decide +kernel))⟩, va_Nw.of rfl (hts (.methodLinkNest RX11 91 yX6_init RX11) (by decide +kernel)), va_Nw.of rfl (hts (.methodLinkNest RX11 98 yX5_init RX11) (by decide +kernel)), va_Nw.of rfl (hts (.methodLinkNest RX11 105 yX2_init RX11) (by decide +kernel))⟩, va_Zof lF (hts (.initialized "RingChamber$Rows") (by decide +kernel)) evF hA, hTF, hS, va_Zof (hts (.laysStatic "java/lang/String" "COMPACT_STRINGS" "Z") (by decide +kernel)) (hts (.initialized "java/lang/String") (by decide +kernel)) (va_eqi (hs (Cond.eq (.static "java/lang/String" "COMPACT_STRINGS" "Z") (.int 1)) (by decide +kernel))) hA, fun i hi => vk_R.of (A := #[]) ?_ ?_, va_Zqof (hts (.laysStatic "jdk/internal/util/Preconditions" "SIOOBE_FORMATTER" "Ljava/util/function/BiFunction;") (by decide +kernel)) (hts (.initialized "jdk/internal/util/Preconditions") (by decide +kernel)) (hs (Cond.isRef (.static "jdk/internal/util/Preconditions" "SIOOBE_FORMATTER" "Ljava/util/function/BiFunction;")) (by decide +kernel)) hA⟩
  · intro k q hq
    match k, hq with
    | 0, hq => cases hq; exact k0
    | 1, hq => cases hq; exact k1
    | 2, hq => cases hq; exact k2
    | 3, hq => cases hq; exact k3
    | 4, hq => cases hq; exact k4
    | 5, hq => cases hq; exact k5
    | 6, hq => cases hq; exact k6
    | 7, hq => cases hq; exact k7
    | 8, hq => cases hq; exact k8
    | 9, hq => cases hq; exact k9
    | 10, hq => cases hq; exact k10
    | 11, hq => cases hq; exact k11
    | k + 12, hq => simp [vwCl] at hq
  · intro k q hq
    match k, hq with
    | 0, hq => cases hq; exact ⟨a20, r20⟩
    | 1, hq => cases hq; exact ⟨a21, r21⟩
    | 2, hq => cases hq; exact ⟨a22, r22⟩
    | 3, hq => cases hq; exact ⟨a23, r23⟩
    | 4, hq => cases hq; exact ⟨a24, r24⟩
    | 5, hq => cases hq; exact ⟨a25, r25⟩
    | 6, hq => cases hq; exact ⟨a26, r26⟩
    | 7, hq => cases hq; exact ⟨a27, r27⟩
    | k + 8, hq => simp [tyl] at hq
  · exact hts _ (fl_sr i hi)
  · exact hev i hi
