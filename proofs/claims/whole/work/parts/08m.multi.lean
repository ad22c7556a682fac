/-! 'new int[n][k]' out of the model's own words: the states that the instruction passes, row by row, and its law -/
def mn_row (cI : ClassId) (K : Nat) : Cell := arrV cI K (fun _ => .int 0)
def mn_out (cA : ClassId) (N h0 i : Nat) : Cell := arrV cA N (fun j => va_rf (if j < i then some (h0 + 1 + j) else none))
def mn_st (T : State) (cA cI : ClassId) (N K : Nat) : Nat → State
  | 0 => T.pushCell (mn_out cA N T.heap.size 0)
  | i + 1 => ((mn_st T cA cI N K i).pushCell (mn_row cI K)).setCell T.heap.size (mn_out cA N T.heap.size (i + 1))
theorem mn_out_new (cA : ClassId) (N h0 : Nat) : ({ cls := cA, slots := Array.replicate N .null, vm := .none } : Cell) = mn_out cA N h0 0 := by
  rw [arrV_new]
  refine congrArg (arrV cA N) (funext fun j => ?_)
  rw [if_neg (Nat.not_lt_zero j)]
  rfl
theorem mn_out_next (cA : ClassId) (N h0 i : Nat) : (mn_out cA N h0 i).setSlot i (.ref (h0 + 1 + i)) = mn_out cA N h0 (i + 1) := by
  unfold mn_out
  rw [arrV_store]
  refine congrArg (arrV cA N) (funext fun j => ?_)
  unfold updV
  by_cases e : j = i
  · rw [if_pos e, if_pos (by omega), e]
    rfl
  · rw [if_neg e]
    show va_rf (if j < i then some (h0 + 1 + j) else none) = _
    by_cases h : j < i
    · rw [if_pos h, if_pos (by omega)]
    · rw [if_neg h, if_neg (by omega)]
theorem mn_heap (T : State) (cA cI : ClassId) (N K : Nat) : ∀ i : Nat, (mn_st T cA cI N K i).heap.size = T.heap.size + 1 + i ∧ (∀ x : Nat, x < T.heap.size → (mn_st T cA cI N K i).heap[x]? = T.heap[x]?) ∧
    (mn_st T cA cI N K i).heap[T.heap.size]? = some (mn_out cA N T.heap.size i) ∧ ∀ j : Nat, j < i → (mn_st T cA cI N K i).heap[T.heap.size + 1 + j]? = some (mn_row cI K)
  | 0 => by
    refine ⟨?_, fun x hx => ?_, ?_, fun j hj => absurd hj (Nat.not_lt_zero j)⟩
    · show (T.heap.push _).size = _
      rw [Array.size_push]
    · show (T.heap.push _)[x]? = _
      rw [Array.getElem?_push, if_neg (by omega)]
    · show (T.heap.push _)[T.heap.size]? = _
      rw [Array.getElem?_push, if_pos rfl]
  | i + 1 => by
    obtain ⟨h1, h2, h3, h4⟩ := mn_heap T cA cI N K i
    have hz : (((mn_st T cA cI N K i).heap.push (mn_row cI K)).setIfInBounds T.heap.size (mn_out cA N T.heap.size (i + 1))).size = T.heap.size + 1 + (i + 1) := by
      rw [Array.size_setIfInBounds, Array.size_push, h1]
      omega
    have ho : ∀ x : Nat, x ≠ T.heap.size → (((mn_st T cA cI N K i).heap.push (mn_row cI K)).setIfInBounds T.heap.size (mn_out cA N T.heap.size (i + 1)))[x]? = if x = T.heap.size + 1 + i then some (mn_row cI K) else (mn_st T cA cI N K i).heap[x]? := fun x hx => by
      rw [Array.getElem?_setIfInBounds, if_neg (fun q => hx q.symm), Array.getElem?_push, h1]
    refine ⟨hz, fun x hx => ?_, ?_, fun j hj => ?_⟩
    · show (((mn_st T cA cI N K i).heap.push (mn_row cI K)).setIfInBounds T.heap.size (mn_out cA N T.heap.size (i + 1)))[x]? = _
      rw [ho x (by omega), if_neg (by omega)]
      exact h2 x hx
    · show (((mn_st T cA cI N K i).heap.push (mn_row cI K)).setIfInBounds T.heap.size (mn_out cA N T.heap.size (i + 1)))[T.heap.size]? = _
      rw [Array.getElem?_setIfInBounds, if_pos rfl, if_pos (by rw [Array.size_push, h1]; omega)]
    · show (((mn_st T cA cI N K i).heap.push (mn_row cI K)).setIfInBounds T.heap.size (mn_out cA N T.heap.size (i + 1)))[T.heap.size + 1 + j]? = _
      rw [ho _ (by omega)]
      by_cases e : j = i
      · rw [if_pos (by omega)]
      · rw [if_neg (by omega)]
        exact h4 j (by omega)
theorem mn_rest (T : State) (cA cI : ClassId) (N K : Nat) : ∀ i : Nat, (mn_st T cA cI N K i).vm = T.vm ∧ (mn_st T cA cI N K i).topJava? = T.topJava? ∧ (mn_st T cA cI N K i).slotsUsed = T.slotsUsed + N + i * K
  | 0 => ⟨rfl, rfl, by
    show T.slotsUsed + (mn_out cA N T.heap.size 0).slots.size = _
    unfold mn_out
    rw [arrV_size]
    omega⟩
  | i + 1 => by
    obtain ⟨h1, h2, h3⟩ := mn_rest T cA cI N K i
    refine ⟨h1, h2, ?_⟩
    show (mn_st T cA cI N K i).slotsUsed + (mn_row cI K).slots.size = _
    unfold mn_row
    rw [arrV_size, h3, Nat.succ_mul]
    omega
section MNS
variable {p : Program} {l : Launch} {e : Env} {R : Room} {s : State} {m : MethodId} {args : Array Value} {below : List Frame} {meth : Method} {c : Code} {T : State} {locs : List Loc} {cells slots : Nat}
theorem mn_stand (X : Stand p l e R s m args below meth c T locs cells slots) (cA cI : ClassId) (N K : Nat) : ∀ i : Nat, Stand p l e R s m args below meth c (mn_st T cA cI N K i) locs (cells + 1 + i) (slots + N + i * K)
  | 0 => by
    have h := X.pushed (mn_out cA N T.heap.size 0)
    have hz : (mn_out cA N T.heap.size 0).slots.size = N := arrV_size ..
    rw [hz] at h
    rw [Nat.zero_mul]
    exact h
  | i + 1 => by
    have h := (mn_stand X cA cI N K i).pushed (mn_row cI K)
    have hz : (mn_row cI K).slots.size = K := arrV_size ..
    rw [hz] at h
    obtain ⟨h1, -, h3, -⟩ := mn_heap T cA cI N K i
    have hc : ((mn_st T cA cI N K i).pushCell (mn_row cI K)).heap[T.heap.size]? = some (mn_out cA N T.heap.size i) := by
      show ((mn_st T cA cI N K i).heap.push _)[T.heap.size]? = _
      rw [Array.getElem?_push, if_neg (by omega)]
      exact h3
    have h' := h.stored hc i (.ref (T.heap.size + 1 + i))
    rw [mn_out_next] at h'
    have h'' := h'.dropFresh (fun x hx => by
      rw [List.mem_singleton.mp hx]
      exact X.heapGrown)
    rw [Nat.succ_mul, ← Nat.add_assoc (slots + N)]
    exact h''
end MNS
theorem mn_over {args : Array Value} {first s : State} {o : Option Outcome} {idx : List Nat} {t : FieldType} (h : (Cond.arrayOver (.array t)).holds args first o s idx = true) :
    ∃ (comp cA : ClassId) (k : Class), s.vm.findClass (FieldType.array t).toString = some comp ∧ s.vm.classes[cA]? = some k ∧ k.kind = .array comp (.array t) ∧ s.vm.findClass ("[" ++ (FieldType.array t).toString) = some cA := by
  simp only [Cond.holds, Cond.value, beq_iff_eq] at h
  obtain ⟨comp, h1, h2⟩ := Option.bind_eq_some_iff.mp h
  obtain ⟨cA, h3, h4⟩ := Option.bind_eq_some_iff.mp h2
  obtain ⟨k, h5, h6⟩ := Option.map_eq_some_iff.mp h4
  obtain ⟨hlt, hp, -⟩ := Array.findIdx?_eq_some_iff_getElem.mp h3
  rw [(Array.getElem?_eq_some_iff.mp h5).2] at hp
  refine ⟨comp, cA, k, h1, h5, ?_⟩
  cases hk : k.kind with
  | array component ty =>
    rw [hk] at h6 hp
    simp only [Bool.and_eq_true, decide_eq_true_eq, beq_iff_eq] at h6 hp
    exact ⟨by rw [hp, h6.1], h6.2⟩
  | _ =>
    rw [hk] at h6
    cases h6
section MNW
variable {E : CtlPost} {e : Env} {d : Bool} {acts : List Action}
theorem mn_make1 {U : State} {cI cc : ClassId} {kI : Class} {k : Int32} {K : Nat} {Q : Addr → Pre} (hk : ¬ k < 0) (hK : k.toNatClampNeg = K) (hkI : U.vm.classes[cI]? = some kI) (hkind : kI.kind = .array cc .int)
    (hl : ¬ K > e.platform.arrayLengthLimit) (hh : ¬ K * 4 > e.platform.maxHeapBytes) (hc : U.heap.size < e.platform.maxCells) (hs : U.slotsUsed + K ≤ e.platform.maxSlots)
    (hq : ∀ acts', Q U.heap.size d acts' (U.pushCell (mn_row cI K))) : wp (Op.multianewarray.make cI [k]) Q E e d acts U := by
  subst hK
  rw [Op.multianewarray.make]
  simp only [wp_bind', W.ite, hk, if_false, wp_pure', W.theClass, hkI, Option.some.injEq, exists_eq_left', hkind]
  refine W.newArray_of hkI hkind hl hh hc hs rfl (fun acts' => ?_)
  have h := hq acts'
  unfold mn_row at h
  rw [← arrV_new] at h
  exact h
theorem mn_loop {T : State} {g : JFrame} {cA cI cc : ClassId} {kA kI : Class} {k : Int32} {N K : Nat} {Q : PUnit → Pre} (hk : ¬ k < 0) (hK : k.toNatClampNeg = K) (hkA : T.vm.classes[cA]? = some kA) (hkindA : kA.kind = .array cI (.array .int)) (hkI : T.vm.classes[cI]? = some kI) (hkind : kI.kind = .array cc .int)
    (hl : ¬ K > e.platform.arrayLengthLimit) (hh : ¬ K * 4 > e.platform.maxHeapBytes) (hc : T.heap.size + (1 + N) ≤ e.platform.maxCells) (hs : T.slotsUsed + (N + N * K) ≤ e.platform.maxSlots)
    (hq : ∀ d' acts', Q PUnit.unit d' acts' ((mn_st T cA cI N K N).setTop g)) :
    wp (forIn (List.range' 0 N) PUnit.unit (fun i (_ : PUnit) => (do
      let a ← Op.multianewarray.make cI [k]
      writeLoc T.heap.size i (.ref a)
      Pure.pure (ForInStep.yield PUnit.unit) : Sem (ForInStep PUnit)))) Q E e d acts ((mn_st T cA cI N K 0).setTop g) := by
  refine wp_forIn_inv (fun rest U => ∃ i : Nat, i ≤ N ∧ rest = List.range' i (N - i) ∧ U = (mn_st T cA cI N K i).setTop g) _ _ ⟨0, Nat.zero_le N, rfl, rfl⟩ ?_ ?_
  · rintro x rest U d' acts' Q' ⟨i, hi, hx, rfl⟩ hy
    have hlt : i < N := by
      by_cases h : i < N
      · exact h
      · rw [show N - i = 0 by omega] at hx
        cases hx
    rw [show N - i = (N - (i + 1)) + 1 by omega, List.range'_succ] at hx
    injection hx with hx1 hx2
    subst hx1
    obtain ⟨h1, h2, h3, h4⟩ := mn_heap T cA cI N K x
    obtain ⟨r1, r2, r3⟩ := mn_rest T cA cI N K x
    have hmul : x * K + K ≤ N * K := by
      rw [← Nat.succ_mul]
      exact Nat.mul_le_mul_right K hlt
    simp only [wp_bind']
    refine mn_make1 (U := (mn_st T cA cI N K x).setTop g) hk hK (by rw [State.vm_setTop, r1]; exact hkI) hkind hl hh (by rw [State.heap_setTop, h1]; omega) (by rw [State.slotsUsed_setTop, r3]; omega) (fun acts'' => ?_)
    rw [State.heap_setTop, h1]
    simp only [wp_bind', W.writeLoc, wp_pure']
    refine ⟨mn_out cA N T.heap.size x, ?_, (by intro h; cases h), (by unfold mn_out; rw [arrV_size]; exact hlt), ?_, ?_⟩
    · show ((mn_st T cA cI N K x).heap.push _)[T.heap.size]? = _
      rw [Array.getElem?_push, if_neg (by omega)]
      exact h3
    · have hv : (((mn_st T cA cI N K x).setTop g).pushCell (mn_row cI K)).vm.classes[cA]? = some kA := by
        show (mn_st T cA cI N K x).vm.classes[cA]? = _
        rw [r1]
        exact hkA
      have hcls : (mn_out cA N T.heap.size x).cls = cA := rfl
      have hvm : (mn_out cA N T.heap.size x).vm = .none := rfl
      rw [hcls, hvm]
      unfold State.fitsSlot State.slotType?
      rw [hv]
      simp only [Option.bind_eq_bind, Option.bind_some, hkindA]
      rfl
    · rw [mn_out_next]
      exact hy _ _ _ ⟨x + 1, hlt, hx2, rfl⟩
  · rintro U d' acts' ⟨i, hi, hx, rfl⟩
    have hN : N - i = 0 := by
      have h := congrArg List.length hx
      rw [List.length_range'] at h
      exact h.symm
    rw [show i = N by omega]
    exact hq _ _
theorem mn_make2 {T : State} {g : JFrame} {cA cI cc : ClassId} {kA kI : Class} {n k : Int32} {N K : Nat} {Q : Addr → Pre} (hn : ¬ n < 0) (hN : n.toNatClampNeg = N) (hk : ¬ k < 0) (hK : k.toNatClampNeg = K) (hkA : T.vm.classes[cA]? = some kA) (hkindA : kA.kind = .array cI (.array .int)) (hkI : T.vm.classes[cI]? = some kI) (hkind : kI.kind = .array cc .int)
    (hl1 : ¬ N > e.platform.arrayLengthLimit) (hh1 : ¬ N * 4 > e.platform.maxHeapBytes) (hl : ¬ K > e.platform.arrayLengthLimit) (hh : ¬ K * 4 > e.platform.maxHeapBytes) (hc : T.heap.size + (1 + N) ≤ e.platform.maxCells) (hs : T.slotsUsed + (N + N * K) ≤ e.platform.maxSlots)
    (hq : ∀ d' acts', Q T.heap.size d' acts' ((mn_st T cA cI N K N).setTop g)) : wp (Op.multianewarray.make cA [n, k]) Q E e d acts (T.setTop g) := by
  subst hN
  rw [Op.multianewarray.make]
  simp only [wp_bind', W.ite, hn, if_false, wp_pure', W.theClass, State.vm_setTop, hkA, Option.some.injEq, exists_eq_left', hkindA]
  refine W.newArray_of (s := T.setTop g) hkA hkindA hl1 hh1 (by show T.heap.size < _; omega) (by show T.slotsUsed + _ ≤ _; omega) rfl (fun acts' => ?_)
  have key : wp (do
      forIn [:n.toNatClampNeg] PUnit.unit fun i (_ : PUnit) => (do
        let a ← Op.multianewarray.make cI [k]
        writeLoc (T.setTop g).heap.size i (.ref a)
        Pure.pure (ForInStep.yield PUnit.unit) : Sem (ForInStep PUnit))
      Pure.pure (T.setTop g).heap.size : Sem Addr) Q E e d acts' ((T.setTop g).pushCell { cls := cA, slots := Array.replicate n.toNatClampNeg .null }) := by
    rw [mn_out_new cA n.toNatClampNeg T.heap.size]
    simp only [wp_bind', wp_pure', Std.Legacy.Range.forIn_eq_forIn_range', Std.Legacy.Range.size, Nat.sub_zero, Nat.add_sub_cancel, Nat.div_one]
    exact mn_loop hk hK hkA hkindA hkI hkind hl hh hc hs hq
  have hf : List.find? (fun x : Int32 => decide (x < 0)) [k] = none := by
    rw [List.find?_cons, decide_eq_false hk]
    rfl
  rw [hf]
  split
  · exact key
  · exact key
theorem mn_sem {T : State} {g : JFrame} {cA cI cc : ClassId} {kA kI : Class} {index : Nat} {n k : Int32} {N K : Nat} {rest : List Value} {vm₁ : Vm} {Q : Unit → Pre} (ht : T.topJava?.isSome) (hg : (Jvm.resolveClass g.method.cls index).Gives e.toSetting T.vm (.ok cA) vm₁) (hsz : vm₁.classes.size ≤ T.vm.classes.size) (hst : g.stack = .int k :: .int n :: rest)
    (hn : ¬ n < 0) (hN : n.toNatClampNeg = N) (hk : ¬ k < 0) (hK : k.toNatClampNeg = K) (hkA : vm₁.classes[cA]? = some kA) (hkindA : kA.kind = .array cI (.array .int)) (hkI : vm₁.classes[cI]? = some kI) (hkind : kI.kind = .array cc .int)
    (hl1 : ¬ N > e.platform.arrayLengthLimit) (hh1 : ¬ N * 4 > e.platform.maxHeapBytes) (hl : ¬ K > e.platform.arrayLengthLimit) (hh : ¬ K * 4 > e.platform.maxHeapBytes) (hc : T.heap.size + (1 + N) ≤ e.platform.maxCells) (hs : T.slotsUsed + (N + N * K) ≤ e.platform.maxSlots)
    (hq : ∀ d' acts', Q () d' acts' ((mn_st (T.setVm vm₁) cA cI N K N).setTop { g with stack := .ref T.heap.size :: rest })) : wp (Op.multianewarray.sem index 2) Q E e d acts (T.setTop g) := by
  unfold Op.multianewarray.sem
  simp only [wp_bind', W.resolveClassAt_links (State.method?_setTop g ht) hg hsz]
  show wp (popN ([.int n, .int k] : List Value).length) _ E e d acts ((T.setVm vm₁).setTop g)
  refine (popN_top (E := E) (e := e) (s := T.setVm vm₁) (f := g) (args := [.int n, .int k]) (rest := rest) ht hst).mpr ?_
  simp only [List.mapM_cons, List.mapM_nil, wp_bind', wp_pure']
  refine mn_make2 (T := T.setVm vm₁) hn hN hk hK hkA hkindA hkI hkind hl1 hh1 hl hh hc hs (fun d' acts' => ?_)
  simp only [wp_bind', W.mark, W.pushRef]
  refine ⟨{ g with stack := rest }, State.topJava?_setTop' _ (by rw [(mn_rest (T.setVm vm₁) cA cI N K N).2.1]; exact ht), ?_⟩
  rw [State.setTop_setTop]
  exact hq _ _
end MNW
section MNL
variable {p : Program} {l : Launch} {e : Env} {R : Room} {s : State} {m : MethodId} {args : Array Value} {below : List Frame} {meth : Method} {c : Code} {T : State} {locs : List Loc} {cells slots : Nat}
theorem mn_law (X : Stand p l e R s m args below meth c T locs cells slots) (hexec : p.tables.exec = Jvm.exec) {own : String} {index : Nat} (hown : s.vm.findClass own = some m.cls) (hclink : (Cond.classLink own index ("[" ++ (FieldType.array .int).toString)).before args s = true)
    (hover : (Cond.arrayOver (.array .int)).before args s = true) (harr : (Cond.arrayClass .int).before args s = true) {g : JFrame} (hg : g.method = m) (hdg : decode c.code g.pc = .ok (.multianewarray index 2, 4)) {n k : Int32} {N K : Nat} {rest : List Value} (hst : g.stack = .int k :: .int n :: rest)
    (hn : ¬ n < 0) (hN : n.toNatClampNeg = N) (hk : ¬ k < 0) (hK : k.toNatClampNeg = K) (hb1 : N * 4 ≤ 536870912) (hb2 : K * 4 ≤ 536870912) (hcells : cells + (1 + N) ≤ R.cells) (hslots : slots + (N + N * K) ≤ R.slots) :
    ∃ (vm₁ : Vm) (cA cI : ClassId), s.vm.findClass ("[" ++ (FieldType.array .int).toString) = some cA ∧ s.vm.findClass (FieldType.array .int).toString = some cI ∧ ArrOfT s cA (.array .int) ∧
      Stand p l e R s m args below meth c (mn_st (T.setVm vm₁) cA cI N K N) locs (cells + 1 + N) (slots + N + N * K) ∧
      ∀ target, Steps p.tables e below ((mn_st (T.setVm vm₁) cA cI N K N).setTop { g with pc := g.pc + 4, stack := .ref T.heap.size :: rest }) target → Steps p.tables e below (T.setTop g) target := by
  subst hg
  have hpl : e.platform.magicAccessors = ({} : Platform).magicAccessors := by rw [X.admits.platform]
  obtain ⟨cI, cA, kA, hcI, hkA, hkindA, hcA⟩ := mn_over hover
  obtain ⟨cI', kI, cc, hcI', hkI, hkindI⟩ := Cond.arrayClass_spec harr
  have eI : cI' = cI := Option.some.inj (hcI'.symm.trans hcI)
  subst eI
  obtain ⟨cL, hcL, hcl⟩ := Cond.classLink_spec hown hclink e.platform hpl
  have eL : cL = cA := Option.some.inj (hcL.symm.trans hcA)
  subst eL
  obtain ⟨hg₁, hw₁, -⟩ := State.classEntry (e := e) X.warmed hcl
  have hsz : (T.vm.noted g.method.cls index (.cls cL)).classes.size ≤ T.vm.classes.size := by no_record
  generalize T.vm.noted g.method.cls index (.cls cL) = vm₁ at hg₁ hw₁ hsz
  obtain ⟨kA₁, hkA₁, heA⟩ := hw₁.alike.2.2 _ _ hkA
  obtain ⟨kI₁, hkI₁, heI⟩ := hw₁.alike.2.2 _ _ hkI
  obtain ⟨hr1, hr2⟩ := X.roomAbove hcells hslots
  have hlim := Launch.admits_arrayLengthLimit X.admits
  have hhb := Launch.admits_maxHeapBytes X.admits
  refine ⟨vm₁, cL, cI', hcA, hcI, ?_, mn_stand (X.noted hw₁) cL cI' N K N, fun target hgo => ?_⟩
  · intro n9 z9
    exact ⟨(fun q hq => by cases hq), kA, hkA, cI', hkindA⟩
  · refine Steps.instr (c := c) X.here ?_
    rw [hdg, hexec]
    show wp (Op.multianewarray.sem index 2) _ _ e false [] (T.setTop g)
    refine mn_sem X.here.top hg₁ hsz hst hn hN hk hK hkA₁ (by rw [heA]; exact hkindA) hkI₁ (by rw [heI]; exact hkindI) (by rw [hlim]; omega) (by rw [hhb]; omega) (by rw [hlim]; omega) (by rw [hhb]; omega) hr1 hr2 (fun d' acts' acts'' => ?_)
    rw [afterInstr_ok]
    exact hgo
end MNL
