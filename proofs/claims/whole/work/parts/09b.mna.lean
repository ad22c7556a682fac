/-! a new int[n][k] over worlds: the row of the printed names for it, turned to int[][] and to my own law of the instruction (mn_law, part 08m) -/
def va_AOA (ty : FieldType) (U : State) : Prop := (Cond.arrayOver (.array ty)).before #[] U = true
theorem va_AOA.use {ty : FieldType} {A : Array Value} {U : State} (h : va_AOA ty U) : (Cond.arrayOver (.array ty)).before A U = true := h
/-- f, but v at every address of l -/
def vr_up {α : Type} (f : Nat → α) (l : List Nat) (v : α) : Nat → α := fun a => if a ∈ l then v else f a
theorem vr_up_in {α : Type} {f : Nat → α} {l : List Nat} {v : α} {a : Nat} (h : a ∈ l) : vr_up f l v a = v := if_pos h
theorem vr_up_ne {α : Type} {f : Nat → α} {l : List Nat} {v : α} {a : Nat} (h : a ∉ l) : vr_up f l v a = f a := if_neg h
theorem vr_rows {L l : List Nat} {f : Nat → va_E} {e : va_E} (h : ∀ a, a ∈ l → a ∉ L) : va_pl L f ++ l.map (fun a => (a, e)) = va_pl (L ++ l) (vr_up f l e) := by
  unfold va_pl
  rw [List.map_append]
  congr 1
  · apply List.map_congr_left
    intro a ha
    rw [vr_up_ne (fun q => h a q ha)]
  · apply List.map_congr_left
    intro a ha
    rw [vr_up_in ha]
theorem vr_lay {X rows : va_W} {x : Nat × va_E} {pl : va_W} {D : va_G} {cl : List vw_C} {H : Heap} (hP : va_P D cl (((X ++ pl) ++ [x]) ++ rows) H) : va_P D cl ((X ++ [x]) ++ (pl ++ rows)) H := by
  rw [List.append_assoc (X ++ pl)] at hP
  have h := va_P.swap hP
  rw [← List.append_assoc X] at h
  have h2 := va_P.swap h
  rw [List.append_assoc (X ++ [x])] at h2
  exact h2
theorem vr_layD {X rows : va_W} {x : Nat × va_E} {pl : va_W} {A : Nat → Prop} (hD : va_D A (((X ++ pl) ++ [x]) ++ rows)) : va_D A ((X ++ [x]) ++ (pl ++ rows)) := by
  rw [List.append_assoc (X ++ pl)] at hD
  have h := va_D.swap hD
  rw [← List.append_assoc X] at h
  have h2 := va_D.swap h
  rw [List.append_assoc (X ++ [x])] at h2
  exact h2
section VGM
variable {p : Program} {l : Launch} {e : Env} {R : Room} {s : State} {m : MethodId} {args : Array Value} {below : List Frame} {meth : Method} {c : Code} {H : Heap} {locs : List Loc} {cells slots : Nat} {Q : State → Prop}
variable {cc : ByteArray} {pc : Nat} {ls : Array Slot} {rest : List Value} {D : va_G} {cl : List vw_C} {A : Nat → Prop} {a : Nat} {tys : List (ClassId × FieldType)} {ws : va_W} {H0 : Heap}
theorem mn_W {X : va_W} {L : List Nat} {f : Nat → va_E} {cc : ByteArray} (hexec : p.tables.exec = Jvm.exec) (hb : c.code = cc) {own : String} {index : Nat} {cy : ClassId} (hown : s.vm.findClass own = some m.cls) (hclink : (Cond.classLink own index ("[" ++ (FieldType.array .int).toString)).before args s = true) (hover : va_AOA .int s) (harr : (Cond.arrayClass .int).before args s = true) (hcy : s.vm.findClass (FieldType.array .int).toString = some cy)
    (hK : va_K D cl tys s) (hP : va_P D cl (X ++ va_pl L f) H) (hD : va_D A (X ++ va_pl L f)) (hS : va_S A H0 H locs) (hA : ∀ q, H0.size ≤ q → A q) {n k : Int32} {N' K' : Nat} (hn : ¬ n < 0) (hk : ¬ k < 0) (hN : n.toNatClampNeg = N') (hM : k.toNatClampNeg = K')
    (hb1 : N' * 4 ≤ 536870912) (hb2 : K' * 4 ≤ 536870912) (hcells : cells + (1 + N') ≤ R.cells) (hslots : slots + (N' + N' * K') ≤ R.slots) (hdg : decode cc pc = .ok (.multianewarray index 2, 4))
    (kk : ∀ (q : Nat) (r : Nat → Nat) (cA : ClassId) (H1 : Heap), (∀ i j : Nat, i < N' → j < N' → r i = r j → i = j) → (∀ i : Nat, i < N' → r i ∉ L) → va_K D cl (tys ++ [(cA, .array .int)]) s →
      va_P D cl ((X ++ [(q, .inl (cA, N', .inr (.inr (.inr (.inr (fun i => if i < N' then some (r i) else none))))))]) ++ va_pl (L ++ (List.range N').map r) (vr_up f ((List.range N').map r) (.inl (cy, K', .inl (fun _ => 0))))) H1 → va_D A ((X ++ [(q, .inl (cA, N', .inr (.inr (.inr (.inr (fun i => if i < N' then some (r i) else none))))))]) ++ va_pl (L ++ (List.range N').map r) (vr_up f ((List.range N').map r) (.inl (cy, K', .inl (fun _ => 0))))) → va_S A H0 H1 locs →
      W p l e R s m args below meth c H1 locs (cells + 1 + N') (slots + N' + N' * K') Q (F0 m (pc + 4) ls (.ref q :: rest))) : W p l e R s m args below meth c H locs cells slots Q (F0 m pc ls (.int k :: .int n :: rest)) := by
  subst hN
  subst hM
  obtain ⟨z, hz⟩ : ∃ z : vp_A, z = (k.toNatClampNeg, .inl (fun _ => 0)) := ⟨_, rfl⟩
  intro T hT Xs
  obtain ⟨vm₁, cA, comp, fA, fC, hAr, X', step⟩ := mn_law Xs hexec hown hclink (va_AOA.use hover) harr (g := F0 m pc ls (.int k :: .int n :: rest)) rfl (by rw [hb]; exact hdg) rfl hn rfl hk rfl hb1 hb2 hcells hslots
  have ec : some cy = some comp := hcy.symm.trans fC
  cases ec
  have hTh : (T.setVm vm₁).heap = H := hT
  obtain ⟨f1, hold, f2, f3⟩ := mn_heap (T.setVm vm₁) cA cy n.toNatClampNeg k.toNatClampNeg n.toNatClampNeg
  generalize hF : mn_st (T.setVm vm₁) cA cy n.toNatClampNeg k.toNatClampNeg n.toNatClampNeg = F at X' step f1 hold f2 f3
  rw [hTh] at f1 hold f2 f3
  have hrow : ∀ j : Nat, j < n.toNatClampNeg → F.heap[H.size + 1 + j]? = some (vp_cell cy z) := fun j hj => by
    rw [hz]
    exact f3 j hj
  rw [← hz] at kk
  have hlt : ∀ a, a ∈ L → a < H.size := fun a ha => by
    obtain ⟨k9, hk9⟩ := va_pl_get (X := X) (f := f) ha
    exact (hP k9 _ hk9).lt
  have hnl : ∀ i : Nat, i < n.toNatClampNeg → H.size + 1 + i ∉ L := fun i _ h => by
    have := hlt _ h
    omega
  have hnm : ∀ a, a ∈ (List.range n.toNatClampNeg).map (fun i => H.size + 1 + i) → a ∉ L := fun a ha h => by
    obtain ⟨i, -, rfl⟩ := List.mem_map.mp ha
    have := hlt _ h
    omega
  have hP0 : va_P D cl (X ++ va_pl L f) F.heap := hP.kept (fun k9 x hx => hold x.1 ((hP k9 x hx).lt))
  have hP1 : va_P D cl ((X ++ va_pl L f) ++ [(H.size, .inl (cA, n.toNatClampNeg, .inr (.inr (.inr (.inr (fun i => if i < n.toNatClampNeg then some (H.size + 1 + i) else none))))))]) F.heap := hP0.app (fun k9 x hx => by
    have h0 : k9 < 1 := (List.getElem?_eq_some_iff.mp hx).1
    rw [show k9 = 0 by omega] at hx
    cases hx
    exact f2)
  have hP2 : va_P D cl (((X ++ va_pl L f) ++ [(H.size, .inl (cA, n.toNatClampNeg, .inr (.inr (.inr (.inr (fun i => if i < n.toNatClampNeg then some (H.size + 1 + i) else none))))))]) ++ ((List.range n.toNatClampNeg).map (fun i => H.size + 1 + i)).map (fun a => (a, .inl (cy, z)))) F.heap := hP1.app (fun k9 x hx => by
    obtain ⟨a, ha, rfl⟩ := List.mem_map.mp (List.mem_of_getElem? hx)
    obtain ⟨i, hi, rfl⟩ := List.mem_map.mp ha
    exact hrow i (List.mem_range.mp hi))
  have hD2 : va_D A (((X ++ va_pl L f) ++ [(H.size, .inl (cA, n.toNatClampNeg, .inr (.inr (.inr (.inr (fun i => if i < n.toNatClampNeg then some (H.size + 1 + i) else none))))))]) ++ ((List.range n.toNatClampNeg).map (fun i => H.size + 1 + i)).map (fun a => (a, .inl (cy, z)))) := by
    have hD1 := hD.push (e := .inl (cA, n.toNatClampNeg, .inr (.inr (.inr (.inr (fun i => if i < n.toNatClampNeg then some (H.size + 1 + i) else none)))))) hP rfl (hA _ hS.1)
    generalize hW1 : (X ++ va_pl L f) ++ [(H.size, .inl (cA, n.toNatClampNeg, .inr (.inr (.inr (.inr (fun i => if i < n.toNatClampNeg then some (H.size + 1 + i) else none))))))] = W1 at hD1 hP1 ⊢
    have hle : ∀ (k9 : Nat) (x : Nat × va_E), W1[k9]? = some x → x.1 ≤ H.size := fun k9 x hx => by
      rw [← hW1] at hx
      by_cases hl : k9 < (X ++ va_pl L f).length
      · rw [List.getElem?_append_left hl] at hx
        exact Nat.le_of_lt ((hP k9 x hx).lt)
      · rw [List.getElem?_append_right (by omega)] at hx
        have h0 : k9 - (X ++ va_pl L f).length < 1 := (List.getElem?_eq_some_iff.mp hx).1
        rw [show k9 - (X ++ va_pl L f).length = 0 by omega] at hx
        cases hx
        exact Nat.le_refl _
    have hr : ∀ (k9 : Nat) (x : Nat × va_E), (((List.range n.toNatClampNeg).map (fun i => H.size + 1 + i)).map (fun a => ((a, .inl (cy, z)) : Nat × va_E)))[k9]? = some x → x.1 = H.size + 1 + k9 := fun k9 x hx => by
      rw [List.getElem?_map, List.getElem?_map] at hx
      by_cases h9 : k9 < n.toNatClampNeg
      · rw [List.getElem?_range h9] at hx
        cases hx
        rfl
      · have hn0 : (List.range n.toNatClampNeg)[k9]? = none := List.getElem?_eq_none (by rw [List.length_range]; omega)
        rw [hn0] at hx
        cases hx
    refine ⟨fun i j x y hi hj hxy => ?_, fun k9 x hx => ?_⟩
    · by_cases h1 : i < W1.length <;> by_cases h2 : j < W1.length
      · rw [List.getElem?_append_left h1] at hi
        rw [List.getElem?_append_left h2] at hj
        exact hD1.1 i j x y hi hj hxy
      · rw [List.getElem?_append_left h1] at hi
        rw [List.getElem?_append_right (by omega)] at hj
        have := hle _ _ hi
        have := hr _ _ hj
        omega
      · rw [List.getElem?_append_right (by omega)] at hi
        rw [List.getElem?_append_left h2] at hj
        have := hle _ _ hj
        have := hr _ _ hi
        omega
      · rw [List.getElem?_append_right (by omega)] at hi hj
        have := hr _ _ hi
        have := hr _ _ hj
        omega
    · by_cases h1 : k9 < W1.length
      · rw [List.getElem?_append_left h1] at hx
        exact hD1.2 k9 x hx
      · rw [List.getElem?_append_right (by omega)] at hx
        have := hr _ _ hx
        exact hA _ (by have := hS.1; omega)
  have hK2 : va_K D cl (tys ++ [(cA, .array .int)]) s := ⟨hK.1, fun k9 x hx => by
    by_cases hl : k9 < tys.length
    · rw [List.getElem?_append_left hl] at hx
      exact hK.2 k9 x hx
    · rw [List.getElem?_append_right (by omega)] at hx
      have h0 : k9 - tys.length < 1 := (List.getElem?_eq_some_iff.mp hx).1
      rw [show k9 - tys.length = 0 by omega] at hx
      cases hx
      exact ⟨hAr, fA⟩⟩
  obtain ⟨t, a1, b1⟩ := kk H.size (fun i => H.size + 1 + i) cA F.heap (fun i j _ _ h => by have h9 : H.size + 1 + i = H.size + 1 + j := h; omega) hnl hK2 (by rw [← vr_rows hnm]; exact vr_lay hP2) (by rw [← vr_rows hnm]; exact vr_layD hD2) ⟨by rw [f1]; have := hS.1; omega, fun x h1 h2 => (hold x (Nat.lt_of_lt_of_le h1 hS.1)).trans (hS.2.1 x h1 h2), hS.2.2⟩ F rfl X'
  refine ⟨t, step t ?_, b1⟩
  have e : T.heap.size = H.size := by rw [hT]
  rw [e]
  exact a1
end VGM
def mnaS (S : St) (q : Nat) (r : Nat → Nat) (n k : Nat) : St :=
  (fun b => if b = q then 27 else if b ∈ (List.range n).map r then 21 else S.1 b, fun b => if b = q then n else if b ∈ (List.range n).map r then k else S.2.1 b,
   fun b => if b = q ∨ b ∈ (List.range n).map r then (fun _ => 0) else S.2.2.1 b, fun b => if b = q ∨ b ∈ (List.range n).map r then (fun _ => 0) else S.2.2.2.1 b,
   fun b => if b = q then (fun i => if i < n then some (r i) else none) else if b ∈ (List.range n).map r then (fun _ => none) else S.2.2.2.2 b)
section HN
variable {G : GG} {p : Program} {l : Launch} {e : Env} {R : Room} {s : State} {m : MethodId} {args : Array Value} {below : List Frame} {meth : Method} {c : Code} {H : Heap} {locs : List Loc} {cells slots : Nat} {Q : State → Prop}
variable {cc : ByteArray} {nL pc index : Nat} {own : String} {ls : Array Slot} {rest : List Value} {A : Nat → Prop} {S : St}
theorem sx_mna {n k : Int32} {N K : Nat} (B : Bd G p s m args c cc nL own A) (h : Hp G A s.heap S H locs) (hcl : Cond.classLink own index "[[I" ∈ TB) (harr : Cond.arrayClass .int ∈ TB) (hn : n.toNatClampNeg = N ∧ ¬ n < 0) (hk : k.toNatClampNeg = K ∧ ¬ k < 0) (hb1 : N * 4 ≤ 536870912) (hb2 : K * 4 ≤ 536870912) (hcells : cells + (1 + N) ≤ R.cells) (hslots : slots + (N + N * K) ≤ R.slots) (hdg : decode cc pc = .ok (.multianewarray index 2, 4))
    (kk : ∀ (q : Nat) (r : Nat → Nat) (H : Heap), kd S q = 0 → (∀ i, i < N → kd S (r i) = 0 ∧ r i ≠ q) → (∀ i j, i < N → j < N → r i = r j → i = j) → Hp G A s.heap (mnaS S q r N K) H locs → W p l e R s m args below meth c H locs (cells + 1 + N) (slots + N + N * K) Q (F0 m (pc + 4) ls (.ref q :: rest))) : W p l e R s m args below meth c H locs cells slots Q (F0 m pc ls (.int k :: .int n :: rest)) := by
  obtain ⟨hx, hb, hml, hown, hts, hK, -, hA⟩ := B
  obtain ⟨⟨L, hL, hP, hD⟩, hI, hS⟩ := h
  have hD' : va_D A (va_pl L (enc G.2.1 S)) := hD.weaken (fun k q hq _ => by
    obtain ⟨x, hx, e⟩ := List.mem_map.mp (List.mem_of_getElem? hq)
    rw [← e]
    exact hI x ((hL x).mp hx))
  have hcy : s.vm.findClass (FieldType.array .int).toString = some (G.2.1 21) := (hK.1.2 1 (G.2.1 21, .int) rfl).2
  refine mn_W (X := []) (D := G.1) (cl := vwCl) (cy := G.2.1 21) hx hb hown (hts _ hcl) hK.2.1.2.2.2.2.1 (hts _ harr) hcy hK.1 hP hD' hS hA hn.2 hk.2 hn.1 hk.1 hb1 hb2 hcells hslots hdg (fun q r cA H1 r1 r2 a0 a1 a2 a3 => ?_)
  have ecA : cA = G.2.1 27 := by
    have z1 := (hK.1.2 7 (G.2.1 27, .array .int) rfl).2
    have z2 := (a0.2 8 (cA, .array .int) rfl).2
    exact Option.some.inj (Eq.trans (Eq.symm z2) z1)
  subst ecA
  have hqL : ∀ b, b ∈ L ++ (List.range N).map r → b ≠ q := fun b hb hbq => by
    subst hbq
    obtain ⟨i, hi⟩ := List.getElem?_of_mem (show (b, vr_up (enc G.2.1 S) ((List.range N).map r) (.inl (G.2.1 21, K, .inl (fun _ => 0))) b) ∈ va_pl (L ++ (List.range N).map r) (vr_up (enc G.2.1 S) ((List.range N).map r) (.inl (G.2.1 21, K, .inl (fun _ => 0)))) from List.mem_map.mpr ⟨b, hb, rfl⟩)
    have e := a2.1 0 (i + 1) (b, .inl (G.2.1 27, N, .inr (.inr (.inr (.inr (fun i => if i < N then some (r i) else none)))))) (b, vr_up (enc G.2.1 S) ((List.range N).map r) (.inl (G.2.1 21, K, .inl (fun _ => 0))) b) rfl (by show (_ :: va_pl _ _)[i + 1]? = _; rw [List.getElem?_cons_succ]; exact hi) rfl
    omega
  have hq0 : kd S q = 0 := by
    by_cases hz : kd S q = 0
    · exact hz
    · exact absurd rfl (hqL q (List.mem_append_left _ ((hL q).mpr hz)))
  have hr0 : ∀ i, i < N → kd S (r i) = 0 ∧ r i ≠ q := fun i hi => ⟨by
    by_cases hz : kd S (r i) = 0
    · exact hz
    · exact absurd ((hL _).mpr hz) (r2 i hi), hqL _ (List.mem_append_right _ (List.mem_map.mpr ⟨i, List.mem_range.mpr hi, rfl⟩))⟩
  have eq1 : enc G.2.1 (mnaS S q r N K) q = .inl (G.2.1 27, N, .inr (.inr (.inr (.inr (fun i => if i < N then some (r i) else none))))) := by
    have e1 : kd (mnaS S q r N K) q = 27 := if_pos rfl
    have e2 : ln (mnaS S q r N K) q = N := if_pos rfl
    have e3 : gR (mnaS S q r N K) q = fun i => if i < N then some (r i) else none := if_pos rfl
    rw [enc_r e1 (by decide), e2, e3]
  have eq2 : va_pl (L ++ (List.range N).map r) (vr_up (enc G.2.1 S) ((List.range N).map r) (.inl (G.2.1 21, K, .inl (fun _ => 0)))) = va_pl (L ++ (List.range N).map r) (enc G.2.1 (mnaS S q r N K)) := by
    unfold va_pl
    apply List.map_congr_left
    intro b hb
    have hbq := hqL b hb
    by_cases hbr : b ∈ (List.range N).map r
    · rw [vr_up_in hbr]
      have e1 : kd (mnaS S q r N K) b = 21 := (if_neg hbq).trans (if_pos hbr)
      have e2 : ln (mnaS S q r N K) b = K := (if_neg hbq).trans (if_pos hbr)
      have e3 : gI (mnaS S q r N K) b = fun _ => 0 := if_pos (Or.inr hbr)
      rw [enc_i e1 (Or.inr rfl), e2, e3]
    · rw [vr_up_ne hbr]
      have hno : ¬ (b = q ∨ b ∈ (List.range N).map r) := fun h => h.elim hbq hbr
      exact congrArg (fun z => (b, z)) (enc_eq (S := S) (S2 := mnaS S q r N K) ((if_neg hbq).trans (if_neg hbr)) ((if_neg hbq).trans (if_neg hbr)) (if_neg hno) (if_neg hno) ((if_neg hbq).trans (if_neg hbr))).symm
  rw [eq2, ← eq1] at a1 a2
  refine kk q r H1 hq0 hr0 r1 ⟨⟨q :: (L ++ (List.range N).map r), fun x => ?_, a1, a2.weaken (fun _ _ _ _ => trivial)⟩, fun x hx => ?_, a3⟩
  · by_cases hxq : x = q
    · subst hxq
      have e1 : kd (mnaS S x r N K) x = 27 := if_pos rfl
      rw [e1]
      exact ⟨fun _ => by decide, fun _ => List.mem_cons_self⟩
    · rw [List.mem_cons, List.mem_append]
      by_cases hxr : x ∈ (List.range N).map r
      · have e1 : kd (mnaS S q r N K) x = 21 := (if_neg hxq).trans (if_pos hxr)
        rw [e1]
        exact ⟨fun _ => by decide, fun _ => Or.inr (Or.inr hxr)⟩
      · have e1 : kd (mnaS S q r N K) x = kd S x := (if_neg hxq).trans (if_neg hxr)
        rw [e1, ← hL x]
        exact ⟨fun h => h.elim (fun h => absurd h hxq) (fun h => h.elim id (fun h => absurd h hxr)), fun h => Or.inr (Or.inl h)⟩
  · have hxm : x ∈ q :: (L ++ (List.range N).map r) := by
      by_cases hxq : x = q
      · rw [hxq]; exact List.mem_cons_self
      · by_cases hxr : x ∈ (List.range N).map r
        · exact List.mem_cons_of_mem _ (List.mem_append_right _ hxr)
        · have e1 : kd (mnaS S q r N K) x = kd S x := (if_neg hxq).trans (if_neg hxr)
          rw [e1] at hx
          exact List.mem_cons_of_mem _ (List.mem_append_left _ ((hL x).mpr hx))
    obtain ⟨i, hi⟩ := List.getElem?_of_mem (show (x, enc G.2.1 (mnaS S q r N K) x) ∈ va_pl (q :: (L ++ (List.range N).map r)) (enc G.2.1 (mnaS S q r N K)) from List.mem_map.mpr ⟨x, hxm, rfl⟩)
    exact a2.2 i _ hi
end HN
