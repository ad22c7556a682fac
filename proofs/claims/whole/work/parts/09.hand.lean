def mnaS (S : St) (q : Nat) (r : Nat → Nat) (n k : Nat) : St :=
  (fun b => if b = q then 27 else if b ∈ (List.range n).map r then 21 else S.1 b, fun b => if b = q then n else if b ∈ (List.range n).map r then k else S.2.1 b,
   fun b => if b = q ∨ b ∈ (List.range n).map r then (fun _ => 0) else S.2.2.1 b, fun b => if b = q ∨ b ∈ (List.range n).map r then (fun _ => 0) else S.2.2.2.1 b,
   fun b => if b = q then (fun i => if i < n then some (r i) else none) else if b ∈ (List.range n).map r then (fun _ => none) else S.2.2.2.2 b)
def P_J7_copyOf_59c91 (p0 : Nat) (p1 : Int32) (S : St) (bc bs : Nat) (Q : Option Nat → St → Prop) : Prop :=
  kd S p0 = 21 ∧ ¬ p1 < 0 ∧ p1.toNatClampNeg * 4 ≤ 536870912 ∧ ln S p0 < 2 ^ 31 ∧ 1 ≤ bc ∧ p1.toNatClampNeg ≤ bs ∧
  ∀ (q : Nat) (f : Nat → Int32), kd S q = 0 → (∀ j, j < p1.toNatClampNeg → f j = if j < ln S p0 then gI S p0 j else 0) → ∀ S1 : St, S1 = wI (alo S q 21 p1.toNatClampNeg) (va_up (gI S) q f) → Q (some q) S1
section HN
variable {G : GG} {p : Program} {l : Launch} {e : Env} {R : Room} {s : State} {m : MethodId} {args : Array Value} {below : List Frame} {meth : Method} {c : Code} {H : Heap} {locs : List Loc} {cells slots : Nat} {Q : State → Prop}
variable {cc : ByteArray} {nL pc index : Nat} {own : String} {ls : Array Slot} {rest : List Value} {A : Nat → Prop} {S : St}
theorem sx_slen {i : Nat} (B : Bd G p s m args c cc nL own A) (h : Hp G A s.heap S H locs) (hl : ls.size = nL) (hi : i < 13) (hw : Cond.methodLink own index ⟨"java/lang/String", "length", "()I"⟩ ∈ TB) (hR : 2 ≤ R.frames ∧ 40 ≤ R.locals) (hrest : (rest.map fun v => v.category).sum ≤ 8) (hf : cells + 0 ≤ R.cells ∧ slots + 0 ≤ R.slots) (hdg : decode cc pc = .ok (.invokevirtual index, 3))
    (kk : W p l e R s m args below meth c H locs cells slots Q (F0 m (pc + 3) ls (.int (nI (sLen.getD i 0)) :: rest))) : W p l e R s m args below meth c H locs cells slots Q (F0 m pc ls (.ref (G.2.2.1 i) :: rest)) := by
  sorry
theorem sx_schr {i : Nat} {j : Int32} (B : Bd G p s m args c cc nL own A) (h : Hp G A s.heap S H locs) (hl : ls.size = nL) (hi : i < 13) (hj : vp_in j (sLen.getD i 0)) (hw : Cond.methodLink own index ⟨"java/lang/String", "charAt", "(I)C"⟩ ∈ TB) (hR : 4 ≤ R.frames ∧ 85 ≤ R.locals) (hrest : (rest.map fun v => v.category).sum ≤ 8) (hf : cells + 0 ≤ R.cells ∧ slots + 0 ≤ R.slots) (hdg : decode cc pc = .ok (.invokevirtual index, 3))
    (kk : W p l e R s m args below meth c H locs cells slots Q (F0 m (pc + 3) ls (.int (sCh i j) :: rest))) : W p l e R s m args below meth c H locs cells slots Q (F0 m pc ls (.int j :: .ref (G.2.2.1 i) :: rest)) := by
  sorry
theorem sx_mna {n k : Int32} {N K : Nat} (B : Bd G p s m args c cc nL own A) (h : Hp G A s.heap S H locs) (hcl : Cond.classLink own index "[[I" ∈ TB) (harr : Cond.arrayClass .int ∈ TB) (hn : n.toNatClampNeg = N ∧ ¬ n < 0) (hk : k.toNatClampNeg = K ∧ ¬ k < 0) (hb1 : N * 4 ≤ 536870912) (hb2 : K * 4 ≤ 536870912) (hcells : cells + (1 + N) ≤ R.cells) (hslots : slots + (N + N * K) ≤ R.slots) (hdg : decode cc pc = .ok (.multianewarray index 2, 4))
    (kk : ∀ (q : Nat) (r : Nat → Nat) (H : Heap), kd S q = 0 → (∀ i, i < N → kd S (r i) = 0 ∧ r i ≠ q) → (∀ i j, i < N → j < N → r i = r j → i = j) → Hp G A s.heap (mnaS S q r N K) H locs → W p l e R s m args below meth c H locs (cells + 1 + N) (slots + N + N * K) Q (F0 m (pc + 4) ls (.ref q :: rest))) : W p l e R s m args below meth c H locs cells slots Q (F0 m pc ls (.int k :: .int n :: rest)) := by
  sorry
end HN
