/-! One instruction a row, over the store. -/
-- the words of an object or array cell
theorem enc_o {cy : Nat → ClassId} {S : St} {a ci : Nat} (h : kd S a = ci + 1) (hc : ci < 12) : enc cy S a = .inr (ci, fvs (gI S a) (gJ S a) (gR S a) 0 (fty ci)) := by
  unfold enc encv
  rw [h, if_pos (by omega)]
  rfl
theorem enc_i {cy : Nat → ClassId} {S : St} {a k : Nat} (h : kd S a = k) (hk : k = 20 ∨ k = 21) : enc cy S a = .inl (cy k, ln S a, .inl (gI S a)) := by
  unfold enc encv
  rw [h]
  rcases hk with rfl | rfl <;> rfl
theorem enc_j {cy : Nat → ClassId} {S : St} {a : Nat} (h : kd S a = 22) : enc cy S a = .inl (cy 22, ln S a, .inr (.inl (gJ S a))) := by
  unfold enc encv
  rw [h]
  rfl
theorem enc_r {cy : Nat → ClassId} {S : St} {a k : Nat} (h : kd S a = k) (hk : 22 < k) : enc cy S a = .inl (cy k, ln S a, .inr (.inr (.inr (.inr (gR S a))))) := by
  unfold enc encv
  rw [h, if_neg (by omega), if_neg (by omega), if_neg (by omega)]
theorem enc_eq {cy : Nat → ClassId} {S S2 : St} {b : Nat} (h1 : kd S2 b = kd S b) (h2 : ln S2 b = ln S b) (h3 : gI S2 b = gI S b) (h4 : gJ S2 b = gJ S b) (h5 : gR S2 b = gR S b) : enc cy S2 b = enc cy S b := by
  unfold enc
  rw [h1, h2, h3, h4, h5]
/-- a cell of the store is at some place of the pool -/
theorem rp_at {D : va_G} {cy : Nat → ClassId} {S : St} {H : Heap} {a : Nat} {E : va_E} (h : Rp D cy S H) (ha : kd S a ≠ 0) (hE : enc cy S a = E) : ∃ (ws : va_W) (k : Nat), va_P D vwCl ws H ∧ ws[k]? = some (a, E) := by
  obtain ⟨L, hL, hP, hD⟩ := h
  obtain ⟨k, hk⟩ := va_pl_get (X := []) (f := enc cy S) ((hL a).mpr ha)
  exact ⟨_, k, hP, by rw [← hE]; exact hk⟩
theorem rp_lt {D : va_G} {cy : Nat → ClassId} {S : St} {H : Heap} {a : Nat} (h : Rp D cy S H) (ha : kd S a ≠ 0) : a < H.size := by
  obtain ⟨ws, k, hP, hk⟩ := rp_at h ha rfl
  exact (hP k _ hk).lt
theorem rp_fresh {D : va_G} {cy : Nat → ClassId} {S : St} {H : Heap} {a : Nat} (h : Rp D cy S H) (ha : H.size ≤ a) : kd S a = 0 := by
  by_cases hk : kd S a = 0
  · exact hk
  · have := rp_lt h hk
    omega
/-- what a write to one cell does -/
theorem rp_put {G : GG} {A : Nat → Prop} {H0 H : Heap} {locs : List Loc} {S S2 : St} {a : Nat} {E E2 : va_E} (h : Hp G A H0 S H locs) (ha : kd S a ≠ 0) (hE : enc G.2.1 S a = E) (h2 : kd S2 = kd S) (h3 : enc G.2.1 S2 a = E2) (h4 : ∀ b, b ≠ a → enc G.2.1 S2 b = enc G.2.1 S b) :
    ∃ (ws : va_W) (k : Nat), va_P G.1 vwCl ws H ∧ va_D A ws ∧ va_S A H0 H locs ∧ ws[k]? = some (a, E) ∧ (∀ (b : Nat) (E3 : va_E), kd S b ≠ 0 → enc G.2.1 S b = E3 → ∃ k3 : Nat, ws[k3]? = some (b, E3)) ∧ ∀ (H1 : Heap) (locs1 : List Loc), va_P G.1 vwCl (ws.set k (a, E2)) H1 → va_D A (ws.set k (a, E2)) → va_S A H0 H1 locs1 → Hp G A H0 S2 H1 locs1 := by
  obtain ⟨⟨L, hL, hP, hD⟩, hI, hS⟩ := h
  obtain ⟨k, hk⟩ := va_pl_get (X := []) (f := enc G.2.1 S) ((hL a).mpr ha)
  have hD' : va_D A (va_pl L (enc G.2.1 S)) := hD.weaken (fun k q hq _ => by
    obtain ⟨x, hx, e⟩ := List.mem_map.mp (List.mem_of_getElem? hq)
    rw [← e]
    exact hI x ((hL x).mp hx))
  refine ⟨va_pl L (enc G.2.1 S), k, hP, hD', hS, by rw [← hE]; exact hk, fun b E3 hb hE3 => ?_, fun H1 locs1 hP1 hD1 hS1 => ?_⟩
  · obtain ⟨k3, hk3⟩ := va_pl_get (X := []) (f := enc G.2.1 S) ((hL b).mpr hb)
    exact ⟨k3, by rw [← hE3]; exact hk3⟩
  have e : (va_pl L (enc G.2.1 S)).set k (a, E2) = va_pl L (enc G.2.1 S2) := by
    have e1 := va_pl_set (X := []) (e := E2) hD' ((hL a).mpr ha) hk
    have e2 : va_pl L (va_up (enc G.2.1 S) a E2) = va_pl L (enc G.2.1 S2) := va_pl_congr (fun b => by
      by_cases hb : b = a
      · subst hb
        rw [va_up_self, h3]
      · rw [va_up_ne _ _ hb, h4 b hb])
    exact e1.trans e2
  rw [e] at hP1 hD1
  exact ⟨⟨L, fun x => by rw [h2]; exact hL x, hP1, hD1.weaken (fun _ _ _ _ => trivial)⟩, fun x hx => hI x (by rw [← h2]; exact hx), hS1⟩
/-- what a new cell does -/
theorem rp_new {G : GG} {A : Nat → Prop} {H0 H : Heap} {locs : List Loc} {S : St} (h : Hp G A H0 S H locs) :
    ∃ ws : va_W, va_P G.1 vwCl ws H ∧ va_D A ws ∧ va_S A H0 H locs ∧ ∀ (q k n : Nat) (E : va_E) (H1 : Heap), k ≠ 0 → encv G.2.1 k n (fun _ => 0) (fun _ => 0) (fun _ => none) = E → va_P G.1 vwCl (ws ++ [(q, E)]) H1 → va_D A (ws ++ [(q, E)]) → va_S A H0 H1 locs → kd S q = 0 ∧ Hp G A H0 (alo S q k n) H1 locs := by
  obtain ⟨⟨L, hL, hP, hD⟩, hI, hS⟩ := h
  have hD' : va_D A (va_pl L (enc G.2.1 S)) := hD.weaken (fun k q hq _ => by
    obtain ⟨x, hx, e⟩ := List.mem_map.mp (List.mem_of_getElem? hq)
    rw [← e]
    exact hI x ((hL x).mp hx))
  refine ⟨va_pl L (enc G.2.1 S), hP, hD', hS, fun q k n E H1 hk hE hP1 hD1 hS1 => ?_⟩
  have hq : q ∉ L := fun hm => by
    obtain ⟨i, hi⟩ := va_pl_get (X := []) (f := enc G.2.1 S) hm
    have hi : (va_pl L (enc G.2.1 S))[i]? = some (q, enc G.2.1 S q) := hi
    have hl : i < (va_pl L (enc G.2.1 S)).length := (List.getElem?_eq_some_iff.mp hi).1
    have e := hD1.1 i (va_pl L (enc G.2.1 S)).length (q, enc G.2.1 S q) (q, E) (by rw [List.getElem?_append_left hl]; exact hi) (by rw [List.getElem?_append_right (Nat.le_refl _), Nat.sub_self]; rfl) rfl
    omega
  have e : va_pl L (enc G.2.1 S) ++ [(q, E)] = va_pl (L ++ [q]) (enc G.2.1 (alo S q k n)) := by
    rw [va_pl_push hq]
    refine va_pl_congr (fun b => ?_)
    by_cases hb : b = q
    · subst hb
      rw [va_up_self, ← hE]
      unfold enc
      rw [kd_alo, ln_alo, gI_alo, gJ_alo, gR_alo]
    · rw [va_up_ne _ _ hb]
      exact (enc_eq (kd_alon hb) (ln_alon hb) (gI_alon hb) (gJ_alon hb) (gR_alon hb)).symm
  rw [e] at hP1 hD1
  refine ⟨by
    by_cases hz : kd S q = 0
    · exact hz
    · exact absurd ((hL q).mpr hz) hq, ⟨L ++ [q], fun x => ?_, hP1, hD1.weaken (fun _ _ _ _ => trivial)⟩, fun x hx => ?_, hS1⟩
  · rw [List.mem_append, List.mem_singleton]
    by_cases hx : x = q
    · subst hx
      rw [kd_alo]
      exact ⟨fun _ => hk, fun _ => Or.inr rfl⟩
    · rw [kd_alon hx, hL x]
      exact ⟨fun h => h.elim id (fun h => absurd h hx), Or.inl⟩
  · by_cases hxq : x = q
    · subst hxq
      have := hD1.2 L.length (x, enc G.2.1 (alo S x k n) x) (by rw [va_pl, List.map_append, List.getElem?_append_right (by simp), List.length_map, Nat.sub_self]; rfl)
      exact this
    · rw [kd_alon hxq] at hx
      exact hI x hx
section SX
variable {G : GG} {p : Program} {l : Launch} {e : Env} {R : Room} {s : State} {m : MethodId} {args : Array Value} {below : List Frame} {meth : Method} {c : Code} {H : Heap} {locs : List Loc} {cells slots : Nat} {Q : State → Prop}
variable {cc : ByteArray} {nL pc : Nat} {own : String} {ls : Array Slot} {rest : List Value} {A : Nat → Prop} {S : St} {a : Nat}
/-- what is known of a class of made things: its number, its fields -/
def CO (ci : Nat) (C : String) (T : u_T) (N : Nat) (ty : Nat → FieldType) : Prop := vwCl[ci]? = some (C, T, N) ∧ ci < 12 ∧ (∀ w ∈ u_ws C T N, w ∈ TB) ∧ (∀ k, k < N → parseFieldDescriptor (T k).2.2.1 = some (ty k)) ∧ (∀ a, a < N → ∀ b, b < N → a ≠ b → (T a).2.1 ≠ (T b).2.1) ∧ (fty ci).length = N
theorem sx_get {ci j t index N : Nat} {C : String} {T : u_T} {ty : Nat → FieldType} {v : Value} (B : Bd G p s m args c cc nL own A) (h : Hp G A s.heap S H locs) (hk : kd S a = ci + 1) (hC : CO ci C T N ty) (ht : (fty ci)[j]? = some t) (hv : fv (gI S a) (gJ S a) (gR S a) j t = v) (hw : Cond.fieldLink own index C (T j).2.1 (T j).2.2.1 ∈ TB) (hT : (T j).1 = C) (hdg : decode cc pc = .ok (.getfield index, 3))
    (kk : W p l e R s m args below meth c H locs cells slots Q (F0 m (pc + 3) ls (v :: rest))) : W p l e R s m args below meth c H locs cells slots Q (F0 m pc ls (.ref a :: rest)) := by
  obtain ⟨hx, hb, hml, hown, hts, hK, -, -⟩ := B
  obtain ⟨c1, c2, c3, c4, c5, c6⟩ := hC
  have hj : j < N := by rw [← c6]; exact (List.getElem?_eq_some_iff.mp ht).1
  obtain ⟨ws, k, hP, hk2⟩ := rp_at h.1 (by omega) (enc_o hk c2)
  exact va_get (D := G.1) (cl := vwCl) hx hb hts c3 hown hK.1 hP k hk2 c1 j hj (hts _ hw) (fun x h9 => by rw [hT] at h9; exact h9) (v := v) (by rw [fvs_at, ht, Nat.zero_add, Option.map_some, hv]) hdg kk
theorem sx_put {ci j t index N : Nat} {C : String} {T : u_T} {ty : Nat → FieldType} {v : Value} {S2 : St} (B : Bd G p s m args c cc nL own A) (h : Hp G A s.heap S H locs) (hk : kd S a = ci + 1) (hC : CO ci C T N ty) (ht : (fty ci)[j]? = some t) (hw : Cond.fieldLink own index C (T j).2.1 (T j).2.2.1 ∈ TB) (hT : (T j).1 = C) (hfin : (T j).2.2.2 = false ∨ ((T j).2.2.2 = true ∧ meth.name = "<init>" ∧ (T j).1 = own)) (hn : narrow (ty j) v = v) (hf : fits (ty j) v = true)
    (h2 : kd S2 = kd S) (h3 : enc G.2.1 S2 a = .inr (ci, (fvs (gI S a) (gJ S a) (gR S a) 0 (fty ci)).set j v)) (h4 : ∀ b, b ≠ a → enc G.2.1 S2 b = enc G.2.1 S b) (hdg : decode cc pc = .ok (.putfield index, 3))
    (kk : ∀ (H : Heap) (locs : List Loc), Hp G A s.heap S2 H locs → W p l e R s m args below meth c H locs cells slots Q (F0 m (pc + 3) ls rest)) : W p l e R s m args below meth c H locs cells slots Q (F0 m pc ls (v :: .ref a :: rest)) := by
  obtain ⟨hx, hb, hml, hown, hts, hK, -, -⟩ := B
  obtain ⟨c1, c2, c3, c4, c5, c6⟩ := hC
  have hj : j < N := by rw [← c6]; exact (List.getElem?_eq_some_iff.mp ht).1
  obtain ⟨ws, k, hP, hD, hS, hk2, -, go⟩ := rp_put h (by omega) (enc_o hk c2) h2 h3 h4
  have hl : j < (fvs (gI S a) (gJ S a) (gR S a) 0 (fty ci)).length := by rw [fvs_len, c6]; exact hj
  rcases hfin with hfin | ⟨f1, f2, f3⟩
  · exact va_put (D := G.1) (cl := vwCl) hx hb hts c3 ty c4 c5 hown hK.1 hP hD hS k hk2 c1 j hj (hts _ hw) (fun x h9 => by rw [hT] at h9; exact h9) hfin (c4 j hj) hn hf hl hdg (fun H1 locs1 a1 a2 a3 => kk H1 locs1 (go H1 locs1 a1 a2 a3))
  · exact va_putF (D := G.1) (cl := vwCl) hx hb hts c3 ty c4 c5 hown hK.1 hP hD hS k hk2 c1 j hj (hts _ hw) (fun x h9 => by rw [hT] at h9; exact h9) f1 f2 f3 (c4 j hj) hn hf hl hdg (fun H1 locs1 a1 a2 a3 => kk H1 locs1 (go H1 locs1 a1 a2 a3))
end SX
