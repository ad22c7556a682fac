/-! The store: what the made things hold, as plain functions of their addresses. A kind: 0 nothing, 1 .. 12 an object (its number in vwCl and one more), 20 byte[], 21 int[], 22 long[], 23 .. 26 arrays of references, 27 int[][]. -/
abbrev St : Type := (Nat → Nat) × (Nat → Nat) × (Nat → Nat → Int32) × (Nat → Nat → Int64) × (Nat → Nat → Option Nat)
def kd (S : St) (a : Nat) : Nat := S.1 a
def ln (S : St) (a : Nat) : Nat := S.2.1 a
def gI (S : St) (a : Nat) : Nat → Int32 := S.2.2.1 a
def gJ (S : St) (a : Nat) : Nat → Int64 := S.2.2.2.1 a
def gR (S : St) (a : Nat) : Nat → Option Nat := S.2.2.2.2 a
def puI (S : St) (a j : Nat) (v : Int32) : St := (S.1, S.2.1, va_up S.2.2.1 a (upd (S.2.2.1 a) j v), S.2.2.2.1, S.2.2.2.2)
def puJ (S : St) (a j : Nat) (v : Int64) : St := (S.1, S.2.1, S.2.2.1, va_up S.2.2.2.1 a (vp_updL (S.2.2.2.1 a) j v), S.2.2.2.2)
def puR (S : St) (a j : Nat) (v : Option Nat) : St := (S.1, S.2.1, S.2.2.1, S.2.2.2.1, va_up S.2.2.2.2 a (va_up (S.2.2.2.2 a) j v))
def alo (S : St) (a k n : Nat) : St := (va_up S.1 a k, va_up S.2.1 a n, va_up S.2.2.1 a (fun _ => 0), va_up S.2.2.2.1 a (fun _ => 0), va_up S.2.2.2.2 a (fun _ => none))
def cpI (S : St) (a b sp dp n : Nat) : St := (S.1, S.2.1, va_up S.2.2.1 b (va_cpy (S.2.2.1 a) (S.2.2.1 b) sp dp n), S.2.2.2.1, S.2.2.2.2)
def cpJ (S : St) (a b sp dp n : Nat) : St := (S.1, S.2.1, S.2.2.1, va_up S.2.2.2.1 b (va_cpy (S.2.2.2.1 a) (S.2.2.2.1 b) sp dp n), S.2.2.2.2)
def fv (fi : Nat → Int32) (fj : Nat → Int64) (fr : Nat → Option Nat) (j t : Nat) : Value := if t = 0 then .int (fi j) else if t = 1 then .long (fj j) else va_rf (fr j)
def fvs (fi : Nat → Int32) (fj : Nat → Int64) (fr : Nat → Option Nat) : Nat → List Nat → List Value
  | _, [] => []
  | j, t :: ts => fv fi fj fr j t :: fvs fi fj fr (j + 1) ts
def encv (cy : Nat → ClassId) (k n : Nat) (fi : Nat → Int32) (fj : Nat → Int64) (fr : Nat → Option Nat) : va_E :=
  if k ≤ 12 then .inr (k - 1, fvs fi fj fr 0 (fty (k - 1)))
  else if k = 22 then .inl (cy 22, n, .inr (.inl fj))
  else if k ≤ 21 then .inl (cy k, n, .inl fi)
  else .inl (cy k, n, .inr (.inr (.inr (.inr fr))))
def enc (cy : Nat → ClassId) (S : St) (a : Nat) : va_E := encv cy (kd S a) (ln S a) (gI S a) (gJ S a) (gR S a)
/-- array classes, by their kinds from 20 on -/
def tyl (cy : Nat → ClassId) : List (ClassId × FieldType) := [(cy 20, .byte), (cy 21, .int), (cy 22, .long), (cy 23, .object RX0), (cy 24, .object RX3), (cy 25, .object RX8), (cy 26, .object RX10), (cy 27, .array .int)]
def Rp (D : va_G) (cy : Nat → ClassId) (S : St) (H : Heap) : Prop := ∃ L : List Nat, (∀ a, a ∈ L ↔ kd S a ≠ 0) ∧ va_P D vwCl (va_pl L (enc cy S)) H ∧ va_D (fun _ => True) (va_pl L (enc cy S))
def FA (S : St) (sz : Nat) : Nat → Prop := fun q => kd S q ≠ 0 ∨ sz ≤ q
-- texts
def sLen : List Nat := [5, 6, 1, 4, 3, 6, 6, 5, 4, 4, 3, 4, 64]
def sOwn : Nat → String := fun i => if i = 12 then RX12 else RX7
def sIdx : List Nat := [48, 54, 56, 58, 60, 62, 64, 66, 68, 70, 72, 73, 199]
def sTx : List String := ["stage", "method", "x", "back", "bob", "single", "ringer", "plain", "part", "loop", "end", "stop", " stage method ringer x back bob single plain part loop end stop "]
def sByt : List (List Int32) := [[115, 116, 97, 103, 101], [109, 101, 116, 104, 111, 100], [120], [98, 97, 99, 107], [98, 111, 98], [115, 105, 110, 103, 108, 101], [114, 105, 110, 103, 101, 114], [112, 108, 97, 105, 110], [112, 97, 114, 116], [108, 111, 111, 112], [101, 110, 100], [115, 116, 111, 112],
  [32, 115, 116, 97, 103, 101, 32, 109, 101, 116, 104, 111, 100, 32, 114, 105, 110, 103, 101, 114, 32, 120, 32, 98, 97, 99, 107, 32, 98, 111, 98, 32, 115, 105, 110, 103, 108, 101, 32, 112, 108, 97, 105, 110, 32, 112, 97, 114, 116, 32, 108, 111, 111, 112, 32, 101, 110, 100, 32, 115, 116, 111, 112, 32]]
def facs : List Int32 := [1, 1, 2, 6, 24, 120, 720, 5040, 40320]
/-- what lies outside the store and never changes -/
def Fx (sk sv : Nat → Nat) (sf : Nat) (A : Nat → Prop) (U : State) (H : Heap) : Prop :=
  va_Z RX4 "FACTORIALS" "[I" (.ref sf) A U H ∧ va_T .int sf 9 (fun j => .int (facs.getD j 0)) A U H ∧ vk_S 13 sLen sByt sk sv A U H ∧ va_Z "java/lang/String" "COMPACT_STRINGS" "Z" (.int 1) A U H ∧ (∀ i, i < 13 → vk_R (sOwn i) (sIdx.getD i 0) (sTx.getD i "") (sk i) U) ∧ va_Zq "jdk/internal/util/Preconditions" "SIOOBE_FORMATTER" "Ljava/util/function/BiFunction;" A U H
theorem Fx.pass {sk sv : Nat → Nat} {sf : Nat} {A A2 : Nat → Prop} {s U : State} {H0 H : Heap} (h : Fx sk sv sf A s H0) (hW : s.WarmedH U.vm) (hq : ∀ a : Nat, a < H0.size → ¬ A a → H[a]? = H0[a]?) (hA : ∀ q, A2 q → A q) : Fx sk sv sf A2 U H := by
  obtain ⟨h1, h2, h3, h4, h5, h6⟩ := h
  exact ⟨((h1.kept hq).moved hW.alike).narrow hA, ((h2.kept hq).moved hW.alike).narrow hA, ((h3.kept hq).moved hW.alike).narrow hA, ((h4.kept hq).moved hW.alike).narrow hA, fun i hi => (h5 i hi).warm hW, ((h6.kept hq).moved hW.alike).narrow hA⟩
theorem Fx.same {sk sv : Nat → Nat} {sf : Nat} {A : Nat → Prop} {u U : State} {H : Heap} (hv : u.vm = U.vm) (h : Fx sk sv sf A u H) : Fx sk sv sf A U H := by
  obtain ⟨h1, h2, h3, h4, h5, h6⟩ := h
  have ha : u.vm.Alike U.vm := by rw [hv]; exact Vm.Alike.refl _
  exact ⟨h1.moved ha, h2.moved ha, h3.moved ha, h4.moved ha, fun i hi => (h5 i hi).same hv.symm, h6.moved ha⟩
/-- what the tables say of classes -/
def va_AOI (U : State) : Prop := (Cond.arrayOver (.array .int)).before #[] U = true
theorem va_AOI.spec {s : State} (h : va_AOI s) : ∃ comp c k, s.vm.findClass (FieldType.array FieldType.int).toString = some comp ∧ (s.vm.classes.findIdx? fun (x : Class) => match x.kind with | .array component _ => component == comp | _ => false) = some c ∧ s.vm.classes[c]? = some k ∧ k.kind = .array comp (.array .int) ∧ s.vm.findClass ("[" ++ (FieldType.array FieldType.int).toString) = some c := by
  unfold va_AOI Cond.before at h
  simp only [Cond.holds, Cond.value, beq_iff_eq] at h
  cases hc : s.vm.findClass (FieldType.array FieldType.int).toString with
  | none => simp [hc] at h
  | some comp =>
    simp only [hc, Option.bind_some, Option.bind_eq_some_iff, Option.map_eq_some_iff] at h
    obtain ⟨c, hi, k, hk, hb⟩ := h
    obtain ⟨hlt, hp, -⟩ := Array.findIdx?_eq_some_iff_getElem.mp hi
    have hkk : s.vm.classes[c] = k := (Array.getElem?_eq_some_iff.mp hk).2
    rw [hkk] at hp
    cases hkind : k.kind with
    | array component ty =>
      rw [hkind] at hb hp
      simp at hb hp
      exact ⟨comp, c, k, rfl, hi, hk, by rw [hkind, hp, hb.1], hb.2⟩
    | _ => rw [hkind] at hb; simp at hb
theorem va_AOI.moved {u U : State} (hvm : u.vm.Alike U.vm) (h : va_AOI u) : va_AOI U := by
  obtain ⟨comp, c, k, h1, h2, h3, h4, h5⟩ := h.spec
  obtain ⟨k', hk', he⟩ := hvm.2.2 _ _ h3
  have hi : (U.vm.classes.findIdx? fun (x : Class) => match x.kind with | .array component _ => component == comp | _ => false) = some c := by
    have e1 := va_idx_bare U.vm comp
    have e2 := va_idx_bare u.vm comp
    have e3 : U.vm.bare = u.vm.bare := by first | exact hvm.bare_eq | exact hvm.bare_eq.symm
    rw [e3] at e1
    exact e1.symm.trans (e2.trans h2)
  have hkind : k'.kind = .array comp (.array .int) := by rw [he]; exact h4
  have f1 : U.vm.findClass (FieldType.array FieldType.int).toString = some comp := by rw [hvm.findClass]; exact h1
  have f2 : U.vm.findClass ("[" ++ (FieldType.array FieldType.int).toString) = some c := by rw [hvm.findClass]; exact h5
  unfold va_AOI Cond.before
  simp only [Cond.holds, Cond.value, f1, Option.bind_some, beq_iff_eq]
  rw [Option.bind_eq_some_iff]
  exact ⟨c, hi, by simp [hk', hkind, f2]⟩
def KK (D : va_G) (cy : Nat → ClassId) (U : State) : Prop :=
  va_K D vwCl (tyl cy) U ∧ (va_AO RX0 U ∧ va_AO RX3 U ∧ va_AO RX8 U ∧ va_AO RX10 U ∧ va_AOI U ∧ va_Nw (.castable "[I" "java/lang/Cloneable") U) ∧ va_Nw (.methodLinkNest RX11 91 yX6_init RX11) U ∧ va_Nw (.methodLinkNest RX11 98 yX5_init RX11) U ∧ va_Nw (.methodLinkNest RX11 105 yX2_init RX11) U
theorem KK.warm {D : va_G} {cy : Nat → ClassId} {s U : State} (hW : s.WarmedH U.vm) (h : KK D cy s) : KK D cy U := by
  obtain ⟨h1, ⟨a1, a2, a3, a4, a5, a6⟩, h2, h3, h4⟩ := h
  exact ⟨h1.moved hW.alike, ⟨a1.moved hW.alike, a2.moved hW.alike, a3.moved hW.alike, a4.moved hW.alike, a5.moved hW.alike, a6.warmC hW⟩, h2.warmM hW, h3.warmM hW, h4.warmM hW⟩
theorem KK.same {D : va_G} {cy : Nat → ClassId} {u U : State} (hv : u.vm = U.vm) (h : KK D cy u) : KK D cy U := by
  have ha : u.vm.Alike U.vm := by rw [hv]; exact Vm.Alike.refl _
  obtain ⟨h1, ⟨a1, a2, a3, a4, a5, a6⟩, h2, h3, h4⟩ := h
  exact ⟨h1.moved ha, ⟨a1.moved ha, a2.moved ha, a3.moved ha, a4.moved ha, a5.moved ha, va_Nw.same rfl hv a6⟩, va_Nw.same rfl hv h2, va_Nw.same rfl hv h3, va_Nw.same rfl hv h4⟩
abbrev GG : Type := va_G × (Nat → ClassId) × (Nat → Nat) × (Nat → Nat) × Nat
def Wd (G : GG) (S : St) (sz : Nat) (U : State) : Prop := U.heap.size = sz ∧ Rp G.1 G.2.1 S U.heap ∧ KK G.1 G.2.1 U ∧ Fx G.2.2.1 G.2.2.2.1 G.2.2.2.2 (FA S sz) U U.heap
def Qd (G : GG) (S : St) (sz : Nat) (Q : Option Value → St → Prop) : Array Value → State → Outcome → State → Prop := fun _ st oc t =>
  (∃ (v : Option Value) (S' : St), oc = .returned v ∧ Q v S' ∧ Rp G.1 G.2.1 S' t.heap ∧ ∀ a, kd S' a ≠ 0 → FA S sz a) ∧ va_F (FA S sz) st t
def Ctr (G : GG) (l : Launch) (y : MethodName) (bc : ByteArray) (mL : Nat) (rt : Option FieldType) (fr lo mc ms : Nat) (av : List Value) (S : St) (Q : Option Value → St → Prop) : Prop :=
  ∀ sz, Met l y (Cond.code y bc mL rt :: TB) { frames := fr, cells := mc, slots := ms, locals := lo } (va_Pc av (Wd G S sz)) (Qd G S sz Q) mc ms (FA S sz)
def Hp (G : GG) (A : Nat → Prop) (H0 : Heap) (S : St) (H : Heap) (locs : List Loc) : Prop := Rp G.1 G.2.1 S H ∧ (∀ a, kd S a ≠ 0 → A a) ∧ va_S A H0 H locs
def Bd (G : GG) (p : Program) (s : State) (m : MethodId) (args : Array Value) (c : Code) (cc : ByteArray) (nL : Nat) (own : String) (A : Nat → Prop) : Prop :=
  p.tables.exec = Jvm.exec ∧ c.code = cc ∧ c.maxLocals = nL ∧ s.vm.findClass own = some m.cls ∧ (∀ w ∈ TB, w.before args s = true) ∧ KK G.1 G.2.1 s ∧ Fx G.2.2.1 G.2.2.2.1 G.2.2.2.2 A s s.heap ∧ ∀ q, s.heap.size ≤ q → A q
-- what is held where, behind a write
theorem kd_puI {S : St} {a j : Nat} {v : Int32} : kd (puI S a j v) = kd S := rfl
theorem kd_puJ {S : St} {a j : Nat} {v : Int64} : kd (puJ S a j v) = kd S := rfl
theorem kd_puR {S : St} {a j : Nat} {v : Option Nat} : kd (puR S a j v) = kd S := rfl
theorem ln_puI {S : St} {a j : Nat} {v : Int32} : ln (puI S a j v) = ln S := rfl
theorem ln_puJ {S : St} {a j : Nat} {v : Int64} : ln (puJ S a j v) = ln S := rfl
theorem ln_puR {S : St} {a j : Nat} {v : Option Nat} : ln (puR S a j v) = ln S := rfl
theorem gI_puI {S : St} {a j : Nat} {v : Int32} : gI (puI S a j v) a = upd (gI S a) j v := va_up_self ..
theorem gI_puIn {S : St} {a b j : Nat} {v : Int32} (h : b ≠ a) : gI (puI S a j v) b = gI S b := va_up_ne _ _ h
theorem gJ_puI {S : St} {a j : Nat} {v : Int32} : gJ (puI S a j v) = gJ S := rfl
theorem gR_puI {S : St} {a j : Nat} {v : Int32} : gR (puI S a j v) = gR S := rfl
theorem gI_puJ {S : St} {a j : Nat} {v : Int64} : gI (puJ S a j v) = gI S := rfl
theorem gJ_puJ {S : St} {a j : Nat} {v : Int64} : gJ (puJ S a j v) a = vp_updL (gJ S a) j v := va_up_self ..
theorem gJ_puJn {S : St} {a b j : Nat} {v : Int64} (h : b ≠ a) : gJ (puJ S a j v) b = gJ S b := va_up_ne _ _ h
theorem gR_puJ {S : St} {a j : Nat} {v : Int64} : gR (puJ S a j v) = gR S := rfl
theorem gI_puR {S : St} {a j : Nat} {v : Option Nat} : gI (puR S a j v) = gI S := rfl
theorem gJ_puR {S : St} {a j : Nat} {v : Option Nat} : gJ (puR S a j v) = gJ S := rfl
theorem gR_puR {S : St} {a j : Nat} {v : Option Nat} : gR (puR S a j v) a = va_up (gR S a) j v := va_up_self ..
theorem gR_puRn {S : St} {a b j : Nat} {v : Option Nat} (h : b ≠ a) : gR (puR S a j v) b = gR S b := va_up_ne _ _ h
theorem kd_alo {S : St} {a k n : Nat} : kd (alo S a k n) a = k := va_up_self ..
theorem kd_alon {S : St} {a b k n : Nat} (h : b ≠ a) : kd (alo S a k n) b = kd S b := va_up_ne _ _ h
theorem ln_alo {S : St} {a k n : Nat} : ln (alo S a k n) a = n := va_up_self ..
theorem ln_alon {S : St} {a b k n : Nat} (h : b ≠ a) : ln (alo S a k n) b = ln S b := va_up_ne _ _ h
theorem gI_alo {S : St} {a k n : Nat} : gI (alo S a k n) a = fun _ => 0 := va_up_self ..
theorem gI_alon {S : St} {a b k n : Nat} (h : b ≠ a) : gI (alo S a k n) b = gI S b := va_up_ne _ _ h
theorem gJ_alo {S : St} {a k n : Nat} : gJ (alo S a k n) a = fun _ => 0 := va_up_self ..
theorem gJ_alon {S : St} {a b k n : Nat} (h : b ≠ a) : gJ (alo S a k n) b = gJ S b := va_up_ne _ _ h
theorem gR_alo {S : St} {a k n : Nat} : gR (alo S a k n) a = fun _ => none := va_up_self ..
theorem gR_alon {S : St} {a b k n : Nat} (h : b ≠ a) : gR (alo S a k n) b = gR S b := va_up_ne _ _ h
theorem kd_cpI {S : St} {a b sp dp n : Nat} : kd (cpI S a b sp dp n) = kd S := rfl
theorem ln_cpI {S : St} {a b sp dp n : Nat} : ln (cpI S a b sp dp n) = ln S := rfl
theorem gI_cpI {S : St} {a b sp dp n : Nat} : gI (cpI S a b sp dp n) b = va_cpy (gI S a) (gI S b) sp dp n := va_up_self ..
theorem gI_cpIn {S : St} {a b d sp dp n : Nat} (h : d ≠ b) : gI (cpI S a b sp dp n) d = gI S d := va_up_ne _ _ h
theorem gJ_cpI {S : St} {a b sp dp n : Nat} : gJ (cpI S a b sp dp n) = gJ S := rfl
theorem gR_cpI {S : St} {a b sp dp n : Nat} : gR (cpI S a b sp dp n) = gR S := rfl
theorem kd_cpJ {S : St} {a b sp dp n : Nat} : kd (cpJ S a b sp dp n) = kd S := rfl
theorem ln_cpJ {S : St} {a b sp dp n : Nat} : ln (cpJ S a b sp dp n) = ln S := rfl
theorem gJ_cpJ {S : St} {a b sp dp n : Nat} : gJ (cpJ S a b sp dp n) b = va_cpy (gJ S a) (gJ S b) sp dp n := va_up_self ..
theorem gJ_cpJn {S : St} {a b d sp dp n : Nat} (h : d ≠ b) : gJ (cpJ S a b sp dp n) d = gJ S d := va_up_ne _ _ h
theorem gI_cpJ {S : St} {a b sp dp n : Nat} : gI (cpJ S a b sp dp n) = gI S := rfl
theorem gR_cpJ {S : St} {a b sp dp n : Nat} : gR (cpJ S a b sp dp n) = gR S := rfl
-- fields as a list
theorem fvs_at (fi : Nat → Int32) (fj : Nat → Int64) (fr : Nat → Option Nat) : ∀ (ts : List Nat) (j k : Nat), (fvs fi fj fr j ts)[k]? = (ts[k]?).map (fun t => fv fi fj fr (j + k) t)
  | [], j, k => by simp [fvs]
  | t :: ts, j, 0 => by simp [fvs]
  | t :: ts, j, k + 1 => by
    simp only [fvs, List.getElem?_cons_succ]
    rw [fvs_at fi fj fr ts (j + 1) k, show j + 1 + k = j + (k + 1) by omega]
theorem fvs_len (fi : Nat → Int32) (fj : Nat → Int64) (fr : Nat → Option Nat) : ∀ (ts : List Nat) (j : Nat), (fvs fi fj fr j ts).length = ts.length
  | [], j => rfl
  | t :: ts, j => by simp [fvs, fvs_len fi fj fr ts (j + 1)]
theorem fvs_set {fi fi2 : Nat → Int32} {fj fj2 : Nat → Int64} {fr fr2 : Nat → Option Nat} {ts : List Nat} {j t : Nat} {v : Value} (ht : ts[j]? = some t) (hv : fv fi2 fj2 fr2 j t = v)
    (hn : ∀ k u, k ≠ j → ts[k]? = some u → fv fi2 fj2 fr2 k u = fv fi fj fr k u) : (fvs fi fj fr 0 ts).set j v = fvs fi2 fj2 fr2 0 ts := by
  have hl : j < ts.length := (List.getElem?_eq_some_iff.mp ht).1
  apply List.ext_getElem?
  intro k
  rw [fvs_at, Nat.zero_add]
  by_cases hk : k = j
  · subst hk
    rw [List.getElem?_set_self (by rw [fvs_len]; exact hl), ht, ← hv]
    rfl
  · rw [List.getElem?_set_ne (Ne.symm hk), fvs_at, Nat.zero_add]
    cases hu : ts[k]? with
    | none => rfl
    | some u => simp only [Option.map_some]; rw [hn k u hk hu]
