/-! Both sides whole: what ties them between two calls. Each cell bears a label: 1 the chamber, 2 the reference, 3 trays, 4 tokens, 5 and 6 the readers, 7 marks, 8 stamps, 9 search, 10 compositions, 11 what never changes. -/
def gM (m : Nat) (am : Nat → Nat) (ow : Nat → Nat) (S : St) (q : Nat) : Prop := LM S m am ∧ ow m = 2 ∧ (∀ f, mk f ≠ 0 → ow (am f) = 2) ∧ SM (gI S) m am q
def gQ (x m : Nat) (S : St) : Prop := gI S m 2 = gI S x 0 ∧ gJ S m 3 = gJ S x 1 ∧ gJ S m 4 = gJ S x 2
def gB (x : Nat) (am : Nat → Nat) (S : St) (im : Nat → Prop) (M : Mk) : Prop := Cl im S M (gR S x 7) (gR S x 8) (gR S x 9) ∧ Sl M.2.1 M.2.2.1 M.2.2.2 (gI S (am 0)) (gJ S (am 1))
def gK (x m : Nat) (z am : Nat → Nat) (ow : Nat → Nat) (S : St) (im : Nat → Prop) (c : Nat) (Ms : Nat → Mk) : Prop := MKx S x (z 7) (z 8) (z 9) m am im c Ms ∧ ow (z 7) = 7 ∧ ow (z 8) = 7 ∧ ow (z 9) = 7
def gT (x : Nat) (z am : Nat → Nat) (ow : Nat → Nat) (S : St) (tq ta : Nat → Nat) (Y : Nat → Yt) : Prop := TrX S x (z 13) tq ta am Y ∧ TrD Y ta am ∧ ow (z 13) = 3 ∧ ∀ i, i < 4 → Y i ≠ none → ow (tq i) = 3 ∧ ow (ta i) = 3
def gP (x m : Nat) (z am : Nat → Nat) (ow : Nat → Nat) (S : St) (t : Nat) : Prop := TpX S x (z 2) (z 3) m am t ∧ TkX S (z 2) (z 3) (z 4) ∧ (gI S m 16 = gI S (z 2) 9 ∧ gI S m 17 = gI S (z 2) 10) ∧ ow (z 2) = 4 ∧ ow (z 3) = 4 ∧ ow (z 4) = 4
def gRd (x : Nat) (z : Nat → Nat) (w : Nat → Nat → Nat) (ow : Nat → Nat) (S : St) : Prop := gR S x 5 = some (z 5) ∧ BrX S (z 5) (z 2) (z 4) (w 1) (w 2) ∧ ow (z 5) = 5 ∧ (∀ i, 6 ≤ i → i ≤ 11 → ow (w 1 i) = 5) ∧ ∀ i, i < 4 → ow (w 2 i) = 5
def gDd (x : Nat) (z : Nat → Nat) (w : Nat → Nat → Nat) (ow : Nat → Nat) (S : St) : Prop := gR S x 6 = some (z 6) ∧ TrdX S (z 6) (z 2) (w 3) ∧ ow (z 6) = 6 ∧ ∀ i, 4 ≤ i → i ≤ 9 → ow (w 3 i) = 6
def gS (x : Nat) (z ow : Nat → Nat) (S : St) (a len p : Nat) : Prop := gR S x 14 = some (z 10) ∧ SX S (z 10) a len p ∧ ow (z 10) = 8 ∧ ow a = 8
def gE (x m : Nat) (z am ow : Nat → Nat) (S : St) (im : Nat → Prop) (sa : Nat → Nat) (ls wl : Nat) : Prop := gR S x 15 = some (z 11) ∧ SeX S (z 11) sa ls wl ∧ SeO S (z 11) sa im ls ∧ WyR S (z 11) m sa am wl ∧ ow (z 11) = 9 ∧ ∀ f, seF f = true → ow (sa f) = 9
def gC (x m : Nat) (z : Nat → Nat) (w : Nat → Nat → Nat) (ow : Nat → Nat) (S : St) : Prop := gR S x 16 = some (z 12) ∧ CoX S (z 12) (w 4) ∧ COr S (z 12) m (w 4) (w 0) ∧ ow (z 12) = 10 ∧ ∀ f, f < 4 → ow (w 4 f) = 10
def gIm (ow : Nat → Nat) (S : St) (im : Nat → Prop) : Prop := ∀ e, im e → kd S e ≠ 0 ∧ ow e = 11
/-- a step of both, by labels and by the reference's slots -/
def Tn (x m : Nat) (am : Nat → Nat) (V T : Nat → Bool) (ow : Nat → Nat) (S S2 : St) : Prop := (∀ e, kd S e ≠ 0 → kd S2 e = kd S e ∧ ln S2 e = ln S e) ∧ (∀ e, kd S e ≠ 0 → V (ow e) = false → gI S2 e = gI S e ∧ gJ S2 e = gJ S e ∧ gR S2 e = gR S e) ∧ (gR S2 m = gR S m ∧ ∀ j, T j = false → gI S2 m j = gI S m j) ∧ (∀ f, mk f ≠ 0 → T f = false → gI S2 (am f) = gI S (am f) ∧ gJ S2 (am f) = gJ S (am f)) ∧ ∀ j, j ≠ 7 → j ≠ 8 → j ≠ 9 → gR S2 x j = gR S x j
/-- the labels, new cells bearing L -/
def nl (S : St) (L : Nat) (ow : Nat → Nat) (e : Nat) : Nat := if kd S e = 0 then L else ow e
theorem nl_o {S : St} {L : Nat} {ow : Nat → Nat} {e : Nat} (h : kd S e ≠ 0) : nl S L ow e = ow e := if_neg h
theorem nl_n {S : St} {L : Nat} {ow : Nat → Nat} {e : Nat} (h : kd S e = 0) : nl S L ow e = L := if_pos h
section GT
variable {x m q q2 c t a len p ls wl : Nat} {z am ow ow2 tq ta sa : Nat → Nat} {w : Nat → Nat → Nat} {V T : Nat → Bool} {S S2 : St} {im : Nat → Prop} {M : Mk} {Ms : Nat → Mk} {Y : Nat → Yt}
theorem nz {e i : Nat} (h : kd S e = i) (hi : i ≠ 0) : kd S e ≠ 0 := by rw [h]; exact hi
theorem Tn.sim (h : Tn x m am V T ow S S2) (hv : V 11 = false) (hi : gIm ow S im) : Sim im S S2 := fun e he => by
  obtain ⟨k, o⟩ := hi e he
  obtain ⟨u1, u2⟩ := h.1 e k
  obtain ⟨u3, u4, u5⟩ := h.2.1 e k (by rw [o]; exact hv)
  exact ⟨u1, u2, u3, u4, u5⟩
theorem gIm.ht (h : gIm ow S im) (ht : Tn x m am V T ow S S2) (ho : ∀ e, kd S e ≠ 0 → ow2 e = ow e) : gIm ow2 S2 im := fun e he => by
  obtain ⟨k, o⟩ := h e he
  exact ⟨by rw [(ht.1 e k).1]; exact k, (ho e k).trans o⟩
theorem gM.ht (h : gM m am ow S q) (ht : Tn x m am V T ow S S2) (ho : ∀ e, kd S e ≠ 0 → ow2 e = ow e) (hs : SM (gI S2) m am q2) : gM m am ow2 S2 q2 := by
  obtain ⟨h1, h2, h3, -⟩ := h
  have km := nz h1.z (by decide)
  have ka : ∀ f, mk f ≠ 0 → kd S (am f) ≠ 0 := fun f hf => by rw [h1.k f hf]; exact hf
  refine ⟨⟨(ht.1 m km).1.trans h1.z, fun f hf => ⟨by rw [ht.2.2.1.1]; exact h1.r f hf, (ht.1 _ (ka f hf)).1.trans (h1.k f hf), (ht.1 _ (ka f hf)).2.trans (h1.l f hf)⟩, h1.2.2⟩, (ho m km).trans h2, fun f hf => (ho _ (ka f hf)).trans (h3 f hf), hs⟩
theorem SM.ht (h : SM (gI S) m am q) (ht : Tn x m am V T ow S S2) (h28 : T 28 = false) (h29 : T 29 = false) : SM (gI S2) m am q := ⟨by rw [ht.2.2.1.2 29 h29]; exact h.1, by rw [(ht.2.2.2.1 28 (by decide) h28).1]; exact h.2⟩
theorem gB.ht (h : gB x am S im M) (ht : Tn x m am V T ow S S2) (hi : gIm ow S im) (hv : V 11 = false) (h0 : gI S2 (am 0) = gI S (am 0)) (h1 : gJ S2 (am 1) = gJ S (am 1)) (h7 : gR S2 x 7 = gR S x 7) (h8 : gR S2 x 8 = gR S x 8) (h9 : gR S2 x 9 = gR S x 9) : gB x am S2 im M := by
  obtain ⟨u1, u2⟩ := h
  refine ⟨?_, ?_⟩
  · rw [h7, h8, h9]; exact u1.sm (ht.sim hv hi)
  · rw [h0, h1]; exact u2
theorem Cl.pw {rb rt rr : Option Nat} (h : Cl im S M rb rt rr) : (∀ T P, M.2.2.1 = some (T, P) → pgK P ≤ 60) ∧ ∀ T, M.2.2.2 = some T → tN T ≤ 2000 := by
  obtain ⟨b, B, ot, o⟩ := M
  obtain ⟨-, -, -, h4, h5⟩ := h
  refine ⟨fun T P e => ?_, fun T e => ?_⟩
  · have e' : ot = some (T, P) := e
    subst e'
    exact h4.1.1
  · have e' : o = some T := e
    subst e'
    exact h5.1.1
theorem gK.ht (h : gK x m z am ow S im c Ms) (hM : gM m am ow S q) (ht : Tn x m am V T ow S S2) (ho : ∀ e, kd S e ≠ 0 → ow2 e = ow e) (hi : gIm ow S im) (hv : V 11 = false) (h7 : V 7 = false) (t50 : T 50 = false) (hx : gI S2 x 13 = gI S x 13) (h0 : ∀ k, 2420 ≤ k → k < 9680 → gI S2 (am 0) k = gI S (am 0) k) (h1 : ∀ k, 12 ≤ k → k < 48 → gJ S2 (am 1) k = gJ S (am 1) k) : gK x m z am ow2 S2 im c Ms := by
  obtain ⟨⟨m1, m2, m3, m4, m5, m6, m7, m8, m9, m10, m11, m12, m13, m14⟩, l7, l8, l9⟩ := h
  have k7 := nz m4 (by decide)
  have k8 := nz m5 (by decide)
  have k9 := nz m6 (by decide)
  have sim := ht.sim hv hi
  have g7 := (ht.2.1 _ k7 (by rw [l7]; exact h7)).2.2
  have g8 := (ht.2.1 _ k8 (by rw [l8]; exact h7)).2.2
  have g9 := (ht.2.1 _ k9 (by rw [l9]; exact h7)).2.2
  have xr := ht.2.2.2.2
  refine ⟨⟨(xr 10 (by decide) (by decide) (by decide)).trans m1, (xr 11 (by decide) (by decide) (by decide)).trans m2, (xr 12 (by decide) (by decide) (by decide)).trans m3, (ht.1 _ k7).1.trans m4, (ht.1 _ k8).1.trans m5, (ht.1 _ k9).1.trans m6, (ht.1 _ k7).2.trans m7, (ht.1 _ k8).2.trans m8, (ht.1 _ k9).2.trans m9, m10, m11, hx.trans m12, (ht.2.2.1.2 50 t50).trans m13, fun i hi' => ?_⟩, (ho _ k7).trans l7, (ho _ k8).trans l8, (ho _ k9).trans l9⟩
  obtain ⟨c1, c2⟩ := m14 i hi'
  refine ⟨?_, ?_⟩
  · rw [g7, g8, g9]; exact c1.sm sim
  · exact c2.all c1.1 c1.pw.1 c1.pw.2 (fun k hk => h0 _ (by omega) (by omega)) (fun k hk => h1 _ (by omega) (by omega))
theorem gT.ht (h : gT x z am ow S tq ta Y) (ht : Tn x m am V T ow S S2) (ho : ∀ e, kd S e ≠ 0 → ow2 e = ow e) (hv : V 3 = false) (t5 : T 5 = false) (t6 : T 6 = false) (t7 : T 7 = false) : gT x z am ow2 S2 tq ta Y := by
  obtain ⟨⟨y1, y2, y3, y4⟩, hd, l1, l2⟩ := h
  have kt := nz y2 (by decide)
  have a5 := (ht.2.2.2.1 5 (by decide) t5).1
  have a6 := (ht.2.2.2.1 6 (by decide) t6).1
  have a7 := (ht.2.2.2.1 7 (by decide) t7).2
  have gt := (ht.2.1 _ kt (by rw [l1]; exact hv)).2.2
  refine ⟨⟨(ht.2.2.2.2 3 (by decide) (by decide) (by decide)).trans y1, (ht.1 _ kt).1.trans y2, (ht.1 _ kt).2.trans y3, fun i hi => ?_⟩, hd, (ho _ kt).trans l1, fun i hi hy => ?_⟩
  · have h4 := y4 i hi
    cases hY : Y i with
    | none =>
      rw [hY] at h4
      obtain ⟨u1, u2⟩ := h4
      exact ⟨by rw [gt]; exact u1, by rw [a6]; exact u2⟩
    | some sv =>
      obtain ⟨s, n, v⟩ := sv
      rw [hY] at h4
      obtain ⟨u1, u2, u3, u4, u5, u6, u7, u8, u9, u10, u11⟩ := h4
      have hl := l2 i hi (by rw [hY]; exact fun z => by cases z)
      have kq := nz u4 (by decide)
      have ka := nz u7 (by decide)
      have gq := ht.2.1 _ kq (by rw [hl.1]; exact hv)
      have ga := ht.2.1 _ ka (by rw [hl.2]; exact hv)
      exact ⟨u1, u2, by rw [gt]; exact u3, (ht.1 _ kq).1.trans u4, by rw [gq.1]; exact u5, by rw [gq.2.2]; exact u6, (ht.1 _ ka).1.trans u7, (ht.1 _ ka).2.trans u8, by rw [a5]; exact u9, by rw [a6]; exact u10, fun k hk => by rw [ga.2.1, a7]; exact u11 k hk⟩
  · have hk := (y4 i hi).k hy
    have hl := l2 i hi hy
    exact ⟨(ho _ (nz hk.1 (by decide))).trans hl.1, (ho _ (nz hk.2 (by decide))).trans hl.2⟩
theorem gP.ht (h : gP x m z am ow S t) (ht : Tn x m am V T ow S S2) (ho : ∀ e, kd S e ≠ 0 → ow2 e = ow e) (hv : V 4 = false) (t8 : T 8 = false) (t10 : T 10 = false) (t16 : T 16 = false) (t17 : T 17 = false) : gP x m z am ow2 S2 t := by
  obtain ⟨⟨p1, p2, p3, p4, p5, p6, p7, p8, p9, p10⟩, ⟨-, -, -, -, k5, k6, k7, k8⟩, ⟨f1, f2⟩, l1, l2, l3⟩ := h
  have kk := nz p2 (by decide)
  have kt := nz p4 (by decide)
  have kr := nz k6 (by decide)
  have gk := ht.2.1 _ kk (by rw [l1]; exact hv)
  have gt := ht.2.1 _ kt (by rw [l2]; exact hv)
  have gr := ht.2.1 _ kr (by rw [l3]; exact hv)
  have a8 := (ht.2.2.2.1 8 (by decide) t8).1
  have q1 := (ht.1 _ kk).1.trans p2
  have q2 : gR S2 (z 2) 0 = some (z 3) := by rw [gk.2.2]; exact p3
  have q3 := (ht.1 _ kt).1.trans p4
  have q4 := (ht.1 _ kt).2.trans p5
  refine ⟨⟨(ht.2.2.2.2 4 (by decide) (by decide) (by decide)).trans p1, q1, q2, q3, q4, p6, p7, by rw [gk.1]; exact p8, (ht.2.2.1.2 10 t10).trans p9, fun j hj => by rw [gt.1, a8]; exact p10 j hj⟩, ⟨q1, q2, q3, q4, by rw [gk.2.2]; exact k5, (ht.1 _ kr).1.trans k6, (ht.1 _ kr).2.trans k7, fun i hi => by rw [gr.2.1]; exact k8 i hi⟩, ⟨by rw [ht.2.2.1.2 16 t16, gk.1]; exact f1, by rw [ht.2.2.1.2 17 t17, gk.1]; exact f2⟩, (ho _ kk).trans l1, (ho _ kt).trans l2, (ho _ kr).trans l3⟩
theorem gRd.ht (h : gRd x z w ow S) (ht : Tn x m am V T ow S S2) (ho : ∀ e, kd S e ≠ 0 → ow2 e = ow e) (hv : ∀ e, kd S e ≠ 0 → ow e = 5 → gR S2 e = gR S e) : gRd x z w ow2 S2 := by
  obtain ⟨h0, hB, l1, l2, l3⟩ := h
  obtain ⟨h1, h2, ⟨a6, b6, c6⟩, ⟨a7, b7, c7⟩, ⟨a8, b8, c8⟩, ⟨a9, b9, c9⟩, ⟨a10, b10, c10⟩, ⟨a11, b11, c11⟩, hm, hd⟩ := hB
  have g := hv _ (nz h1 (by decide)) l1
  have g8 := hv _ (nz b8 (by decide)) (l2 8 (by decide) (by decide))
  have kp : ∀ {e i : Nat}, kd S e = i → i ≠ 0 → kd S2 e = i ∧ ln S2 e = ln S e := fun he hi => ⟨(ht.1 _ (nz he hi)).1.trans he, (ht.1 _ (nz he hi)).2⟩
  have e6 := kp b6 (by decide)
  have e7 := kp b7 (by decide)
  have e8 := kp b8 (by decide)
  have e9 := kp b9 (by decide)
  have e10 := kp b10 (by decide)
  have e11 := kp b11 (by decide)
  have ll : ∀ i, 6 ≤ i → i ≤ 11 → ow2 (w 1 i) = 5 := fun i i1 i2 => by
    have hk : kd S (w 1 i) ≠ 0 := by
      rcases (show i = 6 ∨ i = 7 ∨ i = 8 ∨ i = 9 ∨ i = 10 ∨ i = 11 by omega) with rfl | rfl | rfl | rfl | rfl | rfl
      · exact nz b6 (by decide)
      · exact nz b7 (by decide)
      · exact nz b8 (by decide)
      · exact nz b9 (by decide)
      · exact nz b10 (by decide)
      · exact nz b11 (by decide)
    exact (ho _ hk).trans (l2 i i1 i2)
  refine ⟨(ht.2.2.2.2 5 (by decide) (by decide) (by decide)).trans h0, ⟨(kp h1 (by decide)).1, by rw [g]; exact h2, ⟨by rw [g]; exact a6, e6.1, e6.2.trans c6⟩, ⟨by rw [g]; exact a7, e7.1, e7.2.trans c7⟩, ⟨by rw [g]; exact a8, e8.1, e8.2.trans c8⟩, ⟨by rw [g]; exact a9, e9.1, e9.2.trans c9⟩, ⟨by rw [g]; exact a10, e10.1, e10.2.trans c10⟩, ⟨by rw [g]; exact a11, e11.1, e11.2.trans c11⟩, fun i hi => ?_, hd⟩, (ho _ (nz h1 (by decide))).trans l1, ll, fun i hi => (ho _ (nz (hm i hi).2.1 (by decide))).trans (l3 i hi)⟩
  obtain ⟨u1, u2, u3⟩ := hm i hi
  have eu := kp u2 (by decide)
  exact ⟨by rw [g8]; exact u1, eu.1, eu.2.trans u3⟩
theorem gDd.ht (h : gDd x z w ow S) (ht : Tn x m am V T ow S S2) (ho : ∀ e, kd S e ≠ 0 → ow2 e = ow e) (hv : gR S2 (z 6) = gR S (z 6)) : gDd x z w ow2 S2 := by
  obtain ⟨h0, hB, l1, l2⟩ := h
  obtain ⟨h1, h2, ⟨a4, b4, c4⟩, ⟨a5, b5, c5⟩, ⟨a6, b6, c6⟩, ⟨a7, b7, c7⟩, ⟨a8, b8, c8⟩, ⟨a9, b9, c9⟩, hd⟩ := hB
  have kp : ∀ {e i : Nat}, kd S e = i → i ≠ 0 → kd S2 e = i ∧ ln S2 e = ln S e := fun he hi => ⟨(ht.1 _ (nz he hi)).1.trans he, (ht.1 _ (nz he hi)).2⟩
  have e4 := kp b4 (by decide)
  have e5 := kp b5 (by decide)
  have e6 := kp b6 (by decide)
  have e7 := kp b7 (by decide)
  have e8 := kp b8 (by decide)
  have e9 := kp b9 (by decide)
  have ll : ∀ i, 4 ≤ i → i ≤ 9 → ow2 (w 3 i) = 6 := fun i i1 i2 => by
    have hk : kd S (w 3 i) ≠ 0 := by
      rcases (show i = 4 ∨ i = 5 ∨ i = 6 ∨ i = 7 ∨ i = 8 ∨ i = 9 by omega) with rfl | rfl | rfl | rfl | rfl | rfl
      · exact nz b4 (by decide)
      · exact nz b5 (by decide)
      · exact nz b6 (by decide)
      · exact nz b7 (by decide)
      · exact nz b8 (by decide)
      · exact nz b9 (by decide)
    exact (ho _ hk).trans (l2 i i1 i2)
  exact ⟨(ht.2.2.2.2 6 (by decide) (by decide) (by decide)).trans h0, ⟨(kp h1 (by decide)).1, by rw [hv]; exact h2, ⟨by rw [hv]; exact a4, e4.1, e4.2.trans c4⟩, ⟨by rw [hv]; exact a5, e5.1, e5.2.trans c5⟩, ⟨by rw [hv]; exact a6, e6.1, e6.2.trans c6⟩, ⟨by rw [hv]; exact a7, e7.1, e7.2.trans c7⟩, ⟨by rw [hv]; exact a8, e8.1, e8.2.trans c8⟩, ⟨by rw [hv]; exact a9, e9.1, e9.2.trans c9⟩, hd⟩, (ho _ (nz h1 (by decide))).trans l1, ll⟩
theorem gS.ht (h : gS x z ow S a len p) (ht : Tn x m am V T ow S S2) (ho : ∀ e, kd S e ≠ 0 → ow2 e = ow e) (hv : V 8 = false) : gS x z ow2 S2 a len p := by
  obtain ⟨h0, ⟨s1, s2, s3, s4, s5, s6, s7⟩, l1, l2⟩ := h
  have ks := nz s1 (by decide)
  have ka := nz s3 (by decide)
  have gs := ht.2.1 _ ks (by rw [l1]; exact hv)
  have ga := ht.2.1 _ ka (by rw [l2]; exact hv)
  exact ⟨(ht.2.2.2.2 14 (by decide) (by decide) (by decide)).trans h0, ⟨(ht.1 _ ks).1.trans s1, by rw [gs.2.2]; exact s2, (ht.1 _ ka).1.trans s3, (ht.1 _ ka).2.trans s4, by rw [gs.1]; exact s5, s6, by rw [ga.1]; exact s7⟩, (ho _ ks).trans l1, (ho _ ka).trans l2⟩
theorem gE.ht (h : gE x m z am ow S im sa ls wl) (ht : Tn x m am V T ow S S2) (ho : ∀ e, kd S e ≠ 0 → ow2 e = ow e) (hi : gIm ow S im) (hv : V 11 = false) (h9 : V 9 = false) (t42 : T 42 = false) (t43 : T 43 = false) : gE x m z am ow2 S2 im sa ls wl := by
  obtain ⟨h0, ⟨s1, s2, s3, s4, s5, s6, s7, s8, s9⟩, hO, ⟨wL, w1, w2, w3, w4, w5⟩, l1, l2⟩ := h
  have sim := ht.sim hv hi
  have ks := nz s1 (by decide)
  have gs := ht.2.1 _ ks (by rw [l1]; exact h9)
  have ka : ∀ f, seF f = true → kd S (sa f) ≠ 0 := fun f hf => nz (s2 f hf).2 (by decide)
  have ga : ∀ f, seF f = true → gI S2 (sa f) = gI S (sa f) := fun f hf => (ht.2.1 _ (ka f hf) (by rw [l2 f hf]; exact h9)).1
  have gl : ∀ f, seF f = true → ln S2 (sa f) = ln S (sa f) := fun f hf => (ht.1 _ (ka f hf)).2
  refine ⟨(ht.2.2.2.2 15 (by decide) (by decide) (by decide)).trans h0, ⟨(ht.1 _ ks).1.trans s1, fun f hf => ⟨by rw [gs.2.2]; exact (s2 f hf).1, (ht.1 _ (ka f hf)).1.trans (s2 f hf).2⟩, (gl 1 (by decide)).trans s3, (gl 2 (by decide)).trans s4, (gl 3 (by decide)).trans s5, (gl 4 (by decide)).trans s6, (gl 7 (by decide)).trans s7, s8, s9⟩, fun b0 hb0 => ?_, ⟨wL, w1, w2, by rw [gs.1]; exact w3, ?_, fun t ht' => by rw [ga 7 (by decide), (ht.2.2.2.1 42 (by decide) t42).1]; exact w5 t ht'⟩, (ho _ ks).trans l1, fun f hf => (ho _ (ka f hf)).trans (l2 f hf)⟩
  · rw [gs.2.2] at hb0
    obtain ⟨B0, u1, u2, v1, v2, v3, v4, v5⟩ := hO b0 hb0
    refine ⟨B0, u1, u2.sm sim, v1, by rw [gs.1]; exact v2, ?_, ?_, ?_⟩
    · rw [ga 2 (by decide)]; exact v3
    · rw [ga 2 (by decide)]; exact v4
    · rw [ga 2 (by decide)]; exact v5
  · rw [ht.2.2.1.2 43 t43]; exact w4
theorem gC.ht (h : gC x m z w ow S) (ht : Tn x m (w 0) V T ow S S2) (ho : ∀ e, kd S e ≠ 0 → ow2 e = ow e) (hv : V 10 = false) (t45 : T 45 = false) (t48 : T 48 = false) : gC x m z w ow2 S2 := by
  obtain ⟨h0, hC, ⟨fl, f1, f2, f3, f4⟩, l1, l2⟩ := h
  have ks := nz hC.1 (by decide)
  have gs := ht.2.1 _ ks (by rw [l1]; exact hv)
  have ka : ∀ f, f < 4 → kd S (w 4 f) ≠ 0 := fun f hf => nz (hC.k f hf) (by decide)
  have ga : ∀ f, f < 4 → gI S2 (w 4 f) = gI S (w 4 f) := fun f hf => (ht.2.1 _ (ka f hf) (by rw [l2 f hf]; exact hv)).1
  refine ⟨(ht.2.2.2.2 16 (by decide) (by decide) (by decide)).trans h0, ⟨(ht.1 _ ks).1.trans hC.1, fun f hf => ⟨by rw [gs.2.2]; exact hC.r f hf, (ht.1 _ (ka f hf)).1.trans (hC.k f hf), (ht.1 _ (ka f hf)).2.trans (hC.l f hf)⟩, hC.2.2⟩, ⟨fl, f1, by rw [gs.1]; exact f2, by rw [ht.2.2.1.2 48 t48]; exact f3, fun j hj => by rw [ga 3 (by decide), (ht.2.2.2.1 45 (by decide) t45).1]; exact f4 j hj⟩, (ho _ ks).trans l1, fun f hf => (ho _ (ka f hf)).trans (l2 f hf)⟩
end GT
