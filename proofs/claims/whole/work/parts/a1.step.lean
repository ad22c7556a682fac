/-! The relation, and what a question leaves of it. -/
def GO (x m : Nat) (z : Nat → Nat) (w : Nat → Nat → Nat) (S : St) (q len p ls : Nat) (ow : Nat → Nat) (im : Nat → Prop) (M : Mk) (c : Nat) (Ms : Nat → Mk) (tq ta : Nat → Nat) (Y : Nat → Yt) (t a : Nat) (sa : Nat → Nat) (wl : Nat) : Prop := kd S x = 11 ∧ ow x = 1 ∧ gM m (w 0) ow S q ∧ gQ x m S ∧ gB x (w 0) S im M ∧ gK x m z (w 0) ow S im c Ms ∧ gT x z (w 0) ow S tq ta Y ∧ gP x m z (w 0) ow S t ∧ gRd x z w ow S ∧ gDd x z w ow S ∧ gS x z ow S a len p ∧ gE x m z (w 0) ow S im sa ls wl ∧ gC x m z w ow S ∧ gIm ow S im
def GR (x m : Nat) (z : Nat → Nat) (w : Nat → Nat → Nat) (S : St) (q len p ls : Nat) : Prop := ∃ ow im M c Ms tq ta Y t a sa wl, GO x m z w S q len p ls ow im M c Ms tq ta Y t a sa wl
/-- the labels that every call may touch -/
def v0 (l : Nat) : Bool := l == 1 || l == 2
def v1 (L l : Nat) : Bool := l == 1 || l == 2 || l == L
section GS
variable {x m q q2 c t a len p ls wl : Nat} {z am ow tq ta sa : Nat → Nat} {w : Nat → Nat → Nat} {V T : Nat → Bool} {S S1 S2 : St} {im : Nat → Prop} {M : Mk} {Ms : Nat → Mk} {Y : Nat → Yt} {F' : FI} {J J' : FJ} {W : Nat → Prop}
theorem Tn.mk2 (ox : ow x = 1) (hL : LM S m am) (om : ow m = 2) (oa : ∀ f, mk f ≠ 0 → ow (am f) = 2) (fr : Fr W S S1) (v1' : V 1 = true) (v2' : V 2 = true) (hW : ∀ e, kd S e ≠ 0 → W e → V (ow e) = true ∧ ow e ≠ 2) (xr : ∀ j, j ≠ 7 → j ≠ 8 → j ≠ 9 → gR S1 x j = gR S x j) (hk : Kp T m am (gI S1) F') (hJ : ∀ e, kd S e ≠ 0 → e ≠ m → (∀ f, mk f ≠ 0 → T f = true → e ≠ am f) → J' e = gJ S1 e) : Tn x m am V T ow S (wA S1 F' J' (gR S1)) := by
  have km := nz hL.z (by decide)
  have nw2 : ∀ e, kd S e ≠ 0 → ow e = 2 → ¬ W e := fun e he h2 hw => (hW e he hw).2 h2
  have sm := (fr m km).2.2 (nw2 m km om)
  refine ⟨fun e he => ⟨(fr e he).1, (fr e he).2.1⟩, fun e he hv => ?_, ⟨sm.2.2, fun j hj => ?_⟩, fun f hf hT => ?_, xr⟩
  · have nW : ¬ W e := fun h => by rw [(hW e he h).1] at hv; cases hv
    have e2 : ow e ≠ 2 := fun h => by rw [h, v2'] at hv; cases hv
    have em : e ≠ m := fun h => e2 (by rw [h]; exact om)
    have ea : ∀ f, mk f ≠ 0 → T f = true → e ≠ am f := fun f hf _ h => e2 (by rw [h]; exact oa f hf)
    obtain ⟨g1, g2, g3⟩ := (fr e he).2.2 nW
    exact ⟨(hk.1 e em ea).trans g1, (hJ e he em ea).trans g2, g3⟩
  · exact (hk.2 j hj).trans (by rw [sm.1])
  · have ka : kd S (am f) ≠ 0 := by rw [hL.k f hf]; exact hf
    have ea : ∀ g, mk g ≠ 0 → T g = true → am f ≠ am g := fun g hg hTg h => by
      have := hL.2.2 f g hf hg h
      rw [this, hTg] at hT; cases hT
    obtain ⟨g1, g2, -⟩ := (fr _ ka).2.2 (nw2 _ ka (oa f hf))
    exact ⟨(hk.1 _ (hL.o f hf) ea).trans g1, (hJ _ ka (hL.o f hf) ea).trans g2⟩
/-- nothing changed but what questions use -/
theorem GO.st (h : GO x m z w S q len p ls ow im M c Ms tq ta Y t a sa wl) (ht : Tn x m (w 0) v0 T ow S S2) (hx7 : gR S2 x = gR S x) (hx13 : gI S2 x 13 = gI S x 13) (h0 : gI S2 (w 0 0) = gI S (w 0 0)) (h1 : gJ S2 (w 0 1) = gJ S (w 0 1)) (hq : gQ x m S2) (hs : SM (gI S2) m (w 0) q2) (hT : T 5 = false ∧ T 6 = false ∧ T 7 = false ∧ T 8 = false ∧ T 10 = false ∧ T 16 = false ∧ T 17 = false ∧ T 42 = false ∧ T 43 = false ∧ T 45 = false ∧ T 48 = false ∧ T 50 = false) : GO x m z w S2 q2 len p ls ow im M c Ms tq ta Y t a sa wl := by
  obtain ⟨hx, ox, gm, gq, gb, gk, gt, gp, gr, gd, gs, ge, gc, gi⟩ := h
  obtain ⟨t5, t6, t7, t8, t10, t16, t17, t42, t43, t45, t48, t50⟩ := hT
  have ho : ∀ e, kd S e ≠ 0 → ow e = ow e := fun _ _ => rfl
  refine ⟨(ht.1 x (nz hx (by decide))).1.trans hx, ox, gm.ht ht ho hs, hq, gb.ht ht gi rfl h0 h1 (by rw [hx7]) (by rw [hx7]) (by rw [hx7]), gk.ht gm ht ho gi rfl rfl t50 hx13 (fun k _ _ => by rw [h0]) (fun k _ _ => by rw [h1]), gt.ht ht ho rfl t5 t6 t7, gp.ht ht ho rfl t8 t10 t16 t17, gr.ht ht ho (fun e he h5 => (ht.2.1 e he (by rw [h5]; rfl)).2.2), gd.ht ht ho ((ht.2.1 _ (nz gd.2.1.1 (by decide)) (by rw [gd.2.2.1]; rfl)).2.2), gs.ht ht ho rfl, ge.ht ht ho gi rfl rfl t42 t43, gc.ht ht ho rfl t45 t48, gi.ht ht ho⟩
/-- the chamber's status alone, before the reference works -/
theorem Fr.x0 {s : Int32} : Fr (fun e => e = x) S (wI S (upI (gI S) x 0 s)) := Fr.on On.up rfl
theorem GO.wr (h : GO x m z w S q len p ls ow im M c Ms tq ta Y t a sa wl) {s : Int32} {T : Nat → Bool} (hk : Kp T m (w 0) (upI (gI S) x 0 s) F') (h2 : F' m 2 = s) (h0 : F' (w 0 0) = gI S (w 0 0)) (hT : T 28 = false ∧ T 29 = false ∧ T 5 = false ∧ T 6 = false ∧ T 7 = false ∧ T 8 = false ∧ T 10 = false ∧ T 16 = false ∧ T 17 = false ∧ T 42 = false ∧ T 43 = false ∧ T 45 = false ∧ T 48 = false ∧ T 50 = false) (hJ : JE S x m J J') : GO x m z w (wA S F' J' (gR S)) q len p ls ow im M c Ms tq ta Y t a sa wl := by
  have h' := h
  obtain ⟨hx, ox, gm, gq, gb, gk, gt, gp, gr, gd, gs, ge, gc, gi⟩ := h'
  have mx : m ≠ x := x_m hx gm.1
  have jo : ∀ e, e ≠ x → e ≠ m → J' e = gJ S e := fun e e1 e2 => by
    rcases hJ with ⟨-, h⟩ | ⟨p, q, h1, h2⟩
    · rw [h]
    · rw [h2, upJ_ne e2, upJ_ne e2, h1, upJ_ne e1, upJ_ne e1]
  have xa : ∀ f, mk f ≠ 0 → w 0 f ≠ x := fun f hf => x_am hx gm.1 f hf
  have fx : F' x = upI (gI S) x 0 s x := hk.1 x (Ne.symm mx) (fun f hf _ e => xa f hf e.symm)
  have fr : Fr (fun e => e = x) S (wA S (upI (gI S) x 0 s) J' (gR S)) ∨ True := Or.inr trivial
  have ht : Tn x m (w 0) v0 T ow S (wA S F' J' (gR S)) := by
    refine Tn.mk2 (S1 := wA S (upI (gI S) x 0 s) (fun e => if e = x then J' x else gJ S e) (gR S)) (W := fun e => e = x) ox gm.1 gm.2.1 gm.2.2.1 (fun e he => ⟨rfl, rfl, fun hw => ⟨up_ne hw, if_neg hw, rfl⟩⟩) rfl rfl (fun e _ he => by rw [he, ox]; exact ⟨rfl, by decide⟩) (fun _ _ _ _ => rfl) hk (fun e he em _ => ?_)
    show J' e = if e = x then J' x else gJ S e
    by_cases ex : e = x
    · rw [if_pos ex, ex]
    · rw [if_neg ex]; exact jo e ex em
  refine h.st ht rfl ?_ h0 (jo _ (xa 1 (by decide)) (gm.1.o 1)) ⟨?_, ?_, ?_⟩ (gm.2.2.2.ht ht hT.1 hT.2.1) hT.2.2
  · show F' x 13 = _
    rw [fx, up_no (by decide)]
  · show F' m 2 = F' x 0
    rw [h2, fx, up_at]
  · show J' m 3 = J' x 1
    rcases hJ with ⟨-, h⟩ | ⟨p, q, h1, h2⟩
    · rw [h]; exact gq.2.1
    · rw [h2, upJ_no (by decide), upJ_at, upJ_ne (Ne.symm mx), upJ_ne (Ne.symm mx), h1, upJ_no (by decide), upJ_at]
  · show J' m 4 = J' x 2
    rcases hJ with ⟨-, h⟩ | ⟨p, q, h1, h2⟩
    · rw [h]; exact gq.2.2
    · rw [h2, upJ_at, upJ_ne (Ne.symm mx), upJ_ne (Ne.symm mx), h1, upJ_at]
theorem GO.gd (h : GO x m z w S q len p ls ow im M c Ms tq ta Y t a sa wl) (g : Gd S x m (w 0) F') : GO x m z w (wI S F') q len p ls ow im M c Ms tq ta Y t a sa wl := by
  obtain ⟨s, hk, h2⟩ := g
  have h' := h
  obtain ⟨hx, ox, gm, -⟩ := h'
  refine h.wr (J := gJ S) (J' := gJ S) hk h2 ?_ (by decide) (Or.inl ⟨rfl, rfl⟩)
  rw [hk.1 _ (gm.1.o 0) (fun f hf hT e => by
    have e' := gm.1.2.2 0 f (by decide) hf e
    rw [← e'] at hT
    exact absurd hT (by decide)), up_ne (x_am hx gm.1 0)]
/-- what the calls ask of it -/
theorem GO.cb (h : GO x m z w S q len p ls ow im M c Ms tq ta Y t a sa wl) : CB S x M.1 m (w 0) im M.2.1 ∧ TC S x (w 0) im M.2.1 M.2.2.1 ∧ RC S x (w 0) im (bn M.2.1) M.2.2.2 := by
  obtain ⟨hx, ox, gm, gq, gb, -⟩ := h
  exact run_mk hx gm.1 gb.1 gb.2
theorem GO.nm (h : GO x m z w S q len p ls ow im M c Ms tq ta Y t a sa wl) : ∀ i, i < bM M.2.1 → nmq (bnm M.2.1 i) (gJ S (w 0 1) i) := h.2.2.2.2.1.2.2.2.2
theorem GO.dj (h : GO x m z w S q len p ls ow im M c Ms tq ta Y t a sa wl) : Dj im S x m (w 0) := fun e he => by
  obtain ⟨hx, ox, gm, gq, gb, gk, gt, gp, gr, gd, gs, ge, gc, gi⟩ := h
  obtain ⟨k, o⟩ := gi e he
  exact ⟨k, (fun e' => by rw [e', ox] at o; cases o), (fun e' => by rw [e', gm.2.1] at o; cases o), (fun f hf e' => by rw [e', gm.2.2.1 f hf] at o; cases o)⟩
end GS
