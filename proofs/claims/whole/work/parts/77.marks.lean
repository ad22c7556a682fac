/-! What a mark keeps: on the reference's side a stretch of its arrays, on the class's three references. -/
def TCm (ot : Option (Tc × Pg)) (A : Nat → Int32) : Prop :=
  match ot with
  | none => A 4 = -1
  | some (T, P) => PMd P A ∧ A 5 = nI (tS T)
def RCm (n : Nat) (o : Option Tc) (A : Nat → Int32) : Prop :=
  match o with
  | none => A 6 = -1
  | some T => TM T n A
def nmq (w : List Nat) (v : Int64) : Prop := v = n256 w ∧ (∀ c, c ∈ w → 1 ≤ c ∧ c ≤ 26) ∧ w.length ≤ 8
def Sl (B : Bk) (ot : Option (Tc × Pg)) (o : Option Tc) (A : Nat → Int32) (N : Nat → Int64) : Prop := BM B A ∧ TCm ot A ∧ RCm (bn B) o A ∧ ∀ i, i < bM B → nmq (bnm B i) (N i)
def ClT (B : Bk) (im : Nat → Prop) (S : St) (ot : Option (Tc × Pg)) (r : Option Nat) : Prop :=
  match ot with
  | none => r = none
  | some (T, P) => PW B P ∧ T = pgT B P (tS T) ∧ tS T ≤ 30 ∧ ∃ t, r = some t ∧ TX T (bn B) im S t
def ClR (n : Nat) (im : Nat → Prop) (S : St) (o : Option Tc) (r : Option Nat) : Prop :=
  match o with
  | none => r = none
  | some T => tok n T ∧ ∃ t, r = some t ∧ TX T n im S t
abbrev Mk : Type := Nat × Bk × Option (Tc × Pg) × Option Tc
def Cl (im : Nat → Prop) (S : St) (M : Mk) (rb rt rr : Option Nat) : Prop := bok M.2.1 ∧ rb = some M.1 ∧ BX M.2.1 im S M.1 ∧ ClT M.2.1 im S M.2.2.1 rt ∧ ClR (bn M.2.1) im S M.2.2.2 rr
theorem ClT.sm {B : Bk} {im : Nat → Prop} {S S' : St} {ot : Option (Tc × Pg)} {r : Option Nat} (h : ClT B im S ot r) (hs : Sim im S S') : ClT B im S' ot r := by
  cases ot with
  | none => exact h
  | some TP =>
    obtain ⟨T, P⟩ := TP
    obtain ⟨h1, h2, h3, t, h4, h5⟩ := h
    exact ⟨h1, h2, h3, t, h4, h5.sm hs⟩
theorem ClR.sm {n : Nat} {im : Nat → Prop} {S S' : St} {o : Option Tc} {r : Option Nat} (h : ClR n im S o r) (hs : Sim im S S') : ClR n im S' o r := by
  cases o with
  | none => exact h
  | some T =>
    obtain ⟨h1, t, h4, h5⟩ := h
    exact ⟨h1, t, h4, h5.sm hs⟩
theorem Cl.sm {im : Nat → Prop} {S S' : St} {M : Mk} {rb rt rr : Option Nat} (h : Cl im S M rb rt rr) (hs : Sim im S S') : Cl im S' M rb rt rr := ⟨h.1, h.2.1, h.2.2.1.sm hs, h.2.2.2.1.sm hs, h.2.2.2.2.sm hs⟩
theorem BM.all {B : Bk} {A A2 : Nat → Int32} (hb : bok B) (h : BM B A) (ha : ∀ k, k < 2420 → A2 k = A k) : BM B A2 := h.lo hb (fun k hk => ha k (by omega))
theorem Sl.all {B : Bk} {ot : Option (Tc × Pg)} {o : Option Tc} {A A2 : Nat → Int32} {N N2 : Nat → Int64} (hb : bok B) (hW : ∀ T P, ot = some (T, P) → pgK P ≤ 60) (hN : ∀ T, o = some T → tN T ≤ 2000) (h : Sl B ot o A N) (ha : ∀ k, k < 2420 → A2 k = A k) (hn : ∀ k, k < 12 → N2 k = N k) : Sl B ot o A2 N2 := by
  obtain ⟨h1, h2, h3, h4⟩ := h
  have hM := hb.2.2.1
  refine ⟨h1.all hb ha, ?_, ?_, fun i hi => by rw [hn i (by omega)]; exact h4 i hi⟩
  · cases ot with
    | none => show A2 4 = -1; rw [ha 4 (by decide)]; exact h2
    | some TP =>
      obtain ⟨T, P⟩ := TP
      exact ⟨h2.1.lo (hW T P rfl) (fun k hk => ha k (by omega)), by rw [ha 5 (by decide)]; exact h2.2⟩
  · cases o with
    | none => show A2 6 = -1; rw [ha 6 (by decide)]; exact h3
    | some T =>
      have := hN T rfl
      exact ⟨by rw [ha 6 (by decide)]; exact h3.1, fun k hk => by rw [ha _ (by omega)]; exact h3.2 k hk⟩
/-- the running state, from both sides' halves -/
theorem run_mk {S : St} {x m : Nat} {am : Nat → Nat} {im : Nat → Prop} {M : Mk} (hx : kd S x = 11) (hL : LM S m am) (hc : Cl im S M (gR S x 7) (gR S x 8) (gR S x 9)) {N : Nat → Int64} (hs : Sl M.2.1 M.2.2.1 M.2.2.2 (gI S (am 0)) N) : CB S x M.1 m am im M.2.1 ∧ TC S x am im M.2.1 M.2.2.1 ∧ RC S x am im (bn M.2.1) M.2.2.2 := by
  obtain ⟨b, B, ot, o⟩ := M
  obtain ⟨h1, h2, h3, h4, h5⟩ := hc
  obtain ⟨s1, s2, s3, s4⟩ := hs
  refine ⟨⟨hx, h2, h1, h3, hL, s1⟩, ?_, ?_⟩
  · cases ot with
    | none => exact ⟨h4, s2⟩
    | some TP =>
      obtain ⟨T, P⟩ := TP
      obtain ⟨y1, y2, y3, t, y4, y5⟩ := h4
      exact ⟨y1, y2, y3, ⟨t, y4, y5⟩, s2.1, s2.2⟩
  · cases o with
    | none => exact ⟨h5, s3⟩
    | some T =>
      obtain ⟨y1, t, y4, y5⟩ := h5
      exact ⟨y1, t, y4, y5, s3⟩
theorem mk_run {S : St} {x b m : Nat} {am : Nat → Nat} {im : Nat → Prop} {B : Bk} {ot : Option (Tc × Pg)} {o : Option Tc} (h : CB S x b m am im B) (hT : TC S x am im B ot) (hr : RC S x am im (bn B) o) {N : Nat → Int64} (hN : ∀ i, i < bM B → nmq (bnm B i) (N i)) : Cl im S (b, B, ot, o) (gR S x 7) (gR S x 8) (gR S x 9) ∧ Sl B ot o (gI S (am 0)) N := by
  obtain ⟨-, h2, h3, h4, -, h6⟩ := h
  refine ⟨⟨h3, h2, h4, ?_, ?_⟩, h6, ?_, ?_, hN⟩
  · cases ot with
    | none => exact hT.1
    | some TP =>
      obtain ⟨T, P⟩ := TP
      obtain ⟨y1, y2, y3, y4, -, -⟩ := hT
      exact ⟨y1, y2, y3, y4⟩
  · cases o with
    | none => exact hr.1
    | some T =>
      obtain ⟨y1, t, y4, y5, -⟩ := hr
      exact ⟨y1, t, y4, y5⟩
  · cases ot with
    | none => exact hT.2
    | some TP =>
      obtain ⟨T, P⟩ := TP
      obtain ⟨-, -, -, -, y5, y6⟩ := hT
      exact ⟨y5, y6⟩
  · cases o with
    | none => exact hr.2
    | some T =>
      obtain ⟨-, t, -, -, y6⟩ := hr
      exact y6
theorem ix2420 (i k : Nat) : (2420 : Int32) * nI i + nI k = nI (2420 * i + k) := by
  show nI 2420 * nI i + nI k = _
  rw [mulN, nI_add]
theorem ix12 (i k : Nat) : (12 : Int32) * nI i + nI k = nI (12 * i + k) := by
  show nI 12 * nI i + nI k = _
  rw [mulN, nI_add]
theorem sm_copies {S : St} {m f t : Nat} {am : Nat → Nat} {Q : FI → (Nat → Nat → Int64) → Prop} (hL : LM S m am) (hf : f ≤ 3) (ht : t ≤ 3) (hft : f ≠ t)
    (hq : ∀ F J, On (am 0) (gI S) F → (∀ k, F (am 0) k = if 2420 * t ≤ k ∧ k < 2420 * t + 2420 then gI S (am 0) (2420 * f + (k - 2420 * t)) else gI S (am 0) k) → (∀ a, a ≠ am 1 → J a = gJ S a) → (∀ k, J (am 1) k = if 12 * t ≤ k ∧ k < 12 * t + 12 then gJ S (am 1) (12 * f + (k - 12 * t)) else gJ S (am 1) k) → Q F J) : P_X12_copies m (nI f) (nI t) S Q := by
  refine ⟨hL.z, fun u x3 F => ∃ c, c ≤ 2420 ∧ u = 2420 - c ∧ x3 = nI c ∧ On (am 0) (gI S) F ∧ ∀ k, F (am 0) k = if 2420 * t ≤ k ∧ k < 2420 * t + c then gI S (am 0) (2420 * f + (k - 2420 * t)) else gI S (am 0) k, ⟨2420, 0, by omega, rfl, rfl, On.rf, fun k => by rw [if_neg (by omega)]⟩, ?_⟩
  rintro u x3 F ⟨c, hc, rfl, rfl, oF, hF⟩
  refine ⟨fun hcc => ?_, fun hcc => ?_⟩
  · have e : c = 2420 := by
      have : 2420 ≤ c := (nI_leI (a := 2420) (by decide) (by omega)).mp hcc
      omega
    subst e
    refine ⟨fun u x3 J => ∃ c, c ≤ 12 ∧ u = 12 - c ∧ x3 = nI c ∧ (∀ a, a ≠ am 1 → J a = gJ S a) ∧ ∀ k, J (am 1) k = if 12 * t ≤ k ∧ k < 12 * t + c then gJ S (am 1) (12 * f + (k - 12 * t)) else gJ S (am 1) k, ⟨12, 0, by omega, rfl, rfl, fun _ _ => rfl, fun k => by rw [if_neg (by omega)]⟩, ?_⟩
    rintro u x3 J ⟨c, hc2, rfl, rfl, ja, jk⟩
    refine ⟨fun hcc2 => ?_, fun hcc2 => ?_⟩
    · have e : c = 12 := by
        have : 12 ≤ c := (nI_leI (a := 12) (by decide) (by omega)).mp hcc2
        omega
      subst e
      exact hq F J oF hF ja jk
    · have hlt : c < 12 := nI_gtI (n := 12) (by decide) (by omega) hcc2
      rw [ix12, ix12]
      refine ⟨am 1, hL.r 1, hL.k 1, hL.i 1 (by show 12 * f + c < 70; omega), hL.i 1 (by show 12 * t + c < 70; omega), fun v ev J2 e2 w ew => ?_⟩
      rw [nI_clamp (by omega)] at ev e2
      have ev' : v = gJ S (am 1) (12 * f + c) := by
        rw [ev, jk, if_neg]
        rcases Nat.lt_trichotomy f t with z | z | z <;> omega
      refine ⟨12 - (c + 1), by omega, c + 1, by omega, rfl, by rw [ew]; exact nI_1 c, fun a ha => by rw [e2, upJ_ne ha]; exact ja a ha, fun k => ?_⟩
      rw [e2]
      by_cases ck : k = 12 * t + c
      · rw [ck, upJ_at, if_pos (by omega), ev', show 12 * t + c - 12 * t = c by omega]
      · rw [upJ_no ck, jk]
        by_cases cr : 12 * t ≤ k ∧ k < 12 * t + c
        · rw [if_pos cr, if_pos (by omega)]
        · rw [if_neg cr, if_neg (by omega)]
  · have hlt : c < 2420 := nI_gtI (n := 2420) (by decide) (by omega) hcc
    rw [ix2420, ix2420]
    refine ⟨am 0, hL.r 0, hL.k 0, hL.i 0 (by show 2420 * f + c < 12100; omega), hL.i 0 (by show 2420 * t + c < 12100; omega), fun v ev F2 e2 w ew => ?_⟩
    rw [nI_clamp (by omega)] at ev e2
    have ev' : v = gI S (am 0) (2420 * f + c) := by
      rw [ev, hF, if_neg]
      rcases Nat.lt_trichotomy f t with z | z | z <;> omega
    refine ⟨2420 - (c + 1), by omega, c + 1, by omega, rfl, by rw [ew]; exact nI_1 c, by rw [e2]; exact oF.tr On.up, fun k => ?_⟩
    rw [e2]
    by_cases ck : k = 2420 * t + c
    · rw [ck, up_at, if_pos (by omega), ev', show 2420 * t + c - 2420 * t = c by omega]
    · rw [up_no ck, hF]
      by_cases cr : 2420 * t ≤ k ∧ k < 2420 * t + c
      · rw [if_pos cr, if_pos (by omega)]
      · rw [if_neg cr, if_neg (by omega)]
/-- the marks on both sides -/
def MKx (S : St) (x mb mt mr m : Nat) (am : Nat → Nat) (im : Nat → Prop) (c : Nat) (Ms : Nat → Mk) : Prop := gR S x 10 = some mb ∧ gR S x 11 = some mt ∧ gR S x 12 = some mr ∧ kd S mb = 23 ∧ kd S mt = 25 ∧ kd S mr = 25 ∧ ln S mb = 3 ∧ ln S mt = 3 ∧ ln S mr = 3 ∧ mt ≠ mr ∧ c ≤ 3 ∧ gI S x 13 = nI c ∧ gI S m 50 = nI c ∧ ∀ i, i < c → Cl im S (Ms i) (gR S mb i) (gR S mt i) (gR S mr i) ∧ Sl (Ms i).2.1 (Ms i).2.2.1 (Ms i).2.2.2 (fun k => gI S (am 0) (2420 * (i + 1) + k)) (fun k => gJ S (am 1) (12 * (i + 1) + k))
def t50 (f : Nat) : Bool := [0, 1, 2, 50].contains f
/-- what never changes lies apart from what does -/
def Dj (im : Nat → Prop) (S : St) (x m : Nat) (am : Nat → Nat) : Prop := ∀ e, im e → kd S e ≠ 0 ∧ e ≠ x ∧ e ≠ m ∧ ∀ f, mk f ≠ 0 → e ≠ am f
theorem ClT.k {B : Bk} {im : Nat → Prop} {S : St} {ot : Option (Tc × Pg)} {r : Option Nat} (h : ClT B im S ot r) : ∀ v, r = some v → kd S v = 8 := fun v e => by
  cases ot with
  | none => rw [show r = none from h] at e; cases e
  | some TP =>
    obtain ⟨T, P⟩ := TP
    obtain ⟨-, -, -, t, h4, h5⟩ := h
    rw [h4] at e
    injection e with e
    rw [← e]; exact h5.2.1
theorem ClR.k {n : Nat} {im : Nat → Prop} {S : St} {o : Option Tc} {r : Option Nat} (h : ClR n im S o r) : ∀ v, r = some v → kd S v = 8 := fun v e => by
  cases o with
  | none => rw [show r = none from h] at e; cases e
  | some T =>
    obtain ⟨-, t, h4, h5⟩ := h
    rw [h4] at e
    injection e with e
    rw [← e]; exact h5.2.1
theorem kd_ne {S : St} {a b i j : Nat} (h1 : kd S a = i) (h2 : kd S b = j) (hn : i ≠ j) : a ≠ b := fun e => hn (by rw [← h1, ← h2, e])
section MB
variable {S : St} {x b m mb mt mr c : Nat} {am : Nat → Nat} {im : Nat → Prop} {B : Bk} {ot : Option (Tc × Pg)} {o : Option Tc} {Ms : Nat → Mk}
theorem call_mark {Q : Int32 → FI → (Nat → Nat → Option Nat) → Prop} (h : CB S x b m am im B) (hT : TC S x am im B ot) (hr : RC S x am im (bn B) o) (hN : ∀ i, i < bM B → nmq (bnm B i) (gJ S (am 1) i)) (hM : MKx S x mb mt mr m am im c Ms) (hj : Dj im S x m am) (him : ∀ e, im e → e ≠ mb ∧ e ≠ mt ∧ e ≠ mr)
    (hq : ∀ v F R, (∀ a, a ≠ x → F a = gI S a) → (∀ j, j ≠ 0 → j ≠ 13 → F x j = gI S x j) → (∀ a, a ≠ mb → a ≠ mt → a ≠ mr → R a = gR S a) → (∀ Q2 : Int32 → FI → (Nat → Nat → Int64) → Prop, (∀ F' J' c' Ms', Kp t50 m am F F' → F' m 2 = F x 0 → (∀ k, (k < 2420 ∨ 9680 ≤ k) → F' (am 0) k = gI S (am 0) k) → (∀ a, a ≠ am 1 → J' a = gJ S a) → (∀ k, (k < 12 ∨ 48 ≤ k) → J' (am 1) k = gJ S (am 1) k) → MKx (wA S F' J' R) x mb mt mr m am im c' Ms' → Q2 v F' J') → P_X12_mark m (wA S F (gJ S) R) Q2) → Q v F R) : P_X11_mark x S Q := by
  have hM' := hM
  obtain ⟨m1, m2, m3, m4, m5, m6, m7, m8, m9, m10, m11, m12, m13, m14⟩ := hM'
  obtain ⟨cl, sl⟩ := mk_run h hT hr hN
  have xm := x_m h.x h.L
  have nmb : mb ≠ x ∧ mb ≠ mt ∧ mb ≠ mr ∧ mb ≠ m := ⟨kd_ne m4 h.x (by decide), kd_ne m4 m5 (by decide), kd_ne m4 m6 (by decide), kd_ne m4 h.L.z (by decide)⟩
  have nmt : mt ≠ x ∧ mt ≠ m := ⟨kd_ne m5 h.x (by decide), kd_ne m5 h.L.z (by decide)⟩
  have nmr : mr ≠ x ∧ mr ≠ m := ⟨kd_ne m6 h.x (by decide), kd_ne m6 h.L.z (by decide)⟩
  have wk : ∀ T P, ot = some (T, P) → pgK P ≤ 60 := fun T P e => by subst e; exact hT.1.1
  have tk : ∀ T, o = some T → tN T ≤ 2000 := fun T e => by subst e; exact hr.1.1
  have im3 : ∀ {F : FI} {J : Nat → Nat → Int64} {R : Nat → Nat → Option Nat}, (∀ e, im e → F e = gI S e) → (∀ e, im e → J e = gJ S e) → (∀ e, im e → R e = gR S e) → Sim im S (wA S F J R) := fun f1 f2 f3 e he => ⟨rfl, rfl, f1 e he, f2 e he, f3 e he⟩
  refine ⟨h.x, ?_⟩
  rw [m12]
  by_cases c3 : c = 3
  · subst c3
    refine ⟨fun y => absurd y (nI_nlt (a := 3) (b := 3) (by decide) (by decide)), fun _ => rf h.x (hq _ _ _ (fun a ha => up_ne ha) (fun j h0 _ => up_no h0) (fun _ _ _ _ => rfl) (fun Q2 h2 => ⟨h.L.z, fun y => absurd ?_ y, fun _ => ?_⟩))⟩
    · show upI (gI S) x 0 4 m 50 = 3
      rw [up_ne xm]; exact m13
    · refine ⟨h.L.z, fun F e => ?_⟩
      have e' : F = upI (upI (gI S) x 0 4) m 2 4 := e
      have f0 : F (am 0) = gI S (am 0) := by rw [e', up_ne (h.L.o 0), up_ne (x_am h.x h.L 0)]
      have fx : ∀ a, a ≠ x → a ≠ m → F a = gI S a := fun a h1 h2 => by rw [e', up_ne h2, up_ne h1]
      refine h2 F (gJ S) 3 Ms (by rw [e']; exact Kp.fd 2) (by rw [e', up_at, up_at]) (fun k _ => by rw [f0]) (fun _ _ => rfl) (fun _ _ => rfl) ⟨m1, m2, m3, m4, m5, m6, m7, m8, m9, m10, m11, ?_, ?_, fun i hi => ⟨(m14 i hi).1.sm (im3 (fun e he => fx e (hj e he).2.1 (hj e he).2.2.1) (fun _ _ => rfl) (fun _ _ => rfl)), ?_⟩⟩
      · show F x 13 = _
        rw [e', up_ne (Ne.symm xm), up_no (by decide)]; exact m12
      · show F m 50 = _
        rw [e', up_no (by decide), up_ne xm]; exact m13
      · show Sl _ _ _ (fun k => F (am 0) (2420 * (i + 1) + k)) _
        rw [f0]; exact (m14 i hi).2
  · have hc3 : c < 3 := by omega
    refine ⟨fun _ => ⟨mb, m1, m4, by rw [m7]; exact vp_in_nI hc3 (by decide), fun v ev => by rw [h.b] at ev; injection ev with ev; rw [← ev]; exact h.k, fun R6 e6 => ?_⟩, fun y => absurd (nI_lt (b := 3) hc3 (by decide)) y⟩
    rw [nI_clamp (by omega)] at e6
    have r6 : ∀ j, R6 x j = gR S x j := fun j => by rw [e6, upR_ne (Ne.symm nmb.1)]
    refine ⟨mt, by rw [r6]; exact m2, m5, by rw [m8]; exact vp_in_nI hc3 (by decide), fun v ev => cl.2.2.2.1.k v (by rw [r6] at ev; exact ev), fun R11 e11 => ?_⟩
    rw [nI_clamp (by omega), r6] at e11
    have r11 : ∀ j, R11 x j = gR S x j := fun j => by rw [e11, upR_ne (Ne.symm nmt.1)]; exact r6 j
    refine ⟨mr, by rw [r11]; exact m3, m6, by rw [m9]; exact vp_in_nI hc3 (by decide), fun v ev => cl.2.2.2.2.k v (by rw [r11] at ev; exact ev), fun R16 e16 v17 e17 F18 e18 => ?_⟩
    rw [nI_clamp (by omega), r11] at e16
    rw [nI_1] at e17
    subst e17
    have f13 : F18 x 13 = nI (c + 1) := by rw [e18, up_at]
    rw [f13]
    have rb : ∀ i, R16 mb i = if i = c then gR S x 7 else gR S mb i := fun i => by
      rw [e16, upR_ne nmb.2.2.1, e11, upR_ne nmb.2.1, e6]
      by_cases ci : i = c
      · rw [ci, upR_at, if_pos rfl]
      · rw [upR_no ci, if_neg ci]
    have rt : ∀ i, R16 mt i = if i = c then gR S x 8 else gR S mt i := fun i => by
      rw [e16, upR_ne m10, e11]
      by_cases ci : i = c
      · rw [ci, upR_at, if_pos rfl]
      · rw [upR_no ci, if_neg ci, e6, upR_ne (Ne.symm nmb.2.1)]
    have rr : ∀ i, R16 mr i = if i = c then gR S x 9 else gR S mr i := fun i => by
      rw [e16]
      by_cases ci : i = c
      · rw [ci, upR_at, if_pos rfl]
      · rw [upR_no ci, if_neg ci, e11, upR_ne (Ne.symm m10), e6, upR_ne (Ne.symm nmb.2.2.1)]
    have ro : ∀ a, a ≠ mb → a ≠ mt → a ≠ mr → R16 a = gR S a := fun a h1 h2 h3 => by rw [e16, upR_ne h3, e11, upR_ne h2, e6, upR_ne h1]
    refine an (S := wA S F18 (gJ S) R16) h.x (hq _ _ R16 (fun a ha => ?_) (fun j h0 h13 => ?_) ro (fun Q2 h2 => ?_))
    · show upI F18 x 0 0 a = _
      rw [up_ne ha, e18, up_ne ha]
    · show upI F18 x 0 0 x j = _
      rw [up_no h0, e18, up_no h13]
    · obtain ⟨F, hF⟩ : ∃ F, F = upI F18 x 0 0 := ⟨_, rfl⟩
      have hF' : upI (gI (wA S F18 (gJ S) R16)) x 0 0 = F := hF.symm
      rw [hF'] at h2 ⊢
      have fa : ∀ a, a ≠ x → F a = gI S a := fun a ha => by rw [hF, up_ne ha, e18, up_ne ha]
      have L1 : LM (wA S F (gJ S) R16) m am := h.L.fr (W := fun e => e = x ∨ e = mb ∨ e = mt ∨ e = mr) (fun a _ => ⟨rfl, rfl, fun hw => ⟨fa a (fun e => hw (Or.inl e)), rfl, ro a (fun e => hw (Or.inr (Or.inl e))) (fun e => hw (Or.inr (Or.inr (Or.inl e)))) (fun e => hw (Or.inr (Or.inr (Or.inr e))))⟩⟩) (fun e => by
        rcases e with e | e | e | e
        · exact xm e
        · exact nmb.2.2.2 e.symm
        · exact nmt.2 e.symm
        · exact nmr.2 e.symm)
      have m50 : gI (wA S F (gJ S) R16) m 50 = nI c := by show F m 50 = _; rw [fa m xm]; exact m13
      refine ⟨L1.z, ?_⟩
      rw [m50]
      refine ⟨fun _ v2 e2 F3 e3 => ?_, fun y => absurd ((nI_eq (b := 3) (by omega) (by decide)).mp y) c3⟩
      rw [nI_1] at e2
      subst e2
      have e3' : F3 = upI F m 50 (nI (c + 1)) := e3
      have f3m : F3 m 50 = nI (c + 1) := by rw [e3', up_at]
      rw [f3m]
      refine sm_copies (S := wI (wA S F (gJ S) R16) F3) (f := 0) (t := c + 1) L1 (by omega) (by omega) (by omega) (fun F4 J4 o4 h4 j4 k4 => ?_)
      have a0 : F3 (am 0) = gI S (am 0) := by rw [e3', up_ne (h.L.o 0), fa _ (x_am h.x h.L 0)]
      have f4m : F4 m = F3 m := o4 m (Ne.symm (h.L.o 0))
      have h4' : ∀ k, F4 (am 0) k = if 2420 * (c + 1) ≤ k ∧ k < 2420 * (c + 1) + 2420 then gI S (am 0) (k - 2420 * (c + 1)) else gI S (am 0) k := fun k => by
        rw [h4 k]
        show (if _ then F3 (am 0) (2420 * 0 + (k - 2420 * (c + 1))) else F3 (am 0) k) = _
        rw [a0, show 2420 * 0 + (k - 2420 * (c + 1)) = k - 2420 * (c + 1) by omega]
      have k4' : ∀ k, J4 (am 1) k = if 12 * (c + 1) ≤ k ∧ k < 12 * (c + 1) + 12 then gJ S (am 1) (k - 12 * (c + 1)) else gJ S (am 1) k := fun k => by
        rw [k4 k, show 12 * 0 + (k - 12 * (c + 1)) = k - 12 * (c + 1) by omega]
        rfl
      rw [f4m, f3m]
      have kp4 : Kp t50 m am F F4 := (by rw [e3']; exact Kp.fd 50 : Kp t50 m am F F3).tr (Kp.on L1 0 o4)
      refine ⟨L1.z, fun F5 e5 => ?_⟩
      have e5' : F5 = upI F4 m 2 0 := e5
      have f50 : F5 (am 0) = F4 (am 0) := by rw [e5', up_ne (h.L.o 0)]
      have fe : ∀ e, e ≠ x → e ≠ m → e ≠ am 0 → F5 e = gI S e := fun e h1 h2 h3 => by rw [e5', up_ne h2, o4 e h3]; show F3 e = _; rw [e3', up_ne h2, fa e h1]
      have sm : Sim im S (wA S F5 J4 R16) := im3 (fun e he => fe e (hj e he).2.1 (hj e he).2.2.1 ((hj e he).2.2.2 0 (by decide))) (fun e he => j4 e ((hj e he).2.2.2 1 (by decide))) (fun e he => ro e (him e he).1 (him e he).2.1 (him e he).2.2)
      have F5x : ∀ j, F5 x j = F x j := fun j => by rw [e5', up_ne (Ne.symm xm), o4 x (Ne.symm (x_am h.x h.L 0))]; show F3 x j = _; rw [e3', up_ne (Ne.symm xm)]
      refine h2 F5 J4 (c + 1) (fun i => if i = c then (b, B, ot, o) else Ms i) (by rw [e5']; exact kp4.tr (Kp.fd 2)) (by rw [e5', up_at, hF, up_at]) (fun k hk => by rw [f50, h4', if_neg (by omega)]) (fun a ha => j4 a ha) (fun k hk => by rw [k4', if_neg (by omega)]) ⟨?_, ?_, ?_, m4, m5, m6, m7, m8, m9, m10, by omega, ?_, ?_, fun i hi => ?_⟩
      · show R16 x 10 = _
        rw [ro x (Ne.symm nmb.1) (Ne.symm nmt.1) (Ne.symm nmr.1)]; exact m1
      · show R16 x 11 = _
        rw [ro x (Ne.symm nmb.1) (Ne.symm nmt.1) (Ne.symm nmr.1)]; exact m2
      · show R16 x 12 = _
        rw [ro x (Ne.symm nmb.1) (Ne.symm nmt.1) (Ne.symm nmr.1)]; exact m3
      · show F5 x 13 = _
        rw [F5x, hF, up_no (by decide)]; exact f13
      · show F5 m 50 = _
        rw [e5', up_no (by decide), f4m]; exact f3m
      · show Cl im (wA S F5 J4 R16) (if i = c then (b, B, ot, o) else Ms i) (R16 mb i) (R16 mt i) (R16 mr i) ∧ Sl (if i = c then (b, B, ot, o) else Ms i).2.1 (if i = c then (b, B, ot, o) else Ms i).2.2.1 (if i = c then (b, B, ot, o) else Ms i).2.2.2 (fun k => F5 (am 0) (2420 * (i + 1) + k)) (fun k => J4 (am 1) (12 * (i + 1) + k))
        rw [rb, rt, rr, f50]
        by_cases ci : i = c
        · rw [if_pos ci, if_pos ci, if_pos ci, if_pos ci, ci]
          exact ⟨cl.sm sm, sl.all h.o wk tk (fun k hk => by rw [h4', if_pos (by omega), show 2420 * (c + 1) + k - 2420 * (c + 1) = k by omega]) (fun k hk => by rw [k4', if_pos (by omega), show 12 * (c + 1) + k - 12 * (c + 1) = k by omega])⟩
        · rw [if_neg ci, if_neg ci, if_neg ci, if_neg ci]
          obtain ⟨q1, q2⟩ := m14 i (by omega)
          refine ⟨q1.sm sm, ?_⟩
          have e1 : (fun k => F4 (am 0) (2420 * (i + 1) + k)) = fun k => if 2420 * (c + 1) ≤ 2420 * (i + 1) + k ∧ 2420 * (i + 1) + k < 2420 * (c + 1) + 2420 then gI S (am 0) (2420 * (i + 1) + k - 2420 * (c + 1)) else gI S (am 0) (2420 * (i + 1) + k) := funext fun k => h4' _
          have wk' : ∀ T P, (Ms i).2.2.1 = some (T, P) → pgK P ≤ 60 := fun T P e => by
            have := q1.2.2.2.1
            rw [e] at this
            exact this.1.1
          have tk' : ∀ T, (Ms i).2.2.2 = some T → tN T ≤ 2000 := fun T e => by
            have := q1.2.2.2.2
            rw [e] at this
            exact this.1.1
          refine q2.all q1.1 wk' tk' (fun k hk => ?_) (fun k hk => ?_)
          · show F4 (am 0) (2420 * (i + 1) + k) = _
            rw [h4', if_neg (by omega)]
          · show J4 (am 1) (12 * (i + 1) + k) = _
            rw [k4', if_neg (by omega)]
theorem call_back {Q : Int32 → FI → (Nat → Nat → Option Nat) → Prop} (h : CB S x b m am im B) (hT : TC S x am im B ot) (hr : RC S x am im (bn B) o) (hN : ∀ i, i < bM B → nmq (bnm B i) (gJ S (am 1) i)) (hM : MKx S x mb mt mr m am im c Ms) (hj : Dj im S x m am) (him : ∀ e, im e → e ≠ mb ∧ e ≠ mt ∧ e ≠ mr)
    (hq : ∀ v F R, (∀ a, a ≠ x → F a = gI S a) → (∀ j, j ≠ 0 → j ≠ 13 → F x j = gI S x j) → (∀ a, a ≠ x → R a = gR S a) → (∀ j, j ≠ 7 → j ≠ 8 → j ≠ 9 → R x j = gR S x j) → (∀ Q2 : Int32 → FI → (Nat → Nat → Int64) → Prop, (∀ F' J' c' b' B' ot' o', Kp t50 m am F F' → F' m 2 = F x 0 → (∀ k, 2420 ≤ k → F' (am 0) k = gI S (am 0) k) → (∀ a, a ≠ am 1 → J' a = gJ S a) → (∀ k, 12 ≤ k → J' (am 1) k = gJ S (am 1) k) → MKx (wA S F' J' R) x mb mt mr m am im c' Ms → CB (wA S F' J' R) x b' m am im B' → TC (wA S F' J' R) x am im B' ot' → RC (wA S F' J' R) x am im (bn B') o' → (∀ i, i < bM B' → nmq (bnm B' i) (J' (am 1) i)) → ((b', B') = (b, B) ∨ ∃ i, i < c ∧ (b', B') = ((Ms i).1, (Ms i).2.1)) → Q2 v F' J') → P_X12_back m (wA S F (gJ S) R) Q2) → Q v F R) : P_X11_back x S Q := by
  have hM' := hM
  obtain ⟨m1, m2, m3, m4, m5, m6, m7, m8, m9, m10, m11, m12, m13, m14⟩ := hM'
  obtain ⟨cl, sl⟩ := mk_run h hT hr hN
  have xm := x_m h.x h.L
  have nmb : mb ≠ x ∧ mb ≠ mt ∧ mb ≠ mr ∧ mb ≠ m := ⟨kd_ne m4 h.x (by decide), kd_ne m4 m5 (by decide), kd_ne m4 m6 (by decide), kd_ne m4 h.L.z (by decide)⟩
  have nmt : mt ≠ x ∧ mt ≠ m := ⟨kd_ne m5 h.x (by decide), kd_ne m5 h.L.z (by decide)⟩
  have nmr : mr ≠ x ∧ mr ≠ m := ⟨kd_ne m6 h.x (by decide), kd_ne m6 h.L.z (by decide)⟩
  have im3 : ∀ {F : FI} {J : Nat → Nat → Int64} {R : Nat → Nat → Option Nat}, (∀ e, im e → F e = gI S e) → (∀ e, im e → J e = gJ S e) → (∀ e, im e → R e = gR S e) → Sim im S (wA S F J R) := fun f1 f2 f3 e he => ⟨rfl, rfl, f1 e he, f2 e he, f3 e he⟩
  refine ⟨h.x, ?_⟩
  rw [m12]
  by_cases c0 : c = 0
  · subst c0
    refine ⟨fun y => absurd y (by decide), fun _ => rf h.x (hq _ _ _ (fun a ha => up_ne ha) (fun j h0 _ => up_no h0) (fun _ _ => rfl) (fun _ _ _ _ => rfl) (fun Q2 h2 => ⟨h.L.z, fun y => absurd ?_ y, fun _ => ?_⟩))⟩
    · show upI (gI S) x 0 6 m 50 = 0
      rw [up_ne xm]; exact m13
    · refine ⟨h.L.z, fun F e => ?_⟩
      have e' : F = upI (upI (gI S) x 0 6) m 2 6 := e
      have f0 : F (am 0) = gI S (am 0) := by rw [e', up_ne (h.L.o 0), up_ne (x_am h.x h.L 0)]
      have fx : ∀ a, a ≠ x → a ≠ m → F a = gI S a := fun a h1 h2 => by rw [e', up_ne h2, up_ne h1]
      have sm : Sim im S (wA S F (gJ S) (gR S)) := im3 (fun e he => fx e (hj e he).2.1 (hj e he).2.2.1) (fun _ _ => rfl) (fun _ _ => rfl)
      obtain ⟨r1, r2, r3⟩ := run_mk (S := wA S F (gJ S) (gR S)) (x := x) (m := m) (am := am) (im := im) (M := (b, B, ot, o)) h.x h.L (cl.sm sm) (N := gJ S (am 1)) (by show Sl B ot o (F (am 0)) _; rw [f0]; exact sl)
      refine h2 F (gJ S) 0 b B ot o (by rw [e']; exact Kp.fd 2) (by rw [e', up_at, up_at]) (fun k _ => by rw [f0]) (fun _ _ => rfl) (fun _ _ => rfl) ⟨m1, m2, m3, m4, m5, m6, m7, m8, m9, m10, m11, ?_, ?_, fun i hi => by omega⟩ r1 r2 r3 hN (Or.inl rfl)
      · show F x 13 = _
        rw [e', up_ne (Ne.symm xm), up_no (by decide)]; exact m12
      · show F m 50 = _
        rw [e', up_no (by decide), up_ne xm]; exact m13
  · obtain ⟨d, rfl⟩ : ∃ d, c = d + 1 := ⟨c - 1, by omega⟩
    obtain ⟨q1, q2⟩ := m14 d (by omega)
    refine ⟨fun _ v2 e2 F3 e3 => ?_, fun y => absurd (nI_lt (a := 0) (by omega) (by omega)) y⟩
    rw [nI_pred] at e2
    subst e2
    have f13 : F3 x 13 = nI d := by rw [e3, up_at]
    rw [f13, nI_clamp (by omega)]
    refine ⟨mb, m1, m4, by rw [m7]; exact vp_in_nI (by omega) (by decide), fun R7 e7 => ?_⟩
    have r7 : ∀ a, a ≠ x → R7 a = gR S a := fun a ha => by rw [e7, upR_ne ha]
    have r7x : ∀ j, j ≠ 7 → R7 x j = gR S x j := fun j hj => by rw [e7, upR_no hj]
    refine ⟨mt, by rw [r7x 11 (by decide)]; exact m2, m5, by rw [m8]; exact vp_in_nI (by omega) (by decide), fun R11 e11 => ?_⟩
    rw [r7 mt nmt.1] at e11
    have r11 : ∀ a, a ≠ x → R11 a = gR S a := fun a ha => by rw [e11, upR_ne ha]; exact r7 a ha
    have r11x : ∀ j, j ≠ 7 → j ≠ 8 → R11 x j = gR S x j := fun j h1 h2 => by rw [e11, upR_no h2]; exact r7x j h1
    refine ⟨mr, by rw [r11x 12 (by decide) (by decide)]; exact m3, m6, by rw [m9]; exact vp_in_nI (by omega) (by decide), fun R15 e15 => ?_⟩
    rw [r11 mr nmr.1] at e15
    have ro : ∀ a, a ≠ x → R15 a = gR S a := fun a ha => by rw [e15, upR_ne ha]; exact r11 a ha
    have rox : ∀ j, j ≠ 7 → j ≠ 8 → j ≠ 9 → R15 x j = gR S x j := fun j h1 h2 h3 => by rw [e15, upR_no h3]; exact r11x j h1 h2
    have x7 : R15 x 7 = gR S mb d := by rw [e15, upR_no (by decide), e11, upR_no (by decide), e7, upR_at]
    have x8 : R15 x 8 = gR S mt d := by rw [e15, upR_no (by decide), e11, upR_at]
    have x9 : R15 x 9 = gR S mr d := by rw [e15, upR_at]
    refine an (S := wA S F3 (gJ S) R15) h.x (hq _ _ R15 (fun a ha => ?_) (fun j h0 h13 => ?_) ro rox (fun Q2 h2 => ?_))
    · show upI F3 x 0 0 a = _
      rw [up_ne ha, e3, up_ne ha]
    · show upI F3 x 0 0 x j = _
      rw [up_no h0, e3, up_no h13]
    · obtain ⟨F, hF⟩ : ∃ F, F = upI F3 x 0 0 := ⟨_, rfl⟩
      have hF' : upI (gI (wA S F3 (gJ S) R15)) x 0 0 = F := hF.symm
      rw [hF'] at h2 ⊢
      have fa : ∀ a, a ≠ x → F a = gI S a := fun a ha => by rw [hF, up_ne ha, e3, up_ne ha]
      have L1 : LM (wA S F (gJ S) R15) m am := h.L.fr (W := fun e => e = x) (fun a _ => ⟨rfl, rfl, fun hw => ⟨fa a hw, rfl, ro a hw⟩⟩) xm
      have m50 : gI (wA S F (gJ S) R15) m 50 = nI (d + 1) := by show F m 50 = _; rw [fa m xm]; exact m13
      refine ⟨L1.z, ?_⟩
      rw [m50]
      refine ⟨fun _ => ?_, fun y => absurd ((nI_z (by omega)).mp y) (by omega)⟩
      refine sm_copies (S := wA S F (gJ S) R15) (f := d + 1) (t := 0) L1 (by omega) (by omega) (by omega) (fun F4 J4 o4 h4 j4 k4 v3 e3' F5 e5 => ?_)
      have a0 : F (am 0) = gI S (am 0) := fa _ (x_am h.x h.L 0)
      have f4m : F4 m = F m := o4 m (Ne.symm (h.L.o 0))
      have v3e : v3 = nI d := by rw [e3', f4m]; show gI (wA S F (gJ S) R15) m 50 - 1 = _; rw [m50, nI_pred]
      subst v3e
      have h4' : ∀ k, F4 (am 0) k = if k < 2420 then gI S (am 0) (2420 * (d + 1) + k) else gI S (am 0) k := fun k => by
        rw [h4 k]
        show (if _ then F (am 0) (2420 * (d + 1) + (k - 2420 * 0)) else F (am 0) k) = _
        rw [a0, show k - 2420 * 0 = k by omega]
        by_cases ck : k < 2420
        · rw [if_pos ck, if_pos (by omega)]
        · rw [if_neg ck, if_neg (by omega)]
      have k4' : ∀ k, J4 (am 1) k = if k < 12 then gJ S (am 1) (12 * (d + 1) + k) else gJ S (am 1) k := fun k => by
        rw [k4 k]
        show (if _ then gJ S (am 1) (12 * (d + 1) + (k - 12 * 0)) else gJ S (am 1) k) = _
        rw [show k - 12 * 0 = k by omega]
        by_cases ck : k < 12
        · rw [if_pos ck, if_pos (by omega)]
        · rw [if_neg ck, if_neg (by omega)]
      have f5m : F5 m 50 = nI d := by rw [e5, up_at]
      rw [f5m]
      refine ⟨L1.z, fun F6 e6 => ?_⟩
      have e6' : F6 = upI F5 m 2 0 := e6
      have f60 : F6 (am 0) = F4 (am 0) := by rw [e6', up_ne (h.L.o 0), e5, up_ne (h.L.o 0)]
      have fe : ∀ e, e ≠ x → e ≠ m → e ≠ am 0 → F6 e = gI S e := fun e h1 h2 h3 => by rw [e6', up_ne h2, e5, up_ne h2, o4 e h3]; exact fa e h1
      have sm : Sim im S (wA S F6 J4 R15) := im3 (fun e he => fe e (hj e he).2.1 (hj e he).2.2.1 ((hj e he).2.2.2 0 (by decide))) (fun e he => j4 e ((hj e he).2.2.2 1 (by decide))) (fun e he => ro e (hj e he).2.1)
      have F6x : ∀ j, F6 x j = F x j := fun j => by rw [e6', up_ne (Ne.symm xm), e5, up_ne (Ne.symm xm), o4 x (Ne.symm (x_am h.x h.L 0))]; rfl
      have wk' : ∀ i, i < d + 1 → ∀ T P, (Ms i).2.2.1 = some (T, P) → pgK P ≤ 60 := fun i hi T P e => by
        have := (m14 i hi).1.2.2.2.1
        rw [e] at this
        exact this.1.1
      have tk' : ∀ i, i < d + 1 → ∀ T, (Ms i).2.2.2 = some T → tN T ≤ 2000 := fun i hi T e => by
        have := (m14 i hi).1.2.2.2.2
        rw [e] at this
        exact this.1.1
      have sd : Sl (Ms d).2.1 (Ms d).2.2.1 (Ms d).2.2.2 (F6 (am 0)) (J4 (am 1)) := q2.all q1.1 (wk' d (by omega)) (tk' d (by omega)) (fun k hk => by rw [f60, h4', if_pos hk]) (fun k hk => by rw [k4', if_pos hk])
      have cd : Cl im (wA S F6 J4 R15) (Ms d) (gR (wA S F6 J4 R15) x 7) (gR (wA S F6 J4 R15) x 8) (gR (wA S F6 J4 R15) x 9) := by
        have := q1.sm sm
        show Cl im (wA S F6 J4 R15) (Ms d) (R15 x 7) (R15 x 8) (R15 x 9)
        rw [x7, x8, x9]
        exact this
      have L6 : LM (wA S F6 J4 R15) m am := L1
      obtain ⟨r1, r2, r3⟩ := run_mk (S := wA S F6 J4 R15) (x := x) h.x L6 cd sd
      refine h2 F6 J4 d (Ms d).1 (Ms d).2.1 (Ms d).2.2.1 (Ms d).2.2.2 (by rw [e6', e5]; exact ((Kp.on L1 0 o4).tr (Kp.fd 50)).tr (Kp.fd 2)) (by rw [e6', up_at, hF, up_at]) (fun k hk => by rw [f60, h4', if_neg (by omega)]) (fun a ha => j4 a ha) (fun k hk => by rw [k4', if_neg (by omega)]) ⟨?_, ?_, ?_, m4, m5, m6, m7, m8, m9, m10, by omega, ?_, ?_, fun i hi => ?_⟩ r1 r2 r3 sd.2.2.2 (Or.inr ⟨d, by omega, rfl⟩)
      · show R15 x 10 = _
        rw [rox 10 (by decide) (by decide) (by decide)]; exact m1
      · show R15 x 11 = _
        rw [rox 11 (by decide) (by decide) (by decide)]; exact m2
      · show R15 x 12 = _
        rw [rox 12 (by decide) (by decide) (by decide)]; exact m3
      · show F6 x 13 = _
        rw [F6x, hF, up_no (by decide)]; exact f13
      · show F6 m 50 = _
        rw [e6', up_no (by decide)]; exact f5m
      · show Cl im (wA S F6 J4 R15) (Ms i) (R15 mb i) (R15 mt i) (R15 mr i) ∧ Sl (Ms i).2.1 (Ms i).2.2.1 (Ms i).2.2.2 (fun k => F6 (am 0) (2420 * (i + 1) + k)) (fun k => J4 (am 1) (12 * (i + 1) + k))
        rw [ro mb nmb.1, ro mt nmt.1, ro mr nmr.1]
        obtain ⟨y1, y2⟩ := m14 i (by omega)
        refine ⟨y1.sm sm, y2.all y1.1 (wk' i (by omega)) (tk' i (by omega)) (fun k hk => ?_) (fun k hk => ?_)⟩
        · show F6 (am 0) (2420 * (i + 1) + k) = _
          rw [f60, h4', if_neg (by omega)]
        · show J4 (am 1) (12 * (i + 1) + k) = _
          rw [k4', if_neg (by omega)]
end MB
