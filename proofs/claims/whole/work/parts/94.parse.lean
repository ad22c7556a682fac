/-! How a book is read: what comes of each piece, a fault or a place behind. -/
section RL
variable (n : Nat) (tx : Nat → Nat) (L : Nat)
def np (p : Nat) : Nat → Nat
  | 0 => p
  | k + 1 => nx tx L (np p k)
def thn (r : Option Nat → Nat → Prop) (c : Nat → Option Nat → Nat → Prop) (o : Option Nat) (q : Nat) : Prop := ∃ o1 q1, r o1 q1 ∧ ((o1 = none ∧ c q1 o q) ∨ ∃ f, o1 = some f ∧ o = some f ∧ q = q1)
def rNN (U : List Nat → Prop) (p : Nat) (o : Option Nat) (q : Nat) : Prop := (tk tx L p = 4 ∧ ¬ U (wd tx L p) ∧ o = none ∧ q = nx tx L p) ∨ (tk tx L p = 4 ∧ U (wd tx L p) ∧ o = some 3 ∧ q = p) ∨ (tk tx L p ≠ 4 ∧ o = some (mis tx L p) ∧ q = p)
def rPL (p : Nat) (o : Option Nat) (q : Nat) : Prop := (PLg n tx L p ∧ o = none ∧ q = nx tx L p) ∨ ∃ f, PLf n tx L p f ∧ o = some f ∧ q = p
def rCH (p k : Nat) (o : Option Nat) (q : Nat) : Prop := k ≤ 32 ∧ (∀ j, j < k → PLg n tx L (np tx L p j)) ∧ q = np tx L p k ∧ ((o = none ∧ 1 ≤ k ∧ ¬ PLt tx L q) ∨ (∃ f, o = some f ∧ (k = 0 ∨ PLt tx L q) ∧ PLf n tx L q f) ∨ (o = some 6 ∧ k = 32 ∧ PLg n tx L q))
def rBK (k p : Nat) (o : Option Nat) (q : Nat) : Prop := (tk tx L p ≠ 9 ∧ o = none ∧ q = p) ∨ (tk tx L p = 9 ∧ 32 < 2 * k ∧ o = some 6 ∧ q = p) ∨ (tk tx L p = 9 ∧ 2 * k ≤ 32 ∧ rPL n tx L (nx tx L p) o q)
def rCL (c p : Nat) (o : Option Nat) (q : Nat) : Prop := (tk tx L p ≠ c ∧ o = none ∧ q = p) ∨ (tk tx L p = c ∧ rPL n tx L (nx tx L p) o q)
def rSG (p : Nat) (o : Option Nat) (q : Nat) : Prop := (tk tx L p = 2 ∧ o = none ∧ q = nx tx L p) ∨ (tk tx L p ≠ 2 ∧ o = some (mis tx L p) ∧ q = p)
abbrev Md : Type := List Nat × Nat × (Nat → Nat → Bool) × (Nat → Bool) × (Nat → Bool)
def sws (q1 k q2 j : Nat) : Nat → Bool := if j < k then psw n tx L (np tx L q1 j) else if j < 2 * k - 1 then psw n tx L (np tx L q1 (2 * k - 2 - j)) else psw n tx L (nx tx L q2)
def mln (k q2 : Nat) : Nat := if tk tx L q2 = 9 then 2 * k else k
def mkD (w : List Nat) (q1 k q2 q3 q4 : Nat) : Md := (w, mln tx L k q2, sws n tx L q1 k q2, if tk tx L q3 = 10 then psw n tx L (nx tx L q3) else sws n tx L q1 k q2 (mln tx L k q2 - 1), if tk tx L q4 = 11 then psw n tx L (nx tx L q4) else sws n tx L q1 k q2 (mln tx L k q2 - 1))
def rMD (U : List Nat → Prop) (p : Nat) (D : Md) : Option Nat → Nat → Prop := thn (rNN tx L U (nx tx L p)) (fun q1 o q => ∃ k, thn (rCH n tx L q1 k) (fun q2 => thn (rBK n tx L k q2) (fun q3 => thn (rCL n tx L 10 q3) (fun q4 => thn (rCL n tx L 11 q4) (fun q5 o q => rSG tx L q5 o q ∧ (o = none → D = mkD n tx L (wd tx L (nx tx L p)) q1 k q2 q3 q4))))) o q)
end RL
theorem thn_y {r : Option Nat → Nat → Prop} {c : Nat → Option Nat → Nat → Prop} {q1 q : Nat} {o : Option Nat} (h : r none q1) (h2 : c q1 o q) : thn r c o q := ⟨none, q1, h, Or.inl ⟨rfl, h2⟩⟩
theorem thn_f {r : Option Nat → Nat → Prop} {c : Nat → Option Nat → Nat → Prop} {q f : Nat} (h : r (some f) q) : thn r c (some f) q := ⟨some f, q, h, Or.inr ⟨f, rfl, rfl, rfl⟩⟩
def usedN (B : Bk) (R : Nat) (rn : Nat → List Nat) (w : List Nat) : Prop := (∃ i, i < bM B ∧ bnm B i = w) ∨ ∃ j, j < R ∧ rn j = w
def setg {α : Type} (f : Nat → α) (i : Nat) (v : α) : Nat → α := fun j => if j = i then v else f j
theorem setg_at {α : Type} {f : Nat → α} {i : Nat} {v : α} : setg f i v i = v := if_pos rfl
theorem setg_no {α : Type} {f : Nat → α} {i j : Nat} {v : α} (h : j ≠ i) : setg f i v j = f j := if_neg h
def addM (B : Bk) (D : Md) : Bk := (bn B, bM B + 1, setg (bl B) (bM B) D.2.1, setg (bv B) (bM B) D.2.2.1, setg (bc B) (bM B) (fun c => if c = 1 then D.2.2.2.1 else D.2.2.2.2), brr B, setg (bnm B) (bM B) D.1)
/-- the class's reader of books -/
def BrX (S : St) (br k rv : Nat) (ra mv : Nat → Nat) : Prop := kd S br = 2 ∧ gR S br 0 = some k ∧ (gR S br 6 = some (ra 6) ∧ kd S (ra 6) = 22 ∧ ln S (ra 6) = 12) ∧ (gR S br 7 = some (ra 7) ∧ kd S (ra 7) = 22 ∧ ln S (ra 7) = 4) ∧ (gR S br 8 = some (ra 8) ∧ kd S (ra 8) = 27 ∧ ln S (ra 8) = 4) ∧ (gR S br 9 = some (ra 9) ∧ kd S (ra 9) = 21 ∧ ln S (ra 9) = 4) ∧ (gR S br 10 = some (ra 10) ∧ kd S (ra 10) = 21 ∧ ln S (ra 10) = 4) ∧ (gR S br 11 = some (ra 11) ∧ kd S (ra 11) = 21 ∧ ln S (ra 11) = 4) ∧ (∀ i, i < 4 → gR S (ra 8) i = some (mv i) ∧ kd S (mv i) = 21 ∧ ln S (mv i) = 32) ∧ (∀ i j, i < 4 → j < 4 → i ≠ j → mv i ≠ mv j) ∧ (∀ i, i < 4 → mv i ≠ ra 9 ∧ mv i ≠ ra 10 ∧ mv i ≠ ra 11) ∧ ra 9 ≠ ra 10 ∧ ra 9 ≠ ra 11 ∧ ra 10 ≠ ra 11 ∧ ra 6 ≠ ra 7 ∧ rv ≠ ra 6 ∧ rv ≠ ra 7
def RdC (F : FI) (J : Nat → Nat → Int64) (br : Nat) (ra mv : Nat → Nat) (B : Bk) (R : Nat) (rn : Nat → List Nat) : Prop := F br 1 = nI (bn B) ∧ F br 2 = nI (bM B) ∧ F br 3 = nI R ∧ F br 4 = msk (brr B) (bn B) ∧ (∃ nms : Nat → List Nat, (∀ i, i < bM B + R → J (ra 6) i = n27 (nms i) ∧ wok (nms i) ∧ (nms i).length ≤ 8) ∧ ∀ w, (∃ i, i < bM B + R ∧ nms i = w) ↔ usedN B R rn w) ∧ ∀ i, i < bM B → J (ra 7) i = n27 (bnm B i) ∧ F (ra 9) i = nI (bl B i) ∧ (∀ k, k < bl B i → F (mv i) k = nI (pak (mvf (bv B i k)) (bn B))) ∧ F (ra 10) i = nI (pak (mvf (bc B i 1)) (bn B)) ∧ F (ra 11) i = nI (pak (mvf (bc B i 2)) (bn B))
def OkB (B : Bk) (R : Nat) (rn : Nat → List Nat) : Prop := bok B ∧ R ≤ 8 ∧ (∀ i, i < bM B → wok (bnm B i) ∧ (bnm B i).length ≤ 8) ∧ ∀ j, j < R → wok (rn j) ∧ (rn j).length ≤ 8
/-- what stays while a method is read -/
def FMd (k br : Nat) (ra mv : Nat → Nat) (M : Nat) (G F : FI) (GJ J : Nat → Nat → Int64) : Prop := (∀ a, a ≠ k → a ≠ br → a ≠ ra 9 → a ≠ mv M → F a = G a) ∧ (∀ j, j ≠ 5 → F br j = G br j) ∧ (∀ j, j ≠ M → F (ra 9) j = G (ra 9) j) ∧ (∀ j, j ≠ 4 → j ≠ 5 → j ≠ 6 → j ≠ 7 → j ≠ 9 → j ≠ 10 → F k j = G k j) ∧ ∀ a, a ≠ k → J a = GJ a
section FM
variable {S : St} {k br rv tt M n : Nat} {ra mv : Nat → Nat} {tx : Nat → Nat} {L p : Nat} {G F F2 : FI} {GJ J J2 : Nat → Nat → Int64}
theorem FMd.rf : FMd k br ra mv M G G GJ GJ := ⟨fun _ _ _ _ _ => rfl, fun _ _ => rfl, fun _ _ => rfl, fun _ _ _ _ _ _ _ => rfl, fun _ _ => rfl⟩
theorem FMd.tr (h : FMd k br ra mv M G F GJ J) (h2 : FMd k br ra mv M F F2 J J2) : FMd k br ra mv M G F2 GJ J2 := ⟨fun a y1 y2 y3 y4 => (h2.1 a y1 y2 y3 y4).trans (h.1 a y1 y2 y3 y4), fun j hj => (h2.2.1 j hj).trans (h.2.1 j hj), fun j hj => (h2.2.2.1 j hj).trans (h.2.2.1 j hj), fun j y1 y2 y3 y4 y5 y6 => (h2.2.2.2.1 j y1 y2 y3 y4 y5 y6).trans (h.2.2.2.1 j y1 y2 y3 y4 y5 y6), fun a ha => (h2.2.2.2.2 a ha).trans (h.2.2.2.2 a ha)⟩
theorem BrX.b (h : BrX S br k rv ra mv) : kd S br = 2 := h.1
theorem BrX.e (h : BrX S br k rv ra mv) (hk : kd S k = 7) : br ≠ k ∧ ra 6 ≠ k ∧ ra 7 ≠ k ∧ ra 9 ≠ k ∧ ra 10 ≠ k ∧ ra 11 ≠ k ∧ (∀ i, i < 4 → mv i ≠ k) ∧ ra 9 ≠ br ∧ ra 10 ≠ br ∧ ra 11 ≠ br ∧ (∀ i, i < 4 → mv i ≠ br) ∧ ra 6 ≠ br ∧ ra 7 ≠ br := by
  obtain ⟨h1, h2, ⟨-, h6, -⟩, ⟨-, h7, -⟩, ⟨-, h8, -⟩, ⟨-, h9, -⟩, ⟨-, h10, -⟩, ⟨-, h11, -⟩, hm, -⟩ := h
  exact ⟨kd_ne h1 hk (by decide), kd_ne h6 hk (by decide), kd_ne h7 hk (by decide), kd_ne h9 hk (by decide), kd_ne h10 hk (by decide), kd_ne h11 hk (by decide), fun i hi => kd_ne (hm i hi).2.1 hk (by decide), kd_ne h9 h1 (by decide), kd_ne h10 h1 (by decide), kd_ne h11 h1 (by decide), fun i hi => kd_ne (hm i hi).2.1 h1 (by decide), kd_ne h6 h1 (by decide), kd_ne h7 h1 (by decide)⟩
theorem FMd.nx (hB : BrX S br k rv ra mv) (hk : kd S k = 7) (h : NxF k G F) (hj : NxJ k GJ J) : FMd k br ra mv M G F GJ J := by
  obtain ⟨e1, e2, e3, e4, -⟩ := hB.e hk
  exact ⟨fun a y1 _ _ _ => h.1 a y1, fun j _ => by rw [h.1 br e1], fun j _ => by rw [h.1 _ e4], fun j y1 y2 y3 y4 _ _ => h.2 j y1 y2 y3 y4, hj.1⟩
theorem FMd.fl {f s : Nat} (hB : BrX S br k rv ra mv) (hk : kd S k = 7) (h : FlC k f s G F) : FMd k br ra mv M G F GJ GJ := by
  obtain ⟨e1, e2, e3, e4, -⟩ := hB.e hk
  exact ⟨fun a y1 _ _ _ => h.1 a y1, fun j _ => by rw [h.1 br e1], fun j _ => by rw [h.1 _ e4], fun j _ _ _ _ y5 y6 => h.2.1 j y5 y6, fun _ _ => rfl⟩
theorem FMd.u5 {v : Int32} (hB : BrX S br k rv ra mv) (hk : kd S k = 7) : FMd k br ra mv M G (upI G br 5 v) GJ GJ := by
  obtain ⟨e1, e2, e3, e4, e5, e6, e7, e8, -⟩ := hB.e hk
  exact ⟨fun a _ y2 _ _ => up_ne y2, fun j hj => up_no hj, fun j _ => by rw [up_ne e8], fun j _ _ _ _ _ _ => by rw [up_ne (Ne.symm e1)], fun _ _ => rfl⟩
theorem FMd.um {v : Int32} {j : Nat} (hB : BrX S br k rv ra mv) (hk : kd S k = 7) (hM : M < 4) : FMd k br ra mv M G (upI G (mv M) j v) GJ GJ := by
  obtain ⟨e1, e2, e3, e4, e5, e6, e7, e8, e9, e10, e11, -⟩ := hB.e hk
  have m9 := (hB.2.2.2.2.2.2.2.2.2.2.1 M hM).1
  exact ⟨fun a _ _ _ y4 => up_ne y4, fun j _ => by rw [up_ne (Ne.symm (e11 M hM))], fun j _ => by rw [up_ne (Ne.symm m9)], fun j _ _ _ _ _ _ => by rw [up_ne (Ne.symm (e7 M hM))], fun _ _ => rfl⟩
theorem FMd.u9 {v : Int32} (hB : BrX S br k rv ra mv) (hk : kd S k = 7) : FMd k br ra mv M G (upI G (ra 9) M v) GJ GJ := by
  obtain ⟨e1, e2, e3, e4, e5, e6, e7, e8, -⟩ := hB.e hk
  exact ⟨fun a _ _ y3 _ => up_ne y3, fun j _ => by rw [up_ne (Ne.symm e8)], fun j hj => up_no hj, fun j _ _ _ _ _ _ => by rw [up_ne (Ne.symm e4)], fun _ _ => rfl⟩
/-- the text stays -/
theorem TxC.fm (hX : TxC S G GJ k tt rv tx L) (hB : BrX S br k rv ra mv) (hM : M < 4) (h : FMd k br ra mv M G F GJ J) : TxC S F J k tt rv tx L := by
  have t20 := hX.2.2.1
  have hm := (hB.2.2.2.2.2.2.2.2.1 M hM).2.1
  have h9 := hB.2.2.2.2.2.1.2.1
  exact hX.cg (h.2.2.2.1 3 (by decide) (by decide) (by decide) (by decide) (by decide) (by decide)) (h.1 tt hX.kt.1 (kd_ne t20 hB.1 (by decide)) (kd_ne t20 h9 (by decide)) (kd_ne t20 hm (by decide))) (h.2.2.2.2 _ hX.kt.2)
theorem TkC.cg {F2 : FI} {J2 : Nat → Nat → Int64} (h : TkC F J k tx L p) (hk : F2 k = F k) (hj : J2 k = J k) : TkC F2 J2 k tx L p := by
  obtain ⟨h1, h2, h3, h4, h5⟩ := h
  unfold TkC
  rw [hk, hj]
  exact ⟨h1, h2, h3, h4, h5⟩
theorem sp_takesCall {c : Nat} {v : Int32} {Q : Int32 → FI → (Nat → Nat → Int64) → Prop} (hB : BrX S br k rv ra mv) (hX : TxC S (gI S) (gJ S) k tt rv tx L) (hT : TkC (gI S) (gJ S) k tx L p) (hp : p ≤ L) (hs : gI S br 1 = nI n) (h4 : 4 ≤ n) (hn : n ≤ 8) (hc : c < 100) (hM : M < 4)
    (hy : ∀ q F J, rCL n tx L c p none q → q ≤ L → p ≤ q → FMd k br ra mv M (gI S) F (gJ S) J → F k 9 = gI S k 9 → F k 10 = gI S k 10 → F (ra 9) = gI S (ra 9) → F (mv M) = gI S (mv M) → TkC F J k tx L q → F br 5 = (if tk tx L p = c then nI (pak (mvf (psw n tx L (nx tx L p))) n) else v) → Q 1 F J)
    (hf : ∀ f q F J, rCL n tx L c p (some f) q → FMd k br ra mv M (gI S) F (gJ S) J → F k 9 = nI f → F k 10 = nI (sk tx L q) → Q 0 F J) : P_X1_takesCall br (nI c) v S Q := by
  have hk := hX.1
  obtain ⟨e1, e2, e3, e4, e5, e6, e7, e8, e9, e10, e11, e12, e13⟩ := hB.e hk
  refine ⟨hB.1, k, hB.2.1, hk, sp_isAt hk hT hc (fun e => ⟨fun _ => ?_, fun y => absurd y one0⟩) (fun e => ⟨fun y => absurd rfl y, fun _ F9 e9' => ?_⟩)⟩
  · have nl := nx_le (tx := tx) hp
    refine sp_next hX hT.2.1 nl.2.2.1 (fun F5 J5 nf nj t5 => ?_)
    have fm5 : FMd k br ra mv M (gI S) F5 (gJ S) J5 := FMd.nx hB hk nf nj
    have X5 := hX.fm hB hM fm5
    have nl2 := nx_le (tx := tx) nl.2.2.1
    refine sp_seesPlaces (S := wA S F5 J5 (gR S)) hB.1 hB.2.1 X5 t5 (by show F5 br 1 = _; rw [nf.1 br e1]; exact hs) h4 hn (fun g F6 e6' => ⟨fun _ => ?_, fun y => absurd y one0⟩) (fun f pf F6 w fl => ⟨fun y => absurd rfl y, fun _ => ?_⟩)
    · have e6'' : F6 = upI F5 br 5 (nI (pak (mvf (psw n tx L (nx tx L p))) n)) := e6'
      have fm6 : FMd k br ra mv M (gI S) F6 (gJ S) J5 := fm5.tr (by rw [e6'']; exact FMd.u5 hB hk)
      have X6 := hX.fm hB hM fm6
      have k6 : F6 k = F5 k := by rw [e6'', up_ne (Ne.symm e1)]
      refine sp_next (S := wA S F6 J5 (gR S)) X6 (by show F6 k 5 = _; rw [k6]; exact t5.2.1) nl2.2.2.1 (fun F8 J8 nf8 nj8 t8 => ?_)
      have fm8 : FMd k br ra mv M (gI S) F8 (gJ S) J8 := fm6.tr (FMd.nx hB hk nf8 nj8)
      have nf8' : NxF k F6 F8 := nf8
      refine hy _ F8 J8 (Or.inr ⟨e, Or.inl ⟨g, rfl, rfl⟩⟩) nl2.2.2.1 (by omega) fm8 ?_ ?_ ?_ ?_ t8 ?_
      · rw [nf8'.2 9 (by decide) (by decide) (by decide) (by decide), k6, nf.2 9 (by decide) (by decide) (by decide) (by decide)]
      · rw [nf8'.2 10 (by decide) (by decide) (by decide) (by decide), k6, nf.2 10 (by decide) (by decide) (by decide) (by decide)]
      · rw [nf8'.1 _ e4, e6'', up_ne e8, nf.1 _ e4]
      · rw [nf8'.1 _ (e7 M hM), e6'', up_ne (e11 M hM), nf.1 _ (e7 M hM)]
      · rw [nf8'.1 _ e1, e6'', up_at, if_pos e]
    · have fl' : FlC k f (sk tx L (nx tx L p)) (upI F5 br 5 w) F6 := fl
      refine hf f (nx tx L p) F6 J5 (Or.inr ⟨e, Or.inr ⟨f, pf, rfl, rfl⟩⟩) ((fm5.tr (FMd.u5 hB hk)).tr (FMd.fl hB hk fl')) fl'.2.2.1 fl'.2.2.2
  · refine hy p F9 (gJ S) (Or.inl ⟨e, rfl, rfl⟩) hp (Nat.le_refl _) (by rw [e9']; exact FMd.u5 hB hk) (by rw [e9', up_ne (Ne.symm e1)]) (by rw [e9', up_ne (Ne.symm e1)]) (by rw [e9', up_ne e8]) (by rw [e9', up_ne (e11 M hM)]) (hT.cg (by rw [e9', up_ne (Ne.symm e1)]) rfl) (by rw [e9', up_at, if_neg e])
theorem sp_takesChanges {Q : Int32 → FI → (Nat → Nat → Int64) → Prop} (hB : BrX S br k rv ra mv) (hX : TxC S (gI S) (gJ S) k tt rv tx L) (hT : TkC (gI S) (gJ S) k tx L p) (hp : p ≤ L) (hs : gI S br 1 = nI n) (h2 : gI S br 2 = nI M) (h4 : 4 ≤ n) (hn : n ≤ 8) (hM : M < 4)
    (hy : ∀ c q F J, rCH n tx L p c none q → q ≤ L → p ≤ q → FMd k br ra mv M (gI S) F (gJ S) J → F k 9 = gI S k 9 → F k 10 = gI S k 10 → TkC F J k tx L q → F (ra 9) M = nI c → (∀ j, j < c → F (mv M) j = nI (pak (mvf (psw n tx L (np tx L p j))) n)) → Q 1 F J)
    (hf : ∀ c f q F J, rCH n tx L p c (some f) q → FMd k br ra mv M (gI S) F (gJ S) J → F k 9 = nI f → F k 10 = nI (sk tx L q) → Q 0 F J) : P_X1_takesChanges br S Q := by
  have hk := hX.1
  obtain ⟨e1, e2, e3, e4, e5, e6, e7, e8, e9, e10, e11, e12, e13⟩ := hB.e hk
  have hB' := hB
  obtain ⟨-, r0, -, -, ⟨r8, k8, l8⟩, ⟨r9, k9, l9⟩, -, -, hmv, -, hm9, -⟩ := hB'
  obtain ⟨rM, kM, lM⟩ := hmv M hM
  have m9 := (hm9 M hM).1
  refine ⟨hB.1, ra 8, r8, k8, ?_⟩
  rw [h2, l8]
  refine ⟨vp_in_nI hM (by decide), ra 9, r9, k9, by rw [l9]; exact vp_in_nI hM (by decide), fun F7 e7' => ?_⟩
  rw [nI_clamp (by omega)] at e7'
  refine ⟨fun t x2 F J => ∃ c, c ≤ 32 ∧ t = 33 - c ∧ x2 = nI c ∧ (∀ j, j < c → PLg n tx L (np tx L p j)) ∧ np tx L p c ≤ L ∧ p ≤ np tx L p c ∧ FMd k br ra mv M (gI S) F (gJ S) J ∧ F k 9 = gI S k 9 ∧ F k 10 = gI S k 10 ∧ TkC F J k tx L (np tx L p c) ∧ F (ra 9) M = nI c ∧ ∀ j, j < c → F (mv M) j = nI (pak (mvf (psw n tx L (np tx L p j))) n), ⟨33, 0, by omega, rfl, rfl, fun j hj => by omega, hp, Nat.le_refl _, by rw [e7']; exact FMd.u9 hB hk, by rw [e7', up_ne (Ne.symm e4)], by rw [e7', up_ne (Ne.symm e4)], hT.cg (by rw [e7', up_ne (Ne.symm e4)]) rfl, by rw [e7', up_at]; rfl, fun j hj => by omega⟩, ?_⟩
  rintro t x2 F J ⟨c, hc, rfl, rfl, hg, hq, hpq, fm, f9, f10, tt', l9', hmm⟩
  refine ⟨fun y => absurd y (nI_nlt (a := 32) hc (by decide)), fun _ => ?_⟩
  have X2 := hX.fm hB hM fm
  refine ⟨c = 0 ∨ PLt tx L (np tx L p c), fun hJ => ?_, fun y => ?_, fun y => ⟨k, r0, hk, sp_isAt (S := wA S F J (gR S)) hk tt' (c := 8) (by decide) (fun e => ⟨fun _ => Or.inr (Or.inl e), fun y => absurd y one0⟩) (fun e => ⟨fun y => absurd rfl y, fun _ => sp_isAt (S := wA S F J (gR S)) hk tt' (c := 3) (by decide) (fun e => ⟨fun _ => Or.inr (Or.inr e), fun y => absurd y one0⟩) (fun e' => ⟨fun y => absurd rfl y, fun _ => ?_⟩)⟩)⟩⟩
  · refine sp_seesPlaces (S := wA S F J (gR S)) hB.1 r0 X2 tt' (by show F br 1 = _; rw [fm.2.1 1 (by decide)]; exact hs) h4 hn (fun g F15 e15 => ⟨fun _ => ?_, fun y => absurd y one0⟩) (fun f pf F15 w fl => ⟨fun y => absurd rfl y, fun _ => ?_⟩)
    · have e15' : F15 = upI F br 5 (nI (pak (mvf (psw n tx L (np tx L p c))) n)) := e15
      refine ⟨fun hlt => ?_, fun hge => ?_⟩
      · have hc32 : c < 32 := by
          rcases Nat.lt_or_ge c 32 with z | z
          · exact z
          · exact absurd hlt (nI_nlt (b := 32) z (by omega))
        refine ⟨mv M, by rw [nI_clamp (by omega)]; exact rM, kM, by rw [lM]; exact vp_in_nI hc32 (by decide), fun v21 e21 F22 e22 => ?_⟩
        rw [nI_clamp (by omega)] at e22
        have v21e : v21 = nI (pak (mvf (psw n tx L (np tx L p c))) n) := by rw [e21, e15', up_at]
        have b2 : F22 br 2 = nI M := by rw [e22, up_ne (Ne.symm (e11 M hM)), e15', up_no (by decide), fm.2.1 2 (by decide)]; exact h2
        rw [b2, l9]
        refine ⟨vp_in_nI hM (by decide), fun v24 e24 F25 e25 => ⟨k, r0, hk, ?_⟩⟩
        rw [nI_clamp (by omega)] at e25
        have fm25 : FMd k br ra mv M (gI S) F25 (gJ S) J := by rw [e25, e22, e15']; exact ((fm.tr (FMd.u5 hB hk)).tr (FMd.um hB hk hM)).tr (FMd.u9 hB hk)
        have k25 : F25 k = F k := by rw [e25, up_ne (Ne.symm e4), e22, up_ne (Ne.symm (e7 M hM)), e15', up_ne (Ne.symm e1)]
        have nl := nx_le (tx := tx) hq
        refine sp_next (S := wA S F25 J (gR S)) (hX.fm hB hM fm25) (by show F25 k 5 = _; rw [k25]; exact tt'.2.1) nl.2.2.1 (fun F28 J28 nf nj t28 v29 e29 => ?_)
        have nf' : NxF k F25 F28 := nf
        refine ⟨33 - (c + 1), by omega, c + 1, by omega, rfl, by rw [e29]; exact nI_1 c, fun j hj => ?_, nl.2.2.1, by show p ≤ nx tx L (np tx L p c); omega, fm25.tr (FMd.nx hB hk nf nj), ?_, ?_, t28, ?_, fun j hj => ?_⟩
        · by_cases cj : j = c
          · subst cj; exact g
          · exact hg j (by omega)
        · rw [nf'.2 9 (by decide) (by decide) (by decide) (by decide), k25]; exact f9
        · rw [nf'.2 10 (by decide) (by decide) (by decide) (by decide), k25]; exact f10
        · rw [nf'.1 _ e4, e25, up_at, e24]; exact nI_1 c
        · rw [nf'.1 _ (e7 M hM), e25, up_ne m9, e22]
          by_cases cj : j = c
          · rw [cj, up_at]; exact v21e
          · rw [up_no cj, e15', up_ne (e11 M hM)]; exact hmm j (by omega)
      · have hc32 : c = 32 := by
          rcases Nat.lt_or_ge c 32 with z | z
          · exact absurd (nI_lt (b := 32) z (by decide)) hge
          · omega
        subst hc32
        refine ⟨k, r0, hk, sp_wrong (S := wA S F15 J (gR S)) (f := 6) (s := sk tx L (np tx L p 32)) hk (by show F15 k 4 = _; rw [e15', up_ne (Ne.symm e1)]; exact tt'.1) (fun F32 fl => ⟨Or.inl rfl, hf 32 6 (np tx L p 32) F32 J ⟨Nat.le_refl _, hg, rfl, Or.inr (Or.inr ⟨rfl, rfl, g⟩)⟩ ((show FMd k br ra mv M (gI S) F15 (gJ S) J by rw [e15']; exact fm.tr (FMd.u5 hB hk)).tr (FMd.fl hB hk fl)) fl.2.2.1 fl.2.2.2⟩)⟩
    · have fl' : FlC k f (sk tx L (np tx L p c)) (upI F br 5 w) F15 := fl
      exact hf c f _ F15 J ⟨hc, hg, rfl, Or.inr (Or.inl ⟨f, rfl, hJ, pf⟩)⟩ ((fm.tr (FMd.u5 hB hk)).tr (FMd.fl hB hk fl')) fl'.2.2.1 fl'.2.2.2
  · left
    have : c ≤ 0 := (nI_leI (b := 0) (by omega) (by decide)).mp y
    omega
  · have c1 : 1 ≤ c := by
      rcases Nat.eq_zero_or_pos c with z | z
      · subst z; exact absurd (by decide) y
      · exact z
    exact hy c _ F J ⟨hc, hg, rfl, Or.inl ⟨rfl, c1, fun z => z.elim e e'⟩⟩ hq hpq fm f9 f10 tt' l9' hmm
theorem sp_takesBack {c : Nat} {Q : Int32 → FI → (Nat → Nat → Int64) → Prop} (hB : BrX S br k rv ra mv) (hX : TxC S (gI S) (gJ S) k tt rv tx L) (hT : TkC (gI S) (gJ S) k tx L p) (hp : p ≤ L) (hs : gI S br 1 = nI n) (h2 : gI S br 2 = nI M) (h4 : 4 ≤ n) (hn : n ≤ 8) (hM : M < 4) (h9 : gI S (ra 9) M = nI c) (hc1 : 1 ≤ c) (hc : c ≤ 32)
    (hy : ∀ q F J, rBK n tx L c p none q → q ≤ L → p ≤ q → FMd k br ra mv M (gI S) F (gJ S) J → F k 9 = gI S k 9 → F k 10 = gI S k 10 → TkC F J k tx L q → F (ra 9) M = nI (mln tx L c p) → (∀ j, j < c → F (mv M) j = gI S (mv M) j) → (tk tx L p = 9 → (∀ j, c ≤ j → j < 2 * c - 1 → F (mv M) j = gI S (mv M) (2 * c - 2 - j)) ∧ F (mv M) (2 * c - 1) = nI (pak (mvf (psw n tx L (nx tx L p))) n)) → Q 1 F J)
    (hf : ∀ f q F J, rBK n tx L c p (some f) q → FMd k br ra mv M (gI S) F (gJ S) J → F k 9 = nI f → F k 10 = nI (sk tx L q) → Q 0 F J) : P_X1_takesBack br S Q := by
  have hk := hX.1
  obtain ⟨e1, e2, e3, e4, e5, e6, e7, e8, e9, e10, e11, e12, e13⟩ := hB.e hk
  have hB' := hB
  obtain ⟨-, r0, -, -, ⟨r8, k8, l8⟩, ⟨r9, k9, l9⟩, -, -, hmv, -, hm9, -⟩ := hB'
  obtain ⟨rM, kM, lM⟩ := hmv M hM
  have m9 := (hm9 M hM).1
  refine ⟨hB.1, k, r0, hk, sp_isAt hk hT (c := 9) (by decide) (fun e => ⟨fun _ => ⟨ra 9, r9, k9, ?_⟩, fun y => absurd y one0⟩) (fun e => ⟨fun y => absurd rfl y, fun _ => ?_⟩)⟩
  · rw [h2, l9, nI_clamp (by omega), h9]
    refine ⟨vp_in_nI hM (by decide), fun v8 e8' => ?_⟩
    subst e8'
    have e2c : (2 : Int32) * nI c = nI (2 * c) := mulN 2 c
    rw [e2c]
    refine ⟨32 < 2 * c, fun hbig => sp_wrong (f := 6) hk hT.1 (fun F11 fl => ⟨Or.inl rfl, hf 6 p F11 (gJ S) (Or.inr (Or.inl ⟨e, hbig, rfl, rfl⟩)) (FMd.fl hB hk fl) fl.2.2.1 fl.2.2.2⟩), fun y => absurd y (nI_nlt (b := 1) hc1 (by omega)), fun _ => ⟨fun hle => ?_, fun hgt => ?_⟩⟩
    · have c2 : 2 * c ≤ 32 := (nI_leI (b := 32) (by omega) (by decide)).mp hle
      have nl := nx_le (tx := tx) hp
      have nl2 := nx_le (tx := tx) nl.2.2.1
      refine sp_next hX hT.2.1 nl.2.2.1 (fun F13 J13 nf nj t13 => ?_)
      have fm13 : FMd k br ra mv M (gI S) F13 (gJ S) J13 := FMd.nx hB hk nf nj
      refine sp_seesPlaces (S := wA S F13 J13 (gR S)) hB.1 r0 (hX.fm hB hM fm13) t13 (by show F13 br 1 = _; rw [nf.1 br e1]; exact hs) h4 hn (fun g F14 e14 => ⟨fun _ => ?_, fun y => absurd y one0⟩) (fun f pf F14 w fl => ⟨fun y => absurd rfl y, fun _ => ?_⟩)
      · have e14' : F14 = upI F13 br 5 (nI (pak (mvf (psw n tx L (nx tx L p))) n)) := e14
        have fm14 : FMd k br ra mv M (gI S) F14 (gJ S) J13 := by rw [e14']; exact fm13.tr (FMd.u5 hB hk)
        have b2 : F14 br 2 = nI M := by rw [fm14.2.1 2 (by decide)]; exact h2
        have k14 : F14 k = F13 k := by rw [e14', up_ne (Ne.symm e1)]
        have v14 : F14 br 5 = nI (pak (mvf (psw n tx L (nx tx L p))) n) := by rw [e14', up_at]
        have mM : F14 (mv M) = gI S (mv M) := by rw [e14', up_ne (e11 M hM), nf.1 _ (e7 M hM)]
        rw [b2, nI_clamp (by omega)]
        refine ⟨ra 8, r8, k8, by rw [l8]; exact vp_in_nI hM (by decide), fun t x3 F => ∃ i, i ≤ c - 1 ∧ t = c - 1 - i ∧ x3 = nI i ∧ FMd k br ra mv M (gI S) F (gJ S) J13 ∧ F k = F13 k ∧ F br 5 = F14 br 5 ∧ F (ra 9) = F14 (ra 9) ∧ (∀ j, j < c → F (mv M) j = gI S (mv M) j) ∧ ∀ j, c ≤ j → j < c + i → F (mv M) j = gI S (mv M) (2 * c - 2 - j), ⟨c - 1, 0, by omega, rfl, rfl, fm14, k14, rfl, rfl, fun j hj => by rw [mM], fun j y1 y2 => by omega⟩, ?_⟩
        rintro t x3 F ⟨i, hi, rfl, rfl, fm, kk, b5, r9e, lo, hi2⟩
        rw [sub1 (by omega)]
        refine ⟨fun hc' => ?_, fun hc' => ⟨mv M, rM, kM, ?_⟩⟩
        · have ie : i = c - 1 := by
            have : c - 1 ≤ i := (nI_leI (by omega) (by omega)).mp hc'
            omega
          subst ie
          refine ⟨mv M, rM, kM, ?_⟩
          rw [sub1 (by omega), lM]
          refine ⟨vp_in_nI (by omega) (by decide), fun v26 e26 F27 e27 => ?_⟩
          rw [nI_clamp (by omega)] at e27
          have fm27 : FMd k br ra mv M (gI S) F27 (gJ S) J13 := by rw [e27]; exact fm.tr (FMd.um hB hk hM)
          have b27 : F27 br 2 = nI M := by rw [fm27.2.1 2 (by decide)]; exact h2
          rw [b27]
          refine ⟨vp_in_nI hM (by decide), fun v29 e29 F30 e30 => ?_⟩
          rw [nI_clamp (by omega)] at e30
          have fm30 : FMd k br ra mv M (gI S) F30 (gJ S) J13 := by rw [e30]; exact fm27.tr (FMd.u9 hB hk)
          have k30 : F30 k = F13 k := by rw [e30, up_ne (Ne.symm e4), e27, up_ne (Ne.symm (e7 M hM))]; exact kk
          refine sp_next (S := wA S F30 J13 (gR S)) (hX.fm hB hM fm30) (by show F30 k 5 = _; rw [k30]; exact t13.2.1) nl2.2.2.1 (fun F31 J31 nf31 nj31 t31 => ?_)
          have nf' : NxF k F30 F31 := nf31
          have mm : ∀ j, F31 (mv M) j = F27 (mv M) j := fun j => by rw [nf'.1 _ (e7 M hM), e30, up_ne m9]
          refine hy _ F31 J31 (Or.inr (Or.inr ⟨e, c2, Or.inl ⟨g, rfl, rfl⟩⟩)) nl2.2.2.1 (by omega) (fm30.tr (FMd.nx hB hk nf31 nj31)) ?_ ?_ t31 ?_ (fun j hj => ?_) (fun _ => ⟨fun j y1 y2 => ?_, ?_⟩)
          · rw [nf'.2 9 (by decide) (by decide) (by decide) (by decide), k30, nf.2 9 (by decide) (by decide) (by decide) (by decide)]
          · rw [nf'.2 10 (by decide) (by decide) (by decide) (by decide), k30, nf.2 10 (by decide) (by decide) (by decide) (by decide)]
          · rw [nf'.1 _ e4, e30, up_at, e29]; unfold mln; rw [if_pos e]
          · rw [mm, e27, up_no (by omega)]; exact lo j hj
          · rw [mm, e27, up_no (by omega)]; exact hi2 j y1 (by omega)
          · rw [mm, e27, up_at, e26, b5, v14]
        · have hlt : i < c - 1 := nI_gtI (by omega) (by omega) hc'
          have i1 : nI c - 2 - nI i = nI (c - 2 - i) := by rw [show (2 : Int32) = nI 2 from rfl, dif_nI (by omega), dif_nI (by omega)]
          rw [i1, nI_add, lM]
          refine ⟨vp_in_nI (by omega) (by decide), vp_in_nI (by omega) (by decide), fun v36 e36 F37 e37 v38 e38 => ⟨c - 1 - (i + 1), by omega, i + 1, by omega, rfl, by rw [e38]; exact nI_1 i, by rw [e37]; exact fm.tr (FMd.um hB hk hM), by rw [e37, up_ne (Ne.symm (e7 M hM))]; exact kk, by rw [e37, up_ne (Ne.symm (e11 M hM))]; exact b5, by rw [e37, up_ne (Ne.symm m9)]; exact r9e, fun j hj => ?_, fun j y1 y2 => ?_⟩⟩
          · rw [e37, nI_clamp (by omega), up_no (by omega)]; exact lo j hj
          · rw [e37, nI_clamp (by omega)]
            by_cases cj : j = c + i
            · rw [cj, up_at, e36, nI_clamp (by omega), lo _ (by omega), show 2 * c - 2 - (c + i) = c - 2 - i by omega]
            · rw [up_no cj]; exact hi2 j y1 (by omega)
      · have fl' : FlC k f (sk tx L (nx tx L p)) (upI F13 br 5 w) F14 := fl
        exact hf f _ F14 J13 (Or.inr (Or.inr ⟨e, c2, Or.inr ⟨f, pf, rfl, rfl⟩⟩)) ((fm13.tr (FMd.u5 hB hk)).tr (FMd.fl hB hk fl')) fl'.2.2.1 fl'.2.2.2
    · rcases Nat.lt_or_ge 32 (2 * c) with z | z
      · exact z
      · exact absurd (nI_le (b := 32) z (by decide)) hgt
  · exact hy p (gI S) (gJ S) (Or.inl ⟨e, rfl, rfl⟩) hp (Nat.le_refl _) FMd.rf rfl rfl hT (by rw [h9]; unfold mln; rw [if_neg e]) (fun _ _ => rfl) (fun y => absurd y e)
/-- a name that is new -/
theorem sp_newName {B : Bk} {R : Nat} {rn : Nat → List Nat} {Q : Int32 → FI → (Nat → Nat → Int64) → Prop} (hB : BrX S br k rv ra mv) (hX : TxC S (gI S) (gJ S) k tt rv tx L) (hT : TkC (gI S) (gJ S) k tx L p) (hp : p ≤ L) (h2 : gI S br 2 = nI (bM B)) (h3 : gI S br 3 = nI R) (hMR : bM B + R ≤ 11) {nms : Nat → List Nat} (hN : ∀ i, i < bM B + R → gJ S (ra 6) i = n27 (nms i) ∧ wok (nms i) ∧ (nms i).length ≤ 8) (hU : ∀ w, (∃ i, i < bM B + R ∧ nms i = w) ↔ usedN B R rn w)
    (hy : tk tx L p = 4 → ¬ usedN B R rn (wd tx L p) → ∀ F J, NxF k (gI S) F → (∀ a, a ≠ k → a ≠ ra 6 → J a = gJ S a) → (∀ i, J (ra 6) i = if i = bM B + R then n27 (wd tx L p) else gJ S (ra 6) i) → TkC F J k tx L (nx tx L p) → Q 1 F J)
    (hf : ∀ f q F, rNN tx L (usedN B R rn) p (some f) q → FlC k f (sk tx L q) (gI S) F → Q 0 F (gJ S)) : P_X1_takesNewName br S Q := by
  have hk := hX.1
  obtain ⟨e1, e2, e3, e4, e5, e6, e7, e8, e9, e10, e11, e12, e13⟩ := hB.e hk
  have hB' := hB
  obtain ⟨-, r0, ⟨r6, k6, l6⟩, -, -, -, -, -, -, -, -, -, -, -, -, rv6, -⟩ := hB'
  refine ⟨hB.1, k, r0, hk, sp_isAt hk hT (c := 4) (by decide) (fun e => ⟨fun _ v5 e5' => ?_, fun y => absurd y one0⟩) (fun e => ⟨fun y => absurd rfl y, fun _ => sp_misplaced hk hT (fun F fl => ⟨Or.inl rfl, hf _ p F (Or.inr (Or.inr ⟨e, rfl, rfl⟩)) fl⟩)⟩)⟩
  have v5e : v5 = nI (bM B + R) := by rw [e5', h2, h3, nI_add]
  subst v5e
  have h4' : 4 ≤ tk tx L p := by omega
  obtain ⟨w1, w2, w3, w4, w5⟩ := tk_word h4'
  obtain ⟨wo, wl⟩ := wd_ok h4'
  have w8 : (wd tx L p).length ≤ 8 := by
    rw [wl]
    by_cases c : nx tx L p - sk tx L p ≤ 8
    · exact c
    · rw [if_neg c] at w5; omega
  refine ⟨fun t x2 => ∃ i, i ≤ bM B + R ∧ t = bM B + R - i ∧ x2 = nI i ∧ ∀ j, j < i → nms j ≠ wd tx L p, ⟨bM B + R, 0, by omega, rfl, rfl, fun j hj => by omega⟩, ?_⟩
  rintro t x2 ⟨i, hi, rfl, rfl, hno⟩
  refine ⟨i = bM B + R, fun ie => ?_, fun hc => ?_, fun hc => ⟨ra 6, r6, k6, ?_⟩⟩
  · subst ie
    have nu : ¬ usedN B R rn (wd tx L p) := fun u => by
      obtain ⟨i, i1, i2⟩ := (hU _).mpr u
      exact hno i i1 i2
    refine ⟨ra 6, r6, k6, fun J => (∀ a, a ≠ ra 6 → J a = gJ S a) ∧ ∀ i, J (ra 6) i = if i = bM B + R then n27 (wd tx L p) else gJ S (ra 6) i, fun J14 ⟨h1, h2'⟩ => ?_, fun y => ?_, fun _ => ⟨by rw [l6]; exact vp_in_nI (by omega) (by decide), fun v17 e17 J18 e18 => ⟨fun a ha => by rw [e18, upJ_ne ha], fun i => ?_⟩⟩⟩
    · have nl := nx_le (tx := tx) hp
      refine sp_next (S := wA S (gI S) J14 (gR S)) (hX.cg rfl rfl (h1 rv rv6)) hT.2.1 nl.2.2.1 (fun F J nf nj t => ?_)
      have nj' : NxJ k J14 J := nj
      refine hy e nu F J nf (fun a y1 y2 => (nj'.1 a y1).trans (h1 a y2)) (fun i => by rw [nj'.1 _ e2]; exact h2' i) t
    · rw [l6] at y
      exact absurd y (nI_ge (b := 12) (by omega) (by decide))
    · rw [nI_clamp (by omega)] at e18
      by_cases ci : i = bM B + R
      · rw [e18, ci, upJ_at, if_pos rfl, e17]; exact hT.2.2.2.2 e
      · rw [e18, upJ_no ci, if_neg ci]
  · have := (nI_leI (by omega) (by omega)).mp hc
    omega
  · have hlt := nI_gtI (by omega) (by omega) hc
    rw [l6]
    refine ⟨fun y => absurd y (nI_ge (b := 12) (by omega) (by decide)), fun _ => ⟨vp_in_nI (by omega) (by decide), ?_⟩⟩
    obtain ⟨n1, n2, n3⟩ := hN i hlt
    rw [nI_clamp (by omega), lg_cmp_eq, n1, hT.2.2.2.2 e, n27_inj n2 wo n3 w8]
    refine ⟨fun hne v ev => ⟨bM B + R - (i + 1), by omega, i + 1, by omega, rfl, by rw [ev]; exact nI_1 i, fun j hj => ?_⟩, fun he => sp_wrong (f := 3) hk hT.1 (fun F fl => ⟨Or.inl rfl, hf 3 p F (Or.inr (Or.inl ⟨e, (hU _).mp ⟨i, hlt, he⟩, rfl, rfl⟩)) fl⟩)⟩
    by_cases cj : j = i
    · subst cj; exact hne
    · exact hno j (by omega)
end FM
