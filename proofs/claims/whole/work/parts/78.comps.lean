/-! Compositions: rows of calls by numbers to the base 3. -/
def vl (cf : Nat → Nat) : Nat → Nat
  | 0 => 0
  | j + 1 => 3 * vl cf j + cf j
theorem vl_cong {cf cg : Nat → Nat} : ∀ d, (∀ j, j < d → cf j = cg j) → vl cf d = vl cg d
  | 0, _ => rfl
  | d + 1, h => by
    show 3 * vl cf d + cf d = 3 * vl cg d + cg d
    rw [vl_cong d (fun j hj => h j (by omega)), h d (by omega)]
theorem vl_lt {cf : Nat → Nat} : ∀ d, (∀ j, j < d → cf j < 3) → vl cf d < 3 ^ d
  | 0, _ => Nat.zero_lt_one
  | d + 1, h => by
    have h1 := vl_lt d (fun j hj => h j (by omega))
    have h2 := h d (by omega)
    rw [Nat.pow_succ]
    show 3 * vl cf d + cf d < _
    omega
theorem vl_div {cf : Nat → Nat} (a : Nat) : ∀ k, (∀ j, j < a + k → cf j < 3) → vl cf (a + k) / 3 ^ k = vl cf a
  | 0, _ => by rw [Nat.pow_zero, Nat.div_one]; rfl
  | k + 1, h => by
    have ih := vl_div a k (fun j hj => h j (by omega))
    have h2 := h (a + k) (by omega)
    show (3 * vl cf (a + k) + cf (a + k)) / 3 ^ (k + 1) = _
    rw [Nat.pow_succ, Nat.mul_comm (3 ^ k) 3, ← Nat.div_div_eq_div_mul, show (3 * vl cf (a + k) + cf (a + k)) / 3 = vl cf (a + k) by omega]
    exact ih
def dgt (ld q j : Nat) : Nat := q / 3 ^ (ld - 1 - j) % 3
theorem dgt_lt (ld q j : Nat) : dgt ld q j < 3 := Nat.mod_lt _ (by decide)
theorem dgt_blk {ld q d : Nat} {cf : Nat → Nat} (hd : d < ld) (hcf : ∀ j, j ≤ d → cf j < 3) (hq : q / 3 ^ (ld - 1 - d) = vl cf (d + 1)) : ∀ j, j ≤ d → dgt ld q j = cf j := fun j hj => by
  unfold dgt
  have e : 3 ^ (ld - 1 - j) = 3 ^ (ld - 1 - d) * 3 ^ (d - j) := by rw [← Nat.pow_add]; congr 1; omega
  rw [e, ← Nat.div_div_eq_div_mul, hq]
  have := vl_div (cf := cf) (j + 1) (d - j) (fun i hi => hcf i (by omega))
  rw [show j + 1 + (d - j) = d + 1 by omega] at this
  rw [this]
  show (3 * vl cf j + cf j) % 3 = cf j
  have := hcf j hj
  omega
/-- how many rows of calls lie ahead: t calls tried in place d -/
def frn (ld : Nat) (cf : Nat → Nat) (d t : Nat) : Nat := (3 * vl cf d + t) * 3 ^ (ld - 1 - d)
theorem fr_skip (ld : Nat) (cf : Nat → Nat) (d t : Nat) : frn ld cf d (t + 1) = frn ld cf d t + 3 ^ (ld - 1 - d) := by
  unfold frn
  rw [← Nat.add_assoc, Nat.add_mul, Nat.one_mul]
theorem fr_le {ld d t : Nat} {cf : Nat → Nat} (hd : d < ld) (hcf : ∀ j, j < d → cf j < 3) (ht : t ≤ 3) : frn ld cf d t ≤ 3 ^ ld := by
  have h1 := vl_lt d hcf
  have e : 3 ^ ld = 3 ^ (d + 1) * 3 ^ (ld - 1 - d) := by rw [← Nat.pow_add]; congr 1; omega
  unfold frn
  rw [e]
  refine Nat.mul_le_mul_right _ ?_
  rw [Nat.pow_succ]
  omega
theorem fr_push {ld d t : Nat} {cf cg : Nat → Nat} (hd : d + 1 < ld) (h : ∀ j, j < d → cg j = cf j) (ht : cg d = t) : frn ld cg (d + 1) 0 = frn ld cf d t := by
  unfold frn
  rw [Nat.add_zero, show ld - 1 - d = ld - 1 - (d + 1) + 1 by omega, Nat.pow_succ]
  show 3 * (3 * vl cg d + cg d) * _ = _
  rw [vl_cong d h, ht, Nat.mul_comm (3 ^ (ld - 1 - (d + 1))) 3, ← Nat.mul_assoc, Nat.mul_comm 3 (3 * vl cf d + t)]
theorem fr_pop {ld d : Nat} {cf : Nat → Nat} (hd : d + 1 < ld) : frn ld cf (d + 1) 3 = frn ld cf d (cf d + 1) := by
  unfold frn
  rw [show ld - 1 - d = ld - 1 - (d + 1) + 1 by omega, Nat.pow_succ]
  show (3 * (3 * vl cf d + cf d) + 3) * _ = _
  rw [show 3 * (3 * vl cf d + cf d) + 3 = (3 * vl cf d + (cf d + 1)) * 3 by omega, Nat.mul_comm (3 ^ (ld - 1 - (d + 1))) 3, Nat.mul_assoc]
theorem fr_end {ld : Nat} {cf : Nat → Nat} (hd : 1 ≤ ld) : frn ld cf 0 3 = 3 ^ ld := by
  unfold frn
  show (3 * 0 + 3) * 3 ^ (ld - 1 - 0) = _
  obtain ⟨k, rfl⟩ : ∃ k, ld = k + 1 := ⟨ld - 1, by omega⟩
  rw [Nat.pow_succ, show k + 1 - 1 - 0 = k by omega, Nat.mul_comm]
/-- the rows of calls of a block begin alike -/
theorem fr_blk {ld d t q : Nat} {cf : Nat → Nat} (hd : d < ld) (hcf : ∀ j, j < d → cf j < 3) (ht : t < 3) (h1 : frn ld cf d t ≤ q) (h2 : q < frn ld cf d (t + 1)) : ∀ j, j ≤ d → dgt ld q j = if j = d then t else cf j := by
  refine dgt_blk hd (fun j hj => ?_) ?_
  · by_cases c : j = d
    · rw [if_pos c]; exact ht
    · rw [if_neg c]; exact hcf j (by omega)
  · show q / _ = 3 * vl (fun j => if j = d then t else cf j) d + (if d = d then t else cf d)
    rw [if_pos rfl, vl_cong d (cg := cf) (fun j hj => if_neg (by omega))]
    have hp : 0 < 3 ^ (ld - 1 - d) := Nat.pow_pos (by decide)
    rw [fr_skip] at h2
    unfold frn at h1 h2
    have e : q = 3 ^ (ld - 1 - d) * (3 * vl cf d + t) + (q - (3 * vl cf d + t) * 3 ^ (ld - 1 - d)) := by
      rw [Nat.mul_comm (3 ^ (ld - 1 - d))]
      omega
    rw [e, Nat.mul_add_div hp, Nat.div_eq_of_lt (by omega), Nat.add_zero]
def mu (ld f d t : Nat) : Nat := 40 * (3 ^ ld - f) + (if t = 3 then 20 + d else ld - d)
theorem mu_skip {ld f f' d t t' : Nat} (hl : ld ≤ 8) (hd : d < ld) (h1 : f < f') (h2 : f' ≤ 3 ^ ld) : mu ld f' d t' < mu ld f d t := by
  unfold mu
  split <;> split <;> omega
theorem mu_push {ld f d t : Nat} (hd : d + 1 < ld) (ht : t < 3) : mu ld f (d + 1) 0 < mu ld f d t := by
  unfold mu
  rw [if_neg (by decide), if_neg (by omega)]
  omega
theorem mu_pop {ld f d t : Nat} (hl : ld ≤ 8) (hd : d + 1 < ld) : mu ld f d t < mu ld f (d + 1) 3 := by
  unfold mu
  rw [if_pos rfl]
  split <;> omega
/-! Which rows of calls come round true. -/
def hrw (B : Bk) (i : Nat) (cf : Nat → Nat) : Nat → Nat → Nat
  | 0 => fun p => p
  | j + 1 => fun p => hrw B i cf j (hd B i (cf j) p)
theorem hrw_cong {B : Bk} {i : Nat} {cf cg : Nat → Nat} : ∀ d, (∀ j, j < d → cf j = cg j) → hrw B i cf d = hrw B i cg d
  | 0, _ => rfl
  | d + 1, h => by
    show (fun p => hrw B i cf d (hd B i (cf d) p)) = fun p => hrw B i cg d (hd B i (cg d) p)
    rw [hrw_cong d (fun j hj => h j (by omega)), h d (by omega)]
theorem hrw_pm {B : Bk} {i : Nat} {cf : Nat → Nat} (hb : bok B) (hi : i < bM B) : ∀ d, (∀ j, j < d → cf j < 3) → Pm (bn B) (hrw B i cf d)
  | 0, _ => pm_id _
  | d + 1, h => by
    have h1 := h d (by omega)
    show Pm (bn B) (fun p => hrw B i cf d (hd B i (cf d) p))
    exact comp_pm (hrw_pm hb hi d (fun j hj => h j (by omega))) (hd_pm hb hi (c := cf d) (by omega))
def Fm (B : Bk) (i : Nat) (cf : Nat → Nat) (a u : Nat) : Nat → Nat := fun p => hrw B i cf a (rl B i 0 (fun p => p) u p)
def Rm (B : Bk) (i : Nat) (cf : Nat → Nat) (a k : Nat) : Nat → Nat := fun p => hrw B i cf a (rl B i (cf a) (fun p => p) (k + 1) p)
def FD (B : Bk) (i : Nat) (cf : Nat → Nat) (d : Nat) : Prop := ∀ a u b v, a < d → u < bl B i → b < d → v < bl B i → (a ≠ b ∨ u ≠ v) → ¬ Eqn (bn B) (Fm B i cf a u) (Fm B i cf b v)
def RD (B : Bk) (i : Nat) (cf : Nat → Nat) (d : Nat) : Prop := ∀ a k b l, a < d → k < bl B i → b < d → l < bl B i → (a ≠ b ∨ k ≠ l) → ¬ Eqn (bn B) (Rm B i cf a k) (Rm B i cf b l)
theorem FD.mono {B : Bk} {i d e : Nat} {cf : Nat → Nat} (h : FD B i cf d) (he : e ≤ d) : FD B i cf e := fun a u b v h1 h2 h3 h4 h5 => h a u b v (by omega) h2 (by omega) h4 h5
theorem RD.mono {B : Bk} {i d e : Nat} {cf : Nat → Nat} (h : RD B i cf d) (he : e ≤ d) : RD B i cf e := fun a u b v h1 h2 h3 h4 h5 => h a u b v (by omega) h2 (by omega) h4 h5
theorem FD.cg {B : Bk} {i d : Nat} {cf cg : Nat → Nat} (h : FD B i cf (d + 1)) (hc : ∀ j, j < d → cf j = cg j) : FD B i cg (d + 1) := fun a u b v h1 h2 h3 h4 h5 => by
  have := h a u b v h1 h2 h3 h4 h5
  unfold Fm at this ⊢
  rw [← hrw_cong a (fun j hj => hc j (by omega)), ← hrw_cong b (fun j hj => hc j (by omega))]
  exact this
theorem RD.cg {B : Bk} {i d : Nat} {cf cg : Nat → Nat} (h : RD B i cf d) (hc : ∀ j, j < d → cf j = cg j) : RD B i cg d := fun a u b v h1 h2 h3 h4 h5 => by
  have := h a u b v h1 h2 h3 h4 h5
  unfold Rm at this ⊢
  rw [← hrw_cong a (fun j hj => hc j (by omega)), ← hrw_cong b (fun j hj => hc j (by omega)), ← hc a h1, ← hc b h3]
  exact this
theorem Eqn.sy {n : Nat} {f g : Nat → Nat} (h : Eqn n f g) : Eqn n g f := fun p hp => (h p hp).symm
theorem Eqn.tr {n : Nat} {f g k : Nat → Nat} (h : Eqn n f g) (h2 : Eqn n g k) : Eqn n f k := fun p hp => (h p hp).trans (h2 p hp)
theorem rl_call {B : Bk} {i c : Nat} {f : Nat → Nat} : ∀ k, k < bl B i → rl B i c f k = rl B i 0 f k
  | 0, _ => rfl
  | k + 1, h => by
    show chd (bch B i c k) (rl B i c f k) = chd (bch B i 0 k) (rl B i 0 f k)
    rw [rl_call k (by omega)]
    unfold bch
    rw [if_pos (Or.inl h), if_pos (Or.inl h)]
/-- the place, in the other reckoning, of the row behind change k + 1 of lead a -/
def mpa (L ld a k : Nat) : Nat := if k + 1 < L then a else if a + 1 < ld then a + 1 else 0
def mpu (L k : Nat) : Nat := if k + 1 < L then k + 1 else 0
theorem Rm_Fm {B : Bk} {i ld : Nat} {cf : Nat → Nat} (hid : idn (bn B) (hrw B i cf ld)) {a k : Nat} (ha : a < ld) (hk : k < bl B i) : Eqn (bn B) (Rm B i cf a k) (Fm B i cf (mpa (bl B i) ld a k) (mpu (bl B i) k)) := by
  unfold mpa mpu
  by_cases c : k + 1 < bl B i
  · rw [if_pos c, if_pos c]
    unfold Rm Fm
    rw [rl_call (k + 1) c]
    exact fun p _ => rfl
  · rw [if_neg c, if_neg c]
    have e : k + 1 = bl B i := by omega
    have e2 : Rm B i cf a k = hrw B i cf (a + 1) := by
      unfold Rm
      rw [e]
      rfl
    rw [e2]
    by_cases c2 : a + 1 < ld
    · rw [if_pos c2]
      exact fun p _ => rfl
    · rw [if_neg c2, show a + 1 = ld by omega]
      exact fun p hp => hid p hp
theorem FD_RD {B : Bk} {i ld : Nat} {cf : Nat → Nat} (hid : idn (bn B) (hrw B i cf ld)) (hL : 1 ≤ bl B i) (hl : 1 ≤ ld) : FD B i cf ld ↔ RD B i cf ld := by
  have mlt : ∀ a k, a < ld → mpa (bl B i) ld a k < ld := fun a k ha => by unfold mpa; by_cases c : k + 1 < bl B i <;> by_cases c2 : a + 1 < ld <;> simp only [c, c2, if_true, if_false] <;> omega
  have ult : ∀ k, k < bl B i → mpu (bl B i) k < bl B i := fun k hk => by unfold mpu; split <;> omega
  refine ⟨fun h a k b l h1 h2 h3 h4 h5 he => ?_, fun h a u b v h1 h2 h3 h4 h5 he => ?_⟩
  · refine h _ _ _ _ (mlt a k h1) (ult k h2) (mlt b l h3) (ult l h4) ?_ (((Rm_Fm hid h1 h2).sy.tr he).tr (Rm_Fm hid h3 h4))
    unfold mpa mpu
    by_cases c1 : k + 1 < bl B i <;> by_cases c2 : l + 1 < bl B i <;> by_cases c3 : a + 1 < ld <;> by_cases c4 : b + 1 < ld <;> simp only [c1, c2, c3, c4, if_true, if_false] <;> omega
  · obtain ⟨a', k, ha, hk, ea, eu⟩ : ∃ a' k, a' < ld ∧ k < bl B i ∧ mpa (bl B i) ld a' k = a ∧ mpu (bl B i) k = u := by
      by_cases c : 1 ≤ u
      · refine ⟨a, u - 1, h1, by omega, ?_, ?_⟩
        · unfold mpa; rw [if_pos (by omega)]
        · unfold mpu; rw [if_pos (by omega)]; omega
      · by_cases c2 : 1 ≤ a
        · refine ⟨a - 1, bl B i - 1, by omega, by omega, ?_, ?_⟩
          · unfold mpa; rw [if_neg (by omega), if_pos (by omega)]; omega
          · unfold mpu; rw [if_neg (by omega)]; omega
        · refine ⟨ld - 1, bl B i - 1, by omega, by omega, ?_, ?_⟩
          · unfold mpa; rw [if_neg (by omega), if_neg (by omega)]; omega
          · unfold mpu; rw [if_neg (by omega)]; omega
    obtain ⟨b', l, hb, hl', eb, ev⟩ : ∃ b' l, b' < ld ∧ l < bl B i ∧ mpa (bl B i) ld b' l = b ∧ mpu (bl B i) l = v := by
      by_cases c : 1 ≤ v
      · refine ⟨b, v - 1, h3, by omega, ?_, ?_⟩
        · unfold mpa; rw [if_pos (by omega)]
        · unfold mpu; rw [if_pos (by omega)]; omega
      · by_cases c2 : 1 ≤ b
        · refine ⟨b - 1, bl B i - 1, by omega, by omega, ?_, ?_⟩
          · unfold mpa; rw [if_neg (by omega), if_pos (by omega)]; omega
          · unfold mpu; rw [if_neg (by omega)]; omega
        · refine ⟨ld - 1, bl B i - 1, by omega, by omega, ?_, ?_⟩
          · unfold mpa; rw [if_neg (by omega), if_neg (by omega)]; omega
          · unfold mpu; rw [if_neg (by omega)]; omega
    have e1 := Rm_Fm hid ha hk
    have e2 := Rm_Fm hid hb hl'
    rw [ea, eu] at e1
    rw [eb, ev] at e2
    refine h a' k b' l ha hk hb hl' ?_ ((e1.tr he).tr e2.sy)
    by_cases c : a' = b' ∧ k = l
    · obtain ⟨rfl, rfl⟩ := c
      rw [ea] at eb; rw [eu] at ev
      omega
    · omega
/-- a row of calls that comes round true -/
def Gq (B : Bk) (i ld : Nat) (al : Nat → Bool) (q : Nat) : Prop := (∀ j, j < ld → al (dgt ld q j) = true) ∧ idn (bn B) (hrw B i (dgt ld q) ld) ∧ FD B i (dgt ld q) ld
theorem Gq_ex (B : Bk) (i ld : Nat) (al : Nat → Bool) : ∃ G : Nat → Bool, ∀ q, G q = true ↔ Gq B i ld al q := ⟨fun q => @decide (Gq B i ld al q) (Classical.propDecidable _), fun q => by simp⟩
theorem ct_blk {G : Nat → Bool} {a b : Nat} (h : a ≤ b) (hn : ∀ q, a ≤ q → q < b → ¬ G q = true) : fb_ct G b = fb_ct G a := by
  have := fb_ct_split G a (b - a)
  rw [show a + (b - a) = b by omega] at this
  rw [this, fb_ct_zero.mpr (fun k hk => ts_nt (hn (a + k) (by omega) (by omega))), Nat.add_zero]
/-- what is known of the first, when f rows of calls are behind -/
def Fst (G : Nat → Bool) (ld f : Nat) (fl : Nat) (g : Nat → Nat) : Prop := ((∀ q, q < f → ¬ G q = true) ∧ fl = 0) ∨ ∃ q, q < f ∧ G q = true ∧ (∀ r, r < q → ¬ G r = true) ∧ fl = ld ∧ ∀ j, j < ld → g j = dgt ld q j
theorem Fst.skip {G : Nat → Bool} {ld f f' fl : Nat} {g : Nat → Nat} (h : Fst G ld f fl g) (hf : f ≤ f') (hn : ∀ q, f ≤ q → q < f' → ¬ G q = true) : Fst G ld f' fl g := by
  rcases h with ⟨h1, h2⟩ | ⟨q, h1, h2, h3, h4, h5⟩
  · refine Or.inl ⟨fun q hq => ?_, h2⟩
    rcases Nat.lt_or_ge q f with c | c
    · exact h1 q c
    · exact hn q c hq
  · exact Or.inr ⟨q, by omega, h2, h3, h4, h5⟩
theorem Fst.uniq {G : Nat → Bool} {ld f fl fl2 : Nat} {g g2 : Nat → Nat} (h : Fst G ld f fl g) (h2 : Fst G ld f fl2 g2) : fl = fl2 ∧ ∀ j, j < fl → g j = g2 j := by
  rcases h with ⟨y1, y2⟩ | ⟨q, y1, y2, y3, y4, y5⟩
  · rcases h2 with ⟨-, z2⟩ | ⟨q, z1, z2, -⟩
    · exact ⟨by omega, fun j hj => by omega⟩
    · exact absurd z2 (y1 q z1)
  · rcases h2 with ⟨z1, -⟩ | ⟨r, z1, z2, z3, z4, z5⟩
    · exact absurd y2 (z1 q y1)
    · have e : q = r := fb_first_one (p := fun q => G q = true) y2 y3 z2 z3
      subst e
      exact ⟨by omega, fun j hj => by rw [y5 j (by omega), z5 j (by omega)]⟩
