/-! A READING, word by word: strength and place where it was met last -/
def lasN (sp ru m : Nat) : Nat := if ru = 1 then sp * m else if ru = 2 then sp * 2 ^ (m - 1) else sp
def up1 (S : Nat) (σ : Nat → Nat × Nat) (w : Nat) : Nat := if S.testBit w then (σ w).1 + 1 else (σ w).1
def up2 (p S : Nat) (σ : Nat → Nat × Nat) (w : Nat) : Nat := if S.testBit w then p else (σ w).2
def isL (L : Nat → Nat) (p S : Nat) (σ : Nat → Nat × Nat) (w : Nat) : Bool := decide (0 < up1 S σ w ∧ L (up1 S σ w) ≤ p - up2 p S σ w)
def stp (L : Nat → Nat) (p S : Nat) (σ : Nat → Nat × Nat) : Nat → Nat × Nat := fun w => (if isL L p S σ w then 0 else up1 S σ w, up2 p S σ w)
def frN (S : Nat) (σ : Nat → Nat × Nat) : Nat := mkb (fun w => S.testBit w && decide ((σ w).1 = 0)) 20
def agN (S : Nat) (σ : Nat → Nat × Nat) : Nat := mkb (fun w => S.testBit w && decide (0 < (σ w).1)) 20
def loN (L : Nat → Nat) (p S : Nat) (σ : Nat → Nat × Nat) : Nat := mkb (isL L p S σ) 20
def liN (σ : Nat → Nat × Nat) : Nat := mkb (fun w => decide (0 < (σ w).1)) 20
def plN (k : Nat) (σ : Nat → Nat × Nat) : Nat := mkb (fun w => (σ w).1.testBit k) 20
def duN (L : Nat → Nat) (σ : Nat → Nat × Nat) (q : Nat) : Nat := mkb (fun w => decide (0 < (σ w).1 ∧ (σ w).2 + L (σ w).1 = q)) 20
def wfR (L : Nat → Nat) (p : Nat) (σ : Nat → Nat × Nat) : Prop := ∀ w, w < 20 → (σ w).1 ≤ p ∧ (0 < (σ w).1 → (σ w).2 < p ∧ p ≤ (σ w).2 + L (σ w).1)
def wfL (L : Nat → Nat) : Prop := (∀ m, 1 ≤ m → m ≤ 9 → 1 ≤ L m ∧ L m < 2 ^ 20) ∧ ∀ m k, 1 ≤ m → m ≤ k → k ≤ 9 → L m ≤ L k
theorem lasN_wf {sp ru : Nat} (h : 1 ≤ sp ∧ sp ≤ 4) : wfL (lasN sp ru) := by
  have hp : ∀ a b, a ≤ b → 2 ^ a ≤ 2 ^ b := fun a b h => Nat.pow_le_pow_right (by decide) h
  refine ⟨fun m h1 h9 => ?_, fun m k h1 hk h9 => ?_⟩
  · unfold lasN
    have hb : sp * m ≤ 4 * 9 := Nat.mul_le_mul h.2 h9
    have hb1 : 1 * 1 ≤ sp * m := Nat.mul_le_mul h.1 h1
    have h2 := hp (m - 1) 8 (by omega)
    have h3 := Nat.two_pow_pos (m - 1)
    have hb2 : sp * 2 ^ (m - 1) ≤ 4 * 2 ^ 8 := Nat.mul_le_mul h.2 h2
    have hb3 : 1 * 1 ≤ sp * 2 ^ (m - 1) := Nat.mul_le_mul h.1 h3
    split
    · omega
    · split <;> omega
  · unfold lasN
    have hb : sp * m ≤ sp * k := Nat.mul_le_mul (Nat.le_refl _) hk
    have hb2 : sp * 2 ^ (m - 1) ≤ sp * 2 ^ (k - 1) := Nat.mul_le_mul (Nat.le_refl _) (hp _ _ (by omega))
    split
    · exact hb
    · split
      · exact hb2
      · exact Nat.le_refl _
theorem wfR_0 (L : Nat → Nat) : wfR L 0 (fun _ => (0, 0)) := fun w _ => ⟨Nat.le_refl _, fun h => absurd h (Nat.lt_irrefl 0)⟩
theorem wfR_s {L : Nat → Nat} {p S : Nat} {σ : Nat → Nat × Nat} (h : wfR L p σ) : wfR L (p + 1) (stp L p S σ) := by
  intro w hw
  obtain ⟨h1, h2⟩ := h w hw
  have e1 : up1 S σ w ≤ p + 1 := by unfold up1; split <;> omega
  show (if isL L p S σ w then 0 else up1 S σ w) ≤ p + 1 ∧ (0 < (if isL L p S σ w then 0 else up1 S σ w) → up2 p S σ w < p + 1 ∧ p + 1 ≤ up2 p S σ w + L (if isL L p S σ w then 0 else up1 S σ w))
  by_cases hl : isL L p S σ w = true
  · rw [if_pos hl]
    exact ⟨Nat.zero_le _, fun h => absurd h (Nat.lt_irrefl 0)⟩
  · rw [if_neg hl]
    refine ⟨e1, fun h0 => ?_⟩
    unfold isL at hl
    rw [decide_eq_true_iff] at hl
    have hu : up2 p S σ w ≤ p := by
      unfold up2
      unfold up1 at h0
      split
      · exact Nat.le_refl _
      · next hs =>
        rw [if_neg hs] at h0
        have := (h2 h0).1
        omega
    have : ¬ L (up1 S σ w) ≤ p - up2 p S σ w := fun q => hl ⟨h0, q⟩
    omega
/-- a set whose words are told -/
def isM (x : Nat) (f : Nat → Bool) : Prop := x < 2 ^ 20 ∧ ∀ w, w < 20 → x.testBit w = f w
theorem isM.to {x : Nat} {f g : Nat → Bool} (h : isM x f) (e : ∀ w, w < 20 → f w = g w) : x = mkb g 20 := mkb_eq h.1 (fun j hj => (h.2 j hj).trans (e j hj))
theorem isM_mk (f : Nat → Bool) : isM (mkb f 20) f := ⟨mkb_lt f 20, fun w hw => by rw [mkb_bit]; simp [hw]⟩
theorem isM_S {S : Nat} (h : S < 2 ^ 20) : isM S (fun w => S.testBit w) := ⟨h, fun _ _ => rfl⟩
theorem isM_and {x y : Nat} {f g : Nat → Bool} (hx : isM x f) (hy : isM y g) : isM (x &&& y) (fun w => f w && g w) := ⟨Nat.lt_of_le_of_lt Nat.and_le_left hx.1, fun w hw => by rw [Nat.testBit_and, hx.2 w hw, hy.2 w hw]⟩
theorem isM_or {x y : Nat} {f g : Nat → Bool} (hx : isM x f) (hy : isM y g) : isM (x ||| y) (fun w => f w || g w) := ⟨or_lt hx.1 hy.1, fun w hw => by rw [Nat.testBit_or, hx.2 w hw, hy.2 w hw]⟩
theorem isM_xor {x y : Nat} {f g : Nat → Bool} (hx : isM x f) (hy : isM y g) : isM (x ^^^ y) (fun w => f w ^^ g w) := ⟨Nat.xor_lt_two_pow hx.1 hy.1, fun w hw => by rw [Nat.testBit_xor, hx.2 w hw, hy.2 w hw]⟩
theorem isM_aN {x y : Nat} {f g : Nat → Bool} (hx : isM x f) (hy : isM y g) : isM (aN x y) (fun w => f w && !g w) := ⟨Nat.xor_lt_two_pow hx.1 (Nat.lt_of_le_of_lt Nat.and_le_left hx.1), fun w hw => by rw [aN_bit, hx.2 w hw, hy.2 w hw]⟩
def selN (b : Bool) (S x : Nat) : Nat := if b then S &&& x else aN S x
theorem isM_sel {x y : Nat} {f g : Nat → Bool} (b : Bool) (hx : isM x f) (hy : isM y g) : isM (selN b x y) (fun w => f w && (g w == b)) := by
  cases b
  · have := isM_aN hx hy
    exact ⟨this.1, fun w hw => by rw [show selN false x y = aN x y from rfl, this.2 w hw]; dsimp only; cases g w <;> rfl⟩
  · have := isM_and hx hy
    exact ⟨this.1, fun w hw => by rw [show selN true x y = x &&& y from rfl, this.2 w hw]; dsimp only; cases g w <;> rfl⟩
/-- the class holds what was read ahead of a place -/
def rdB (R : zOb) (n : Nat) (L : Nat → Nat) : Prop := R.1 0 5 = nI n ∧ ∀ m, 1 ≤ m → m ≤ 9 → R.1 1 m = nI (L m)
def rdAt (R : zOb) (n : Nat) (L : Nat → Nat) (p : Nat) (σ : Nat → Nat × Nat) : Prop := R.1 2 p = nI (plN 0 σ) ∧ R.1 3 p = nI (plN 1 σ) ∧ R.1 4 p = nI (plN 2 σ) ∧ ∀ q, p ≤ q → q < n → R.1 (10 + p) q = nI (duN L σ q)
theorem b3 : ∀ s, s < 8 → (s.testBit 0 || s.testBit 1 || s.testBit 2) = decide (0 < s) := by decide
theorem b3s : ∀ s, s < 7 → ((s + 1).testBit 0 = !s.testBit 0) ∧ ((s + 1).testBit 1 = (s.testBit 1 ^^ s.testBit 0)) ∧ (s + 1).testBit 2 = (s.testBit 2 ^^ (s.testBit 0 && s.testBit 1)) := by decide
theorem b3e : ∀ s, s < 8 → ∀ m, m < 8 → ((s.testBit 0 == m.testBit 0) && (s.testBit 1 == m.testBit 1) && (s.testBit 2 == m.testBit 2)) = decide (s = m) := by decide
theorem b3m : ∀ m, m < 8 → ((m &&& 1 = 0 ↔ m.testBit 0 = false) ∧ (m &&& 2 = 0 ↔ m.testBit 1 = false) ∧ (m &&& 4 = 0 ↔ m.testBit 2 = false)) := by decide
theorem s_known {R : zOb} {n p : Nat} {L : Nat → Nat} {σ : Nat → Nat × Nat} (hp : p ≤ 7) (hs : ∀ w, w < 20 → (σ w).1 < 8) (h : rdAt R n L p σ) : f_Rd_knownAhead R (nI p) = some (nI (liN σ)) := by
  obtain ⟨h1, h2, h3, -⟩ := h
  have z : zin (nI p) 8 := zin_nI (by omega) (by decide)
  have c : (nI p).toNatClampNeg = p := nI_clamp (by omega)
  simp only [f_Rd_knownAhead, f_Rd_knownAhead_34]
  rw [if_neg (nI_nlt (Nat.zero_le _) (by omega)), if_pos (nI_le hp (by decide))]
  simp only [if_pos z, c, h1, h2, h3, b_or]
  congr 2
  refine (isM_or (isM_or (isM_mk _) (isM_mk _)) (isM_mk _)).to (fun w hw => ?_)
  exact b3 _ (hs w hw)
theorem sel_I (b : Bool) (S x : Nat) (y : Int32) (h : y = if b then nI x else nI x ^^^ (-1)) : nI S &&& y = nI (selN b S x) := by
  rw [h]
  cases b
  · exact b_andN S x
  · exact b_and S x
theorem s_ofStr {S m o t f : Nat} (hm : m < 8) : ∃ y, f_Rd_ofStrength (nI m) (nI o) (nI t) (nI f) = some y ∧ nI S &&& y = nI (selN (m.testBit 2) (selN (m.testBit 1) (selN (m.testBit 0) S o) t) f) := by
  obtain ⟨q1, q2, q3⟩ := b3m m hm
  have e : ∀ k, k < 8 → (nI m &&& nI k = nI 0 ↔ m &&& k = 0) := by
    intro k hk
    rw [b_and]
    have : m &&& k < 8 := Nat.lt_of_le_of_lt Nat.and_le_left hm
    exact nI_eq (by omega) (by decide)
  refine ⟨((if m.testBit 0 then nI o else nI o ^^^ (-1)) &&& (if m.testBit 1 then nI t else nI t ^^^ (-1))) &&& (if m.testBit 2 then nI f else nI f ^^^ (-1)), ?_, ?_⟩
  · simp only [f_Rd_ofStrength, f_Rd_ofStrength_13, f_Rd_ofStrength_26, f_Rd_ofStrength_40]
    have c1 : (nI m &&& nI 1 = nI 0) ↔ m.testBit 0 = false := (e 1 (by decide)).trans q1
    have c2 : (nI m &&& nI 2 = nI 0) ↔ m.testBit 1 = false := (e 2 (by decide)).trans q2
    have c3 : (nI m &&& nI 4 = nI 0) ↔ m.testBit 2 = false := (e 4 (by decide)).trans q3
    cases h1 : m.testBit 0 <;> cases h2 : m.testBit 1 <;> cases h3 : m.testBit 2 <;> simp only [h1, h2, h3, iff_true, iff_false, Bool.true_eq_false] at c1 c2 c3 <;> simp only [c1, c2, c3, if_true, if_false, Bool.false_eq_true]
  · rw [← Int32.and_assoc, ← Int32.and_assoc, sel_I (m.testBit 0) S o _ rfl, sel_I (m.testBit 1) _ t _ rfl, sel_I (m.testBit 2) _ f _ rfl]
/-- the rows of a reading while a place is read -/
def dueN (L : Nat → Nat) (p S : Nat) (σ : Nat → Nat × Nat) (m q : Nat) : Nat := mkb (fun w => (!S.testBit w && decide (0 < (σ w).1 ∧ (σ w).2 + L (σ w).1 = q)) || (S.testBit w && decide ((σ w).1 + 1 < m ∧ p + L ((σ w).1 + 1) = q))) 20
def duR (r : Nat → Int32) (L : Nat → Nat) (p S : Nat) (σ : Nat → Nat × Nat) (m n i : Nat) : Nat → Int32 := fun q => if p ≤ q ∧ q < i ∧ q < n then nI (dueN L p S σ m q) else r q
theorem s_97 {N n p S x y z : Nat} {L : Nat → Nat} {σ : Nat → Nat × Nat} (hN : 200 ≤ N) (hn : n ≤ 7) (hp : p < n) (hS : S < 2 ^ 20) {R : zOb} (hB : R.1 0 5 = nI n) (hd : ∀ q, p ≤ q → q < n → R.1 (10 + p) q = nI (duN L σ q)) : f_Rd_step_97 N N R (nI p) (nI S) (nI x) (nI y) (nI z) (nI p) = f_Rd_step_139 N N (zIr R (11 + p) (duR (R.1 (11 + p)) L p S σ 1 n n)) (nI p) (nI S) (nI x) (nI y) (nI z) (nI 1) := by
  have h := for_up (fun m (T : zOb) t => f_Rd_step_97 N m T (nI p) (nI S) (nI x) (nI y) (nI z) t) p n (fun i => zIr R (11 + p) (duR (R.1 (11 + p)) L p S σ 1 n i)) (f_Rd_step_139 N N (zIr R (11 + p) (duR (R.1 (11 + p)) L p S σ 1 n n)) (nI p) (nI S) (nI x) (nI y) (nI z) (nI 1)) ?_ ?_ (by omega) N (by omega)
  · have e : duR (R.1 (11 + p)) L p S σ 1 n p = R.1 (11 + p) := by
      funext q
      unfold duR
      rw [if_neg (by omega)]
    simp only [e, zIr_id] at h
    exact h
  · intro m
    show f_Rd_step_97 N (m + 1) (zIr R (11 + p) (duR (R.1 (11 + p)) L p S σ 1 n n)) (nI p) (nI S) (nI x) (nI y) (nI z) (nI n) = _
    have e : (zIr R (11 + p) (duR (R.1 (11 + p)) L p S σ 1 n n)).1 0 5 = nI n := by
      rw [zIr_at, if_neg (by omega)]; exact hB
    rw [f_Rd_step_97, e, if_pos (Int32.le_refl _)]
  · intro m i hpi hi
    show f_Rd_step_97 N (m + 1) (zIr R (11 + p) (duR (R.1 (11 + p)) L p S σ 1 n i)) (nI p) (nI S) (nI x) (nI y) (nI z) (nI i) = f_Rd_step_97 N m (zIr R (11 + p) (duR (R.1 (11 + p)) L p S σ 1 n (i + 1))) (nI p) (nI S) (nI x) (nI y) (nI z) (nI (i + 1))
    have e : (zIr R (11 + p) (duR (R.1 (11 + p)) L p S σ 1 n i)).1 0 5 = nI n := by
      rw [zIr_at, if_neg (by omega)]; exact hB
    have e2 : (zIr R (11 + p) (duR (R.1 (11 + p)) L p S σ 1 n i)).1 (10 + p) i = nI (duN L σ i) := by
      rw [zIr_at, if_neg (by omega)]; exact hd i hpi hi
    have z1 : zin (nI (p + 1)) 8 := zin_nI (by omega) (by decide)
    have z2 : zin (nI p) 8 := zin_nI (by omega) (by decide)
    have z3 : zin (nI i) 7 := zin_nI (by omega) (by decide)
    have c1 : (nI (p + 1)).toNatClampNeg = p + 1 := nI_clamp (by omega)
    have c2 : (nI p).toNatClampNeg = p := nI_clamp (by omega)
    have c3 : (nI i).toNatClampNeg = i := nI_clamp (by omega)
    have e11 : 10 + (p + 1) = 11 + p := by omega
    rw [f_Rd_step_97, e, if_neg (nI_ge hi (by omega))]
    simp only [nI_add, if_pos z1, if_pos z2, if_pos z3, c1, c2, c3, bnd, e11, e2, b_andN]
    rw [zI_r, zIr_rr, zIr_s]
    congr 2
    funext q
    rw [upd_app]
    unfold duR
    by_cases hq : q = i
    · rw [if_pos hq, if_pos (by omega)]
      subst hq
      congr 1
      refine (isM_aN (isM_mk _) (isM_S hS)).to (fun w hw => ?_)
      cases S.testBit w <;> simp
    · rw [if_neg hq]
      by_cases hq2 : p ≤ q ∧ q < i ∧ q < n
      · rw [if_pos hq2, if_pos (by omega)]
      · rw [if_neg hq2, if_neg (by omega)]
