/-! ahead: what lies behind a book, by others in between -/
def cpass (f : Nat → Nat) : Nat → Nat → Nat → Nat
  | 0, _, T => T
  | k + 1, i, T => cpass f k (i + 1) (if T.testBit i then T ||| f i else T)
def crnd (f : Nat → Nat) (n : Nat) : Nat → Nat → Nat
  | 0, T => T
  | m + 1, T => crnd f n m (cpass f n 0 T)
/-- T is part of C -/
def sub (T C : Nat) : Prop := ∀ j, T.testBit j = true → C.testBit j = true
def clo (f : Nat → Nat) (n C : Nat) : Prop := ∀ i, i < n → C.testBit i = true → sub (f i) C
theorem sub_or {A B C : Nat} (h1 : sub A C) (h2 : sub B C) : sub (A ||| B) C := by
  intro j h
  rw [Nat.testBit_or, Bool.or_eq_true] at h
  exact h.elim (h1 j) (h2 j)
theorem sub_l (A B : Nat) : sub A (A ||| B) := by
  intro j h; rw [Nat.testBit_or, h]; rfl
theorem sub_r (A B : Nat) : sub B (A ||| B) := by
  intro j h; rw [Nat.testBit_or, h, Bool.or_true]
theorem sub.tr {A B C : Nat} (h1 : sub A B) (h2 : sub B C) : sub A C := fun j h => h2 j (h1 j h)
theorem sub_eq {A B : Nat} (h1 : sub A B) (h2 : sub B A) : A = B := by
  apply Nat.eq_of_testBit_eq
  intro j
  cases ha : A.testBit j
  · cases hb : B.testBit j
    · rfl
    · rw [h2 j hb] at ha; cases ha
  · exact (h1 j ha).symm
theorem cpass_up (f : Nat → Nat) : ∀ k i T, sub T (cpass f k i T) := by
  intro k
  induction k with
  | zero => intro i T j h; exact h
  | succ k ih =>
    intro i T
    unfold cpass
    split
    · exact (sub_l T (f i)).tr (ih (i + 1) _)
    · exact ih (i + 1) T
theorem cpass_in (f : Nat → Nat) {C n : Nat} (hC : clo f n C) : ∀ k i T, i + k ≤ n → sub T C → sub (cpass f k i T) C := by
  intro k
  induction k with
  | zero => intro i T _ h; exact h
  | succ k ih =>
    intro i T hk h
    unfold cpass
    split
    · next hb => exact ih (i + 1) _ (by omega) (sub_or h (hC i (by omega) (h i hb)))
    · exact ih (i + 1) T (by omega) h
theorem cpass_clo (f : Nat → Nat) : ∀ k i T, sub (cpass f k i T) T → ∀ j, i ≤ j → j < i + k → T.testBit j = true → sub (f j) T := by
  intro k
  induction k with
  | zero => intro i T _ j h1 h2; omega
  | succ k ih =>
    intro i T h j h1 h2 hb
    unfold cpass at h
    by_cases hi : T.testBit i = true
    · rw [if_pos hi] at h
      have hs : sub (T ||| f i) T := (cpass_up f k (i + 1) _).tr h
      have he : T ||| f i = T := sub_eq hs (sub_l T (f i))
      rw [he] at h
      by_cases hji : j = i
      · subst hji
        exact (sub_r T (f j)).tr hs
      · exact ih (i + 1) T h j (by omega) (by omega) hb
    · rw [if_neg hi] at h
      by_cases hji : j = i
      · subst hji; exact absurd hb hi
      · exact ih (i + 1) T h j (by omega) (by omega) hb
theorem or_lt {a b n : Nat} (ha : a < 2 ^ n) (hb : b < 2 ^ n) : a ||| b < 2 ^ n := Nat.or_lt_two_pow ha hb
theorem cpass_lt (f : Nat → Nat) {n : Nat} (hf : ∀ i, i < n → f i < 2 ^ n) : ∀ k i T, i + k ≤ n → T < 2 ^ n → cpass f k i T < 2 ^ n := by
  intro k
  induction k with
  | zero => intro i T _ h; exact h
  | succ k ih =>
    intro i T hk h
    unfold cpass
    split
    · exact ih (i + 1) _ (by omega) (or_lt h (hf i (by omega)))
    · exact ih (i + 1) T (by omega) h
/-- how many of the first n bits are set -/
def pcb : Nat → Nat → Nat
  | 0, _ => 0
  | n + 1, T => pcb n T + if T.testBit n then 1 else 0
theorem pcb_le (n T : Nat) : pcb n T ≤ n := by
  induction n with
  | zero => exact Nat.le_refl 0
  | succ n ih => unfold pcb; split <;> omega
theorem pcb_mono {n A B : Nat} (h : ∀ j, j < n → A.testBit j = true → B.testBit j = true) : pcb n A ≤ pcb n B := by
  induction n with
  | zero => exact Nat.le_refl 0
  | succ n ih =>
    have := ih (fun j hj => h j (by omega))
    unfold pcb
    by_cases ha : A.testBit n = true
    · rw [if_pos ha, if_pos (h n (by omega) ha)]; omega
    · rw [if_neg ha]; omega
theorem pcb_lt {n A B j : Nat} (h : ∀ j, j < n → A.testBit j = true → B.testBit j = true) (hj : j < n) (ha : A.testBit j = false) (hb : B.testBit j = true) : pcb n A < pcb n B := by
  induction n with
  | zero => omega
  | succ n ih =>
    have h1 := pcb_mono (n := n) (fun j hj => h j (by omega))
    unfold pcb
    by_cases hjn : j = n
    · subst hjn
      rw [ha, hb]
      simp only [if_true, if_false, Bool.false_eq_true]
      omega
    · have := ih (fun j hj => h j (by omega)) (by omega)
      by_cases hc : A.testBit n = true
      · rw [if_pos hc, if_pos (h n (by omega) hc)]; omega
      · rw [if_neg hc]; omega
theorem crnd_clo (f : Nat → Nat) {n : Nat} (hf : ∀ i, i < n → f i < 2 ^ n) : ∀ m T, T < 2 ^ n → n ≤ m + pcb n T → clo f n (crnd f n m T) := by
  intro m
  induction m with
  | zero =>
    intro T hT hm i hi hb j hj
    have hlt : j < n := by
      refine Nat.not_le.mp (fun h => ?_)
      rw [Nat.testBit_lt_two_pow (Nat.lt_of_lt_of_le (hf i hi) (Nat.pow_le_pow_right (by decide) h))] at hj
      cases hj
    show T.testBit j = true
    cases hc : T.testBit j
    · exfalso
      have e : pcb n T = n := by have := pcb_le n T; omega
      have h2 := pcb_lt (n := n) (A := T) (B := 2 ^ n - 1) (j := j) (fun k hk _ => by rw [Nat.testBit_two_pow_sub_one]; exact decide_eq_true hk) hlt hc (by rw [Nat.testBit_two_pow_sub_one]; exact decide_eq_true hlt)
      have := pcb_le n (2 ^ n - 1)
      omega
    · rfl
  | succ m ih =>
    intro T hT hm
    unfold crnd
    by_cases hs : sub (cpass f n 0 T) T
    · have he : cpass f n 0 T = T := sub_eq hs (cpass_up f n 0 T)
      have hc : clo f n T := fun i hi hb => cpass_clo f n 0 T hs i (by omega) (by omega) hb
      rw [he]
      have hst : ∀ m, crnd f n m T = T := by
        intro m
        induction m with
        | zero => rfl
        | succ m ihm => unfold crnd; rw [he]; exact ihm
      rw [hst m]
      exact hc
    · obtain ⟨j, hj1, hj2⟩ : ∃ j, (cpass f n 0 T).testBit j = true ∧ T.testBit j = false := by
        refine Classical.byContradiction (fun h => hs (fun j hj => ?_))
        cases hc : T.testBit j
        · exact absurd ⟨j, hj, hc⟩ h
        · rfl
      have hlt := cpass_lt f hf n 0 T (by omega) hT
      have hjn : j < n := by
        refine Nat.not_le.mp (fun h => ?_)
        rw [Nat.testBit_lt_two_pow (Nat.lt_of_lt_of_le hlt (Nat.pow_le_pow_right (by decide) h))] at hj1
        cases hj1
      have := pcb_lt (n := n) (fun k _ hk => cpass_up f n 0 T k hk) hjn hj2 hj1
      exact ih _ hlt (by omega)
theorem crnd_up (f : Nat → Nat) (n : Nat) : ∀ m T, sub T (crnd f n m T) := by
  intro m
  induction m with
  | zero => intro T j h; exact h
  | succ m ih => intro T; unfold crnd; exact (cpass_up f n 0 T).tr (ih _)
theorem crnd_in (f : Nat → Nat) {C n : Nat} (hC : clo f n C) : ∀ m T, sub T C → sub (crnd f n m T) C := by
  intro m
  induction m with
  | zero => intro T h; exact h
  | succ m ih => intro T h; unfold crnd; exact ih _ (cpass_in f hC n 0 T (by omega) h)
theorem crnd_lt (f : Nat → Nat) {n : Nat} (hf : ∀ i, i < n → f i < 2 ^ n) : ∀ m T, T < 2 ^ n → crnd f n m T < 2 ^ n := by
  intro m
  induction m with
  | zero => intro T h; exact h
  | succ m ih => intro T h; unfold crnd; exact ih _ (cpass_lt f hf n 0 T (by omega) h)
theorem tb_pow (b j : Nat) : (2 ^ b).testBit j = decide (b = j) := Nat.testBit_two_pow
/-- the class's and the reference's sets are the same, but for the book itself -/
theorem clo_same (f : Nat → Nat) {n b a : Nat} (hf : ∀ i, i < n → f i < 2 ^ n) (hb : b < n) (hn : n ≤ 7) (hab : a ≠ b) : (crnd f n n (f b)).testBit a = (crnd f n 7 (2 ^ b)).testBit a := by
  have h2 : 2 ^ b < 2 ^ n := Nat.pow_lt_pow_right (by decide) hb
  have c1 := crnd_clo f hf n (f b) (hf b hb) (by omega)
  have c2 := crnd_clo f hf 7 (2 ^ b) h2 (by omega)
  have s2 : sub (f b) (crnd f n 7 (2 ^ b)) := c2 b hb (crnd_up f n 7 _ b (by rw [tb_pow]; exact decide_eq_true rfl))
  have s1 := crnd_in f c2 n (f b) s2
  have cx : clo f n (2 ^ b ||| crnd f n n (f b)) := by
    intro i hi h
    rw [Nat.testBit_or, Bool.or_eq_true, tb_pow, decide_eq_true_eq] at h
    rcases h with h | h
    · subst h
      exact (crnd_up f n n (f b)).tr (sub_r _ _)
    · exact (c1 i hi h).tr (sub_r _ _)
  have s3 := crnd_in f cx 7 (2 ^ b) (sub_l _ _)
  cases hx : (crnd f n 7 (2 ^ b)).testBit a
  · cases hy : (crnd f n n (f b)).testBit a
    · rfl
    · rw [s1 a hy] at hx; cases hx
  · have := s3 a hx
    rw [Nat.testBit_or, Bool.or_eq_true, tb_pow, decide_eq_true_eq] at this
    exact this.resolve_left (Ne.symm hab)
