/-! how many bits: the machine's way by bytes, the reference's way one by one -/
def s1N (m x : Nat) : Nat := x - ((x / 2) &&& m)
def s2N (m v : Nat) : Nat := (v &&& m) + ((v / 4) &&& m)
def s3N (m v : Nat) : Nat := (v + v / 16) &&& m
theorem land_bl (hi lo mh ml : Nat) (h1 : lo < 256) (h2 : ml < 256) : (256 * hi + lo) &&& (256 * mh + ml) = 256 * (hi &&& mh) + (lo &&& ml) := by
  have h3 : lo &&& ml < 2 ^ 8 := Nat.lt_of_le_of_lt Nat.and_le_left h1
  apply Nat.eq_of_testBit_eq
  intro j
  rw [Nat.testBit_and, show 256 = 2 ^ 8 from rfl, Nat.testBit_two_pow_mul_add _ h1, Nat.testBit_two_pow_mul_add _ h2, Nat.testBit_two_pow_mul_add _ h3]
  by_cases hj : j < 8
  · rw [if_pos hj, if_pos hj, if_pos hj, Nat.testBit_and]
  · rw [if_neg hj, if_neg hj, if_neg hj, Nat.testBit_and]
theorem d_s1 : ∀ a, a < 256 → (128 + a / 2) &&& 85 = (a / 2) &&& 85 ∧ s1N 85 a < 256 ∧ (a / 2) &&& 85 ≤ a := by decide +kernel
theorem d_s2 : ∀ u, u < 256 → (64 + u / 4) &&& 51 = (u / 4) &&& 51 ∧ (128 + u / 4) &&& 51 = (u / 4) &&& 51 ∧ (192 + u / 4) &&& 51 = (u / 4) &&& 51 ∧ s2N 51 u < 103 := by decide +kernel
theorem d_12 : ∀ a, a < 256 → s2N 51 (s1N 85 a) < 69 ∧ s2N 51 (s1N 85 a) % 16 ≤ 4 := by decide +kernel
theorem d_3 : ∀ u, u < 69 → (u + u / 16) &&& 15 = (u + u / 16) % 16 ∧ (u + 16 + u / 16) &&& 15 = (u + u / 16) % 16 ∧ (u + 32 + u / 16) &&& 15 = (u + u / 16) % 16 ∧ (u + 48 + u / 16) &&& 15 = (u + u / 16) % 16 ∧ (u + 64 + u / 16) &&& 15 = (u + u / 16) % 16 := by decide +kernel
theorem s1_bl (m y a : Nat) (ha : a < 256) (hm : (y / 2) &&& m ≤ y) : s1N (256 * m + 85) (256 * y + a) = 256 * s1N m y + s1N 85 a := by
  obtain ⟨d1, d2, d3⟩ := d_s1 a ha
  have e : (256 * y + a) / 2 = 256 * (y / 2) + (128 * (y % 2) + a / 2) := by omega
  have e2 : (128 * (y % 2) + a / 2) &&& 85 = (a / 2) &&& 85 := by
    rcases Nat.mod_two_eq_zero_or_one y with h | h
    · rw [h]; simp
    · rw [h]; exact d1
  unfold s1N
  rw [e, land_bl _ _ _ _ (by omega) (by decide), e2]
  omega
theorem s2_bl (m v u : Nat) (hu : u < 256) : s2N (256 * m + 51) (256 * v + u) = 256 * s2N m v + s2N 51 u := by
  obtain ⟨d1, d2, d3, d4⟩ := d_s2 u hu
  have e : (256 * v + u) / 4 = 256 * (v / 4) + (64 * (v % 4) + u / 4) := by omega
  have e2 : (64 * (v % 4) + u / 4) &&& 51 = (u / 4) &&& 51 := by
    have h4 : v % 4 = 0 ∨ v % 4 = 1 ∨ v % 4 = 2 ∨ v % 4 = 3 := by omega
    rcases h4 with h | h | h | h
    · rw [h]; simp
    · rw [h]; exact d1
    · rw [h]; exact d2
    · rw [h]; exact d3
  unfold s2N
  rw [e, land_bl _ _ _ _ hu (by decide), land_bl _ _ _ _ (by omega) (by decide), e2]
  omega
theorem s3_bl (m v u : Nat) (hu : u < 69) (hv : v % 16 ≤ 4) : s3N (256 * m + 15) (256 * v + u) = 256 * s3N m v + s3N 15 u := by
  obtain ⟨d0, d1, d2, d3, d4⟩ := d_3 u hu
  have e : 256 * v + u + (256 * v + u) / 16 = 256 * (v + v / 16) + (u + 16 * (v % 16) + u / 16) := by omega
  have e2 : (u + 16 * (v % 16) + u / 16) &&& 15 = (u + u / 16) &&& 15 := by
    have h4 : v % 16 = 0 ∨ v % 16 = 1 ∨ v % 16 = 2 ∨ v % 16 = 3 ∨ v % 16 = 4 := by omega
    rcases h4 with h | h | h | h | h
    · rw [h]; simp
    · rw [h, d0]; exact d1
    · rw [h, d0]; exact d2
    · rw [h, d0]; exact d3
    · rw [h, d0]; exact d4
  unfold s3N
  rw [e, land_bl _ _ _ _ (by omega) (by decide), e2]
def gB (a : Nat) : Nat := s3N 15 (s2N 51 (s1N 85 a))
theorem gB_pc : ∀ a, a < 256 → gB a = pcb 8 a := by decide +kernel
theorem pcb_half (k x : Nat) : pcb (k + 1) x = x % 2 + pcb k (x / 2) := by
  induction k with
  | zero =>
    show 0 + (if x.testBit 0 then 1 else 0) = x % 2 + 0
    rw [Nat.testBit_zero]
    rcases Nat.mod_two_eq_zero_or_one x with h | h <;> rw [h] <;> rfl
  | succ k ih =>
    show pcb (k + 1) x + (if x.testBit (k + 1) then 1 else 0) = x % 2 + (pcb k (x / 2) + if (x / 2).testBit k then 1 else 0)
    rw [ih, Nat.testBit_succ, Nat.add_assoc]
theorem pcb_split (k m x : Nat) : pcb (k + m) x = pcb k x + pcb m (x / 2 ^ k) := by
  induction m with
  | zero => rfl
  | succ m ih =>
    show pcb (k + m) x + (if x.testBit (k + m) then 1 else 0) = pcb k x + (pcb m (x / 2 ^ k) + if (x / 2 ^ k).testBit m then 1 else 0)
    rw [ih, Nat.testBit_div_two_pow, Nat.add_assoc, Nat.add_comm k m]
theorem pcb_low (k x : Nat) : pcb k (x % 2 ^ k) = pcb k x := by
  have : ∀ j, j ≤ k → pcb j (x % 2 ^ k) = pcb j x := by
    intro j
    induction j with
    | zero => intro _; rfl
    | succ j ih =>
      intro hj
      show pcb j (x % 2 ^ k) + (if (x % 2 ^ k).testBit j then 1 else 0) = pcb j x + if x.testBit j then 1 else 0
      rw [ih (by omega), Nat.testBit_mod_two_pow]
      simp [show j < k by omega]
  exact this k (Nat.le_refl k)
theorem gB_le (a : Nat) (h : a < 256) : gB a ≤ 8 := by rw [gB_pc a h]; exact pcb_le 8 a
theorem d_c : ∀ c, c < 256 → (c / 2) &&& 21845 ≤ c ∧ s1N 21845 c = s1N 85 c ∧ s2N 13107 (s1N 85 c) = s2N 51 (s1N 85 c) ∧ s3N 3855 (s2N 51 (s1N 85 c)) = gB c ∧ s2N 51 (s1N 85 c) % 16 ≤ 4 := by decide +kernel
theorem bc_v3 {a b c : Nat} (ha : a < 256) (hb : b < 256) (hc : c < 256) : s3N 252645135 (s2N 858993459 (s1N 1431655765 (256 * (256 * c + b) + a))) = 256 * (256 * gB c + gB b) + gB a := by
  obtain ⟨c1, c2, c3, c4, c5⟩ := d_c c hc
  obtain ⟨a1, a2, a3⟩ := d_s1 a ha
  obtain ⟨b1, b2, b3⟩ := d_s1 b hb
  have a4 := d_12 a ha
  have b4 := d_12 b hb
  have h1 : s1N 5592405 (256 * c + b) = 256 * s1N 85 c + s1N 85 b := by
    have := s1_bl 21845 c b hb c1
    rw [c2] at this
    exact this
  have hm : ((256 * c + b) / 2) &&& 5592405 ≤ 256 * c + b := by
    have e : (256 * c + b) / 2 = 256 * (c / 2) + (128 * (c % 2) + b / 2) := by omega
    have e2 : (128 * (c % 2) + b / 2) &&& 85 = (b / 2) &&& 85 := by
      rcases Nat.mod_two_eq_zero_or_one c with h | h
      · rw [h]; simp
      · rw [h]; exact b1
    have := land_bl (c / 2) (128 * (c % 2) + b / 2) 21845 85 (by omega) (by decide)
    rw [e, show 5592405 = 256 * 21845 + 85 from rfl, this, e2]
    omega
  have h2 : s1N 1431655765 (256 * (256 * c + b) + a) = 256 * (256 * s1N 85 c + s1N 85 b) + s1N 85 a := by
    have := s1_bl 5592405 (256 * c + b) a ha hm
    rw [h1] at this
    exact this
  have h3 : s2N 3355443 (256 * s1N 85 c + s1N 85 b) = 256 * s2N 51 (s1N 85 c) + s2N 51 (s1N 85 b) := by
    have := s2_bl 13107 (s1N 85 c) (s1N 85 b) b2
    rw [c3] at this
    exact this
  have h4 : s2N 858993459 (256 * (256 * s1N 85 c + s1N 85 b) + s1N 85 a) = 256 * (256 * s2N 51 (s1N 85 c) + s2N 51 (s1N 85 b)) + s2N 51 (s1N 85 a) := by
    have := s2_bl 3355443 (256 * s1N 85 c + s1N 85 b) (s1N 85 a) a2
    rw [h3] at this
    exact this
  have h5 : s3N 986895 (256 * s2N 51 (s1N 85 c) + s2N 51 (s1N 85 b)) = 256 * gB c + gB b := by
    have := s3_bl 3855 (s2N 51 (s1N 85 c)) (s2N 51 (s1N 85 b)) b4.1 c5
    rw [c4] at this
    exact this
  have h6 : s3N 252645135 (256 * (256 * s2N 51 (s1N 85 c) + s2N 51 (s1N 85 b)) + s2N 51 (s1N 85 a)) = 256 * (256 * gB c + gB b) + gB a := by
    have := s3_bl 986895 (256 * s2N 51 (s1N 85 c) + s2N 51 (s1N 85 b)) (s2N 51 (s1N 85 a)) a4.1 (by have := b4.2; omega)
    rw [h5] at this
    exact this
  rw [h2, h4, h6]
theorem s_bitCount {x : Nat} (hx : x < 2 ^ 20) : f_J_bitCount (nI x) = some (nI (pcb 20 x)) := by
  have ha : x % 256 < 256 := Nat.mod_lt _ (by decide)
  have hb : x / 256 % 256 < 256 := Nat.mod_lt _ (by decide)
  have hc : x / 65536 < 256 := by omega
  have hv := bc_v3 ha hb hc
  rw [show 256 * (256 * (x / 65536) + x / 256 % 256) + x % 256 = x by omega] at hv
  have ga := gB_le _ ha
  have gb := gB_le _ hb
  have gc := gB_le _ hc
  have hp : gB (x % 256) + gB (x / 256 % 256) + gB (x / 65536) = pcb 20 x := by
    rw [gB_pc _ ha, gB_pc _ hb, gB_pc _ hc, show 20 = 8 + (8 + 4) from rfl, pcb_split, pcb_split]
    have e1 : pcb 8 (x % 256) = pcb 8 x := pcb_low 8 x
    have e2 : pcb 8 (x / 256 % 256) = pcb 8 (x / 2 ^ 8) := pcb_low 8 _
    have e3 : pcb 8 (x / 65536) = pcb 4 (x / 2 ^ 8 / 2 ^ 8) := by
      have h4 : x / 65536 < 2 ^ 4 := by omega
      rw [show x / 2 ^ 8 / 2 ^ 8 = x / 65536 by omega, show (8 : Nat) = 4 + 4 from rfl, pcb_split]
      have : x / 65536 / 2 ^ 4 = 0 := by omega
      rw [this]
      rfl
    rw [e1, e2, e3, Nat.add_assoc]
  generalize gB (x % 256) = A at hv ga hp
  generalize gB (x / 256 % 256) = B at hv gb hp
  generalize gB (x / 65536) = C at hv gc hp
  have hm1 : (x / 2) &&& 1431655765 ≤ x := Nat.le_trans Nat.and_le_left (Nat.div_le_self _ _)
  have hs1 : s1N 1431655765 x ≤ x := Nat.sub_le _ _
  have hs2 : s2N 858993459 (s1N 1431655765 x) ≤ 858993459 + 858993459 := Nat.add_le_add Nat.and_le_right Nat.and_le_right
  have e1 : nI x - (((nI x).toUInt32 >>> ((nI 1).toUInt32 &&& Int32.toUInt32 31)).toInt32 &&& nI 1431655765) = nI (s1N 1431655765 x) := by
    rw [pk_ushrN (by omega) (nI 1) 1 (by decide), Nat.pow_one, b_and, pk_sub hm1]
    rfl
  simp only [f_J_bitCount, bnd]
  rw [e1]
  have e2 : (nI (s1N 1431655765 x) &&& nI 858993459) + (((nI (s1N 1431655765 x)).toUInt32 >>> ((nI 2).toUInt32 &&& Int32.toUInt32 31)).toInt32 &&& nI 858993459) = nI (s2N 858993459 (s1N 1431655765 x)) := by
    rw [pk_ushrN (by omega) (nI 2) 2 (by decide), b_and, b_and, nI_add]
    rfl
  rw [e2]
  have e3 : (nI (s2N 858993459 (s1N 1431655765 x)) + ((nI (s2N 858993459 (s1N 1431655765 x))).toUInt32 >>> ((nI 4).toUInt32 &&& Int32.toUInt32 31)).toInt32) &&& nI 252645135 = nI (256 * (256 * C + B) + A) := by
    rw [pk_ushrN (by omega) (nI 4) 4 (by decide), nI_add, b_and, ← hv]
    rfl
  rw [e3, pk_ushrN (by omega) (nI 8) 8 (by decide), nI_add, pk_ushrN (by omega) (nI 16) 16 (by decide), nI_add, pk_andN (by omega) 6 (by decide), show (256 * (256 * C + B) + A) / 2 ^ 8 = 256 * C + B by omega, show (256 * (256 * C + B) + A + (256 * C + B)) / 2 ^ 16 = C by omega, ← hp]
  congr 2
  omega
theorem land_pred (k : Nat) : ∀ x, 0 < x → x < 2 ^ k → pcb k (x &&& (x - 1)) + 1 = pcb k x ∧ x &&& (x - 1) < x := by
  induction k with
  | zero => intro x h0 h1; omega
  | succ k ih =>
    intro x h0 h1
    have hd : (x &&& (x - 1)) / 2 = (x / 2) &&& ((x - 1) / 2) := by
      apply Nat.eq_of_testBit_eq
      intro j
      rw [Nat.testBit_and, ← Nat.testBit_succ, ← Nat.testBit_succ, ← Nat.testBit_succ, Nat.testBit_and]
    have hm : (x &&& (x - 1)) % 2 = 0 := by
      have := Nat.testBit_and x (x - 1) 0
      rw [Nat.testBit_zero, Nat.testBit_zero, Nat.testBit_zero] at this
      have h2 : ¬ (x % 2 = 1 ∧ (x - 1) % 2 = 1) := by omega
      by_cases h3 : (x &&& (x - 1)) % 2 = 1
      · rw [decide_eq_true h3] at this
        have := this.symm
        rw [Bool.and_eq_true, decide_eq_true_iff, decide_eq_true_iff] at this
        exact absurd this h2
      · omega
    rw [pcb_half, pcb_half, hd, hm]
    rcases Nat.mod_two_eq_zero_or_one x with h | h
    · have e : (x - 1) / 2 = x / 2 - 1 := by omega
      obtain ⟨q1, q2⟩ := ih (x / 2) (by omega) (by rw [Nat.pow_succ] at h1; omega)
      rw [e, h]
      rw [e] at hd
      exact ⟨by omega, by omega⟩
    · have e : (x - 1) / 2 = x / 2 := by omega
      rw [e, Nat.and_self, h]
      rw [e, Nat.and_self] at hd
      exact ⟨by omega, by omega⟩
theorem s_sizeOf_loop {N : Nat} : ∀ n c x, x < 2 ^ 20 → pcb 20 x < n → f_Mo_sizeOf_4 N n (nI c) (nI x) = some (nI (c + pcb 20 x)) := by
  intro n
  induction n with
  | zero => intro c x _ h; omega
  | succ n ih =>
    intro c x hx hn
    by_cases h0 : x = 0
    · subst h0
      rw [f_Mo_sizeOf_4, if_pos rfl]
      rfl
    · obtain ⟨q1, q2⟩ := land_pred 20 x (by omega) hx
      rw [f_Mo_sizeOf_4, if_neg (nI_n0 (by omega) (by omega))]
      simp only [bnd]
      rw [nI_add, pk_sub (by omega), b_and, ih (c + 1) _ (by omega) (by omega)]
      congr 2
      omega
theorem s_sizeOf {N x : Nat} (hN : 200 ≤ N) (hx : x < 2 ^ 20) : f_Mo_sizeOf N (nI x) = some (nI (pcb 20 x)) := by
  have h := s_sizeOf_loop (N := N) N 0 x hx (by have := pcb_le 20 x; omega)
  rw [Nat.zero_add] at h
  exact h
/-- a set from its words -/
def mkb (f : Nat → Bool) : Nat → Nat
  | 0 => 0
  | i + 1 => if f i then mkb f i ||| 2 ^ i else mkb f i
theorem mkb_lt (f : Nat → Bool) : ∀ i, mkb f i < 2 ^ i := by
  intro i
  induction i with
  | zero => exact Nat.two_pow_pos 0
  | succ i ih =>
    have h1 : 2 ^ i < 2 ^ (i + 1) := Nat.pow_lt_pow_right (by decide) (by omega)
    unfold mkb
    split
    · exact or_lt (Nat.lt_trans ih h1) h1
    · exact Nat.lt_trans ih h1
theorem mkb_bit (f : Nat → Bool) : ∀ i j, (mkb f i).testBit j = (decide (j < i) && f j) := by
  intro i
  induction i with
  | zero => intro j; simp [mkb]
  | succ i ih =>
    intro j
    unfold mkb
    by_cases hij : j = i
    · subst hij
      have : (mkb f j).testBit j = false := Nat.testBit_lt_two_pow (mkb_lt f j)
      split
      · next h => rw [Nat.testBit_or, this, tb_pow]; simp [h]
      · next h => rw [this]; simp [h]
    · have e : (decide (j < i + 1)) = decide (j < i) := by simp only [decide_eq_decide]; omega
      have hne : (2 ^ i).testBit j = false := by rw [tb_pow]; simp; omega
      rw [e]
      split
      · rw [Nat.testBit_or, ih, hne, Bool.or_false]
      · exact ih j
theorem mkb_eq {f : Nat → Bool} {n x : Nat} (hx : x < 2 ^ n) (h : ∀ j, j < n → x.testBit j = f j) : x = mkb f n := by
  apply Nat.eq_of_testBit_eq
  intro j
  rw [mkb_bit]
  by_cases hj : j < n
  · rw [h j hj]; simp [hj]
  · have : 2 ^ n ≤ 2 ^ j := Nat.pow_le_pow_right (by decide) (by omega)
    rw [Nat.testBit_lt_two_pow (by omega)]
    simp [hj]
theorem mkb_congr {f g : Nat → Bool} {n : Nat} (h : ∀ j, j < n → f j = g j) : mkb f n = mkb g n := by
  apply mkb_eq (mkb_lt f n)
  intro j hj
  rw [mkb_bit, h j hj]
  simp [hj]
