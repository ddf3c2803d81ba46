/-! told: who is ahead -/
def ldr (f : Nat → Nat) (k : Nat) : Nat → Nat
  | 0 => 0
  | i + 1 => if (f i).testBit k then ldr f k i ||| 2 ^ i else ldr f k i
theorem ldr_lt (f : Nat → Nat) (k : Nat) : ∀ i, ldr f k i < 2 ^ i := by
  intro i
  induction i with
  | zero => exact Nat.two_pow_pos 0
  | succ i ih =>
    have h1 : 2 ^ i < 2 ^ (i + 1) := Nat.pow_lt_pow_right (by decide) (by omega)
    unfold ldr
    split
    · exact or_lt (Nat.lt_trans ih h1) h1
    · exact Nat.lt_trans ih h1
theorem ldr_bit (f : Nat → Nat) (k : Nat) : ∀ i j, (ldr f k i).testBit j = (decide (j < i) && (f j).testBit k) := by
  intro i
  induction i with
  | zero => intro j; simp [ldr]
  | succ i ih =>
    intro j
    unfold ldr
    by_cases hij : j = i
    · subst hij
      have : (ldr f k j).testBit j = false := Nat.testBit_lt_two_pow (ldr_lt f k j)
      split
      · next h => rw [Nat.testBit_or, this, tb_pow]; simp [h]
      · next h => rw [this]; simp [h]
    · have e : (decide (j < i + 1)) = decide (j < i) := by simp only [decide_eq_decide]; omega
      have hne : (2 ^ i).testBit j = false := by rw [tb_pow]; simp; omega
      rw [e]
      split
      · rw [Nat.testBit_or, ih, hne, Bool.or_false]
      · exact ih j
theorem s_leaders {N c : Nat} (hN : 200 ≤ N) (hc : c ≤ 7) (S : zOb) (f : Nat → Nat) (h0 : S.1 0 3 = nI c) (hs : ∀ i, i < c → S.1 2 i = nI (f i)) (hf : ∀ i, i < c → f i < 2 ^ c) {k : Nat} (hk : k < 7) : f_St_leaders N S (nI k) = some (nI (ldr f k c)) := by
  have h := for_up (fun n (T : Int32) x => f_St_leaders_4 N S n (nI k) T x) 0 c (fun i => nI (ldr f k i)) (some (nI (ldr f k c))) ?_ ?_ (by omega) N (by omega)
  · exact h
  · intro n
    show f_St_leaders_4 N S (n + 1) (nI k) (nI (ldr f k c)) (nI c) = _
    rw [f_St_leaders_4, h0, if_pos (Int32.le_refl _)]
  · intro n i _ hi
    show f_St_leaders_4 N S (n + 1) (nI k) (nI (ldr f k i)) (nI i) = f_St_leaders_4 N S n (nI k) (nI (ldr f k (i + 1))) (nI (i + 1))
    have hb : f i < 2 ^ 31 := lt31 hc (hf i hi)
    rw [f_St_leaders_4, h0, if_neg (nI_ge hi (by omega)), if_pos (zin_nI (by omega) (by decide)), nI_clamp (by omega), hs i hi, s_hasBit hb (by omega), Option.bind_some]
    simp only [f_St_leaders_31, bnd, nI_add]
    by_cases ht : (f i).testBit k = true
    · rw [if_pos ht, if_neg nI_1_0, b_one (by omega), b_or]
      simp only [ldr, if_pos ht]
    · rw [if_neg ht, if_pos rfl]
      simp only [ldr, if_neg ht]
theorem s_aheadOf {N c : Nat} (hN : 200 ≤ N) (hc : c ≤ 7) (M : zOb) (f : Nat → Nat) (h0 : M.1 1 0 = nI c) (hs : ∀ i, i < c → M.1 1 (20 + i) = nI (f i)) (hf : ∀ i, i < c → f i < 2 ^ c) {k : Nat} (hk : k < 7) : f_Mo_aheadOf N M (nI k) = some (nI (ldr f k c)) := by
  have h := for_up (fun n (T : Int32) x => f_Mo_aheadOf_4 N M n (nI k) T x) 0 c (fun i => nI (ldr f k i)) (some (nI (ldr f k c))) ?_ ?_ (by omega) N (by omega)
  · exact h
  · intro n
    show f_Mo_aheadOf_4 N M (n + 1) (nI k) (nI (ldr f k c)) (nI c) = _
    rw [f_Mo_aheadOf_4, h0, if_pos (Int32.le_refl _)]
  · intro n i _ hi
    show f_Mo_aheadOf_4 N M (n + 1) (nI k) (nI (ldr f k i)) (nI i) = f_Mo_aheadOf_4 N M n (nI k) (nI (ldr f k (i + 1))) (nI (i + 1))
    have hb : f i < 2 ^ 31 := lt31 hc (hf i hi)
    rw [f_Mo_aheadOf_4, h0, if_neg (nI_ge hi (by omega)), nI_add, if_pos (zin_nI (by omega) (by decide)), nI_clamp (by omega), hs i hi, s_has hb (by omega), Option.bind_some]
    simp only [f_Mo_aheadOf_38, bnd, nI_add]
    by_cases ht : (f i).testBit k = true
    · rw [if_pos ht, if_neg nI_1_0, b_one (by omega), b_or]
      simp only [ldr, if_pos ht]
    · rw [if_neg ht, if_pos rfl, b_or, Nat.or_zero]
      simp only [ldr, if_neg ht]
theorem first_at {n : Nat} (o : Nat → Nat) (hb : ∀ i, i < n → o i < n) (hi : ∀ i j, i < n → j < n → o i = o j → i = j) {k : Nat} (hk : k < n) : ∃ pl, pl < n ∧ o pl = k ∧ ∀ i, i < pl → o i ≠ k := by
  obtain ⟨pl, h1, h2⟩ := inj_surj n o hb hi k hk
  exact ⟨pl, h1, h2, fun i hil e => by have := hi i pl (by omega) h1 (e.trans h2.symm); omega⟩
theorem o_told {N : Nat} (hN : 200 ≤ N) : zop_told N zInv := by
  intro μ x y h
  obtain ⟨a, hw, hS, hM⟩ := h.1
  have h7 := hw.1.1
  have hn : (μ 0).1 0 3 = nI (a.1 0) := hS.1 0 (by decide)
  have hm : (μ 29).1 1 0 = nI (a.1 0) := hM.1 0 (by decide)
  rcases arg_in x (n := a.1 0) (by omega) with ⟨k, hk, rfl⟩ | hx
  · have b1 := isB_1 h7 hn hk
    have b2 := isBM_1 h7 hm hk
    obtain ⟨p1, p2, p3⟩ := hS.2 k hk
    obtain ⟨r1, r2, r3⟩ := hM.2 k hk
    have zk : zin (nI k) 7 := zin_nI (by omega) (by decide)
    have ck : (nI k).toNatClampNeg = k := nI_clamp (by omega)
    have z13 : zin (nI (13 + k)) 27 := zin_nI (by omega) (by decide)
    have c13 : (nI (13 + k)).toNatClampNeg = 13 + k := nI_clamp (by omega)
    have z20 : zin (nI (20 + k)) 27 := zin_nI (by omega) (by decide)
    have c20 : (nI (20 + k)).toNatClampNeg = 20 + k := nI_clamp (by omega)
    have m10 : ∀ v, v < 4 → ¬ nI v < nI 0 := fun v hv => nI_nlt (Nat.zero_le _) (by omega)
    have m13 : ∀ v, v < 4 → nI v ≤ nI 3 := fun v hv => nI_le (by omega) (by decide)
    have n10 : ¬ nI 1 = nI 0 := by decide
    have n20 : ¬ nI 2 = nI 0 := by decide
    have n21 : ¬ nI 2 = nI 1 := by decide
    have n30 : ¬ nI 3 = nI 0 := by decide
    have n31 : ¬ nI 3 = nI 1 := by decide
    have n32 : ¬ nI 3 = nI 2 := by decide
    rcases arg_in y (n := 4) (by decide) with ⟨w, hw4, rfl⟩ | hy
    · match w, hw4 with
      | 0, _ =>
        refine ⟨nI (a.2.1 k), ?_, ?_, h⟩
        · simp only [f_RS_told, b1, Option.bind_some, if_neg nI_1_0, if_neg (m10 0 (by decide)), if_pos (m13 0 (by decide)), if_pos, if_pos zk, ck, p1]
        · simp only [f_Mo_told, b2, Option.bind_some, if_neg nI_1_0, if_pos, nI_add, if_pos z13, c13, r1]
      | 1, _ =>
        refine ⟨nI (a.2.2.1 k), ?_, ?_, h⟩
        · simp only [f_RS_told, b1, Option.bind_some, if_neg nI_1_0, if_neg (m10 1 (by decide)), if_pos (m13 1 (by decide)), if_pos, if_pos zk, ck, p2]
        · simp only [f_Mo_told, b2, Option.bind_some, if_neg nI_1_0, if_pos, nI_add, if_pos z20, c20, r2]
      | 2, _ =>
        refine ⟨nI (ldr a.2.2.1 k (a.1 0)), ?_, ?_, h⟩
        · have hl := s_leaders hN h7 (μ 0) a.2.2.1 hn (fun i hi => (hS.2 i hi).2.1) (fun i hi => (hw.2.1 i hi).2.1) (k := k) (by omega)
          simp only [f_RS_told, b1, Option.bind_some, if_neg nI_1_0, if_neg (m10 2 (by decide)), if_pos (m13 2 (by decide)), if_neg n20, if_neg n21, if_pos, hl]
        · have hl := s_aheadOf hN h7 (μ 29) a.2.2.1 hm (fun i hi => (hM.2 i hi).2.1) (fun i hi => (hw.2.1 i hi).2.1) (k := k) (by omega)
          simp only [f_Mo_told, b2, Option.bind_some, if_neg nI_1_0, if_neg n20, if_neg n21, if_pos, hl]
      | 3, _ =>
        obtain ⟨pl, q1, q2, q3⟩ := first_at a.2.2.2 (fun i hi => (hw.2.1 i hi).2.2) hw.2.2.1 hk
        refine ⟨nI pl, ?_, ?_, h⟩
        · have hl := s_placeOf hN h7 (μ 0) a.2.2.2 hn (fun i hi => (hS.2 i hi).2.2) (fun i hi => (hw.2.1 i hi).2.2) hk q1 q2 q3
          simp only [f_RS_told, b1, Option.bind_some, if_neg nI_1_0, if_neg (m10 3 (by decide)), if_pos (m13 3 (by decide)), if_neg n30, if_neg n31, if_neg n32, hl]
        · have hl := s_placeOfM hN h7 (μ 29) a.2.2.2 (fun i hi => (hM.2 i hi).2.2) (fun i hi => (hw.2.1 i hi).2.2) hk q1 q2 q3
          simp only [f_Mo_told, b2, Option.bind_some, if_neg nI_1_0, if_neg n30, if_neg n31, if_neg n32, if_pos, hl]
      | w + 4, hw => exact absurd hw (by omega)
    · have e0 : (nI 0).toInt = 0 := rfl
      have e3 : (nI 3).toInt = 3 := rfl
      refine ⟨-1, ?_, ?_, h⟩
      · simp only [f_RS_told, f_RS_told_20, b1, Option.bind_some, if_neg nI_1_0]
        by_cases h1 : y < nI 0
        · rw [if_pos h1]
        · rw [if_neg h1, if_neg (fun q => hy ?_)]
          have h3 := i_le.mp q
          have h4 : ¬ y.toInt < (nI 0).toInt := fun g => h1 (i_lt.mpr g)
          omega
      · have hy0 : ∀ v, v < 4 → ¬ y = nI v := fun v hv q => hy (by rw [q, nI_T (by omega)]; omega)
        simp only [f_Mo_told, b2, Option.bind_some, if_neg nI_1_0]
        rw [if_neg (hy0 0 (by decide)), if_neg (hy0 1 (by decide)), if_neg (hy0 2 (by decide)), if_neg (hy0 3 (by decide))]
  · refine ⟨-1, ?_, ?_, h⟩
    · simp only [f_RS_told, f_RS_told_20, isB_0 h7 hn hx, Option.bind_some]
      simp only [if_pos]
    · simp only [f_Mo_told, isBM_0 h7 hm hx, Option.bind_some]
      simp only [if_pos]
