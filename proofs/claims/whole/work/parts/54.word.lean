/-! word -/
def fwI (b : Nat → Bool) : Nat → Nat → Int32
  | 0, _ => -4
  | k + 1, i => if b i then nI i else fwI b k (i + 1)
def cn (b : Nat → Bool) : Nat → Nat
  | 0 => 0
  | n + 1 => cn b n + if b n then 1 else 0
theorem cn_mono (b : Nat → Bool) (i : Nat) : ∀ k, cn b i ≤ cn b (i + k) := by
  intro k
  induction k with
  | zero => exact Nat.le_refl _
  | succ k ih => exact Nat.le_trans ih (Nat.le_add_right _ _)
theorem cn_le (b : Nat → Bool) : ∀ n, cn b n ≤ n := by
  intro n
  induction n with
  | zero => exact Nat.le_refl _
  | succ n ih => unfold cn; split <;> omega
theorem s_firstWith {N n w : Nat} (hn : n ≤ 7) (hw : w < 20) {μ : zM} (h0 : (μ 0).1 0 3 = nI n) {rw_ : Nat → Int32} {F : Nat → Nat} (hF : ∀ p, p < n → rw_ p = nI (F p) ∧ F p < 2 ^ 20) : ∀ k i nf, i + k = n → k < nf → f_RS_firstWith_2 N μ rw_ nf (nI w) (nI i) = some (fwI (fun p => (F p).testBit w) k i) := by
  intro k
  induction k with
  | zero =>
    intro i nf hi hf
    obtain ⟨nf, rfl⟩ : ∃ t, nf = t + 1 := ⟨nf - 1, by omega⟩
    rw [f_RS_firstWith_2, h0, if_pos (nI_le (by omega) (by omega))]
    rfl
  | succ k ih =>
    intro i nf hi hf
    obtain ⟨nf, rfl⟩ : ∃ t, nf = t + 1 := ⟨nf - 1, by omega⟩
    obtain ⟨g1, g2⟩ := hF i (by omega)
    rw [f_RS_firstWith_2, h0, if_neg (nI_ge (by omega) (by omega)), if_pos (zin_nI (by omega) (by decide)), nI_clamp (by omega), g1, s_hasBit (by omega) (by omega), Option.bind_some]
    show _ = some (if (F i).testBit w then nI i else fwI (fun p => (F p).testBit w) k (i + 1))
    by_cases hb : (F i).testBit w = true
    · rw [if_pos hb, if_neg nI_1_0, if_pos hb]
    · rw [if_neg hb, if_pos rfl, if_neg hb]
      simp only [bnd, nI_add]
      exact ih (i + 1) nf (by omega) (by omega)
theorem s_howMany {N n w : Nat} (hN : 200 ≤ N) (hn : n ≤ 7) (hw : w < 20) {μ : zM} (h0 : (μ 0).1 0 3 = nI n) {rw_ : Nat → Int32} {F : Nat → Nat} (hF : ∀ p, p < n → rw_ p = nI (F p) ∧ F p < 2 ^ 20) : f_RS_howManyWith N μ rw_ (nI w) = some (nI (cn (fun p => (F p).testBit w) n)) := by
  have h := for_up (fun m (c : Int32) x => f_RS_howManyWith_5 N μ rw_ m (nI w) c x) 0 n (fun i => nI (cn (fun p => (F p).testBit w) i)) (some (nI (cn (fun p => (F p).testBit w) n))) ?_ ?_ (by omega) N (by omega)
  · exact h
  · intro m
    show f_RS_howManyWith_5 N μ rw_ (m + 1) (nI w) _ (nI n) = _
    rw [f_RS_howManyWith_5, h0, if_pos (Int32.le_refl _)]
  · intro m i _ hi
    obtain ⟨g1, g2⟩ := hF i hi
    show f_RS_howManyWith_5 N μ rw_ (m + 1) (nI w) (nI (cn (fun p => (F p).testBit w) i)) (nI i) = f_RS_howManyWith_5 N μ rw_ m (nI w) (nI (cn (fun p => (F p).testBit w) i + if (F i).testBit w then 1 else 0)) (nI (i + 1))
    rw [f_RS_howManyWith_5, h0, if_neg (nI_ge (by omega) (by omega)), if_pos (zin_nI (by omega) (by decide)), nI_clamp (by omega), g1, s_hasBit (by omega) (by omega), Option.bind_some]
    by_cases hb : (F i).testBit w = true
    · simp only [if_pos hb, if_neg nI_1_0, f_RS_howManyWith_31, bnd, nI_add]
    · simp only [if_neg hb, if_pos, f_RS_howManyWith_31, bnd, nI_add, Nat.add_zero]
theorem m1_add (i : Nat) (h : i < 2 ^ 30) : nI (i + 1) + (-1 : Int32) = nI i := by
  have e : (-1 : Int32) = -(nI 1) := by decide
  rw [e, ← Int32.sub_eq_add_neg, pk_sub (by omega), Nat.add_sub_cancel]
/-- what the reference answers when all places are gone through -/
def wdX (M : zOb) (w : Nat) (x2 x3 x4 x5 x6 : Int32) : Option (Int32 × zOb) := if x2 = (nI 0) then some (x3, M) else if x2 = (nI 1) then some (M.1 14 w, M) else if x2 = (nI 2) then some (x4, M) else if x2 = (nI 3) then some (x5, M) else if x2 = (nI 4) then some (x6, M) else some ((-1 : Int32), M)
theorem cn_st (b : Nat → Bool) {i n : Nat} (h : i < n) : (if b i then 1 else 0) + (cn b n - cn b (i + 1)) = cn b n - cn b i := by
  have h1 := cn_mono b (i + 1) (n - (i + 1))
  rw [show i + 1 + (n - (i + 1)) = n by omega] at h1
  have h2 : cn b (i + 1) = cn b i + if b i then 1 else 0 := rfl
  omega
theorem s_word44 {N n w : Nat} (hn : n ≤ 7) (hw : w < 20) {M : zOb} (x2 : Int32) {F G H : Nat → Nat} (hF : ∀ p, p < n → M.1 16 p = nI (F p) ∧ F p < 2 ^ 20) (hG : ∀ p, p < n → M.1 18 p = nI (G p) ∧ G p < 2 ^ 20) (hH : ∀ p, p < n → M.1 1 (13 + p) = nI (H p) ∧ H p < 2 ^ 20) : ∀ i nf, i ≤ n → i < nf → f_Mo_word_44 N nf M (nI w) x2 (fwI (fun p => (F p).testBit w) (n - i) i) (nI (cn (fun p => (F p).testBit w) n - cn (fun p => (F p).testBit w) i)) (nI (cn (fun p => (G p).testBit w) n - cn (fun p => (G p).testBit w) i)) (nI (cn (fun p => (H p).testBit w) n - cn (fun p => (H p).testBit w) i)) (nI i + (-1 : Int32)) = wdX M w x2 (fwI (fun p => (F p).testBit w) n 0) (nI (cn (fun p => (F p).testBit w) n)) (nI (cn (fun p => (G p).testBit w) n)) (nI (cn (fun p => (H p).testBit w) n)) := by
  intro i
  induction i with
  | zero =>
    intro nf hi hf
    obtain ⟨nf, rfl⟩ : ∃ t, nf = t + 1 := ⟨nf - 1, by omega⟩
    have z20 : zin (nI w) 20 := zin_nI hw (by decide)
    have cw : (nI w).toNatClampNeg = w := nI_clamp (by omega)
    rw [f_Mo_word_44, if_pos (by decide)]
    simp only [if_pos z20, cw]
    rfl
  | succ i ih =>
    intro nf hi hf
    obtain ⟨nf, rfl⟩ : ∃ t, nf = t + 1 := ⟨nf - 1, by omega⟩
    obtain ⟨f1, f2⟩ := hF i (by omega)
    obtain ⟨g1, g2⟩ := hG i (by omega)
    obtain ⟨h1, h2⟩ := hH i (by omega)
    have z7 : zin (nI i) 7 := zin_nI (by omega) (by decide)
    have c7 : (nI i).toNatClampNeg = i := nI_clamp (by omega)
    have z27 : zin (nI (13 + i)) 27 := zin_nI (by omega) (by decide)
    have c27 : (nI (13 + i)).toNatClampNeg = 13 + i := nI_clamp (by omega)
    rw [m1_add i (by omega), ← ih nf (by omega) (by omega)]
    rw [f_Mo_word_44, if_neg (nI_nlt (Nat.zero_le _) (by omega))]
    have efw : fwI (fun p => (F p).testBit w) (n - i) i = if (F i).testBit w then nI i else fwI (fun p => (F p).testBit w) (n - (i + 1)) (i + 1) := by
      rw [show n - i = (n - (i + 1)) + 1 by omega]; rfl
    rw [← cn_st (fun p => (F p).testBit w) (show i < n by omega), ← cn_st (fun p => (G p).testBit w) (show i < n by omega), ← cn_st (fun p => (H p).testBit w) (show i < n by omega), efw]
    simp only [if_pos z7, c7, f1, s_has (show F i < 2 ^ 31 by omega) (show w < 32 by omega), Option.bind_some, f_Mo_word_69, f_Mo_word_91, g1, s_has (show G i < 2 ^ 31 by omega) (show w < 32 by omega), f_Mo_word_115, nI_add, if_pos z27, c27, h1, s_has (show H i < 2 ^ 31 by omega) (show w < 32 by omega), f_Mo_word_142, bnd]
    cases (F i).testBit w <;> cases (G i).testBit w <;> cases (H i).testBit w <;> simp only [if_true, if_false, Bool.false_eq_true, if_pos, if_neg nI_1_0, nI_add, Nat.add_zero, Nat.zero_add, Nat.add_comm 1]
theorem s3b : ∀ s, s < 8 → (if s.testBit 0 then 1 else 0) + 2 * (if s.testBit 1 then 1 else 0) + 4 * (if s.testBit 2 then 1 else 0) = s := by decide
theorem s_strength {n w : Nat} {L : Nat → Nat} {σ : Nat → Nat × Nat} (hn : n ≤ 7) (hw : w < 20) (hs : (σ w).1 < 8) {R : zOb} (hB : R.1 0 5 = nI n) (ha : rdAt R n L n σ) : f_Rd_strengthBehindAll R (nI w) = some (nI (σ w).1) := by
  obtain ⟨h1, h2, h3, -⟩ := ha
  have z8 : zin (nI n) 8 := zin_nI (by omega) (by decide)
  have cn : (nI n).toNatClampNeg = n := nI_clamp (by omega)
  have bt : ∀ k, (nI (plN k σ) >>> (nI w &&& 31)) &&& nI 1 = nI (if (σ w).1.testBit k then 1 else 0) := by
    intro k
    have hb : plN k σ < 2 ^ 20 := mkb_lt _ 20
    have hd : plN k σ / 2 ^ w < 2 ^ 31 := Nat.lt_of_le_of_lt (Nat.div_le_self _ _) (by omega)
    rw [b_shr (by omega) (by omega), b_and1 _ hd]
    congr 1
    have ht := (isM_mk (fun w => (σ w).1.testBit k)).2 w hw
    have ht' : (plN k σ).testBit w = (σ w).1.testBit k := ht
    rw [tb_div] at ht'
    cases hq : (σ w).1.testBit k
    · rw [hq] at ht'
      rw [decide_eq_false_iff_not] at ht'
      rw [if_neg (by decide)]
      omega
    · rw [hq] at ht'
      rw [decide_eq_true_iff] at ht'
      rw [if_pos rfl]
      exact ht'
  simp only [f_Rd_strengthBehindAll, hB, if_pos z8, cn, h1, h2, h3, bt, bnd, pk_mul, nI_add]
  rw [s3b _ hs]
theorem o_word {N : Nat} (hN : 200 ≤ N) : zop_word N zInv := by
  intro μ x y h
  obtain ⟨a, R', M1, M', hw, hS, hM, e1, r1, e2, e3, r2, rO, kM, k1, kj⟩ := s_now hN h
  have h7 := hw.1.1
  have hn : (μ 0).1 0 3 = nI (a.1 0) := hS.1 0 (by decide)
  have hm : M'.1 1 0 = nI (a.1 0) := by rw [k1]; exact hM.1 0 (by decide)
  have e29 : ∀ X, (zset μ 21 X) 29 = μ 29 := fun X => zset_n _ _ (by decide)
  have e0 : (nI 0).toInt = 0 := rfl
  rcases arg_in x (n := 20) (by decide) with ⟨w, hw20, rfl⟩ | hx
  · have hin := in_1 (v := w) (lo := 0) (hi := 19) (l := 0) (h := 19) (by decide) (by decide) (by omega) (by omega) (by omega)
    have q0 : ¬ nI w < nI 0 := nI_nlt (Nat.zero_le _) (by omega)
    have q20 : ¬ nI 20 ≤ nI w := nI_ge hw20 (by decide)
    have z0 : (zset μ 21 R') 0 = μ 0 := zset_n _ _ (by decide)
    have z21 : (zset μ 21 R') 21 = R' := zset_s _ _ _
    have hM44 := s_word44 (N := N) (n := a.1 0) (w := w) h7 hw20 (M := M') y (F := fun p => frN (tS a a.2.2.2 p) (sgm (aL a) (tS a a.2.2.2) p)) (G := fun p => loN (aL a) p (tS a a.2.2.2 p) (sgm (aL a) (tS a a.2.2.2) p)) (H := a.2.1) (fun p hp => ⟨(r2.2 p hp).1, mkb_lt _ 20⟩) (fun p hp => ⟨(r2.2 p hp).2.2.1, mkb_lt _ 20⟩) (fun p hp => ⟨by rw [k1]; exact (hM.2 p hp).1, (hw.2.1 p hp).1.2⟩) (a.1 0) N (Nat.le_refl _) (by omega)
    have em1 : nI (a.1 0) - nI 1 = nI (a.1 0) + (-1 : Int32) := by rw [Int32.sub_eq_add_neg]; rfl
    have hMo : f_Mo_word N (μ 29) (nI w) y = wdX M' w y (fwI (fun p => (frN (tS a a.2.2.2 p) (sgm (aL a) (tS a a.2.2.2) p)).testBit w) (a.1 0) 0) (nI (cn (fun p => (frN (tS a a.2.2.2 p) (sgm (aL a) (tS a a.2.2.2) p)).testBit w) (a.1 0))) (nI (cn (fun p => (loN (aL a) p (tS a a.2.2.2 p) (sgm (aL a) (tS a a.2.2.2) p)).testBit w) (a.1 0))) (nI (cn (fun p => (a.2.1 p).testBit w) (a.1 0))) := by
      rw [← hM44]
      simp only [f_Mo_word, hin, Option.bind_some, if_neg nI_1_0, e2, e3, bnd, hm, em1, Nat.sub_self]
      rfl
    rcases arg_in y (n := 5) (by decide) with ⟨v, hv, rfl⟩ | hy
    · have p0 : ¬ nI v < nI 0 := nI_nlt (Nat.zero_le _) (by omega)
      have p4 : nI v ≤ nI 4 := nI_le (by omega) (by decide)
      have inv := inv_read h r1.2.2.2 kM k1
      have d : ∀ i j, i < 7 → j < 7 → i ≠ j → ¬ nI i = nI j := fun i j hi hj hij q => hij ((nI_eq (by omega) (by omega)).mp q)
      have d10 := d 1 0 (by decide) (by decide) (by decide)
      have d20 := d 2 0 (by decide) (by decide) (by decide)
      have d21 := d 2 1 (by decide) (by decide) (by decide)
      have d30 := d 3 0 (by decide) (by decide) (by decide)
      have d31 := d 3 1 (by decide) (by decide) (by decide)
      have d32 := d 3 2 (by decide) (by decide) (by decide)
      have d40 := d 4 0 (by decide) (by decide) (by decide)
      have d41 := d 4 1 (by decide) (by decide) (by decide)
      have d42 := d 4 2 (by decide) (by decide) (by decide)
      have d43 := d 4 3 (by decide) (by decide) (by decide)
      have hz0 : ((zset μ 21 R') 0).1 0 3 = nI (a.1 0) := by rw [z0]; exact hn
      have cfr := s_firstWith (N := N) (μ := zset μ 21 R') h7 hw20 hz0 (rw_ := R'.1 7) (F := fun p => frN (tS a a.2.2.2 p) (sgm (aL a) (tS a a.2.2.2) p)) (fun p hp => ⟨(r1.2.2.1 p hp).1, mkb_lt _ 20⟩) (a.1 0) 0 N (by omega) (by omega)
      have chf := s_howMany (N := N) (μ := zset μ 21 R') hN h7 hw20 hz0 (rw_ := R'.1 7) (F := fun p => frN (tS a a.2.2.2 p) (sgm (aL a) (tS a a.2.2.2) p)) (fun p hp => ⟨(r1.2.2.1 p hp).1, mkb_lt _ 20⟩)
      have chl := s_howMany (N := N) (μ := zset μ 21 R') hN h7 hw20 hz0 (rw_ := R'.1 9) (F := fun p => loN (aL a) p (tS a a.2.2.2 p) (sgm (aL a) (tS a a.2.2.2) p)) (fun p hp => ⟨(r1.2.2.1 p hp).2.2, mkb_lt _ 20⟩)
      have chs := s_howMany (N := N) (μ := zset μ 21 R') hN h7 hw20 hz0 (rw_ := (μ 0).1 1) (F := a.2.1) (fun p hp => ⟨(hS.2 p hp).1, (hw.2.1 p hp).1.2⟩)
      have cst := s_strength h7 hw20 (sg_lt h7 w hw20) r1.1.1 (r1.2.1 (a.1 0) (Nat.le_refl _))
      have mst := (r2.1 w hw20).1
      match v, hv with
      | 0, _ =>
        refine ⟨_, _, M', ?_, by rw [e29, hMo]; unfold wdX; rw [if_pos rfl], inv⟩
        simp only [f_RS_word, if_neg q0, if_neg q20, if_neg p0, if_pos p4, e1, Option.bind_some, bnd, if_pos, z21, f_RS_firstWith, cfr]
      | 1, _ =>
        refine ⟨_, _, M', ?_, by rw [e29, hMo]; unfold wdX; rw [if_neg d10, if_pos rfl, mst], inv⟩
        simp only [f_RS_word, if_neg q0, if_neg q20, if_neg p0, if_pos p4, e1, Option.bind_some, bnd, if_pos, if_neg d10, z21, cst]
      | 2, _ =>
        refine ⟨_, _, M', ?_, by rw [e29, hMo]; unfold wdX; rw [if_neg d20, if_neg d21, if_pos rfl], inv⟩
        simp only [f_RS_word, if_neg q0, if_neg q20, if_neg p0, if_pos p4, e1, Option.bind_some, bnd, if_pos, if_neg d20, if_neg d21, z21, chf]
      | 3, _ =>
        refine ⟨_, _, M', ?_, by rw [e29, hMo]; unfold wdX; rw [if_neg d30, if_neg d31, if_neg d32, if_pos rfl], inv⟩
        simp only [f_RS_word, if_neg q0, if_neg q20, if_neg p0, if_pos p4, e1, Option.bind_some, bnd, if_pos, if_neg d30, if_neg d31, if_neg d32, z21, chl]
      | 4, _ =>
        refine ⟨_, _, M', ?_, by rw [e29, hMo]; unfold wdX; rw [if_neg d40, if_neg d41, if_neg d42, if_neg d43, if_pos rfl], inv⟩
        simp only [f_RS_word, if_neg q0, if_neg q20, if_neg p0, if_pos p4, e1, Option.bind_some, bnd, if_neg d40, if_neg d41, if_neg d42, if_neg d43, z0, chs]
      | v + 5, hv => exact absurd hv (by omega)
    · have e4 : (nI 4).toInt = 4 := rfl
      refine ⟨-1, μ, M', ?_, ?_, inv_read0 h kM k1⟩
      · simp only [f_RS_word, f_RS_word_19, if_neg q0, if_neg q20]
        by_cases h1 : y < nI 0
        · rw [if_pos h1]
        · rw [if_neg h1, if_neg (fun q => hy ?_)]
          have h3 := i_le.mp q
          have h4 : ¬ y.toInt < (nI 0).toInt := fun g => h1 (i_lt.mpr g)
          omega
      · have hy0 : ∀ v, v < 5 → ¬ y = nI v := fun v hv q => hy (by rw [q, nI_T (by omega)]; omega)
        rw [hMo]
        unfold wdX
        rw [if_neg (hy0 0 (by decide)), if_neg (hy0 1 (by decide)), if_neg (hy0 2 (by decide)), if_neg (hy0 3 (by decide)), if_neg (hy0 4 (by decide))]
  · have hin := in_0 (x := x) (lo := 0) (hi := 19) (l := 0) (h := 19) (by decide) (by decide) (by omega)
    have e20 : (nI 20).toInt = 20 := rfl
    refine ⟨-1, μ, μ 29, ?_, ?_, inv_same h⟩
    · simp only [f_RS_word, f_RS_word_19]
      by_cases h1 : x < nI 0
      · rw [if_pos h1]
      · have h4 : ¬ x.toInt < (nI 0).toInt := fun g => h1 (i_lt.mpr g)
        rw [if_neg h1, if_pos (i_le.mpr (by rw [e20]; omega))]
    · simp only [f_Mo_word, hin, Option.bind_some]
      simp only [if_pos]
