/-! a place is read by the reference -/
def rulM (M : zOb) (sp ru : Nat) : Prop := M.1 1 2 = nI sp ∧ M.1 1 4 = nI ru
theorem s_lasts23 {N sp ru m : Nat} (M : zOb) (hM : rulM M sp ru) (hru : ru ≤ 2) (hm : m ≤ 9) : ∀ j k n x, k + j = m → 1 ≤ k → j < n → f_Mo_lasts_23 N M n (nI m) (nI x) (nI k) = some (nI (if ru = 2 then x * 2 ^ j else x)) := by
  intro j
  induction j with
  | zero =>
    intro k n x hk h1 hn
    obtain ⟨n, rfl⟩ : ∃ t, n = t + 1 := ⟨n - 1, by omega⟩
    rw [f_Mo_lasts_23, if_pos (nI_le (by omega) (by omega)), f_Mo_lasts_48, Nat.pow_zero, Nat.mul_one, ite_self]
  | succ j ih =>
    intro k n x hk h1 hn
    obtain ⟨n, rfl⟩ : ∃ t, n = t + 1 := ⟨n - 1, by omega⟩
    rw [f_Mo_lasts_23, if_neg (nI_ge (by omega) (by omega)), hM.2]
    by_cases h2 : ru = 2
    · subst h2
      rw [if_pos rfl]
      simp only [bnd]
      rw [pk_mul, nI_add, ih (k + 1) n (x * 2) (by omega) (by omega) (by omega), if_pos rfl]
      simp only [if_true]
      rw [Nat.pow_succ, Nat.mul_assoc, Nat.mul_comm 2]
    · rw [if_neg (fun q => h2 ((nI_eq (by omega) (by decide)).mp q)), f_Mo_lasts_48, if_neg h2]
theorem s_lasts {N sp ru m : Nat} (hN : 200 ≤ N) (M : zOb) (hM : rulM M sp ru) (hru : ru ≤ 2) (h1 : 1 ≤ m) (hm : m ≤ 9) : f_Mo_lasts N M (nI m) = some (nI (lasN sp ru m)) := by
  unfold lasN
  simp only [f_Mo_lasts, f_Mo_lasts_21, bnd]
  rw [hM.1, hM.2]
  by_cases hr : ru = 1
  · subst hr
    rw [if_pos rfl, pk_mul, s_lasts23 M hM hru hm (m - 1) 1 N _ (by omega) (by omega) (by omega), if_neg (by decide), if_pos rfl]
  · rw [if_neg (fun q => hr ((nI_eq (by omega) (by decide)).mp q)), s_lasts23 M hM hru hm (m - 1) 1 N _ (by omega) (by omega) (by omega), if_neg hr]
theorem r_189 {N p w s D : Nat} (k30 : zOb → Int32 → Int32 → Int32 → Option zOb) (M : zOb) (x2 : Int32) (hp : p < 7) (hw : w < 20) (hs : s ≤ 9) (e14 : M.1 14 w = nI s) (e19 : M.1 19 p = nI D) : f_Mo_reads_189 N k30 M (nI p) x2 (nI w) = k30 (zI M 19 p (nI (if 0 < s then D ||| 2 ^ w else D))) (nI p) x2 (nI (w + 1)) := by
  have z7 : zin (nI p) 7 := zin_nI (by omega) (by decide)
  have z20 : zin (nI w) 20 := zin_nI hw (by decide)
  have cp : (nI p).toNatClampNeg = p := nI_clamp (by omega)
  have cw : (nI w).toNatClampNeg = w := nI_clamp (by omega)
  simp only [f_Mo_reads_189, f_Mo_reads_212, if_pos z7, if_pos z20, cp, cw, e14, e19, bnd, nI_add]
  by_cases h0 : 0 < s
  · rw [if_neg (nI_ge h0 (by omega)), if_pos h0, b_one (by omega), b_or]
  · rw [if_pos (nI_le (by omega) (by decide)), if_neg h0, b_or, Nat.or_zero]
theorem r_140 {N p w s l C D sp ru : Nat} (hN : 200 ≤ N) (k30 : zOb → Int32 → Int32 → Int32 → Option zOb) (M : zOb) (x2 : Int32) (hp : p < 7) (hw : w < 20) (hs : s ≤ 9) (hR : rulM M sp ru) (hsp : 1 ≤ sp ∧ sp ≤ 4) (hru : ru ≤ 2) (e14 : M.1 14 w = nI s) (e15 : 0 < s → M.1 15 w = nI l ∧ l ≤ p) (e18 : M.1 18 p = nI C) (e19 : M.1 19 p = nI D) : ∃ M', f_Mo_reads_140 N k30 M (nI p) x2 (nI w) = k30 M' (nI p) x2 (nI (w + 1)) ∧ M'.1 14 w = nI (if 0 < s ∧ lasN sp ru s ≤ p - l then 0 else s) ∧ M'.1 18 p = nI (if 0 < s ∧ lasN sp ru s ≤ p - l then C ||| 2 ^ w else C) ∧ M'.1 19 p = nI (if 0 < (if 0 < s ∧ lasN sp ru s ≤ p - l then 0 else s) then D ||| 2 ^ w else D) ∧ (∀ w', w' ≠ w → M'.1 14 w' = M.1 14 w') ∧ (∀ p', p' ≠ p → M'.1 18 p' = M.1 18 p' ∧ M'.1 19 p' = M.1 19 p') ∧ (∀ j, j ≠ 14 → j ≠ 18 → j ≠ 19 → M'.1 j = M.1 j) ∧ M'.2 = M.2 := by
  have z7 : zin (nI p) 7 := zin_nI (by omega) (by decide)
  have z20 : zin (nI w) 20 := zin_nI hw (by decide)
  have cp : (nI p).toNatClampNeg = p := nI_clamp (by omega)
  have cw : (nI w).toNatClampNeg = w := nI_clamp (by omega)
  have h189 := r_189 (N := N) k30 M x2 hp hw hs e14 e19
  by_cases h0 : 0 < s
  · obtain ⟨q1, q2⟩ := e15 h0
    have hl := s_lasts hN M hR hru h0 hs
    have hLb := (lasN_wf (ru := ru) hsp).1 s h0 hs
    by_cases hc : lasN sp ru s ≤ p - l
    · have hcc : 0 < s ∧ lasN sp ru s ≤ p - l := ⟨h0, hc⟩
      have h2 := r_189 (N := N) (s := 0) (D := D) k30 (zI (zI M 18 p (nI (C ||| 2 ^ w))) 14 w (nI 0)) x2 hp hw (by omega) (by rw [zI_e, upd_s]) (by rw [zI_o _ _ (by decide), zI_o _ _ (by decide)]; exact e19)
      rw [if_neg (Nat.lt_irrefl 0)] at h2
      refine ⟨zI (zI (zI M 18 p (nI (C ||| 2 ^ w))) 14 w (nI 0)) 19 p (nI D), ?_, ?_, ?_, ?_, ?_, ?_, ?_, rfl⟩
      · rw [← h2]
        simp only [f_Mo_reads_140, if_pos z7, if_pos z20, cp, cw, e14, bnd]
        rw [if_neg (nI_ge h0 (by omega)), hl, Option.bind_some, q1, pk_sub q2, if_neg (nI_nlt hc (by omega)), e18, b_one (by omega), b_or]
      · rw [if_pos hcc, zI_o _ _ (by decide), zI_e, upd_s]
      · rw [if_pos hcc, zI_o _ _ (by decide), zI_o _ _ (by decide), zI_e, upd_s]
      · rw [if_pos hcc, if_neg (Nat.lt_irrefl 0), zI_e, upd_s]
      · intro w' hw'
        rw [zI_o _ _ (by decide), zI_e, upd_n _ _ hw', zI_o _ _ (by decide)]
      · intro p' hp'
        refine ⟨?_, ?_⟩
        · rw [zI_o _ _ (by decide), zI_o _ _ (by decide), zI_e, upd_n _ _ hp']
        · rw [zI_e, upd_n _ _ hp', zI_o _ _ (by decide), zI_o _ _ (by decide)]
      · intro j h14 h18 h19
        rw [zI_o _ _ h19, zI_o _ _ h14, zI_o _ _ h18]
    · have hcc : ¬ (0 < s ∧ lasN sp ru s ≤ p - l) := fun q => hc q.2
      refine ⟨zI M 19 p (nI (if 0 < s then D ||| 2 ^ w else D)), ?_, ?_, ?_, ?_, ?_, ?_, ?_, rfl⟩
      · rw [← h189]
        simp only [f_Mo_reads_140, if_pos z7, if_pos z20, cp, cw, e14, bnd]
        rw [if_neg (nI_ge h0 (by omega)), hl, Option.bind_some, q1, pk_sub q2, if_pos (nI_lt (by omega) (by omega))]
      · rw [if_neg hcc, zI_o _ _ (by decide)]; exact e14
      · rw [if_neg hcc, zI_o _ _ (by decide)]; exact e18
      · rw [if_neg hcc, zI_e, upd_s]
      · intro w' hw'
        rw [zI_o _ _ (by decide)]
      · intro p' hp'
        refine ⟨?_, ?_⟩
        · rw [zI_o _ _ (by decide)]
        · rw [zI_e, upd_n _ _ hp']
      · intro j h14 h18 h19
        rw [zI_o _ _ h19]
  · have hcc : ¬ (0 < s ∧ lasN sp ru s ≤ p - l) := fun q => h0 q.1
    refine ⟨zI M 19 p (nI (if 0 < s then D ||| 2 ^ w else D)), ?_, ?_, ?_, ?_, ?_, ?_, ?_, rfl⟩
    · rw [← h189]
      simp only [f_Mo_reads_140, if_pos z20, cw, e14, bnd]
      rw [if_pos (nI_le (by omega) (by decide))]
    · rw [if_neg hcc, zI_o _ _ (by decide)]; exact e14
    · rw [if_neg hcc, zI_o _ _ (by decide)]; exact e18
    · rw [if_neg hcc, zI_e, upd_s]
    · intro w' hw'
      rw [zI_o _ _ (by decide)]
    · intro p' hp'
      refine ⟨?_, ?_⟩
      · rw [zI_o _ _ (by decide)]
      · rw [zI_e, upd_n _ _ hp']
    · intro j h14 h18 h19
      rw [zI_o _ _ h19]
/-- a word that is met -/
theorem r_met {N p w s A B : Nat} (k30 : zOb → Int32 → Int32 → Int32 → Option zOb) (M : zOb) (x2 : Int32) (hp : p < 7) (hw : w < 20) (hs : s < 9) (e14 : M.1 14 w = nI s) (e16 : M.1 16 p = nI A) (e17 : M.1 17 p = nI B) : ∃ M1, (if zin (nI p) 7 then if zin (nI w) 20 then (if (M.1 14 (nI w).toNatClampNeg) = nI 0 then f_Mo_reads_76 N k30 M (nI p) x2 (nI w) ((nI 1) <<< (nI w &&& 31)) (M.1 16 (nI p).toNatClampNeg) (nI p) else f_Mo_reads_76 N k30 M (nI p) x2 (nI w) (nI 0) (M.1 16 (nI p).toNatClampNeg) (nI p)) else none else none) = f_Mo_reads_140 N k30 M1 (nI p) x2 (nI w) ∧ M1.1 14 w = nI (s + 1) ∧ M1.1 15 w = nI p ∧ M1.1 16 p = nI (if s = 0 then A ||| 2 ^ w else A) ∧ M1.1 17 p = nI (if 0 < s then B ||| 2 ^ w else B) ∧ (∀ w', w' ≠ w → M1.1 14 w' = M.1 14 w' ∧ M1.1 15 w' = M.1 15 w') ∧ (∀ p', p' ≠ p → M1.1 16 p' = M.1 16 p' ∧ M1.1 17 p' = M.1 17 p') ∧ (∀ j, j ≠ 14 → j ≠ 15 → j ≠ 16 → j ≠ 17 → M1.1 j = M.1 j) ∧ M1.2 = M.2 := by
  have z7 : zin (nI p) 7 := zin_nI (by omega) (by decide)
  have z20 : zin (nI w) 20 := zin_nI hw (by decide)
  have cp : (nI p).toNatClampNeg = p := nI_clamp (by omega)
  have cw : (nI w).toNatClampNeg = w := nI_clamp (by omega)
  have n9 : ¬ nI s = nI 9 := fun q => by have := (nI_eq (by omega) (by decide)).mp q; omega
  refine ⟨zI (zI (zI (zI M 16 p (nI (if s = 0 then A ||| 2 ^ w else A))) 17 p (nI (if 0 < s then B ||| 2 ^ w else B))) 14 w (nI (s + 1))) 15 w (nI p), ?_, ?_, ?_, ?_, ?_, ?_, ?_, ?_, rfl⟩
  · have g1 : ∀ x : Int32, (zI M 16 p x).1 17 p = nI B := fun x => by rw [zI_o _ _ (by decide)]; exact e17
    have g2 : ∀ x : Int32, (zI M 16 p x).1 14 w = nI s := fun x => by rw [zI_o _ _ (by decide)]; exact e14
    have g3 : ∀ x y : Int32, (zI (zI M 16 p x) 17 p y).1 14 w = nI s := fun x y => by rw [zI_o _ _ (by decide), zI_o _ _ (by decide)]; exact e14
    by_cases h0 : s = 0
    · subst h0
      simp only [f_Mo_reads_76, f_Mo_reads_101, f_Mo_reads_132, if_pos z7, if_pos z20, cp, cw, e14, e16, g1, g2, g3, bnd, nI_add, b_one (show w < 32 by omega), b_or, if_pos, Int32.le_refl, if_neg n9, Nat.or_zero, if_neg (Nat.lt_irrefl 0)]
    · have h1 : 0 < s := by omega
      simp only [f_Mo_reads_76, f_Mo_reads_101, f_Mo_reads_132, if_pos z7, if_pos z20, cp, cw, e14, e16, g1, g2, g3, bnd, nI_add, b_one (show w < 32 by omega), b_or, if_neg (nI_n0 h1 (by omega)), if_neg (nI_ge h1 (show s < 2 ^ 31 by omega)), if_neg n9, Nat.or_zero, if_neg h0, if_pos h1]
  · rw [zI_o _ _ (by decide), zI_e, upd_s]
  · rw [zI_e, upd_s]
  · rw [zI_o _ _ (by decide), zI_o _ _ (by decide), zI_o _ _ (by decide), zI_e, upd_s]
  · rw [zI_o _ _ (by decide), zI_o _ _ (by decide), zI_e, upd_s]
  · intro w' hw'
    refine ⟨?_, ?_⟩
    · rw [zI_o _ _ (by decide), zI_e, upd_n _ _ hw', zI_o _ _ (by decide), zI_o _ _ (by decide)]
    · rw [zI_e, upd_n _ _ hw', zI_o _ _ (by decide), zI_o _ _ (by decide), zI_o _ _ (by decide)]
  · intro p' hp'
    refine ⟨?_, ?_⟩
    · rw [zI_o _ _ (by decide), zI_o _ _ (by decide), zI_o _ _ (by decide), zI_e, upd_n _ _ hp']
    · rw [zI_o _ _ (by decide), zI_o _ _ (by decide), zI_e, upd_n _ _ hp', zI_o _ _ (by decide)]
  · intro j h14 h15 h16 h17
    rw [zI_o _ _ h15, zI_o _ _ h14, zI_o _ _ h17, zI_o _ _ h16]
/-- strength and last place of each word, as the reference has them -/
def refW (M : zOb) (σ : Nat → Nat × Nat) (w : Nat) : Prop := M.1 14 w = nI (σ w).1 ∧ (0 < (σ w).1 → M.1 15 w = nI (σ w).2)
def refAt (M : zOb) (σ : Nat → Nat × Nat) : Prop := ∀ w, w < 20 → refW M σ w
/-- what a place that is read leaves as it was -/
def refKeep (M M' : zOb) (p : Nat) : Prop := (∀ p', p' ≠ p → M'.1 16 p' = M.1 16 p' ∧ M'.1 17 p' = M.1 17 p' ∧ M'.1 18 p' = M.1 18 p' ∧ M'.1 19 p' = M.1 19 p') ∧ (∀ j, ¬ (14 ≤ j ∧ j ≤ 19) → M'.1 j = M.1 j) ∧ M'.2 = M.2
def rdP (M : zOb) (L : Nat → Nat) (p T : Nat) (σ : Nat → Nat × Nat) (i : Nat) (Mi : zOb) : Prop := (∀ w, w < i → refW Mi (stp L p T σ) w) ∧ (∀ w, i ≤ w → w < 20 → refW Mi σ w) ∧ Mi.1 16 p = nI (mkb (fun w => T.testBit w && decide ((σ w).1 = 0)) i) ∧ Mi.1 17 p = nI (mkb (fun w => T.testBit w && decide (0 < (σ w).1)) i) ∧ Mi.1 18 p = nI (mkb (isL L p T σ) i) ∧ Mi.1 19 p = nI (mkb (fun w => decide (0 < (stp L p T σ w).1)) i) ∧ refKeep M Mi p
theorem refW_congr {M M' : zOb} {σ : Nat → Nat × Nat} {w : Nat} (e1 : M'.1 14 w = M.1 14 w) (e2 : M'.1 15 w = M.1 15 w) (h : refW M σ w) : refW M' σ w := ⟨by rw [e1]; exact h.1, fun q => by rw [e2]; exact h.2 q⟩
theorem s_reads_w {N p sp ru pr S i n : Nat} (hN : 200 ≤ N) (hp : p < 7) (hsp : 1 ≤ sp ∧ sp ≤ 4) (hru : ru ≤ 2) {M Mi : zOb} {σ : Nat → Nat × Nat} (hS : S < 2 ^ 20) (hR : rulM M sp ru) (hpr : M.1 1 1 = nI pr) (hw : wfR (lasN sp ru) p σ) (hi : i < 20) (h : rdP M (lasN sp ru) p (aN S pr) σ i Mi) : ∃ M', rdP M (lasN sp ru) p (aN S pr) σ (i + 1) M' ∧ f_Mo_reads_30 N (n + 1) Mi (nI p) (nI S) (nI i) = f_Mo_reads_30 N n M' (nI p) (nI S) (nI (i + 1)) := by
  obtain ⟨h1, h2, e16, e17, e18, e19, hk1, hk2, hk3⟩ := h
  obtain ⟨g1, g2⟩ := h2 i (Nat.le_refl _) hi
  obtain ⟨w1, w2⟩ := hw i hi
  have hTb : aN S pr < 2 ^ 31 := by
    have : aN S pr < 2 ^ 20 := Nat.xor_lt_two_pow hS (Nat.lt_of_le_of_lt Nat.and_le_left hS)
    omega
  have hR' : rulM Mi sp ru := by unfold rulM; rw [hk2 1 (by omega)]; exact hR
  have hpr' : Mi.1 1 1 = nI pr := by rw [hk2 1 (by omega)]; exact hpr
  have hstep : ∀ M1 : zOb, ∀ s l : Nat, s = up1 (aN S pr) σ i → l = up2 p (aN S pr) σ i → M1.1 14 i = nI s → (0 < s → M1.1 15 i = nI l ∧ l ≤ p) → M1.1 16 p = nI (mkb (fun w => (aN S pr).testBit w && decide ((σ w).1 = 0)) (i + 1)) → M1.1 17 p = nI (mkb (fun w => (aN S pr).testBit w && decide (0 < (σ w).1)) (i + 1)) → (∀ w', w' ≠ i → M1.1 14 w' = Mi.1 14 w' ∧ M1.1 15 w' = Mi.1 15 w') → (∀ p', p' ≠ p → M1.1 16 p' = Mi.1 16 p' ∧ M1.1 17 p' = Mi.1 17 p') → (∀ j, j ≠ 14 → j ≠ 15 → j ≠ 16 → j ≠ 17 → M1.1 j = Mi.1 j) → M1.2 = Mi.2 → ∃ M', rdP M (lasN sp ru) p (aN S pr) σ (i + 1) M' ∧ f_Mo_reads_140 N (f_Mo_reads_30 N n) M1 (nI p) (nI S) (nI i) = f_Mo_reads_30 N n M' (nI p) (nI S) (nI (i + 1)) := by
    intro M1 s l hs hl b14 b15 b16 b17 bw bp bj b2
    have hs9 : s ≤ 9 := by rw [hs]; unfold up1; split <;> omega
    have hR1 : rulM M1 sp ru := by unfold rulM; rw [bj 1 (by decide) (by decide) (by decide) (by decide)]; exact hR'
    obtain ⟨M', q0, q14, q18, q19, qw, qp, qj, q2⟩ := r_140 (N := N) hN (f_Mo_reads_30 N n) M1 (nI S) hp hi hs9 hR1 hsp hru b14 b15 (by rw [bj 18 (by decide) (by decide) (by decide) (by decide)]; exact e18) (by rw [bj 19 (by decide) (by decide) (by decide) (by decide)]; exact e19)
    have hil : isL (lasN sp ru) p (aN S pr) σ i = decide (0 < s ∧ lasN sp ru s ≤ p - l) := by unfold isL; rw [← hs, ← hl]
    have hst : (stp (lasN sp ru) p (aN S pr) σ i).1 = if 0 < s ∧ lasN sp ru s ≤ p - l then 0 else s := by
      show (if isL (lasN sp ru) p (aN S pr) σ i then 0 else up1 (aN S pr) σ i) = _
      rw [hil, ← hs]
      by_cases hc : 0 < s ∧ lasN sp ru s ≤ p - l
      · rw [if_pos hc, if_pos (decide_eq_true hc)]
      · rw [if_neg hc, if_neg (by rw [decide_eq_true_iff]; exact hc)]
    have e15' : M'.1 15 = M1.1 15 := qj 15 (by decide) (by decide) (by decide)
    refine ⟨M', ⟨?_, ?_, ?_, ?_, ?_, ?_, ?_, ?_, ?_⟩, q0⟩
    · intro w hwi
      by_cases hwe : w = i
      · subst hwe
        refine ⟨by rw [q14, hst], fun h0 => ?_⟩
        rw [e15']
        show _ = nI (up2 p (aN S pr) σ w)
        rw [← hl]
        rw [hst] at h0
        have : 0 < s := by
          by_cases hc : 0 < s ∧ lasN sp ru s ≤ p - l
          · exact hc.1
          · rw [if_neg hc] at h0; exact h0
        exact (b15 this).1
      · exact refW_congr (by rw [qw w hwe, (bw w hwe).1]) (by rw [e15', (bw w hwe).2]) (h1 w (by omega))
    · intro w hwi hw20
      exact refW_congr (by rw [qw w (by omega), (bw w (by omega)).1]) (by rw [e15', (bw w (by omega)).2]) (h2 w (by omega) hw20)
    · rw [qj 16 (by decide) (by decide) (by decide)]; exact b16
    · rw [qj 17 (by decide) (by decide) (by decide)]; exact b17
    · rw [q18]
      congr 1
      show _ = if isL (lasN sp ru) p (aN S pr) σ i then mkb (isL (lasN sp ru) p (aN S pr) σ) i ||| 2 ^ i else mkb (isL (lasN sp ru) p (aN S pr) σ) i
      rw [hil]
      by_cases hc : 0 < s ∧ lasN sp ru s ≤ p - l
      · rw [if_pos hc, if_pos (decide_eq_true hc)]
      · rw [if_neg hc, if_neg (by rw [decide_eq_true_iff]; exact hc)]
    · rw [q19, ← hst]
      congr 1
      show _ = if decide (0 < (stp (lasN sp ru) p (aN S pr) σ i).1) = true then mkb (fun w => decide (0 < (stp (lasN sp ru) p (aN S pr) σ w).1)) i ||| 2 ^ i else mkb (fun w => decide (0 < (stp (lasN sp ru) p (aN S pr) σ w).1)) i
      by_cases hc : 0 < (stp (lasN sp ru) p (aN S pr) σ i).1
      · rw [if_pos hc, if_pos (decide_eq_true hc)]
      · rw [if_neg hc, if_neg (by rw [decide_eq_true_iff]; exact hc)]
    · intro p' hp'
      obtain ⟨k1, k2, k3, k4⟩ := hk1 p' hp'
      refine ⟨?_, ?_, ?_, ?_⟩
      · rw [qj 16 (by decide) (by decide) (by decide), (bp p' hp').1]; exact k1
      · rw [qj 17 (by decide) (by decide) (by decide), (bp p' hp').2]; exact k2
      · rw [(qp p' hp').1, bj 18 (by decide) (by decide) (by decide) (by decide)]; exact k3
      · rw [(qp p' hp').2, bj 19 (by decide) (by decide) (by decide) (by decide)]; exact k4
    · intro j hj
      rw [qj j (by omega) (by omega) (by omega), bj j (by omega) (by omega) (by omega) (by omega)]; exact hk2 j hj
    · rw [q2, b2]; exact hk3
  rw [f_Mo_reads_30, if_neg (nI_ge hi (by decide)), hpr', b_andN, s_has hTb (by omega), Option.bind_some]
  by_cases ht : (aN S pr).testBit i = true
  · rw [if_pos ht, if_neg nI_1_0]
    obtain ⟨M1, m0, m14, m15, m16, m17, mw, mp, mj, m2⟩ := r_met (N := N) (f_Mo_reads_30 N n) Mi (nI S) hp hi (by omega) g1 e16 e17
    rw [m0]
    refine hstep M1 ((σ i).1 + 1) p ?_ ?_ m14 (fun _ => ⟨m15, Nat.le_refl _⟩) ?_ ?_ mw mp mj m2
    · unfold up1; rw [if_pos ht]
    · unfold up2; rw [if_pos ht]
    · rw [m16]
      congr 1
      show _ = if ((aN S pr).testBit i && decide ((σ i).1 = 0)) = true then _ else _
      by_cases hc : (σ i).1 = 0
      · rw [if_pos hc, if_pos (by rw [ht, decide_eq_true hc]; rfl)]
      · rw [if_neg hc, if_neg (by rw [ht, decide_eq_false hc]; decide)]
    · rw [m17]
      congr 1
      show _ = if ((aN S pr).testBit i && decide (0 < (σ i).1)) = true then _ else _
      by_cases hc : 0 < (σ i).1
      · rw [if_pos hc, if_pos (by rw [ht, decide_eq_true hc]; rfl)]
      · rw [if_neg hc, if_neg (by rw [ht, decide_eq_false hc]; decide)]
  · rw [if_neg ht, if_pos rfl]
    have hf : (aN S pr).testBit i = false := Bool.eq_false_iff.mpr ht
    refine hstep Mi (σ i).1 (σ i).2 ?_ ?_ g1 (fun q => ⟨g2 q, by have := (w2 q).1; omega⟩) ?_ ?_ (fun _ _ => ⟨rfl, rfl⟩) (fun _ _ => ⟨rfl, rfl⟩) (fun _ _ _ _ _ => rfl) rfl
    · unfold up1; rw [if_neg ht]
    · unfold up2; rw [if_neg ht]
    · rw [e16]
      congr 1
      show _ = if ((aN S pr).testBit i && decide ((σ i).1 = 0)) = true then _ else _
      rw [if_neg (by rw [hf, Bool.false_and]; decide)]
    · rw [e17]
      congr 1
      show _ = if ((aN S pr).testBit i && decide (0 < (σ i).1)) = true then _ else _
      rw [if_neg (by rw [hf, Bool.false_and]; decide)]
theorem s_reads {N p sp ru pr S : Nat} (hN : 200 ≤ N) (hp : p < 7) (hsp : 1 ≤ sp ∧ sp ≤ 4) (hru : ru ≤ 2) {M : zOb} {σ : Nat → Nat × Nat} (hS : S < 2 ^ 20) (hR : rulM M sp ru) (hpr : M.1 1 1 = nI pr) (hw : wfR (lasN sp ru) p σ) (ha : refAt M σ) : ∃ M', f_Mo_reads N M (nI p) (nI S) = some M' ∧ refAt M' (stp (lasN sp ru) p (aN S pr) σ) ∧ M'.1 16 p = nI (frN (aN S pr) σ) ∧ M'.1 17 p = nI (agN (aN S pr) σ) ∧ M'.1 18 p = nI (loN (lasN sp ru) p (aN S pr) σ) ∧ M'.1 19 p = nI (liN (stp (lasN sp ru) p (aN S pr) σ)) ∧ refKeep M M' p := by
  have z7 : zin (nI p) 7 := zin_nI (by omega) (by decide)
  have cp : (nI p).toNatClampNeg = p := nI_clamp (by omega)
  obtain ⟨M', ⟨q1, q2, q3, q4, q5, q6, q7⟩, e⟩ := for_ex (fun n S' x => f_Mo_reads_30 N n S' (nI p) (nI S) x) 20 (fun i Mi => rdP M (lasN sp ru) p (aN S pr) σ i Mi) (fun Mi => some Mi) (fun n Mi _ => by
    show f_Mo_reads_30 N (n + 1) Mi (nI p) (nI S) (nI 20) = _
    rw [f_Mo_reads_30, if_pos (by decide)]) (fun n Mi i hi hP => s_reads_w hN hp hsp hru hS hR hpr hw hi hP) 20 0 N (zI (zI (zI (zI M 16 p (nI 0)) 17 p (nI 0)) 18 p (nI 0)) 19 p (nI 0)) (by omega) (by omega) (by
    refine ⟨fun w h => absurd h (by omega), fun w _ hw20 => refW_congr ?_ ?_ (ha w hw20), ?_, ?_, ?_, ?_, ?_, ?_, rfl⟩
    · rw [zI_o _ _ (by decide), zI_o _ _ (by decide), zI_o _ _ (by decide), zI_o _ _ (by decide)]
    · rw [zI_o _ _ (by decide), zI_o _ _ (by decide), zI_o _ _ (by decide), zI_o _ _ (by decide)]
    · rw [zI_o _ _ (by decide), zI_o _ _ (by decide), zI_o _ _ (by decide), zI_e, upd_s]; rfl
    · rw [zI_o _ _ (by decide), zI_o _ _ (by decide), zI_e, upd_s]; rfl
    · rw [zI_o _ _ (by decide), zI_e, upd_s]; rfl
    · rw [zI_e, upd_s]; rfl
    · intro p' hp'
      refine ⟨?_, ?_, ?_, ?_⟩
      · rw [zI_o _ _ (by decide), zI_o _ _ (by decide), zI_o _ _ (by decide), zI_e, upd_n _ _ hp']
      · rw [zI_o _ _ (by decide), zI_o _ _ (by decide), zI_e, upd_n _ _ hp', zI_o _ _ (by decide)]
      · rw [zI_o _ _ (by decide), zI_e, upd_n _ _ hp', zI_o _ _ (by decide), zI_o _ _ (by decide)]
      · rw [zI_e, upd_n _ _ hp', zI_o _ _ (by decide), zI_o _ _ (by decide), zI_o _ _ (by decide)]
    · intro j hj
      rw [zI_o _ _ (by omega), zI_o _ _ (by omega), zI_o _ _ (by omega), zI_o _ _ (by omega)])
  refine ⟨M', ?_, q1, q3, q4, q5, q6, q7⟩
  simp only [f_Mo_reads, if_pos z7, cp, bnd]
  exact e
