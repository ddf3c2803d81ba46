/-! a place is read by the class -/
theorem zI_o (S : zOb) {j j' i : Nat} (x : Int32) (h : j' ≠ j) : (zI S j i x).1 j' = S.1 j' := if_neg h
theorem zI_e (S : zOb) (j i : Nat) (x : Int32) : (zI S j i x).1 j = upd (S.1 j) i x := if_pos rfl
theorem zIr_o (S : zOb) {j j' : Nat} (f : Nat → Int32) (h : j' ≠ j) : (zIr S j f).1 j' = S.1 j' := if_neg h
theorem zIr_e (S : zOb) (j : Nat) (f : Nat → Int32) : (zIr S j f).1 j = f := if_pos rfl
def upN (k S : Nat) (σ : Nat → Nat × Nat) : Nat := mkb (fun w => (up1 S σ w).testBit k) 20
theorem due_end {L : Nat → Nat} (hL : wfL L) {p S n m q : Nat} {σ : Nat → Nat × Nat} (hp : p < 7) (hw : wfR L p σ) (hm : 1 ≤ m) (hmp : m ≤ p + 2) (hq : q < n) (hb : m = p + 2 ∨ (m ≤ p + 1 ∧ n ≤ p + L m)) : dueN L p S σ m q = dueN L p S σ (p + 2) q := by
  refine mkb_congr (fun w hw20 => ?_)
  have h1 := (hw w hw20).1
  congr 1
  congr 1
  rw [decide_eq_decide]
  constructor
  · exact fun h => ⟨by omega, h.2⟩
  · rintro ⟨h2, h3⟩
    refine ⟨?_, h3⟩
    rcases hb with hb | ⟨hb1, hb2⟩
    · omega
    · refine Nat.lt_of_not_le (fun h4 => ?_)
      have := hL.2 m ((σ w).1 + 1) hm h4 (by omega)
      omega
theorem due_s {L : Nat → Nat} {p S n m : Nat} {σ : Nat → Nat × Nat} (hp : p < 7) (hw : wfR L p σ) (hm : 1 ≤ m) (hmp : m ≤ p + 1) (hS : S < 2 ^ 20) : dueN L p S σ m (p + L m) ||| selN (m.testBit 2) (selN (m.testBit 1) (selN (m.testBit 0) S (upN 0 S σ)) (upN 1 S σ)) (upN 2 S σ) = dueN L p S σ (m + 1) (p + L m) := by
  refine (isM_or (isM_mk _) (isM_sel _ (isM_sel _ (isM_sel _ (isM_S hS) (isM_mk _)) (isM_mk _)) (isM_mk _))).to (fun w hw20 => ?_)
  have h1 := (hw w hw20).1
  have hu : up1 S σ w < 8 := by unfold up1; split <;> omega
  have e3 := b3e (up1 S σ w) hu m (by omega)
  cases hs : S.testBit w
  · simp
  · have eu : up1 S σ w = (σ w).1 + 1 := by unfold up1; rw [if_pos hs]
    rw [eu] at e3
    simp only [eu, Bool.true_and, Bool.not_true, Bool.false_and, Bool.false_or]
    rw [e3]
    by_cases hm2 : (σ w).1 + 1 = m
    · simp [hm2]
    · by_cases h5 : (σ w).1 + 1 < m
      · simp [hm2, h5, show (σ w).1 + 1 < m + 1 by omega]
      · simp [hm2, h5, show ¬ (σ w).1 + 1 < m + 1 by omega]
theorem due_n {L : Nat → Nat} {p S m q : Nat} {σ : Nat → Nat × Nat} (hq : q ≠ p + L m) : dueN L p S σ m q = dueN L p S σ (m + 1) q := by
  refine mkb_congr (fun w hw20 => ?_)
  congr 1
  congr 1
  rw [decide_eq_decide]
  constructor
  · exact fun h => ⟨by omega, h.2⟩
  · rintro ⟨h2, h3⟩
    refine ⟨?_, h3⟩
    have : (σ w).1 + 1 ≠ m := fun e => hq (by rw [← e]; exact h3.symm)
    omega
theorem s_139 {N n p S : Nat} {L : Nat → Nat} {σ : Nat → Nat × Nat} (hL : wfL L) (hn : n ≤ 7) (hp : p < n) (hS : S < 2 ^ 20) (hw : wfR L p σ) {R : zOb} (hB : rdB R n L) (r : Nat → Int32) : ∀ k m nf, m + k = p + 2 → 1 ≤ m → k < nf → f_Rd_step_139 N nf (zIr R (11 + p) (duR r L p S σ m n n)) (nI p) (nI S) (nI (upN 0 S σ)) (nI (upN 1 S σ)) (nI (upN 2 S σ)) (nI m) = f_Rd_step_203 N (zIr R (11 + p) (duR r L p S σ (p + 2) n n)) (nI p) (nI (upN 0 S σ)) (nI (upN 1 S σ)) (nI (upN 2 S σ)) := by
  intro k
  induction k with
  | zero =>
    intro m nf hm h1 hf
    obtain ⟨nf, rfl⟩ : ∃ t, nf = t + 1 := ⟨nf - 1, by omega⟩
    have : m = p + 2 := by omega
    subst this
    rw [f_Rd_step_139, nI_add, if_pos (nI_lt (by omega) (by omega))]
  | succ k ih =>
    intro m nf hm h1 hf
    obtain ⟨nf, rfl⟩ : ∃ t, nf = t + 1 := ⟨nf - 1, by omega⟩
    have e5 : (zIr R (11 + p) (duR r L p S σ m n n)).1 0 5 = nI n := by rw [zIr_o _ _ (by omega)]; exact hB.1
    have e1 : (zIr R (11 + p) (duR r L p S σ m n n)).1 1 m = nI (L m) := by rw [zIr_o _ _ (by omega)]; exact hB.2 m h1 (by omega)
    have zm : zin (nI m) 10 := zin_nI (by omega) (by decide)
    have cm : (nI m).toNatClampNeg = m := nI_clamp (by omega)
    have hLm := hL.1 m h1 (by omega)
    rw [f_Rd_step_139, nI_add, if_neg (nI_nlt (by omega) (by omega)), if_pos zm, e5]
    simp only [cm, e1, nI_add]
    by_cases hb : n ≤ p + L m
    · rw [if_pos (nI_le hb (by omega))]
      congr 2
      funext q
      unfold duR
      by_cases hq : p ≤ q ∧ q < n ∧ q < n
      · rw [if_pos hq, if_pos hq, due_end hL (by omega) hw h1 (by omega) hq.2.1 (Or.inr ⟨by omega, hb⟩)]
      · rw [if_neg hq, if_neg hq]
    · rw [if_neg (nI_ge (by omega) (by omega))]
      obtain ⟨y, ey, hy⟩ := s_ofStr (S := S) (m := m) (o := upN 0 S σ) (t := upN 1 S σ) (f := upN 2 S σ) (by omega)
      have z1 : zin (nI (p + 1)) 8 := zin_nI (by omega) (by decide)
      have z2 : zin (nI (p + L m)) 7 := zin_nI (by omega) (by decide)
      have c1 : (nI (p + 1)).toNatClampNeg = p + 1 := nI_clamp (by omega)
      have c2 : (nI (p + L m)).toNatClampNeg = p + L m := nI_clamp (by omega)
      have e11 : 10 + (p + 1) = 11 + p := by omega
      have ed : (zIr R (11 + p) (duR r L p S σ m n n)).1 (11 + p) (p + L m) = nI (dueN L p S σ m (p + L m)) := by
        rw [zIr_e]
        exact if_pos (by omega)
      simp only [if_pos z1, if_pos zm, if_pos z2, ey, Option.bind_some, c1, c2, e11, bnd, nI_add, hy, ed, b_or]
      rw [due_s (n := n) (by omega) hw h1 (by omega) hS, zI_r, zIr_rr, zIr_e]
      have eu : upd (duR r L p S σ m n n) (p + L m) (nI (dueN L p S σ (m + 1) (p + L m))) = duR r L p S σ (m + 1) n n := by
        funext q
        rw [upd_app]
        by_cases hq0 : q = p + L m
        · subst hq0
          rw [if_pos rfl]
          exact (if_pos (by omega)).symm
        · rw [if_neg hq0]
          unfold duR
          by_cases hq : p ≤ q ∧ q < n ∧ q < n
          · rw [if_pos hq, if_pos hq, due_n hq0]
          · rw [if_neg hq, if_neg hq]
      rw [eu]
      exact ih (m + 1) nf (by omega) (by omega) (by omega)
theorem due_lost {L : Nat → Nat} (hL : wfL L) {p S : Nat} {σ : Nat → Nat × Nat} (hp : p < 7) (hw : wfR L p σ) : dueN L p S σ (p + 2) p = loN L p S σ := by
  refine mkb_congr (fun w hw20 => ?_)
  obtain ⟨h1, h2⟩ := hw w hw20
  unfold isL up1 up2
  cases hs : S.testBit w
  · simp only [Bool.not_false, Bool.true_and, Bool.false_and, Bool.or_false, Bool.false_eq_true, if_false]
    rw [decide_eq_decide]
    constructor
    · rintro ⟨h3, h4⟩; exact ⟨h3, by have := h2 h3; omega⟩
    · rintro ⟨h3, h4⟩; exact ⟨h3, by have := h2 h3; omega⟩
  · simp only [Bool.not_true, Bool.true_and, Bool.false_and, Bool.false_or, if_true]
    rw [decide_eq_decide]
    have := hL.1 ((σ w).1 + 1) (by omega) (by omega)
    constructor
    · rintro ⟨h3, h4⟩; omega
    · rintro ⟨h3, h4⟩; omega
theorem due_next {L : Nat → Nat} (hL : wfL L) {p S q : Nat} {σ : Nat → Nat × Nat} (hp : p < 7) (hw : wfR L p σ) (hq : p < q) : dueN L p S σ (p + 2) q = duN L (stp L p S σ) q := by
  refine mkb_congr (fun w hw20 => ?_)
  obtain ⟨h1, h2⟩ := hw w hw20
  show _ = decide (0 < (if isL L p S σ w then 0 else up1 S σ w) ∧ up2 p S σ w + L (if isL L p S σ w then 0 else up1 S σ w) = q)
  unfold isL up1 up2
  cases hs : S.testBit w
  · simp only [Bool.not_false, Bool.true_and, Bool.false_and, Bool.or_false, Bool.false_eq_true, if_false, decide_eq_true_iff]
    rw [decide_eq_decide]
    by_cases hl : 0 < (σ w).1 ∧ L (σ w).1 ≤ p - (σ w).2
    · rw [if_pos hl]
      have := h2 hl.1
      constructor
      · rintro ⟨h3, h4⟩; omega
      · rintro ⟨h3, h4⟩; omega
    · rw [if_neg hl]
  · simp only [Bool.not_true, Bool.true_and, Bool.false_and, Bool.false_or, if_true, decide_eq_true_iff]
    rw [decide_eq_decide]
    have := hL.1 ((σ w).1 + 1) (by omega) (by omega)
    rw [if_neg (by omega)]
    constructor
    · rintro ⟨h3, h4⟩; exact ⟨by omega, h4⟩
    · rintro ⟨h3, h4⟩; exact ⟨by omega, h4⟩
theorem pl_next (L : Nat → Nat) (k p S : Nat) (σ : Nat → Nat × Nat) : aN (upN k S σ) (loN L p S σ) = plN k (stp L p S σ) := by
  refine (isM_aN (isM_mk _) (isM_mk _)).to (fun w hw => ?_)
  show ((up1 S σ w).testBit k && !isL L p S σ w) = (if isL L p S σ w then 0 else up1 S σ w).testBit k
  cases isL L p S σ w
  · simp
  · simp
theorem up_pl {S p : Nat} {L : Nat → Nat} {σ : Nat → Nat × Nat} (hp : p < 7) (hS : S < 2 ^ 20) (hw : wfR L p σ) : plN 0 σ ^^^ S = upN 0 S σ ∧ plN 1 σ ^^^ (S &&& plN 0 σ) = upN 1 S σ ∧ plN 2 σ ^^^ ((S &&& plN 0 σ) &&& plN 1 σ) = upN 2 S σ := by
  refine ⟨(isM_xor (isM_mk _) (isM_S hS)).to (fun w hw20 => ?_), (isM_xor (isM_mk _) (isM_and (isM_S hS) (isM_mk _))).to (fun w hw20 => ?_), (isM_xor (isM_mk _) (isM_and (isM_and (isM_S hS) (isM_mk _)) (isM_mk _))).to (fun w hw20 => ?_)⟩
  all_goals
    have h1 := (hw w hw20).1
    have e := b3s (σ w).1 (by omega)
    unfold up1
    cases hs : S.testBit w
    · simp
  · rw [if_pos rfl, e.1]; cases (σ w).1.testBit 0 <;> rfl
  · rw [if_pos rfl, e.2.1]; cases (σ w).1.testBit 0 <;> cases (σ w).1.testBit 1 <;> rfl
  · rw [if_pos rfl, e.2.2]; cases (σ w).1.testBit 0 <;> cases (σ w).1.testBit 1 <;> cases (σ w).1.testBit 2 <;> rfl
theorem fr_eq {S : Nat} {σ : Nat → Nat × Nat} (hS : S < 2 ^ 20) : aN S (liN σ) = frN S σ ∧ S &&& liN σ = agN S σ := by
  refine ⟨(isM_aN (isM_S hS) (isM_mk _)).to (fun w hw20 => ?_), (isM_and (isM_S hS) (isM_mk _)).to (fun w hw20 => ?_)⟩
  · congr 1
    rw [← decide_not, decide_eq_decide]
    omega
  · rfl
/-- what a place that is read leaves as it was -/
def rdKeep (R R' : zOb) (p : Nat) : Prop := (R'.1 0 = R.1 0 ∧ R'.1 1 = R.1 1) ∧ (∀ p', p' ≠ p → R'.1 7 p' = R.1 7 p' ∧ R'.1 8 p' = R.1 8 p' ∧ R'.1 9 p' = R.1 9 p') ∧ ∀ p', p' ≠ p + 1 → R'.1 2 p' = R.1 2 p' ∧ R'.1 3 p' = R.1 3 p' ∧ R'.1 4 p' = R.1 4 p' ∧ R'.1 (10 + p') = R.1 (10 + p')
theorem rdKeep.at {R R' : zOb} {p p' n : Nat} {L : Nat → Nat} {σ : Nat → Nat × Nat} (h : rdKeep R R' p) (hp : p' ≤ p) (ha : rdAt R n L p' σ) : rdAt R' n L p' σ := by
  obtain ⟨e1, e2, e3, e4⟩ := h.2.2 p' (by omega)
  obtain ⟨h1, h2, h3, h4⟩ := ha
  exact ⟨by rw [e1]; exact h1, by rw [e2]; exact h2, by rw [e3]; exact h3, fun q hq hqn => by rw [e4]; exact h4 q hq hqn⟩
theorem rdKeep.B {R R' : zOb} {p n : Nat} {L : Nat → Nat} (h : rdKeep R R' p) (hB : rdB R n L) : rdB R' n L := ⟨by rw [h.1.1]; exact hB.1, fun m h1 h9 => by rw [h.1.2]; exact hB.2 m h1 h9⟩
theorem s_step {N n p S : Nat} {L : Nat → Nat} {σ : Nat → Nat × Nat} (hN : 200 ≤ N) (hL : wfL L) (hn : n ≤ 7) (hp : p < n) (hS : S < 2 ^ 20) (hw : wfR L p σ) {R : zOb} (hB : rdB R n L) (ha : rdAt R n L p σ) : ∃ R', f_Rd_step N R (nI p) (nI S) = some R' ∧ rdAt R' n L (p + 1) (stp L p S σ) ∧ R'.1 7 p = nI (frN S σ) ∧ R'.1 8 p = nI (agN S σ) ∧ R'.1 9 p = nI (loN L p S σ) ∧ rdKeep R R' p := by
  obtain ⟨a1, a2, a3, a4⟩ := id ha
  have hk := s_known (p := p) (by omega) (fun w hw20 => by have := (hw w hw20).1; omega) ha
  obtain ⟨f1, f2⟩ := fr_eq (σ := σ) hS
  obtain ⟨u0, u1, u2⟩ := up_pl (p := p) (by omega) hS hw
  have z7 : zin (nI p) 7 := zin_nI (by omega) (by decide)
  have z8 : zin (nI p) 8 := zin_nI (by omega) (by decide)
  have z1 : zin (nI (p + 1)) 8 := zin_nI (by omega) (by decide)
  have cp : (nI p).toNatClampNeg = p := nI_clamp (by omega)
  have c1 : (nI (p + 1)).toNatClampNeg = p + 1 := nI_clamp (by omega)
  have e11 : 10 + (p + 1) = 11 + p := by omega
  have b2 : ∀ x y : Int32, (zI (zI R 7 p x) 8 p y).1 2 p = nI (plN 0 σ) := fun x y => by rw [zI_o _ _ (by omega), zI_o _ _ (by omega)]; exact a1
  have b3 : ∀ x y : Int32, (zI (zI R 7 p x) 8 p y).1 3 p = nI (plN 1 σ) := fun x y => by rw [zI_o _ _ (by omega), zI_o _ _ (by omega)]; exact a2
  have b4 : ∀ x y : Int32, (zI (zI R 7 p x) 8 p y).1 4 p = nI (plN 2 σ) := fun x y => by rw [zI_o _ _ (by omega), zI_o _ _ (by omega)]; exact a3
  generalize hZ : zI (zI R 7 p (nI (frN S σ))) 8 p (nI (agN S σ)) = Z
  have zB : rdB Z n L := by
    rw [← hZ]
    refine ⟨?_, fun m h1 h9 => ?_⟩
    · rw [zI_o _ _ (by omega), zI_o _ _ (by omega)]; exact hB.1
    · rw [zI_o _ _ (by omega), zI_o _ _ (by omega)]; exact hB.2 m h1 h9
  have zd : ∀ q, p ≤ q → q < n → Z.1 (10 + p) q = nI (duN L σ q) := by
    intro q h1 h2
    rw [← hZ, zI_o _ _ (by omega), zI_o _ _ (by omega)]; exact a4 q h1 h2
  have h97 := s_97 (x := upN 0 S σ) (y := upN 1 S σ) (z := upN 2 S σ) hN hn hp hS zB.1 zd
  have h139 := s_139 (N := N) hL hn hp hS hw zB (Z.1 (11 + p)) (p + 1) 1 N (by omega) (by omega) (by omega)
  generalize hT : zIr Z (11 + p) (duR (Z.1 (11 + p)) L p S σ (p + 2) n n) = T at h139
  have eTo : ∀ j, j ≠ 11 + p → T.1 j = Z.1 j := fun j hj => by rw [← hT, zIr_o _ _ hj]
  have eTd : ∀ q, p ≤ q → q < n → T.1 (11 + p) q = nI (dueN L p S σ (p + 2) q) := fun q h1 h2 => by
    rw [← hT, zIr_e]
    exact if_pos ⟨h1, h2, h2⟩
  have eTp : T.1 (11 + p) p = nI (loN L p S σ) := by rw [eTd p (Nat.le_refl _) hp, due_lost hL (by omega) hw]
  refine ⟨zI (zI (zI (zI T 9 p (nI (loN L p S σ))) 2 (p + 1) (nI (plN 0 (stp L p S σ)))) 3 (p + 1) (nI (plN 1 (stp L p S σ)))) 4 (p + 1) (nI (plN 2 (stp L p S σ))), ?_, ?_, ?_, ?_, ?_, ?_⟩
  · simp only [f_Rd_step]
    rw [if_neg (nI_nlt (Nat.zero_le _) (by omega)), hB.1, if_neg (nI_ge hp (by omega)), if_pos (nI_lt (by omega) (by decide)), hk]
    simp only [Option.bind_some, if_pos z7, if_pos z8, cp, bnd, b_andN, b_and, f1, f2, b2, b3, b4, b_xor, u0, u1, u2]
    rw [hZ, h97, h139]
    have g2 : ∀ x : Int32, (zI T 9 p x).1 9 p = x := fun x => by rw [zI_e, upd_s]
    have g3 : ∀ x y : Int32, (zI (zI T 9 p x) 2 (p + 1) y).1 9 p = x := fun x y => by rw [zI_o _ _ (by omega), zI_e, upd_s]
    have g4 : ∀ x y z : Int32, (zI (zI (zI T 9 p x) 2 (p + 1) y) 3 (p + 1) z).1 9 p = x := fun x y z => by rw [zI_o _ _ (by omega), zI_o _ _ (by omega), zI_e, upd_s]
    simp only [f_Rd_step_203, nI_add, if_pos z1, if_pos z7, cp, c1, bnd, e11, eTp, g2, g3, g4, b_andN, pl_next]
  · refine ⟨?_, ?_, ?_, fun q h1 h2 => ?_⟩
    · rw [zI_o _ _ (by omega), zI_o _ _ (by omega), zI_e, upd_s]
    · rw [zI_o _ _ (by omega), zI_e, upd_s]
    · rw [zI_e, upd_s]
    · rw [e11, zI_o _ _ (by omega), zI_o _ _ (by omega), zI_o _ _ (by omega), zI_o _ _ (by omega), eTd q (by omega) h2, due_next hL (by omega) hw (by omega)]
  · rw [zI_o _ _ (by omega), zI_o _ _ (by omega), zI_o _ _ (by omega), zI_o _ _ (by omega), eTo 7 (by omega), ← hZ, zI_o _ _ (by omega), zI_e, upd_s]
  · rw [zI_o _ _ (by omega), zI_o _ _ (by omega), zI_o _ _ (by omega), zI_o _ _ (by omega), eTo 8 (by omega), ← hZ, zI_e, upd_s]
  · rw [zI_o _ _ (by omega), zI_o _ _ (by omega), zI_o _ _ (by omega), zI_e, upd_s]
  · refine ⟨⟨?_, ?_⟩, fun p' hp' => ⟨?_, ?_, ?_⟩, fun p' hp' => ⟨?_, ?_, ?_, ?_⟩⟩
    · rw [zI_o _ _ (by omega), zI_o _ _ (by omega), zI_o _ _ (by omega), zI_o _ _ (by omega), eTo 0 (by omega), ← hZ, zI_o _ _ (by omega), zI_o _ _ (by omega)]
    · rw [zI_o _ _ (by omega), zI_o _ _ (by omega), zI_o _ _ (by omega), zI_o _ _ (by omega), eTo 1 (by omega), ← hZ, zI_o _ _ (by omega), zI_o _ _ (by omega)]
    · rw [zI_o _ _ (by omega), zI_o _ _ (by omega), zI_o _ _ (by omega), zI_o _ _ (by omega), eTo 7 (by omega), ← hZ, zI_o _ _ (by omega), zI_e, upd_n _ _ hp']
    · rw [zI_o _ _ (by omega), zI_o _ _ (by omega), zI_o _ _ (by omega), zI_o _ _ (by omega), eTo 8 (by omega), ← hZ, zI_e, upd_n _ _ hp', zI_o _ _ (by omega)]
    · rw [zI_o _ _ (by omega), zI_o _ _ (by omega), zI_o _ _ (by omega), zI_e, upd_n _ _ hp', eTo 9 (by omega), ← hZ, zI_o _ _ (by omega), zI_o _ _ (by omega)]
    · rw [zI_o _ _ (by omega), zI_o _ _ (by omega), zI_e, upd_n _ _ hp', zI_o _ _ (by omega), eTo 2 (by omega), ← hZ, zI_o _ _ (by omega), zI_o _ _ (by omega)]
    · rw [zI_o _ _ (by omega), zI_e, upd_n _ _ hp', zI_o _ _ (by omega), zI_o _ _ (by omega), eTo 3 (by omega), ← hZ, zI_o _ _ (by omega), zI_o _ _ (by omega)]
    · rw [zI_e, upd_n _ _ hp', zI_o _ _ (by omega), zI_o _ _ (by omega), zI_o _ _ (by omega), eTo 4 (by omega), ← hZ, zI_o _ _ (by omega), zI_o _ _ (by omega)]
    · rw [zI_o _ _ (by omega), zI_o _ _ (by omega), zI_o _ _ (by omega), zI_o _ _ (by omega), eTo _ (by omega), ← hZ, zI_o _ _ (by omega), zI_o _ _ (by omega)]
