/-! THE START: classes, words, String constants; then new ReadingStages(), new ReadingStagesModel(), and the loop -/
theorem st_arr {A : Array Value} {s : State} {ty : FieldType} (hno : ∀ C, ty ≠ .object C) (h : (Cond.arrayClass ty).before A s = true) : ∃ c : ClassId, ArrOfT s c ty ∧ va_RA s c ty := by
  obtain ⟨c, k, comp, h1, h2, h3⟩ := Cond.arrayClass_spec h
  refine ⟨c, fun n z => ⟨fun k h => (by cases h), k, h2, comp, h3⟩, ?_⟩
  cases ty with
  | object C => exact absurd rfl (hno C)
  | _ => exact h1
theorem st_over {A : Array Value} {s : State} {C : String} (h : (Cond.arrayOver (.object C)).before A s = true) : ∃ c : ClassId, ArrOfT s c (.object C) ∧ va_RA s c (.object C) := by
  obtain ⟨comp, c, k, h1, h2, h3, h4, h5⟩ := Cond.arrayOver_spec h
  exact ⟨c, fun n z => ⟨fun k h => (by cases h), k, h3, comp, h4⟩, k, comp, h3, h4, h1, h5⟩
theorem st_overA {A : Array Value} {s : State} {ty : FieldType} (h : (Cond.arrayOver (.array ty)).before A s = true) : ∃ c : ClassId, ArrOfT s c (.array ty) ∧ va_RA s c (.array ty) := by
  unfold Cond.before Cond.holds at h
  simp only [Cond.value, beq_iff_eq] at h
  cases hc : s.vm.findClass (FieldType.array ty).toString with
  | none => simp [hc] at h
  | some comp =>
    simp only [hc, Option.bind_some, Option.bind_eq_some_iff, Option.map_eq_some_iff] at h
    obtain ⟨c, hi, k, hk, hb⟩ := h
    cases hkk : k.kind with
    | array c2 t2 =>
      rw [hkk] at hb
      simp only [Bool.and_eq_true, decide_eq_true_eq] at hb
      obtain ⟨h1, h2⟩ := hb
      subst h1
      exact ⟨c, fun n z => ⟨fun k h => (by cases h), k, hk, c2, hkk⟩, h2⟩
    | _ => rw [hkk] at hb; simp at hb
theorem st_cls {A : Array Value} {s : State} (hts : ∀ w ∈ wsL_law, w.before A s = true) : ∃ D : va_G, ∀ (c : Nat) (q : vw_C), vwCl[c]? = some q → u_Kn s q.1 q.2.1 q.2.2 (D.1 c) (D.2 c) := by
  obtain ⟨c0, i0, h0⟩ := u_known (C := RX0) (T := TX0) (N := 2) (n := 2) hts inlX0 (hts _ w_29)
  obtain ⟨c1, i1, h1⟩ := u_known (C := RX1) (T := TX1) (N := 3) (n := 3) hts inlX1 (hts _ w_25)
  obtain ⟨c2, i2, h2⟩ := u_known (C := RX2) (T := TX2) (N := 2) (n := 2) hts inlX2 (hts _ w_19)
  obtain ⟨c3, i3, h3⟩ := u_known (C := RX3) (T := TX3) (N := 9) (n := 9) hts inlX3 (hts _ w_33)
  obtain ⟨c4, i4, h4⟩ := u_known (C := RX4) (T := TX4) (N := 13) (n := 13) hts inlX4 (hts _ w_37)
  obtain ⟨c5, i5, h5⟩ := u_known (C := RX5) (T := TX5) (N := 3) (n := 3) hts inlX5 (hts _ w_42)
  obtain ⟨c6, i6, h6⟩ := u_known (C := RX6) (T := TX6) (N := 9) (n := 9) hts inlX6 (hts _ w_14)
  obtain ⟨c7, i7, h7⟩ := u_known (C := RX7) (T := TX7) (N := 11) (n := 11) hts inlX7 (hts _ w_1)
  obtain ⟨c8, i8, h8⟩ := u_known (C := RX8) (T := TX8) (N := 27) (n := 27) hts inlX8 (hts _ w_4)
  refine ⟨(fun k => if k = 0 then c0 else if k = 1 then c1 else if k = 2 then c2 else if k = 3 then c3 else if k = 4 then c4 else if k = 5 then c5 else if k = 6 then c6 else if k = 7 then c7 else c8, fun k => if k = 0 then i0 else if k = 1 then i1 else if k = 2 then i2 else if k = 3 then i3 else if k = 4 then i4 else if k = 5 then i5 else if k = 6 then i6 else if k = 7 then i7 else i8), fun c q hq => ?_⟩
  match c, hq with
  | 0, hq => cases hq; exact h0
  | 1, hq => cases hq; exact h1
  | 2, hq => cases hq; exact h2
  | 3, hq => cases hq; exact h3
  | 4, hq => cases hq; exact h4
  | 5, hq => cases hq; exact h5
  | 6, hq => cases hq; exact h6
  | 7, hq => cases hq; exact h7
  | 8, hq => cases hq; exact h8
  | k + 9, hq => simp [vwCl] at hq
theorem st_nestC {A : Array Value} {s : State} (hT : ∀ w ∈ lw_tbl, w.before A s = true) : zNestC s := ⟨⟨va_Nw.of rfl (hT (.methodLinkNest RX7 11 yX6_init zhost) (by decide +kernel)), va_Nw.of rfl (hT (.methodLinkNest RX2 17 yX6_init zhost) (by decide +kernel)), va_Nw.of rfl (hT (.methodLinkNest RX1 22 yX6_init zhost) (by decide +kernel))⟩, ⟨va_Nw.of rfl (hT (.methodLinkNest RX7 34 yX1_init zhost) (by decide +kernel)), va_Nw.of rfl (hT (.methodLinkNest RX7 50 yX3_init zhost) (by decide +kernel)), va_Nw.of rfl (hT (.methodLinkNest RX4 11 yX3_init zhost) (by decide +kernel))⟩, va_Nw.of rfl (hT (.methodLinkNest RX7 57 yX4_init zhost) (by decide +kernel)), va_Nw.of rfl (hT (.methodLinkNest RX7 68 yX5_init zhost) (by decide +kernel))⟩
theorem st_nest {A : Array Value} {s : State} (hT : ∀ w ∈ lw_tbl, w.before A s = true) : zNest s := ⟨va_Nw.of rfl (hT (.methodLinkNest RX6 73 yX7_hasBit zhost) (by decide +kernel)), va_Nw.of rfl (hT (.methodLinkNest RX4 112 yX7_hasBit zhost) (by decide +kernel)), va_Nw.of rfl (hT (.methodLinkNest RX1 118 yX7_hasBit zhost) (by decide +kernel))⟩
theorem st_E {A : Array Value} {s : State} (hT : ∀ w ∈ lw_tbl, w.before A s = true) : ∃ E : zE, zKC E s := by
  have hts : ∀ w ∈ wsL_law, w.before A s = true := fun w h => hT w (in_law w h)
  obtain ⟨D, hD⟩ := st_cls hts
  obtain ⟨c0, a0, r0⟩ := st_arr (ty := .int) (fun C h => by cases h) (hts _ w_47)
  obtain ⟨c1, a1, r1⟩ := st_arr (ty := .char) (fun C h => by cases h) (hts _ w_72)
  obtain ⟨c2, a2, r2⟩ := st_arr (ty := .long) (fun C h => by cases h) (hts _ w_101)
  have o6 := hT (.arrayOver (.object RX6)) (by decide +kernel)
  have o5 := hT (.arrayOver (.object RX5)) (by decide +kernel)
  have oA := hT (.arrayOver (.array .int)) (by decide +kernel)
  obtain ⟨c3, a3, r3⟩ := st_over o6
  obtain ⟨c4, a4, r4⟩ := st_over o5
  obtain ⟨c5, a5, r5⟩ := st_overA oA
  refine ⟨(D, fun k => if k = 0 then c0 else if k = 1 then c1 else if k = 2 then c2 else if k = 3 then c3 else if k = 4 then c4 else c5), ⟨hD, fun k q hq => ?_⟩, st_nestC hT, va_AO.of o6, va_AO.of o5, oA⟩
  match k, hq with
  | 0, hq => cases hq; exact ⟨a0, r0⟩
  | 1, hq => cases hq; exact ⟨a1, r1⟩
  | 2, hq => cases hq; exact ⟨a2, r2⟩
  | 3, hq => cases hq; exact ⟨a3, r3⟩
  | 4, hq => cases hq; exact ⟨a4, r4⟩
  | 5, hq => cases hq; exact ⟨a5, r5⟩
  | k + 6, hq => simp [ztys] at hq
def st_tm (i : Nat) : Term := if i = 0 then .string RX7 337 else if i = 1 then .string RX1 79 else if i = 2 then .string RX1 81 else .string RX1 83
theorem st_str {A : Array Value} {s : State} (hT : ∀ w ∈ lw_tbl, w.before A s = true) (hgv : (Jvm.Cond.and given_1 narrow_1).before A s = true) : ∃ K V : Nat → Nat, (vk_S 4 zlenS zbytS K V (fun q : Nat => s.heap.size ≤ q) s s.heap ∧ va_Z RJ0 "COMPACT_STRINGS" "Z" (.int 1) (fun q : Nat => s.heap.size ≤ q) s s.heap ∧ va_Zq RJ3 "SIOOBE_FORMATTER" "Ljava/util/function/BiFunction;" (fun q : Nat => s.heap.size ≤ q) s s.heap) ∧ vk_R RX7 337 "none" (K 0) s ∧ vk_R RX1 79 "steady" (K 1) s ∧ vk_R RX1 81 "growing" (K 2) s ∧ vk_R RX1 83 "doubling" (K 3) s := by
  have hs := flat_of_before _ hgv
  have hA : ∀ a : Nat, a < s.heap.size → ¬ (fun q : Nat => s.heap.size ≤ q) a := fun a h => Nat.not_le.mpr h
  have hN : ∀ i : Nat, i < 4 → zlenS.getD i 0 < 2 ^ 31 := by decide
  have hex : ∀ i : Nat, i < 4 → (Cond.exactly (st_tm i) "java/lang/String").before A s = true := by
    intro i hi
    match i, hi with
    | 0, _ => exact hs _ (by decide +kernel)
    | 1, _ => exact hs _ (by decide +kernel)
    | 2, _ => exact hs _ (by decide +kernel)
    | 3, _ => exact hs _ (by decide +kernel)
    | i + 4, h => exact absurd h (by omega)
  have hco : ∀ i : Nat, i < 4 → (Cond.eq (.field (st_tm i) "java/lang/String" "coder" "B") (.int 0)).before A s = true := by
    intro i hi
    match i, hi with
    | 0, _ => exact hs _ (by decide +kernel)
    | 1, _ => exact hs _ (by decide +kernel)
    | 2, _ => exact hs _ (by decide +kernel)
    | 3, _ => exact hs _ (by decide +kernel)
    | i + 4, h => exact absurd h (by omega)
  have har : ∀ i : Nat, i < 4 → (Cond.arrayOf (.field (st_tm i) "java/lang/String" "value" "[B") .byte).before A s = true := by
    intro i hi
    match i, hi with
    | 0, _ => exact hs _ (by decide +kernel)
    | 1, _ => exact hs _ (by decide +kernel)
    | 2, _ => exact hs _ (by decide +kernel)
    | 3, _ => exact hs _ (by decide +kernel)
    | i + 4, h => exact absurd h (by omega)
  have hle : ∀ i : Nat, i < 4 → (Cond.eq (.length (.field (st_tm i) "java/lang/String" "value" "[B")) (.int (Int32.ofNat (zlenS.getD i 0)))).before A s = true := by
    intro i hi
    match i, hi with
    | 0, _ => exact hs _ (by decide +kernel)
    | 1, _ => exact hs _ (by decide +kernel)
    | 2, _ => exact hs _ (by decide +kernel)
    | 3, _ => exact hs _ (by decide +kernel)
    | i + 4, h => exact absurd h (by omega)
  have hel : ∀ i : Nat, i < 4 → ∀ j : Nat, j < zlenS.getD i 0 → (Cond.eq (.elem (.field (st_tm i) "java/lang/String" "value" "[B") (.int (Int32.ofNat j))) (.int ((zbytS.getD i []).getD j 0))).before A s = true := by
    intro i hi
    match i, hi with
    | 0, _ => 
      intro j hj
      match j, hj with
      | 0, _ => exact hs _ (by decide +kernel)
      | 1, _ => exact hs _ (by decide +kernel)
      | 2, _ => exact hs _ (by decide +kernel)
      | 3, _ => exact hs _ (by decide +kernel)
      | j + 4, h => exact absurd (show j + 4 < 4 from h) (by omega)
    | 1, _ => 
      intro j hj
      match j, hj with
      | 0, _ => exact hs _ (by decide +kernel)
      | 1, _ => exact hs _ (by decide +kernel)
      | 2, _ => exact hs _ (by decide +kernel)
      | 3, _ => exact hs _ (by decide +kernel)
      | 4, _ => exact hs _ (by decide +kernel)
      | 5, _ => exact hs _ (by decide +kernel)
      | j + 6, h => exact absurd (show j + 6 < 6 from h) (by omega)
    | 2, _ => 
      intro j hj
      match j, hj with
      | 0, _ => exact hs _ (by decide +kernel)
      | 1, _ => exact hs _ (by decide +kernel)
      | 2, _ => exact hs _ (by decide +kernel)
      | 3, _ => exact hs _ (by decide +kernel)
      | 4, _ => exact hs _ (by decide +kernel)
      | 5, _ => exact hs _ (by decide +kernel)
      | 6, _ => exact hs _ (by decide +kernel)
      | j + 7, h => exact absurd (show j + 7 < 7 from h) (by omega)
    | 3, _ => 
      intro j hj
      match j, hj with
      | 0, _ => exact hs _ (by decide +kernel)
      | 1, _ => exact hs _ (by decide +kernel)
      | 2, _ => exact hs _ (by decide +kernel)
      | 3, _ => exact hs _ (by decide +kernel)
      | 4, _ => exact hs _ (by decide +kernel)
      | 5, _ => exact hs _ (by decide +kernel)
      | 6, _ => exact hs _ (by decide +kernel)
      | 7, _ => exact hs _ (by decide +kernel)
      | j + 8, h => exact absurd (show j + 8 < 8 from h) (by omega)
    | i + 4, h => exact absurd h (by omega)
  have hne : ∀ i j : Nat, i < 4 → j < 4 → i ≠ j → (Cond.not (Cond.eq (st_tm i) (st_tm j))).before A s = true ∨ (Cond.not (Cond.eq (st_tm j) (st_tm i))).before A s = true := by
    intro i j hi hj hij
    match i, hi, j, hj with
    | 0, _, 0, _ => exact absurd rfl hij
    | 0, _, 1, _ => exact Or.inl (hs _ (by decide +kernel))
    | 0, _, 2, _ => exact Or.inl (hs _ (by decide +kernel))
    | 0, _, 3, _ => exact Or.inl (hs _ (by decide +kernel))
    | 1, _, 0, _ => exact Or.inr (hs _ (by decide +kernel))
    | 1, _, 1, _ => exact absurd rfl hij
    | 1, _, 2, _ => exact Or.inl (hs _ (by decide +kernel))
    | 1, _, 3, _ => exact Or.inl (hs _ (by decide +kernel))
    | 2, _, 0, _ => exact Or.inr (hs _ (by decide +kernel))
    | 2, _, 1, _ => exact Or.inr (hs _ (by decide +kernel))
    | 2, _, 2, _ => exact absurd rfl hij
    | 2, _, 3, _ => exact Or.inl (hs _ (by decide +kernel))
    | 3, _, 0, _ => exact Or.inr (hs _ (by decide +kernel))
    | 3, _, 1, _ => exact Or.inr (hs _ (by decide +kernel))
    | 3, _, 2, _ => exact Or.inr (hs _ (by decide +kernel))
    | 3, _, 3, _ => exact absurd rfl hij
    | i + 4, h, _, _ => exact absurd h (by omega)
    | _, _, j + 4, h => exact absurd h (by omega)
  obtain ⟨K, V, hS, hev⟩ := vk_Sof (A := fun q : Nat => s.heap.size ≤ q) hN hex hco har hle hel hne hA
  refine ⟨K, V, ⟨hS, ?_, ?_⟩, ?_, ?_, ?_, ?_⟩
  · exact va_Zof (hT (.laysStatic RJ0 "COMPACT_STRINGS" "Z") (by decide +kernel)) (hT (.initialized RJ0) (by decide +kernel)) (va_eqt (hs (Cond.eq (.static RJ0 "COMPACT_STRINGS" "Z") (.int 1)) (by decide +kernel))) hA
  · exact va_Zqof (hT (.laysStatic RJ3 "SIOOBE_FORMATTER" "Ljava/util/function/BiFunction;") (by decide +kernel)) (hT (.initialized RJ3) (by decide +kernel)) (hs (Cond.isRef (.static RJ3 "SIOOBE_FORMATTER" "Ljava/util/function/BiFunction;")) (by decide +kernel)) hA
  · exact vk_R.of (hT (.stringRef RX7 337 "none") (by decide +kernel)) (hev 0 (by decide))
  · exact vk_R.of (hT (.stringRef RX1 79 "steady") (by decide +kernel)) (hev 1 (by decide))
  · exact vk_R.of (hT (.stringRef RX1 81 "growing") (by decide +kernel)) (hev 2 (by decide))
  · exact vk_R.of (hT (.stringRef RX1 83 "doubling") (by decide +kernel)) (hev 3 (by decide))
