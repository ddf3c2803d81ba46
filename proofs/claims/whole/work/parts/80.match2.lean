def zpos : List Nat := [10, 11, 12, 13, 14, 15, 16, 17, 44, 45, 46, 47, 77, 78, 79, 80, 20, 21, 22, 23, 24, 25, 26, 27, 28, 29, 30, 31, 32, 33, 34, 35, 36, 37, 38, 39, 40, 41, 42, 43, 50, 51, 52, 53, 54, 55, 56, 57, 58, 59, 60, 61, 62, 63, 64, 65, 66, 67, 68, 69, 70, 71, 72, 73, 18, 19, 48, 49, 81, 82, 75, 76, 74, 83, 84, 85, 86, 87, 88, 97, 98, 99, 89, 90, 91, 92, 93, 94, 95, 96, 101, 102, 103, 104, 105, 106, 115, 116, 117, 107, 108, 109, 110, 111, 112, 113, 114, 100, 118, 119, 120, 121, 122, 123, 8, 9, 6, 7, 4, 5, 2, 3, 0, 1, 124, 125, 126, 127, 128, 129, 130, 131, 132, 133, 134, 135, 136, 137, 138, 139, 140, 141, 142]
theorem zpos_nd : va_nd zpos = true := by decide +kernel
theorem zl_zip {E : zE} {a b K V : Nat → Nat} : ∀ x ∈ List.zip zK zpos, zPr E a b K V x.2 x.1.1 x.1.2 := by
  unfold zK zpos
  simp only [List.zip_cons_cons, List.zip_nil_left]
  refine List.forall_mem_cons.mpr ⟨zl_0, ?_⟩
  refine List.forall_mem_cons.mpr ⟨zl_1, ?_⟩
  refine List.forall_mem_cons.mpr ⟨zl_2, ?_⟩
  refine List.forall_mem_cons.mpr ⟨zl_3, ?_⟩
  refine List.forall_mem_cons.mpr ⟨zl_4, ?_⟩
  refine List.forall_mem_cons.mpr ⟨zl_5, ?_⟩
  refine List.forall_mem_cons.mpr ⟨zl_6, ?_⟩
  refine List.forall_mem_cons.mpr ⟨zl_7, ?_⟩
  refine List.forall_mem_cons.mpr ⟨zl_8, ?_⟩
  refine List.forall_mem_cons.mpr ⟨zl_9, ?_⟩
  refine List.forall_mem_cons.mpr ⟨zl_10, ?_⟩
  refine List.forall_mem_cons.mpr ⟨zl_11, ?_⟩
  refine List.forall_mem_cons.mpr ⟨zl_12, ?_⟩
  refine List.forall_mem_cons.mpr ⟨zl_13, ?_⟩
  refine List.forall_mem_cons.mpr ⟨zl_14, ?_⟩
  refine List.forall_mem_cons.mpr ⟨zl_15, ?_⟩
  refine List.forall_mem_cons.mpr ⟨zl_16, ?_⟩
  refine List.forall_mem_cons.mpr ⟨zl_17, ?_⟩
  refine List.forall_mem_cons.mpr ⟨zl_18, ?_⟩
  refine List.forall_mem_cons.mpr ⟨zl_19, ?_⟩
  refine List.forall_mem_cons.mpr ⟨zl_20, ?_⟩
  refine List.forall_mem_cons.mpr ⟨zl_21, ?_⟩
  refine List.forall_mem_cons.mpr ⟨zl_22, ?_⟩
  refine List.forall_mem_cons.mpr ⟨zl_23, ?_⟩
  refine List.forall_mem_cons.mpr ⟨zl_24, ?_⟩
  refine List.forall_mem_cons.mpr ⟨zl_25, ?_⟩
  refine List.forall_mem_cons.mpr ⟨zl_26, ?_⟩
  refine List.forall_mem_cons.mpr ⟨zl_27, ?_⟩
  refine List.forall_mem_cons.mpr ⟨zl_28, ?_⟩
  refine List.forall_mem_cons.mpr ⟨zl_29, ?_⟩
  refine List.forall_mem_cons.mpr ⟨zl_30, ?_⟩
  refine List.forall_mem_cons.mpr ⟨zl_31, ?_⟩
  refine List.forall_mem_cons.mpr ⟨zl_32, ?_⟩
  refine List.forall_mem_cons.mpr ⟨zl_33, ?_⟩
  refine List.forall_mem_cons.mpr ⟨zl_34, ?_⟩
  refine List.forall_mem_cons.mpr ⟨zl_35, ?_⟩
  refine List.forall_mem_cons.mpr ⟨zl_36, ?_⟩
  refine List.forall_mem_cons.mpr ⟨zl_37, ?_⟩
  refine List.forall_mem_cons.mpr ⟨zl_38, ?_⟩
  refine List.forall_mem_cons.mpr ⟨zl_39, ?_⟩
  refine List.forall_mem_cons.mpr ⟨zl_40, ?_⟩
  refine List.forall_mem_cons.mpr ⟨zl_41, ?_⟩
  refine List.forall_mem_cons.mpr ⟨zl_42, ?_⟩
  refine List.forall_mem_cons.mpr ⟨zl_43, ?_⟩
  refine List.forall_mem_cons.mpr ⟨zl_44, ?_⟩
  refine List.forall_mem_cons.mpr ⟨zl_45, ?_⟩
  refine List.forall_mem_cons.mpr ⟨zl_46, ?_⟩
  refine List.forall_mem_cons.mpr ⟨zl_47, ?_⟩
  refine List.forall_mem_cons.mpr ⟨zl_48, ?_⟩
  refine List.forall_mem_cons.mpr ⟨zl_49, ?_⟩
  refine List.forall_mem_cons.mpr ⟨zl_50, ?_⟩
  refine List.forall_mem_cons.mpr ⟨zl_51, ?_⟩
  refine List.forall_mem_cons.mpr ⟨zl_52, ?_⟩
  refine List.forall_mem_cons.mpr ⟨zl_53, ?_⟩
  refine List.forall_mem_cons.mpr ⟨zl_54, ?_⟩
  refine List.forall_mem_cons.mpr ⟨zl_55, ?_⟩
  refine List.forall_mem_cons.mpr ⟨zl_56, ?_⟩
  refine List.forall_mem_cons.mpr ⟨zl_57, ?_⟩
  refine List.forall_mem_cons.mpr ⟨zl_58, ?_⟩
  refine List.forall_mem_cons.mpr ⟨zl_59, ?_⟩
  refine List.forall_mem_cons.mpr ⟨zl_60, ?_⟩
  refine List.forall_mem_cons.mpr ⟨zl_61, ?_⟩
  refine List.forall_mem_cons.mpr ⟨zl_62, ?_⟩
  refine List.forall_mem_cons.mpr ⟨zl_63, ?_⟩
  refine List.forall_mem_cons.mpr ⟨zl_64, ?_⟩
  refine List.forall_mem_cons.mpr ⟨zl_65, ?_⟩
  refine List.forall_mem_cons.mpr ⟨zl_66, ?_⟩
  refine List.forall_mem_cons.mpr ⟨zl_67, ?_⟩
  refine List.forall_mem_cons.mpr ⟨zl_68, ?_⟩
  refine List.forall_mem_cons.mpr ⟨zl_69, ?_⟩
  refine List.forall_mem_cons.mpr ⟨zl_70, ?_⟩
  refine List.forall_mem_cons.mpr ⟨zl_71, ?_⟩
  refine List.forall_mem_cons.mpr ⟨zl_72, ?_⟩
  refine List.forall_mem_cons.mpr ⟨zl_73, ?_⟩
  refine List.forall_mem_cons.mpr ⟨zl_74, ?_⟩
  refine List.forall_mem_cons.mpr ⟨zl_75, ?_⟩
  refine List.forall_mem_cons.mpr ⟨zl_76, ?_⟩
  refine List.forall_mem_cons.mpr ⟨zl_77, ?_⟩
  refine List.forall_mem_cons.mpr ⟨zl_78, ?_⟩
  refine List.forall_mem_cons.mpr ⟨zl_79, ?_⟩
  refine List.forall_mem_cons.mpr ⟨zl_80, ?_⟩
  refine List.forall_mem_cons.mpr ⟨zl_81, ?_⟩
  refine List.forall_mem_cons.mpr ⟨zl_82, ?_⟩
  refine List.forall_mem_cons.mpr ⟨zl_83, ?_⟩
  refine List.forall_mem_cons.mpr ⟨zl_84, ?_⟩
  refine List.forall_mem_cons.mpr ⟨zl_85, ?_⟩
  refine List.forall_mem_cons.mpr ⟨zl_86, ?_⟩
  refine List.forall_mem_cons.mpr ⟨zl_87, ?_⟩
  refine List.forall_mem_cons.mpr ⟨zl_88, ?_⟩
  refine List.forall_mem_cons.mpr ⟨zl_89, ?_⟩
  refine List.forall_mem_cons.mpr ⟨zl_90, ?_⟩
  refine List.forall_mem_cons.mpr ⟨zl_91, ?_⟩
  refine List.forall_mem_cons.mpr ⟨zl_92, ?_⟩
  refine List.forall_mem_cons.mpr ⟨zl_93, ?_⟩
  refine List.forall_mem_cons.mpr ⟨zl_94, ?_⟩
  refine List.forall_mem_cons.mpr ⟨zl_95, ?_⟩
  refine List.forall_mem_cons.mpr ⟨zl_96, ?_⟩
  refine List.forall_mem_cons.mpr ⟨zl_97, ?_⟩
  refine List.forall_mem_cons.mpr ⟨zl_98, ?_⟩
  refine List.forall_mem_cons.mpr ⟨zl_99, ?_⟩
  refine List.forall_mem_cons.mpr ⟨zl_100, ?_⟩
  refine List.forall_mem_cons.mpr ⟨zl_101, ?_⟩
  refine List.forall_mem_cons.mpr ⟨zl_102, ?_⟩
  refine List.forall_mem_cons.mpr ⟨zl_103, ?_⟩
  refine List.forall_mem_cons.mpr ⟨zl_104, ?_⟩
  refine List.forall_mem_cons.mpr ⟨zl_105, ?_⟩
  refine List.forall_mem_cons.mpr ⟨zl_106, ?_⟩
  refine List.forall_mem_cons.mpr ⟨zl_107, ?_⟩
  refine List.forall_mem_cons.mpr ⟨zl_108, ?_⟩
  refine List.forall_mem_cons.mpr ⟨zl_109, ?_⟩
  refine List.forall_mem_cons.mpr ⟨zl_110, ?_⟩
  refine List.forall_mem_cons.mpr ⟨zl_111, ?_⟩
  refine List.forall_mem_cons.mpr ⟨zl_112, ?_⟩
  refine List.forall_mem_cons.mpr ⟨zl_113, ?_⟩
  refine List.forall_mem_cons.mpr ⟨zl_114, ?_⟩
  refine List.forall_mem_cons.mpr ⟨zl_115, ?_⟩
  refine List.forall_mem_cons.mpr ⟨zl_116, ?_⟩
  refine List.forall_mem_cons.mpr ⟨zl_117, ?_⟩
  refine List.forall_mem_cons.mpr ⟨zl_118, ?_⟩
  refine List.forall_mem_cons.mpr ⟨zl_119, ?_⟩
  refine List.forall_mem_cons.mpr ⟨zl_120, ?_⟩
  refine List.forall_mem_cons.mpr ⟨zl_121, ?_⟩
  refine List.forall_mem_cons.mpr ⟨zl_122, ?_⟩
  refine List.forall_mem_cons.mpr ⟨zl_123, ?_⟩
  refine List.forall_mem_cons.mpr ⟨zl_124, ?_⟩
  refine List.forall_mem_cons.mpr ⟨zl_125, ?_⟩
  refine List.forall_mem_cons.mpr ⟨zl_126, ?_⟩
  refine List.forall_mem_cons.mpr ⟨zl_127, ?_⟩
  refine List.forall_mem_cons.mpr ⟨zl_128, ?_⟩
  refine List.forall_mem_cons.mpr ⟨zl_129, ?_⟩
  refine List.forall_mem_cons.mpr ⟨zl_130, ?_⟩
  refine List.forall_mem_cons.mpr ⟨zl_131, ?_⟩
  refine List.forall_mem_cons.mpr ⟨zl_132, ?_⟩
  refine List.forall_mem_cons.mpr ⟨zl_133, ?_⟩
  refine List.forall_mem_cons.mpr ⟨zl_134, ?_⟩
  refine List.forall_mem_cons.mpr ⟨zl_135, ?_⟩
  refine List.forall_mem_cons.mpr ⟨zl_136, ?_⟩
  refine List.forall_mem_cons.mpr ⟨zl_137, ?_⟩
  refine List.forall_mem_cons.mpr ⟨zl_138, ?_⟩
  refine List.forall_mem_cons.mpr ⟨zl_139, ?_⟩
  refine List.forall_mem_cons.mpr ⟨zl_140, ?_⟩
  refine List.forall_mem_cons.mpr ⟨zl_141, ?_⟩
  refine List.forall_mem_cons.mpr ⟨zl_142, ?_⟩
  exact fun x h => absurd h List.not_mem_nil
theorem zpos_len : zpos.length = 143 := by decide +kernel
theorem zl_all {E : zE} {a b K V : Nat → Nat} : ∀ (i : Nat) (κ : Nat × Nat), zK[i]? = some κ → ∃ k, zpos[i]? = some k ∧ zPr E a b K V k κ.1 κ.2 := by
  intro i κ h
  have hi : i < 143 := by
    have := (List.getElem?_eq_some_iff.mp h).1
    rw [zK_len] at this
    exact this
  have hk : zpos[i]? = some (zpos[i]'(by rw [zpos_len]; exact hi)) := List.getElem?_eq_getElem _
  refine ⟨_, hk, ?_⟩
  have hz : (List.zip zK zpos)[i]? = some (κ, zpos[i]'(by rw [zpos_len]; exact hi)) := by
    rw [List.getElem?_zip_eq_some]
    exact ⟨h, hk⟩
  exact zl_zip _ (List.mem_of_getElem? hz)
theorem zw_P {E : zE} {a b K V : Nat → Nat} {H : Heap} (hP : va_P E.1 vwCl (BX7 E a ++ BX8 E b) H) : va_P E.1 vwCl (zw (zGo E a b K V) zμ0) H := by
  rw [zX_eq] at hP
  intro i q hq
  unfold zw at hq
  rw [List.getElem?_map] at hq
  cases h1 : zK[i]? with
  | none => rw [h1] at hq; cases hq
  | some κ =>
    rw [h1] at hq
    cases hq
    obtain ⟨k, -, e, g1, g2⟩ := zl_all (E := E) (a := a) (b := b) (K := K) (V := V) i κ h1
    exact g2 _ _ (hP k _ g1)
theorem zw_inj {E : zE} {a b K V : Nat → Nat} {A : Nat → Prop} (hD : va_D A (BX7 E a ++ BX8 E b)) : zinj (zGo E a b K V) ∧ ∀ κ ∈ zK, A ((zGo E a b K V).2.2.1 κ.1 κ.2) := by
  rw [zX_eq] at hD
  refine ⟨fun κ h κ' h' e => ?_, fun κ h => ?_⟩
  · obtain ⟨i, hi⟩ := List.getElem?_of_mem h
    obtain ⟨j, hj⟩ := List.getElem?_of_mem h'
    obtain ⟨k, k1, x, g1, -⟩ := zl_all (E := E) (a := a) (b := b) (K := K) (V := V) i κ hi
    obtain ⟨k', k1', x', g1', -⟩ := zl_all (E := E) (a := a) (b := b) (K := K) (V := V) j κ' hj
    have ek := hD.1 k k' _ _ g1 g1' e
    subst ek
    have ej := va_nd_inj zpos zpos_nd i j k k1 k1'
    subst ej
    exact Option.some.inj (hi.symm.trans hj)
  · obtain ⟨i, hi⟩ := List.getElem?_of_mem h
    obtain ⟨k, -, x, g1, -⟩ := zl_all (E := E) (a := a) (b := b) (K := K) (V := V) i κ hi
    exact hD.2 k _ g1
/-- the start is as it must be -/
theorem zμ0_inv : zInv zμ0 := by
  refine ⟨⟨((fun k => if k = 2 then 2 else if k = 3 then 5 else if k = 5 then 1 else 0), fun _ => 0, fun _ => 0, fun _ => 0), ?_, ?_, ?_⟩, ⟨0, ?_, rfl⟩, ?_, ?_, ?_, ?_, ?_⟩
  · exact ⟨⟨by decide, by decide, by decide, by decide, by decide, by decide⟩, fun i hi => absurd hi (Nat.not_lt_zero _), fun i j hi => absurd hi (Nat.not_lt_zero _), fun _ => 0, fun i j hi => absurd hi (Nat.not_lt_zero _)⟩
  · refine ⟨fun k hk => ?_, fun i hi => absurd hi (Nat.not_lt_zero _)⟩
    match k, hk with
    | 0, _ => rfl
    | 1, _ => rfl
    | 2, _ => rfl
    | 3, _ => rfl
    | 4, _ => rfl
    | 5, _ => rfl
    | k + 6, h => exact absurd h (by omega)
  · refine ⟨fun k hk => ?_, fun i hi => absurd hi (Nat.not_lt_zero _)⟩
    match k, hk with
    | 0, _ => rfl
    | 1, _ => rfl
    | 2, _ => rfl
    | 3, _ => rfl
    | 4, _ => rfl
    | 5, _ => rfl
    | k + 6, h => exact absurd h (by omega)
  · refine ⟨⟨fun i hi => ?_, fun i j hi hj e => ?_⟩, by decide, rfl, fun i hi => absurd hi (Nat.not_lt_zero _)⟩
    · show 4 ≤ 4 + i ∧ 4 + i < 4 + 6
      omega
    · have e' : 4 + i = 4 + j := e
      omega
  · refine ⟨⟨fun i hi => ?_, fun i j hi hj e => ?_⟩, Or.inl ⟨rfl, rfl⟩⟩
    · show 10 ≤ 10 + i ∧ 10 + i < 10 + 6
      omega
    · have e' : 10 + i = 10 + j := e
      omega
  · exact ⟨0, by decide, rfl, rfl, fun i hi => absurd hi (Nat.not_lt_zero _)⟩
  · intro k hk
    match k, hk with
    | 0, _ => exact Or.inl ⟨rfl, rfl⟩
    | 1, _ => exact Or.inl ⟨rfl, rfl⟩
    | 2, _ => exact Or.inl ⟨rfl, rfl⟩
    | 3, _ => exact Or.inl ⟨rfl, rfl⟩
    | k + 4, h => exact absurd h (by omega)
  · exact ⟨rfl, rfl, rfl, fun q _ => rfl⟩
  · exact ⟨rfl, rfl, rfl, fun q _ => rfl⟩
