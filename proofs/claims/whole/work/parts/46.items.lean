/-! a row of items of a sheet: item, copy; told -/
theorem s_row {ρ : Type} {μ : zM} {M : zOb} (hs : ∀ k, k < 4 → shOK (μ (24 + k)) M k) (x y i : Int32) {m : Nat} (hm : m ≤ 7) (A B : Option ρ) (C : Int32 → Option ρ) : (∃ r, f_RS_faultOfRow μ x y i (nI m) = some r ∧ ¬ r = nI 0 ∧ ((r = -1 ∧ (f_Mo_isSheet x).bind (fun q1 => if q1 = nI 0 then A else (f_Mo_in y.toInt64 (0 : Int64) (3 : Int64)).bind (fun q3 => if q3 = nI 0 then A else (f_Mo_found M x y i (nI m)).bind (fun q5 => if nI 0 ≤ q5 then B else C q5))) = A) ∨ (f_Mo_isSheet x).bind (fun q1 => if q1 = nI 0 then A else (f_Mo_in y.toInt64 (0 : Int64) (3 : Int64)).bind (fun q3 => if q3 = nI 0 then A else (f_Mo_found M x y i (nI m)).bind (fun q5 => if nI 0 ≤ q5 then B else C q5))) = C r)) ∨ (∃ k l j sz, k < 4 ∧ l < 4 ∧ j + m ≤ sz ∧ sz ≤ 24 ∧ x = nI k ∧ y = nI l ∧ i = nI j ∧ (μ (24 + k)).1 0 1 = nI l ∧ M.1 9 k = nI l ∧ (μ (24 + k)).1 0 2 = nI sz ∧ M.1 10 k = nI sz ∧ (∀ i, i < 24 → (μ (24 + k)).2.1 1 i = M.2.1 11 (24 * k + i)) ∧ f_RS_faultOfRow μ x y i (nI m) = some (nI 0) ∧ (f_Mo_isSheet x).bind (fun q1 => if q1 = nI 0 then A else (f_Mo_in y.toInt64 (0 : Int64) (3 : Int64)).bind (fun q3 => if q3 = nI 0 then A else (f_Mo_found M x y i (nI m)).bind (fun q5 => if nI 0 ≤ q5 then B else C q5))) = B) := by
  rcases arg_in x (n := 4) (by decide) with ⟨k, hk, rfl⟩ | hx
  · have z1 : zin (nI k) 4 := zin_nI hk (by decide)
    have c1 : (nI k).toNatClampNeg = k := nI_clamp (by omega)
    rcases arg_in y (n := 4) (by decide) with ⟨l, hl, rfl⟩ | hy
    · rcases hs k hk with ⟨s1, s2⟩ | ⟨ln, sz, s1, s2, s3, s4, s5, s6, s7⟩
      · refine Or.inl ⟨-11, ?_, by decide, Or.inr ?_⟩
        · simp only [f_RS_faultOfRow, isLn_eq, isSh_1 hk, isSh_1 hl, Option.bind_some]
          simp only [if_neg nI_1_0, if_pos z1, c1, s1, if_pos]
        · simp only [f_Mo_found, isShM_1 hk, in03_1 hl, Option.bind_some]
          simp only [if_neg nI_1_0, if_pos z1, c1, s2, if_neg m1_lt, Option.bind_some]
          rw [if_neg (by decide)]
      · have hlp : nI 0 ≤ nI ln := nI_le (Nat.zero_le _) (by omega)
        have hm1 := nI_m1 (l := ln) (by omega)
        by_cases hll : nI ln = nI l
        · have hl2 : ln = l := (nI_eq (by omega) (by omega)).mp hll
          subst hl2
          have e0 : (nI 0).toInt = 0 := rfl
          have em : (nI m).toInt = m := nI_T (by omega)
          have es : (nI sz).toInt = sz := nI_T (by omega)
          have hh := s_hasItems (μ (24 + k)) s2 s5 i (nI m)
          rw [em] at hh
          have hlo := T_lo i
          have hhi := T_hi i
          by_cases hi0 : i < nI 0
          · have hi1 := i_lt.mp hi0
            rw [if_neg (by omega)] at hh
            refine Or.inl ⟨-13, ?_, by decide, Or.inr ?_⟩
            · simp only [f_RS_faultOfRow, f_RS_faultOfRow_69, isLn_eq, isSh_1 hk, isSh_1 hl, Option.bind_some]
              simp only [if_neg nI_1_0, if_pos z1, c1, s3, if_neg hm1, if_pos, hh, Option.bind_some]
            · simp only [f_Mo_found, f_Mo_found_42, f_Mo_found_48, isShM_1 hk, in03_1 hl, Option.bind_some]
              simp only [if_neg nI_1_0, if_pos z1, c1, s4, if_pos hlp, if_pos, if_pos hi0, Option.bind_some]
              rw [if_neg (by decide)]
          · have hi1 : ¬ i.toInt < 0 := fun g => hi0 (i_lt.mpr (by rw [e0]; exact g))
            have es2 : (nI sz - i).toInt = sz - i.toInt := by rw [sub_T (by omega) (by omega), es]
            by_cases hc : nI m ≤ nI sz - i
            · have hc1 := i_le.mp hc
              rw [es2, em] at hc1
              rw [if_pos (by omega)] at hh
              rcases arg_in i (n := 25) (by decide) with ⟨j, hj, rfl⟩ | hz
              · have ej := nI_T (k := j) (by omega)
                refine Or.inr ⟨k, ln, j, sz, hk, hl, by omega, s2, rfl, rfl, rfl, s3, s4, s5, s6, s7, ?_, ?_⟩
                · simp only [f_RS_faultOfRow, f_RS_faultOfRow_69, isLn_eq, isSh_1 hk, isSh_1 hl, Option.bind_some]
                  simp only [if_neg nI_1_0, if_pos z1, c1, s3, if_neg hm1, if_pos, hh, Option.bind_some]
                · simp only [f_Mo_found, f_Mo_found_42, f_Mo_found_48, isShM_1 hk, in03_1 hl, Option.bind_some]
                  simp only [if_neg nI_1_0, if_pos z1, c1, s4, if_pos hlp, if_pos, if_neg hi0, s6, if_pos hc, Option.bind_some]
                  rw [if_pos (by decide)]
              · exact absurd ⟨by omega, by omega⟩ hz
            · have hc1 : ¬ (m : Int) ≤ sz - i.toInt := fun g => hc (i_le.mpr (by rw [es2, em]; exact g))
              rw [if_neg (by omega)] at hh
              refine Or.inl ⟨-13, ?_, by decide, Or.inr ?_⟩
              · simp only [f_RS_faultOfRow, f_RS_faultOfRow_69, isLn_eq, isSh_1 hk, isSh_1 hl, Option.bind_some]
                simp only [if_neg nI_1_0, if_pos z1, c1, s3, if_neg hm1, if_pos, hh, Option.bind_some]
              · simp only [f_Mo_found, f_Mo_found_42, f_Mo_found_48, isShM_1 hk, in03_1 hl, Option.bind_some]
                simp only [if_neg nI_1_0, if_pos z1, c1, s4, if_pos hlp, if_pos, if_neg hi0, s6, if_neg hc, Option.bind_some]
                rw [if_neg (by decide)]
        · refine Or.inl ⟨-12, ?_, by decide, Or.inr ?_⟩
          · simp only [f_RS_faultOfRow, isLn_eq, isSh_1 hk, isSh_1 hl, Option.bind_some]
            simp only [if_neg nI_1_0, if_pos z1, c1, s3, if_neg hm1, if_neg hll]
          · simp only [f_Mo_found, isShM_1 hk, in03_1 hl, Option.bind_some]
            simp only [if_neg nI_1_0, if_pos z1, c1, s4, if_pos hlp, if_neg hll, Option.bind_some]
            rw [if_neg (by decide)]
    · refine Or.inl ⟨-1, ?_, by decide, Or.inl ⟨rfl, ?_⟩⟩
      · simp only [f_RS_faultOfRow, f_RS_faultOfRow_14, isLn_eq, isSh_1 hk, isSh_0 hy, Option.bind_some]
        simp only [if_neg nI_1_0, if_pos]
      · simp only [isShM_1 hk, in03_0 hy, Option.bind_some]
        simp only [if_neg nI_1_0, if_pos]
  · refine Or.inl ⟨-1, ?_, by decide, Or.inl ⟨rfl, ?_⟩⟩
    · simp only [f_RS_faultOfRow, f_RS_faultOfRow_14, isSh_0 hx, Option.bind_some]
      simp only [if_pos]
    · simp only [isShM_0 hx, Option.bind_some]
      simp only [if_pos]
theorem s_cut (S : zOb) {l : Nat} (h : S.1 0 1 = nI l) (v : Int64) : ∃ w, f_Sh_cut S v = some w ∧ f_Mo_cut (nI l) v = some w := by
  simp only [f_Sh_cut, f_Mo_cut, f_Mo_cut_35, h]
  by_cases h0 : nI l = nI 0
  · simp only [if_pos h0]; exact ⟨_, rfl, rfl⟩
  · by_cases h1 : nI l = nI 1
    · simp only [if_neg h0, if_pos h1]; exact ⟨_, rfl, rfl⟩
    · by_cases h2 : nI l = nI 2
      · simp only [if_neg h0, if_neg h1, if_pos h2]; exact ⟨_, rfl, rfl⟩
      · simp only [if_neg h0, if_neg h1, if_neg h2]; exact ⟨_, rfl, rfl⟩
theorem s_put (S : zOb) {l j sz : Nat} (hj : j < sz) (hsz : sz ≤ 24) (h : S.1 0 1 = nI l) (h2 : S.1 0 2 = nI sz) (v : Int64) : ∃ w, f_Sh_put S (nI j) v = some (zLr S 1 (vp_updL (S.2.1 1) j w)) ∧ f_Mo_cut (nI l) v = some w := by
  obtain ⟨w, e1, e2⟩ := s_cut S h v
  refine ⟨w, ?_, e2⟩
  simp only [f_Sh_put, f_Sh_put_29, h2, e1, Option.bind_some, bnd]
  rw [if_neg (nI_nlt (Nat.zero_le _) (by omega)), if_neg (nI_ge hj (by omega)), if_neg (nI_ge (show j < 24 by omega) (by decide)), if_pos (zin_nI (show j < 24 by omega) (by decide)), nI_clamp (by omega)]
  rfl
theorem o_item {N : Nat} : zop_item N zInv := by
  intro μ x y i v h
  have hs := h.2.2.2.2.1
  rcases s_row hs x y i (m := 1) (by decide) (some ((-1 : Int32), μ 29)) ((f_Mo_cut y v).bind (fun q7 => if zin (((nI 24) * x) + i) 96 then bnd (zL (μ 29) 11 ((((nI 24) * x) + i).toNatClampNeg) q7) (fun Z9 => some ((nI 1), Z9)) else none)) (fun r => some (r, μ 29)) with ⟨r, e1, e2, e3⟩ | ⟨k, l, j, sz, hk, hl, hj, hsz, rfl, rfl, rfl, q1, q2, q3, q4, q5, e1, e2⟩
  · refine ⟨r, μ, μ 29, ?_, ?_, inv_same h⟩
    · rw [f_RS_item, e1, Option.bind_some, if_neg e2]
    · rw [show f_Mo_item (μ 29) x y i v = _ from rfl]
      rcases e3 with ⟨rfl, e3⟩ | e3
      · exact e3
      · exact e3
  · obtain ⟨w, g1, g2⟩ := s_put (μ (24 + k)) (l := l) (j := j) (sz := sz) (by omega) hsz q1 q3 v
    refine ⟨nI 1, zset μ (24 + k) (zLr (μ (24 + k)) 1 (vp_updL ((μ (24 + k)).2.1 1) j w)), zLr (μ 29) 11 (vp_updL ((μ 29).2.1 11) (24 * k + j) w), ?_, ?_, ?_⟩
    · have z1 : zin (nI k) 4 := zin_nI hk (by decide)
      have c1 : (nI k).toNatClampNeg = k := nI_clamp (by omega)
      rw [f_RS_item, e1, Option.bind_some]
      simp only [if_pos, if_pos z1, c1, g1, Option.bind_some, bnd]
    · rw [zset_n _ _ (by omega)]
      refine Eq.trans e2 ?_
      rw [g2, Option.bind_some, pk_mul, nI_add, if_pos (zin_nI (by omega) (by decide)), nI_clamp (by omega)]
      rfl
    · refine inv_sheet hk h rfl rfl rfl rfl rfl rfl (Or.inr ⟨l, sz, hl, hsz, q1, q2, q3, q4, ?_⟩) ?_
      · intro t ht
        show vp_updL _ j w t = vp_updL _ (24 * k + j) w (24 * k + t)
        rw [updL_app, updL_app]
        by_cases htj : t = j
        · rw [if_pos htj, if_pos (by omega)]
        · rw [if_neg htj, if_neg (by omega)]; exact q5 t ht
      · intro k' hk' hne
        refine ⟨rfl, rfl, fun t ht => ?_⟩
        show vp_updL _ (24 * k + j) w (24 * k' + t) = _
        rw [updL_app, if_neg (by omega)]
def cpL (f g : Nat → Int64) (sp dp n : Nat) : Nat → Int64 := fun t => if dp ≤ t ∧ t < dp + n then f (sp + (t - dp)) else g t
theorem cpL_0 (f g : Nat → Int64) (sp dp : Nat) : cpL f g sp dp 0 = g := by funext j; unfold cpL; rw [if_neg (by omega)]
theorem cpL_s (f g : Nat → Int64) (sp dp i : Nat) : vp_updL (cpL f g sp dp i) (dp + i) (f (sp + i)) = cpL f g sp dp (i + 1) := by
  funext j
  rw [updL_app]
  unfold cpL
  by_cases h : j = dp + i
  · rw [if_pos h, if_pos (by omega), h, show dp + i - dp = i by omega]
  · rw [if_neg h]
    by_cases h2 : dp ≤ j ∧ j < dp + i
    · rw [if_pos h2, if_pos (by omega)]
    · rw [if_neg h2, if_neg (by omega)]
theorem s_copy139 {N k j n : Nat} (hN : 200 ≤ N) (hk : k < 4) (hj : j + n ≤ 24) (M : zOb) : f_Mo_copy_139 N N M (nI k) (nI j) (nI n) (nI 0) = some (nI n, zLr M 11 (cpL (M.2.1 12) (M.2.1 11) 0 (24 * k + j) n)) := by
  have h := for_up (fun m S t => f_Mo_copy_139 N m S (nI k) (nI j) (nI n) t) 0 n (fun i => zLr M 11 (cpL (M.2.1 12) (M.2.1 11) 0 (24 * k + j) i)) (some (nI n, zLr M 11 (cpL (M.2.1 12) (M.2.1 11) 0 (24 * k + j) n))) ?_ ?_ (by omega) N (by omega)
  · simp only [cpL_0, zLr_id] at h
    exact h
  · intro m
    show f_Mo_copy_139 N (m + 1) _ (nI k) (nI j) (nI n) (nI n) = _
    rw [f_Mo_copy_139, if_pos (Int32.le_refl _)]
  · intro m i _ hi
    show f_Mo_copy_139 N (m + 1) (zLr M 11 (cpL (M.2.1 12) (M.2.1 11) 0 (24 * k + j) i)) (nI k) (nI j) (nI n) (nI i) = f_Mo_copy_139 N m (zLr M 11 (cpL (M.2.1 12) (M.2.1 11) 0 (24 * k + j) (i + 1))) (nI k) (nI j) (nI n) (nI (i + 1))
    rw [f_Mo_copy_139, if_neg (nI_ge hi (by omega)), if_pos (zin_nI (show i < 24 by omega) (by decide)), pk_mul, nI_add, nI_add, if_pos (zin_nI (by omega) (by decide)), nI_clamp (by omega), nI_clamp (by omega)]
    simp only [bnd]
    rw [nI_add, zL_r, zLr_rr, zLr_s, ← cpL_s, Nat.zero_add]
    rfl
theorem s_copy102 {N k k2 i0 j n : Nat} (hN : 200 ≤ N) (hk : k < 4) (hi0 : i0 + n ≤ 24) (M : zOb) : f_Mo_copy_102 N N M (nI k) (nI i0) (nI k2) (nI j) (nI n) (nI 0) = f_Mo_copy_139 N N (zLr M 12 (cpL (M.2.1 11) (M.2.1 12) (24 * k + i0) 0 n)) (nI k2) (nI j) (nI n) (nI 0) := by
  have h := for_up (fun m S t => f_Mo_copy_102 N m S (nI k) (nI i0) (nI k2) (nI j) (nI n) t) 0 n (fun i => zLr M 12 (cpL (M.2.1 11) (M.2.1 12) (24 * k + i0) 0 i)) (f_Mo_copy_139 N N (zLr M 12 (cpL (M.2.1 11) (M.2.1 12) (24 * k + i0) 0 n)) (nI k2) (nI j) (nI n) (nI 0)) ?_ ?_ (by omega) N (by omega)
  · simp only [cpL_0, zLr_id] at h
    exact h
  · intro m
    show f_Mo_copy_102 N (m + 1) _ (nI k) (nI i0) (nI k2) (nI j) (nI n) (nI n) = _
    rw [f_Mo_copy_102, if_pos (Int32.le_refl _)]
  · intro m i _ hi
    show f_Mo_copy_102 N (m + 1) (zLr M 12 (cpL (M.2.1 11) (M.2.1 12) (24 * k + i0) 0 i)) (nI k) (nI i0) (nI k2) (nI j) (nI n) (nI i) = f_Mo_copy_102 N m (zLr M 12 (cpL (M.2.1 11) (M.2.1 12) (24 * k + i0) 0 (i + 1))) (nI k) (nI i0) (nI k2) (nI j) (nI n) (nI (i + 1))
    rw [f_Mo_copy_102, if_neg (nI_ge hi (by omega)), pk_mul, nI_add, nI_add, if_pos (zin_nI (by omega) (by decide)), if_pos (zin_nI (show i < 24 by omega) (by decide)), nI_clamp (by omega), nI_clamp (by omega)]
    simp only [bnd]
    rw [nI_add, zL_r, zLr_rr, zLr_s, ← cpL_s, Nat.zero_add]
    rfl
theorem o_copy {N : Nat} (hN : 200 ≤ N) : zop_copy N zInv := by
  intro μ x i y j n h
  have hs := h.2.2.2.2.1
  rcases arg_in x (n := 4) (by decide) with ⟨k, hk, rfl⟩ | hx
  · have z1 : zin (nI k) 4 := zin_nI hk (by decide)
    have c1 : (nI k).toNatClampNeg = k := nI_clamp (by omega)
    rcases arg_in y (n := 4) (by decide) with ⟨k2, hk2, rfl⟩ | hy
    · have z2 : zin (nI k2) 4 := zin_nI hk2 (by decide)
      have c2 : (nI k2).toNatClampNeg = k2 := nI_clamp (by omega)
      rcases hs k hk with ⟨s1, s2⟩ | ⟨ln, sz, s1, s2, s3, s4, s5, s6, s7⟩
      · refine ⟨-11, μ, μ 29, ?_, ?_, inv_same h⟩
        · simp only [f_RS_copy, f_RS_copy_50, isSh_1 hk, isSh_1 hk2, Option.bind_some]
          simp only [if_neg nI_1_0, if_pos z1, if_pos z2, c1, s1, if_pos]
        · simp only [f_Mo_copy, f_Mo_copy_34, isShM_1 hk, isShM_1 hk2, Option.bind_some]
          simp only [if_neg nI_1_0, if_pos z1, c1, s2, if_pos (show (-1 : Int32) < nI 0 by decide)]
      · have hm1 := nI_m1 (l := ln) (by omega)
        have hlp : ¬ nI ln < nI 0 := nI_nlt (Nat.zero_le _) (by omega)
        rcases hs k2 hk2 with ⟨t1, t2⟩ | ⟨ln2, sz2, t1, t2, t3, t4, t5, t6, t7⟩
        · refine ⟨-11, μ, μ 29, ?_, ?_, inv_same h⟩
          · simp only [f_RS_copy, f_RS_copy_50, isSh_1 hk, isSh_1 hk2, Option.bind_some]
            simp only [if_neg nI_1_0, if_pos z1, if_pos z2, c1, c2, s3, t1, if_neg hm1, if_pos]
          · simp only [f_Mo_copy, f_Mo_copy_34, isShM_1 hk, isShM_1 hk2, Option.bind_some]
            simp only [if_neg nI_1_0, if_pos z1, if_pos z2, c1, c2, s4, t2, if_neg hlp, if_neg m1_lt]
        · have hm2 := nI_m1 (l := ln2) (by omega)
          have hlp2 : nI 0 ≤ nI ln2 := nI_le (Nat.zero_le _) (by omega)
          by_cases hll : nI ln = nI ln2
          · have e0 : (nI 0).toInt = 0 := rfl
            have es : (nI sz).toInt = sz := nI_T (by omega)
            have es2 : (nI sz2).toInt = sz2 := nI_T (by omega)
            have hh := s_hasItems (μ (24 + k)) s2 s5 i n
            have hh2 := s_hasItems (μ (24 + k2)) t2 t5 j n
            have := T_lo n
            have := T_hi n
            have := T_lo i
            have := T_hi i
            have := T_lo j
            have := T_hi j
            have n0 : n < nI 0 ↔ n.toInt < 0 := i_lt
            have i0 : i < nI 0 ↔ i.toInt < 0 := i_lt
            have j0 : j < nI 0 ↔ j.toInt < 0 := i_lt
            by_cases hc : (0 ≤ n.toInt ∧ 0 ≤ i.toInt ∧ i.toInt + n.toInt ≤ sz) ∧ (0 ≤ j.toInt ∧ j.toInt + n.toInt ≤ sz2)
            · obtain ⟨⟨g1, g2, g3⟩, g4, g5⟩ := hc
              rw [if_pos ⟨g1, g2, g3⟩] at hh
              rw [if_pos ⟨g1, g4, g5⟩] at hh2
              have d1 : ¬ nI sz - i < n := fun q => by
                have := i_lt.mp q
                rw [sub_T (by omega) (by omega), es] at this
                omega
              have d2 : n ≤ nI sz2 - j := i_le.mpr (by rw [sub_T (by omega) (by omega), es2]; omega)
              obtain ⟨nn, hnn, rfl⟩ : ∃ v, v < 25 ∧ n = nI v := by
                rcases arg_in n (n := 25) (by decide) with ⟨v, hv, rfl⟩ | hz
                · exact ⟨v, hv, rfl⟩
                · exact absurd ⟨by omega, by omega⟩ hz
              obtain ⟨ii, hii, rfl⟩ : ∃ v, v < 25 ∧ i = nI v := by
                rcases arg_in i (n := 25) (by decide) with ⟨v, hv, rfl⟩ | hz
                · exact ⟨v, hv, rfl⟩
                · exact absurd ⟨by omega, by omega⟩ hz
              obtain ⟨jj, hjj, rfl⟩ : ∃ v, v < 25 ∧ j = nI v := by
                rcases arg_in j (n := 25) (by decide) with ⟨v, hv, rfl⟩ | hz
                · exact ⟨v, hv, rfl⟩
                · exact absurd ⟨by omega, by omega⟩ hz
              have en := nI_T (k := nn) (by omega)
              have ei := nI_T (k := ii) (by omega)
              have ej := nI_T (k := jj) (by omega)
              have cn : (nI nn).toNatClampNeg = nn := nI_clamp (by omega)
              have ci : (nI ii).toNatClampNeg = ii := nI_clamp (by omega)
              have cj : (nI jj).toNatClampNeg = jj := nI_clamp (by omega)
              have pn : ¬ nI nn < nI 0 := nI_nlt (Nat.zero_le _) (by omega)
              have pi : ¬ nI ii < nI 0 := nI_nlt (Nat.zero_le _) (by omega)
              have pj : ¬ nI jj < nI 0 := nI_nlt (Nat.zero_le _) (by omega)
              have b1 : ii + nn ≤ 24 := by omega
              have b2 : jj + nn ≤ 24 := by omega
              refine ⟨nI nn, zset μ (24 + k2) (zLr (μ (24 + k2)) 1 (va_cpy ((μ (24 + k)).2.1 1) ((μ (24 + k2)).2.1 1) ii jj nn)), zLr (zLr (μ 29) 12 (cpL ((μ 29).2.1 11) ((μ 29).2.1 12) (24 * k + ii) 0 nn)) 11 (cpL (cpL ((μ 29).2.1 11) ((μ 29).2.1 12) (24 * k + ii) 0 nn) ((μ 29).2.1 11) 0 (24 * k2 + jj) nn), ?_, ?_, ?_⟩
              · simp only [f_RS_copy, isSh_1 hk, isSh_1 hk2, Option.bind_some, bnd]
                simp only [if_neg nI_1_0, if_pos z1, if_pos z2, c1, c2, s3, t3, if_neg hm1, if_neg hm2, if_pos hll, hh, hh2, Option.bind_some, if_pos pi, if_pos pj, if_pos pn, cn, ci, cj, if_pos b1, if_pos b2]
              · rw [zset_n _ _ (by omega)]
                simp only [f_Mo_copy, isShM_1 hk, isShM_1 hk2, Option.bind_some]
                simp only [if_neg nI_1_0, if_pos z1, if_pos z2, c1, c2, s4, t4, if_neg hlp, if_pos hlp2, if_pos hll, if_neg pi, if_neg pj, if_neg pn, s6, t6, if_neg d1, if_pos d2, s_copy102 hN hk b1, s_copy139 hN hk2 b2]
                rfl
              · refine inv_sheet hk2 h rfl rfl rfl rfl rfl rfl (Or.inr ⟨ln2, sz2, t1, t2, t3, t4, t5, t6, ?_⟩) ?_
                · intro t ht
                  show va_cpy _ _ ii jj nn t = cpL _ _ 0 (24 * k2 + jj) nn (24 * k2 + t)
                  unfold va_cpy cpL
                  by_cases hq : jj ≤ t ∧ t < jj + nn
                  · rw [if_pos hq, if_pos (by omega), if_pos (by omega), s7 _ (by omega), show 24 * k + (ii + (t - jj)) = 24 * k + ii + (0 + (24 * k2 + t - (24 * k2 + jj)) - 0) by omega]
                  · rw [if_neg hq, if_neg (by omega)]; exact t7 t ht
                · intro k' hk' hne
                  refine ⟨rfl, rfl, fun t ht => ?_⟩
                  show cpL _ _ 0 (24 * k2 + jj) nn (24 * k' + t) = _
                  unfold cpL
                  rw [if_neg (by omega)]
            · refine ⟨-13, μ, μ 29, ?_, ?_, inv_same h⟩
              · simp only [f_RS_copy, f_RS_copy_92, isSh_1 hk, isSh_1 hk2, Option.bind_some]
                simp only [if_neg nI_1_0, if_pos z1, if_pos z2, c1, c2, s3, t3, if_neg hm1, if_neg hm2, if_pos hll, hh, hh2, Option.bind_some]
                by_cases h1 : 0 ≤ n.toInt ∧ 0 ≤ i.toInt ∧ i.toInt + n.toInt ≤ sz
                · simp only [if_pos h1, if_neg nI_1_0, if_neg (show ¬ (0 ≤ n.toInt ∧ 0 ≤ j.toInt ∧ j.toInt + n.toInt ≤ sz2) by omega), if_pos]
                · simp only [if_neg h1, if_pos]
              · simp only [f_Mo_copy, f_Mo_copy_96, isShM_1 hk, isShM_1 hk2, Option.bind_some]
                simp only [if_neg nI_1_0, if_pos z1, if_pos z2, c1, c2, s4, t4, if_neg hlp, if_pos hlp2, if_pos hll, s6, t6]
                by_cases h1 : n < nI 0
                · rw [if_pos h1]
                · by_cases h2 : i < nI 0
                  · rw [if_neg h1, if_pos h2]
                  · by_cases h3 : j < nI 0
                    · rw [if_neg h1, if_neg h2, if_pos h3]
                    · rw [n0] at h1
                      rw [i0] at h2
                      rw [j0] at h3
                      have d1 : nI sz - i < n ↔ sz - i.toInt < n.toInt := by rw [i_lt, sub_T (by omega) (by omega), es]
                      have d2 : n ≤ nI sz2 - j ↔ n.toInt ≤ sz2 - j.toInt := by rw [i_le, sub_T (by omega) (by omega), es2]
                      rw [if_neg (fun q => h1 (n0.mp q)), if_neg (fun q => h2 (i0.mp q)), if_neg (fun q => h3 (j0.mp q))]
                      by_cases h4 : nI sz - i < n
                      · rw [if_pos h4]
                      · rw [if_neg h4]
                        rw [d1] at h4
                        rw [if_neg (fun q => hc (by have := d2.mp q; omega))]
          · refine ⟨-12, μ, μ 29, ?_, ?_, inv_same h⟩
            · simp only [f_RS_copy, isSh_1 hk, isSh_1 hk2, Option.bind_some]
              simp only [if_neg nI_1_0, if_pos z1, if_pos z2, c1, c2, s3, t3, if_neg hm1, if_neg hm2, if_neg hll]
            · simp only [f_Mo_copy, isShM_1 hk, isShM_1 hk2, Option.bind_some]
              simp only [if_neg nI_1_0, if_pos z1, if_pos z2, c1, c2, s4, t4, if_neg hlp, if_pos hlp2, if_neg hll]
    · refine ⟨-1, μ, μ 29, ?_, ?_, inv_same h⟩
      · simp only [f_RS_copy, f_RS_copy_14, isSh_1 hk, isSh_0 hy, Option.bind_some]
        simp only [if_neg nI_1_0, if_pos]
      · simp only [f_Mo_copy, f_Mo_copy_14, isShM_1 hk, isShM_0 hy, Option.bind_some]
        simp only [if_neg nI_1_0, if_pos]
  · refine ⟨-1, μ, μ 29, ?_, ?_, inv_same h⟩
    · simp only [f_RS_copy, f_RS_copy_14, isSh_0 hx, Option.bind_some]
      simp only [if_pos]
    · simp only [f_Mo_copy, f_Mo_copy_14, isShM_0 hx, Option.bind_some]
      simp only [if_pos]
