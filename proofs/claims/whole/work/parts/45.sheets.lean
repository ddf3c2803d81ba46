/-! sheets -/
theorem sub_T {a b : Int32} (h1 : -2147483648 ≤ a.toInt - b.toInt) (h2 : a.toInt - b.toInt < 2147483648) : (a - b).toInt = a.toInt - b.toInt := by
  rw [Int32.toInt_sub]
  exact Int.bmod_eq_of_le (by simpa using h1) (by simpa using h2)
theorem T_lo (x : Int32) : -2147483648 ≤ x.toInt := by have := Int32.le_toInt x; simpa using this
theorem T_hi (x : Int32) : x.toInt < 2147483648 := by have := Int32.toInt_lt x; simpa using this
theorem isSh_1 {k : Nat} (h : k < 4) : f_RS_isSheet (nI k) = some (nI 1) := by
  simp only [f_RS_isSheet, f_RS_isSheet_14]
  rw [if_neg (nI_nlt (Nat.zero_le _) (by omega)), if_neg (nI_ge h (by decide)), if_pos (Or.inr trivial)]
theorem i01 {p : Prop} [Decidable p] {x : Option Int32} (h : x = if p then some (nI 1) else some (nI 0)) : x = some (if p then nI 1 else nI 0) := by rw [h]; split <;> rfl
theorem isSh_0 {x : Int32} (h : ¬ (0 ≤ x.toInt ∧ x.toInt < (4 : Nat))) : f_RS_isSheet x = some (nI 0) := by
  have e0 : (nI 0).toInt = 0 := rfl
  have e4 : (nI 4).toInt = 4 := rfl
  simp only [f_RS_isSheet, f_RS_isSheet_13, f_RS_isSheet_14]
  by_cases h1 : x < nI 0
  · rw [if_pos h1, if_pos (Or.inl trivial)]
  · have h1' : ¬ x.toInt < 0 := fun g => h1 (i_lt.mpr (by rw [e0]; exact g))
    rw [if_neg h1, if_pos (i_le.mpr (by rw [e4]; omega)), if_pos (Or.inl trivial)]
theorem isLn_eq (x : Int32) : f_RS_isLane x = f_RS_isSheet x := rfl
theorem in03_1 {k : Nat} (h : k < 4) : f_Mo_in (nI k).toInt64 (0 : Int64) (3 : Int64) = some (nI 1) := in_1 (l := 0) (h := 3) (by decide) (by decide) (by omega) (by omega) (by omega)
theorem in03_0 {x : Int32} (h : ¬ (0 ≤ x.toInt ∧ x.toInt < (4 : Nat))) : f_Mo_in x.toInt64 (0 : Int64) (3 : Int64) = some (nI 0) := in_0 (l := 0) (h := 3) (by decide) (by decide) (by omega)
theorem isShM_1 {k : Nat} (h : k < 4) : f_Mo_isSheet (nI k) = some (nI 1) := by
  rw [f_Mo_isSheet, in03_1 h]; rfl
theorem isShM_0 {x : Int32} (h : ¬ (0 ≤ x.toInt ∧ x.toInt < (4 : Nat))) : f_Mo_isSheet x = some (nI 0) := by
  rw [f_Mo_isSheet, in03_0 h]; rfl
theorem s_hasItems (S : zOb) {sz : Nat} (hsz : sz ≤ 24) (e : S.1 0 2 = nI sz) (i n : Int32) : f_Sh_has S i n = some (if 0 ≤ n.toInt ∧ 0 ≤ i.toInt ∧ i.toInt + n.toInt ≤ sz then nI 1 else nI 0) := by
  have e0 : (nI 0).toInt = 0 := rfl
  have es : (nI sz).toInt = sz := nI_T (by omega)
  have := T_hi n
  have := T_lo n
  simp only [f_Sh_has, f_Sh_has_22, f_Sh_has_23, e]
  by_cases h1 : n < nI 0
  · have := i_lt.mp h1
    rw [if_pos h1, if_pos (Or.inl trivial), if_neg (by omega)]
  · have h1' : ¬ n.toInt < 0 := fun g => h1 (i_lt.mpr (by rw [e0]; exact g))
    rw [if_neg h1]
    by_cases h2 : i < nI 0
    · have := i_lt.mp h2
      rw [if_pos h2, if_pos (Or.inl trivial), if_neg (by omega)]
    · have h2' : ¬ i.toInt < 0 := fun g => h2 (i_lt.mpr (by rw [e0]; exact g))
      have es2 : (nI sz - n).toInt = sz - n.toInt := by rw [sub_T (by omega) (by omega), es]
      rw [if_neg h2]
      by_cases h3 : nI sz - n < i
      · have := i_lt.mp h3
        rw [if_pos h3, if_pos (Or.inl trivial), if_neg (by omega)]
      · have h3' : ¬ (sz : Int) - n.toInt < i.toInt := fun g => h3 (i_lt.mpr (by rw [es2]; exact g))
        rw [if_neg h3, if_pos (Or.inr trivial), if_pos (by omega)]
/-- a sheet changes, on both sides -/
theorem inv_sheet {μ : zM} {k : Nat} (hk : k < 4) {T M' : zOb} (h : zInv μ) (m1 : M'.1 1 = (μ 29).1 1) (m2 : M'.1 2 = (μ 29).1 2) (m4 : M'.1 4 = (μ 29).1 4) (m5 : M'.1 5 = (μ 29).1 5) (m7 : M'.1 7 = (μ 29).1 7) (m0 : M'.1 0 = (μ 29).1 0) (hT : shOK T M' k) (ho : ∀ k', k' < 4 → k' ≠ k → M'.1 9 k' = (μ 29).1 9 k' ∧ M'.1 10 k' = (μ 29).1 10 k' ∧ ∀ i, i < 24 → M'.2.1 11 (24 * k' + i) = (μ 29).2.1 11 (24 * k' + i)) : zInv (zset (zset μ (24 + k) T) 29 M') := by
  obtain ⟨⟨a, hw, hS, hM⟩, ⟨k0, hp, hk0⟩, hi, ht, hs, r1, r2⟩ := h
  have e : ∀ x, x ≠ 24 + k → zset μ (24 + k) T x = μ x := fun x hx => zset_n _ _ hx
  refine zInv_of ⟨a, hw, by rw [e 0 (by omega)]; exact hS, by rw [m1]; exact hM⟩ ⟨⟨k0, ?_, by rw [m0]; exact hk0⟩, imgOK_keep (fun x hx => e x (by omega)) m4 m5 (by rw [m0]) hi, ?_, ?_, ?_, ?_⟩
  · rw [m2]; exact pastOK_congr (e 16 (by omega)) (fun x h1 h2 => e x (by omega)) hp
  · rw [e 19 (by omega)]; exact tapeOK_keep m7 (by rw [m0]) ht
  · intro k' hk'
    by_cases hkk : k' = k
    · subst hkk; rw [zset_s]; exact hT
    · rw [e _ (by omega)]
      obtain ⟨q1, q2, q3⟩ := ho k' hk' hkk
      rcases hs k' hk' with ⟨s1, s2⟩ | ⟨ln, sz, s1, s2, s3, s4, s5, s6, s7⟩
      · exact Or.inl ⟨s1, by rw [q1]; exact s2⟩
      · exact Or.inr ⟨ln, sz, s1, s2, s3, by rw [q1]; exact s4, s5, by rw [q2]; exact s6, fun i hi => by rw [q3 i hi]; exact s7 i hi⟩
  · rw [e 21 (by omega)]; exact r1
  · rw [e 22 (by omega)]; exact r2
theorem updL_app (f : Nat → Int64) (k : Nat) (x : Int64) (j : Nat) : vp_updL f k x j = if j = k then x else f j := rfl
theorem zL_r (S : zOb) (j i : Nat) (x : Int64) : zL S j i x = zLr S j (vp_updL (S.2.1 j) i x) := rfl
theorem zLr_rr (S : zOb) (j : Nat) (f g : Nat → Int64) : zLr (zLr S j f) j g = zLr S j g := by
  unfold zLr
  congr 1
  congr 1
  funext j'
  dsimp only
  split <;> rfl
theorem zLr_id (S : zOb) (j : Nat) : zLr S j (S.2.1 j) = S := by
  unfold zLr
  apply Prod.ext
  · rfl
  · apply Prod.ext
    · funext j'
      dsimp only
      split
      · next h => rw [h]
      · rfl
    · rfl
/-- a loop that counts up, its state told -/
def zer (f : Nat → Int64) (b i : Nat) : Nat → Int64 := fun j => if b ≤ j ∧ j < b + i then 0 else f j
theorem zer_0 (f : Nat → Int64) (b : Nat) : zer f b 0 = f := by funext j; unfold zer; rw [if_neg (by omega)]
theorem zer_s (f : Nat → Int64) (b i : Nat) : vp_updL (zer f b i) (b + i) 0 = zer f b (i + 1) := by
  funext j
  rw [updL_app]
  unfold zer
  by_cases h : j = b + i
  · rw [if_pos h, if_pos (by omega)]
  · rw [if_neg h]
    by_cases h2 : b ≤ j ∧ j < b + i
    · rw [if_pos h2, if_pos (by omega)]
    · rw [if_neg h2, if_neg (by omega)]
theorem s_renew {N : Nat} (hN : 200 ≤ N) (S : zOb) (x y : Int32) : f_Sh_renew N S x y = some (zI (zI (zLr S 1 (zer (S.2.1 1) 0 24)) 0 1 x) 0 2 y) := by
  have h := for_up (fun n S t => f_Sh_renew_2 N n S x y t) 0 24 (fun i => zLr S 1 (zer (S.2.1 1) 0 i)) (some (zI (zI (zLr S 1 (zer (S.2.1 1) 0 24)) 0 1 x) 0 2 y)) ?_ ?_ (by omega) N (by omega)
  · simp only [zer_0, zLr_id] at h
    exact h
  · intro n
    show f_Sh_renew_2 N (n + 1) _ x y (nI 24) = _
    rw [f_Sh_renew_2, if_pos (by decide)]
    rfl
  · intro n i _ hi
    show f_Sh_renew_2 N (n + 1) (zLr S 1 (zer (S.2.1 1) 0 i)) x y (nI i) = f_Sh_renew_2 N n (zLr S 1 (zer (S.2.1 1) 0 (i + 1))) x y (nI (i + 1))
    rw [f_Sh_renew_2, if_neg (nI_ge hi (by decide)), if_pos (zin_nI hi (by decide)), nI_clamp (by omega)]
    simp only [bnd]
    rw [nI_add, zL_r, zLr_rr, zLr_s, ← zer_s, Nat.zero_add]
theorem s_sheet51 {N k : Nat} (hN : 200 ≤ N) (hk : k < 4) (M : zOb) (x : Int32) : f_Mo_sheet_51 N N M (nI k) x (nI 0) = some (x, zLr M 11 (zer (M.2.1 11) (24 * k) 24)) := by
  have h := for_up (fun n S t => f_Mo_sheet_51 N n S (nI k) x t) 0 24 (fun i => zLr M 11 (zer (M.2.1 11) (24 * k) i)) (some (x, zLr M 11 (zer (M.2.1 11) (24 * k) 24))) ?_ ?_ (by omega) N (by omega)
  · simp only [zer_0, zLr_id] at h
    exact h
  · intro n
    show f_Mo_sheet_51 N (n + 1) _ (nI k) x (nI 24) = _
    rw [f_Mo_sheet_51, if_pos (by decide)]
  · intro n i _ hi
    show f_Mo_sheet_51 N (n + 1) (zLr M 11 (zer (M.2.1 11) (24 * k) i)) (nI k) x (nI i) = f_Mo_sheet_51 N n (zLr M 11 (zer (M.2.1 11) (24 * k) (i + 1))) (nI k) x (nI (i + 1))
    rw [f_Mo_sheet_51, if_neg (nI_ge hi (by decide)), pk_mul, nI_add, if_pos (zin_nI (by omega) (by decide)), nI_clamp (by omega)]
    simp only [bnd]
    rw [nI_add, zL_r, zLr_rr, zLr_s, zer_s]
theorem inv_same {μ : zM} (h : zInv μ) : zInv (zset μ 29 (μ 29)) := by rw [zset_id]; exact h
theorem o_sheet {N : Nat} (hN : 200 ≤ N) : zop_sheet N zInv := by
  intro μ x y z h
  rcases arg_in x (n := 4) (by decide) with ⟨k, hk, rfl⟩ | hx
  · rcases arg_in y (n := 4) (by decide) with ⟨l, hl, rfl⟩ | hy
    · by_cases h24 : z ≤ nI 24
      · by_cases h0 : nI 0 ≤ z
        · obtain ⟨sz, hsz, rfl⟩ : ∃ sz, sz ≤ 24 ∧ z = nI sz := by
            have a1 := i_le.mp h24
            have a2 := i_le.mp h0
            have e0 : (nI 0).toInt = 0 := rfl
            have e4 : (nI 24).toInt = 24 := rfl
            rcases arg_in z (n := 25) (by decide) with ⟨v, hv, rfl⟩ | hz
            · exact ⟨v, by omega, rfl⟩
            · exact absurd ⟨by omega, by omega⟩ hz
          have z1 : zin (nI k) 4 := zin_nI hk (by decide)
          have c1 : (nI k).toNatClampNeg = k := nI_clamp (by omega)
          refine ⟨nI sz, zset μ (24 + k) (zI (zI (zLr (μ (24 + k)) 1 (zer ((μ (24 + k)).2.1 1) 0 24)) 0 1 (nI l)) 0 2 (nI sz)), zLr (zI (zI (μ 29) 9 k (nI l)) 10 k (nI sz)) 11 (zer ((μ 29).2.1 11) (24 * k) 24), ?_, ?_, ?_⟩
          · simp only [f_RS_sheet, isLn_eq, isSh_1 hk, isSh_1 hl, Option.bind_some, bnd]
            simp only [if_neg nI_1_0, if_pos h24, if_pos h0, if_pos z1, c1, s_renew hN, Option.bind_some]
          · rw [zset_n _ _ (by omega)]
            simp only [f_Mo_sheet, isShM_1 hk, in03_1 hl, Option.bind_some, bnd]
            simp only [if_neg nI_1_0, if_pos h24, if_pos h0, if_pos z1, c1, s_sheet51 hN hk]
            rfl
          · refine inv_sheet hk h rfl rfl rfl rfl rfl rfl (Or.inr ⟨l, sz, hl, hsz, rfl, ?_, rfl, ?_, ?_⟩) ?_
            · show upd _ k _ k = _; exact upd_s _ _ _
            · show upd _ k _ k = _; exact upd_s _ _ _
            · intro i hi
              show zer _ 0 24 i = zer _ (24 * k) 24 (24 * k + i)
              unfold zer
              rw [if_pos (by omega), if_pos (by omega)]
            · intro k' hk' hne
              refine ⟨upd_n _ _ hne, upd_n _ _ hne, fun i hi => ?_⟩
              show zer _ (24 * k) 24 (24 * k' + i) = _
              unfold zer
              rw [if_neg (by omega)]
        · refine ⟨-14, μ, μ 29, ?_, ?_, inv_same h⟩
          · simp only [f_RS_sheet, isLn_eq, isSh_1 hk, isSh_1 hl, Option.bind_some]
            simp only [if_neg nI_1_0, if_pos h24, if_neg h0]
          · simp only [f_Mo_sheet, isShM_1 hk, in03_1 hl, Option.bind_some]
            simp only [if_neg nI_1_0, if_pos h24, if_neg h0]
      · refine ⟨-1, μ, μ 29, ?_, ?_, inv_same h⟩
        · simp only [f_RS_sheet, f_RS_sheet_20, isLn_eq, isSh_1 hk, isSh_1 hl, Option.bind_some]
          simp only [if_neg nI_1_0, if_neg h24]
        · simp only [f_Mo_sheet, f_Mo_sheet_25, isShM_1 hk, in03_1 hl, Option.bind_some]
          simp only [if_neg nI_1_0, if_neg h24]
    · refine ⟨-1, μ, μ 29, ?_, ?_, inv_same h⟩
      · simp only [f_RS_sheet, f_RS_sheet_20, isLn_eq, isSh_1 hk, isSh_0 hy, Option.bind_some]
        simp only [if_neg nI_1_0, if_pos]
      · simp only [f_Mo_sheet, f_Mo_sheet_25, isShM_1 hk, in03_0 hy, Option.bind_some]
        simp only [if_neg nI_1_0, if_pos]
  · refine ⟨-1, μ, μ 29, ?_, ?_, inv_same h⟩
    · simp only [f_RS_sheet, f_RS_sheet_20, isSh_0 hx, Option.bind_some]
      simp only [if_pos]
    · simp only [f_Mo_sheet, f_Mo_sheet_25, isShM_0 hx, Option.bind_some]
      simp only [if_pos]
theorem m1_lt : ¬ nI 0 ≤ (-1 : Int32) := by decide
theorem nI_m1 {l : Nat} (h : l < 2 ^ 31) : ¬ nI l = (-1 : Int32) := fun q => by
  have h1 := i_eq.mp q
  have e : (-1 : Int32).toInt = -1 := rfl
  rw [nI_T h, e] at h1
  omega
theorem o_drop {N : Nat} (hN : 200 ≤ N) : zop_drop N zInv := by
  intro μ x h
  rcases arg_in x (n := 4) (by decide) with ⟨k, hk, rfl⟩ | hx
  · have z1 : zin (nI k) 4 := zin_nI hk (by decide)
    have c1 : (nI k).toNatClampNeg = k := nI_clamp (by omega)
    rcases h.2.2.2.2.1 k hk with ⟨s1, s2⟩ | ⟨ln, sz, s1, s2, s3, s4, s5, s6, s7⟩
    · refine ⟨-11, μ, μ 29, ?_, ?_, inv_same h⟩
      · simp only [f_RS_drop, isSh_1 hk, Option.bind_some]
        simp only [if_neg nI_1_0, if_pos z1, c1, s1, if_pos]
      · simp only [f_Mo_drop, isShM_1 hk, Option.bind_some]
        simp only [if_neg nI_1_0, if_pos z1, c1, s2, if_neg m1_lt]
    · refine ⟨nI sz, zset μ (24 + k) (zI (zI (zLr (μ (24 + k)) 1 (zer ((μ (24 + k)).2.1 1) 0 24)) 0 1 (-1)) 0 2 (nI 0)), zI (μ 29) 9 k (-1), ?_, ?_, ?_⟩
      · simp only [f_RS_drop, isSh_1 hk, Option.bind_some, bnd]
        simp only [if_neg nI_1_0, if_pos z1, c1, s3, if_neg (nI_m1 (l := ln) (by omega)), s5, s_renew hN, Option.bind_some]
      · rw [zset_n _ _ (by omega)]
        have e6 : (zI (μ 29) 9 k (-1)).1 10 k = nI sz := s6
        simp only [f_Mo_drop, isShM_1 hk, Option.bind_some, bnd]
        simp only [if_neg nI_1_0, if_pos z1, c1, s4, if_pos (show nI 0 ≤ nI ln from nI_le (Nat.zero_le _) (by omega)), e6]
      · refine inv_sheet hk h rfl rfl rfl rfl rfl rfl (Or.inl ⟨rfl, ?_⟩) ?_
        · show upd _ k _ k = _; exact upd_s _ _ _
        · intro k' hk' hne
          exact ⟨upd_n _ _ hne, rfl, fun i hi => rfl⟩
  · refine ⟨-1, μ, μ 29, ?_, ?_, inv_same h⟩
    · simp only [f_RS_drop, isSh_0 hx, Option.bind_some]
      simp only [if_pos]
    · simp only [f_Mo_drop, isShM_0 hx, Option.bind_some]
      simp only [if_pos]
