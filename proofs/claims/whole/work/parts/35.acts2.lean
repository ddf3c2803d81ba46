/-! tell, words -/
theorem tell_core {S M : zOb} {a : aS} (hw : wfA a) (hS : repS S a) (hM : repM (M.1 1) a) {k v : Nat} (hk : 2 ≤ k ∧ k < 5) (hv : v < 2 ^ 20) (hwf : wfA (va_up a.1 k v, a.2)) {c : Option (Int32 × zOb)} (hc : c = if S.1 0 (3 + k) = nI v then some (-2, zI S 0 (3 + k) (nI v)) else some (S.1 0 (3 + k), zI S 0 (3 + k) (nI v))) {m : Option (Int32 × zOb)} (hm : m = f_Mo_tells_55 M (nI (k - 2)) (nI v) (nI 1)) : ∃ r S' f' a', c = some (r, S') ∧ m = some (r, zIr M 1 f') ∧ wfA a' ∧ repS S' a' ∧ repM f' a' := by
  have h1 : S.1 0 (3 + k) = nI (a.1 k) := hS.1 k (by omega)
  have h2 : M.1 1 k = nI (a.1 k) := hM.1 k (by omega)
  have hb : a.1 k < 2 ^ 20 := by
    obtain ⟨w0, w1, w2, w3, w4, w5⟩ := hw.1
    match k, hk with
    | 0, h => exact absurd h.1 (by omega)
    | 1, h => exact absurd h.1 (by omega)
    | 2, _ => omega
    | 3, _ => omega
    | 4, _ => omega
    | n + 5, h => exact absurd h.2 (by omega)
  obtain ⟨r1, r2⟩ := rep_int hS hM (k := k) (v := v) (by omega) (by omega)
  have ei : nI 2 + nI (k - 2) = nI k := by rw [nI_add, show 2 + (k - 2) = k by omega]
  by_cases he : a.1 k = v
  · have ea : (va_up a.1 k v, a.2) = a := by rw [up_id _ he]
    rw [ea] at r1 r2 hwf
    refine ⟨-2, _, M.1 1, a, ?_, ?_, hwf, r1, hM⟩
    · rw [hc, h1, he, if_pos rfl]
    · rw [hm]
      simp only [f_Mo_tells_55, bnd]
      have ec : (nI k).toNatClampNeg = k := nI_clamp (by omega)
      have hz : zin (nI k) 27 := zin_nI (by omega) (by decide)
      simp only [if_neg nI_1_0, ei, if_pos hz, ec, h2, he, if_pos, zIr_id]
  · have hne : ¬ nI (a.1 k) = nI v := fun q => he ((nI_eq (by omega) (by omega)).mp q)
    refine ⟨nI (a.1 k), _, _, _, ?_, ?_, hwf, r1, r2⟩
    · rw [hc, h1, if_neg hne]
    · rw [hm]
      simp only [f_Mo_tells_55, bnd]
      have ec : (nI k).toNatClampNeg = k := nI_clamp (by omega)
      have hz : zin (nI k) 27 := zin_nI (by omega) (by decide)
      simp only [if_neg nI_1_0, ei, if_pos hz, ec, h2, if_neg hne]
      rfl
theorem in_1 {v l h : Nat} {lo hi : Int64} (hl : lo.toInt = l) (hh : hi.toInt = h) (h1 : l ≤ v) (h2 : v ≤ h) (hv : v < 2 ^ 31) : f_Mo_in (nI v).toInt64 lo hi = some (nI 1) := by
  rw [s_inI, hl, hh, nI_T hv, if_pos (by omega)]
theorem in_0 {x : Int32} {l h : Nat} {lo hi : Int64} (hl : lo.toInt = l) (hh : hi.toInt = h) (hx : ¬ ((l : Int) ≤ x.toInt ∧ x.toInt ≤ h)) : f_Mo_in x.toInt64 lo hi = some (nI 0) := by
  rw [s_inI, hl, hh, if_neg hx]
theorem arg_rng (x : Int32) (l h : Nat) (hh : h < 2 ^ 30) : (∃ v, l ≤ v ∧ v ≤ h ∧ x = nI v) ∨ ¬ ((l : Int) ≤ x.toInt ∧ x.toInt ≤ h) := by
  rcases arg_in x (n := h + 1) (by omega) with ⟨v, hv, rfl⟩ | hx
  · by_cases hl : l ≤ v
    · exact Or.inl ⟨v, hl, by omega, rfl⟩
    · exact Or.inr (by rw [nI_T (by omega)]; omega)
  · exact Or.inr (fun q => hx (by omega))
theorem a_tell (w x : Int32) : actOK (fun S => f_St_changeRules S w x) (fun M => f_Mo_tells M w x) := by
  intro S M a hw hS hM
  dsimp only
  obtain ⟨w0, w1, w2, w3, w4, w5⟩ := hw.1
  have e0 : (nI 0).toInt = 0 := rfl
  have e1 : (nI 1).toInt = 1 := rfl
  have e3 : (nI 3).toInt = 3 := rfl
  have e4 : (nI 4).toInt = 4 := rfl
  have e20 : (nI 20).toInt = 20 := rfl
  by_cases h0 : w = nI 0
  · subst h0
    rcases arg_rng x 1 4 (by decide) with ⟨v, v1, v2, rfl⟩ | hx
    · refine tell_core (k := 2) (v := v) hw hS hM (by decide) (by omega) (wf_int hw (by decide) (fun b hb => by subst hb; exact ⟨w0, w1, ⟨v1, v2⟩, w3, w4, w5⟩)) ?_ ?_
      · simp only [f_St_changeRules, f_St_changeSpan, f_St_changeSpan_33, bnd]
        rw [if_pos trivial, if_neg (nI_nlt v1 (by omega)), if_pos (nI_le v2 (by decide))]
        by_cases hq : S.1 0 5 = nI v
        · rw [if_pos hq]; rfl
        · rw [if_neg hq]; rfl
      · simp only [f_Mo_tells]
        rw [if_pos trivial, in_1 (l := 1) (h := 4) rfl rfl v1 v2 (by omega)]
        rfl
    · refine act_same hw hS hM (r := -1) ?_ ?_
      · simp only [f_St_changeRules, f_St_changeSpan, f_St_changeSpan_10]
        rw [if_pos trivial]
        by_cases h1 : x < nI 1
        · rw [if_pos h1]; rfl
        · rw [if_neg h1, if_neg (fun q => hx (by have := i_le.mp q; have h3 : ¬ x.toInt < (nI 1).toInt := fun g => h1 (i_lt.mpr g); omega))]; rfl
      · simp only [f_Mo_tells]
        rw [if_pos trivial, in_0 (l := 1) (h := 4) rfl rfl hx]
        rfl
  · by_cases h1 : w = nI 1
    · subst h1
      rcases arg_rng x 0 20 (by decide) with ⟨v, v1, v2, rfl⟩ | hx
      · refine tell_core (k := 3) (v := v) hw hS hM (by decide) (by omega) (wf_int hw (by decide) (fun b hb => by subst hb; exact ⟨w0, w1, w2, v2, w4, w5⟩)) ?_ ?_
        · simp only [f_St_changeRules, f_St_changeBound, f_St_changeBound_33, bnd]
          rw [if_neg h0, if_pos trivial, if_neg (nI_nlt (Nat.zero_le v) (by omega)), if_pos (nI_le v2 (by decide))]
          by_cases hq : S.1 0 6 = nI v
          · rw [if_pos hq]; rfl
          · rw [if_neg hq]; rfl
        · simp only [f_Mo_tells]
          rw [if_neg h0, if_pos trivial, in_1 (l := 0) (h := 20) rfl rfl v1 v2 (by omega)]
          rfl
      · refine act_same hw hS hM (r := -1) ?_ ?_
        · simp only [f_St_changeRules, f_St_changeBound, f_St_changeBound_10]
          rw [if_neg h0, if_pos trivial]
          by_cases h1 : x < nI 0
          · rw [if_pos h1]; rfl
          · rw [if_neg h1, if_neg (fun q => hx (by have := i_le.mp q; have h3 : ¬ x.toInt < (nI 0).toInt := fun g => h1 (i_lt.mpr g); omega))]; rfl
        · simp only [f_Mo_tells]
          rw [if_neg h0, if_pos trivial, in_0 (l := 0) (h := 20) rfl rfl hx]
          rfl
    · by_cases h2 : w = nI 2
      · subst h2
        rcases arg_rng x 0 2 (by decide) with ⟨v, v1, v2, rfl⟩ | hx
        · refine tell_core (k := 4) (v := v) hw hS hM (by decide) (by omega) (wf_int hw (by decide) (fun b hb => by subst hb; exact ⟨w0, w1, w2, w3, v2, w5⟩)) ?_ ?_
          · simp only [f_St_changeRules, f_St_changeRule, f_St_changeRule_32, bnd]
            rw [if_neg h0, if_neg h1, if_pos trivial, if_neg (nI_nlt (Nat.zero_le v) (by omega)), if_pos (nI_lt (by omega) (by decide))]
            by_cases hq : S.1 0 7 = nI v
            · rw [if_pos hq]; rfl
            · rw [if_neg hq]; rfl
          · simp only [f_Mo_tells]
            rw [if_neg h0, if_neg h1, if_pos trivial, in_1 (l := 0) (h := 2) rfl rfl v1 v2 (by omega)]
            simp only [Option.bind_some]
            rw [if_neg nI_1_0]
        · refine act_same hw hS hM (r := -1) ?_ ?_
          · simp only [f_St_changeRules, f_St_changeRule, f_St_changeRule_9]
            rw [if_neg h0, if_neg h1, if_pos trivial]
            by_cases h1 : x < nI 0
            · rw [if_pos h1]; rfl
            · rw [if_neg h1, if_neg (fun q => hx (by have := i_lt.mp q; have h3 : ¬ x.toInt < (nI 0).toInt := fun g => h1 (i_lt.mpr g); omega))]; rfl
          · simp only [f_Mo_tells, f_Mo_tells_54, f_Mo_tells_55]
            rw [if_neg h0, if_neg h1, if_pos trivial, in_0 (l := 0) (h := 2) rfl rfl hx]
            simp only [Option.bind_some]
            rw [if_pos trivial, if_pos trivial]
      · refine act_same hw hS hM (r := -1) ?_ ?_
        · simp only [f_St_changeRules]
          rw [if_neg h0, if_neg h1, if_neg h2]
        · simp only [f_Mo_tells, f_Mo_tells_54, f_Mo_tells_55]
          rw [if_neg h0, if_neg h1, if_neg h2, if_pos trivial]
theorem a_words (k x : Int32) : actOK (fun S => f_St_changeWords S k x) (fun M => f_Mo_changes M k x) := by
  intro S M a hw hS hM
  dsimp only
  have h7 := hw.1.1
  have hn : S.1 0 3 = nI (a.1 0) := hS.1 0 (by decide)
  have hm : M.1 1 0 = nI (a.1 0) := hM.1 0 (by decide)
  rcases arg_in k (n := a.1 0) (by omega) with ⟨j, hj, rfl⟩ | hk
  · have b1 := isB_1 h7 hn hj
    have b2 := isBM_1 h7 hm hj
    rcases set_arg x with ⟨s, s0, s1, rfl⟩ | hx
    · obtain ⟨q1, q2, q3⟩ := hS.2 j hj
      obtain ⟨p1, p2, p3⟩ := hM.2 j hj
      obtain ⟨⟨u1, u2⟩, u3, u4⟩ := hw.2.1 j hj
      have z1 : zin (nI j) 7 := zin_nI (by omega) (by decide)
      have z2 : zin (nI (13 + j)) 27 := zin_nI (by omega) (by decide)
      have c1 : (nI j).toNatClampNeg = j := nI_clamp (by omega)
      have c2 : (nI (13 + j)).toNatClampNeg = 13 + j := nI_clamp (by omega)
      by_cases he : a.2.1 j = s
      · refine act_same hw hS hM (r := -2) ?_ ?_
        · simp only [f_St_changeWords, b1, isSB_1 s0 s1, Option.bind_some, bnd]
          simp only [if_neg nI_1_0, if_pos z1, c1, q1, he, if_pos]
        · simp only [f_Mo_changes, b2, isSet_1 s1, Option.bind_some, bnd]
          simp only [if_neg nI_1_0, if_neg (nI_n0 s0 (by omega)), nI_add, if_pos z2, c2, p1, he, if_pos]
      · have hne : ¬ nI (a.2.1 j) = nI s := fun q => he ((nI_eq (by omega) (by omega)).mp q)
        refine ⟨nI (a.2.1 j), zI S 1 j (nI s), upd (M.1 1) (13 + j) (nI s), (a.1, va_up a.2.1 j s, a.2.2), ?_, ?_, ?_, ?_, ?_⟩
        · simp only [f_St_changeWords, b1, isSB_1 s0 s1, Option.bind_some, bnd]
          simp only [if_neg nI_1_0, if_pos z1, c1, q1, if_neg hne]
        · simp only [f_Mo_changes, b2, isSet_1 s1, Option.bind_some, bnd]
          simp only [if_neg nI_1_0, if_neg (nI_n0 s0 (by omega : s < 2 ^ 31)), nI_add, if_pos z2, c2, p1, if_neg hne]
          rfl
        · obtain ⟨w1, w2, w3, w4⟩ := hw
          refine ⟨w1, fun i hi => ?_, w3, w4⟩
          by_cases hij : i = j
          · subst hij
            refine ⟨⟨?_, ?_⟩, u3, u4⟩
            · show 0 < va_up a.2.1 i s i; rw [vu_s]; exact s0
            · show va_up a.2.1 i s i < _; rw [vu_s]; exact s1
          · obtain ⟨⟨t1, t2⟩, t3, t4⟩ := w2 i hi
            refine ⟨⟨?_, ?_⟩, t3, t4⟩
            · show 0 < va_up a.2.1 j s i; rw [vu_n _ _ hij]; exact t1
            · show va_up a.2.1 j s i < _; rw [vu_n _ _ hij]; exact t2
        · refine ⟨fun i hi => ?_, fun i hi => ?_⟩
          · exact hS.1 i hi
          · obtain ⟨t1, t2, t3⟩ := hS.2 i hi
            refine ⟨?_, t2, t3⟩
            show upd (S.1 1) j (nI s) i = nI (va_up a.2.1 j s i)
            by_cases hij : i = j
            · subst hij; rw [upd_s, vu_s]
            · rw [upd_n _ _ hij, vu_n _ _ hij]; exact t1
        · refine ⟨fun i hi => ?_, fun i hi => ?_⟩
          · rw [upd_n _ _ (by omega)]; exact hM.1 i hi
          · have hi : i < a.1 0 := hi
            obtain ⟨t1, t2, t3⟩ := hM.2 i hi
            refine ⟨?_, by rw [upd_n _ _ (by omega)]; exact t2, by rw [upd_n _ _ (by omega)]; exact t3⟩
            show upd (M.1 1) (13 + j) (nI s) (13 + i) = nI (va_up a.2.1 j s i)
            by_cases hij : i = j
            · subst hij; rw [upd_s, vu_s]
            · rw [upd_n _ _ (by omega), vu_n _ _ hij]; exact t1
    · refine act_same hw hS hM (r := -1) ?_ ?_
      · simp only [f_St_changeWords, b1, isSB_0 hx, Option.bind_some, f_St_changeWords_15]
        rw [if_neg nI_1_0, if_pos trivial]
      · by_cases h0 : 0 ≤ x.toInt ∧ x.toInt < 2 ^ 20
        · have hx0 : x = nI 0 := i_eq.mpr (by show x.toInt = 0; omega)
          subst hx0
          simp only [f_Mo_changes, b2, isSet_1 (s := 0) (by decide), Option.bind_some, f_Mo_changes_19]
          rw [if_neg nI_1_0, if_neg nI_1_0, if_pos trivial]
        · simp only [f_Mo_changes, b2, isSet_0 h0, Option.bind_some, f_Mo_changes_19]
          rw [if_neg nI_1_0, if_pos trivial]
  · refine act_same hw hS hM (r := -1) ?_ ?_
    · simp only [f_St_changeWords, isB_0 h7 hn hk, Option.bind_some, f_St_changeWords_15]
      rw [if_pos trivial]
    · simp only [f_Mo_changes, isBM_0 h7 hm hk, Option.bind_some, f_Mo_changes_19]
      rw [if_pos trivial]
