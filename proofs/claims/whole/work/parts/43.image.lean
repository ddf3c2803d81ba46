/-! image, restore -/
def cpOf (T S2 : zOb) : Prop := (∀ k, k < 6 → T.1 0 (3 + k) = S2.1 0 (3 + k)) ∧ ∀ i, i < 7 → T.1 1 i = S2.1 1 i ∧ T.1 2 i = S2.1 2 i ∧ T.1 3 i = S2.1 3 i
theorem cpOf.rep {T S2 : zOb} {a : aS} (h : cpOf T S2) (hw : wfA a) (hs : repS S2 a) : repS T a := repS_congr hw hs h.1 h.2
theorem s_ptTake {N o o2 lo lo2 : Nat} (hN : 200 ≤ N) {μ : zM} (hlo : 4 ≤ lo ∧ lo + 6 ≤ 16) (hlo2 : 4 ≤ lo2 ∧ lo2 + 6 ≤ 16) (hd : lo + 6 ≤ lo2 ∨ lo2 + 6 ≤ lo) (ho : 16 ≤ o) (ho2 : 16 ≤ o2) (hoo : o2 ≠ o) (h1 : permOK μ o lo) (h2 : permOK μ o2 lo2) : ∃ μ', f_Pt_takeFrom N μ o o2 = some μ' ∧ μ' o = zI (μ o) 0 1 ((μ o2).1 0 1) ∧ (∀ i, i < 6 → cpOf (μ' ((μ o).2.2 1 i)) (μ ((μ o2).2.2 1 i))) ∧ ∀ x, x ≠ o → ¬ (lo ≤ x ∧ x < lo + 6) → μ' x = μ x := by
  obtain ⟨μ2, ⟨p1, p2⟩, e⟩ := for_ex (fun n S x => f_Pt_takeFrom_2 N o o2 n S x) 6 (fun i μi => (∀ x, ¬ (lo ≤ x ∧ x < lo + 6) → μi x = μ x) ∧ ∀ j, j < i → cpOf (μi ((μ o).2.2 1 j)) (μ ((μ o2).2.2 1 j))) (fun μi => some (zset μi o (zI (μi o) 0 1 ((μi o2).1 0 1)))) (fun n μi hp => by
    show f_Pt_takeFrom_2 N o o2 (n + 1) μi (nI 6) = _
    rw [f_Pt_takeFrom_2, if_pos (by decide)]
    rfl) (fun n μi i hi hp => by
    obtain ⟨q1, q2⟩ := hp
    have eo : μi o = μ o := q1 o (by omega)
    have eo2 : μi o2 = μ o2 := q1 o2 (by omega)
    have hu := h1.1 i hi
    have hv := h2.1 i hi
    generalize hue : (μ o).2.2 1 i = u at hu
    generalize hve : (μ o2).2.2 1 i = v at hv
    obtain ⟨T, eT, t1, t2⟩ := s_takeFrom (μi u) (μi v)
    have ev : μi v = μ v := q1 v (by omega)
    refine ⟨zset μi u T, ⟨fun x hx => by rw [zset_n _ _ (by omega)]; exact q1 x hx, fun j hj => ?_⟩, ?_⟩
    · by_cases hji : j = i
      · subst hji
        rw [hue, hve, zset_s]
        rw [ev] at t1 t2
        exact ⟨t1, t2⟩
      · have hne : (μ o).2.2 1 j ≠ u := fun q => hji (h1.2 j i (by omega) hi (q.trans hue.symm))
        rw [zset_n _ _ hne]
        exact q2 j (by omega)
    · show f_Pt_takeFrom_2 N o o2 (n + 1) μi (nI i) = f_Pt_takeFrom_2 N o o2 n (zset μi u T) (nI (i + 1))
      have z : zin (nI i) 6 := zin_nI hi (by decide)
      have c : (nI i).toNatClampNeg = i := nI_clamp (by omega)
      rw [f_Pt_takeFrom_2, if_neg (nI_ge hi (by decide))]
      simp only [if_pos z, c, eo, eo2, hue, hve, bnd]
      rw [if_pos (zc_st (by omega)), if_pos (zc_st (by omega)), if_pos (show v ≠ u by omega), eT]
      simp only [Option.bind_some, nI_add]) 6 0 N μ (by omega) (by omega) ⟨fun _ _ => rfl, fun j hj => absurd hj (by omega)⟩
  have eo : μ2 o = μ o := p1 o (by omega)
  have eo2 : μ2 o2 = μ o2 := p1 o2 (by omega)
  refine ⟨zset μ2 o (zI (μ2 o) 0 1 ((μ2 o2).1 0 1)), e, by rw [zset_s, eo, eo2], fun i hi => ?_, fun x hx hxr => by rw [zset_n _ _ hx]; exact p1 x hxr⟩
  have := h1.1 i hi
  rw [zset_n _ _ (by omega)]
  exact p2 i hi
/-- the reference copies a row, a long row -/
theorem s_img {N : Nat} (hN : 200 ≤ N) (M : zOb) : f_Mo_image N M = some (nI 1, zIr (zIr (zIr M 4 (til (M.1 1) (M.1 4) 27)) 5 (til (M.1 2) (M.1 5) 162)) 0 (upd (M.1 0) 5 (M.1 0 2))) := by
  have h1 : ∀ X : zOb, f_Mo_image_28 N N X (nI 0) = some (nI 1, zIr (zIr X 5 (til (X.1 2) (X.1 5) 162)) 0 (upd (X.1 0) 5 (X.1 0 2))) := by
    intro X
    have h := for_up (fun n S x => f_Mo_image_28 N n S x) 0 162 (fun i => zIr X 5 (til (X.1 2) (X.1 5) i)) (some (nI 1, zIr (zIr X 5 (til (X.1 2) (X.1 5) 162)) 0 (upd (X.1 0) 5 (X.1 0 2)))) ?_ ?_ (by omega) N (by omega)
    · simp only [til_0, zIr_id] at h
      exact h
    · intro n
      show f_Mo_image_28 N (n + 1) _ (nI 162) = _
      rw [f_Mo_image_28, if_pos (by decide)]
      rfl
    · intro n i _ hi
      show f_Mo_image_28 N (n + 1) (zIr X 5 (til (X.1 2) (X.1 5) i)) (nI i) = f_Mo_image_28 N n (zIr X 5 (til (X.1 2) (X.1 5) (i + 1))) (nI (i + 1))
      rw [f_Mo_image_28, if_neg (nI_ge hi (by decide)), if_pos (zin_nI hi (by decide)), if_pos (zin_nI hi (by decide)), nI_clamp (by omega)]
      simp only [bnd]
      rw [nI_add, zI_r, zIr_rr, zIr_s]
      congr 2
      exact til_s _ _ i
  have h := for_up (fun n S x => f_Mo_image_2 N n S x) 0 27 (fun i => zIr M 4 (til (M.1 1) (M.1 4) i)) (some (nI 1, zIr (zIr (zIr M 4 (til (M.1 1) (M.1 4) 27)) 5 (til (M.1 2) (M.1 5) 162)) 0 (upd (M.1 0) 5 (M.1 0 2)))) ?_ ?_ (by omega) N (by omega)
  · simp only [til_0, zIr_id] at h
    exact h
  · intro n
    show f_Mo_image_2 N (n + 1) _ (nI 27) = _
    rw [f_Mo_image_2, if_pos (by decide), h1]
    rfl
  · intro n i _ hi
    show f_Mo_image_2 N (n + 1) (zIr M 4 (til (M.1 1) (M.1 4) i)) (nI i) = f_Mo_image_2 N n (zIr M 4 (til (M.1 1) (M.1 4) (i + 1))) (nI (i + 1))
    rw [f_Mo_image_2, if_neg (nI_ge hi (by decide)), if_pos (zin_nI hi (by decide)), if_pos (zin_nI hi (by decide)), nI_clamp (by omega)]
    simp only [bnd]
    rw [nI_add, zI_r, zIr_rr, zIr_s]
    congr 2
    exact til_s _ _ i
theorem s_rst {N : Nat} (hN : 200 ≤ N) (M : zOb) : f_Mo_restore_12 N N M (nI 0) = some (nI 1, zIr (zIr (zIr M 1 (til (M.1 4) (M.1 1) 27)) 2 (til (M.1 5) (M.1 2) 162)) 0 (upd (M.1 0) 2 (M.1 0 5))) := by
  have h1 : ∀ X : zOb, f_Mo_restore_38 N N X (nI 0) = some (nI 1, zIr (zIr X 2 (til (X.1 5) (X.1 2) 162)) 0 (upd (X.1 0) 2 (X.1 0 5))) := by
    intro X
    have h := for_up (fun n S x => f_Mo_restore_38 N n S x) 0 162 (fun i => zIr X 2 (til (X.1 5) (X.1 2) i)) (some (nI 1, zIr (zIr X 2 (til (X.1 5) (X.1 2) 162)) 0 (upd (X.1 0) 2 (X.1 0 5)))) ?_ ?_ (by omega) N (by omega)
    · simp only [til_0, zIr_id] at h
      exact h
    · intro n
      show f_Mo_restore_38 N (n + 1) _ (nI 162) = _
      rw [f_Mo_restore_38, if_pos (by decide)]
      rfl
    · intro n i _ hi
      show f_Mo_restore_38 N (n + 1) (zIr X 2 (til (X.1 5) (X.1 2) i)) (nI i) = f_Mo_restore_38 N n (zIr X 2 (til (X.1 5) (X.1 2) (i + 1))) (nI (i + 1))
      rw [f_Mo_restore_38, if_neg (nI_ge hi (by decide)), if_pos (zin_nI hi (by decide)), if_pos (zin_nI hi (by decide)), nI_clamp (by omega)]
      simp only [bnd]
      rw [nI_add, zI_r, zIr_rr, zIr_s]
      congr 2
      exact til_s _ _ i
  have h := for_up (fun n S x => f_Mo_restore_12 N n S x) 0 27 (fun i => zIr M 1 (til (M.1 4) (M.1 1) i)) (some (nI 1, zIr (zIr (zIr M 1 (til (M.1 4) (M.1 1) 27)) 2 (til (M.1 5) (M.1 2) 162)) 0 (upd (M.1 0) 2 (M.1 0 5)))) ?_ ?_ (by omega) N (by omega)
  · simp only [til_0, zIr_id] at h
    exact h
  · intro n
    show f_Mo_restore_12 N (n + 1) _ (nI 27) = _
    rw [f_Mo_restore_12, if_pos (by decide), h1]
    rfl
  · intro n i _ hi
    show f_Mo_restore_12 N (n + 1) (zIr M 1 (til (M.1 4) (M.1 1) i)) (nI i) = f_Mo_restore_12 N n (zIr M 1 (til (M.1 4) (M.1 1) (i + 1))) (nI (i + 1))
    rw [f_Mo_restore_12, if_neg (nI_ge hi (by decide)), if_pos (zin_nI hi (by decide)), if_pos (zin_nI hi (by decide)), nI_clamp (by omega)]
    simp only [bnd]
    rw [nI_add, zI_r, zIr_rr, zIr_s]
    congr 2
    exact til_s _ _ i
theorem rowAt_til {r r' : Nat → Int32} {i j : Nat} (hi : i < 6) (hj : j < 27) : rowAt (til r r' 162) i j = rowAt r i j := til_in _ _ (by omega)
theorem o_image {N : Nat} (hN : 200 ≤ N) : zop_image N zInv := by
  intro μ h
  obtain ⟨⟨a, hw, hS, hM⟩, hJ⟩ := id h
  obtain ⟨⟨k, ⟨hperm, hk6, hks, hr⟩, hkm⟩, ⟨hp17, hi⟩, ht, hs, r1, r2⟩ := hJ
  obtain ⟨T, eT, hT⟩ := s_takeFrom_rep (S := μ 2) hw hS
  have e2 : ∀ x, x ≠ 2 → zset μ 2 T x = μ x := fun x hx => zset_n _ _ hx
  obtain ⟨μ', e3, e4, e5, e6⟩ := s_ptTake (N := N) (o := 17) (o2 := 16) (lo := 10) (lo2 := 4) (μ := zset μ 2 T) hN (by decide) (by decide) (by decide) (by decide) (by decide) (by decide) (permOK_congr (e2 17 (by decide)) hp17) (permOK_congr (e2 16 (by decide)) hperm)
  rw [e2 17 (by decide), e2 16 (by decide)] at e4 e5
  generalize hF : zset μ' 28 (zI (μ' 28) 0 5 (nI 1)) = F
  have eF : ∀ x, x ≠ 2 → x ≠ 17 → x ≠ 28 → ¬ (10 ≤ x ∧ x < 16) → F x = μ x := fun x h1 h2 h3 h4 => by rw [← hF, zset_n _ _ h3, e6 x h2 h4, e2 x h1]
  have eF17 : F 17 = zI (μ 17) 0 1 ((μ 16).1 0 1) := by rw [← hF, zset_n _ _ (by decide), e4]
  have eFr : ∀ x, 10 ≤ x → x < 16 → F x = μ' x := fun x h1 h2 => by rw [← hF, zset_n _ _ (by omega)]
  refine ⟨nI 1, F, zIr (zIr (zIr (μ 29) 4 (til ((μ 29).1 1) ((μ 29).1 4) 27)) 5 (til ((μ 29).1 2) ((μ 29).1 5) 162)) 0 (upd ((μ 29).1 0) 5 ((μ 29).1 0 2)), ?_, ?_, zInv_of ?_ ?_⟩
  · simp only [f_RS_image, eT, Option.bind_some, bnd, e3, hF]
  · rw [eF 29 (by decide) (by decide) (by decide) (by decide)]
    exact s_img hN (μ 29)
  · exact ⟨a, hw, by rw [eF 0 (by decide) (by decide) (by decide) (by decide)]; exact hS, hM⟩
  · refine ⟨⟨k, pastOK_congr (eF 16 (by decide) (by decide) (by decide) (by decide)) (fun x h1 h2 => eF x (by omega) (by omega) (by omega) (by omega)) ⟨hperm, hk6, hks, hr⟩, hkm⟩, ⟨?_, Or.inr ⟨?_, a, k, hw, ?_, ?_, ⟨?_, hk6, ?_, ?_⟩, ?_⟩⟩, ?_, ?_, ?_, ?_⟩
    · unfold permOK; rw [eF17]; exact hp17
    · rw [← hF, zset_s]; rfl
    · rw [← hF, zset_n _ _ (by decide), e6 2 (by decide) (by decide), zset_s]; exact hT
    · exact repM_congr hw hM (fun j hj => til_in _ _ hj)
    · unfold permOK; rw [eF17]; exact hp17
    · rw [eF17]; exact hks
    · intro i hi
      obtain ⟨b, q1, q2, q3⟩ := hr i hi
      have hu := hp17.1 i (by omega)
      have hv := hperm.1 i (by omega)
      refine ⟨b, q1, ?_, repM_congr q1 q3 (fun j hj => rowAt_til (by omega) hj)⟩
      have e7 : (F 17).2.2 1 i = (μ 17).2.2 1 i := by rw [eF17]; rfl
      have h5 := e5 i (by omega)
      rw [e2 _ (by omega)] at h5
      rw [e7, eFr _ hu.1 hu.2]
      exact h5.rep q1 q2
    · exact hkm
    · rw [eF 19 (by decide) (by decide) (by decide) (by decide)]; exact tapeOK_keep rfl rfl ht
    · intro j hj
      rw [eF (24 + j) (by omega) (by omega) (by omega) (by omega)]
      exact shOK_keep rfl rfl rfl (hs j hj)
    · rw [eF 21 (by decide) (by decide) (by decide) (by decide)]; exact r1
    · rw [eF 22 (by decide) (by decide) (by decide) (by decide)]; exact r2
theorem o_restore {N : Nat} (hN : 200 ≤ N) : zop_restore N zInv := by
  intro μ h
  obtain ⟨hn, hJ⟩ := id h
  obtain ⟨⟨k0, ⟨hperm, hk60, hks0, hr0⟩, hkm0⟩, ⟨hp17, hi⟩, ht, hs, r1, r2⟩ := id hJ
  rcases hi with ⟨i1, i2⟩ | ⟨i1, a, k, hw, hS, hM, ⟨hperm17, hk6, hks, hr⟩, hkm⟩
  · refine ⟨-4, μ, μ 29, ?_, ?_, ?_⟩
    · simp only [f_RS_restore, i1]
      rw [if_pos trivial]
    · simp only [f_Mo_restore, i2]
      rw [if_neg (by decide)]
    · rw [zset_id]; exact h
  · obtain ⟨T, eT, hT⟩ := s_takeFrom_rep (S := μ 0) hw hS
    have e2 : ∀ x, x ≠ 0 → zset μ 0 T x = μ x := fun x hx => zset_n _ _ hx
    obtain ⟨μ', e3, e4, e5, e6⟩ := s_ptTake (N := N) (o := 16) (o2 := 17) (lo := 4) (lo2 := 10) (μ := zset μ 0 T) hN (by decide) (by decide) (by decide) (by decide) (by decide) (by decide) (permOK_congr (e2 16 (by decide)) hperm) (permOK_congr (e2 17 (by decide)) hp17)
    rw [e2 17 (by decide), e2 16 (by decide)] at e4 e5
    have eF : ∀ x, x ≠ 0 → x ≠ 16 → ¬ (4 ≤ x ∧ x < 10) → μ' x = μ x := fun x h1 h2 h3 => by rw [e6 x h2 h3, e2 x h1]
    refine ⟨nI 1, μ', zIr (zIr (zIr (μ 29) 1 (til ((μ 29).1 4) ((μ 29).1 1) 27)) 2 (til ((μ 29).1 5) ((μ 29).1 2) 162)) 0 (upd ((μ 29).1 0) 2 ((μ 29).1 0 5)), ?_, ?_, zInv_of ?_ ?_⟩
    · simp only [f_RS_restore, i1, eT, Option.bind_some, bnd, e3]
      rw [if_neg nI_1_0]
    · rw [eF 29 (by decide) (by decide) (by decide)]
      simp only [f_Mo_restore, hkm]
      rw [if_pos (nI_le (by omega) (by omega))]
      rw [s_rst hN (μ 29), hkm]
    · exact ⟨a, hw, by rw [e6 0 (by decide) (by decide), zset_s]; exact hT, repM_congr hw hM (fun j hj => til_in _ _ hj)⟩
    · refine ⟨⟨k, ⟨?_, hk6, ?_, ?_⟩, hkm⟩, imgOK_keep (fun x hx => eF x (by omega) (by omega) (by omega)) rfl rfl rfl hJ.2.1, ?_, ?_, ?_, ?_⟩
      · unfold permOK; rw [e4]; exact hperm
      · rw [e4]; exact hks
      · intro i hi
        obtain ⟨b, q1, q2, q3⟩ := hr i hi
        have hu := hperm.1 i (by omega)
        have hv := hp17.1 i (by omega)
        refine ⟨b, q1, ?_, repM_congr q1 q3 (fun j hj => rowAt_til (by omega) hj)⟩
        have e7 : (μ' 16).2.2 1 i = (μ 16).2.2 1 i := by rw [e4]; rfl
        have h5 := e5 i (by omega)
        rw [e2 _ (by omega)] at h5
        rw [e7]
        exact h5.rep q1 q2
      · rw [eF 19 (by decide) (by decide) (by decide)]; exact tapeOK_keep rfl rfl ht
      · intro j hj
        rw [eF (24 + j) (by omega) (by omega) (by omega)]
        exact shOK_keep rfl rfl rfl (hs j hj)
      · rw [eF 21 (by decide) (by decide) (by decide)]; exact r1
      · rw [eF 22 (by decide) (by decide) (by decide)]; exact r2
