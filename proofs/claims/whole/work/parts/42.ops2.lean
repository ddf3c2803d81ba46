/-! seed, type, undo -/
theorem keepM_now (M : zOb) (f : Nat → Int32) : keepM M (zIr M 1 f) := keepM.row M (by decide) f
theorem zJ_0 {μ : zM} {M M' : zOb} {S : zOb} (hk : keepM M M') (h : zJ μ M) : zJ (zset μ 0 S) M' := by
  refine zJ_keep (fun x hx => zset_n _ _ (by omega)) ?_ ?_ hk h
  · rw [zset_n _ _ (by decide)]; exact h.2.2.2.2.1
  · rw [zset_n _ _ (by decide)]; exact h.2.2.2.2.2
theorem o_seed {N : Nat} : zop_seed N zInv := by
  intro μ x h
  obtain ⟨⟨a, hw, hS, hM⟩, hJ⟩ := h
  obtain ⟨w0, w1, w2, w3, w4, w5⟩ := hw.1
  by_cases hx : nI 0 ≤ x
  · obtain ⟨v, hv, rfl⟩ : ∃ v, v < 2 ^ 31 ∧ x = nI v := nI_of (fun q => by have := i_lt.mp q; have := i_le.mp hx; have e0 : (0 : Int32).toInt = 0 := rfl; have e1 : (nI 0).toInt = 0 := rfl; omega)
    obtain ⟨r1, r2⟩ := rep_int hS hM (k := 5) (v := v) (by decide) (by decide)
    refine ⟨nI (a.1 5), zset μ 0 (zI (μ 0) 0 8 (nI v)), zIr (μ 29) 1 (upd ((μ 29).1 1) 5 (nI v)), ?_, ?_, zInv_of ⟨_, wf_int hw (k := 5) (v := v) (by decide) (fun b hb => by subst hb; exact ⟨w0, w1, w2, w3, w4, hv⟩), by rw [zset_s]; exact r1, r2⟩ (zJ_0 (keepM_now _ _) hJ)⟩
    · simp only [f_RS_seed, bnd]
      rw [if_pos hx, show (μ 0).1 0 8 = nI (a.1 5) from hS.1 5 (by decide)]
    · simp only [f_Mo_seed, bnd]
      rw [if_pos hx, zset_n _ _ (by decide), show (μ 29).1 1 5 = nI (a.1 5) from hM.1 5 (by decide)]
      rfl
  · refine ⟨-1, μ, μ 29, ?_, ?_, ?_⟩
    · simp only [f_RS_seed]; rw [if_neg hx]
    · simp only [f_Mo_seed]; rw [if_neg hx]
    · rw [zset_id]; exact ⟨⟨a, hw, hS, hM⟩, hJ⟩
theorem nar_char {c : Nat} (hc : c < 256) : vp_nar .char (nI c) = nI c := by
  have h := (pk_charN (q := c) (by omega)).1
  unfold vp_nar
  rw [h]
theorem i2c_nI {c : Nat} (hc : c < 65536) : ((nI c).toUInt32 % 65536).toInt32 = nI c := by
  rw [pk_char, pk_tn (by omega), Nat.mod_eq_of_lt hc]
theorem s_add {L : zOb} {n t c : Nat} (hn : n ≤ 90) (ht : t ≤ n) (hL : L.1 0 1 = nI t) (hc : c < 256) : f_Le_add n L (nI c) = if t < n then some (nI 1, zIr (zIr L 1 (upd (L.1 1) t (nI c))) 0 (upd (L.1 0) 1 (nI (t + 1)))) else some (nI 0, L) := by
  simp only [f_Le_add, hL]
  by_cases h : t < n
  · rw [if_pos h, if_pos (show nI t < Int32.ofNat n from nI_lt h (by omega)), if_pos (zin_nI h (by omega)), nI_clamp (by omega), nar_char hc]
    simp only [bnd]
    have e : (zI L 1 t (nI c)).1 0 1 = nI t := hL
    rw [e, nI_add]
    rfl
  · rw [if_neg h, if_neg (show ¬ nI t < Int32.ofNat n from nI_nlt (by omega) (by omega))]
theorem o_type {N : Nat} : zop_type N zInv := by
  intro μ x h
  obtain ⟨hn, hJ⟩ := id h
  obtain ⟨hp, hi, ⟨t, t90, tL, tM, tc⟩, hs, r1, r2⟩ := hJ
  rcases arg_rng x 32 126 (by decide) with ⟨c, c1, c2, rfl⟩ | hx
  · have hadd := s_add (L := μ 19) (n := 90) (t := t) (c := c) (by omega) t90 tL (by omega)
    have hlen : zlen 19 = 90 := rfl
    by_cases ht : t = 90
    · refine ⟨-3, μ, μ 29, ?_, ?_, ?_⟩
      · simp only [f_RS_type, f_RS_type_44, hlen]
        rw [if_neg (nI_nlt c1 (by omega)), if_pos (nI_le c2 (by decide)), i2c_nI (by omega), hadd, if_neg (by omega)]
        simp only [Option.bind_some, bnd, if_true]
        rw [zset_id]
      · simp only [f_Mo_type]
        rw [in_1 (l := 32) (h := 126) rfl rfl c1 c2 (by omega)]
        simp only [Option.bind_some]
        rw [if_neg nI_1_0, tM, ht, if_pos rfl]
      · rw [zset_id]; exact h
    · rw [if_pos (by omega)] at hadd
      refine ⟨nI (t + 1), zset μ 19 (zIr (zIr (μ 19) 1 (upd ((μ 19).1 1) t (nI c))) 0 (upd ((μ 19).1 0) 1 (nI (t + 1)))), zIr (zIr (μ 29) 7 (upd ((μ 29).1 7) t (nI c))) 0 (upd ((μ 29).1 0) 7 (nI (t + 1))), ?_, ?_, zInv_of ?_ ?_⟩
      · simp only [f_RS_type, f_RS_type_44, hlen]
        rw [if_neg (nI_nlt c1 (by omega)), if_pos (nI_le c2 (by decide)), i2c_nI (by omega), hadd]
        simp only [Option.bind_some, bnd]
        rw [if_neg nI_1_0, zset_s]
        rfl
      · simp only [f_Mo_type]
        rw [in_1 (l := 32) (h := 126) rfl rfl c1 c2 (by omega)]
        simp only [Option.bind_some, bnd]
        rw [if_neg nI_1_0, zset_n _ _ (by decide), tM, if_neg (fun q => ht ((nI_eq (by omega) (by decide)).mp q)), if_pos (zin_nI (by omega) (by decide)), nI_clamp (by omega)]
        have e : (zI (μ 29) 7 t (nI c)).1 0 7 = nI t := tM
        rw [e, nI_add]
        rfl
      · obtain ⟨a, q1, q2, q3⟩ := hn
        exact ⟨a, q1, by rw [zset_n _ _ (by decide)]; exact q2, q3⟩
      · have e : ∀ x, x ≠ 19 → zset μ 19 (zIr (zIr (μ 19) 1 (upd ((μ 19).1 1) t (nI c))) 0 (upd ((μ 19).1 0) 1 (nI (t + 1)))) x = μ x := fun x hx => zset_n _ _ hx
        obtain ⟨k, hp1, hp2⟩ := hp
        refine ⟨⟨k, pastOK_congr (e 16 (by decide)) (fun x h1 h2 => e x (by omega)) hp1, hp2⟩, imgOK_keep (fun x hx => e x (by omega)) rfl rfl rfl hi, ?_, ?_, ?_, ?_⟩
        · rw [zset_s]
          refine ⟨t + 1, by omega, rfl, rfl, fun i hi => ?_⟩
          by_cases hit : i = t
          · subst hit
            exact ⟨c, c1, c2, upd_s _ _ _, upd_s _ _ _⟩
          · obtain ⟨c', d1, d2, d3, d4⟩ := tc i (by omega)
            exact ⟨c', d1, d2, (upd_n _ _ hit).trans d3, (upd_n _ _ hit).trans d4⟩
        · intro k hk
          rw [e (24 + k) (by omega)]
          exact shOK_keep rfl rfl rfl (hs k hk)
        · rw [e 21 (by decide)]; exact r1
        · rw [e 22 (by decide)]; exact r2
  · have e32 : (nI 32).toInt = 32 := rfl
    have e126 : (nI 126).toInt = 126 := rfl
    refine ⟨-1, μ, μ 29, ?_, ?_, ?_⟩
    · simp only [f_RS_type, f_RS_type_12]
      by_cases h1 : x < nI 32
      · rw [if_pos h1]
      · rw [if_neg h1, if_neg (fun q => hx (by have := i_le.mp q; have h3 : ¬ x.toInt < (nI 32).toInt := fun g => h1 (i_lt.mpr g); omega))]
    · simp only [f_Mo_type]
      rw [in_0 (l := 32) (h := 126) rfl rfl hx]
      simp only [Option.bind_some]
      rw [if_pos trivial]
    · rw [zset_id]; exact h
theorem s_undo22 {N k : Nat} (hN : 200 ≤ N) (hk : k < 6) (M : zOb) (ha : M.1 0 2 = nI k) : f_Mo_undo_22 N N M (nI 0) = some (nI k, zIr M 1 (til (rowAt (M.1 2) k) (M.1 1) 27)) := by
  have h := for_up (fun n S x => f_Mo_undo_22 N n S x) 0 27 (fun i => zIr M 1 (til (rowAt (M.1 2) k) (M.1 1) i)) (some (nI k, zIr M 1 (til (rowAt (M.1 2) k) (M.1 1) 27))) ?_ ?_ (by omega) N (by omega)
  · simp only [til_0, zIr_id] at h
    exact h
  · intro n
    show f_Mo_undo_22 N (n + 1) _ (nI 27) = _
    rw [f_Mo_undo_22, if_pos (by decide)]
    rw [show (zIr M 1 (til (rowAt (M.1 2) k) (M.1 1) 27)).1 0 2 = nI k from ha]
  · intro n i _ hi
    show f_Mo_undo_22 N (n + 1) (zIr M 1 (til (rowAt (M.1 2) k) (M.1 1) i)) (nI i) = f_Mo_undo_22 N n (zIr M 1 (til (rowAt (M.1 2) k) (M.1 1) (i + 1))) (nI (i + 1))
    have e : nI 27 * (zIr M 1 (til (rowAt (M.1 2) k) (M.1 1) i)).1 0 2 + nI i = nI (27 * k + i) := by
      rw [show (zIr M 1 (til (rowAt (M.1 2) k) (M.1 1) i)).1 0 2 = nI k from ha, pk_mul, nI_add]
    rw [f_Mo_undo_22, if_neg (nI_ge hi (by decide)), e, if_pos (zin_nI (by omega) (by decide)), if_pos (zin_nI hi (by decide)), nI_clamp (by omega), nI_clamp (by omega)]
    simp only [bnd]
    rw [nI_add, zI_r, zIr_rr, zIr_s]
    congr 2
    exact til_s _ _ i
theorem o_undo {N : Nat} (hN : 200 ≤ N) : zop_undo N zInv := by
  intro μ h
  obtain ⟨hn, hJ⟩ := id h
  obtain ⟨⟨k, ⟨hperm, hk6, hks, hr⟩, hkm⟩, hi, ht, hs, r1, r2⟩ := hJ
  by_cases h0 : k = 0
  · subst h0
    refine ⟨-4, μ, μ 29, ?_, ?_, ?_⟩
    · simp only [f_RS_undo, f_RS_undo_26, f_Pt_bringBack, hks]
      rw [if_neg (by decide)]
      simp
    · simp only [f_Mo_undo, hkm]
      rw [if_pos trivial]
    · rw [zset_id]; exact h
  · obtain ⟨a, hw, hS, hM⟩ := hr (k - 1) (by omega)
    have hu := hperm.1 (k - 1) (by omega)
    generalize hue : (μ 16).2.2 1 (k - 1) = u at hu hS
    obtain ⟨T, eT, hT⟩ := s_takeFrom_rep (S := μ 0) hw hS
    have e16 : ∀ x, x ≠ 16 → x ≠ 0 → zset (zset μ 16 (zI (μ 16) 0 1 (nI (k - 1)))) 0 T x = μ x := fun x h1 h2 => by rw [zset_n _ _ h2, zset_n _ _ h1]
    refine ⟨nI (k - 1), zset (zset μ 16 (zI (μ 16) 0 1 (nI (k - 1)))) 0 T, zIr (zI (μ 29) 0 2 (nI (k - 1))) 1 (til (rowAt ((μ 29).1 2) (k - 1)) ((μ 29).1 1) 27), ?_, ?_, zInv_of ?_ ?_⟩
    · simp only [f_RS_undo, f_RS_undo_26, f_Pt_bringBack, hks, bnd]
      rw [if_pos (nI_lt (by omega) (by omega)), pk_sub (by omega)]
      have ez : (zset μ 16 (zI (μ 16) 0 1 (nI (k - 1))) 16).1 0 1 = nI (k - 1) := by rw [zset_s]; rfl
      have eu : (zset μ 16 (zI (μ 16) 0 1 (nI (k - 1))) 16).2.2 1 (k - 1) = u := by rw [zset_s]; exact hue
      have z : zin (nI (k - 1)) 6 := zin_nI (by omega) (by decide)
      have cl : (nI (k - 1)).toNatClampNeg = k - 1 := nI_clamp (by omega)
      simp only [ez, if_pos z, cl, eu]
      rw [if_pos (zc_st (by omega)), if_pos (show u ≠ 0 by omega), zset_n _ _ (show (0 : Nat) ≠ 16 by decide), zset_n _ _ (show u ≠ 16 by omega), eT]
      simp only [Option.bind_some]
      rw [if_neg nI_1_0, zset_n _ _ (show (16 : Nat) ≠ 0 by decide), ez]
    · simp only [f_Mo_undo, bnd]
      rw [e16 29 (by decide) (by decide), hkm, if_neg (nI_n0 (by omega) (by omega)), pk_sub (by omega), s_undo22 hN (by omega) (zI (μ 29) 0 2 (nI (k - 1))) rfl]
      rfl
    · refine ⟨a, hw, by rw [zset_s]; exact hT, repM_congr hw hM (fun j hj => til_in _ _ hj)⟩
    · refine ⟨⟨k - 1, ⟨?_, by omega, ?_, ?_⟩, rfl⟩, imgOK_keep (fun x hx => e16 x (by omega) (by omega)) rfl rfl rfl hi, ?_, ?_, ?_, ?_⟩
      · unfold permOK
        rw [zset_n _ _ (by decide), zset_s]
        exact hperm
      · rw [zset_n _ _ (by decide), zset_s]; rfl
      · intro i hi
        obtain ⟨b, q1, q2, q3⟩ := hr i (by omega)
        have hv := hperm.1 i (by omega)
        refine ⟨b, q1, ?_, q3⟩
        have e1 : (zset (zset μ 16 (zI (μ 16) 0 1 (nI (k - 1)))) 0 T 16).2.2 1 i = (μ 16).2.2 1 i := by rw [zset_n _ _ (by decide), zset_s]; rfl
        rw [e1, e16 _ (by omega) (by omega)]
        exact q2
      · rw [e16 19 (by decide) (by decide)]; exact tapeOK_keep rfl rfl ht
      · intro j hj
        rw [e16 (24 + j) (by omega) (by omega)]
        exact shOK_keep rfl rfl rfl (hs j hj)
      · rw [e16 21 (by decide) (by decide)]; exact r1
      · rw [e16 22 (by decide) (by decide)]; exact r2
