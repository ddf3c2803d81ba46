/-! read -/
theorem tape_C {L M : zOb} (h : tapeOK L M) : ∃ C t, tpC L C t ∧ tpM M C t := by
  obtain ⟨t, h1, h2, h3, h4⟩ := h
  refine ⟨fun i => (L.1 1 i).toNatClampNeg, t, ⟨h1, h2, fun i hi => ?_⟩, h3, fun i hi => ?_⟩
  · obtain ⟨c, c1, c2, c3, c4⟩ := h4 i hi
    have e : (L.1 1 i).toNatClampNeg = c := by rw [c3, nI_clamp (by omega)]
    show (32 ≤ (L.1 1 i).toNatClampNeg ∧ (L.1 1 i).toNatClampNeg ≤ 126) ∧ L.1 1 i = nI (L.1 1 i).toNatClampNeg
    rw [e]
    exact ⟨⟨c1, c2⟩, c3⟩
  · obtain ⟨c, c1, c2, c3, c4⟩ := h4 i hi
    have e : (L.1 1 i).toNatClampNeg = c := by rw [c3, nI_clamp (by omega)]
    show M.1 7 i = nI (L.1 1 i).toNatClampNeg
    rw [e]
    exact c4
theorem o_read {N : Nat} (hN : 200 ≤ N) : zop_read N zInv := by
  intro μ h
  obtain ⟨⟨a, hw, hS, hM⟩, hJ⟩ := id h
  obtain ⟨⟨kp, hp, hkp⟩, hi, ht, hs, r1, r2⟩ := id hJ
  obtain ⟨f, eh, hf⟩ := s_holds hN (μ 29)
  obtain ⟨C, t, hL, hT⟩ := tape_C ht
  have hT1 : tpM (zIr (μ 29) 25 f) C t := hT
  have h90 := hL.1
  have hpar := j_parse (N := N) hN hw hS (M := zIr (μ 29) 25 f) hM hL hT1
  have runM : f_Mo_read N (μ 29) = (f_Mo_readsAll N (zIr (μ 29) 25 f)).bind (fun q2 => (f_Mo_here N q2.2).bind (fun q4 => (if q2.1 = nI 0 then f_Mo_read_25 N N (zI q4.2 0 7 (nI 0)) (nI 0) else (f_Mo_notes N (zI q4.2 0 7 (nI 0))).bind (fun q7 => some (q7.1 1 0, q7))))) := by
    unfold f_Mo_read
    rw [eh, Option.bind_some]
    rfl
  have runC : f_RS_read N μ = (f_Pa_parses N μ).bind (fun q1 => (if q1.1 = nI 0 then some ((-20 : Int32) - (((zset q1.2 19 (zI (q1.2 19) 0 1 (nI 0))) 20).1 0 2), zset q1.2 19 (zI (q1.2 19) 0 1 (nI 0))) else (f_Pt_keep N (zset q1.2 19 (zI (q1.2 19) 0 1 (nI 0))) 16 0).bind (fun q5 => (f_St_takeFrom (q5 0) (q5 3)).bind (fun q6 => some (((zset q5 0 q6) 0).1 0 3, zset q5 0 q6))))) := rfl
  rw [runC]
  rcases hpar with ⟨q, Q, S, M, b, c1, d1, wb, rS, rM, k, P⟩ | ⟨q, Q, S, M, c1, d1, P, nq, k⟩
  · rw [c1, Option.bind_some]
    dsimp only
    rw [if_neg nI_1_0]
    have hTM := k.tp hT1
    obtain ⟨Qx, M1, -, e2, P1, k1⟩ := j_next (S := S) hN (μ := μ) (C := C) ⟨hL, hTM⟩ P
    have z19 : pC μ Q S 19 = μ 19 := pC_x μ Q S (by decide) (by decide)
    generalize hμ3 : zset (pC μ Q S) 19 (zI (pC μ Q S 19) 0 1 (nI 0)) = μ3
    have x3 : ∀ x, x ≠ 19 → x ≠ 20 → x ≠ 3 → μ3 x = μ x := fun x h1 h2 h3 => by rw [← hμ3, zset_n _ _ h1, pC_x μ Q S h2 h3]
    have y3 : μ3 3 = S := by rw [← hμ3, zset_n _ _ (by decide), pC_3]
    have y19 : μ3 19 = zI (μ 19) 0 1 (nI 0) := by rw [← hμ3, zset_s, z19]
    generalize hZ : zI M1 0 7 (nI 0) = Z
    have zj : ∀ j, j ≠ 0 → j ≠ 1 → Z.1 j = (zIr (μ 29) 25 f).1 j := fun j h0 h1 => by rw [← hZ, zI_o _ _ h0, k1.1 j h0, k.1 j h0 h1]
    have z1 : Z.1 1 = M.1 1 := by rw [← hZ, zI_o _ _ (by decide), k1.1 1 (by decide)]
    have z0 : ∀ i, i ≠ 7 → i ≠ 25 → Z.1 0 i = (μ 29).1 0 i := fun i h7 h25 => by rw [← hZ, zI_e, upd_n _ _ h7, k1.2.1 i h25, k.2.1 i h25]; rfl
    have z07 : Z.1 0 7 = nI 0 := by rw [← hZ, zI_e, upd_s]
    have z2 : Z.2 = (μ 29).2 := by rw [← hZ]; exact k1.2.2.trans k.2.2
    have zr2 : Z.1 2 = (μ 29).1 2 := zj 2 (by decide) (by decide)
    have zr25 : Z.1 25 = f := by rw [zj 25 (by decide) (by decide), zIr_e]
    have hp3 : pastOK μ3 16 4 kp (Z.1 2) := by
      rw [zr2]
      exact pastOK_congr (x3 16 (by decide) (by decide) (by decide)) (fun x h1 h2 => x3 x (by omega) (by omega) (by omega)) hp
    obtain ⟨μ4, rr, k', g1, g2, g3, g4⟩ := s_keep (o2 := 0) hN (by decide) (Or.inl rfl) (by decide) hp3 (by rw [z0 2 (by decide) (by decide)]; exact hkp) hw (by rw [x3 0 (by decide) (by decide) (by decide)]; exact hS) (by rw [zr25]; exact repM_congr hw hM hf)
    have f3 : μ4 3 = S := by rw [g4 3 (by decide) (by decide)]; exact y3
    have x4 : ∀ x, x ≠ 19 → x ≠ 20 → x ≠ 3 → x ≠ 16 → ¬ (4 ≤ x ∧ x < 10) → μ4 x = μ x := fun x h1 h2 h3 h4 h5 => by rw [g4 x h4 (by omega), x3 x h1 h2 h3]
    obtain ⟨T, eT, hTr⟩ := s_takeFrom_rep (S := μ4 0) wb (show repS (μ4 3) b by rw [f3]; exact rS)
    have e0 : ∀ x, x ≠ 0 → (zset μ4 0 T) x = μ4 x := fun x h => zset_n _ _ h
    refine ⟨nI (b.1 0), zset μ4 0 T, zIr (zIr Z 2 rr) 0 (upd (Z.1 0) 2 (nI k')), ?_, ?_, zInv_of ⟨b, wb, by rw [zset_s]; exact hTr, by show repM (Z.1 1) b; rw [z1]; exact rM⟩ ?_⟩
    · rw [g1, Option.bind_some, eT, Option.bind_some, zset_s, hTr.1 0 (by decide)]
    · rw [e0 29 (by decide), x4 29 (by decide) (by decide) (by decide) (by decide) (by decide), runM, d1, Option.bind_some]
      dsimp only
      rw [e2, Option.bind_some]
      dsimp only
      rw [if_neg nI_1_0, hZ, g2, Option.bind_some]
      show some (Z.1 1 0, _) = _
      rw [z1, rM.1 0 (by decide)]
    · refine ⟨⟨k', ?_, rfl⟩, ?_, ?_, ?_, ?_, ?_⟩
      · exact pastOK_congr (e0 16 (by decide)) (fun x h1 h2 => e0 x (by omega)) g3
      · refine imgOK_keep (fun x hx => ?_) ?_ ?_ ?_ hi
        · rw [e0 x (by omega), x4 x (by omega) (by omega) (by omega) (by omega) (by omega)]
        · show Z.1 4 = _
          exact zj 4 (by decide) (by decide)
        · show Z.1 5 = _
          exact zj 5 (by decide) (by decide)
        · show upd (Z.1 0) 2 (nI k') 5 = _
          rw [upd_n _ _ (by decide), z0 5 (by decide) (by decide)]
      · rw [e0 19 (by decide), g4 19 (by decide) (by decide), y19]
        refine ⟨0, by decide, rfl, ?_, fun i hi => absurd hi (by omega)⟩
        show upd (Z.1 0) 2 (nI k') 7 = _
        rw [upd_n _ _ (by decide), z07]
      · intro k2 hk2
        rw [e0 (24 + k2) (by omega), x4 (24 + k2) (by omega) (by omega) (by omega) (by omega) (by omega)]
        refine shOK_keep ?_ ?_ ?_ (hs k2 hk2)
        · exact zj 9 (by decide) (by decide)
        · exact zj 10 (by decide) (by decide)
        · exact z2
      · rw [e0 21 (by decide), x4 21 (by decide) (by decide) (by decide) (by decide) (by decide)]; exact r1
      · rw [e0 22 (by decide), x4 22 (by decide) (by decide) (by decide) (by decide) (by decide)]; exact r2
  · rw [c1, Option.bind_some]
    dsimp only
    rw [if_pos rfl]
    have hTM := k.tp hT1
    obtain ⟨Qx, M1, -, e2, P1, k1⟩ := j_next (S := S) hN (μ := μ) (C := C) ⟨hL, hTM⟩ P
    rw [nq] at P1
    have z19 : pC μ Q S 19 = μ 19 := pC_x μ Q S (by decide) (by decide)
    have y20 : (zset (pC μ Q S) 19 (zI (pC μ Q S 19) 0 1 (nI 0))) 20 = Q := by rw [zset_n _ _ (by decide), pC_20]
    rw [y20, P.1]
    generalize hμ3 : zset (pC μ Q S) 19 (zI (pC μ Q S 19) 0 1 (nI 0)) = μ3
    have x3 : ∀ x, x ≠ 19 → x ≠ 20 → x ≠ 3 → μ3 x = μ x := fun x h1 h2 h3 => by rw [← hμ3, zset_n _ _ h1, pC_x μ Q S h2 h3]
    have y19 : μ3 19 = zI (μ 19) 0 1 (nI 0) := by rw [← hμ3, zset_s, z19]
    generalize hZ : zI M1 0 7 (nI 0) = Z
    have zj : ∀ j, j ≠ 0 → j ≠ 1 → Z.1 j = (zIr (μ 29) 25 f).1 j := fun j h0 h1 => by rw [← hZ, zI_o _ _ h0, k1.1 j h0, k.1 j h0 h1]
    have z0 : ∀ i, i ≠ 7 → i ≠ 25 → Z.1 0 i = (μ 29).1 0 i := fun i h7 h25 => by rw [← hZ, zI_e, upd_n _ _ h7, k1.2.1 i h25, k.2.1 i h25]; rfl
    have z07 : Z.1 0 7 = nI 0 := by rw [← hZ, zI_e, upd_s]
    have z025 : Z.1 0 25 = nI q := by rw [← hZ, zI_e, upd_n _ _ (by decide)]; exact P1.2.1
    have z2 : Z.2 = (μ 29).2 := by rw [← hZ]; exact k1.2.2.trans k.2.2
    have zr25 : Z.1 25 = f := by rw [zj 25 (by decide) (by decide), zIr_e]
    refine ⟨(-20 : Int32) - nI q, μ3, zIr Z 1 (til (Z.1 25) (Z.1 1) 27), rfl, ?_, zInv_of ⟨a, hw, by rw [x3 0 (by decide) (by decide) (by decide)]; exact hS, ?_⟩ ?_⟩
    · rw [x3 29 (by decide) (by decide) (by decide), runM, d1, Option.bind_some]
      dsimp only
      rw [e2, Option.bind_some]
      dsimp only
      rw [if_pos rfl, hZ, s_read25 hN, z025]
    · rw [zIr_e]
      refine repM_congr hw hM (fun j hj => ?_)
      rw [til_in _ _ hj, zr25]
      exact hf j hj
    · refine ⟨⟨kp, ?_, ?_⟩, ?_, ?_, ?_, ?_, ?_⟩
      · rw [zIr_o _ _ (by decide), zj 2 (by decide) (by decide)]
        exact pastOK_congr (x3 16 (by decide) (by decide) (by decide)) (fun x h1 h2 => x3 x (by omega) (by omega) (by omega)) hp
      · show Z.1 0 2 = _
        rw [z0 2 (by decide) (by decide)]; exact hkp
      · refine imgOK_keep (fun x hx => x3 x (by omega) (by omega) (by omega)) ?_ ?_ ?_ hi
        · exact zj 4 (by decide) (by decide)
        · exact zj 5 (by decide) (by decide)
        · exact z0 5 (by decide) (by decide)
      · rw [y19]
        exact ⟨0, by decide, rfl, z07, fun i hi => absurd hi (by omega)⟩
      · intro k2 hk2
        rw [x3 (24 + k2) (by omega) (by omega) (by omega)]
        refine shOK_keep ?_ ?_ ?_ (hs k2 hk2)
        · exact zj 9 (by decide) (by decide)
        · exact zj 10 (by decide) (by decide)
        · exact z2
      · rw [x3 21 (by decide) (by decide) (by decide)]; exact r1
      · rw [x3 22 (by decide) (by decide) (by decide)]; exact r2
theorem ops_all : zops 6000 zInv := by
  have h2 : 200 ≤ 6000 := by decide
  have h6 : 6000 ≤ 6000 := by decide
  exact ⟨o_book h2, o_words h2, o_lose h2, o_ahead h2, o_prior h2, o_tell h2, o_move h2, o_settle h6, o_place h2, o_word h2, o_told h2, o_count h2, o_best h6, o_many h6, o_fit h6, o_kept h2, o_letter h2, o_type, o_read h2, o_drift h2, o_undo h2, o_seed, o_image h2, o_restore h2, o_seen h6, o_film h2, o_sheet h2, o_drop h2, o_item, o_copy h2⟩
