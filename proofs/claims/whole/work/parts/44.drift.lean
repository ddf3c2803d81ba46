/-! drift -/
theorem and31 (x : Int32) : ∃ d, d < 2 ^ 31 ∧ x &&& nI 2147483647 = nI d := by
  have hx : x = nI x.toBitVec.toNat := by
    apply Int32.toBitVec_inj.mp
    simp [nI]
  refine ⟨x.toBitVec.toNat &&& 2147483647, ?_, ?_⟩
  · exact Nat.lt_of_le_of_lt Nat.and_le_right (by decide)
  · conv => lhs; rw [hx]
    exact b_and _ _
theorem draw_eq (v : Int32) : ((v.toInt64 * (1103515245 : Int64) + (12345 : Int64)) &&& (2147483647 : Int64)).toInt32 = (v * nI 1103515245 + nI 12345) &&& nI 2147483647 := by
  rw [Int64.toInt32_and, Int64.toInt32_add, Int64.toInt32_mul, Int32.toInt32_toInt64]
  rfl
/-- a state and a draw, on both sides -/
theorem s_draw {S M : zOb} {a : aS} (hw : wfA a) (hS : repS S a) (hM : repM (M.1 1) a) (by_ : Int32) (hb : ¬ by_ = nI 0) : ∃ S' f' a' v, f_St_goOn S = some S' ∧ f_Mo_draws M by_ = some (v / by_, zIr M 1 f') ∧ S'.1 0 8 = v ∧ wfA a' ∧ repS S' a' ∧ repM f' a' := by
  obtain ⟨d, hd, ed⟩ := and31 (S.1 0 8 * nI 1103515245 + nI 12345)
  obtain ⟨r1, r2⟩ := rep_int hS hM (k := 5) (v := d) (by decide) (by decide)
  have e8 : S.1 0 8 = nI (a.1 5) := hS.1 5 (by decide)
  have e5 : M.1 1 5 = S.1 0 8 := by rw [e8]; exact hM.1 5 (by decide)
  refine ⟨zI S 0 8 (nI d), upd (M.1 1) 5 (nI d), (va_up a.1 5 d, a.2), nI d, ?_, ?_, rfl, wf_int hw (by decide) ?_, r1, r2⟩
  · simp only [f_St_goOn, bnd, ed]
  · simp only [f_Mo_draws, bnd, draw_eq, e5, ed]
    rw [if_pos hb]
    rfl
  · intro b hb
    subst hb
    obtain ⟨w0, w1, w2, w3, w4, w5⟩ := hw.1
    exact ⟨w0, w1, w2, w3, w4, hd⟩
theorem s_does {N : Nat} (hN : 200 ≤ N) {μ : zM} {M : zOb} {a : aS} (hw : wfA a) (hS : repS (μ 0) a) (hM : repM (M.1 1) a) (v3 v6 : Int32) : ∃ S' r f' a', (if (v3 - v3 / (nI 8) * (nI 8)) = (nI 0) then f_RS_takeTurn_104 N μ v6 else if (v3 - v3 / (nI 8) * (nI 8)) = (nI 1) then f_RS_takeTurn_104 N μ v6 else if (v3 - v3 / (nI 8) * (nI 8)) = (nI 2) then (f_St_changeWords (μ 0) ((v3 / (nI 8)) - (v3 / (nI 8)) / (nI 7) * (nI 7)) v6).bind (fun q14 => bnd (zset μ 0 q14.2) (fun μ15 => f_RS_takeTurn_192 N μ15)) else if (v3 - v3 / (nI 8) * (nI 8)) = (nI 3) then (f_St_turnAhead N (μ 0) ((v3 / (nI 8)) - (v3 / (nI 8)) / (nI 7) * (nI 7)) ((v3 / (nI 64)) - (v3 / (nI 64)) / (nI 7) * (nI 7))).bind (fun q17 => bnd (zset μ 0 q17.2) (fun μ18 => f_RS_takeTurn_192 N μ18)) else if (v3 - v3 / (nI 8) * (nI 8)) = (nI 4) then f_RS_takeTurn_143 N μ ((v3 / (nI 8)) - (v3 / (nI 8)) / (nI 7) * (nI 7)) ((v3 / (nI 64)) - (v3 / (nI 64)) / (nI 7) * (nI 7)) else if (v3 - v3 / (nI 8) * (nI 8)) = (nI 5) then f_RS_takeTurn_143 N μ ((v3 / (nI 8)) - (v3 / (nI 8)) / (nI 7) * (nI 7)) ((v3 / (nI 64)) - (v3 / (nI 64)) / (nI 7) * (nI 7)) else if (v3 - v3 / (nI 8) * (nI 8)) = (nI 6) then (f_St_changeRules (μ 0) (nI 0) (((v3 / (nI 8)) - (v3 / (nI 8)) / (nI 4) * (nI 4)) + (nI 1))).bind (fun q24 => bnd (zset μ 0 q24.2) (fun μ25 => f_RS_takeTurn_192 N μ25)) else (f_St_changeRules (μ 0) (nI 2) ((v3 / (nI 8)) - (v3 / (nI 8)) / (nI 3) * (nI 3))).bind (fun q26 => bnd (zset μ 0 q26.2) (fun μ27 => f_RS_takeTurn_192 N μ27))) = some (zset μ 0 S') ∧ f_Mo_does N M v3 v6 = some (r, zIr M 1 f') ∧ wfA a' ∧ repS S' a' ∧ repM f' a' := by
  have key : ∀ (cf mf : zOb → Option (Int32 × zOb)), actOK cf mf → ∀ (X : Option zM) (Y : Option (Int32 × zOb)), X = (cf (μ 0)).bind (fun q => some (zset μ 0 q.2)) → Y = (mf M).bind (fun q => some (q.1, q.2)) → ∃ S' r f' a', X = some (zset μ 0 S') ∧ Y = some (r, zIr M 1 f') ∧ wfA a' ∧ repS S' a' ∧ repM f' a' := by
    intro cf mf h X Y hX hY
    obtain ⟨r, S', f', a', e1, e2, w', q1, q2⟩ := h (μ 0) M a hw hS hM
    exact ⟨S', r, f', a', by rw [hX, e1]; rfl, by rw [hY, e2]; rfl, w', q1, q2⟩
  simp only [f_Mo_does, bnd]
  by_cases h0 : v3 - v3 / nI 8 * nI 8 = nI 0
  · rw [if_pos h0, if_pos h0]; exact key _ _ (a_book v6) _ _ rfl rfl
  rw [if_neg h0, if_neg h0]
  by_cases h1 : v3 - v3 / nI 8 * nI 8 = nI 1
  · rw [if_pos h1, if_pos h1]; exact key _ _ (a_book v6) _ _ rfl rfl
  rw [if_neg h1, if_neg h1]
  by_cases h2 : v3 - v3 / nI 8 * nI 8 = nI 2
  · rw [if_pos h2, if_pos h2]; exact key _ _ (a_words _ v6) _ _ rfl rfl
  rw [if_neg h2, if_neg h2]
  by_cases h3 : v3 - v3 / nI 8 * nI 8 = nI 3
  · rw [if_pos h3, if_pos h3]; exact key _ _ (a_ahead hN _ _) _ _ rfl rfl
  rw [if_neg h3, if_neg h3]
  by_cases h4 : v3 - v3 / nI 8 * nI 8 = nI 4
  · rw [if_pos h4, if_pos h4]; exact key _ _ (a_move hN _ _) _ _ rfl rfl
  rw [if_neg h4, if_neg h4]
  by_cases h5 : v3 - v3 / nI 8 * nI 8 = nI 5
  · rw [if_pos h5, if_pos h5]; exact key _ _ (a_move hN _ _) _ _ rfl rfl
  rw [if_neg h5, if_neg h5]
  by_cases h6 : v3 - v3 / nI 8 * nI 8 = nI 6
  · rw [if_pos h6, if_pos h6]; exact key _ _ (a_tell _ _) _ _ rfl rfl
  rw [if_neg h6, if_neg h6]
  exact key _ _ (a_tell _ _) _ _ rfl rfl
/-- what is now is kept -/
theorem s_keepnow {N : Nat} (hN : 200 ≤ N) {μ : zM} {M : zOb} {a : aS} (hw : wfA a) (hS : repS (μ 0) a) (hM : repM (M.1 1) a) (hJ : zJ μ M) : ∃ μ' M2 M3, f_Pt_keep N μ 16 0 = some μ' ∧ f_Mo_holds N M = some M2 ∧ f_Mo_notes N M2 = some M3 ∧ repS (μ' 0) a ∧ repM (M3.1 1) a ∧ zJ μ' M3 ∧ μ' 29 = μ 29 ∧ M3.1 1 = M.1 1 := by
  obtain ⟨⟨k, hp, hk⟩, hi, ht, hs, r1, r2⟩ := hJ
  obtain ⟨f, eh, hf⟩ := s_holds hN M
  obtain ⟨μ', rr, k', e1, e2, e3, e4⟩ := s_keep (M := zIr M 25 f) (o2 := 0) hN (by decide) (Or.inl rfl) (by decide) hp hk hw hS (repM_congr hw hM (fun j hj => hf j hj))
  refine ⟨μ', _, _, e1, eh, e2, by rw [e4 0 (by decide) (by decide)]; exact hS, hM, ?_, e4 29 (by decide) (by decide), rfl⟩
  refine ⟨⟨k', e3, rfl⟩, imgOK_keep (fun x hx => e4 x (by omega) (by omega)) rfl rfl rfl hi, ?_, ?_, ?_, ?_⟩
  · rw [e4 19 (by decide) (by decide)]
    exact tapeOK_keep rfl rfl ht
  · intro k hk
    rw [e4 (24 + k) (by omega) (by omega)]
    exact shOK_keep rfl rfl rfl (hs k hk)
  · rw [e4 21 (by decide) (by decide)]; exact r1
  · rw [e4 22 (by decide) (by decide)]; exact r2
/-- a turn, on both sides -/
theorem s_turn {N : Nat} (hN : 200 ≤ N) {μ : zM} {M : zOb} {a : aS} (hw : wfA a) (hS : repS (μ 0) a) (hM : repM (M.1 1) a) : ∃ S' M1 v1 M2 v2 r f' a', f_RS_takeTurn N μ = some (zset μ 0 S') ∧ f_Mo_draws M (nI 65536) = some (v1, M1) ∧ f_Mo_draws M1 (nI 2048) = some (v2, M2) ∧ f_Mo_does N M2 v1 (v2 - v2 / (nI 1048576) * (nI 1048576)) = some (r, zIr M 1 f') ∧ wfA a' ∧ repS S' a' ∧ repM f' a' := by
  have h65 : ¬ nI 65536 = nI 0 := nI_n0 (by decide) (by decide)
  have h20 : ¬ nI 2048 = nI 0 := nI_n0 (by decide) (by decide)
  obtain ⟨S4, f4, a4, v4, g1, g2, g3, w4, rs4, rm4⟩ := s_draw hw hS hM (nI 65536) h65
  obtain ⟨S5, f5, a5, v5, g4, g5, g6, w5, rs5, rm5⟩ := s_draw (S := S4) (M := zIr M 1 f4) w4 rs4 rm4 (nI 2048) h20
  obtain ⟨S6, r6, f6, a6, d1, d2, w6, rs6, rm6⟩ := s_does hN (μ := zset (zset μ 0 S4) 0 S5) (M := zIr (zIr M 1 f4) 1 f5) w5 rs5 rm5 (v4 / nI 65536) ((v5 / nI 2048) - (v5 / nI 2048) / nI 1048576 * nI 1048576)
  refine ⟨S6, zIr M 1 f4, v4 / nI 65536, zIr (zIr M 1 f4) 1 f5, v5 / nI 2048, r6, f6, a6, ?_, g2, g5, ?_, w6, rs6, rm6⟩
  · have ez : zset (zset (zset μ 0 S4) 0 S5) 0 S6 = zset μ 0 S6 := by
      funext x
      by_cases hx : x = 0
      · subst hx; rw [zset_s, zset_s]
      · rw [zset_n _ _ hx, zset_n _ _ hx, zset_n _ _ hx, zset_n _ _ hx]
    rw [ez] at d1
    rw [← d1]
    simp only [f_RS_takeTurn, bnd]
    rw [g1]
    simp only [Option.bind_some, zset_s, g3]
    rw [g4]
    simp only [Option.bind_some, zset_s, g6]
  · rw [d2, zIr_rr, zIr_rr]
theorem dr_c {N n : Nat} {μ μ' μ2 : zM} {x1 x2 : Int32} (h : ¬ x1 ≤ x2) (e1 : f_Pt_keep N μ 16 0 = some μ') (e2 : f_RS_takeTurn N μ' = some μ2) : f_RS_drift_15 N (n + 1) μ x1 x2 = f_RS_drift_15 N n μ2 x1 (x2 + nI 1) := by
  rw [f_RS_drift_15, if_neg h, e1, Option.bind_some, e2, Option.bind_some]
  rfl
theorem dr_m {N n : Nat} {M M2 M3 M4 M5 M6 : zOb} {v4 v5 r6 x1 x2 : Int32} (h : ¬ x1 ≤ x2) (e1 : f_Mo_holds N M = some M2) (e2 : f_Mo_notes N M2 = some M3) (e3 : f_Mo_draws M3 (nI 65536) = some (v4, M4)) (e4 : f_Mo_draws M4 (nI 2048) = some (v5, M5)) (e5 : f_Mo_does N M5 v4 (v5 - v5 / (nI 1048576) * (nI 1048576)) = some (r6, M6)) : f_Mo_drift_16 N (n + 1) M x1 x2 = f_Mo_drift_16 N n (zI M6 0 26 r6) x1 (x2 + nI 1) := by
  rw [f_Mo_drift_16, if_neg h, e1, Option.bind_some, e2, Option.bind_some, e3, Option.bind_some]
  simp only [bnd]
  rw [e4, Option.bind_some, e5, Option.bind_some]
theorem dr_J {μ' : zM} {M3 S6 : zOb} {f6 : Nat → Int32} {r6 : Int32} (q3 : zJ μ' M3) : zJ (zset μ' 0 S6) (zI (zIr M3 1 f6) 0 26 r6) := by
  have ez : ∀ x, x ≠ 0 → zset μ' 0 S6 x = μ' x := fun x hx => zset_n _ _ hx
  refine zJ_keep (fun x hx => ez x (by omega)) (by rw [ez 21 (by decide)]; exact q3.2.2.2.2.1) (by rw [ez 22 (by decide)]; exact q3.2.2.2.2.2) ?_ q3
  exact (keepM.row M3 (by decide) f6).tr (keepM.fld _ (by decide) r6)
theorem dr_0 {N n i : Nat} {μ : zM} {M : zOb} (h1 : nowOK μ M) : ∃ r, f_RS_drift_15 N (n + 1) μ (nI i) (nI i) = some (r, μ) ∧ f_Mo_drift_16 N (n + 1) M (nI i) (nI i) = some (r, M) := by
  obtain ⟨a, hw, hS, hM⟩ := id h1
  have en : (μ 0).1 0 3 = nI (a.1 0) := hS.1 0 (by decide)
  have em : M.1 1 0 = nI (a.1 0) := hM.1 0 (by decide)
  refine ⟨nI (a.1 0), ?_, ?_⟩
  · rw [f_RS_drift_15, if_pos (Int32.le_refl _), en]
  · rw [f_Mo_drift_16, if_pos (Int32.le_refl _), em]
theorem s_drift {N : Nat} (hN : 200 ≤ N) {e : Nat} (he : e ≤ 40) : ∀ k i n μ M, i + k = e → k < n → nowOK μ M → zJ μ M → ∃ r μ1 S2, f_RS_drift_15 N n μ (nI e) (nI i) = some (r, μ1) ∧ f_Mo_drift_16 N n M (nI e) (nI i) = some (r, S2) ∧ μ1 29 = μ 29 ∧ nowOK μ1 S2 ∧ zJ μ1 S2 := by
  intro k
  induction k with
  | zero =>
    intro i n μ M hi hn h1 h2
    obtain ⟨n, rfl⟩ : ∃ m, n = m + 1 := ⟨n - 1, by omega⟩
    have : i = e := by omega
    subst this
    obtain ⟨r, e1, e2⟩ := dr_0 (N := N) (n := n) (i := i) h1
    exact ⟨r, μ, M, e1, e2, rfl, h1, h2⟩
  | succ k ih =>
    intro i n μ M hi hn h1 h2
    obtain ⟨n, rfl⟩ : ∃ m, n = m + 1 := ⟨n - 1, by omega⟩
    obtain ⟨a, hw, hS, hM⟩ := id h1
    obtain ⟨μ', M2, M3, e1, e2, e3, q1, q2, q3, q4, q5⟩ := s_keepnow hN hw hS hM h2
    obtain ⟨S6, M4, v4, M5, v5, r6, f6, a6, d1, g2, g5, d2, w6, rs6, rm6⟩ := s_turn hN (M := M3) hw q1 q2
    have hn4 : nowOK (zset μ' 0 S6) (zI (zIr M3 1 f6) 0 26 r6) := ⟨a6, w6, by rw [zset_s]; exact rs6, rm6⟩
    obtain ⟨r, μ1, S2, x1, x2, x3, x4, x5⟩ := ih (i + 1) n _ _ (by omega) (by omega) hn4 (dr_J q3)
    have hlt : ¬ nI e ≤ nI i := nI_ge (by omega) (by omega)
    refine ⟨r, μ1, S2, ?_, ?_, ?_, x4, x5⟩
    · rw [dr_c hlt e1 d1, nI_add]
      exact x1
    · rw [dr_m hlt e2 e3 g2 g5 d2, nI_add]
      exact x2
    · rw [x3, zset_n _ _ (by decide)]
      exact q4
theorem o_drift {N : Nat} (hN : 200 ≤ N) : zop_drift N zInv := by
  intro μ x h
  rcases arg_rng x 1 40 (by decide) with ⟨v, v1, v2, rfl⟩ | hx
  · obtain ⟨r, μ1, S2, e1, e2, e3, e4, e5⟩ := s_drift hN v2 v 0 N μ (μ 29) (by omega) (by omega) h.1 h.2
    refine ⟨r, μ1, S2, ?_, ?_, zInv_of e4 e5⟩
    · simp only [f_RS_drift]
      rw [if_neg (nI_nlt v1 (by omega)), if_pos (nI_le v2 (by decide))]
      exact e1
    · rw [e3]
      have hi := in_1 (v := v) (lo := 1) (hi := 40) (l := 1) (h := 40) (by decide) (by decide) v1 v2 (by omega)
      simp only [f_Mo_drift, hi, Option.bind_some]
      rw [if_neg nI_1_0]
      exact e2
  · refine ⟨-1, μ, μ 29, ?_, ?_, by rw [zset_id]; exact h⟩
    · simp only [f_RS_drift, f_RS_drift_11]
      by_cases h1 : x < nI 1
      · rw [if_pos h1]
      · rw [if_neg h1, if_neg (fun q => hx ?_)]
        have h3 := i_le.mp q
        have h4 : ¬ x.toInt < (nI 1).toInt := fun g => h1 (i_lt.mpr g)
        have e0 : (nI 1).toInt = 1 := rfl
        have e1 : (nI 40).toInt = 40 := rfl
        omega
    · have hi := in_0 (x := x) (lo := 1) (hi := 40) (l := 1) (h := 40) (by decide) (by decide) hx
      simp only [f_Mo_drift, hi, Option.bind_some]
      rw [if_pos trivial]
