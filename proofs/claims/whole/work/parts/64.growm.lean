/-! the reference puts an order together; best -/
theorem pcb_s (k x : Nat) : pcb (k + 1) x = pcb k x + (if x.testBit k then 1 else 0) := rfl
theorem fr_bit {S w : Nat} {σ : Nat → Nat × Nat} (hw : w < 20) : (frN S σ).testBit w = (S.testBit w && decide ((σ w).1 = 0)) := (isM_mk _).2 w hw
theorem ag_bit {S w : Nat} {σ : Nat → Nat × Nat} (hw : w < 20) : (agN S σ).testBit w = (S.testBit w && decide (0 < (σ w).1)) := (isM_mk _).2 w hw
theorem r_79 {N k : Nat} {a : aS} {σ : Nat → Nat × Nat} (hw : wfA a) (K17 : zOb → Int32 → Int32 → Option zOb) (K39 : zOb → Int32 → Int32 → Int32 → Int32 → Int32 → Int32 → Option zOb) {M : zOb} (hM : repM (M.1 1) a) (ha : refAt M σ) (hσ : ∀ w, w < 20 → (σ w).1 < 8) (hk : k < a.1 0) (x1 x2 x3 x4 x5 : Int32) : ∀ m w nf, w + m = 20 → m < nf → f_Mo_grows_79 N K17 K39 nf M x1 x2 x3 x4 x5 (nI k) (nI (pcb w (frN (aN (a.2.1 k) (a.1 1)) σ))) (nI (pcb w (agN (aN (a.2.1 k) (a.1 1)) σ))) (nI w) = f_Mo_grows_79 N K17 K39 (0 + 1) M x1 x2 x3 x4 x5 (nI k) (nI (pcb 20 (frN (aN (a.2.1 k) (a.1 1)) σ))) (nI (pcb 20 (agN (aN (a.2.1 k) (a.1 1)) σ))) (nI 20) := by
  have h7 := hw.1.1
  intro m
  induction m with
  | zero =>
    intro w nf hw' hf
    obtain ⟨nf, rfl⟩ : ∃ t, nf = t + 1 := ⟨nf - 1, by omega⟩
    have : w = 20 := by omega
    subst this
    rw [f_Mo_grows_79, f_Mo_grows_79, if_pos (Int32.le_refl _), if_pos (Int32.le_refl _)]
  | succ m ih =>
    intro w nf hw' hf
    obtain ⟨nf, rfl⟩ : ∃ t, nf = t + 1 := ⟨nf - 1, by omega⟩
    have z27 : zin (nI (13 + k)) 27 := zin_nI (by omega) (by decide)
    have c27 : (nI (13 + k)).toNatClampNeg = 13 + k := nI_clamp (by omega)
    have zw : zin (nI w) 20 := zin_nI (by omega) (by decide)
    have cw : (nI w).toNatClampNeg = w := nI_clamp (by omega)
    have hT : aN (a.2.1 k) (a.1 1) < 2 ^ 31 := by have := aN_lt (y := a.1 1) (hw.2.1 k hk).1.2; omega
    have e14 := (ha w (by omega)).1
    have hs := hσ w (by omega)
    have e1 : M.1 1 1 = nI (a.1 1) := hM.1 1 (by decide)
    have ihn := ih (w + 1) nf (by omega) (by omega)
    rw [← ihn, pcb_s, pcb_s, fr_bit (by omega), ag_bit (by omega), f_Mo_grows_79, if_neg (nI_ge (by omega) (by decide)), nI_add, if_pos z27]
    simp only [c27, (hM.2 k hk).1, e1, b_andN]
    rw [s_has hT (by omega), Option.bind_some]
    by_cases ht : (aN (a.2.1 k) (a.1 1)).testBit w = true
    · rw [if_pos ht, if_neg nI_1_0, if_pos zw]
      simp only [cw, e14, ht, Bool.true_and]
      by_cases h0 : (σ w).1 = 0
      · have d1 : decide ((σ w).1 = 0) = true := decide_eq_true h0
        have d2 : decide (0 < (σ w).1) = false := decide_eq_false (by omega)
        rw [d1, d2, h0, if_pos rfl, f_Mo_grows_134]
        dsimp only [bnd]
        rw [if_neg nI_1_0, if_pos zw]
        simp only [cw, e14, h0]
        rw [if_pos (Int32.le_refl _), f_Mo_grows_158, f_Mo_grows_159]
        dsimp only [bnd]
        simp only [nI_add, if_true, if_false, Bool.false_eq_true, Nat.add_zero]
      · have d1 : decide ((σ w).1 = 0) = false := decide_eq_false h0
        have d2 : decide (0 < (σ w).1) = true := decide_eq_true (by omega)
        rw [d1, d2, if_neg (nI_n0 (by omega) (by omega)), f_Mo_grows_133, f_Mo_grows_134]
        dsimp only [bnd]
        rw [if_neg nI_1_0, if_pos zw]
        simp only [cw, e14]
        rw [if_neg (nI_ge (by omega) (by omega)), f_Mo_grows_159]
        dsimp only [bnd]
        simp only [nI_add, if_true, if_false, Bool.false_eq_true, Nat.add_zero]
    · have hf : (aN (a.2.1 k) (a.1 1)).testBit w = false := Bool.eq_false_iff.mpr ht
      rw [if_neg ht, if_pos rfl, f_Mo_grows_133, f_Mo_grows_134]
      dsimp only [bnd]
      rw [if_pos rfl, f_Mo_grows_158, f_Mo_grows_159]
      dsimp only [bnd]
      simp only [hf, Bool.false_and, nI_add, if_false, Bool.false_eq_true, Nat.add_zero]
theorem r_39 {N p : Nat} (hN : 200 ≤ N) {a : aS} {o : Nat → Nat} (hw : wfA a) (hp : p < a.1 0) (K17 : zOb → Int32 → Int32 → Option zOb) {M : zOb} (hM : repM (M.1 1) a) (ha : refAt M (sgm (aL a) (tS a o) p)) : ∀ m k nf, k + m = a.1 0 → m < nf → f_Mo_grows_39 N K17 nf M (nI (lfN o (a.1 0) p)) (nI p) (gI (gG a o p k).1) (nI (gG a o p k).2.1) (nI (gG a o p k).2.2) (nI k) = f_Mo_grows_39 N K17 (0 + 1) M (nI (lfN o (a.1 0) p)) (nI p) (gI (gG a o p (a.1 0)).1) (nI (gG a o p (a.1 0)).2.1) (nI (gG a o p (a.1 0)).2.2) (nI (a.1 0)) := by
  have h7 := hw.1.1
  have h0 : M.1 1 0 = nI (a.1 0) := hM.1 0 (by decide)
  intro m
  induction m with
  | zero =>
    intro k nf hk hf
    obtain ⟨nf, rfl⟩ : ∃ t, nf = t + 1 := ⟨nf - 1, by omega⟩
    have : k = a.1 0 := by omega
    subst this
    rw [f_Mo_grows_39, f_Mo_grows_39, h0, if_pos (Int32.le_refl _), if_pos (Int32.le_refl _)]
  | succ m ih =>
    intro k nf hk hf
    obtain ⟨nf, rfl⟩ : ∃ t, nf = t + 1 := ⟨nf - 1, by omega⟩
    have hlf : lfN o (a.1 0) p < 2 ^ 31 := lt31 h7 (lfN_lt o (a.1 0) p)
    obtain ⟨⟨b1, b2⟩, b3⟩ := gsc_in (C := gC a o p) (F := gF a o p) (A := gA a o p) (fun _ => pcb_le 20 _) (fun _ => pcb_le 20 _) k
    have b1' : (gG a o p k).2.1 ≤ 20 := b1
    have b2' : (gG a o p k).2.2 ≤ 20 := b2
    have bF : gF a o p k ≤ 20 := pcb_le 20 _
    have bA : gA a o p k ≤ 20 := pcb_le 20 _
    have ng := gI_neg (b := (gG a o p k).1) (n := k) (fun c hc => (b3 c hc).1) (by omega)
    have ihn := ih (k + 1) nf (by omega) (by omega)
    have el := s_aheadOf hN h7 M a.2.2.1 h0 (fun i hi => (hM.2 i hi).2.1) (fun i hi => (hw.2.1 i hi).2.1) (k := k) (by omega)
    have stay : gG a o p (k + 1) = gG a o p k → f_Mo_grows_204 N K17 (f_Mo_grows_39 N K17 nf) M (nI (lfN o (a.1 0) p)) (nI p) (gI (gG a o p k).1) (nI (gG a o p k).2.1) (nI (gG a o p k).2.2) (nI k) = f_Mo_grows_39 N K17 (0 + 1) M (nI (lfN o (a.1 0) p)) (nI p) (gI (gG a o p (a.1 0)).1) (nI (gG a o p (a.1 0)).2.1) (nI (gG a o p (a.1 0)).2.2) (nI (a.1 0)) := by
      intro e
      rw [e] at ihn
      rw [f_Mo_grows_204]
      dsimp only [bnd]
      rw [nI_add]
      exact ihn
    have take : gG a o p (k + 1) = (some k, gF a o p k, gA a o p k) → f_Mo_grows_193 N K17 (f_Mo_grows_39 N K17 nf) M (nI (lfN o (a.1 0) p)) (nI p) (nI k) (nI (gF a o p k)) (nI (gA a o p k)) = f_Mo_grows_39 N K17 (0 + 1) M (nI (lfN o (a.1 0) p)) (nI p) (gI (gG a o p (a.1 0)).1) (nI (gG a o p (a.1 0)).2.1) (nI (gG a o p (a.1 0)).2.2) (nI (a.1 0)) := by
      intro e
      rw [e] at ihn
      rw [f_Mo_grows_193, f_Mo_grows_204]
      dsimp only [bnd]
      rw [nI_add]
      exact ihn
    rw [f_Mo_grows_39, h0, if_neg (nI_ge (by omega) (by omega)), s_has hlf (by omega), Option.bind_some]
    by_cases hc : gC a o p k = true
    · obtain ⟨c1, c2⟩ := gC_t.mp hc
      rw [if_pos c1, if_neg nI_1_0, el, Option.bind_some, b_and, show ldr a.2.2.1 k (a.1 0) &&& lfN o (a.1 0) p = 0 from c2, if_pos rfl]
      have h79 := r_79 (N := N) (σ := sgm (aL a) (tS a o) p) hw K17 (f_Mo_grows_39 N K17 nf) hM ha (sg_lt (by omega)) (show k < a.1 0 by omega) (nI (lfN o (a.1 0) p)) (nI p) (gI (gG a o p k).1) (nI (gG a o p k).2.1) (nI (gG a o p k).2.2) 20 0 N (by omega) (by omega)
      refine h79.trans ?_
      rw [f_Mo_grows_79, if_pos (Int32.le_refl _)]
      show (if gI (gG a o p k).1 < nI 0 then f_Mo_grows_193 N K17 (f_Mo_grows_39 N K17 nf) M (nI (lfN o (a.1 0) p)) (nI p) (nI k) (nI (gF a o p k)) (nI (gA a o p k)) else (if nI (gF a o p k) < nI (gG a o p k).2.1 then f_Mo_grows_193 N K17 (f_Mo_grows_39 N K17 nf) M (nI (lfN o (a.1 0) p)) (nI p) (nI k) (nI (gF a o p k)) (nI (gA a o p k)) else (if nI (gF a o p k) = nI (gG a o p k).2.1 then (if nI (gA a o p k) ≤ nI (gG a o p k).2.2 then f_Mo_grows_204 N K17 (f_Mo_grows_39 N K17 nf) M (nI (lfN o (a.1 0) p)) (nI p) (gI (gG a o p k).1) (nI (gG a o p k).2.1) (nI (gG a o p k).2.2) (nI k) else f_Mo_grows_193 N K17 (f_Mo_grows_39 N K17 nf) M (nI (lfN o (a.1 0) p)) (nI p) (nI k) (nI (gF a o p k)) (nI (gA a o p k))) else f_Mo_grows_204 N K17 (f_Mo_grows_39 N K17 nf) M (nI (lfN o (a.1 0) p)) (nI p) (gI (gG a o p k).1) (nI (gG a o p k).2.1) (nI (gG a o p k).2.2) (nI k)))) = _
      by_cases g0 : (gG a o p k).1 = none
      · rw [if_pos (ng.mpr g0)]
        exact take (gsc_y ⟨hc, Or.inl g0⟩)
      · rw [if_neg (fun q => g0 (ng.mp q))]
        by_cases g1 : gF a o p k < (gG a o p k).2.1
        · rw [if_pos (nI_lt g1 (by omega))]
          exact take (gsc_y ⟨hc, Or.inr (Or.inl g1)⟩)
        · rw [if_neg (nI_nlt (by omega) (by omega))]
          by_cases g2 : gF a o p k = (gG a o p k).2.1
          · rw [if_pos (by rw [g2])]
            by_cases g3 : (gG a o p k).2.2 < gA a o p k
            · rw [if_neg (nI_ge g3 (by omega))]
              exact take (gsc_y ⟨hc, Or.inr (Or.inr ⟨g2, g3⟩)⟩)
            · rw [if_pos (nI_le (by omega) (by omega))]
              refine stay (gsc_n (fun q => ?_))
              rcases q.2 with q | q | q
              · exact g0 q
              · exact g1 q
              · exact g3 q.2
          · rw [if_neg (fun q => g2 ((nI_eq (by omega) (by omega)).mp q))]
            refine stay (gsc_n (fun q => ?_))
            rcases q.2 with q | q | q
            · exact g0 q
            · exact g1 q
            · exact g2 q.1
    · have hst := stay (gsc_n (fun q => hc q.1))
      by_cases c1 : (lfN o (a.1 0) p).testBit k = true
      · have c2 : ¬ ldr a.2.2.1 k (a.1 0) &&& lfN o (a.1 0) p = 0 := fun q => hc (gC_t.mpr ⟨c1, q⟩)
        have hx : ldr a.2.2.1 k (a.1 0) &&& lfN o (a.1 0) p < 2 ^ 31 := Nat.lt_of_le_of_lt Nat.and_le_right hlf
        rw [if_pos c1, if_neg nI_1_0, el, Option.bind_some, b_and, if_neg (fun q => c2 ((nI_eq hx (by decide)).mp q))]
        exact hst
      · rw [if_neg c1, if_pos rfl]
        exact hst
theorem refAll_cg {M : zOb} {L T T' : Nat → Nat} {i : Nat} (h : refAll M L T i) (e : ∀ q, q < i → T' q = T q) : refAll M L T' i := by
  refine ⟨by rw [sgm_cg L i e]; exact h.1, fun p hp => ?_⟩
  rw [sgm_cg L p (fun q hq => e q (by omega)), sgm_cg L (p + 1) (fun q hq => e q (by omega)), e p hp]
  exact h.2 p hp
theorem r_17 {N : Nat} (hN : 200 ≤ N) {a : aS} (hw : wfA a) {M0 : zOb} (hM0 : repM (M0.1 1) a) : ∀ m p nf M, p + m = a.1 0 → m < nf → wkJ M0 M → refAll M (aL a) (tS a (gro a p)) p → rowIs (M.1 13) (gro a p) p → ∃ Mf, f_Mo_grows_17 N nf M (nI (lfN (gro a p) (a.1 0) p)) (nI p) = some Mf ∧ wkJ M0 Mf ∧ refAll Mf (aL a) (tS a (grw a)) (a.1 0) ∧ rowIs (Mf.1 13) (grw a) (a.1 0) := by
  have h7 := hw.1.1
  intro m
  induction m with
  | zero =>
    intro p nf M hp hf hk hR hr
    obtain ⟨nf, rfl⟩ : ∃ t, nf = t + 1 := ⟨nf - 1, by omega⟩
    have : p = a.1 0 := by omega
    subst this
    refine ⟨M, ?_, hk, hR, hr⟩
    rw [f_Mo_grows_17, hk.one, hM0.1 0 (by decide), if_pos (Int32.le_refl _)]
  | succ m ih =>
    intro p nf M hp hf hk hR hr
    obtain ⟨nf, rfl⟩ : ∃ t, nf = t + 1 := ⟨nf - 1, by omega⟩
    have hM : repM (M.1 1) a := by rw [hk.one]; exact hM0
    have h0 : M.1 1 0 = nI (a.1 0) := hM.1 0 (by decide)
    have h39 := r_39 (p := p) (o := gro a p) hN hw (by omega) (f_Mo_grows_17 N nf) hM hR.1 (a.1 0) 0 N (by omega) (by omega)
    obtain ⟨g1, g2, g3⟩ := gPk_ok hw (gro a p) (p := p) (by omega)
    have eg : gro a (p + 1) = va_up (gro a p) p (gPk a (gro a p) p) := rfl
    rw [g1] at h39
    generalize hkk : gPk a (gro a p) p = k at h39 g1 g2 g3 eg
    have hag : agr (gro a p) (gro a (p + 1)) p := by rw [eg]; exact agr_up _ _ _
    have egp : gro a (p + 1) p = k := by rw [eg]; exact vu_s _ _ _
    have zp : zin (nI p) 7 := zin_nI (by omega) (by decide)
    have cp : (nI p).toNatClampNeg = p := nI_clamp (by omega)
    have hZ1 : repM ((zI M 13 p (nI k)).1 1) a := hM
    have ew : f_Mo_wordsAt (zI M 13 p (nI k)) (nI p) = some (nI (a.2.1 (gro a (p + 1) p))) := s_wordsAt hw hZ1 (by omega) (by rw [egp]; exact g2) (by rw [zI_e, upd_s, egp])
    have hRZ : refAll (zI M 13 p (nI k)) (aL a) (tS a (gro a (p + 1))) p := refAll_cg hR (tS_ag hag)
    obtain ⟨M2, e2, r2, k2⟩ := refAll_s (T := tS a (gro a (p + 1))) hN hw (show p < 7 by omega) (x := a.2.1 (gro a (p + 1) p)) (by rw [egp]; exact (hw.2.1 k g2).1.2) rfl hZ1 hRZ
    have kz : wkJ M (zI M 13 p (nI k)) := ⟨fun j h0 hj => zI_o _ _ (by omega), fun k _ => rfl, rfl⟩
    obtain ⟨Mf, f1, f2, f3, f4⟩ := ih (p + 1) nf M2 (by omega) (by omega) ((hk.tr kz).tr k2.wkJ) r2 (by
      intro q hq
      rw [k2.1 13 (by omega), zI_e, eg]
      by_cases hqp : q = p
      · subst hqp; rw [upd_s, vu_s]
      · rw [upd_n _ _ hqp, vu_n _ _ hqp]; exact hr q (by omega))
    refine ⟨Mf, ?_, f2, f3, f4⟩
    rw [f_Mo_grows_17, h0, if_neg (nI_ge (by omega) (by omega))]
    refine h39.trans ?_
    rw [f_Mo_grows_39, h0, if_pos (Int32.le_refl _), if_pos zp]
    dsimp only [bnd]
    rw [cp]
    show (f_Mo_wordsAt (zI M 13 p (nI k)) (nI p)).bind (fun q8 => (f_Mo_reads N (zI M 13 p (nI k)) (nI p) q8).bind (fun q9 => f_Mo_grows_17 N nf q9 (nI (lfN (gro a p) (a.1 0) p) &&& ((nI 1 <<< (nI k &&& 31)) ^^^ (-1 : Int32))) (nI p + nI 1))) = _
    rw [ew, Option.bind_some, e2, Option.bind_some, b_one (by omega), b_andN, nI_add, ← lfN_up, ← eg]
    exact f1
theorem s_grows {N : Nat} (hN : 200 ≤ N) {a : aS} (hw : wfA a) {M0 : zOb} (hM0 : repM (M0.1 1) a) : ∃ Mf, f_Mo_grows N M0 = some Mf ∧ wkJ M0 Mf ∧ f_Mo_number N Mf = some (nI (nuN (grw a) (a.1 0))) ∧ f_Mo_peak N Mf = some (nI (oPk a (grw a))) ∧ f_Mo_loss N Mf = some (nI (oLs a (grw a))) := by
  have h7 := hw.1.1
  obtain ⟨M1, e1, b1, k1⟩ := s_begins hN M0
  obtain ⟨Mf, e, k, r, o⟩ := r_17 hN hw hM0 (a.1 0) 0 N M1 (by omega) (by omega) k1.wkJ (refAll_0 b1) (fun p hp => absurd hp (by omega))
  have h0 : Mf.1 1 0 = nI (a.1 0) := by rw [k.one]; exact hM0.1 0 (by decide)
  refine ⟨Mf, ?_, k, s_numberM hN h7 h0 o, ?_, ?_⟩
  · have e2 : (nI 1 <<< (nI (a.1 0) &&& 31)) - nI 1 = nI (2 ^ a.1 0 - 1) := by rw [b_one (by omega), pk_sub (Nat.two_pow_pos _)]
    unfold f_Mo_grows
    dsimp only [bnd]
    rw [hM0.1 0 (by decide), e2, e1, Option.bind_some]
    exact e
  · exact s_peakM (F := fun p => frN (tS a (grw a) p) (sgm (aL a) (tS a (grw a)) p)) hN h7 h0 (fun p hp => ⟨(r.2 p hp).1, mkb_lt _ 20⟩)
  · exact s_lossM (F := fun p => loN (aL a) p (tS a (grw a) p) (sgm (aL a) (tS a (grw a)) p)) hN h7 h0 (fun p hp => ⟨(r.2 p hp).2.2.1, mkb_lt _ 20⟩)
theorem s_best22 {N w pk ls : Nat} (hN : 200 ≤ N) {a : aS} (hw : wfA a) {μ μ' : zM} {s0 : Int32} {o : Nat → Nat} (hS : repS (μ' 0) a) (e : f_RS_seekBestOrGrown N μ s0 = some μ') (hF : seF (μ' 23) (a.1 0) pk ls o) (hw6 : w < 6) : f_RS_best_22 N μ (nI w) s0 = some (if w % 3 = 0 then nI (nuN o (a.1 0)) else if w % 3 = 1 then nI pk else nI ls, μ') := by
  have h7 := hw.1.1
  unfold f_RS_best_22
  rw [e, Option.bind_some, pk_rem (by omega) (by decide) (by decide), s_number hN h7 (hS.1 0 (by decide)) hF.2.2, hF.1, hF.2.1]
  by_cases h0 : w % 3 = 0
  · rw [h0, if_pos rfl, if_pos rfl]
    rfl
  · rw [if_neg h0, if_neg (fun q => h0 ((nI_eq (by omega) (by decide)).mp q))]
    by_cases h1 : w % 3 = 1
    · rw [h1, if_pos rfl, if_pos rfl]
    · rw [if_neg h1, if_neg (fun q => h1 ((nI_eq (by omega) (by decide)).mp q))]
theorem o_best {N : Nat} (hN : 6000 ≤ N) : zop_best N zInv := by
  intro μ x h
  have hN2 : 200 ≤ N := by omega
  obtain ⟨⟨a, hw, hS, hM⟩, hJ⟩ := id h
  have h7 := hw.1.1
  have e0 : (nI 0).toInt = 0 := rfl
  have e5 : (nI 5).toInt = 5 := rfl
  have el0 : (0 : Int64).toInt = 0 := by decide
  have el5 : (5 : Int64).toInt = 5 := by decide
  rcases arg_in x (n := 6) (by decide) with ⟨w, hw2, rfl⟩ | hx
  · have c1 : ¬ nI w < nI 0 := nI_nlt (Nat.zero_le _) (by omega)
    have c2 : nI w ≤ nI 5 := nI_le (by omega) (by decide)
    have d : ∀ i j, i < 6 → j < 6 → i ≠ j → ¬ nI i = nI j := fun i j hi hj hij q => hij ((nI_eq (by omega) (by omega)).mp q)
    by_cases hw3 : w < 3
    · obtain ⟨μ', e, hs, hr, k⟩ := s_seekLeast hN2 hw hS hJ.2.2.2.2.2
      obtain ⟨Mf, em, kM, bM⟩ := s_laysBest hN hw hM
      have hpos := bV_pos a (ords (a.1 0)) (0, 0, 0, id) (ex_hold hw)
      generalize (ords (a.1 0)).foldl (bV a) (0, 0, 0, id) = st at hs bM hpos
      obtain ⟨b1, b2, b3, -, -, -⟩ := bM.2 hpos
      have hF : seF (μ' 23) (a.1 0) st.2.1 st.2.2.1 st.2.2.2 := ⟨hs.2.1, hs.2.2.1, hs.2.2.2 hpos⟩
      have e22 := s_best22 hN2 hw (by rw [k 0 (by decide) (by decide)]; exact hS) e hF hw2
      refine ⟨(if w % 3 = 0 then nI (nuN st.2.2.2 (a.1 0)) else if w % 3 = 1 then nI st.2.1 else nI st.2.2.1), μ', Mf, ?_, ?_, inv_srch h k hr kM.keep kM.one⟩
      · rw [f_RS_best, if_neg c1, if_pos c2, if_pos (nI_le (by omega) (by decide))]
        exact e22
      · rw [k 29 (by decide) (by decide), f_Mo_best, s_inI, nI_toInt (by omega), el0, el5, if_pos (by omega), Option.bind_some, if_neg nI_1_0, if_neg (nI_ge (by omega) (by decide)), em, Option.bind_some, b1, b2, b3]
        simp only [f_Mo_best_50]
        match w, hw3 with
        | 0, _ => rfl
        | 1, _ => rw [if_neg (d 1 0 (by decide) (by decide) (by decide)), if_pos rfl]; rfl
        | 2, _ => rw [if_neg (d 2 0 (by decide) (by decide) (by decide)), if_neg (d 2 1 (by decide) (by decide) (by decide))]; rfl
        | w + 3, h => exact absurd h (by omega)
    · obtain ⟨μ', e, hF, hr, k⟩ := s_seekGrown hN2 hw hS hJ.2.2.2.2.2
      obtain ⟨Mf, em, kM, q1, q2, q3⟩ := s_grows hN2 hw hM
      have e22 := s_best22 hN2 hw (by rw [k 0 (by decide) (by decide)]; exact hS) e hF hw2
      refine ⟨(if w % 3 = 0 then nI (nuN (grw a) (a.1 0)) else if w % 3 = 1 then nI (oPk a (grw a)) else nI (oLs a (grw a))), μ', Mf, ?_, ?_, inv_srch h k hr kM.keep kM.one⟩
      · rw [f_RS_best, if_neg c1, if_pos c2, if_neg (nI_ge (by omega) (by omega))]
        exact e22
      · rw [k 29 (by decide) (by decide), f_Mo_best, s_inI, nI_toInt (by omega), el0, el5, if_pos (by omega), Option.bind_some, if_neg nI_1_0, if_pos (nI_le (by omega) (by omega)), em, Option.bind_some, q1, q2, q3]
        simp only [f_Mo_best_83, Option.bind_some]
        match w, hw2, hw3 with
        | 3, _, _ => rfl
        | 4, _, _ => rw [if_neg (d 4 3 (by decide) (by decide) (by decide)), if_pos rfl]; rfl
        | 5, _, _ => rw [if_neg (d 5 3 (by decide) (by decide) (by decide)), if_neg (d 5 4 (by decide) (by decide) (by decide))]; rfl
        | w + 6, h, _ => exact absurd h (by omega)
        | 0, _, h => exact absurd (by decide) h
        | 1, _, h => exact absurd (by decide) h
        | 2, _, h => exact absurd (by decide) h
  · refine ⟨-1, μ, μ 29, ?_, ?_, inv_same h⟩
    · unfold f_RS_best f_RS_best_9
      by_cases h1 : x < nI 0
      · rw [if_pos h1]
      · rw [if_neg h1, if_neg (fun q => hx ?_)]
        have h3 := i_le.mp q
        have h4 : ¬ x.toInt < (nI 0).toInt := fun g => h1 (i_lt.mpr g)
        omega
    · unfold f_Mo_best
      rw [s_inI, el0, el5, if_neg (fun q => hx (by omega)), Option.bind_some, if_pos rfl]
