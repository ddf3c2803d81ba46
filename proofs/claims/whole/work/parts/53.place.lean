/-! place, film, word -/
theorem inv_read0 {μ : zM} (h : zInv μ) {M' : zOb} (hk : keepM (μ 29) M') (h1 : M'.1 1 = (μ 29).1 1) : zInv (zset μ 29 M') := by
  have := inv_read h (R' := μ 21) h.2.2.2.2.2.1 hk h1
  rw [zset_id] at this
  exact this
theorem sg_lt {L T : Nat → Nat} {p : Nat} (hp : p ≤ 7) : ∀ w, w < 20 → (sgm L T p w).1 < 8 := fun w hw => by have := (sgm_wf L T p w hw).1; omega
theorem o_place {N : Nat} (hN : 200 ≤ N) : zop_place N zInv := by
  intro μ x y h
  obtain ⟨a, R', M1, M', hw, hS, hM, e1, r1, e2, e3, r2, rO, kM, k1, -⟩ := s_now hN h
  have h7 := hw.1.1
  have hn : (μ 0).1 0 3 = nI (a.1 0) := hS.1 0 (by decide)
  have hm : (μ 29).1 1 0 = nI (a.1 0) := hM.1 0 (by decide)
  have e29 : ∀ X, (zset μ 21 X) 29 = μ 29 := fun X => zset_n _ _ (by decide)
  rcases arg_in x (n := a.1 0) (by omega) with ⟨p, hp, rfl⟩ | hx
  · have b1 := isB_1 h7 hn hp
    have hin : f_Mo_in (nI p).toInt64 (0 : Int64) ((nI (a.1 0) - nI 1).toInt64) = some (nI 1) := by
      have e0 : (0 : Int64).toInt = 0 := by decide
      rw [s_inI, n1_toInt (by omega), nI_T (by omega), e0, if_pos (by omega)]
    have zp : zin (nI p) 7 := zin_nI (by omega) (by decide)
    have cp : (nI p).toNatClampNeg = p := nI_clamp (by omega)
    obtain ⟨c7, c8, c9⟩ := r1.2.2.1 p hp
    obtain ⟨m16, m17, m18, m19⟩ := r2.2 p hp
    rcases arg_in y (n := 7) (by decide) with ⟨w, hw7, rfl⟩ | hy
    · have p0 : ¬ nI w < nI 0 := nI_nlt (Nat.zero_le _) (by omega)
      have p6 : nI w ≤ nI 6 := nI_le (by omega) (by decide)
      have inv := inv_read h r1.2.2.2 kM k1
      have d : ∀ i j, i < 7 → j < 7 → i ≠ j → ¬ nI i = nI j := fun i j hi hj hij q => hij ((nI_eq (by omega) (by omega)).mp q)
      have z0 : (zset μ 21 R') 0 = μ 0 := zset_n _ _ (by decide)
      have z21 : (zset μ 21 R') 21 = R' := zset_s _ _ _
      have d10 := d 1 0 (by decide) (by decide) (by decide)
      have d20 := d 2 0 (by decide) (by decide) (by decide)
      have d21 := d 2 1 (by decide) (by decide) (by decide)
      have d30 := d 3 0 (by decide) (by decide) (by decide)
      have d31 := d 3 1 (by decide) (by decide) (by decide)
      have d32 := d 3 2 (by decide) (by decide) (by decide)
      have d40 := d 4 0 (by decide) (by decide) (by decide)
      have d41 := d 4 1 (by decide) (by decide) (by decide)
      have d42 := d 4 2 (by decide) (by decide) (by decide)
      have d43 := d 4 3 (by decide) (by decide) (by decide)
      have d50 := d 5 0 (by decide) (by decide) (by decide)
      have d51 := d 5 1 (by decide) (by decide) (by decide)
      have d52 := d 5 2 (by decide) (by decide) (by decide)
      have d53 := d 5 3 (by decide) (by decide) (by decide)
      have d54 := d 5 4 (by decide) (by decide) (by decide)
      have d60 := d 6 0 (by decide) (by decide) (by decide)
      have d61 := d 6 1 (by decide) (by decide) (by decide)
      have d62 := d 6 2 (by decide) (by decide) (by decide)
      have d63 := d 6 3 (by decide) (by decide) (by decide)
      have d64 := d 6 4 (by decide) (by decide) (by decide)
      have d65 := d 6 5 (by decide) (by decide) (by decide)
      match w, hw7 with
      | 0, _ =>
        refine ⟨nI (a.2.2.2 p), _, M', ?_, ?_, inv⟩
        · simp only [f_RS_place, b1, Option.bind_some, if_neg nI_1_0, if_neg p0, if_pos p6, e1, bnd, if_pos, if_pos zp, cp, z0, (hS.2 p hp).2.2]
        · rw [e29]
          simp only [f_Mo_place, hm, hin, Option.bind_some, if_neg nI_1_0, e2, e3, if_pos, if_pos zp, cp, rO p hp]
      | 1, _ =>
        refine ⟨nI (pcb 20 (frN (tS a a.2.2.2 p) (sgm (aL a) (tS a a.2.2.2) p))), _, M', ?_, ?_, inv⟩
        · simp only [f_RS_place, b1, Option.bind_some, if_neg nI_1_0, if_neg p0, if_pos p6, e1, bnd, if_pos, if_neg d10, if_pos zp, cp, z21, c7, s_bitCount (mkb_lt _ 20), frN]
        · rw [e29]
          simp only [f_Mo_place, hm, hin, Option.bind_some, if_neg nI_1_0, e2, e3, if_pos, if_neg d10, if_pos zp, cp, m16, s_sizeOf hN (mkb_lt _ 20), frN]
      | 2, _ =>
        refine ⟨nI (pcb 20 (agN (tS a a.2.2.2 p) (sgm (aL a) (tS a a.2.2.2) p))), _, M', ?_, ?_, inv⟩
        · simp only [f_RS_place, b1, Option.bind_some, if_neg nI_1_0, if_neg p0, if_pos p6, e1, bnd, if_pos, if_neg d20, if_neg d21, if_pos zp, cp, z21, c8, s_bitCount (mkb_lt _ 20), agN]
        · rw [e29]
          simp only [f_Mo_place, hm, hin, Option.bind_some, if_neg nI_1_0, e2, e3, if_pos, if_neg d20, if_neg d21, if_pos zp, cp, m17, s_sizeOf hN (mkb_lt _ 20), agN]
      | 3, _ =>
        refine ⟨nI (pcb 20 (loN (aL a) p (tS a a.2.2.2 p) (sgm (aL a) (tS a a.2.2.2) p))), _, M', ?_, ?_, inv⟩
        · simp only [f_RS_place, b1, Option.bind_some, if_neg nI_1_0, if_neg p0, if_pos p6, e1, bnd, if_pos, if_neg d30, if_neg d31, if_neg d32, if_pos zp, cp, z21, c9, s_bitCount (mkb_lt _ 20), loN]
        · rw [e29]
          simp only [f_Mo_place, hm, hin, Option.bind_some, if_neg nI_1_0, e2, e3, if_pos, if_neg d30, if_neg d31, if_neg d32, if_pos zp, cp, m18, s_sizeOf hN (mkb_lt _ 20), loN]
      | 4, _ =>
        refine ⟨nI (frN (tS a a.2.2.2 p) (sgm (aL a) (tS a a.2.2.2) p)), _, M', ?_, ?_, inv⟩
        · simp only [f_RS_place, b1, Option.bind_some, if_neg nI_1_0, if_neg p0, if_pos p6, e1, bnd, if_pos, if_neg d40, if_neg d41, if_neg d42, if_neg d43, if_pos zp, cp, z21, c7]
        · rw [e29]
          simp only [f_Mo_place, hm, hin, Option.bind_some, if_neg nI_1_0, e2, e3, if_pos, if_neg d40, if_neg d41, if_neg d42, if_neg d43, if_pos zp, cp, m16]
      | 5, _ =>
        refine ⟨nI (loN (aL a) p (tS a a.2.2.2 p) (sgm (aL a) (tS a a.2.2.2) p)), _, M', ?_, ?_, inv⟩
        · simp only [f_RS_place, b1, Option.bind_some, if_neg nI_1_0, if_neg p0, if_pos p6, e1, bnd, if_pos, if_neg d50, if_neg d51, if_neg d52, if_neg d53, if_neg d54, if_pos zp, cp, z21, c9]
        · rw [e29]
          simp only [f_Mo_place, hm, hin, Option.bind_some, if_neg nI_1_0, e2, e3, if_pos, if_neg d50, if_neg d51, if_neg d52, if_neg d53, if_neg d54, if_pos zp, cp, m18]
      | 6, _ =>
        have hkn := s_known (p := p + 1) (by omega) (sg_lt (by omega)) (r1.2.1 (p + 1) (by omega))
        refine ⟨nI (liN (sgm (aL a) (tS a a.2.2.2) (p + 1))), _, M', ?_, ?_, inv⟩
        · simp only [f_RS_place, b1, Option.bind_some, if_neg nI_1_0, if_neg p0, if_pos p6, e1, bnd, if_neg d60, if_neg d61, if_neg d62, if_neg d63, if_neg d64, if_neg d65, z21, nI_add, hkn]
        · rw [e29]
          simp only [f_Mo_place, hm, hin, Option.bind_some, if_neg nI_1_0, e2, e3, if_pos, if_neg d60, if_neg d61, if_neg d62, if_neg d63, if_neg d64, if_neg d65, if_pos zp, cp, m19]
      | w + 7, hw => exact absurd hw (by omega)
    · have e0 : (nI 0).toInt = 0 := rfl
      have e6 : (nI 6).toInt = 6 := rfl
      refine ⟨-1, μ, M', ?_, ?_, inv_read0 h kM k1⟩
      · simp only [f_RS_place, f_RS_place_21, b1, Option.bind_some, if_neg nI_1_0]
        by_cases h1 : y < nI 0
        · rw [if_pos h1]
        · rw [if_neg h1, if_neg (fun q => hy ?_)]
          have h3 := i_le.mp q
          have h4 : ¬ y.toInt < (nI 0).toInt := fun g => h1 (i_lt.mpr g)
          omega
      · have hy0 : ∀ v, v < 7 → ¬ y = nI v := fun v hv q => hy (by rw [q, nI_T (by omega)]; omega)
        simp only [f_Mo_place, hm, hin, Option.bind_some, if_neg nI_1_0, e2, e3]
        rw [if_neg (hy0 0 (by decide)), if_neg (hy0 1 (by decide)), if_neg (hy0 2 (by decide)), if_neg (hy0 3 (by decide)), if_neg (hy0 4 (by decide)), if_neg (hy0 5 (by decide)), if_neg (hy0 6 (by decide))]
  · have hin : f_Mo_in x.toInt64 (0 : Int64) ((nI (a.1 0) - nI 1).toInt64) = some (nI 0) := by
      have e0 : (0 : Int64).toInt = 0 := by decide
      rw [s_inI, n1_toInt (by omega), e0, if_neg (by omega)]
    refine ⟨-1, μ, μ 29, ?_, ?_, inv_same h⟩
    · simp only [f_RS_place, f_RS_place_21, isB_0 h7 hn hx, Option.bind_some]
      simp only [if_pos]
    · simp only [f_Mo_place, hm, hin, Option.bind_some]
      simp only [if_pos]
theorem small_cut {l : Nat} {v : Nat} (hv : v ≤ 20) : ∃ w, f_Mo_cut (nI l) (nI v).toInt64 = some w ∧ w = (nI v).toInt64 := by
  have d8 : ∀ v, v < 21 → (nI v).toInt64.toInt32.toInt8.toInt32.toInt64 = (nI v).toInt64 := by decide
  have d16 : ∀ v, v < 21 → (nI v).toInt64.toInt32.toInt16.toInt32.toInt64 = (nI v).toInt64 := by decide
  have d32 : ∀ v, v < 21 → (nI v).toInt64.toInt32.toInt64 = (nI v).toInt64 := by decide
  simp only [f_Mo_cut, f_Mo_cut_35]
  by_cases h0 : nI l = nI 0
  · rw [if_pos h0]; exact ⟨_, rfl, d8 v (by omega)⟩
  · rw [if_neg h0]
    by_cases h1 : nI l = nI 1
    · rw [if_pos h1]; exact ⟨_, rfl, d16 v (by omega)⟩
    · rw [if_neg h1]
      by_cases h2 : nI l = nI 2
      · rw [if_pos h2]; exact ⟨_, rfl, d32 v (by omega)⟩
      · rw [if_neg h2]; exact ⟨_, rfl, rfl⟩
theorem zset_comm (μ : zM) {o o' : Nat} (S S' : zOb) (h : o ≠ o') : zset (zset μ o S) o' S' = zset (zset μ o' S') o S := by
  funext x
  unfold zset
  by_cases h1 : x = o'
  · rw [if_pos h1, if_neg (fun e => h (e.symm.trans h1)), if_pos h1]
  · rw [if_neg h1, if_neg h1]
theorem inv_read21 {μ : zM} (h : zInv μ) {R' : zOb} (hr : rdOK R') : zInv (zset μ 21 R') := by
  have := inv_read h hr (keepM.rf (μ 29)) rfl
  rw [show zset (zset μ 21 R') 29 (μ 29) = zset μ 21 R' from zset_idS (zset_n _ _ (by decide))] at this
  exact this
theorem s_film38 {N k l j sz n : Nat} (hN : 200 ≤ N) {F : Nat → Nat} (hk : k < 4) (hn : n ≤ 7) (hj : j + n ≤ sz) (hsz : sz ≤ 24) (hF : ∀ p, p < n → F p < 2 ^ 20) {μ : zM} (h0 : (μ 0).1 0 3 = nI n) (h1 : (μ (24 + k)).1 0 1 = nI l) (h2 : (μ (24 + k)).1 0 2 = nI sz) (h7 : ∀ p, p < n → (μ 21).1 7 p = nI (F p)) : f_RS_film_38 N N μ (nI k) (nI j) (nI 0) = some (nI n, zset μ (24 + k) (zLr (μ (24 + k)) 1 (cpL (fun t => (nI (pcb 20 (F t))).toInt64) ((μ (24 + k)).2.1 1) 0 j n))) := by
  have h := for_up (fun m S x => f_RS_film_38 N m S (nI k) (nI j) x) 0 n (fun i => zset μ (24 + k) (zLr (μ (24 + k)) 1 (cpL (fun t => (nI (pcb 20 (F t))).toInt64) ((μ (24 + k)).2.1 1) 0 j i))) (some (nI n, zset μ (24 + k) (zLr (μ (24 + k)) 1 (cpL (fun t => (nI (pcb 20 (F t))).toInt64) ((μ (24 + k)).2.1 1) 0 j n)))) ?_ ?_ (by omega) N (by omega)
  · simp only [cpL_0, zLr_id, zset_id] at h
    exact h
  · intro m
    show f_RS_film_38 N (m + 1) _ (nI k) (nI j) (nI n) = _
    rw [f_RS_film_38, zset_n _ _ (by omega), h0, if_pos (Int32.le_refl _)]
  · intro m i _ hi
    show f_RS_film_38 N (m + 1) (zset μ (24 + k) (zLr (μ (24 + k)) 1 (cpL (fun t => (nI (pcb 20 (F t))).toInt64) ((μ (24 + k)).2.1 1) 0 j i))) (nI k) (nI j) (nI i) = f_RS_film_38 N m (zset μ (24 + k) (zLr (μ (24 + k)) 1 (cpL (fun t => (nI (pcb 20 (F t))).toInt64) ((μ (24 + k)).2.1 1) 0 j (i + 1)))) (nI k) (nI j) (nI (i + 1))
    have zk : zin (nI k) 4 := zin_nI hk (by decide)
    have ck : (nI k).toNatClampNeg = k := nI_clamp (by omega)
    have zi : zin (nI i) 7 := zin_nI (by omega) (by decide)
    have ci : (nI i).toNatClampNeg = i := nI_clamp (by omega)
    obtain ⟨w, g1, g2⟩ := s_put (zLr (μ (24 + k)) 1 (cpL (fun t => (nI (pcb 20 (F t))).toInt64) ((μ (24 + k)).2.1 1) 0 j i)) (l := l) (j := j + i) (sz := sz) (by omega) hsz h1 h2 (nI (pcb 20 (F i))).toInt64
    obtain ⟨w2, g3, g4⟩ := small_cut (l := l) (pcb_le 20 (F i))
    rw [g3] at g2
    have hww : w2 = w := Option.some.inj g2
    subst hww
    subst g4
    have e0 : ∀ X, (zset μ (24 + k) X) 0 = μ 0 := fun X => zset_n _ _ (by omega)
    have e21 : ∀ X, (zset μ (24 + k) X) 21 = μ 21 := fun X => zset_n _ _ (by omega)
    rw [f_RS_film_38, e0, h0, if_neg (nI_ge hi (by omega)), e21]
    simp only [if_pos zk, if_pos zi, ck, ci, h7 i hi, s_bitCount (hF i hi), Option.bind_some, zset_s, nI_add, g1, bnd, zset_ss]
    rw [zLr_rr, zLr_s, ← cpL_s, Nat.zero_add]
theorem s_film55 {N k j n : Nat} (hN : 200 ≤ N) {F : Nat → Nat} (hk : k < 4) (hn : n ≤ 7) (hj : j + n ≤ 24) (hF : ∀ p, p < n → F p < 2 ^ 20) {M : zOb} (h0 : M.1 1 0 = nI n) (h7 : ∀ p, p < n → M.1 16 p = nI (F p)) : f_Mo_film_55 N N M (nI k) (nI j) (nI 0) = some (nI n, zLr M 11 (cpL (fun t => (nI (pcb 20 (F t))).toInt64) (M.2.1 11) 0 (24 * k + j) n)) := by
  have h := for_up (fun m S x => f_Mo_film_55 N m S (nI k) (nI j) x) 0 n (fun i => zLr M 11 (cpL (fun t => (nI (pcb 20 (F t))).toInt64) (M.2.1 11) 0 (24 * k + j) i)) (some (nI n, zLr M 11 (cpL (fun t => (nI (pcb 20 (F t))).toInt64) (M.2.1 11) 0 (24 * k + j) n))) ?_ ?_ (by omega) N (by omega)
  · simp only [cpL_0, zLr_id] at h
    exact h
  · intro m
    show f_Mo_film_55 N (m + 1) (zLr M 11 (cpL (fun t => (nI (pcb 20 (F t))).toInt64) (M.2.1 11) 0 (24 * k + j) n)) (nI k) (nI j) (nI n) = _
    have e0 : (zLr M 11 (cpL (fun t => (nI (pcb 20 (F t))).toInt64) (M.2.1 11) 0 (24 * k + j) n)).1 1 0 = nI n := h0
    rw [f_Mo_film_55, e0, if_pos (Int32.le_refl _)]
  · intro m i _ hi
    show f_Mo_film_55 N (m + 1) (zLr M 11 (cpL (fun t => (nI (pcb 20 (F t))).toInt64) (M.2.1 11) 0 (24 * k + j) i)) (nI k) (nI j) (nI i) = f_Mo_film_55 N m (zLr M 11 (cpL (fun t => (nI (pcb 20 (F t))).toInt64) (M.2.1 11) 0 (24 * k + j) (i + 1))) (nI k) (nI j) (nI (i + 1))
    have e0 : (zLr M 11 (cpL (fun t => (nI (pcb 20 (F t))).toInt64) (M.2.1 11) 0 (24 * k + j) i)).1 1 0 = nI n := h0
    have e16 : (zLr M 11 (cpL (fun t => (nI (pcb 20 (F t))).toInt64) (M.2.1 11) 0 (24 * k + j) i)).1 16 i = nI (F i) := h7 i hi
    have zi : zin (nI i) 7 := zin_nI (by omega) (by decide)
    have ci : (nI i).toNatClampNeg = i := nI_clamp (by omega)
    have z96 : zin (nI (24 * k + j + i)) 96 := zin_nI (by omega) (by decide)
    have c96 : (nI (24 * k + j + i)).toNatClampNeg = 24 * k + j + i := nI_clamp (by omega)
    rw [f_Mo_film_55, e0, if_neg (nI_ge hi (by omega))]
    simp only [if_pos zi, ci, e16, s_sizeOf hN (hF i hi), Option.bind_some, pk_mul, nI_add, if_pos z96, c96, bnd]
    rw [zL_r, zLr_rr, zLr_s, ← cpL_s, Nat.zero_add]
theorem o_film {N : Nat} (hN : 200 ≤ N) : zop_film N zInv := by
  intro μ x y i h
  obtain ⟨a, R', M1, M', hw, hS, hM, e1, r1, e2, e3, r2, rO, kM, k1, kj⟩ := s_now hN h
  have h7 := hw.1.1
  have hn : (μ 0).1 0 3 = nI (a.1 0) := hS.1 0 (by decide)
  have hm : (μ 29).1 1 0 = nI (a.1 0) := hM.1 0 (by decide)
  have hs := h.2.2.2.2.1
  rcases s_row hs x y i h7 (some ((-1 : Int32), μ 29)) ((f_Mo_takesOrder N (μ 29)).bind (fun q7 => (f_Mo_readsOrder N q7).bind (fun q8 => f_Mo_film_55 N N q8 x i (nI 0)))) (fun r => some (r, μ 29)) with ⟨r, g1, g2, g3⟩ | ⟨k, l, j, sz, hk, hl, hj, hsz, rfl, rfl, rfl, q1, q2, q3, q4, q5, g1, g2⟩
  · refine ⟨r, μ, μ 29, ?_, ?_, inv_same h⟩
    · rw [f_RS_film, hn, g1, Option.bind_some, if_neg g2]
    · have e : f_Mo_film N (μ 29) x y i = (f_Mo_isSheet x).bind (fun q1 => if q1 = nI 0 then some ((-1 : Int32), μ 29) else (f_Mo_in y.toInt64 (0 : Int64) (3 : Int64)).bind (fun q3 => if q3 = nI 0 then some ((-1 : Int32), μ 29) else (f_Mo_found (μ 29) x y i (nI (a.1 0))).bind (fun q5 => if nI 0 ≤ q5 then ((f_Mo_takesOrder N (μ 29)).bind (fun q7 => (f_Mo_readsOrder N q7).bind (fun q8 => f_Mo_film_55 N N q8 x i (nI 0)))) else some (q5, μ 29)))) := by
        rw [← hm]; rfl
      rw [e]
      rcases g3 with ⟨rfl, g3⟩ | g3
      · exact g3
      · exact g3
  · have hF : ∀ p, p < a.1 0 → frN (tS a a.2.2.2 p) (sgm (aL a) (tS a a.2.2.2) p) < 2 ^ 20 := fun p _ => mkb_lt _ 20
    have n24 : ∀ X, (zset μ 21 X) (24 + k) = μ (24 + k) := fun X => zset_n _ _ (by omega)
    have c38 := s_film38 (F := fun p => frN (tS a a.2.2.2 p) (sgm (aL a) (tS a a.2.2.2) p)) (μ := zset μ 21 R') hN hk h7 hj hsz hF (by rw [zset_n _ _ (by decide)]; exact hn) (by rw [n24]; exact q1) (by rw [n24]; exact q3) (fun p hp => by rw [zset_s]; exact (r1.2.2.1 p hp).1)
    have c55 := s_film55 (F := fun p => frN (tS a a.2.2.2 p) (sgm (aL a) (tS a a.2.2.2) p)) (M := M') (k := k) (j := j) hN hk h7 (by omega) hF (by rw [k1]; exact hm) (fun p hp => (r2.2 p hp).1)
    rw [n24] at c38
    refine ⟨nI (a.1 0), zset (zset μ 21 R') (24 + k) (zLr (μ (24 + k)) 1 (cpL (fun t => (nI (pcb 20 (frN (tS a a.2.2.2 t) (sgm (aL a) (tS a a.2.2.2) t)))).toInt64) ((μ (24 + k)).2.1 1) 0 j (a.1 0))), zLr M' 11 (cpL (fun t => (nI (pcb 20 (frN (tS a a.2.2.2 t) (sgm (aL a) (tS a a.2.2.2) t)))).toInt64) (M'.2.1 11) 0 (24 * k + j) (a.1 0)), ?_, ?_, inv_sheet hk (inv_read21 h r1.2.2.2) ?_ ?_ ?_ ?_ ?_ ?_ (Or.inr ⟨l, sz, hl, hsz, ?_, ?_, ?_, ?_, ?_⟩) ?_⟩
    · rw [f_RS_film, hn, g1, Option.bind_some, if_pos rfl, e1, Option.bind_some]
      exact c38
    · rw [zset_n _ _ (by omega), zset_n _ _ (by decide)]
      have e : f_Mo_film N (μ 29) (nI k) (nI l) (nI j) = (f_Mo_isSheet (nI k)).bind (fun q1 => if q1 = nI 0 then some ((-1 : Int32), μ 29) else (f_Mo_in (nI l).toInt64 (0 : Int64) (3 : Int64)).bind (fun q3 => if q3 = nI 0 then some ((-1 : Int32), μ 29) else (f_Mo_found (μ 29) (nI k) (nI l) (nI j) (nI (a.1 0))).bind (fun q5 => if nI 0 ≤ q5 then ((f_Mo_takesOrder N (μ 29)).bind (fun q7 => (f_Mo_readsOrder N q7).bind (fun q8 => f_Mo_film_55 N N q8 (nI k) (nI j) (nI 0)))) else some (q5, μ 29)))) := by
        rw [← hm]; rfl
      rw [e, g2, e2, Option.bind_some, e3, Option.bind_some, c55]
    · rw [zset_n _ _ (by decide)]; exact kj 1 (by omega)
    · rw [zset_n _ _ (by decide)]; exact kj 2 (by omega)
    · rw [zset_n _ _ (by decide)]; exact kj 4 (by omega)
    · rw [zset_n _ _ (by decide)]; exact kj 5 (by omega)
    · rw [zset_n _ _ (by decide)]; exact kj 7 (by omega)
    · rw [zset_n _ _ (by decide)]; exact kj 0 (by omega)
    · exact q1
    · show M'.1 9 k = _
      rw [kj 9 (by omega)]; exact q2
    · exact q3
    · show M'.1 10 k = _
      rw [kj 10 (by omega)]; exact q4
    · intro t ht
      rw [zLr_s, zLr_s]
      unfold cpL
      by_cases hq : j ≤ t ∧ t < j + a.1 0
      · rw [if_pos hq, if_pos (by omega), show 24 * k + t - (24 * k + j) = t - j by omega]
      · rw [if_neg hq, if_neg (by omega), kM.2.2]; exact q5 t ht
    · intro k' hk' hne
      refine ⟨?_, ?_, fun t ht => ?_⟩
      · show M'.1 9 k' = _
        rw [kj 9 (by omega), zset_n _ _ (by decide)]
      · show M'.1 10 k' = _
        rw [kj 10 (by omega), zset_n _ _ (by decide)]
      · rw [zLr_s]
        unfold cpL
        rw [if_neg (by omega), kM.2.2, zset_n _ _ (by decide)]
