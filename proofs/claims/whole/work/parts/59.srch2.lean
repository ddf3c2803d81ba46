/-! the class's search on the whole; the reference's walks -/
theorem inv_srch {μ μ' : zM} (h : zInv μ) (e : ∀ x, x ≠ 22 → x ≠ 23 → μ' x = μ x) (hr : rdOK (μ' 22)) {M' : zOb} (hk : keepM (μ 29) M') (h1 : M'.1 1 = (μ 29).1 1) : zInv (zset μ' 29 M') := by
  obtain ⟨⟨a, hw, hS, hM⟩, hJ⟩ := h
  refine zInv_of ⟨a, hw, by rw [e 0 (by decide) (by decide)]; exact hS, by rw [h1]; exact hM⟩ ?_
  refine zJ_keep (fun x hx => e x (by omega) (by omega)) (by rw [e 21 (by decide) (by decide)]; exact hJ.2.2.2.2.1) hr hk hJ
theorem s_limitFresh {N n m : Nat} (hN : 200 ≤ N) (hn : n ≤ 7) {μ : zM} (h0 : (μ 23).1 0 6 = nI n) : ∃ S', f_Se_limitFresh N μ (nI m) = some (zset μ 23 S') ∧ (∀ i, i < n → S'.1 4 i = nI 0 ∧ S'.1 5 i = nI m) ∧ ∀ j, j ≠ 4 → j ≠ 5 → S'.1 j = (μ 23).1 j := by
  obtain ⟨μ', ⟨S', e', q1, q2⟩, e⟩ := for_ex (fun f (μi : zM) x => f_Se_limitFresh_2 N f μi (nI m) x) n (fun i μi => ∃ S, μi = zset μ 23 S ∧ (∀ t, t < i → S.1 4 t = nI 0 ∧ S.1 5 t = nI m) ∧ ∀ j, j ≠ 4 → j ≠ 5 → S.1 j = (μ 23).1 j) (fun μi => some μi) (fun f μi hP => by
    obtain ⟨S, rfl, p1, p2⟩ := hP
    show f_Se_limitFresh_2 N (f + 1) (zset μ 23 S) (nI m) (nI n) = _
    rw [f_Se_limitFresh_2, zset_s, p2 0 (by decide) (by decide), h0, if_pos (Int32.le_refl _)]) (fun f μi i hi hP => by
    obtain ⟨S, rfl, p1, p2⟩ := hP
    have zi : zin (nI i) 7 := zin_nI (by omega) (by decide)
    have ci : (nI i).toNatClampNeg = i := nI_clamp (by omega)
    refine ⟨zset μ 23 (zI (zI S 4 i (nI 0)) 5 i (nI m)), ⟨_, rfl, fun t ht => ⟨?_, ?_⟩, fun j h4 h5 => ?_⟩, ?_⟩
    · rw [zI_o _ _ (by decide), zI_e]
      by_cases hti : t = i
      · subst hti; rw [upd_s]
      · rw [upd_n _ _ hti]; exact (p1 t (by omega)).1
    · rw [zI_e]
      by_cases hti : t = i
      · subst hti; rw [upd_s]
      · rw [upd_n _ _ hti, zI_o _ _ (by decide)]; exact (p1 t (by omega)).2
    · rw [zI_o _ _ h5, zI_o _ _ h4]; exact p2 j h4 h5
    · show f_Se_limitFresh_2 N (f + 1) (zset μ 23 S) (nI m) (nI i) = f_Se_limitFresh_2 N f _ (nI m) (nI (i + 1))
      rw [f_Se_limitFresh_2, zset_s, p2 0 (by decide) (by decide), h0, if_neg (nI_ge hi (by omega))]
      simp only [if_pos zi, ci, bnd, nI_add, zset_s, zset_ss]) n 0 N μ (by omega) (by omega) ⟨μ 23, (zset_id μ 23).symm, fun t ht => absurd ht (by omega), fun _ _ _ => rfl⟩
  exact ⟨S', by rw [← e']; exact e, q1, q2⟩
theorem s_forget {N n : Nat} (hN : 200 ≤ N) (hn : n ≤ 7) {μ : zM} (h0 : (μ 23).1 0 6 = nI n) : ∃ S', f_Se_forgetLeaders N μ = some (zset μ 23 S') ∧ (∀ i, i < n → S'.1 3 i = nI 0) ∧ ∀ j, j ≠ 3 → S'.1 j = (μ 23).1 j := by
  obtain ⟨μ', ⟨S', e', q1, q2⟩, e⟩ := for_ex (fun f (μi : zM) x => f_Se_forgetLeaders_2 N f μi x) n (fun i μi => ∃ S, μi = zset μ 23 S ∧ (∀ t, t < i → S.1 3 t = nI 0) ∧ ∀ j, j ≠ 3 → S.1 j = (μ 23).1 j) (fun μi => some μi) (fun f μi hP => by
    obtain ⟨S, rfl, p1, p2⟩ := hP
    show f_Se_forgetLeaders_2 N (f + 1) (zset μ 23 S) (nI n) = _
    rw [f_Se_forgetLeaders_2, zset_s, p2 0 (by decide), h0, if_pos (Int32.le_refl _)]) (fun f μi i hi hP => by
    obtain ⟨S, rfl, p1, p2⟩ := hP
    have zi : zin (nI i) 7 := zin_nI (by omega) (by decide)
    have ci : (nI i).toNatClampNeg = i := nI_clamp (by omega)
    refine ⟨zset μ 23 (zI S 3 i (nI 0)), ⟨_, rfl, fun t ht => ?_, fun j h3 => ?_⟩, ?_⟩
    · rw [zI_e]
      by_cases hti : t = i
      · subst hti; rw [upd_s]
      · rw [upd_n _ _ hti]; exact p1 t (by omega)
    · rw [zI_o _ _ h3]; exact p2 j h3
    · show f_Se_forgetLeaders_2 N (f + 1) (zset μ 23 S) (nI i) = f_Se_forgetLeaders_2 N f _ (nI (i + 1))
      rw [f_Se_forgetLeaders_2, zset_s, p2 0 (by decide), h0, if_neg (nI_ge hi (by omega))]
      simp only [if_pos zi, ci, bnd, nI_add, zset_ss]) n 0 N μ (by omega) (by omega) ⟨μ 23, (zset_id μ 23).symm, fun t ht => absurd ht (by omega), fun _ _ => rfl⟩
  exact ⟨S', by rw [← e']; exact e, q1, q2⟩
abbrev aLd (a : aS) : Nat → Nat := fun k => ldr a.2.2.1 k (a.1 0)
theorem s_prepare {N : Nat} (hN : 200 ≤ N) {μ : zM} {a : aS} (hw : wfA a) (hS : repS (μ 0) a) (hr : rdOK (μ 22)) : ∃ R S, f_Se_prepare N μ = some (zset (zset μ 22 R) 23 S) ∧ rdB R (a.1 0) (aL a) ∧ rdOK R ∧ seC S a (aLd a) (fun _ => 0) (fun _ => 20) false 5040 ∧ seS S (a.1 0) (0, 0, 0, id) := by
  have h7 := hw.1.1
  obtain ⟨R, eR, bR, kR⟩ := s_begin hN (μ 22) hw hS
  have hn : (μ 0).1 0 3 = nI (a.1 0) := hS.1 0 (by decide)
  have hf : ∀ i, i < a.1 0 → a.2.2.1 i < 2 ^ a.1 0 := fun i hi => (hw.2.1 i hi).2.1
  have z0 : ∀ S, (zset (zset μ 22 R) 23 S) 0 = μ 0 := fun S => by rw [zset_n _ _ (by decide), zset_n _ _ (by decide)]
  obtain ⟨μ', ⟨S', e', q0, q1⟩, e⟩ := for_ex (fun f (μi : zM) x => f_Se_prepare_18 N f μi x) (a.1 0) (fun i μi => ∃ S, μi = zset (zset μ 22 R) 23 S ∧ S.1 0 6 = nI (a.1 0) ∧ ∀ t, t < i → S.1 2 t = nI (aN (a.2.1 t) (a.1 1)) ∧ S.1 3 t = nI (ldr a.2.2.1 t (a.1 0))) (fun μi => f_Se_prepare_18 N (0 + 1) μi (nI (a.1 0))) (fun f μi hP => by
    obtain ⟨S, rfl, p1, p2⟩ := hP
    show f_Se_prepare_18 N (f + 1) _ (nI (a.1 0)) = f_Se_prepare_18 N (0 + 1) _ (nI (a.1 0))
    rw [f_Se_prepare_18, f_Se_prepare_18, zset_s, p1, if_pos (Int32.le_refl _), if_pos (Int32.le_refl _)]) (fun f μi i hi hP => by
    obtain ⟨S, rfl, p1, p2⟩ := hP
    have zi : zin (nI i) 7 := zin_nI (by omega) (by decide)
    have ci : (nI i).toNatClampNeg = i := nI_clamp (by omega)
    have el := s_leaders hN h7 (μ 0) a.2.2.1 hn (fun i hi => (hS.2 i hi).2.1) hf (k := i) (by omega)
    refine ⟨zset (zset μ 22 R) 23 (zI (zI S 2 i (nI (aN (a.2.1 i) (a.1 1)))) 3 i (nI (ldr a.2.2.1 i (a.1 0)))), ⟨_, rfl, ?_, fun t ht => ⟨?_, ?_⟩⟩, ?_⟩
    · exact p1
    · rw [zI_o _ _ (by decide), zI_e]
      by_cases hti : t = i
      · subst hti; rw [upd_s]
      · rw [upd_n _ _ hti]; exact (p2 t (by omega)).1
    · rw [zI_e]
      by_cases hti : t = i
      · subst hti; rw [upd_s]
      · rw [upd_n _ _ hti, zI_o _ _ (by decide)]; exact (p2 t (by omega)).2
    · show f_Se_prepare_18 N (f + 1) (zset (zset μ 22 R) 23 S) (nI i) = f_Se_prepare_18 N f _ (nI (i + 1))
      rw [f_Se_prepare_18, zset_s, p1, if_neg (nI_ge hi (by omega)), z0, s_wtc hw hS hi, Option.bind_some, if_pos zi]
      dsimp only [bnd]
      rw [zset_ss, z0, el, Option.bind_some, if_pos zi, zset_s, zset_ss, ci, nI_add]) (a.1 0) 0 N (zset (zset μ 22 R) 23 (zI (μ 23) 0 6 (nI (a.1 0)))) (by omega) (by omega) ⟨_, rfl, rfl, fun t ht => absurd ht (by omega)⟩
  obtain ⟨S4, e4, f1, f2⟩ := s_limitFresh (m := 20) hN h7 (μ := zset (zset μ 22 R) 23 S') (by rw [zset_s]; exact q0)
  rw [zset_ss] at e4
  rw [zset_s] at f2
  have g0 : ∀ k, S4.1 0 k = S'.1 0 k := fun k => by rw [f2 0 (by decide) (by decide)]
  refine ⟨R, zI (zI (zI (zI (zI S4 0 7 (nI 0)) 0 8 (nI 5040)) 0 9 (nI 0)) 0 11 (nI 0)) 0 12 (nI 0), ?_, bR, rdOK_rows kR hr, ⟨⟨?_, rfl, rfl⟩, fun i hi => ⟨?_, ?_, ?_, ?_⟩⟩, rfl, rfl, rfl, fun h => absurd h (Nat.lt_irrefl 0)⟩
  · have e5 : f_Se_prepare N μ = f_Se_prepare_18 N N (zset (zset μ 22 R) 23 (zI (μ 23) 0 6 (nI (a.1 0)))) (nI 0) := by
      unfold f_Se_prepare
      rw [eR, Option.bind_some]
      dsimp only [bnd]
      rw [zset_n _ _ (by decide), zset_n _ _ (by decide), hn]
    rw [e5]
    refine e.trans ?_
    rw [e', f_Se_prepare_18, zset_s, q0, if_pos (Int32.le_refl _), e4, Option.bind_some]
    dsimp only [bnd]
    simp only [zset_s, zset_ss]
  · exact (g0 6).trans q0
  · show S4.1 2 i = _
    rw [f2 2 (by decide) (by decide)]; exact (q1 i hi).1
  · show S4.1 3 i = _
    rw [f2 3 (by decide) (by decide)]; exact (q1 i hi).2
  · exact (f1 i hi).1
  · exact (f1 i hi).2
theorem seI_0 {μ : zM} {a : aS} {ld lo hi : Nat → Nat} {only : Bool} {W : Nat} (hw : wfA a) (hC : seC (μ 23) a ld lo hi only W) (hS : seS (μ 23) (a.1 0) (0, 0, 0, id)) (hB : rdB (μ 22) (a.1 0) (aL a)) (hr : rdOK (μ 22)) : seI μ a ld lo hi only W (0, 0, 0, id) id 0 := ⟨hC, hS, fun p hp => absurd hp (by omega), rdAll_0 hw.1.1 hB hr, Nat.zero_le _, Nat.zero_le _⟩
theorem s_seek {N W : Nat} {a : aS} {ld lo hi : Nat → Nat} {only : Bool} (hN : 200 ≤ N) (hw : wfA a) (hld : ∀ i, i < a.1 0 → ld i < 2 ^ 31) (hlo : ∀ i, i < a.1 0 → lo i < 2 ^ 31) (hhi : ∀ i, i < a.1 0 → hi i < 2 ^ 31) (hW : W < 2 ^ 31) {μ : zM} (hI : seI μ a ld lo hi only W (0, 0, 0, id) id 0) : ∃ μ', f_Se_seek N μ = some μ' ∧ seI μ' a ld lo hi only W ((ords (a.1 0)).foldl (sV a ld lo hi only W) (0, 0, 0, id)) id 0 ∧ ∀ x, x ≠ 22 → x ≠ 23 → μ' x = μ x := by
  have h7 := hw.1.1
  obtain ⟨μ', e, i', k'⟩ := s_go hN hw hld hlo hhi hW (a.1 0) 9 (by omega) 0 id (0, 0, 0, id) μ (by omega) hI (fun q hq => absurd hq (by omega)) (Nat.zero_le _) (Or.inr (Or.inl rfl)) (by
    have := (chkN (a.1 0) h7).2
    show 0 + (ordL (a.1 0) (a.1 0) 0 (2 ^ a.1 0 - 1) id).length ≤ 5040
    omega)
  refine ⟨μ', ?_, i', k'⟩
  have e2 : (nI 1 <<< (nI (a.1 0) &&& 31)) - nI 1 = nI (2 ^ a.1 0 - 1) := by rw [b_one (by omega), pk_sub (Nat.two_pow_pos _)]
  unfold f_Se_seek f_Se_goThrough
  rw [hI.1.1.1, e2]
  have e' : f_Se_goD N 9 μ (nI 0) (nI (2 ^ a.1 0 - 1)) (nI 0) (nI 0) = some μ' := e
  rw [e', Option.bind_some]
theorem aLd_lt {a : aS} (hw : wfA a) : ∀ i, i < a.1 0 → aLd a i < 2 ^ 31 := fun i _ => lt31 hw.1.1 (ldr_lt _ _ _)
/-- what is accepted -/
theorem pk_all {F : Nat → Nat} {b : Nat} : ∀ n, pkN F n ≤ b ↔ ∀ p, p < n → F p ≤ b := by
  intro n
  induction n with
  | zero => exact ⟨fun _ p hp => absurd hp (by omega), fun _ => Nat.zero_le _⟩
  | succ n ih =>
    have e : pkN F (n + 1) = if pkN F n < F n then F n else pkN F n := rfl
    rw [e]
    constructor
    · intro h p hp
      by_cases hpn : p = n
      · subst hpn
        split at h <;> omega
      · exact ih.mp (by split at h <;> omega) p (by omega)
    · intro h
      have h1 := ih.mpr (fun p hp => h p (by omega))
      have h2 := h n (by omega)
      split <;> omega
theorem acc_fit {a : aS} (hw : wfA a) {o : Nat → Nat} (hp : perm o (a.1 0)) (b : Nat) : accA a (aLd a) (fun _ => 0) (fun _ => b) o ↔ holdN a.2.2.1 o (a.1 0) ∧ oPk a o ≤ b := by
  have e : oPk a o = pkN (oF a o) (a.1 0) := rfl
  rw [hold_c (wf_acy hw) hp, e, pk_all]
  constructor
  · exact fun h => ⟨fun p hp => (h p hp).1, fun p hp => (h p hp).2.2⟩
  · exact fun h p hp => ⟨h.1 p hp, Nat.zero_le _, h.2 p hp⟩
theorem acc_hold {a : aS} (hw : wfA a) {o : Nat → Nat} (hp : perm o (a.1 0)) : accA a (aLd a) (fun _ => 0) (fun _ => 20) o ↔ holdN a.2.2.1 o (a.1 0) := by
  rw [acc_fit hw hp]
  exact ⟨fun h => h.1, fun h => ⟨h, oPk_le a o⟩⟩
noncomputable def cV (P : (Nat → Nat) → Prop) (c : Nat) (o : Nat → Nat) : Nat := if cB (P o) = true then c + 1 else c
theorem fold_cnt {a : aS} {ld lo hi : Nat → Nat} {W : Nat} (P : (Nat → Nat) → Prop) : ∀ (l : List (Nat → Nat)) (st : sT), st.1 + l.length ≤ W + 1 → (∀ o ∈ l, accA a ld lo hi o ↔ P o) → (l.foldl (sV a ld lo hi false W) st).1 = l.foldl (cV P) st.1 := by
  intro l
  induction l with
  | nil => intro st _ _; rfl
  | cons o l ih =>
    intro st hl hP
    rw [List.length_cons] at hl
    rw [List.foldl_cons, List.foldl_cons]
    by_cases h : P o
    · have ht : tkn a ld lo hi false W st o := ⟨(hP o (List.mem_cons_self ..)).mpr h, by omega, Or.inl rfl⟩
      rw [sV_y ht, show cV P st.1 o = st.1 + 1 from if_pos (cB_t.mpr h)]
      exact ih _ (by show st.1 + 1 + l.length ≤ W + 1; omega) (fun o' ho' => hP o' (List.mem_cons_of_mem _ ho'))
    · have ht : ¬ tkn a ld lo hi false W st o := fun q => h ((hP o (List.mem_cons_self ..)).mp q.1)
      rw [sV_n ht, show cV P st.1 o = st.1 from if_neg (fun q => h (cB_t.mp q))]
      exact ih _ (by omega) (fun o' ho' => hP o' (List.mem_cons_of_mem _ ho'))
theorem ords_len {n : Nat} (hn : n ≤ 7) : (ords n).length ≤ 5040 := (chkN n hn).2
theorem ords_cons {n : Nat} (hn : n ≤ 7) : ∃ o t, ords n = o :: t ∧ (∀ p, p < n → o p = p) ∧ chk n (nxo n o) t = true ∧ t.length + 1 ≤ 5040 := by
  have h1 := (chkN n hn).1
  have h2 := ords_len hn
  have e : ordL n n 0 (2 ^ n - 1) id = ords n := rfl
  rw [e] at h1
  cases hl : ords n with
  | nil => rw [hl] at h1; exact absurd h1 (by unfold chk; decide)
  | cons o t =>
    rw [hl] at h1 h2
    unfold chk at h1
    rw [Bool.and_eq_true] at h1
    rw [List.length_cons] at h2
    exact ⟨o, t, rfl, fun p hp => (eqOn_get h1.1 p hp).symm, h1.2, h2⟩
/-- what the reference's walks leave as it was -/
def wkJ (M0 M : zOb) : Prop := (∀ j, j ≠ 0 → ¬ (13 ≤ j ∧ j ≤ 19) → M.1 j = M0.1 j) ∧ (∀ k, ¬ (19 ≤ k ∧ k ≤ 21) → M.1 0 k = M0.1 0 k) ∧ M.2 = M0.2
theorem wkJ.rf (M : zOb) : wkJ M M := ⟨fun _ _ _ => rfl, fun _ _ => rfl, rfl⟩
theorem wkJ.tr {M M' M2 : zOb} (h : wkJ M M') (g : wkJ M' M2) : wkJ M M2 := ⟨fun j h0 hj => (g.1 j h0 hj).trans (h.1 j h0 hj), fun k hk => (g.2.1 k hk).trans (h.2.1 k hk), g.2.2.trans h.2.2⟩
theorem mrk.wkJ {M M' : zOb} (h : mrk M M') : wkJ M M' := ⟨fun j _ hj => h.1 j (by omega), fun k _ => by rw [h.1 0 (by omega)], h.2⟩
theorem wkJ.r13 (M : zOb) (r : Nat → Int32) : wkJ M (zIr M 13 r) := ⟨fun j _ hj => zIr_o _ _ (by omega), fun k _ => rfl, rfl⟩
theorem wkJ.fld (M : zOb) {k : Nat} (hk : 19 ≤ k ∧ k ≤ 21) (x : Int32) : wkJ M (zI M 0 k x) := ⟨fun j h0 _ => zI_o _ _ h0, fun k' hk' => by rw [zI_e, upd_n _ _ (by omega)], rfl⟩
theorem wkJ.keep {M M' : zOb} (h : wkJ M M') : keepM M M' := ⟨⟨h.1 2 (by omega) (by omega), h.1 4 (by omega) (by omega), h.1 5 (by omega) (by omega), h.1 7 (by omega) (by omega), h.1 9 (by omega) (by omega), h.1 10 (by omega) (by omega), h.1 25 (by omega) (by omega)⟩, ⟨h.2.1 2 (by omega), h.2.1 5 (by omega), h.2.1 7 (by omega)⟩, h.2.2⟩
theorem wkJ.one {M M' : zOb} (h : wkJ M M') : M'.1 1 = M.1 1 := h.1 1 (by omega) (by omega)
theorem walkA {σ ρ : Type} {N n : Nat} (hN : 6000 ≤ N) (hn : n ≤ 7) (Lp : Nat → zOb → σ → Int32 → Option ρ) (Inv : zOb → σ → Prop) (V : σ → (Nat → Nat) → σ) (fin : zOb → σ → Option ρ) (hI : ∀ M s, Inv M s → M.1 1 0 = nI n) (hI2 : ∀ M s r, Inv M s → Inv (zIr M 13 r) s) (h0 : ∀ nf M s, Inv M s → Lp (nf + 1) M s (nI 0) = fin M s) (h1 : ∀ nf M s o, Inv M s → rowIs (M.1 13) o n → perm o n → ∃ M', Inv M' (V s o) ∧ M'.1 13 = M.1 13 ∧ Lp (nf + 1) M s (nI 1) = (f_Mo_nextOrder N M').bind (fun q => Lp nf q.2 (V s o) q.1)) {M : zOb} {s : σ} (hi : Inv M s) (hr : rowIs (M.1 13) id n) : ∃ Mf, Inv Mf ((ords n).foldl V s) ∧ Lp N M s (nI 1) = fin Mf ((ords n).foldl V s) := by
  obtain ⟨o, t, e, e1, e2, e3⟩ := ords_cons hn
  have hp := ords_perm n
  rw [e] at hp ⊢
  exact walk (by omega) hn Lp Inv V fin hI hI2 h0 h1 t o M s N e2 hp hi (fun p hp => by rw [hr p hp, e1 p hp]; rfl) (by omega)
theorem first_row (M : zOb) {n : Nat} (hn : n ≤ 7) : rowIs ((zIr M 13 (til nI (M.1 13) 7)).1 13) id n := fun p hp => by
  rw [zIr_e, til_in _ _ (by omega)]; rfl
theorem s_brings {N : Nat} (hN : 200 ≤ N) {M : zOb} {a : aS} {o : Nat → Nat} (hw : wfA a) (hM : repM (M.1 1) a) (hp : perm o (a.1 0)) (hO : rowIs (M.1 13) o (a.1 0)) : ∃ M', f_Mo_readsOrder N M = some M' ∧ mrk M M' ∧ f_Mo_peak N M' = some (nI (oPk a o)) ∧ f_Mo_loss N M' = some (nI (oLs a o)) ∧ ∀ p, p < a.1 0 → M'.1 16 p = nI (frN (tS a o p) (sgm (aL a) (tS a o) p)) := by
  have h7 := hw.1.1
  obtain ⟨M', e, r, k⟩ := s_readsOrder hN hw hM hp.1 hO
  have h0 : M'.1 1 0 = nI (a.1 0) := by rw [k.1 1 (by omega)]; exact hM.1 0 (by decide)
  refine ⟨M', e, k, ?_, ?_, fun p hp => (r.2 p hp).1⟩
  · exact s_peakM (F := fun p => frN (tS a o p) (sgm (aL a) (tS a o) p)) hN h7 h0 (fun p hp => ⟨(r.2 p hp).1, mkb_lt _ 20⟩)
  · exact s_lossM (F := fun p => loN (aL a) p (tS a o p) (sgm (aL a) (tS a o) p)) hN h7 h0 (fun p hp => ⟨(r.2 p hp).2.2.1, mkb_lt _ 20⟩)
