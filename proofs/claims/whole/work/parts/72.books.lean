/-! books and pairs of a text -/
def kM2 (M M' : zOb) : Prop := (∀ j, j ≠ 0 → j ≠ 1 → M'.1 j = M.1 j) ∧ (∀ k, k ≠ 25 → M'.1 0 k = M.1 0 k) ∧ M'.2 = M.2
theorem kM2.rf (M : zOb) : kM2 M M := ⟨fun _ _ _ => rfl, fun _ _ => rfl, rfl⟩
theorem kM2.tr {M M' M2 : zOb} (h : kM2 M M') (g : kM2 M' M2) : kM2 M M2 := ⟨fun j h0 hj => (g.1 j h0 hj).trans (h.1 j h0 hj), fun k hk => (g.2.1 k hk).trans (h.2.1 k hk), g.2.2.trans h.2.2⟩
theorem kM1.two {M M' : zOb} (h : kM1 M M') : kM2 M M' := ⟨fun j h0 _ => h.1 j h0, h.2.1, h.2.2⟩
theorem kM2.row (M : zOb) (f : Nat → Int32) : kM2 M (zIr M 1 f) := ⟨fun j _ hj => zIr_o _ _ hj, fun k _ => rfl, rfl⟩
theorem kM2.tp {M M' : zOb} {C : Nat → Nat} {t : Nat} (h : kM2 M M') (g : tpM M C t) : tpM M' C t := ⟨by rw [h.2.1 7 (by decide)]; exact g.1, fun i hi => by rw [h.1 7 (by decide) (by decide)]; exact g.2 i hi⟩
def JJ (t q : Nat) (Q S M0 M : zOb) (b : aS) : Prop := PQ t q Q M ∧ wfA b ∧ repS S b ∧ repM (M.1 1) b ∧ kM2 M0 M
theorem addB_v {S : zOb} {n s : Nat} (hn : S.1 0 3 = nI n) (h7 : n < 7) (s0 : 0 < s) (s1 : s < 2 ^ 20) : ∃ S', f_St_addBook S (nI s) = some (nI n, S') ∧ S'.1 0 3 = nI (n + 1) := by
  refine ⟨zI (zI (zI (zI S 1 n (nI s)) 2 n (nI 0)) 3 n (nI n)) 0 3 (nI (n + 1)), ?_, rfl⟩
  simp only [f_St_addBook, isSB_1 s0 s1, Option.bind_some]
  rw [if_neg nI_1_0, hn, if_pos (nI_lt (by omega) (by decide)), if_pos (zin_nI (by omega) (by decide)), nI_clamp (by omega)]
  simp only [bnd]
  have e1 : (zI S 1 n (nI s)).1 0 3 = nI n := hn
  rw [e1, if_pos (zin_nI (by omega) (by decide)), nI_clamp (by omega)]
  have e2 : (zI (zI S 1 n (nI s)) 2 n (nI 0)).1 0 3 = nI n := hn
  rw [e2, if_pos (zin_nI (by omega) (by decide)), nI_clamp (by omega)]
  have e3 : (zI (zI (zI S 1 n (nI s)) 2 n (nI 0)) 3 n (nI n)).1 0 3 = nI n := hn
  rw [e3, nI_add]
  have e4 : (zI (zI (zI (zI S 1 n (nI s)) 2 n (nI 0)) 3 n (nI n)) 0 3 (nI (n + 1))).1 0 3 = nI (n + 1) := rfl
  rw [e4, pk_sub (by omega), Nat.add_sub_cancel]
theorem j_bk {N t : Nat} {μ : zM} {C : Nat → Nat} (hL : tpC (μ 19) C t) (S : zOb) : ∀ k q Q M nf s, q + k = t → k < nf → PQ t q Q M → tpM M C t → s < 2 ^ 20 → ∃ q' Q' M' s', f_Pa_takesBook_7 N nf (pC μ Q S) (nI s) = f_Pa_takesBook_85 N (pC μ Q' S) (nI s') ∧ f_Mo_readsBook_32 N nf M (nI s) = (f_Mo_adds M' (nI s')).bind (fun q7 => if q7.1 < nI 0 then f_Mo_readsBook_90 N q7.2 (nI 0) else f_Mo_readsBook_90 N q7.2 (nI 1)) ∧ PQ t q' Q' M' ∧ kM1 M M' ∧ s' < 2 ^ 20 ∧ q ≤ q' ∧ (0 < s → 0 < s') ∧ (97 ≤ chq C t q ∧ chq C t q ≤ 116 → 0 < s' ∧ q < q') ∧ (¬ (97 ≤ chq C t q ∧ chq C t q ≤ 116) → q' = q ∧ s' = s) := by
  have h90 := hL.1
  have hC : ∀ i, i < t → C i ≤ 126 := fun i hi => (hL.2.2 i hi).1.2
  have z19 : ∀ Q, pC μ Q S 19 = μ 19 := fun Q => pC_x μ Q S (by decide) (by decide)
  intro k
  induction k with
  | zero =>
    intro q Q M nf s hq hf hp hM hs
    obtain ⟨nf, rfl⟩ : ∃ t, nf = t + 1 := ⟨nf - 1, by omega⟩
    obtain ⟨-, i0⟩ := m_isAt (x := q) (lo := 97) (hi := 116) h90 hC hM (by omega) (by decide) (by decide)
    have hout := chq_out (C := C) (t := t) (q := q) (by omega)
    refine ⟨q, Q, M, s, ?_, ?_, hp, kM1.rf M, hs, Nat.le_refl _, fun h => h, fun h => absurd h.1 (by omega), fun _ => ⟨rfl, rfl⟩⟩
    · rw [f_Pa_takesBook_7, z19, pC_20, hL.2.1, hp.1, if_pos (nI_le (by omega) (by omega))]
    · rw [f_Mo_readsBook_32, hp.2.1, i0 (by omega), Option.bind_some, if_pos rfl]
  | succ k ih =>
    intro q Q M nf s hq hf hp hM hs
    obtain ⟨nf, rfl⟩ : ∃ t, nf = t + 1 := ⟨nf - 1, by omega⟩
    have hqt : q < t := by omega
    have hc := (hL.2.2 q hqt).1
    have hin := chq_in (C := C) hqt
    obtain ⟨i1, i0⟩ := m_isAt (x := q) (lo := 97) (hi := 116) h90 hC hM (by omega) (by decide) (by decide)
    by_cases hl : 97 ≤ C q ∧ C q ≤ 116
    · have hpw : 2 ^ (C q - 97) < 2 ^ 20 := Nat.pow_lt_pow_right (by decide) (by omega)
      have hp2 := Nat.two_pow_pos (C q - 97)
      have hle : 2 ^ (C q - 97) ≤ s ||| 2 ^ (C q - 97) := Nat.right_le_or
      obtain ⟨q', Q', M', s', g1, g2, g3, g4, g5, g6, g7, g8, g9⟩ := ih (q + 1) (zI Q 0 2 (nI (q + 1))) (zI M 0 25 (nI (q + 1))) nf (s ||| 2 ^ (C q - 97)) (by omega) (by omega) ⟨rfl, rfl, by omega⟩ ((kM1.fld M _).tp hM) (or_lt hs hpw)
      have hs' := g7 (by omega)
      refine ⟨q', Q', M', s', ?_, ?_, g3, (kM1.fld M _).tr g4, g5, by omega, fun _ => hs', fun _ => ⟨hs', by omega⟩, fun h => absurd (by rw [hin]; exact hl) h⟩
      · rw [f_Pa_takesBook_7, z19, pC_20, hL.2.1, hp.1, if_neg (nI_ge hqt (by omega)), l19, s_at hL (by omega), Option.bind_some, hin, if_neg (nI_nlt (by omega) (by omega)), Option.bind_some, if_neg (nI_ge (by omega) (by decide)), Option.bind_some]
        dsimp only [bnd]
        rw [pk_sub (by omega), b_one (by omega), b_or, nI_add, pC_s20]
        exact g1
      · rw [f_Mo_readsBook_32, hp.2.1, i1 ⟨hqt, hl⟩, Option.bind_some, if_neg nI_1_0, if_pos (zin_nI (by omega) (by decide)), nI_clamp (by omega), hM.2 q hqt]
        dsimp only [bnd]
        rw [pk_sub (by omega), b_one (by omega), b_or, nI_add]
        exact g2
    · refine ⟨q, Q, M, s, ?_, ?_, hp, kM1.rf M, hs, Nat.le_refl _, fun h => h, fun h => absurd (by rw [← hin]; exact h) hl, fun _ => ⟨rfl, rfl⟩⟩
      · rw [f_Pa_takesBook_7, z19, pC_20, hL.2.1, hp.1, if_neg (nI_ge hqt (by omega)), l19, s_at hL (by omega), Option.bind_some, hin]
        by_cases h1 : C q < 97
        · rw [if_pos (nI_lt h1 (by decide))]
        · rw [if_neg (nI_nlt (by omega) (by omega)), Option.bind_some, if_pos (nI_le (by omega) (by omega))]
      · rw [f_Mo_readsBook_32, hp.2.1, i0 (fun g => hl g.2), Option.bind_some, if_pos rfl]
theorem j_book {N t q : Nat} (hN : 200 ≤ N) {μ : zM} {C : Nat → Nat} {Q S M0 M : zOb} {b : aS} (hL : tpC (μ 19) C t) (hT : tpM M0 C t) (hJ : JJ t q Q S M0 M b) (hb7 : b.1 0 < 7) : (∃ q' Q' S' M' b', f_Pa_takesBook N (pC μ Q S) = some (nI 1, pC μ Q' S') ∧ f_Mo_readsBook N M = some (nI 1, M') ∧ JJ t q' Q' S' M0 M' b' ∧ b'.1 0 = b.1 0 + 1 ∧ q < q') ∨ (∃ Q' M', f_Pa_takesBook N (pC μ Q S) = some (nI 0, pC μ Q' S) ∧ f_Mo_readsBook N M = some (nI 0, M') ∧ PQ t (nb C t q) Q' M' ∧ kM2 M0 M') := by
  obtain ⟨hp, hw, hS, hM, hk⟩ := hJ
  have h90 := hL.1
  have hTM := hk.tp hT
  obtain ⟨n1, n2, -⟩ := nb_p (C := C) hp.2.2
  obtain ⟨Q1, M1, e1, e2, hp1, k1⟩ := j_next (S := S) hN (μ := μ) (C := C) ⟨hL, hTM⟩ hp
  have hTM1 := k1.tp hTM
  have hcb := chq_lt hL (nb C t q)
  obtain ⟨q', Q', M', s', g1, g2, g3, g4, g5, g6, -, g8, g9⟩ := j_bk (N := N) hL S (t - nb C t q) (nb C t q) Q1 M1 N 0 (by omega) (by omega) hp1 hTM1 (by decide)
  have el97 : (97 : Int64).toInt = 97 := by decide
  have el116 : (116 : Int64).toInt = 116 := by decide
  have hM1 : repM (M1.1 1) b := by rw [k1.1 1 (by decide)]; exact hM
  have runC : f_Pa_takesBook N (pC μ Q S) = f_Pa_takesBook_85 N (pC μ Q' S) (nI s') := by
    unfold f_Pa_takesBook
    rw [e1, Option.bind_some]
    exact g1
  by_cases hl : 97 ≤ chq C t (nb C t q) ∧ chq C t (nb C t q) ≤ 116
  · obtain ⟨s0, q0⟩ := g8 hl
    have hM' : repM (M'.1 1) b := by rw [g4.1 1 (by decide)]; exact hM1
    obtain ⟨r, S2, f2, b2, a1, a2, w2, r2, m2⟩ := a_book (nI s') S M' b hw hS hM'
    obtain ⟨S3, v1, v2⟩ := addB_v (S := S) (n := b.1 0) (hS.1 0 (by decide)) hb7 s0 g5
    have a1' : f_St_addBook S (nI s') = some (r, S2) := a1
    rw [v1] at a1'
    have hrr : nI (b.1 0) = r ∧ S3 = S2 := by
      have := Option.some.inj a1'
      exact ⟨congrArg Prod.fst this, congrArg Prod.snd this⟩
    obtain ⟨rfl, rfl⟩ := hrr
    have hn' : b2.1 0 = b.1 0 + 1 := by
      have q1 := r2.1 0 (by decide)
      have q2 : nI (b.1 0 + 1) = nI (b2.1 0) := v2.symm.trans q1
      have := w2.1.1
      exact ((nI_eq (by omega) (by omega)).mp q2).symm
    refine Or.inl ⟨q', Q', S3, zIr M' 1 f2, b2, ?_, ?_, ⟨⟨g3.1, g3.2.1, g3.2.2⟩, w2, r2, m2, (hk.tr ((k1.tr g4).two)).tr (kM2.row M' f2)⟩, hn', by omega⟩
    · rw [runC]
      unfold f_Pa_takesBook_85 f_Pa_takesBook_101
      rw [pC_3, v1, Option.bind_some]
      dsimp only [bnd]
      rw [if_neg (nI_nlt (Nat.zero_le _) (by omega)), if_pos (Or.inr rfl), pC_s3]
    · unfold f_Mo_readsBook
      rw [e2, Option.bind_some]
      dsimp only
      rw [s_inI, el97, el116, nI_toInt (by omega), if_pos (by omega), Option.bind_some, if_neg nI_1_0, hM1.1 0 (by decide), if_neg (fun g => by have := (nI_eq (by omega) (by decide)).mp g; omega), g2]
      have a2' : f_Mo_adds M' (nI s') = some (nI (b.1 0), zIr M' 1 f2) := a2
      rw [a2', Option.bind_some]
      dsimp only
      unfold f_Mo_readsBook_90
      rw [if_neg (nI_nlt (Nat.zero_le _) (by omega)), if_pos (Or.inr rfl)]
  · obtain ⟨q0, s0⟩ := g9 hl
    refine Or.inr ⟨Q', M1, ?_, ?_, ⟨by rw [g3.1, q0], hp1.2.1, n2⟩, hk.tr k1.two⟩
    · rw [runC, s0]
      have ez : f_St_addBook S (nI 0) = some (-1, S) := by
        unfold f_St_addBook
        rw [isSB_0 (x := nI 0) (by decide), Option.bind_some, if_pos rfl]
      unfold f_Pa_takesBook_85 f_Pa_takesBook_101
      rw [pC_3, ez, Option.bind_some]
      dsimp only [bnd]
      rw [if_pos (by decide), if_pos (Or.inl rfl), pC_s3]
    · unfold f_Mo_readsBook f_Mo_readsBook_28
      rw [e2, Option.bind_some]
      dsimp only
      rw [s_inI, el97, el116, nI_toInt (by omega), if_neg (by omega), Option.bind_some, if_pos rfl]
/-- all books: a fault, or they stand -/
theorem j_books {N t : Nat} (hN : 200 ≤ N) {μ : zM} {C : Nat → Nat} {M0 : zOb} (hL : tpC (μ 19) C t) (hT : tpM M0 C t) : ∀ m k nf nf' q Q S M b, k + m = 7 → m < nf → m + 1 < nf' → JJ t q Q S M0 M b → b.1 0 = k → (∃ q' Q' S' M', f_Pa_takesBooks_2 N nf (pC μ Q S) (nI k) = some (nI 0, pC μ Q' S') ∧ f_Mo_readsAll_96 N nf' M (nI 1) = some (nI 0, M') ∧ PQ t q' Q' M' ∧ nb C t q' = q' ∧ kM2 M0 M') ∨ (∃ q' Q' S' M' b' n0, f_Pa_takesBooks_2 N nf (pC μ Q S) (nI k) = some (nI 1, pC μ Q' S') ∧ f_Mo_readsAll_96 N nf' M (nI 1) = f_Mo_readsAll_96 N (n0 + 1) M' (nI 0) ∧ JJ t q' Q' S' M0 M' b' ∧ nb C t q' = q' ∧ 0 < b'.1 0) := by
  have h90 := hL.1
  have el97 : (97 : Int64).toInt = 97 := by decide
  have el116 : (116 : Int64).toInt = 116 := by decide
  intro m
  induction m with
  | zero =>
    intro k nf nf' q Q S M b hk7 hf hf' hJ hb
    obtain ⟨nf, rfl⟩ : ∃ t, nf = t + 1 := ⟨nf - 1, by omega⟩
    obtain ⟨nf', rfl⟩ : ∃ t, nf' = t + 1 := ⟨nf' - 1, by omega⟩
    obtain ⟨hp, hw, hS, hM, hk⟩ := hJ
    have hTM := hk.tp hT
    obtain ⟨Q1, M1, e1, e2, hp1, k1⟩ := j_next (S := S) hN (μ := μ) (C := C) ⟨hL, hTM⟩ hp
    have hcb := chq_lt hL (nb C t q)
    have hM1 : repM (M1.1 1) b := by rw [k1.1 1 (by decide)]; exact hM
    have e7 : k = 7 := by omega
    refine Or.inl ⟨nb C t q, Q1, S, M1, ?_, ?_, hp1, nb_nb hp.2.2, hk.tr k1.two⟩
    · rw [f_Pa_takesBooks_2, e7, if_pos (Int32.le_refl _), e1, Option.bind_some]
    · have er : f_Mo_readsBook N M = some (nI 0, M1) := by
        unfold f_Mo_readsBook f_Mo_readsBook_28
        rw [e2, Option.bind_some]
        dsimp only
        rw [s_inI, el97, el116, nI_toInt (by omega)]
        by_cases hl : 97 ≤ chq C t (nb C t q) ∧ chq C t (nb C t q) ≤ 116
        · rw [if_pos (by omega), Option.bind_some, if_neg nI_1_0, hM1.1 0 (by decide), hb, e7, if_pos rfl]
        · rw [if_neg (by omega), Option.bind_some, if_pos rfl]
      rw [f_Mo_readsAll_96, if_neg nI_1_0, er, Option.bind_some]
      dsimp only
      rw [if_pos rfl]
  | succ m ih =>
    intro k nf nf' q Q S M b hk7 hf hf' hJ hb
    obtain ⟨nf, rfl⟩ : ∃ t, nf = t + 1 := ⟨nf - 1, by omega⟩
    obtain ⟨nf', rfl⟩ : ∃ t, nf' = t + 2 := ⟨nf' - 2, by omega⟩
    have hq := hJ.1.2.2
    rw [f_Pa_takesBooks_2, if_neg (nI_ge (by omega) (by decide)), f_Mo_readsAll_96, if_neg nI_1_0]
    rcases j_book (N := N) hN hL hT hJ (by omega) with ⟨q1, Q1, S1, M1, b1, c1, d1, J1, n1, -⟩ | ⟨Q1, M1, c1, d1, P1, k1⟩
    · rw [c1, d1, Option.bind_some, Option.bind_some]
      dsimp only
      rw [if_neg nI_1_0, if_neg nI_1_0]
      have hTM1 := J1.2.2.2.2.tp hT
      obtain ⟨Q2, M2, h2⟩ := j_sign (S := S1) (c := 44) hN (μ := μ) (C := C) ⟨hL, hTM1⟩ J1.1 (by decide) (by decide)
      rcases h2 with ⟨-, -, c2, d2, P2, k2⟩ | ⟨-, c2, d2, P2, k2⟩
      · rw [c2, d2, Option.bind_some, Option.bind_some]
        dsimp only [bnd]
        rw [if_neg nI_1_0, nI_add]
        exact ih (k + 1) nf (nf' + 1) _ Q2 S1 M2 b1 (by omega) (by omega) (by omega) ⟨P2, J1.2.1, J1.2.2.1, by rw [k2.1 1 (by decide)]; exact J1.2.2.2.1, J1.2.2.2.2.tr k2.two⟩ (by omega)
      · rw [c2, d2, Option.bind_some, Option.bind_some]
        dsimp only [bnd]
        rw [if_pos rfl]
        exact Or.inr ⟨nb C t q1, Q2, S1, M2, b1, nf', rfl, rfl, ⟨P2, J1.2.1, J1.2.2.1, by rw [k2.1 1 (by decide)]; exact J1.2.2.2.1, J1.2.2.2.2.tr k2.two⟩, nb_nb J1.1.2.2, by omega⟩
    · rw [c1, d1, Option.bind_some, Option.bind_some]
      dsimp only
      rw [if_pos rfl, if_pos rfl]
      exact Or.inl ⟨nb C t q, Q1, S, M1, rfl, rfl, P1, nb_nb hq, k1⟩
/-- a pair -/
theorem j_pair {N t q : Nat} (hN : 200 ≤ N) {μ : zM} {C : Nat → Nat} {Q S M0 M : zOb} {b : aS} (hL : tpC (μ 19) C t) (hT : tpM M0 C t) (hJ : JJ t q Q S M0 M b) : (∃ q' Q' S' M' b', f_Pa_takesPair N (pC μ Q S) = some (nI 1, pC μ Q' S') ∧ f_Mo_readsPair N M = some (nI 1, M') ∧ JJ t q' Q' S' M0 M' b' ∧ q + 2 ≤ q') ∨ (∃ q' Q' S' M', f_Pa_takesPair N (pC μ Q S) = some (nI 0, pC μ Q' S') ∧ f_Mo_readsPair N M = some (nI 0, M') ∧ PQ t q' Q' M' ∧ nb C t q' = q' ∧ kM2 M0 M') := by
  obtain ⟨hp, hw, hS, hM, hk⟩ := hJ
  have h7 := hw.1.1
  have h90 := hL.1
  have hTM := hk.tp hT
  obtain ⟨n1, n2, -⟩ := nb_p (C := C) hp.2.2
  obtain ⟨Q1, M1, e1, e2, hp1, k1⟩ := j_fig (S := S) hN (μ := μ) (C := C) ⟨hL, hTM⟩ hp
  have hcb := chq_lt hL (nb C t q)
  have hS0 : S.1 0 3 = nI (b.1 0) := hS.1 0 (by decide)
  have hM0 : M.1 1 0 = nI (b.1 0) := hM.1 0 (by decide)
  have hM1 : repM (M1.1 1) b := by rw [k1.1 1 (by decide)]; exact hM
  have el0 : (nI 0).toInt64.toInt = 0 := by decide
  have hfg := fg_T (chq C t (nb C t q)) hcb (lo := 0) (hi := (b.1 0 : Int) - 1) (by omega) (by omega)
  by_cases h1 : 0 ≤ (chq C t (nb C t q) : Int) - 48 ∧ (chq C t (nb C t q) : Int) - 48 ≤ (b.1 0 : Int) - 1
  · have hc1 : 48 ≤ chq C t (nb C t q) ∧ chq C t (nb C t q) - 48 < b.1 0 := by omega
    have hlt : nb C t q < t := by
      refine Nat.lt_of_not_le (fun g => ?_)
      rw [chq_out g] at hc1
      omega
    have ef : fgI (chq C t (nb C t q)) = nI (chq C t (nb C t q) - 48) := if_pos (by omega)
    generalize hx : chq C t (nb C t q) - 48 = x at hc1 ef
    have er : nI (chq C t (nb C t q)) - nI 48 = nI x := by rw [pk_sub hc1.1, hx]
    have efig : f_Mo_figure N M (nI 0) (nI (b.1 0) - nI 1) = some (nI x, zI M1 0 25 (nI (nb C t q + 1))) := by
      unfold f_Mo_figure
      rw [e2, Option.bind_some]
      dsimp only [bnd]
      rw [er, s_inI, el0, n1_toInt (by omega), nI_toInt (by omega), if_pos (by omega), Option.bind_some, if_neg nI_1_0, hp1.2.1, nI_add]
    have hp2 : PQ t (nb C t q + 1) (zI Q1 0 2 (nI (nb C t q + 1))) (zI M1 0 25 (nI (nb C t q + 1))) := ⟨rfl, rfl, by omega⟩
    have k2 : kM1 M (zI M1 0 25 (nI (nb C t q + 1))) := k1.tr (kM1.fld M1 _)
    obtain ⟨Q3, M3, e3, e4, hp3, k3⟩ := j_fig (S := S) hN (μ := μ) (C := C) ⟨hL, k2.tp hTM⟩ hp2
    have k23 := k2.tr k3
    obtain ⟨n3, n4, -⟩ := nb_p (C := C) hp2.2.2
    have hcb2 := chq_lt hL (nb C t (nb C t q + 1))
    have hM3 : repM (M3.1 1) b := by rw [k23.1 1 (by decide)]; exact hM
    have hfg2 := fg_T (chq C t (nb C t (nb C t q + 1))) hcb2 (lo := 0) (hi := (b.1 0 : Int) - 1) (by omega) (by omega)
    have runC : f_Pa_takesPair N (pC μ Q S) = (f_St_isBook S (fgI (chq C t (nb C t (nb C t q + 1))))).bind (fun q8 => (if q8 = nI 0 then f_Pa_takesPair_72 N (pC μ Q3 S) else if zin (nI x) 7 then (f_RS_hasBit (S.1 2 x) (fgI (chq C t (nb C t (nb C t q + 1))))).bind (fun q11 => (if q11 = nI 0 then (f_St_turnAhead N S (nI x) (fgI (chq C t (nb C t (nb C t q + 1))))).bind (fun q13 => (if nI 0 ≤ q13.1 then some ((nI 1), pC μ (zI Q3 0 2 (nI (nb C t (nb C t q + 1) + 1))) q13.2) else f_Pa_takesPair_72 N (pC μ Q3 q13.2))) else f_Pa_takesPair_72 N (pC μ Q3 S))) else none)) := by
      unfold f_Pa_takesPair
      rw [e1, Option.bind_some]
      dsimp only [bnd]
      rw [ef, pC_3, isB_1 h7 hS0 hc1.2, Option.bind_some, if_neg nI_1_0, pC_20, hp1.1, nI_add, pC_s20, e3, Option.bind_some]
      dsimp only
      have cx : (nI x).toNatClampNeg = x := nI_clamp (by omega)
      simp only [pC_3, pC_s3, pC_20, hp3.1, nI_add, pC_s20, cx]
    have runM : f_Mo_readsPair N M = (f_Mo_isBook M3 (nI (chq C t (nb C t (nb C t q + 1))) - nI 48)).bind (fun q6 => (if q6 = nI 0 then f_Mo_readsPair_61 N M3 else (f_Mo_has (M3.1 1 (20 + x)) (nI (chq C t (nb C t (nb C t q + 1))) - nI 48)).bind (fun q9 => (if q9 = nI 0 then (f_Mo_puts N M3 (nI x) (nI (chq C t (nb C t (nb C t q + 1))) - nI 48)).bind (fun q11 => (if nI 0 ≤ q11.1 then some ((nI 1), zI q11.2 0 25 ((q11.2.1 0 25) + (nI 1))) else f_Mo_readsPair_61 N q11.2)) else f_Mo_readsPair_61 N M3)))) := by
      have z20 : zin (nI (20 + x)) 27 := zin_nI (by omega) (by decide)
      have c20 : (nI (20 + x)).toNatClampNeg = 20 + x := nI_clamp (by omega)
      unfold f_Mo_readsPair
      rw [hM0, efig, Option.bind_some]
      dsimp only [bnd]
      rw [if_pos (nI_le (Nat.zero_le _) (by omega)), e4, Option.bind_some]
      dsimp only
      simp only [nI_add, if_pos z20, c20]
    by_cases h2 : 0 ≤ (chq C t (nb C t (nb C t q + 1)) : Int) - 48 ∧ (chq C t (nb C t (nb C t q + 1)) : Int) - 48 ≤ (b.1 0 : Int) - 1
    · have hc2 : 48 ≤ chq C t (nb C t (nb C t q + 1)) ∧ chq C t (nb C t (nb C t q + 1)) - 48 < b.1 0 := by omega
      have hlt2 : nb C t (nb C t q + 1) < t := by
        refine Nat.lt_of_not_le (fun g => ?_)
        rw [chq_out g] at hc2
        omega
      have ef2 : fgI (chq C t (nb C t (nb C t q + 1))) = nI (chq C t (nb C t (nb C t q + 1)) - 48) := if_pos (by omega)
      generalize hy : chq C t (nb C t (nb C t q + 1)) - 48 = y at hc2 ef2
      have er2 : nI (chq C t (nb C t (nb C t q + 1))) - nI 48 = nI y := by rw [pk_sub hc2.1, hy]
      have hf31 : b.2.2.1 x < 2 ^ 31 := lt31 h7 (hw.2.1 x hc1.2).2.1
      rw [ef2, isB_1 h7 hS0 hc2.2, Option.bind_some, if_neg nI_1_0, if_pos (zin_nI (by omega) (by decide)), (hS.2 x hc1.2).2.1, s_hasBit hf31 (by omega), Option.bind_some] at runC
      rw [er2, isBM_1 h7 (hM3.1 0 (by decide)) hc2.2, Option.bind_some, if_neg nI_1_0, (hM3.2 x hc1.2).2.1, s_has hf31 (by omega), Option.bind_some] at runM
      by_cases hb : (b.2.2.1 x).testBit y = true
      · rw [if_pos hb, if_neg nI_1_0] at runC runM
        exact Or.inr ⟨_, Q3, S, M3, runC, runM, hp3, nb_nb hp2.2.2, hk.tr k23.two⟩
      · rw [if_neg hb, if_pos rfl] at runC runM
        obtain ⟨r, S2, f2, b2, a1, a2, w2, r2, m2⟩ := a_ahead hN (nI x) (nI y) S M3 b hw hS hM3
        have a1' : f_St_turnAhead N S (nI x) (nI y) = some (r, S2) := a1
        have a2' : f_Mo_puts N M3 (nI x) (nI y) = some (r, zIr M3 1 f2) := a2
        rw [a1', Option.bind_some] at runC
        rw [a2', Option.bind_some] at runM
        dsimp only at runC runM
        by_cases hr : nI 0 ≤ r
        · rw [if_pos hr] at runC runM
          have e25 : (zIr M3 1 f2).1 0 25 = nI (nb C t (nb C t q + 1)) := hp3.2.1
          rw [e25, nI_add] at runM
          refine Or.inl ⟨nb C t (nb C t q + 1) + 1, _, S2, _, b2, runC, runM, ⟨⟨rfl, rfl, by omega⟩, w2, r2, m2, ?_⟩, by omega⟩
          exact (hk.tr k23.two).tr ((kM2.row M3 f2).tr (kM1.fld _ _).two)
        · rw [if_neg hr] at runC runM
          exact Or.inr ⟨_, Q3, S2, zIr M3 1 f2, runC, runM, ⟨hp3.1, hp3.2.1, hp3.2.2⟩, nb_nb hp2.2.2, (hk.tr k23.two).tr (kM2.row M3 f2)⟩
    · have hx2 : ¬ (0 ≤ (fgI (chq C t (nb C t (nb C t q + 1)))).toInt ∧ (fgI (chq C t (nb C t (nb C t q + 1)))).toInt < (b.1 0 : Int)) := fun g => h2 (hfg2.mp (by omega))
      have hy2 : ¬ (0 ≤ (nI (chq C t (nb C t (nb C t q + 1))) - nI 48).toInt ∧ (nI (chq C t (nb C t (nb C t q + 1))) - nI 48).toInt < (b.1 0 : Int)) := by
        rw [c48 hcb2]
        omega
      rw [isB_0 h7 hS0 hx2, Option.bind_some, if_pos rfl] at runC
      rw [isBM_0 h7 (hM3.1 0 (by decide)) hy2, Option.bind_some, if_pos rfl] at runM
      exact Or.inr ⟨_, Q3, S, M3, runC, runM, hp3, nb_nb hp2.2.2, hk.tr k23.two⟩
  · have hx1 : ¬ (0 ≤ (fgI (chq C t (nb C t q))).toInt ∧ (fgI (chq C t (nb C t q))).toInt < (b.1 0 : Int)) := fun g => h1 (hfg.mp (by omega))
    refine Or.inr ⟨nb C t q, Q1, S, M1, ?_, ?_, hp1, nb_nb hp.2.2, hk.tr k1.two⟩
    · unfold f_Pa_takesPair
      rw [e1, Option.bind_some]
      dsimp only [bnd]
      rw [pC_3, isB_0 h7 hS0 hx1, Option.bind_some, if_pos rfl]
    · have efig : f_Mo_figure N M (nI 0) (nI (b.1 0) - nI 1) = some (-4, M1) := by
        unfold f_Mo_figure
        rw [e2, Option.bind_some]
        dsimp only [bnd]
        rw [s_inI, el0, n1_toInt (by omega), c48 hcb, if_neg h1, Option.bind_some, if_pos rfl]
      unfold f_Mo_readsPair
      rw [hM0, efig, Option.bind_some]
      dsimp only [bnd]
      rw [if_neg (by decide)]
