/-! a text is read -/
theorem chq_0 {L : zOb} {C : Nat → Nat} {t q : Nat} (hL : tpC L C t) : chq C t q = 0 ↔ t ≤ q := by
  constructor
  · intro h
    refine Nat.le_of_not_lt (fun g => ?_)
    rw [chq_in g] at h
    have := (hL.2.2 q g).1.1
    omega
  · exact chq_out
theorem j_end {N t q : Nat} (hN : 200 ≤ N) {μ : zM} {C : Nat → Nat} {Q S M : zOb} (h : tp2 (μ 19) M C t) (hp : PQ t q Q M) : ∃ Q' M', PQ t (nb C t q) Q' M' ∧ kM1 M M' ∧ (nb C t q < t → f_Pa_isAtEnd N (pC μ Q S) = some (nI 0, pC μ Q' S)) ∧ (nb C t q = t → f_Pa_isAtEnd N (pC μ Q S) = some (nI 1, pC μ Q' S)) := by
  obtain ⟨Q1, M1, e1, e2, hp1, k1⟩ := j_next (S := S) hN h hp
  have h90 := h.1.1
  have hL := h.1
  refine ⟨Q1, M1, hp1, k1, fun g => ?_, fun g => ?_⟩
  · unfold f_Pa_isAtEnd f_Pa_isAtEnd_24
    rw [e1, Option.bind_some]
    dsimp only
    have c : (pC μ Q1 S 20).1 0 2 < (pC μ Q1 S 19).1 0 1 := by
      rw [pC_20, pC_x μ Q1 S (by decide) (by decide), hp1.1, hL.2.1]
      exact nI_lt g (by omega)
    rw [if_pos c, if_pos (Or.inl rfl)]
  · unfold f_Pa_isAtEnd f_Pa_isAtEnd_24
    rw [e1, Option.bind_some]
    dsimp only
    have c : ¬ (pC μ Q1 S 20).1 0 2 < (pC μ Q1 S 19).1 0 1 := by
      rw [pC_20, pC_x μ Q1 S (by decide) (by decide), hp1.1, hL.2.1]
      exact nI_nlt (by omega) (by omega)
    rw [if_neg c, if_pos (Or.inr rfl)]
/-- the reference is at its end -/
theorem r_stop {N n0 t q : Nat} (hN : 200 ≤ N) {μ : zM} {C : Nat → Nat} {Q M : zOb} (h : tp2 (μ 19) M C t) (hp : PQ t q Q M) : ∃ Q' M', PQ t (nb C t q) Q' M' ∧ kM1 M M' ∧ (nb C t q < t → f_Mo_readsAll_126 N (n0 + 1) M (nI 0) = some (nI 0, M')) ∧ (nb C t q = t → f_Mo_readsAll_126 N (n0 + 1) M (nI 0) = some (nI 1, M')) := by
  obtain ⟨Q1, M1, e1, e2, hp1, k1⟩ := j_next (S := μ 3) hN h hp
  have hb := chq_lt h.1 (nb C t q)
  have h0 := chq_0 (q := nb C t q) h.1
  refine ⟨Q1, M1, hp1, k1, fun g => ?_, fun g => ?_⟩
  · rw [f_Mo_readsAll_126, if_pos rfl, e2, Option.bind_some]
    dsimp only
    rw [if_neg (fun q => by have := h0.mp ((nI_eq (by omega) (by decide)).mp q); omega), f_Mo_readsAll_161, if_pos (Or.inl rfl)]
  · rw [f_Mo_readsAll_126, if_pos rfl, e2, Option.bind_some]
    dsimp only
    rw [h0.mpr (by omega), if_pos rfl, f_Mo_readsAll_161, if_pos (Or.inr rfl)]
def rR (t : Nat) (μ : zM) (C : Nat → Nat) (M0 : zOb) (c : Option (Int32 × zM)) (r : Option (Int32 × zOb)) : Prop := (∃ q Q S M b, c = some (nI 1, pC μ Q S) ∧ r = some (nI 1, M) ∧ wfA b ∧ repS S b ∧ repM (M.1 1) b ∧ kM2 M0 M ∧ PQ t q Q M) ∨ (∃ q Q S M, c = some (nI 0, pC μ Q S) ∧ r = some (nI 0, M) ∧ PQ t q Q M ∧ nb C t q = q ∧ kM2 M0 M)
theorem j_pairs {N t : Nat} (hN : 200 ≤ N) {μ : zM} {C : Nat → Nat} {M0 : zOb} (hL : tpC (μ 19) C t) (hT : tpM M0 C t) : ∀ m q nf nf' i Q S M b, t - q ≤ m → m < nf → m + 1 < nf' → 3 * i ≤ q → JJ t q Q S M0 M b → rR t μ C M0 (f_Pa_takesPairs_2 N nf (pC μ Q S) (nI i)) (f_Mo_readsAll_126 N nf' M (nI 1)) := by
  have h90 := hL.1
  intro m
  induction m with
  | zero =>
    intro q nf nf' i Q S M b hm hf hf' hi hJ
    obtain ⟨nf, rfl⟩ : ∃ t, nf = t + 1 := ⟨nf - 1, by omega⟩
    obtain ⟨nf', rfl⟩ : ∃ t, nf' = t + 1 := ⟨nf' - 1, by omega⟩
    have hq := hJ.1.2.2
    rw [f_Pa_takesPairs_2, if_neg (nI_ge (by omega) (by decide)), f_Mo_readsAll_126, if_neg nI_1_0]
    rcases j_pair (N := N) hN hL hT hJ with ⟨q1, Q1, S1, M1, b1, c1, d1, J1, hq1⟩ | ⟨q1, Q1, S1, M1, c1, d1, P1, n1, k1⟩
    · have := J1.1.2.2
      omega
    · rw [c1, d1, Option.bind_some, Option.bind_some]
      dsimp only
      rw [if_pos rfl, if_pos rfl]
      exact Or.inr ⟨q1, Q1, S1, M1, rfl, rfl, P1, n1, k1⟩
  | succ m ih =>
    intro q nf nf' i Q S M b hm hf hf' hi hJ
    obtain ⟨nf, rfl⟩ : ∃ t, nf = t + 1 := ⟨nf - 1, by omega⟩
    obtain ⟨nf', rfl⟩ : ∃ t, nf' = t + 2 := ⟨nf' - 2, by omega⟩
    have hq := hJ.1.2.2
    rw [f_Pa_takesPairs_2, if_neg (nI_ge (by omega) (by decide)), f_Mo_readsAll_126, if_neg nI_1_0]
    rcases j_pair (N := N) hN hL hT hJ with ⟨q1, Q1, S1, M1, b1, c1, d1, J1, hq1⟩ | ⟨q1, Q1, S1, M1, c1, d1, P1, n1, k1⟩
    · rw [c1, d1, Option.bind_some, Option.bind_some]
      dsimp only
      rw [if_neg nI_1_0, if_neg nI_1_0]
      have hTM1 := J1.2.2.2.2.tp hT
      obtain ⟨p1, p2, p3⟩ := nb_p (C := C) J1.1.2.2
      have hnn := nb_nb (C := C) J1.1.2.2
      obtain ⟨Q2, M2', P2, k2', a0, a1⟩ := j_end (S := S1) hN (μ := μ) (C := C) ⟨hL, hTM1⟩ J1.1
      obtain ⟨Qx, M2, hs⟩ := j_sign (S := S1) (c := 44) hN (μ := μ) (C := C) ⟨hL, hTM1⟩ J1.1 (by decide) (by decide)
      obtain ⟨Q3, Mx, hs'⟩ := j_sign (S := S1) (c := 44) hN (μ := μ) (C := C) ⟨hL, k2'.tp hTM1⟩ P2 (by decide) (by decide)
      rw [hnn] at hs'
      rcases hs with ⟨s1, s2, -, d2, P3, k3⟩ | ⟨s1, -, d2, P3, k3⟩
      · rcases hs' with ⟨-, -, c2, -, P4, -⟩ | ⟨s3, -⟩
        · rw [a0 s2, Option.bind_some]
          dsimp only
          rw [if_pos rfl, c2, d2, Option.bind_some, Option.bind_some]
          dsimp only [bnd]
          rw [if_neg nI_1_0, nI_add]
          exact ih (nb C t q1 + 1) nf (nf' + 1) (i + 1) Q3 S1 M2 b1 (by omega) (by omega) (by omega) (by omega) ⟨⟨P4.1, P3.2.1, P3.2.2⟩, J1.2.1, J1.2.2.1, by rw [k3.1 1 (by decide)]; exact J1.2.2.2.1, J1.2.2.2.2.tr k3.two⟩
        · exact absurd s1 s3
      · have hTM2 := k3.tp hTM1
        obtain ⟨Q5, M5, P5, k5, z0, z1⟩ := r_stop (N := N) (n0 := nf') hN (μ := μ) (C := C) ⟨hL, hTM2⟩ P3
        rw [hnn] at P5 z0 z1
        rw [d2, Option.bind_some]
        dsimp only [bnd]
        by_cases hend : nb C t q1 < t
        · rcases hs' with ⟨s3, -⟩ | ⟨-, c2, -, P4, -⟩
          · exact absurd s3 s1
          · rw [a0 hend, Option.bind_some]
            dsimp only
            rw [if_pos rfl, c2, Option.bind_some]
            dsimp only
            rw [if_pos rfl, z0 hend]
            exact Or.inr ⟨nb C t q1, Q3, S1, M5, rfl, rfl, ⟨P4.1, P5.2.1, P5.2.2⟩, hnn, J1.2.2.2.2.tr (k3.tr k5).two⟩
        · have he : nb C t q1 = t := by omega
          rw [a1 he, Option.bind_some]
          dsimp only
          rw [if_neg nI_1_0, z1 he]
          exact Or.inl ⟨nb C t q1, Q2, S1, M5, b1, rfl, rfl, J1.2.1, J1.2.2.1, by rw [(k3.tr k5).1 1 (by decide)]; exact J1.2.2.2.1, J1.2.2.2.2.tr (k3.tr k5).two, ⟨P2.1, P5.2.1, P5.2.2⟩⟩
    · rw [c1, d1, Option.bind_some, Option.bind_some]
      dsimp only
      rw [if_pos rfl, if_pos rfl]
      exact Or.inr ⟨q1, Q1, S1, M1, rfl, rfl, P1, n1, k1⟩
theorem j_tail {N t q n0 : Nat} (hN : 200 ≤ N) {μ : zM} {C : Nat → Nat} {Q S M0 M : zOb} {b : aS} (hL : tpC (μ 19) C t) (hT : tpM M0 C t) (hJ : JJ t q Q S M0 M b) (hnb : nb C t q = q) : rR t μ C M0 (f_Pa_parses_56 N (pC μ Q S) (nI 1)) (f_Mo_readsAll_96 N (n0 + 1) M (nI 0)) := by
  have h90 := hL.1
  have hq := hJ.1.2.2
  have hTM := hJ.2.2.2.2.tp hT
  have e88 : ∀ μ', f_Pa_parses_88 N μ' = some (nI 0, μ') := fun μ' => by unfold f_Pa_parses_88 f_Pa_parses_89; exact if_pos (Or.inl rfl)
  have e84 : ∀ μ', f_Pa_parses_84 N μ' = some (nI 1, μ') := fun μ' => by unfold f_Pa_parses_84 f_Pa_parses_89; exact if_pos (Or.inr rfl)
  obtain ⟨Q2, M2', P2, k2', a0, a1⟩ := j_end (S := S) hN (μ := μ) (C := C) ⟨hL, hTM⟩ hJ.1
  obtain ⟨Qx, M2, hs⟩ := j_sign (S := S) (c := 59) hN (μ := μ) (C := C) ⟨hL, hTM⟩ hJ.1 (by decide) (by decide)
  rw [hnb] at P2 a0 a1 hs
  obtain ⟨Q3, Mx, hs'⟩ := j_sign (S := S) (c := 59) hN (μ := μ) (C := C) ⟨hL, k2'.tp hTM⟩ P2 (by decide) (by decide)
  rw [hnb] at hs'
  rw [f_Pa_parses_56, if_neg nI_1_0, f_Mo_readsAll_96, if_pos rfl]
  rcases hs with ⟨s1, s2, -, d2, P3, k3⟩ | ⟨s1, -, d2, P3, k3⟩
  · rcases hs' with ⟨-, -, c2, -, P4, -⟩ | ⟨s3, -⟩
    · rw [a0 s2, Option.bind_some, d2, Option.bind_some]
      dsimp only [bnd]
      rw [if_pos rfl, c2, Option.bind_some]
      dsimp only
      rw [if_neg nI_1_0]
      have hj := j_pairs (N := N) hN hL hT t (q + 1) N N 0 Q3 S M2 b (by omega) (by omega) (by omega) (by omega) ⟨⟨P4.1, P3.2.1, P3.2.2⟩, hJ.2.1, hJ.2.2.1, by rw [k3.1 1 (by decide)]; exact hJ.2.2.2.1, hJ.2.2.2.2.tr k3.two⟩
      unfold f_Pa_takesPairs
      rcases hj with ⟨q', Q', S', M', b', c, r, w, x1, x2, x3, x4⟩ | ⟨q', Q', S', M', c, r, x1, x2, x3⟩
      · rw [c, Option.bind_some, r]
        dsimp only
        rw [if_neg nI_1_0, e84]
        exact Or.inl ⟨q', Q', S', M', b', rfl, rfl, w, x1, x2, x3, x4⟩
      · rw [c, Option.bind_some, r]
        dsimp only
        rw [if_pos rfl, e88]
        exact Or.inr ⟨q', Q', S', M', rfl, rfl, x1, x2, x3⟩
    · exact absurd s1 s3
  · have hTM2 := k3.tp hTM
    obtain ⟨N, rfl⟩ : ∃ t, N = t + 1 := ⟨N - 1, by omega⟩
    obtain ⟨Q5, M5, P5, k5, z0, z1⟩ := r_stop (N := N + 1) (n0 := N) hN (μ := μ) (C := C) ⟨hL, hTM2⟩ P3
    rw [hnb] at P5 z0 z1
    rw [d2, Option.bind_some]
    dsimp only [bnd]
    by_cases hend : q < t
    · rcases hs' with ⟨s3, -⟩ | ⟨-, c2, -, P4, -⟩
      · exact absurd s3 s1
      · rw [a0 hend, Option.bind_some]
        dsimp only
        rw [if_pos rfl, c2, Option.bind_some]
        dsimp only
        rw [if_pos rfl, e88, z0 hend]
        exact Or.inr ⟨q, Q3, S, M5, rfl, rfl, ⟨P4.1, P5.2.1, P5.2.2⟩, hnb, hJ.2.2.2.2.tr (k3.tr k5).two⟩
    · have he : q = t := by omega
      rw [a1 he, Option.bind_some]
      dsimp only
      rw [if_neg nI_1_0, e84, z1 he]
      exact Or.inl ⟨q, Q2, S, M5, b, rfl, rfl, hJ.2.1, hJ.2.2.1, by rw [(k3.tr k5).1 1 (by decide)]; exact hJ.2.2.2.1, hJ.2.2.2.2.tr (k3.tr k5).two, ⟨P2.1, P5.2.1, P5.2.2⟩⟩
theorem s_ra68 {N : Nat} (hN : 200 ≤ N) (M : zOb) : ∃ r, f_Mo_readsAll_68 N N M (nI 6) = f_Mo_readsAll_96 N N (zI (zIr M 1 r) 1 0 (nI 0)) (nI 1) ∧ ∀ j, j < 6 → r j = M.1 1 j := by
  obtain ⟨s, ⟨r, e1, e2⟩, e⟩ := for_ex (fun f (Mi : zOb) x => f_Mo_readsAll_68 N f Mi x) 27 (fun i Mi => ∃ r, Mi = zIr M 1 r ∧ ((6 ≤ i) ∧ ∀ j, j < 6 → r j = M.1 1 j)) (fun Mi => f_Mo_readsAll_96 N N (zI Mi 1 0 (nI 0)) (nI 1)) (fun f Mi _ => by
    show f_Mo_readsAll_68 N (f + 1) Mi (nI 27) = _
    rw [f_Mo_readsAll_68, if_pos (Int32.le_refl _)]
    rfl) (fun f Mi i hi hP => by
    obtain ⟨r, rfl, h6, hr⟩ := hP
    refine ⟨zIr M 1 (upd r i (nI 0)), ⟨_, rfl, by omega, fun j hj => by rw [upd_n _ _ (by omega)]; exact hr j hj⟩, ?_⟩
    show f_Mo_readsAll_68 N (f + 1) (zIr M 1 r) (nI i) = f_Mo_readsAll_68 N f _ (nI (i + 1))
    rw [f_Mo_readsAll_68, if_neg (nI_ge hi (by decide)), if_pos (zin_nI hi (by decide))]
    dsimp only [bnd]
    rw [nI_clamp (by omega), nI_add, zI_r, zIr_rr, zIr_e]) 21 6 N M (by omega) (by omega) ⟨M.1 1, (zIr_id M 1).symm, by omega, fun _ _ => rfl⟩
  refine ⟨r, ?_, e2.2⟩
  rw [← e1]
  exact e
theorem s_read25 {N : Nat} (hN : 200 ≤ N) (M : zOb) : f_Mo_read_25 N N M (nI 0) = some ((-20 : Int32) - M.1 0 25, zIr M 1 (til (M.1 25) (M.1 1) 27)) := by
  have h := for_up (fun n S x => f_Mo_read_25 N n S x) 0 27 (fun i => zIr M 1 (til (M.1 25) (M.1 1) i)) (some ((-20 : Int32) - M.1 0 25, zIr M 1 (til (M.1 25) (M.1 1) 27))) ?_ ?_ (by omega) N (by omega)
  · simp only [til_0, zIr_id] at h
    exact h
  · intro n
    show f_Mo_read_25 N (n + 1) _ (nI 27) = _
    rw [f_Mo_read_25, if_pos (Int32.le_refl _)]
    rfl
  · intro n i _ hi
    show f_Mo_read_25 N (n + 1) (zIr M 1 (til (M.1 25) (M.1 1) i)) (nI i) = f_Mo_read_25 N n (zIr M 1 (til (M.1 25) (M.1 1) (i + 1))) (nI (i + 1))
    have e1 : (zIr M 1 (til (M.1 25) (M.1 1) i)).1 25 i = M.1 25 i := rfl
    rw [f_Mo_read_25, if_neg (nI_ge hi (by decide)), if_pos (zin_nI hi (by decide)), if_pos (zin_nI hi (by decide))]
    dsimp only [bnd]
    rw [nI_clamp (by omega), e1, nI_add, zI_r, zIr_rr, zIr_e, til_s]
/-- the whole text -/
theorem j_parse {N t : Nat} (hN : 200 ≤ N) {μ : zM} {C : Nat → Nat} {M : zOb} {a : aS} (hw : wfA a) (hS : repS (μ 0) a) (hM : repM (M.1 1) a) (hL : tpC (μ 19) C t) (hT : tpM M C t) : rR t μ C M (f_Pa_parses N μ) (f_Mo_readsAll N M) := by
  have h90 := hL.1
  obtain ⟨T, eT, hTr⟩ := s_takeFrom_rep (S := μ 3) hw hS
  have e55 : ∀ μ', f_Pa_parses_55 N μ' = some (nI 0, μ') := fun μ' => by
    unfold f_Pa_parses_55 f_Pa_parses_56 f_Pa_parses_88 f_Pa_parses_89
    rw [if_pos rfl]
    exact if_pos (Or.inl rfl)
  have hP0 : PQ t 0 (zI (μ 20) 0 2 (nI 0)) (zI M 0 25 (nI 0)) := ⟨rfl, rfl, Nat.zero_le _⟩
  have k0 : kM1 M (zI M 0 25 (nI 0)) := kM1.fld M _
  obtain ⟨Q1, M1, k1, hr⟩ := j_rule (S := zI T 0 3 (nI 0)) hN (μ := μ) (C := C) ⟨hL, k0.tp hT⟩ hP0
  have hbeg : f_Pa_parses N μ = (f_Pa_takesRule N (pC μ (zI (μ 20) 0 2 (nI 0)) (zI T 0 3 (nI 0)))).bind (fun q5 => (if q5.1 = nI 0 then f_Pa_parses_55 N q5.2 else (f_Pa_takesSpan N q5.2).bind (fun q15 => (if q15.1 = nI 0 then f_Pa_parses_55 N q15.2 else (f_Pa_takesSign N q15.2 (nI 58)).bind (fun q17 => (if q17.1 = nI 0 then f_Pa_parses_55 N q17.2 else (f_Pa_takesBooks N q17.2).bind (fun q19 => (if q19.1 = nI 0 then f_Pa_parses_55 N q19.2 else f_Pa_parses_56 N q19.2 (nI 1))))))))) := by
    unfold f_Pa_parses
    rw [eT, Option.bind_some]
    dsimp only [bnd]
    have z : zset (zset (zset μ 3 T) 3 (zI ((zset μ 3 T) 3) 0 3 (nI 0))) 20 (zI ((zset (zset μ 3 T) 3 (zI ((zset μ 3 T) 3) 0 3 (nI 0))) 20) 0 2 (nI 0)) = pC μ (zI (μ 20) 0 2 (nI 0)) (zI T 0 3 (nI 0)) := by
      rw [zset_s, zset_ss, zset_n _ _ (by decide), zset_comm _ _ _ (show (3 : Nat) ≠ 20 by decide)]
      rfl
    rw [z]
  have hbegM : f_Mo_readsAll N M = (f_Mo_rule N (zI M 0 25 (nI 0))).bind (fun q2 => (if nI 0 ≤ q2.1 then (f_Mo_figure N (zI q2.2 0 25 ((q2.2.1 0 25) + ((nI 6) + q2.1))) (nI 1) (nI 4)).bind (fun q6 => (if q6.1 < nI 0 then f_Mo_readsAll_49 N q6.2 else (f_Mo_takes N q6.2 (nI 58)).bind (fun q9 => (if q9.1 = nI 0 then f_Mo_readsAll_49 N q9.2 else f_Mo_readsAll_68 N N (zI (zI q9.2 1 4 q2.1) 1 2 q6.1) (nI 6))))) else some ((nI 0), q2.2))) := rfl
  rw [hbeg, hbegM]
  rcases hr with ⟨r, hr3, c1, d1, p1, p2, p3⟩ | ⟨c1, d1, P1⟩
  · rw [c1, d1, Option.bind_some, Option.bind_some]
    dsimp only
    rw [if_neg nI_1_0, if_pos (nI_le (Nat.zero_le _) (by omega)), p2, nI_add, nI_add]
    have hP1 : PQ t (nb C t 0 + (6 + r)) Q1 (zI M1 0 25 (nI (nb C t 0 + (6 + r)))) := ⟨p1, rfl, p3⟩
    have k01 : kM1 M (zI M1 0 25 (nI (nb C t 0 + (6 + r)))) := (k0.tr k1).tr (kM1.fld M1 _)
    obtain ⟨Q2, M2, e1, e2, hP2, k2⟩ := j_fig (S := zI (zI T 0 3 (nI 0)) 0 7 (nI r)) hN (μ := μ) (C := C) ⟨hL, k01.tp hT⟩ hP1
    have k02 := k01.tr k2
    generalize hqq : nb C t 0 + (6 + r) = q1 at hP1 e1 e2 hP2 p3
    obtain ⟨n1, n2, -⟩ := nb_p (C := C) p3
    have hcb := chq_lt hL (nb C t q1)
    have hfg := fg_T (chq C t (nb C t q1)) hcb (lo := 1) (hi := 4) (by omega) (by omega)
    have el1 : (nI 1).toInt64.toInt = 1 := by decide
    have el4 : (nI 4).toInt64.toInt = 4 := by decide
    by_cases h1 : 1 ≤ (chq C t (nb C t q1) : Int) - 48 ∧ (chq C t (nb C t q1) : Int) - 48 ≤ 4
    · have hlt : nb C t q1 < t := by
        refine Nat.lt_of_not_le (fun g => ?_)
        rw [chq_out g] at h1
        omega
      have ef : fgI (chq C t (nb C t q1)) = nI (chq C t (nb C t q1) - 48) := if_pos (by omega)
      have hsp : 1 ≤ chq C t (nb C t q1) - 48 ∧ chq C t (nb C t q1) - 48 ≤ 4 := by omega
      generalize hx : chq C t (nb C t q1) - 48 = sp at ef hsp
      have er : nI (chq C t (nb C t q1)) - nI 48 = nI sp := by rw [pk_sub (by omega), hx]
      have eC : f_Pa_takesSpan N (pC μ Q1 (zI (zI T 0 3 (nI 0)) 0 7 (nI r))) = some (nI 1, pC μ (zI Q2 0 2 (nI (nb C t q1 + 1))) (zI (zI (zI T 0 3 (nI 0)) 0 7 (nI r)) 0 5 (nI sp))) := by
        unfold f_Pa_takesSpan
        rw [e1, Option.bind_some, ef]
        dsimp only [bnd]
        rw [if_neg (nI_nlt hsp.1 (by omega)), if_pos (nI_le hsp.2 (by decide)), pC_3, pC_s3, pC_20, hP2.1, nI_add, pC_s20]
      have eM : f_Mo_figure N (zI M1 0 25 (nI q1)) (nI 1) (nI 4) = some (nI sp, zI M2 0 25 (nI (nb C t q1 + 1))) := by
        unfold f_Mo_figure
        rw [e2, Option.bind_some]
        dsimp only [bnd]
        rw [er, s_inI, el1, el4, nI_toInt (by omega), if_pos (by omega), Option.bind_some, if_neg nI_1_0, hP2.2.1, nI_add]
      have hP3 : PQ t (nb C t q1 + 1) (zI Q2 0 2 (nI (nb C t q1 + 1))) (zI M2 0 25 (nI (nb C t q1 + 1))) := ⟨rfl, rfl, by omega⟩
      have k03 : kM1 M (zI M2 0 25 (nI (nb C t q1 + 1))) := k02.tr (kM1.fld M2 _)
      rw [eC, eM, Option.bind_some, Option.bind_some]
      dsimp only
      rw [if_neg nI_1_0, if_neg (nI_nlt (Nat.zero_le _) (by omega))]
      obtain ⟨Q4, M4, hs⟩ := j_sign (S := zI (zI (zI T 0 3 (nI 0)) 0 7 (nI r)) 0 5 (nI sp)) (c := 58) hN (μ := μ) (C := C) ⟨hL, k03.tp hT⟩ hP3 (by decide) (by decide)
      rcases hs with ⟨-, -, c4, d4, P4, k4⟩ | ⟨-, c4, d4, P4, k4⟩
      · rw [c4, d4, Option.bind_some, Option.bind_some]
        dsimp only
        rw [if_neg nI_1_0, if_neg nI_1_0]
        have k04 := k03.tr k4
        obtain ⟨rw', e68, r68⟩ := s_ra68 hN (zI (zI M4 1 4 (nI r)) 1 2 (nI sp))
        rw [e68]
        have em4 : M4.1 1 = M.1 1 := k04.1 1 (by decide)
        have hwb : wfA ((fun k => if k = 0 then 0 else if k = 2 then sp else if k = 4 then r else a.1 k), a.2.1, a.2.2.1, a.2.2.2) := by
          refine ⟨⟨Nat.zero_le _, hw.1.2.1, hsp, hw.1.2.2.2.1, by show r ≤ 2; omega, hw.1.2.2.2.2.2⟩, fun i hi => absurd hi (Nat.not_lt_zero _), fun i j hi => absurd hi (Nat.not_lt_zero _), fun _ => 0, fun i j hi => absurd hi (Nat.not_lt_zero _)⟩
        have hJ : JJ t (nb C t (nb C t q1 + 1) + 1) Q4 (zI (zI (zI T 0 3 (nI 0)) 0 7 (nI r)) 0 5 (nI sp)) M (zI (zIr (zI (zI M4 1 4 (nI r)) 1 2 (nI sp)) 1 rw') 1 0 (nI 0)) ((fun k => if k = 0 then 0 else if k = 2 then sp else if k = 4 then r else a.1 k), a.2.1, a.2.2.1, a.2.2.2) := by
          refine ⟨⟨P4.1, P4.2.1, P4.2.2⟩, hwb, ⟨fun k hk => ?_, fun i hi => absurd hi (Nat.not_lt_zero _)⟩, ⟨fun k hk => ?_, fun i hi => absurd hi (Nat.not_lt_zero _)⟩, ?_⟩
          · match k, hk with
            | 0, _ => rfl
            | 1, _ => exact hTr.1 1 (by decide)
            | 2, _ => rfl
            | 3, _ => exact hTr.1 3 (by decide)
            | 4, _ => rfl
            | 5, _ => exact hTr.1 5 (by decide)
            | k + 6, h => exact absurd h (by omega)
          · have e1' : ∀ k, 1 ≤ k → k < 6 → (zI (zIr (zI (zI M4 1 4 (nI r)) 1 2 (nI sp)) 1 rw') 1 0 (nI 0)).1 1 k = (zI (zI M4 1 4 (nI r)) 1 2 (nI sp)).1 1 k := by
              intro k h1 h6
              rw [zI_e, upd_n _ _ (by omega), zIr_e]
              exact r68 k h6
            match k, hk with
            | 0, _ => rfl
            | 1, _ =>
              rw [e1' 1 (by decide) (by decide)]
              show M4.1 1 1 = _
              rw [em4]; exact hM.1 1 (by decide)
            | 2, _ => rw [e1' 2 (by decide) (by decide)]; rfl
            | 3, _ =>
              rw [e1' 3 (by decide) (by decide)]
              show M4.1 1 3 = _
              rw [em4]; exact hM.1 3 (by decide)
            | 4, _ => rw [e1' 4 (by decide) (by decide)]; rfl
            | 5, _ =>
              rw [e1' 5 (by decide) (by decide)]
              show M4.1 1 5 = _
              rw [em4]; exact hM.1 5 (by decide)
            | k + 6, h => exact absurd h (by omega)
          · refine k04.two.tr ⟨fun j h0 h1 => ?_, fun k _ => rfl, rfl⟩
            rw [zI_o _ _ h1, zIr_o _ _ h1, zI_o _ _ h1, zI_o _ _ h1]
        rcases j_books (N := N) hN hL hT 7 0 N N _ Q4 _ _ _ (by omega) (by omega) (by omega) hJ rfl with ⟨q', Q', S', M', c5, d5, P5, n5, k5⟩ | ⟨q', Q', S', M', b', n0, c5, d5, J5, n5, -⟩
        · unfold f_Pa_takesBooks
          rw [c5, d5, Option.bind_some]
          dsimp only
          rw [if_pos rfl, e55]
          exact Or.inr ⟨q', Q', S', M', rfl, rfl, P5, n5, k5⟩
        · unfold f_Pa_takesBooks
          rw [c5, d5, Option.bind_some]
          dsimp only
          rw [if_neg nI_1_0]
          exact j_tail hN hL hT J5 n5
      · rw [c4, d4, Option.bind_some, Option.bind_some]
        dsimp only
        rw [if_pos rfl, if_pos rfl, e55]
        exact Or.inr ⟨_, Q4, _, M4, rfl, rfl, P4, nb_nb hP3.2.2, (k03.tr k4).two⟩
    · have eC : f_Pa_takesSpan N (pC μ Q1 (zI (zI T 0 3 (nI 0)) 0 7 (nI r))) = some (nI 0, pC μ Q2 (zI (zI T 0 3 (nI 0)) 0 7 (nI r))) := by
        unfold f_Pa_takesSpan f_Pa_takesSpan_15
        rw [e1, Option.bind_some]
        dsimp only [bnd]
        have e1i : (nI 1).toInt = 1 := rfl
        have e4i : (nI 4).toInt = 4 := rfl
        by_cases g1 : fgI (chq C t (nb C t q1)) < nI 1
        · rw [if_pos g1]
        · rw [if_neg g1, if_neg (fun g => h1 (hfg.mp ?_))]
          rw [i_lt] at g1
          rw [i_le] at g
          omega
      have eM : f_Mo_figure N (zI M1 0 25 (nI q1)) (nI 1) (nI 4) = some (-4, M2) := by
        unfold f_Mo_figure
        rw [e2, Option.bind_some]
        dsimp only [bnd]
        rw [s_inI, el1, el4, c48 hcb, if_neg h1, Option.bind_some, if_pos rfl]
      rw [eC, eM, Option.bind_some, Option.bind_some]
      dsimp only
      rw [if_pos rfl, if_pos (by decide), e55]
      exact Or.inr ⟨_, Q2, _, M2, rfl, rfl, hP2, nb_nb p3, k02.two⟩
  · rw [c1, d1, Option.bind_some, Option.bind_some]
    dsimp only
    rw [if_pos rfl, if_neg (by decide), e55]
    exact Or.inr ⟨_, Q1, _, M1, rfl, rfl, P1, nb_nb (Nat.zero_le _), (k0.tr k1).two⟩
