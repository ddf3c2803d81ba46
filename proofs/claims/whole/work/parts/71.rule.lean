/-! the NAME of a rule -/
def lzF (C : Nat → Nat) : Nat → Nat → Nat
  | 0, q => q
  | k + 1, q => if 97 ≤ C q ∧ C q ≤ 122 then lzF C k (q + 1) else q
theorem lzF_p (C : Nat → Nat) : ∀ k q, q ≤ lzF C k q ∧ lzF C k q ≤ q + k ∧ (∀ i, q ≤ i → i < lzF C k q → 97 ≤ C i ∧ C i ≤ 122) ∧ (lzF C k q < q + k → ¬ (97 ≤ C (lzF C k q) ∧ C (lzF C k q) ≤ 122)) := by
  intro k
  induction k with
  | zero => intro q; exact ⟨Nat.le_refl _, Nat.le_refl _, fun i h1 h2 => absurd h2 (by show ¬ i < q; omega), fun h => absurd h (by show ¬ q < q + 0; omega)⟩
  | succ k ih =>
    intro q
    unfold lzF
    by_cases h : 97 ≤ C q ∧ C q ≤ 122
    · rw [if_pos h]
      obtain ⟨h1, h2, h3, h4⟩ := ih (q + 1)
      refine ⟨by omega, by omega, fun i g1 g2 => ?_, fun g => h4 (by omega)⟩
      by_cases hi : i = q
      · subst hi; exact h
      · exact h3 i (by omega) g2
    · rw [if_neg h]
      exact ⟨Nat.le_refl _, by omega, fun i g1 g2 => absurd g2 (by omega), fun _ => h⟩
def nmL : List (List Nat) := [[], [115, 116, 101, 97, 100, 121], [103, 114, 111, 119, 105, 110, 103], [100, 111, 117, 98, 108, 105, 110, 103]]
def nm (k i : Nat) : Nat := (nmL.getD k []).getD i 0
theorem zch_nm : ∀ r, r < 3 → ∀ i, i < 6 + r → zch (r + 1) i = nI (nm (r + 1) i) ∧ 97 ≤ nm (r + 1) i ∧ nm (r + 1) i ≤ 122 := by decide +kernel
theorem zsl_r : ∀ r, r < 3 → zsl (r + 1) = nI (6 + r) ∧ zlenS.getD (r + 1) 0 = 6 + r := by decide +kernel
def mK (C : Nat → Nat) (t st e r : Nat) : Prop := e - st = 6 + r ∧ ∀ j, j < 6 + r → chq C t (st + j) = nm (r + 1) j
def mR (C : Nat → Nat) (t st r : Nat) : Prop := st + (6 + r) ≤ t ∧ (∀ j, j < 6 + r → C (st + j) = nm (r + 1) j) ∧ ¬ (st + (6 + r) < t ∧ 97 ≤ C (st + (6 + r)) ∧ C (st + (6 + r)) ≤ 122)
theorem mKR {C : Nat → Nat} {t st r : Nat} (hr : r < 3) (hst : st ≤ t) : mK C t st (lzF C (t - st) st) r ↔ mR C t st r := by
  obtain ⟨h1, h2, h3, h4⟩ := lzF_p C (t - st) st
  generalize lzF C (t - st) st = e at h1 h2 h3 h4
  constructor
  · rintro ⟨g1, g2⟩
    have he : e = st + (6 + r) := by omega
    refine ⟨by omega, fun j hj => ?_, ?_⟩
    · have := g2 j hj
      rw [chq_in (by omega)] at this
      exact this
    · rintro ⟨q1, q2⟩
      rw [← he] at q1 q2
      exact h4 (by omega) q2
  · rintro ⟨g1, g2, g3⟩
    have hl : ∀ i, st ≤ i → i < st + (6 + r) → 97 ≤ C i ∧ C i ≤ 122 := by
      intro i q1 q2
      have e1 := g2 (i - st) (by omega)
      rw [show st + (i - st) = i by omega] at e1
      rw [e1]
      exact (zch_nm r hr (i - st) (by omega)).2
    have he : e = st + (6 + r) := by
      rcases Nat.lt_trichotomy e (st + (6 + r)) with q | q | q
      · exact absurd (hl e h1 q) (h4 (by omega))
      · exact q
      · exact absurd ⟨by omega, h3 (st + (6 + r)) (by omega) q⟩ g3
    refine ⟨by omega, fun j hj => ?_⟩
    rw [chq_in (by omega)]
    exact g2 j hj
theorem p_run {N t st : Nat} {μ : zM} {C : Nat → Nat} (hL : tpC (μ 19) C t) (S : zOb) : ∀ k q Q nf, q + k = t → k < nf → Q.1 0 2 = nI q → ∃ Q', f_Pa_takesRule_10 N nf (pC μ Q S) (nI st) = f_Pa_takesRule_69 N (pC μ Q' S) (nI st) ∧ Q'.1 0 2 = nI (lzF C k q) := by
  have h90 := hL.1
  have z19 : ∀ Q, pC μ Q S 19 = μ 19 := fun Q => pC_x μ Q S (by decide) (by decide)
  intro k
  induction k with
  | zero =>
    intro q Q nf hq hf hQ
    obtain ⟨nf, rfl⟩ : ∃ t, nf = t + 1 := ⟨nf - 1, by omega⟩
    refine ⟨Q, ?_, hQ⟩
    rw [f_Pa_takesRule_10, z19, pC_20, hL.2.1, hQ, if_pos (nI_le (by omega) (by omega))]
  | succ k ih =>
    intro q Q nf hq hf hQ
    obtain ⟨nf, rfl⟩ : ∃ t, nf = t + 1 := ⟨nf - 1, by omega⟩
    have hqt : q < t := by omega
    have hc := (hL.2.2 q hqt).1
    rw [f_Pa_takesRule_10, z19, pC_20, hL.2.1, hQ, if_neg (nI_ge hqt (by omega)), l19, s_at hL (by omega), Option.bind_some, chq_in hqt]
    unfold lzF
    by_cases h1 : C q < 97
    · refine ⟨Q, ?_, by rw [if_neg (by omega)]; exact hQ⟩
      rw [if_pos (nI_lt h1 (by decide))]
    · rw [if_neg (nI_nlt (by omega) (by omega)), Option.bind_some]
      by_cases h2 : 122 < C q
      · refine ⟨Q, ?_, by rw [if_neg (by omega)]; exact hQ⟩
        rw [if_pos (nI_lt h2 (by omega))]
      · obtain ⟨Q', e, hQ'⟩ := ih (q + 1) (zI Q 0 2 (nI (q + 1))) nf (by omega) (by omega) rfl
        refine ⟨Q', ?_, by rw [if_pos (by omega)]; exact hQ'⟩
        rw [if_neg (nI_nlt (by omega) (by decide))]
        dsimp only [bnd]
        rw [nI_add, pC_s20]
        exact e
theorem p_nm15 {N t st r : Nat} {ν : zM} {C : Nat → Nat} (hL : tpC (ν 19) C t) (hr : r < 3) (hst : st ≤ t) : ∀ m i nf, i + m = 6 + r → m < nf → ((∀ j, i ≤ j → j < 6 + r → chq C t (st + j) = nm (r + 1) j) → f_Pa_isName_15 N ν (r + 1) nf (nI st) (nI i) = some (nI 1)) ∧ ((∃ j, i ≤ j ∧ j < 6 + r ∧ ¬ chq C t (st + j) = nm (r + 1) j) → f_Pa_isName_15 N ν (r + 1) nf (nI st) (nI i) = some (nI 0)) := by
  have h90 := hL.1
  obtain ⟨z1, z2⟩ := zsl_r r hr
  intro m
  induction m with
  | zero =>
    intro i nf hi hf
    obtain ⟨nf, rfl⟩ : ∃ t, nf = t + 1 := ⟨nf - 1, by omega⟩
    refine ⟨fun _ => ?_, fun ⟨j, j1, j2, _⟩ => absurd j2 (by omega)⟩
    rw [f_Pa_isName_15, z1, if_pos (nI_le (by omega) (by omega))]
  | succ m ih =>
    intro i nf hi hf
    obtain ⟨nf, rfl⟩ : ∃ t, nf = t + 1 := ⟨nf - 1, by omega⟩
    obtain ⟨c1, c2, c3⟩ := zch_nm r hr i (by omega)
    have hb := chq_lt hL (st + i)
    obtain ⟨i1, i2⟩ := ih (i + 1) nf (by omega) (by omega)
    rw [f_Pa_isName_15, z1, if_neg (nI_ge (by omega) (by omega)), nI_add, l19, s_at hL (by omega), Option.bind_some, z2, if_pos (zin_nI (by omega) (by omega)), nI_clamp (by omega), c1]
    by_cases he : chq C t (st + i) = nm (r + 1) i
    · rw [if_pos (by rw [he])]
      dsimp only [bnd]
      rw [nI_add]
      refine ⟨fun h => i1 (fun j h1 h2 => h j (by omega) h2), fun ⟨j, j1, j2, j3⟩ => i2 ⟨j, ?_, j2, j3⟩⟩
      rcases Nat.lt_or_ge i j with h | h
      · exact h
      · have : j = i := by omega
        subst this
        exact absurd he j3
    · rw [if_neg (fun g => he ((nI_eq (by omega) (by omega)).mp g))]
      exact ⟨fun h => absurd (h i (Nat.le_refl _) (by omega)) he, fun _ => rfl⟩
theorem p_name {N t st e r : Nat} (hN : 200 ≤ N) {ν : zM} {C : Nat → Nat} (hL : tpC (ν 19) C t) (hr : r < 3) (hst : st ≤ e) (he : e ≤ t) : (mK C t st e r → f_Pa_isName N ν (r + 1) (nI st) (nI e) = some (nI 1)) ∧ (¬ mK C t st e r → f_Pa_isName N ν (r + 1) (nI st) (nI e) = some (nI 0)) := by
  have h90 := hL.1
  obtain ⟨z1, z2⟩ := zsl_r r hr
  obtain ⟨i1, i2⟩ := p_nm15 (N := N) hL hr (show st ≤ t by omega) (6 + r) 0 N (by omega) (by omega)
  unfold f_Pa_isName
  rw [pk_sub hst, z1]
  by_cases h1 : e - st = 6 + r
  · rw [if_pos (by rw [h1])]
    refine ⟨fun h => i1 (fun j _ hj => h.2 j hj), fun h => i2 ?_⟩
    refine Classical.byContradiction (fun hc => h ⟨h1, fun j hj => ?_⟩)
    exact Classical.byContradiction (fun hz => hc ⟨j, Nat.zero_le _, hj, hz⟩)
  · rw [if_neg (fun g => h1 ((nI_eq (by omega) (by omega)).mp g))]
    exact ⟨fun h => absurd h.1 h1, fun _ => rfl⟩
theorem p_71 {N t st e : Nat} (hN : 200 ≤ N) {μ : zM} {C : Nat → Nat} {Q S : zOb} (hL : tpC (μ 19) C t) (hQ : Q.1 0 2 = nI e) (hst : st ≤ e) (he : e ≤ t) : (∀ r, r < 3 → mK C t st e r → (∀ r', r' < r → ¬ mK C t st e r') → f_Pa_takesRule_69 N (pC μ Q S) (nI st) = some (nI 1, pC μ Q (zI S 0 7 (nI r)))) ∧ ((∀ r, r < 3 → ¬ mK C t st e r) → f_Pa_takesRule_69 N (pC μ Q S) (nI st) = some (nI 0, pC μ (zI Q 0 2 (nI st)) S)) := by
  obtain ⟨N, rfl⟩ : ∃ t, N = t + 4 := ⟨N - 4, by omega⟩
  have hL' : tpC (pC μ Q S 19) C t := by rw [pC_x μ Q S (by decide) (by decide)]; exact hL
  have step : ∀ nf r, r < 3 → (mK C t st e r → f_Pa_takesRule_71 (N + 4) (nf + 1) (pC μ Q S) (nI st) (nI r) = some (nI 1, pC μ Q (zI S 0 7 (nI r)))) ∧ (¬ mK C t st e r → f_Pa_takesRule_71 (N + 4) (nf + 1) (pC μ Q S) (nI st) (nI r) = f_Pa_takesRule_71 (N + 4) nf (pC μ Q S) (nI st) (nI (r + 1))) := by
    intro nf r hr
    obtain ⟨n1, n0⟩ := p_name hN hL' hr hst he
    have en : f_Pa_nameOf (nI r) = some (r + 1) := by
      match r, hr with
      | 0, _ => rfl
      | 1, _ => rfl
      | 2, _ => rfl
      | r + 3, h => exact absurd h (by omega)
    rw [f_Pa_takesRule_71, if_neg (nI_ge hr (by decide)), en, Option.bind_some, if_pos (by omega), pC_20, hQ]
    refine ⟨fun h => ?_, fun h => ?_⟩
    · rw [n1 h, Option.bind_some, if_neg nI_1_0]
      dsimp only [bnd]
      rw [pC_3, pC_s3]
    · rw [n0 h, Option.bind_some, if_pos rfl]
      dsimp only [bnd]
      rw [nI_add]
  have fin : f_Pa_takesRule_71 (N + 4) (N + 1) (pC μ Q S) (nI st) (nI 3) = some (nI 0, pC μ (zI Q 0 2 (nI st)) S) := by
    rw [f_Pa_takesRule_71, if_pos (Int32.le_refl _)]
    dsimp only [bnd]
    rw [pC_20, pC_s20]
  unfold f_Pa_takesRule_69
  refine ⟨fun r hr h hn => ?_, fun h => ?_⟩
  · match r, hr, h, hn with
    | 0, _, h, _ => exact (step (N + 3) 0 (by decide)).1 h
    | 1, _, h, hn => rw [(step (N + 3) 0 (by decide)).2 (hn 0 (by decide))]; exact (step (N + 2) 1 (by decide)).1 h
    | 2, _, h, hn => rw [(step (N + 3) 0 (by decide)).2 (hn 0 (by decide)), (step (N + 2) 1 (by decide)).2 (hn 1 (by decide))]; exact (step (N + 1) 2 (by decide)).1 h
    | r + 3, hr, _, _ => exact absurd hr (by omega)
  · rw [(step (N + 3) 0 (by decide)).2 (h 0 (by decide)), (step (N + 2) 1 (by decide)).2 (h 1 (by decide)), (step (N + 1) 2 (by decide)).2 (h 2 (by decide))]
    exact fin
/-- the reference's names -/
theorem m_isAt {M : zOb} {C : Nat → Nat} {t x lo hi : Nat} (h90 : t ≤ 90) (hC : ∀ i, i < t → C i ≤ 126) (hM : tpM M C t) (hx : x ≤ 200) (hlo : lo < 200) (hhi : hi < 200) : (x < t ∧ lo ≤ C x ∧ C x ≤ hi → f_Mo_isAt M (nI x) (nI lo) (nI hi) = some (nI 1)) ∧ (¬ (x < t ∧ lo ≤ C x ∧ C x ≤ hi) → f_Mo_isAt M (nI x) (nI lo) (nI hi) = some (nI 0)) := by
  unfold f_Mo_isAt f_Mo_isAt_29 f_Mo_isAt_30
  rw [hM.1]
  by_cases hxt : x < t
  · have hc := hC x hxt
    rw [if_neg (nI_ge hxt (by omega)), if_pos (zin_nI (by omega) (by decide)), nI_clamp (by omega), hM.2 x hxt, s_inI, l_toInt, l_toInt, nI_toInt (by omega), nI_toInt (by omega), nI_toInt (by omega), Option.bind_some]
    by_cases h : lo ≤ C x ∧ C x ≤ hi
    · rw [if_pos (show (lo : Int) ≤ C x ∧ (C x : Int) ≤ hi by omega), if_neg nI_1_0, if_pos (Or.inr rfl)]
      exact ⟨fun _ => rfl, fun g => absurd ⟨hxt, h⟩ g⟩
    · rw [if_neg (show ¬ ((lo : Int) ≤ C x ∧ (C x : Int) ≤ hi) by omega), if_pos rfl, if_pos (Or.inl rfl)]
      exact ⟨fun g => absurd g.2 h, fun _ => rfl⟩
  · rw [if_pos (nI_le (by omega) (by omega)), if_pos (Or.inl rfl)]
    exact ⟨fun g => absurd g.1 hxt, fun _ => rfl⟩
def wW (C : Nat → Nat) (t q sz a b c d : Nat) : Prop := q + sz ≤ t ∧ C q = a ∧ C (q + 1) = b ∧ C (q + 2) = c ∧ C (q + 3) = d ∧ ¬ (q + sz < t ∧ 97 ≤ C (q + sz) ∧ C (q + sz) ≤ 122)
theorem m_isWord {M : zOb} {C : Nat → Nat} {t q sz a b c d : Nat} (h90 : t ≤ 90) (hC : ∀ i, i < t → C i ≤ 126) (hM : tpM M C t) (h25 : M.1 0 25 = nI q) (hq : q ≤ t) (hs : 4 ≤ sz ∧ sz ≤ 8) (ha : a < 128) (hb : b < 128) (hc : c < 128) (hd : d < 128) : (wW C t q sz a b c d → f_Mo_isWord M (nI sz) (nI a) (nI b) (nI c) (nI d) = some (nI 1)) ∧ (¬ wW C t q sz a b c d → f_Mo_isWord M (nI sz) (nI a) (nI b) (nI c) (nI d) = some (nI 0)) := by
  have e0 : f_Mo_isWord_94 M = some (nI 0) := by unfold f_Mo_isWord_94 f_Mo_isWord_95; exact if_pos (Or.inl rfl)
  have e1 : f_Mo_isWord_95 M (nI 1) = some (nI 1) := by unfold f_Mo_isWord_95; exact if_pos (Or.inr rfl)
  unfold f_Mo_isWord
  rw [e0, e1, hM.1, h25]
  simp only [nI_add]
  by_cases hl : q + sz ≤ t
  · obtain ⟨i1, i0⟩ := m_isAt (x := q + sz) (lo := 97) (hi := 122) h90 hC hM (by omega) (by decide) (by decide)
    have g0 := hC q (by omega)
    have g1 := hC (q + 1) (by omega)
    have g2 := hC (q + 2) (by omega)
    have g3 := hC (q + 3) (by omega)
    have n0 : (nI q).toNatClampNeg = q := nI_clamp (by omega)
    have n1 : (nI (q + 1)).toNatClampNeg = q + 1 := nI_clamp (by omega)
    have n2 : (nI (q + 2)).toNatClampNeg = q + 2 := nI_clamp (by omega)
    have n3 : (nI (q + 3)).toNatClampNeg = q + 3 := nI_clamp (by omega)
    have y0 : zin (nI q) 90 := zin_nI (by omega) (by decide)
    have y1 : zin (nI (q + 1)) 90 := zin_nI (by omega) (by decide)
    have y2 : zin (nI (q + 2)) 90 := zin_nI (by omega) (by decide)
    have y3 : zin (nI (q + 3)) 90 := zin_nI (by omega) (by decide)
    rw [if_neg (nI_nlt hl (by omega))]
    simp only [if_pos y0, if_pos y1, if_pos y2, if_pos y3, n0, n1, n2, n3, hM.2 q (by omega), hM.2 (q + 1) (by omega), hM.2 (q + 2) (by omega), hM.2 (q + 3) (by omega)]
    by_cases h0 : C q = a
    · rw [if_pos (by rw [h0])]
      by_cases h1 : C (q + 1) = b
      · rw [if_pos (by rw [h1])]
        by_cases h2 : C (q + 2) = c
        · rw [if_pos (by rw [h2])]
          by_cases h3 : C (q + 3) = d
          · rw [if_pos (by rw [h3])]
            by_cases h4 : q + sz < t ∧ 97 ≤ C (q + sz) ∧ C (q + sz) ≤ 122
            · rw [i1 h4, Option.bind_some, if_neg nI_1_0]
              exact ⟨fun g => absurd h4 g.2.2.2.2.2, fun _ => rfl⟩
            · rw [i0 h4, Option.bind_some, if_pos rfl]
              exact ⟨fun _ => rfl, fun g => absurd ⟨hl, h0, h1, h2, h3, h4⟩ g⟩
          · rw [if_neg (fun g => h3 ((nI_eq (by omega) (by omega)).mp g))]
            exact ⟨fun g => absurd g.2.2.2.2.1 h3, fun _ => rfl⟩
        · rw [if_neg (fun g => h2 ((nI_eq (by omega) (by omega)).mp g))]
          exact ⟨fun g => absurd g.2.2.2.1 h2, fun _ => rfl⟩
      · rw [if_neg (fun g => h1 ((nI_eq (by omega) (by omega)).mp g))]
        exact ⟨fun g => absurd g.2.2.1 h1, fun _ => rfl⟩
    · rw [if_neg (fun g => h0 ((nI_eq (by omega) (by omega)).mp g))]
      exact ⟨fun g => absurd g.2.1 h0, fun _ => rfl⟩
  · rw [if_pos (nI_lt (by omega) (by omega))]
    exact ⟨fun g => absurd g.1 hl, fun _ => rfl⟩
def wM (C : Nat → Nat) (x a b c d : Nat) : Prop := C x = a ∧ C (x + 1) = b ∧ C (x + 2) = c ∧ C (x + 3) = d
theorem m_isMore {M : zOb} {C : Nat → Nat} {t x a b c d : Nat} (h90 : t ≤ 90) (hC : ∀ i, i < t → C i ≤ 126) (hM : tpM M C t) (hx : x + 4 ≤ t) (ha : a < 128) (hb : b < 128) (hc : c < 128) (hd : d < 128) : (wM C x a b c d → f_Mo_isMore M (nI x) (nI a) (nI b) (nI c) (nI d) = some (nI 1)) ∧ (¬ wM C x a b c d → f_Mo_isMore M (nI x) (nI a) (nI b) (nI c) (nI d) = some (nI 0)) := by
  have e0 : f_Mo_isMore_52 M = some (nI 0) := by unfold f_Mo_isMore_52 f_Mo_isMore_53; exact if_pos (Or.inl rfl)
  have e1 : f_Mo_isMore_53 M (nI 1) = some (nI 1) := by unfold f_Mo_isMore_53; exact if_pos (Or.inr rfl)
  have g0 := hC x (by omega)
  have g1 := hC (x + 1) (by omega)
  have g2 := hC (x + 2) (by omega)
  have g3 := hC (x + 3) (by omega)
  have n0 : (nI x).toNatClampNeg = x := nI_clamp (by omega)
  have n1 : (nI (x + 1)).toNatClampNeg = x + 1 := nI_clamp (by omega)
  have n2 : (nI (x + 2)).toNatClampNeg = x + 2 := nI_clamp (by omega)
  have n3 : (nI (x + 3)).toNatClampNeg = x + 3 := nI_clamp (by omega)
  have y0 : zin (nI x) 90 := zin_nI (by omega) (by decide)
  have y1 : zin (nI (x + 1)) 90 := zin_nI (by omega) (by decide)
  have y2 : zin (nI (x + 2)) 90 := zin_nI (by omega) (by decide)
  have y3 : zin (nI (x + 3)) 90 := zin_nI (by omega) (by decide)
  unfold f_Mo_isMore
  rw [e0, e1]
  simp only [nI_add, if_pos y0, if_pos y1, if_pos y2, if_pos y3, n0, n1, n2, n3, hM.2 x (by omega), hM.2 (x + 1) (by omega), hM.2 (x + 2) (by omega), hM.2 (x + 3) (by omega)]
  by_cases h0 : C x = a
  · rw [if_pos (by rw [h0])]
    by_cases h1 : C (x + 1) = b
    · rw [if_pos (by rw [h1])]
      by_cases h2 : C (x + 2) = c
      · rw [if_pos (by rw [h2])]
        by_cases h3 : C (x + 3) = d
        · rw [if_pos (by rw [h3])]
          exact ⟨fun _ => rfl, fun g => absurd ⟨h0, h1, h2, h3⟩ g⟩
        · rw [if_neg (fun g => h3 ((nI_eq (by omega) (by omega)).mp g))]
          exact ⟨fun g => absurd g.2.2.2 h3, fun _ => rfl⟩
      · rw [if_neg (fun g => h2 ((nI_eq (by omega) (by omega)).mp g))]
        exact ⟨fun g => absurd g.2.2.1 h2, fun _ => rfl⟩
    · rw [if_neg (fun g => h1 ((nI_eq (by omega) (by omega)).mp g))]
      exact ⟨fun g => absurd g.2.1 h1, fun _ => rfl⟩
  · rw [if_neg (fun g => h0 ((nI_eq (by omega) (by omega)).mp g))]
    exact ⟨fun g => absurd g.1 h0, fun _ => rfl⟩
theorem mR_0 {C : Nat → Nat} {t q : Nat} : mR C t q 0 ↔ wW C t q 6 115 116 101 97 ∧ C (q + 4) = 100 ∧ C (q + 5) = 121 := by
  constructor
  · rintro ⟨h1, h2, h3⟩
    exact ⟨⟨h1, h2 0 (by decide), h2 1 (by decide), h2 2 (by decide), h2 3 (by decide), h3⟩, h2 4 (by decide), h2 5 (by decide)⟩
  · rintro ⟨⟨h1, a0, a1, a2, a3, h3⟩, a4, a5⟩
    refine ⟨h1, fun j hj => ?_, h3⟩
    match j, hj with
    | 0, _ => exact a0
    | 1, _ => exact a1
    | 2, _ => exact a2
    | 3, _ => exact a3
    | 4, _ => exact a4
    | 5, _ => exact a5
    | j + 6, h => exact absurd h (by omega)
theorem mR_1 {C : Nat → Nat} {t q : Nat} : mR C t q 1 ↔ wW C t q 7 103 114 111 119 ∧ wM C (q + 3) 119 105 110 103 := by
  constructor
  · rintro ⟨h1, h2, h3⟩
    exact ⟨⟨h1, h2 0 (by decide), h2 1 (by decide), h2 2 (by decide), h2 3 (by decide), h3⟩, h2 3 (by decide), h2 4 (by decide), h2 5 (by decide), h2 6 (by decide)⟩
  · rintro ⟨⟨h1, a0, a1, a2, a3, h3⟩, b3, a4, a5, a6⟩
    refine ⟨h1, fun j hj => ?_, h3⟩
    match j, hj with
    | 0, _ => exact a0
    | 1, _ => exact a1
    | 2, _ => exact a2
    | 3, _ => exact a3
    | 4, _ => exact a4
    | 5, _ => exact a5
    | 6, _ => exact a6
    | j + 7, h => exact absurd h (by omega)
theorem mR_2 {C : Nat → Nat} {t q : Nat} : mR C t q 2 ↔ wW C t q 8 100 111 117 98 ∧ wM C (q + 4) 108 105 110 103 := by
  constructor
  · rintro ⟨h1, h2, h3⟩
    exact ⟨⟨h1, h2 0 (by decide), h2 1 (by decide), h2 2 (by decide), h2 3 (by decide), h3⟩, h2 4 (by decide), h2 5 (by decide), h2 6 (by decide), h2 7 (by decide)⟩
  · rintro ⟨⟨h1, a0, a1, a2, a3, h3⟩, a4, a5, a6, a7⟩
    refine ⟨h1, fun j hj => ?_, h3⟩
    match j, hj with
    | 0, _ => exact a0
    | 1, _ => exact a1
    | 2, _ => exact a2
    | 3, _ => exact a3
    | 4, _ => exact a4
    | 5, _ => exact a5
    | 6, _ => exact a6
    | 7, _ => exact a7
    | j + 8, h => exact absurd h (by omega)
theorem m_rule {N t q : Nat} {M M1 : zOb} {C : Nat → Nat} {v : Int32} (h90 : t ≤ 90) (hC : ∀ i, i < t → C i ≤ 126) (eh : f_Mo_here N M = some (v, M1)) (hM : tpM M1 C t) (h25 : M1.1 0 25 = nI q) (hq : q ≤ t) : (mR C t q 0 → f_Mo_rule N M = some (nI 0, M1)) ∧ (¬ mR C t q 0 → mR C t q 1 → f_Mo_rule N M = some (nI 1, M1)) ∧ (¬ mR C t q 0 → ¬ mR C t q 1 → mR C t q 2 → f_Mo_rule N M = some (nI 2, M1)) ∧ (¬ mR C t q 0 → ¬ mR C t q 1 → ¬ mR C t q 2 → f_Mo_rule N M = some (-4, M1)) := by
  obtain ⟨s1, s0⟩ := m_isWord (sz := 6) (a := 115) (b := 116) (c := 101) (d := 97) h90 hC hM h25 hq (by decide) (by decide) (by decide) (by decide) (by decide)
  obtain ⟨g1, g0⟩ := m_isWord (sz := 7) (a := 103) (b := 114) (c := 111) (d := 119) h90 hC hM h25 hq (by decide) (by decide) (by decide) (by decide) (by decide)
  obtain ⟨d1, d0⟩ := m_isWord (sz := 8) (a := 100) (b := 111) (c := 117) (d := 98) h90 hC hM h25 hq (by decide) (by decide) (by decide) (by decide) (by decide)
  have p96 : (mR C t q 2 → f_Mo_rule_96 N M1 = some (nI 2, M1)) ∧ (¬ mR C t q 2 → f_Mo_rule_96 N M1 = some (-4, M1)) := by
    unfold f_Mo_rule_96 f_Mo_rule_138 f_Mo_rule_140
    rw [h25, nI_add, mR_2]
    by_cases hwd : wW C t q 8 100 111 117 98
    · obtain ⟨m1, m0⟩ := m_isMore (x := q + 4) (a := 108) (b := 105) (c := 110) (d := 103) h90 hC hM (by have := hwd.1; omega) (by decide) (by decide) (by decide) (by decide)
      rw [d1 hwd, Option.bind_some, if_neg nI_1_0]
      by_cases hm : wM C (q + 4) 108 105 110 103
      · rw [m1 hm, Option.bind_some, if_neg nI_1_0]
        exact ⟨fun _ => rfl, fun g => absurd ⟨hwd, hm⟩ g⟩
      · rw [m0 hm, Option.bind_some, if_pos rfl]
        exact ⟨fun g => absurd g.2 hm, fun _ => rfl⟩
    · rw [d0 hwd, Option.bind_some, if_pos rfl]
      exact ⟨fun g => absurd g.1 hwd, fun _ => rfl⟩
  have p56 : (mR C t q 1 → f_Mo_rule_56 N M1 = some (nI 1, M1)) ∧ (¬ mR C t q 1 → f_Mo_rule_56 N M1 = f_Mo_rule_96 N M1) := by
    unfold f_Mo_rule_56
    rw [h25, nI_add, mR_1]
    by_cases hwd : wW C t q 7 103 114 111 119
    · obtain ⟨m1, m0⟩ := m_isMore (x := q + 3) (a := 119) (b := 105) (c := 110) (d := 103) h90 hC hM (by have := hwd.1; omega) (by decide) (by decide) (by decide) (by decide)
      rw [g1 hwd, Option.bind_some, if_neg nI_1_0]
      by_cases hm : wM C (q + 3) 119 105 110 103
      · rw [m1 hm, Option.bind_some, if_neg nI_1_0]
        exact ⟨fun _ => rfl, fun g => absurd ⟨hwd, hm⟩ g⟩
      · rw [m0 hm, Option.bind_some, if_pos rfl]
        exact ⟨fun g => absurd g.2 hm, fun _ => rfl⟩
    · rw [g0 hwd, Option.bind_some, if_pos rfl]
      exact ⟨fun g => absurd g.1 hwd, fun _ => rfl⟩
  have p0 : (mR C t q 0 → f_Mo_rule N M = some (nI 0, M1)) ∧ (¬ mR C t q 0 → f_Mo_rule N M = f_Mo_rule_56 N M1) := by
    unfold f_Mo_rule
    rw [eh, Option.bind_some]
    dsimp only
    rw [h25, nI_add, nI_add, mR_0]
    by_cases hwd : wW C t q 6 115 116 101 97
    · have hl := hwd.1
      have c4 := hC (q + 4) (by omega)
      have c5 := hC (q + 5) (by omega)
      have n4 : (nI (q + 4)).toNatClampNeg = q + 4 := nI_clamp (by omega)
      have n5 : (nI (q + 5)).toNatClampNeg = q + 5 := nI_clamp (by omega)
      rw [s1 hwd, Option.bind_some, if_neg nI_1_0, if_pos (zin_nI (by omega) (by decide)), n4, hM.2 (q + 4) (by omega)]
      by_cases h4 : C (q + 4) = 100
      · rw [if_pos (by rw [h4]), if_pos (zin_nI (by omega) (by decide)), n5, hM.2 (q + 5) (by omega)]
        by_cases h5 : C (q + 5) = 121
        · rw [if_pos (by rw [h5])]
          exact ⟨fun _ => rfl, fun g => absurd ⟨hwd, h4, h5⟩ g⟩
        · rw [if_neg (fun g => h5 ((nI_eq (by omega) (by decide)).mp g))]
          exact ⟨fun g => absurd g.2.2 h5, fun _ => rfl⟩
      · rw [if_neg (fun g => h4 ((nI_eq (by omega) (by decide)).mp g))]
        exact ⟨fun g => absurd g.2.1 h4, fun _ => rfl⟩
    · rw [s0 hwd, Option.bind_some, if_pos rfl]
      exact ⟨fun g => absurd g.1 hwd, fun _ => rfl⟩
  refine ⟨p0.1, fun h0 h1 => ?_, fun h0 h1 h2 => ?_, fun h0 h1 h2 => ?_⟩
  · rw [p0.2 h0]; exact p56.1 h1
  · rw [p0.2 h0, p56.2 h1]; exact p96.1 h2
  · rw [p0.2 h0, p56.2 h1]; exact p96.2 h2
/-- the rule, on both sides -/
theorem j_rule {N t q : Nat} (hN : 200 ≤ N) {μ : zM} {C : Nat → Nat} {Q S M : zOb} (h : tp2 (μ 19) M C t) (hp : PQ t q Q M) : ∃ Q' M', kM1 M M' ∧ ((∃ r, r < 3 ∧ f_Pa_takesRule N (pC μ Q S) = some (nI 1, pC μ Q' (zI S 0 7 (nI r))) ∧ f_Mo_rule N M = some (nI r, M') ∧ Q'.1 0 2 = nI (nb C t q + (6 + r)) ∧ M'.1 0 25 = nI (nb C t q) ∧ nb C t q + (6 + r) ≤ t) ∨ (f_Pa_takesRule N (pC μ Q S) = some (nI 0, pC μ Q' S) ∧ f_Mo_rule N M = some (-4, M') ∧ PQ t (nb C t q) Q' M')) := by
  obtain ⟨Q1, M1, e1, e2, hp1, k1⟩ := j_next (S := S) hN h hp
  have h90 := h.1.1
  have hC : ∀ i, i < t → C i ≤ 126 := fun i hi => (h.1.2.2 i hi).1.2
  obtain ⟨n1, n2, -⟩ := nb_p (C := C) hp.2.2
  generalize hst : nb C t q = st at hp1 n1 n2
  obtain ⟨Q2, e3, hQ2⟩ := p_run (N := N) (st := st) h.1 S (t - st) st Q1 N (by omega) (by omega) hp1.1
  obtain ⟨l1, l2, -, -⟩ := lzF_p C (t - st) st
  obtain ⟨r1, r0⟩ := p_71 (S := S) (st := st) hN h.1 hQ2 l1 (by omega)
  obtain ⟨u0, u1, u2, u3⟩ := m_rule h90 hC e2 (k1.tp h.2) hp1.2.1 n2
  have run : f_Pa_takesRule N (pC μ Q S) = f_Pa_takesRule_69 N (pC μ Q2 S) (nI st) := by
    unfold f_Pa_takesRule
    rw [e1, Option.bind_some]
    dsimp only [bnd]
    rw [pC_20, hp1.1]
    exact e3
  have ok : ∀ r, r < 3 → mR C t st r → (∀ r', r' < r → ¬ mR C t st r') → f_Mo_rule N M = some (nI r, M1) → ∃ Q' M', kM1 M M' ∧ ((∃ r, r < 3 ∧ f_Pa_takesRule N (pC μ Q S) = some (nI 1, pC μ Q' (zI S 0 7 (nI r))) ∧ f_Mo_rule N M = some (nI r, M') ∧ Q'.1 0 2 = nI (st + (6 + r)) ∧ M'.1 0 25 = nI st ∧ st + (6 + r) ≤ t) ∨ (f_Pa_takesRule N (pC μ Q S) = some (nI 0, pC μ Q' S) ∧ f_Mo_rule N M = some (-4, M') ∧ PQ t st Q' M')) := by
    intro r hr hm hn em
    have hk := (mKR hr n2).mpr hm
    refine ⟨Q2, M1, k1, Or.inl ⟨r, hr, ?_, em, ?_, hp1.2.1, hm.1⟩⟩
    · rw [run]
      exact r1 r hr hk (fun r' hr' g => hn r' hr' ((mKR (by omega) n2).mp g))
    · rw [hQ2]
      have := hk.1
      congr 1
      omega
  by_cases h0 : mR C t st 0
  · exact ok 0 (by decide) h0 (fun r' hr' => absurd hr' (by omega)) (u0 h0)
  · by_cases h1 : mR C t st 1
    · refine ok 1 (by decide) h1 (fun r' hr' => ?_) (u1 h0 h1)
      have : r' = 0 := by omega
      subst this
      exact h0
    · by_cases h2 : mR C t st 2
      · refine ok 2 (by decide) h2 (fun r' hr' => ?_) (u2 h0 h1 h2)
        rcases (show r' = 0 ∨ r' = 1 by omega) with e | e
        · subst e; exact h0
        · subst e; exact h1
      · refine ⟨zI Q2 0 2 (nI st), M1, k1, Or.inr ⟨?_, u3 h0 h1 h2, ⟨rfl, hp1.2.1, n2⟩⟩⟩
        rw [run]
        refine r0 (fun r hr g => ?_)
        have g' := (mKR hr n2).mp g
        rcases (show r = 0 ∨ r = 1 ∨ r = 2 by omega) with e | e | e
        · subst e; exact h0 g'
        · subst e; exact h1 g'
        · subst e; exact h2 g'
