/-! THE RELATION OF THE WHOLE MEMORY (μ below 29) AND THE REFERENCE (M) -/
def tapeOK (L M : zOb) : Prop := ∃ t, t ≤ 90 ∧ L.1 0 1 = nI t ∧ M.1 0 7 = nI t ∧ ∀ i, i < t → ∃ c, 32 ≤ c ∧ c ≤ 126 ∧ L.1 1 i = nI c ∧ M.1 7 i = nI c
def shOK (Sh M : zOb) (k : Nat) : Prop := (Sh.1 0 1 = -1 ∧ M.1 9 k = -1) ∨ ∃ ln sz, ln < 4 ∧ sz ≤ 24 ∧ Sh.1 0 1 = nI ln ∧ M.1 9 k = nI ln ∧ Sh.1 0 2 = nI sz ∧ M.1 10 k = nI sz ∧ ∀ i, i < 24 → Sh.2.1 1 i = M.2.1 11 (24 * k + i)
def rdOK (R : zOb) : Prop := R.1 2 0 = nI 0 ∧ R.1 3 0 = nI 0 ∧ R.1 4 0 = nI 0 ∧ ∀ q, q < 7 → R.1 10 q = nI 0
def imgOK (μ : zM) (M : zOb) : Prop := permOK μ 17 10 ∧ (((μ 28).1 0 5 = nI 0 ∧ M.1 0 5 = -1) ∨ ((μ 28).1 0 5 = nI 1 ∧ ∃ a k, wfA a ∧ repS (μ 2) a ∧ repM (M.1 4) a ∧ pastOK μ 17 10 k (M.1 5) ∧ M.1 0 5 = nI k))
def nowOK (μ : zM) (M : zOb) : Prop := ∃ a, wfA a ∧ repS (μ 0) a ∧ repM (M.1 1) a
def zJ (μ : zM) (M : zOb) : Prop := (∃ k, pastOK μ 16 4 k (M.1 2) ∧ M.1 0 2 = nI k) ∧ imgOK μ M ∧ tapeOK (μ 19) M ∧ (∀ k, k < 4 → shOK (μ (24 + k)) M k) ∧ rdOK (μ 21) ∧ rdOK (μ 22)
def zInv (μ : zM) : Prop := nowOK μ (μ 29) ∧ zJ μ (μ 29)
theorem permOK_congr {μ μ' : zM} {o lo : Nat} (e : μ' o = μ o) (h : permOK μ o lo) : permOK μ' o lo := by
  unfold permOK
  rw [e]
  exact h
theorem pastOK_congr {μ μ' : zM} {o lo k : Nat} {r : Nat → Int32} (e : μ' o = μ o) (e2 : ∀ x, lo ≤ x → x < lo + 6 → μ' x = μ x) (h : pastOK μ o lo k r) : pastOK μ' o lo k r := by
  obtain ⟨h1, h2, h3, h4⟩ := h
  refine ⟨permOK_congr e h1, h2, by rw [e]; exact h3, fun i hi => ?_⟩
  obtain ⟨a, q1, q2, q3⟩ := h4 i hi
  have hp := h1.1 i (by omega)
  exact ⟨a, q1, by rw [e, e2 _ hp.1 hp.2]; exact q2, q3⟩
/-- what of the reference the relation speaks of, but its row now -/
def keepM (M M' : zOb) : Prop := (M'.1 2 = M.1 2 ∧ M'.1 4 = M.1 4 ∧ M'.1 5 = M.1 5 ∧ M'.1 7 = M.1 7 ∧ M'.1 9 = M.1 9 ∧ M'.1 10 = M.1 10 ∧ M'.1 25 = M.1 25) ∧ (M'.1 0 2 = M.1 0 2 ∧ M'.1 0 5 = M.1 0 5 ∧ M'.1 0 7 = M.1 0 7) ∧ M'.2 = M.2
theorem keepM.rf (M : zOb) : keepM M M := ⟨⟨rfl, rfl, rfl, rfl, rfl, rfl, rfl⟩, ⟨rfl, rfl, rfl⟩, rfl⟩
theorem keepM.tr {M M' M2 : zOb} (h : keepM M M') (g : keepM M' M2) : keepM M M2 := by
  obtain ⟨⟨a1, a2, a3, a4, a5, a6, a7⟩, ⟨b1, b2, b3⟩, c⟩ := h
  obtain ⟨⟨a1', a2', a3', a4', a5', a6', a7'⟩, ⟨b1', b2', b3'⟩, c'⟩ := g
  exact ⟨⟨a1'.trans a1, a2'.trans a2, a3'.trans a3, a4'.trans a4, a5'.trans a5, a6'.trans a6, a7'.trans a7⟩, ⟨b1'.trans b1, b2'.trans b2, b3'.trans b3⟩, c'.trans c⟩
/-- a row that the relation doesn't speak of -/
theorem keepM.row (M : zOb) {j : Nat} (hj : j ≠ 0 ∧ j ≠ 2 ∧ j ≠ 4 ∧ j ≠ 5 ∧ j ≠ 7 ∧ j ≠ 9 ∧ j ≠ 10 ∧ j ≠ 25) (f : Nat → Int32) : keepM M (zIr M j f) := by
  obtain ⟨h0, h2, h4, h5, h7, h9, h10, h25⟩ := hj
  refine ⟨⟨if_neg (Ne.symm h2), if_neg (Ne.symm h4), if_neg (Ne.symm h5), if_neg (Ne.symm h7), if_neg (Ne.symm h9), if_neg (Ne.symm h10), if_neg (Ne.symm h25)⟩, ⟨?_, ?_, ?_⟩, rfl⟩
  all_goals (rw [zIr_at, if_neg (Ne.symm h0)])
theorem keepM.fld (M : zOb) {k : Nat} (hk : k ≠ 2 ∧ k ≠ 5 ∧ k ≠ 7) (x : Int32) : keepM M (zI M 0 k x) := by
  refine ⟨⟨rfl, rfl, rfl, rfl, rfl, rfl, rfl⟩, ⟨?_, ?_, ?_⟩, rfl⟩
  · exact if_neg (Ne.symm hk.1)
  · exact if_neg (Ne.symm hk.2.1)
  · exact if_neg (Ne.symm hk.2.2)
theorem imgOK_keep {μ μ' : zM} {M M' : zOb} (e : ∀ x, x = 2 ∨ (10 ≤ x ∧ x < 16) ∨ x = 17 ∨ x = 28 → μ' x = μ x) (k4 : M'.1 4 = M.1 4) (k5 : M'.1 5 = M.1 5) (k0 : M'.1 0 5 = M.1 0 5) (h : imgOK μ M) : imgOK μ' M' := by
  obtain ⟨hp, h⟩ := h
  refine ⟨permOK_congr (e 17 (by omega)) hp, ?_⟩
  rcases h with ⟨h1, h2⟩ | ⟨h1, a, k, q1, q2, q3, q4, q5⟩
  · exact Or.inl ⟨by rw [e 28 (by omega)]; exact h1, by rw [k0]; exact h2⟩
  · exact Or.inr ⟨by rw [e 28 (by omega)]; exact h1, a, k, q1, by rw [e 2 (by omega)]; exact q2, by rw [k4]; exact q3, by rw [k5]; exact pastOK_congr (e 17 (by omega)) (fun x h1 h2 => e x (by omega)) q4, by rw [k0]; exact q5⟩
theorem tapeOK_keep {L M M' : zOb} (k7 : M'.1 7 = M.1 7) (k0 : M'.1 0 7 = M.1 0 7) (h : tapeOK L M) : tapeOK L M' := by
  obtain ⟨t, h1, h2, h3, h4⟩ := h
  exact ⟨t, h1, h2, by rw [k0]; exact h3, fun i hi => by rw [k7]; exact h4 i hi⟩
theorem shOK_keep {Sh M M' : zOb} {k : Nat} (k9 : M'.1 9 = M.1 9) (k10 : M'.1 10 = M.1 10) (k2 : M'.2 = M.2) (h : shOK Sh M k) : shOK Sh M' k := by
  unfold shOK
  rw [k9, k10, k2]
  exact h
/-- what isn't touched stays -/
theorem zJ_keep {μ μ' : zM} {M M' : zOb} (e : ∀ x, (2 ≤ x ∧ x ≠ 3 ∧ x ≠ 18 ∧ x ≠ 20 ∧ x < 29 ∧ x ≠ 21 ∧ x ≠ 22 ∧ x ≠ 23) → μ' x = μ x) (r1 : rdOK (μ' 21)) (r2 : rdOK (μ' 22)) (hk : keepM M M') (h : zJ μ M) : zJ μ' M' := by
  obtain ⟨⟨k2, k4, k5, k7, k9, k10, k25⟩, ⟨f2, f5, f7⟩, kl⟩ := hk
  obtain ⟨⟨k, hp, hk⟩, hi, ht, hs, -, -⟩ := h
  refine ⟨⟨k, ?_, by rw [f2]; exact hk⟩, imgOK_keep (fun x hx => e x (by omega)) k4 k5 f5 hi, ?_, ?_, r1, r2⟩
  · rw [k2]
    exact pastOK_congr (e 16 (by omega)) (fun x h1 h2 => e x (by omega)) hp
  · rw [e 19 (by omega)]
    exact tapeOK_keep k7 f7 ht
  · intro k hk
    rw [e (24 + k) (by omega)]
    exact shOK_keep k9 k10 kl (hs k hk)
theorem zInv_of {μ : zM} {M : zOb} (h1 : nowOK μ M) (h2 : zJ μ M) : zInv (zset μ 29 M) := by
  unfold zInv
  rw [zset_s]
  refine ⟨?_, zJ_keep (fun x hx => zset_n _ _ (by omega)) ?_ ?_ (keepM.rf M) h2⟩
  · obtain ⟨a, q1, q2, q3⟩ := h1
    exact ⟨a, q1, by rw [zset_n _ _ (by decide)]; exact q2, q3⟩
  · rw [zset_n _ _ (by decide)]; exact h2.2.2.2.2.1
  · rw [zset_n _ _ (by decide)]; exact h2.2.2.2.2.2
/-- an act is remembered, unless it is refused -/
theorem s_rem {N : Nat} (hN : 200 ≤ N) {μ : zM} {M : zOb} {a : aS} (r : Int32) (hw : wfA a) (h1 : repS (μ 1) a) (h25 : repM (M.1 25) a) (hn : nowOK μ M) (hJ : zJ μ M) : ∃ μ' S2, f_RS_remembered N μ r = some (r, μ') ∧ f_Mo_acted N M r = some (r, S2) ∧ zInv (zset μ' 29 S2) ∧ μ' 29 = μ 29 := by
  by_cases hr : r < nI 0
  · refine ⟨μ, M, ?_, ?_, zInv_of hn hJ, rfl⟩
    · unfold f_RS_remembered f_RS_remembered_15
      rw [if_pos hr]
    · unfold f_Mo_acted f_Mo_acted_8
      rw [if_pos hr]
  · obtain ⟨⟨k, hp, hk⟩, hi, ht, hs, r1, r2⟩ := hJ
    obtain ⟨μ', rr, k', e1, e2, e3, e4⟩ := s_keep (o2 := 1) hN (by decide) (Or.inl rfl) (by decide) hp hk hw h1 h25
    refine ⟨μ', zIr (zIr M 2 rr) 0 (upd (M.1 0) 2 (nI k')), ?_, ?_, zInv_of ?_ ?_, e4 29 (by decide) (by decide)⟩
    · unfold f_RS_remembered f_RS_remembered_15
      rw [if_neg hr, e1]
      rfl
    · unfold f_Mo_acted f_Mo_acted_8
      rw [if_neg hr, e2]
      rfl
    · obtain ⟨b, q1, q2, q3⟩ := hn
      exact ⟨b, q1, by rw [e4 0 (by decide) (by decide)]; exact q2, q3⟩
    · refine ⟨⟨k', e3, rfl⟩, imgOK_keep (fun x hx => e4 x (by omega) (by omega)) rfl rfl rfl hi, ?_, ?_, ?_, ?_⟩
      · rw [e4 19 (by decide) (by decide)]
        exact tapeOK_keep rfl rfl ht
      · intro k hk
        rw [e4 (24 + k) (by omega) (by omega)]
        exact shOK_keep rfl rfl rfl (hs k hk)
      · rw [e4 21 (by decide) (by decide)]; exact r1
      · rw [e4 22 (by decide) (by decide)]; exact r2
/-- an act on the state that is now -/
def actOK (cf mf : zOb → Option (Int32 × zOb)) : Prop := ∀ (S M : zOb) (a : aS), wfA a → repS S a → repM (M.1 1) a → ∃ r S' f' a', cf S = some (r, S') ∧ mf M = some (r, zIr M 1 f') ∧ wfA a' ∧ repS S' a' ∧ repM f' a'
theorem act_sim {N : Nat} (hN : 200 ≤ N) {cf mf : zOb → Option (Int32 × zOb)} (ho : actOK cf mf) {μ : zM} (h : zInv μ) : ∃ (r : Int32) (μ1 : zM) (S2 : zOb), (f_St_takeFrom (μ 1) (μ 0)).bind (fun q1 => bnd (zset μ 1 q1) (fun μ2 => (cf (μ2 0)).bind (fun q3 => bnd (zset μ2 0 q3.2) (fun μ4 => (f_RS_remembered N μ4 q3.1).bind (fun q5 => some (q5.1, q5.2)))))) = some (r, μ1) ∧ (f_Mo_holds N (μ1 29)).bind (fun q1 => (mf q1).bind (fun q2 => (f_Mo_acted N q2.2 q2.1).bind (fun q3 => some (q3.1, q3.2)))) = some (r, S2) ∧ zInv (zset μ1 29 S2) := by
  obtain ⟨⟨a, hw, hS, hM⟩, hJ⟩ := h
  obtain ⟨T, eT, hT⟩ := s_takeFrom_rep (S := μ 1) hw hS
  obtain ⟨f, eh, hf⟩ := s_holds hN (μ 29)
  have hM' : repM ((zIr (μ 29) 25 f).1 1) a := hM
  obtain ⟨r, S', f', a', e1, e2, w', q1, q2⟩ := ho (μ 0) (zIr (μ 29) 25 f) a hw hS hM'
  have hJ2 : zJ (zset (zset μ 1 T) 0 S') (zIr (zIr (μ 29) 25 f) 1 f') := by
    have e : ∀ x, 2 ≤ x → zset (zset μ 1 T) 0 S' x = μ x := fun x hx => by rw [zset_n _ _ (by omega), zset_n _ _ (by omega)]
    obtain ⟨⟨k, hp, hk⟩, hi, ht, hs, r1, r2⟩ := hJ
    refine ⟨⟨k, pastOK_congr (e 16 (by decide)) (fun x h1 h2 => e x (by omega)) hp, hk⟩, imgOK_keep (fun x hx => e x (by omega)) rfl rfl rfl hi, ?_, ?_, ?_, ?_⟩
    · rw [e 19 (by decide)]; exact tapeOK_keep rfl rfl ht
    · intro k hk
      rw [e (24 + k) (by omega)]
      exact shOK_keep rfl rfl rfl (hs k hk)
    · rw [e 21 (by decide)]; exact r1
    · rw [e 22 (by decide)]; exact r2
  obtain ⟨μ', S2, g1, g2, g3, g4⟩ := s_rem (N := N) hN (μ := zset (zset μ 1 T) 0 S') (M := zIr (zIr (μ 29) 25 f) 1 f') (a := a) r hw (by rw [zset_n _ _ (by decide), zset_s]; exact hT) (repM_congr hw hM (fun j hj => hf j hj)) ⟨a', w', by rw [zset_s]; exact q1, q2⟩ hJ2
  have g5 : μ' 29 = μ 29 := by rw [g4, zset_n _ _ (by decide), zset_n _ _ (by decide)]
  refine ⟨r, μ', S2, ?_, ?_, g3⟩
  · rw [eT]
    simp only [bnd, Option.bind_some]
    rw [zset_n _ _ (by decide), e1]
    simp only [Option.bind_some]
    rw [g1]
    rfl
  · rw [g5, eh]
    simp only [Option.bind_some]
    rw [e2]
    simp only [Option.bind_some]
    rw [g2]
    rfl
