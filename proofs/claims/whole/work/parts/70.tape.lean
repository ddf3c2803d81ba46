/-! THE TAPE read by both: places, blanks, signs, figures -/
def nbF (C : Nat → Nat) : Nat → Nat → Nat
  | 0, q => q
  | k + 1, q => if C q = 32 then nbF C k (q + 1) else q
def nb (C : Nat → Nat) (t q : Nat) : Nat := nbF C (t - q) q
def chq (C : Nat → Nat) (t q : Nat) : Nat := if q < t then C q else 0
theorem nbF_p (C : Nat → Nat) : ∀ k q, q ≤ nbF C k q ∧ nbF C k q ≤ q + k ∧ (nbF C k q < q + k → C (nbF C k q) ≠ 32) := by
  intro k
  induction k with
  | zero => intro q; exact ⟨Nat.le_refl _, Nat.le_refl _, fun h => absurd h (by show ¬ q < q + 0; omega)⟩
  | succ k ih =>
    intro q
    unfold nbF
    by_cases h : C q = 32
    · rw [if_pos h]
      obtain ⟨h1, h2, h3⟩ := ih (q + 1)
      exact ⟨by omega, by omega, fun g => h3 (by omega)⟩
    · rw [if_neg h]
      exact ⟨Nat.le_refl _, by omega, fun _ => h⟩
theorem nb_p {C : Nat → Nat} {t q : Nat} (h : q ≤ t) : q ≤ nb C t q ∧ nb C t q ≤ t ∧ (nb C t q < t → C (nb C t q) ≠ 32) := by
  obtain ⟨h1, h2, h3⟩ := nbF_p C (t - q) q
  exact ⟨h1, by unfold nb; omega, fun g => h3 (by unfold nb at g; omega)⟩
theorem nb_id {C : Nat → Nat} {t q : Nat} (h : q < t → C q ≠ 32) : nb C t q = q := by
  unfold nb
  by_cases hq : q < t
  · obtain ⟨k, hk⟩ : ∃ k, t - q = k + 1 := ⟨t - q - 1, by omega⟩
    rw [hk]
    unfold nbF
    rw [if_neg (h hq)]
  · rw [show t - q = 0 by omega]
    rfl
theorem nb_nb {C : Nat → Nat} {t q : Nat} (h : q ≤ t) : nb C t (nb C t q) = nb C t q := nb_id (nb_p h).2.2
def tpC (L : zOb) (C : Nat → Nat) (t : Nat) : Prop := t ≤ 90 ∧ L.1 0 1 = nI t ∧ ∀ i, i < t → (32 ≤ C i ∧ C i ≤ 126) ∧ L.1 1 i = nI (C i)
def tpM (M : zOb) (C : Nat → Nat) (t : Nat) : Prop := M.1 0 7 = nI t ∧ ∀ i, i < t → M.1 7 i = nI (C i)
theorem chq_lt {L : zOb} {C : Nat → Nat} {t : Nat} (h : tpC L C t) (q : Nat) : chq C t q ≤ 126 := by
  unfold chq
  split
  · next hq => exact (h.2.2 q hq).1.2
  · omega
theorem chq_in {C : Nat → Nat} {t q : Nat} (hq : q < t) : chq C t q = C q := if_pos hq
theorem chq_out {C : Nat → Nat} {t q : Nat} (hq : t ≤ q) : chq C t q = 0 := if_neg (by omega)
theorem s_at {L : zOb} {C : Nat → Nat} {t q : Nat} (h : tpC L C t) (hq : q ≤ 200) : f_Le_at 90 L (nI q) = some (nI (chq C t q)) := by
  have hb := chq_lt h q
  have h90 := h.1
  unfold f_Le_at f_Le_at_21 f_Le_at_22
  rw [if_neg (nI_nlt (Nat.zero_le _) (by omega)), h.2.1]
  by_cases hqt : q < t
  · rw [if_neg (nI_ge hqt (by omega)), if_pos (zin_nI (by omega) (by decide)), nI_clamp (by omega), (h.2.2 q hqt).2, chq_in hqt]
    have := (h.2.2 q hqt).1.2
    rw [if_pos ⟨nI_le (Nat.zero_le _) (by omega), nI_lt (by omega) (by decide)⟩]
  · rw [if_pos (nI_le (by omega) (by omega)), if_pos ⟨Int32.le_refl _, by decide⟩, chq_out (by omega)]
def pC (μ : zM) (Q S : zOb) : zM := zset (zset μ 20 Q) 3 S
theorem pC_20 (μ : zM) (Q S : zOb) : pC μ Q S 20 = Q := by unfold pC; rw [zset_n _ _ (by decide), zset_s]
theorem pC_3 (μ : zM) (Q S : zOb) : pC μ Q S 3 = S := by unfold pC; rw [zset_s]
theorem pC_x (μ : zM) (Q S : zOb) {x : Nat} (h : x ≠ 20) (h3 : x ≠ 3) : pC μ Q S x = μ x := by unfold pC; rw [zset_n _ _ h3, zset_n _ _ h]
theorem pC_s20 (μ : zM) (Q S Q' : zOb) : zset (pC μ Q S) 20 Q' = pC μ Q' S := by unfold pC; rw [zset_comm _ _ _ (show (3 : Nat) ≠ 20 by decide), zset_ss]
theorem pC_s3 (μ : zM) (Q S S' : zOb) : zset (pC μ Q S) 3 S' = pC μ Q S' := by unfold pC; rw [zset_ss]
theorem l19 : zlen 19 = 90 := rfl
/-- what the reference's way on the tape leaves as it was -/
def kM1 (M M' : zOb) : Prop := (∀ j, j ≠ 0 → M'.1 j = M.1 j) ∧ (∀ k, k ≠ 25 → M'.1 0 k = M.1 0 k) ∧ M'.2 = M.2
theorem kM1.rf (M : zOb) : kM1 M M := ⟨fun _ _ => rfl, fun _ _ => rfl, rfl⟩
theorem kM1.tr {M M' M2 : zOb} (h : kM1 M M') (g : kM1 M' M2) : kM1 M M2 := ⟨fun j hj => (g.1 j hj).trans (h.1 j hj), fun k hk => (g.2.1 k hk).trans (h.2.1 k hk), g.2.2.trans h.2.2⟩
theorem kM1.fld (M : zOb) (x : Int32) : kM1 M (zI M 0 25 x) := ⟨fun j hj => zI_o _ _ hj, fun k hk => by rw [zI_e, upd_n _ _ hk], rfl⟩
theorem kM1.tp {M M' : zOb} {C : Nat → Nat} {t : Nat} (h : kM1 M M') (g : tpM M C t) : tpM M' C t := ⟨by rw [h.2.1 7 (by decide)]; exact g.1, fun i hi => by rw [h.1 7 (by decide)]; exact g.2 i hi⟩
def PQ (t q : Nat) (Q M : zOb) : Prop := Q.1 0 2 = nI q ∧ M.1 0 25 = nI q ∧ q ≤ t
theorem p_next {N t : Nat} {μ : zM} {C : Nat → Nat} (hL : tpC (μ 19) C t) (S : zOb) : ∀ k q Q nf, q + k = t → k < nf → Q.1 0 2 = nI q → ∃ Q', f_Pa_next_0 N nf (pC μ Q S) = some (nI (chq C t (nbF C k q)), pC μ Q' S) ∧ Q'.1 0 2 = nI (nbF C k q) := by
  have h90 := hL.1
  have z19 : ∀ Q, pC μ Q S 19 = μ 19 := fun Q => pC_x μ Q S (by decide) (by decide)
  have e43 : ∀ q Q, q ≤ t → Q.1 0 2 = nI q → f_Pa_next_43 N (pC μ Q S) = some (nI (chq C t q), pC μ Q S) := by
    intro q Q hq hQ
    have hb := chq_lt hL q
    unfold f_Pa_next_43
    rw [z19, pC_20, hQ, l19, s_at hL (by omega), Option.bind_some, if_pos ⟨nI_le (Nat.zero_le _) (by omega), nI_lt (by omega) (by decide)⟩]
  intro k
  induction k with
  | zero =>
    intro q Q nf hq hf hQ
    obtain ⟨nf, rfl⟩ : ∃ t, nf = t + 1 := ⟨nf - 1, by omega⟩
    refine ⟨Q, ?_, hQ⟩
    rw [f_Pa_next_0, z19, pC_20, hL.2.1, hQ, if_pos (nI_le (by omega) (by omega))]
    exact e43 q Q (by omega) hQ
  | succ k ih =>
    intro q Q nf hq hf hQ
    obtain ⟨nf, rfl⟩ : ∃ t, nf = t + 1 := ⟨nf - 1, by omega⟩
    have hqt : q < t := by omega
    have hc := (hL.2.2 q hqt).1
    rw [f_Pa_next_0, z19, pC_20, hL.2.1, hQ, if_neg (nI_ge hqt (by omega)), l19, s_at hL (by omega), Option.bind_some, chq_in hqt]
    unfold nbF
    by_cases h : C q = 32
    · obtain ⟨Q', e, hQ'⟩ := ih (q + 1) (zI Q 0 2 (nI (q + 1))) nf (by omega) (by omega) rfl
      refine ⟨Q', ?_, by rw [if_pos h]; exact hQ'⟩
      rw [if_pos (by rw [h]), if_pos h]
      dsimp only [bnd]
      rw [nI_add, pC_s20]
      exact e
    · refine ⟨Q, ?_, by rw [if_neg h]; exact hQ⟩
      rw [if_neg (fun g => h ((nI_eq (by omega) (by decide)).mp g)), if_neg h]
      exact e43 q Q (by omega) hQ
theorem r_here {N t : Nat} {C : Nat → Nat} (h90 : t ≤ 90) (hC : ∀ i, i < t → C i ≤ 126) : ∀ k q M nf, q + k = t → k < nf → tpM M C t → M.1 0 25 = nI q → ∃ M', f_Mo_here_0 N nf M = some (nI (chq C t (nbF C k q)), M') ∧ M'.1 0 25 = nI (nbF C k q) ∧ kM1 M M' := by
  have e38 : ∀ q M, q ≤ t → tpM M C t → M.1 0 25 = nI q → f_Mo_here_38 N M = some (nI (chq C t q), M) := by
    intro q M hq hM h25
    unfold f_Mo_here_38 f_Mo_here_62
    rw [hM.1, h25]
    by_cases hqt : q < t
    · rw [if_neg (nI_ge hqt (by omega)), if_pos (zin_nI (by omega) (by decide)), nI_clamp (by omega), hM.2 q hqt, chq_in hqt]
    · rw [if_pos (nI_le (by omega) (by omega)), chq_out (by omega)]
  intro k
  induction k with
  | zero =>
    intro q M nf hq hf hM h25
    obtain ⟨nf, rfl⟩ : ∃ t, nf = t + 1 := ⟨nf - 1, by omega⟩
    refine ⟨M, ?_, h25, kM1.rf M⟩
    rw [f_Mo_here_0, hM.1, h25, if_pos (nI_le (by omega) (by omega))]
    exact e38 q M (by omega) hM h25
  | succ k ih =>
    intro q M nf hq hf hM h25
    obtain ⟨nf, rfl⟩ : ∃ t, nf = t + 1 := ⟨nf - 1, by omega⟩
    have hqt : q < t := by omega
    have hc := hC q hqt
    rw [f_Mo_here_0, hM.1, h25, if_neg (nI_ge hqt (by omega)), if_pos (zin_nI (by omega) (by decide)), nI_clamp (by omega), hM.2 q hqt]
    unfold nbF
    by_cases h : C q = 32
    · obtain ⟨M', e, h', k'⟩ := ih (q + 1) (zI M 0 25 (nI (q + 1))) nf (by omega) (by omega) ((kM1.fld M _).tp hM) rfl
      refine ⟨M', ?_, by rw [if_pos h]; exact h', (kM1.fld M _).tr k'⟩
      rw [if_pos (by rw [h]), if_pos h]
      dsimp only [bnd]
      rw [nI_add]
      exact e
    · refine ⟨M, ?_, by rw [if_neg h]; exact h25, kM1.rf M⟩
      rw [if_neg (fun g => h ((nI_eq (by omega) (by decide)).mp g)), if_neg h]
      exact e38 q M (by omega) hM h25
/-- the tape for both -/
def tp2 (L M : zOb) (C : Nat → Nat) (t : Nat) : Prop := tpC L C t ∧ tpM M C t
theorem j_next {N t q : Nat} (hN : 200 ≤ N) {μ : zM} {C : Nat → Nat} {Q S M : zOb} (h : tp2 (μ 19) M C t) (hp : PQ t q Q M) : ∃ Q' M', f_Pa_next N (pC μ Q S) = some (nI (chq C t (nb C t q)), pC μ Q' S) ∧ f_Mo_here N M = some (nI (chq C t (nb C t q)), M') ∧ PQ t (nb C t q) Q' M' ∧ kM1 M M' := by
  have h90 := h.1.1
  obtain ⟨p1, p2, p3⟩ := hp
  obtain ⟨Q', e1, g1⟩ := p_next (N := N) h.1 S (t - q) q Q N (by omega) (by omega) p1
  obtain ⟨M', e2, g2, g3⟩ := r_here (N := N) h90 (fun i hi => (h.1.2.2 i hi).1.2) (t - q) q M N (by omega) (by omega) h.2 p2
  exact ⟨Q', M', e1, e2, ⟨g1, g2, (nb_p p3).2.1⟩, g3⟩
theorem j_sign {N t q c : Nat} (hN : 200 ≤ N) {μ : zM} {C : Nat → Nat} {Q S M : zOb} (h : tp2 (μ 19) M C t) (hp : PQ t q Q M) (hc : 0 < c) (hc2 : c < 128) : ∃ Q' M', (chq C t (nb C t q) = c ∧ nb C t q < t ∧ f_Pa_takesSign N (pC μ Q S) (nI c) = some (nI 1, pC μ Q' S) ∧ f_Mo_takes N M (nI c) = some (nI 1, M') ∧ PQ t (nb C t q + 1) Q' M' ∧ kM1 M M') ∨ (chq C t (nb C t q) ≠ c ∧ f_Pa_takesSign N (pC μ Q S) (nI c) = some (nI 0, pC μ Q' S) ∧ f_Mo_takes N M (nI c) = some (nI 0, M') ∧ PQ t (nb C t q) Q' M' ∧ kM1 M M') := by
  obtain ⟨Q1, M1, e1, e2, hp1, k1⟩ := j_next (S := S) hN h hp
  have h90 := h.1.1
  have hb := chq_lt h.1 (nb C t q)
  by_cases he : chq C t (nb C t q) = c
  · have hlt : nb C t q < t := by
      refine Nat.lt_of_not_le (fun g => ?_)
      rw [chq_out g] at he
      omega
    refine ⟨zI Q1 0 2 (nI (nb C t q + 1)), zI M1 0 25 (nI (nb C t q + 1)), Or.inl ⟨he, hlt, ?_, ?_, ⟨rfl, rfl, by omega⟩, k1.tr (kM1.fld M1 _)⟩⟩
    · unfold f_Pa_takesSign
      rw [e1, Option.bind_some, if_pos (by rw [he])]
      dsimp only [bnd]
      rw [pC_20, hp1.1, nI_add, pC_s20]
    · unfold f_Mo_takes
      rw [e2, Option.bind_some, if_pos (by rw [he])]
      unfold f_Mo_takes_13 f_Mo_takes_28
      rw [if_neg nI_1_0]
      dsimp only [bnd]
      rw [if_pos (Or.inr rfl), hp1.2.1, nI_add]
  · have hne : ¬ nI (chq C t (nb C t q)) = nI c := fun g => he ((nI_eq (by omega) (by omega)).mp g)
    refine ⟨Q1, zI M1 0 25 (nI (nb C t q)), Or.inr ⟨he, ?_, ?_, ⟨hp1.1, rfl, hp1.2.2⟩, k1.tr (kM1.fld M1 _)⟩⟩
    · unfold f_Pa_takesSign
      rw [e1, Option.bind_some, if_neg hne]
    · unfold f_Mo_takes
      rw [e2, Option.bind_some, if_neg hne]
      unfold f_Mo_takes_13 f_Mo_takes_28
      rw [if_pos rfl]
      dsimp only [bnd]
      rw [if_pos (Or.inl rfl), hp1.2.1, nI_add, Nat.add_zero]
/-- a figure of the class -/
def fgI (c : Nat) : Int32 := if 48 ≤ c ∧ c ≤ 57 then nI (c - 48) else -4
theorem j_fig {N t q : Nat} (hN : 200 ≤ N) {μ : zM} {C : Nat → Nat} {Q S M : zOb} (h : tp2 (μ 19) M C t) (hp : PQ t q Q M) : ∃ Q' M', f_Pa_nextFigure N (pC μ Q S) = some (fgI (chq C t (nb C t q)), pC μ Q' S) ∧ f_Mo_here N M = some (nI (chq C t (nb C t q)), M') ∧ PQ t (nb C t q) Q' M' ∧ kM1 M M' := by
  obtain ⟨Q1, M1, e1, e2, hp1, k1⟩ := j_next (S := S) hN h hp
  have hb := chq_lt h.1 (nb C t q)
  refine ⟨Q1, M1, ?_, e2, hp1, k1⟩
  unfold f_Pa_nextFigure f_Pa_nextFigure_24 f_Pa_nextFigure_26 fgI
  rw [e1, Option.bind_some]
  dsimp only [bnd]
  by_cases h1 : chq C t (nb C t q) < 48
  · rw [if_pos (nI_lt h1 (by decide)), if_neg (by omega)]
  · rw [if_neg (nI_nlt (by omega) (by omega))]
    by_cases h2 : 57 < chq C t (nb C t q)
    · rw [if_pos (nI_lt h2 (by omega)), if_neg (by omega)]
    · rw [if_neg (nI_nlt (by omega) (by decide)), if_pos (by omega), pk_sub (by omega)]
theorem fg_T (c : Nat) (hc : c ≤ 126) {lo hi : Int} (hlo : 0 ≤ lo) (hhi : hi ≤ 9) : (lo ≤ (fgI c).toInt ∧ (fgI c).toInt ≤ hi) ↔ (lo ≤ (c : Int) - 48 ∧ (c : Int) - 48 ≤ hi) := by
  unfold fgI
  by_cases h : 48 ≤ c ∧ c ≤ 57
  · rw [if_pos h, nI_toInt (by omega)]
    omega
  · rw [if_neg h]
    have e : (-4 : Int32).toInt = -4 := by decide
    rw [e]
    omega
theorem c48 {c : Nat} (hc : c ≤ 126) : (nI c - nI 48).toInt = (c : Int) - 48 := pk_sub_toInt (by omega) (by decide)
