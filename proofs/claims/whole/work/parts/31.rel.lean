/-! THE RELATION: what a state is (its ints n, prior, span, bound, rule, draw; sets, followers, order), how the class and the reference hold it -/
abbrev aS : Type := (Nat → Nat) × (Nat → Nat) × (Nat → Nat) × (Nat → Nat)
def repS (S : zOb) (a : aS) : Prop := (∀ k, k < 6 → S.1 0 (3 + k) = nI (a.1 k)) ∧ ∀ i, i < a.1 0 → S.1 1 i = nI (a.2.1 i) ∧ S.1 2 i = nI (a.2.2.1 i) ∧ S.1 3 i = nI (a.2.2.2 i)
def repM (r : Nat → Int32) (a : aS) : Prop := (∀ k, k < 6 → r k = nI (a.1 k)) ∧ ∀ i, i < a.1 0 → r (13 + i) = nI (a.2.1 i) ∧ r (20 + i) = nI (a.2.2.1 i) ∧ r (6 + i) = nI (a.2.2.2 i)
def wfA (a : aS) : Prop := (a.1 0 ≤ 7 ∧ a.1 1 < 2 ^ 20 ∧ (1 ≤ a.1 2 ∧ a.1 2 ≤ 4) ∧ a.1 3 ≤ 20 ∧ a.1 4 ≤ 2 ∧ a.1 5 < 2 ^ 31) ∧ (∀ i, i < a.1 0 → (0 < a.2.1 i ∧ a.2.1 i < 2 ^ 20) ∧ a.2.2.1 i < 2 ^ a.1 0 ∧ a.2.2.2 i < a.1 0) ∧ (∀ i j, i < a.1 0 → j < a.1 0 → a.2.2.2 i = a.2.2.2 j → i = j) ∧ ∃ rk : Nat → Nat, ∀ i j, i < a.1 0 → j < a.1 0 → (a.2.2.1 i).testBit j = true → rk i < rk j
theorem repM_congr {r r' : Nat → Int32} {a : aS} (hw : wfA a) (h : repM r a) (e : ∀ j, j < 27 → r' j = r j) : repM r' a := by
  have h7 := hw.1.1
  exact ⟨fun k hk => (e k (by omega)).trans (h.1 k hk), fun i hi => ⟨(e _ (by omega)).trans (h.2 i hi).1, (e _ (by omega)).trans (h.2 i hi).2.1, (e _ (by omega)).trans (h.2 i hi).2.2⟩⟩
theorem repS_congr {S S' : zOb} {a : aS} (hw : wfA a) (h : repS S a) (e0 : ∀ k, k < 6 → S'.1 0 (3 + k) = S.1 0 (3 + k)) (e : ∀ i, i < 7 → S'.1 1 i = S.1 1 i ∧ S'.1 2 i = S.1 2 i ∧ S'.1 3 i = S.1 3 i) : repS S' a := by
  have h7 := hw.1.1
  exact ⟨fun k hk => (e0 k hk).trans (h.1 k hk), fun i hi => ⟨(e i (by omega)).1.trans (h.2 i hi).1, (e i (by omega)).2.1.trans (h.2 i hi).2.1, (e i (by omega)).2.2.trans (h.2 i hi).2.2⟩⟩
theorem cpy7 (f g : Nat → Int32) {i : Nat} (h : i < 7) : va_cpy f g 0 0 7 i = f i := sb_cpy0 h
/-- a state taken from another one -/
theorem s_takeFrom (S S2 : zOb) : ∃ T, f_St_takeFrom S S2 = some T ∧ (∀ k, k < 6 → T.1 0 (3 + k) = S2.1 0 (3 + k)) ∧ ∀ i, i < 7 → T.1 1 i = S2.1 1 i ∧ T.1 2 i = S2.1 2 i ∧ T.1 3 i = S2.1 3 i := by
  refine ⟨_, rfl, ?_, ?_⟩
  · intro k hk
    match k, hk with
    | 0, _ => rfl
    | 1, _ => rfl
    | 2, _ => rfl
    | 3, _ => rfl
    | 4, _ => rfl
    | 5, _ => rfl
    | n + 6, h => exact absurd h (by omega)
  · intro i hi
    exact ⟨cpy7 _ _ hi, cpy7 _ _ hi, cpy7 _ _ hi⟩
theorem s_takeFrom_rep {S S2 : zOb} {a : aS} (hw : wfA a) (h : repS S2 a) : ∃ T, f_St_takeFrom S S2 = some T ∧ repS T a := by
  obtain ⟨T, e, h1, h2⟩ := s_takeFrom S S2
  exact ⟨T, e, repS_congr hw h h1 h2⟩
/-- the reference holds what is now in its row first -/
theorem s_holds_loop (N : Nat) (M : zOb) : ∀ n i, i ≤ 27 → 27 < n + i → f_Mo_holds_2 N n (zIr M 25 (fun j => if j < i then M.1 1 j else M.1 25 j)) (nI i) = some (zIr M 25 (fun j => if j < 27 then M.1 1 j else M.1 25 j)) := by
  intro n i hi hn
  refine for_eq (fun n S x => f_Mo_holds_2 N n S x) 27 (fun i => zIr M 25 (fun j => if j < i then M.1 1 j else M.1 25 j)) _ ?_ ?_ i n hi hn
  · intro n
    show f_Mo_holds_2 N (n + 1) _ (nI 27) = _
    rw [f_Mo_holds_2, if_pos (by decide)]
  · intro n i hi
    show f_Mo_holds_2 N (n + 1) _ (nI i) = _
    rw [f_Mo_holds_2, if_neg (nI_ge hi (by decide)), if_pos (zin_nI hi (by decide)), if_pos (zin_nI hi (by decide))]
    unfold bnd
    rw [nI_clamp (by omega), nI_add]
    congr 1
    rw [zI_r, zIr_rr]
    congr 1
    funext j
    unfold upd
    show (if j = i then M.1 1 i else if j < i then M.1 1 j else M.1 25 j) = if j < i + 1 then M.1 1 j else M.1 25 j
    by_cases h1 : j = i
    · subst h1; rw [if_pos rfl, if_pos (by omega)]
    · by_cases h2 : j < i
      · rw [if_neg h1, if_pos h2, if_pos (by omega)]
      · rw [if_neg h1, if_neg h2, if_neg (by omega)]
theorem s_holds {N : Nat} (hN : 200 ≤ N) (M : zOb) : ∃ f, f_Mo_holds N M = some (zIr M 25 f) ∧ ∀ j, j < 27 → f j = M.1 1 j := by
  refine ⟨fun j => if j < 27 then M.1 1 j else M.1 25 j, ?_, fun j hj => if_pos hj⟩
  have h := s_holds_loop N M N 0 (by omega) (by omega)
  have e : zIr M 25 (fun j => if j < 0 then M.1 1 j else M.1 25 j) = M := zIr_id M 25
  rw [e] at h
  exact h
/-- a row of the past in the reference's long row -/
abbrev rowAt (r : Nat → Int32) (i : Nat) : Nat → Int32 := fun j => r (27 * i + j)
theorem s_notes46_loop (N : Nat) (M : zOb) (k : Nat) (hk : k < 6) (ha : M.1 0 2 = nI k) : ∀ n i, i ≤ 27 → 27 < n + i → f_Mo_notes_46 N n (zIr M 2 (fun j => if 27 * k ≤ j ∧ j < 27 * k + i then M.1 25 (j - 27 * k) else M.1 2 j)) (nI i) = some (zIr (zIr M 2 (fun j => if 27 * k ≤ j ∧ j < 27 * k + 27 then M.1 25 (j - 27 * k) else M.1 2 j)) 0 (upd (M.1 0) 2 (nI (k + 1)))) := by
  intro n i hi hn
  refine for_eq (fun n S x => f_Mo_notes_46 N n S x) 27 (fun i => zIr M 2 (fun j => if 27 * k ≤ j ∧ j < 27 * k + i then M.1 25 (j - 27 * k) else M.1 2 j)) _ ?_ ?_ i n hi hn
  · intro n
    show f_Mo_notes_46 N (n + 1) _ (nI 27) = _
    rw [f_Mo_notes_46, if_pos (by decide)]
    unfold bnd
    rw [zI_r, zIr_at, if_neg (by decide), ha, nI_add]
  · intro n i hi
    show f_Mo_notes_46 N (n + 1) _ (nI i) = _
    have e : nI 27 * (zIr M 2 (fun j => if 27 * k ≤ j ∧ j < 27 * k + i then M.1 25 (j - 27 * k) else M.1 2 j)).1 0 2 + nI i = nI (27 * k + i) := by
      rw [zIr_at, if_neg (by decide), ha, pk_mul, nI_add]
    rw [f_Mo_notes_46, if_neg (nI_ge hi (by decide)), if_pos (zin_nI hi (by decide)), e, if_pos (zin_nI (by omega) (by decide))]
    unfold bnd
    rw [nI_clamp (by omega), nI_clamp (by omega), nI_add]
    congr 1
    rw [zI_r, zIr_rr]
    congr 1
    funext j
    unfold upd
    show (if j = 27 * k + i then M.1 25 i else if 27 * k ≤ j ∧ j < 27 * k + i then M.1 25 (j - 27 * k) else M.1 2 j) = if 27 * k ≤ j ∧ j < 27 * k + (i + 1) then M.1 25 (j - 27 * k) else M.1 2 j
    by_cases h1 : j = 27 * k + i
    · subst h1
      rw [if_pos rfl, if_pos (by omega), show 27 * k + i - 27 * k = i by omega]
    · by_cases h2 : 27 * k ≤ j ∧ j < 27 * k + i
      · rw [if_neg h1, if_pos h2, if_pos (by omega)]
      · rw [if_neg h1, if_neg h2, if_neg (by omega)]
theorem s_notes11_loop (N : Nat) (M : zOb) : ∀ n i, i ≤ 135 → 135 < n + i → f_Mo_notes_11 N n (zIr M 2 (fun j => if j < i then M.1 2 (j + 27) else M.1 2 j)) (nI i) = f_Mo_notes_44 N (zIr (zIr M 2 (fun j => if j < 135 then M.1 2 (j + 27) else M.1 2 j)) 0 (upd (M.1 0) 2 (nI 5))) := by
  intro n i hi hn
  refine for_eq (fun n S x => f_Mo_notes_11 N n S x) 135 (fun i => zIr M 2 (fun j => if j < i then M.1 2 (j + 27) else M.1 2 j)) _ ?_ ?_ i n hi hn
  · intro n
    show f_Mo_notes_11 N (n + 1) _ (nI 135) = _
    rw [f_Mo_notes_11, if_pos (by decide)]
    unfold bnd
    rw [zI_r, zIr_at, if_neg (by decide)]
  · intro n i hi
    show f_Mo_notes_11 N (n + 1) _ (nI i) = _
    rw [f_Mo_notes_11, if_neg (nI_ge hi (by decide)), nI_add, if_pos (zin_nI (by omega) (by decide)), if_pos (zin_nI (by omega) (by decide))]
    unfold bnd
    rw [nI_clamp (by omega), nI_clamp (by omega), nI_add]
    congr 1
    rw [zI_r, zIr_rr]
    congr 1
    funext j
    unfold upd
    rw [zIr_at, if_pos rfl]
    by_cases h1 : j = i
    · subst h1
      rw [if_pos rfl, if_neg (by omega), if_pos (by omega)]
    · by_cases h2 : j < i
      · rw [if_neg h1, if_pos h2, if_pos (by omega)]
      · rw [if_neg h1, if_neg h2, if_neg (by omega)]
/-- the reference notes its row first: the rows of its past, the oldest one lost if there are six -/
theorem s_notes {N : Nat} (hN : 200 ≤ N) (M : zOb) {k : Nat} (hk : k ≤ 6) (ha : M.1 0 2 = nI k) : ∃ r, f_Mo_notes N M = some (zIr (zIr M 2 r) 0 (upd (M.1 0) 2 (nI (if k = 6 then 6 else k + 1)))) ∧ (∀ j, j < 27 → rowAt r (if k = 6 then 5 else k) j = M.1 25 j) ∧ ∀ i, i < (if k = 6 then 5 else k) → ∀ j, j < 27 → rowAt r i j = rowAt (M.1 2) (if k = 6 then i + 1 else i) j := by
  by_cases h6 : k = 6
  · subst h6
    have h11 := s_notes11_loop N M N 0 (by omega) (by omega)
    have e0 : zIr M 2 (fun j => if j < 0 then M.1 2 (j + 27) else M.1 2 j) = M := zIr_id M 2
    rw [e0] at h11
    have hM : f_Mo_notes N M = f_Mo_notes_11 N N M (nI 0) := by
      unfold f_Mo_notes
      rw [if_pos ha]
    rw [hM, h11]
    unfold f_Mo_notes_44
    generalize hM2 : zIr (zIr M 2 (fun j => if j < 135 then M.1 2 (j + 27) else M.1 2 j)) 0 (upd (M.1 0) 2 (nI 5)) = M2
    have ha2 : M2.1 0 2 = nI 5 := by rw [← hM2]; rfl
    have h46 := s_notes46_loop N M2 5 (by omega) ha2 N 0 (by omega) (by omega)
    have e1 : zIr M2 2 (fun j => if 27 * 5 ≤ j ∧ j < 27 * 5 + 0 then M2.1 25 (j - 27 * 5) else M2.1 2 j) = M2 := by
      have : (fun j => if 27 * 5 ≤ j ∧ j < 27 * 5 + 0 then M2.1 25 (j - 27 * 5) else M2.1 2 j) = M2.1 2 := by
        funext j
        rw [if_neg (by omega)]
      rw [this]
      exact zIr_id M2 2
    rw [e1] at h46
    rw [h46]
    refine ⟨(fun j => if 27 * 5 ≤ j ∧ j < 27 * 5 + 27 then M2.1 25 (j - 27 * 5) else M2.1 2 j), ?_, ?_, ?_⟩
    · congr 1
      rw [← hM2]
      rw [zIr_comm (j := 0) (j' := 2) _ (by decide), zIr_rr, zIr_rr]
      congr 1
      funext j
      rw [zIr_at, if_pos rfl]
      unfold upd
      split <;> rfl
    · intro j hj
      rw [if_pos rfl]
      show (if 27 * 5 ≤ 27 * 5 + j ∧ 27 * 5 + j < 27 * 5 + 27 then M2.1 25 (27 * 5 + j - 27 * 5) else M2.1 2 (27 * 5 + j)) = _
      rw [if_pos (by omega), ← hM2, show 27 * 5 + j - 27 * 5 = j by omega]
      rfl
    · intro i hi j hj
      rw [if_pos rfl] at hi
      rw [if_pos rfl]
      show (if 27 * 5 ≤ 27 * i + j ∧ 27 * i + j < 27 * 5 + 27 then M2.1 25 (27 * i + j - 27 * 5) else M2.1 2 (27 * i + j)) = M.1 2 (27 * (i + 1) + j)
      rw [if_neg (by omega), ← hM2]
      show (if 27 * i + j < 135 then M.1 2 (27 * i + j + 27) else M.1 2 (27 * i + j)) = _
      rw [if_pos (by omega), show 27 * i + j + 27 = 27 * (i + 1) + j by omega]
  · have h46 := s_notes46_loop N M k (by omega) ha N 0 (by omega) (by omega)
    have e1 : zIr M 2 (fun j => if 27 * k ≤ j ∧ j < 27 * k + 0 then M.1 25 (j - 27 * k) else M.1 2 j) = M := by
      have : (fun j => if 27 * k ≤ j ∧ j < 27 * k + 0 then M.1 25 (j - 27 * k) else M.1 2 j) = M.1 2 := by
        funext j
        rw [if_neg (by omega)]
      rw [this]
      exact zIr_id M 2
    rw [e1] at h46
    have hM : f_Mo_notes N M = f_Mo_notes_46 N N M (nI 0) := by
      unfold f_Mo_notes f_Mo_notes_44
      rw [if_neg (by rw [ha]; exact fun q => h6 ((nI_eq (by omega) (by decide)).mp q))]
    rw [hM, h46]
    refine ⟨_, by rw [if_neg h6], ?_, ?_⟩
    · intro j hj
      rw [if_neg h6]
      show (if 27 * k ≤ 27 * k + j ∧ 27 * k + j < 27 * k + 27 then M.1 25 (27 * k + j - 27 * k) else M.1 2 (27 * k + j)) = _
      rw [if_pos (by omega), show 27 * k + j - 27 * k = j by omega]
    · intro i hi j hj
      rw [if_neg h6] at hi
      rw [if_neg h6]
      show (if 27 * k ≤ 27 * i + j ∧ 27 * i + j < 27 * k + 27 then M.1 25 (27 * i + j - 27 * k) else M.1 2 (27 * i + j)) = M.1 2 (27 * i + j)
      rw [if_neg (by omega)]
