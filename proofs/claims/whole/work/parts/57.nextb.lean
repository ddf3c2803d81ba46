/-! the reference's next order -/
def rowIs (r : Nat → Int32) (o : Nat → Nat) (n : Nat) : Prop := ∀ p, p < n → r p = nI (o p)
theorem row_sw {r : Nat → Int32} {o : Nat → Nat} {n i j : Nat} (h : rowIs r o n) (hi : i < n) (hj : j < n) : rowIs (upd (upd r i (r j)) j (r i)) (nxSw o i j) n := by
  intro p hp
  unfold nxSw va_up
  rw [upd_app, upd_app]
  by_cases h1 : p = j
  · rw [if_pos h1, if_pos h1]; exact h i hi
  · rw [if_neg h1, if_neg h1]
    by_cases h2 : p = i
    · rw [if_pos h2, if_pos h2]; exact h j hj
    · rw [if_neg h2, if_neg h2]; exact h p hp
theorem s_nx113 {N n : Nat} (hn : n ≤ 7) (M : zOb) : ∀ m i j nf r o, rowIs r o n → j < n → j ≤ i + 2 * m → i ≤ 14 → m < nf → ∃ r', f_Mo_nextOrder_113 N nf (zIr M 13 r) (nI i) (nI j) = some (nI 1, zIr M 13 r') ∧ rowIs r' (nxRv m i j o) n := by
  intro m
  induction m with
  | zero =>
    intro i j nf r o hr hj hij hi hf
    obtain ⟨nf, rfl⟩ : ∃ t, nf = t + 1 := ⟨nf - 1, by omega⟩
    exact ⟨r, by rw [f_Mo_nextOrder_113, if_pos (nI_le (by omega) (by omega))], hr⟩
  | succ m ih =>
    intro i j nf r o hr hj hij hi hf
    obtain ⟨nf, rfl⟩ : ∃ t, nf = t + 1 := ⟨nf - 1, by omega⟩
    unfold nxRv
    by_cases hc : j ≤ i
    · rw [if_pos hc]
      exact ⟨r, by rw [f_Mo_nextOrder_113, if_pos (nI_le (by omega) (by omega))], hr⟩
    · rw [if_neg hc]
      have zi : zin (nI i) 7 := zin_nI (by omega) (by decide)
      have zj : zin (nI j) 7 := zin_nI (by omega) (by decide)
      have ci : (nI i).toNatClampNeg = i := nI_clamp (by omega)
      have cj : (nI j).toNatClampNeg = j := nI_clamp (by omega)
      obtain ⟨r', e, hr'⟩ := ih (i + 1) (j - 1) nf _ (nxSw o i j) (row_sw hr (i := i) (j := j) (by omega) hj) (by omega) (by omega) (by omega) (by omega)
      refine ⟨r', ?_, hr'⟩
      have ej : nI j + (-1 : Int32) = nI (j - 1) := by
        have := m1_add (j - 1) (by omega)
        rw [show j - 1 + 1 = j by omega] at this
        exact this
      rw [f_Mo_nextOrder_113, if_neg (nI_ge (by omega) (by omega))]
      simp only [if_pos zi, if_pos zj, ci, cj, bnd, nI_add, ej, zI_r, zIr_rr, zIr_e]
      exact e
theorem s_nx51 {N n a : Nat} (hN : 200 ≤ N) (hn : n ≤ 7) (M : zOb) (hM : M.1 1 0 = nI n) {r : Nat → Int32} {o : Nat → Nat} (hr : rowIs r o n) (ho : ∀ p, p < n → o p < n) (ha : a < n) : ∀ j nf, a ≤ j → j < n → j < nf → ∃ r', f_Mo_nextOrder_51 N nf (zIr M 13 r) (nI a) (nI j) = some (nI 1, zIr M 13 r') ∧ rowIs r' (nxRv 7 (a + 1) (n - 1) (nxSw o a (nxOt o a j))) n := by
  have key : ∀ j nf, a ≤ j → j < n → o a ≤ o j → ∃ r', f_Mo_nextOrder_51 N (nf + 1) (zIr M 13 r) (nI a) (nI j) = some (nI 1, zIr M 13 r') ∧ rowIs r' (nxRv 7 (a + 1) (n - 1) (nxSw o a j)) n := by
    intro j nf haj hj hle
    have za : zin (nI a) 7 := zin_nI (by omega) (by decide)
    have zj : zin (nI j) 7 := zin_nI (by omega) (by decide)
    have ca : (nI a).toNatClampNeg = a := nI_clamp (by omega)
    have cj : (nI j).toNatClampNeg = j := nI_clamp (by omega)
    obtain ⟨r', e, hr'⟩ := s_nx113 (N := N) hn M 7 (a + 1) (n - 1) N _ (nxSw o a j) (row_sw hr ha hj) (by omega) (by omega) (by omega) (by omega)
    refine ⟨r', ?_, hr'⟩
    have e1 : ∀ r2, (zIr M 13 r2).1 1 0 = nI n := fun r2 => hM
    have hle' : nI (o a) ≤ nI (o j) := nI_le hle (by have := ho j hj; omega)
    rw [f_Mo_nextOrder_51]
    simp only [if_pos za, if_pos zj, ca, cj, zIr_e, hr a ha, hr j hj, if_pos hle', bnd, zI_r, zIr_rr, e1, nI_add, pk_sub (show 1 ≤ n by omega)]
    rw [hr a ha, hr j hj] at e
    exact e
  intro j
  induction j with
  | zero =>
    intro nf haj hj hf
    obtain ⟨nf, rfl⟩ : ∃ t, nf = t + 1 := ⟨nf - 1, by omega⟩
    have : a = 0 := by omega
    subst this
    exact key 0 nf (Nat.le_refl _) hj (Nat.le_refl _)
  | succ j ih =>
    intro nf haj hj hf
    obtain ⟨nf, rfl⟩ : ∃ t, nf = t + 1 := ⟨nf - 1, by omega⟩
    unfold nxOt
    by_cases hle : o a ≤ o (j + 1)
    · rw [if_pos hle]
      exact key (j + 1) nf haj hj hle
    · rw [if_neg hle]
      have hne : a ≠ j + 1 := fun e => hle (by rw [e]; exact Nat.le_refl _)
      obtain ⟨r', e, hr'⟩ := ih nf (by omega) (by omega) (by omega)
      refine ⟨r', ?_, hr'⟩
      have za : zin (nI a) 7 := zin_nI (by omega) (by decide)
      have zj : zin (nI (j + 1)) 7 := zin_nI (by omega) (by decide)
      have ca : (nI a).toNatClampNeg = a := nI_clamp (by omega)
      have cj : (nI (j + 1)).toNatClampNeg = j + 1 := nI_clamp (by omega)
      have hle' : ¬ nI (o a) ≤ nI (o (j + 1)) := nI_ge (by omega) (by have := ho a ha; omega)
      rw [f_Mo_nextOrder_51]
      simp only [if_pos za, if_pos zj, ca, cj, zIr_e, hr a ha, hr (j + 1) hj, if_neg hle', bnd, m1_add j (by omega)]
      exact e
theorem s_nx9 {N n : Nat} (hN : 200 ≤ N) (hn : n ≤ 7) (M : zOb) (hM : M.1 1 0 = nI n) {r : Nat → Int32} {o : Nat → Nat} (hr : rowIs r o n) (ho : ∀ p, p < n → o p < n) : ∀ i nf, i < n → i < nf → (nxAt o i = none ∧ f_Mo_nextOrder_9 N nf (zIr M 13 r) (nI i + (-1 : Int32)) = some (nI 0, zIr M 13 r)) ∨ (∃ a r', nxAt o i = some a ∧ f_Mo_nextOrder_9 N nf (zIr M 13 r) (nI i + (-1 : Int32)) = some (nI 1, zIr M 13 r') ∧ rowIs r' (nxRv 7 (a + 1) (n - 1) (nxSw o a (nxOt o a (n - 1)))) n) := by
  intro i
  induction i with
  | zero =>
    intro nf hi hf
    obtain ⟨nf, rfl⟩ : ∃ t, nf = t + 1 := ⟨nf - 1, by omega⟩
    refine Or.inl ⟨rfl, ?_⟩
    rw [f_Mo_nextOrder_9, if_pos (by decide)]
    simp only [f_Mo_nextOrder_36]
    rw [if_neg (by decide)]
  | succ i ih =>
    intro nf hi hf
    obtain ⟨nf, rfl⟩ : ∃ t, nf = t + 1 := ⟨nf - 1, by omega⟩
    have zi : zin (nI i) 7 := zin_nI (by omega) (by decide)
    have zi1 : zin (nI (i + 1)) 7 := zin_nI (by omega) (by decide)
    have ci : (nI i).toNatClampNeg = i := nI_clamp (by omega)
    have ci1 : (nI (i + 1)).toNatClampNeg = i + 1 := nI_clamp (by omega)
    have e1 : (zIr M 13 r).1 1 0 = nI n := hM
    rw [m1_add i (by omega), f_Mo_nextOrder_9, if_neg (nI_nlt (Nat.zero_le _) (by omega))]
    simp only [nI_add, if_pos zi, if_pos zi1, ci, ci1, zIr_e, hr i (by omega), hr (i + 1) hi, bnd]
    unfold nxAt
    by_cases hle : o i ≤ o (i + 1)
    · have hle' : nI (o i) ≤ nI (o (i + 1)) := nI_le hle (by have := ho (i + 1) hi; omega)
      obtain ⟨r', e, hr'⟩ := s_nx51 hN hn M hM hr ho (a := i) (by omega) (n - 1) N (by omega) (by omega) (by omega)
      refine Or.inr ⟨i, r', by rw [if_pos hle], ?_, hr'⟩
      rw [if_pos hle']
      simp only [f_Mo_nextOrder_36, bnd, e1, pk_sub (show 1 ≤ n by omega)]
      rw [if_pos (nI_le (Nat.zero_le _) (by omega))]
      exact e
    · have hle' : ¬ nI (o i) ≤ nI (o (i + 1)) := nI_ge (by omega) (by have := ho i (by omega); omega)
      rw [if_neg hle, if_neg hle']
      exact ih nf (by omega) (by omega)
theorem s_next {N n : Nat} (hN : 200 ≤ N) (hn : n ≤ 7) (M : zOb) (hM : M.1 1 0 = nI n) {o : Nat → Nat} (hr : rowIs (M.1 13) o n) (ho : ∀ p, p < n → o p < n) : (nxo n o = none ∧ f_Mo_nextOrder N M = some (nI 0, M)) ∨ (∃ o' r', nxo n o = some o' ∧ f_Mo_nextOrder N M = some (nI 1, zIr M 13 r') ∧ rowIs r' o' n) := by
  have e0 : zIr M 13 (M.1 13) = M := zIr_id M 13
  by_cases h0 : n = 0
  · subst h0
    refine Or.inl ⟨rfl, ?_⟩
    simp only [f_Mo_nextOrder, bnd, hM]
    obtain ⟨N, rfl⟩ : ∃ t, N = t + 1 := ⟨N - 1, by omega⟩
    rw [f_Mo_nextOrder_9, if_pos (by decide)]
    simp only [f_Mo_nextOrder_36]
    rw [if_neg (by decide)]
  · have es : nI n - nI 2 = nI (n - 1) + (-1 : Int32) := by
      have e1 : (-1 : Int32) = -(nI 1) := by decide
      rw [e1, ← Int32.sub_eq_add_neg]
      by_cases h1 : n = 1
      · subst h1; decide
      · rw [pk_sub (by omega), pk_sub (by omega)]
        congr 1
    have h9 := s_nx9 hN hn M hM hr ho (n - 1) N (by omega) (by omega)
    rw [e0] at h9
    simp only [f_Mo_nextOrder, bnd, hM, es]
    unfold nxo
    rcases h9 with ⟨q1, q2⟩ | ⟨a, r', q1, q2, q3⟩
    · rw [q1]
      exact Or.inl ⟨rfl, q2⟩
    · rw [q1]
      exact Or.inr ⟨_, r', rfl, q2, q3⟩
theorem eqOn_get {n : Nat} {f g : Nat → Nat} (h : eqOn n f g = true) : ∀ p, p < n → f p = g p := by
  intro p hp
  unfold eqOn at h
  rw [List.all_eq_true] at h
  have := h p (List.mem_range.mpr hp)
  exact eq_of_beq this
theorem s_firstOrder {N : Nat} (hN : 200 ≤ N) (M : zOb) : f_Mo_firstOrder N M = some (zIr M 13 (til nI (M.1 13) 7)) := by
  have h := for_up (fun n S x => f_Mo_firstOrder_2 N n S x) 0 7 (fun i => zIr M 13 (til nI (M.1 13) i)) (some (zIr M 13 (til nI (M.1 13) 7))) ?_ ?_ (by omega) N (by omega)
  · simp only [til_0, zIr_id] at h
    exact h
  · intro n
    show f_Mo_firstOrder_2 N (n + 1) _ (nI 7) = _
    rw [f_Mo_firstOrder_2, if_pos (by decide)]
  · intro n i _ hi
    show f_Mo_firstOrder_2 N (n + 1) (zIr M 13 (til nI (M.1 13) i)) (nI i) = f_Mo_firstOrder_2 N n (zIr M 13 (til nI (M.1 13) (i + 1))) (nI (i + 1))
    rw [f_Mo_firstOrder_2, if_neg (nI_ge hi (by decide)), if_pos (zin_nI hi (by decide)), nI_clamp (by omega)]
    simp only [bnd, nI_add]
    rw [zI_r, zIr_rr, zIr_e]
    congr 2
    exact til_s _ _ i
/-- a walk through all orders: what is done at each of them -/
theorem walk {σ ρ : Type} {N n : Nat} (hN : 200 ≤ N) (hn : n ≤ 7) (Lp : Nat → zOb → σ → Int32 → Option ρ) (Inv : zOb → σ → Prop) (V : σ → (Nat → Nat) → σ) (fin : zOb → σ → Option ρ) (hI : ∀ M s, Inv M s → M.1 1 0 = nI n) (hI2 : ∀ M s r, Inv M s → Inv (zIr M 13 r) s) (h0 : ∀ nf M s, Inv M s → Lp (nf + 1) M s (nI 0) = fin M s) (h1 : ∀ nf M s o, Inv M s → rowIs (M.1 13) o n → perm o n → ∃ M', Inv M' (V s o) ∧ M'.1 13 = M.1 13 ∧ Lp (nf + 1) M s (nI 1) = (f_Mo_nextOrder N M').bind (fun q => Lp nf q.2 (V s o) q.1)) : ∀ t o M s nf, chk n (nxo n o) t = true → (∀ o', o' ∈ o :: t → perm o' n) → Inv M s → rowIs (M.1 13) o n → t.length + 1 < nf → ∃ Mf, Inv Mf ((o :: t).foldl V s) ∧ Lp nf M s (nI 1) = fin Mf ((o :: t).foldl V s) := by
  intro t
  induction t with
  | nil =>
    intro o M s nf hc hp hi hr hf
    obtain ⟨nf, rfl⟩ : ∃ t, nf = t + 1 := ⟨nf - 1, by omega⟩
    obtain ⟨M', i', r', e⟩ := h1 nf M s o hi hr (hp o (List.mem_cons_self ..))
    rcases s_next hN hn M' (hI _ _ i') (o := o) (by rw [r']; exact hr) (hp o (List.mem_cons_self ..)).1 with ⟨q1, q2⟩ | ⟨o', r2, q1, q2, q3⟩
    · obtain ⟨nf, rfl⟩ : ∃ t, nf = t + 1 := ⟨nf - 1, by simp only [List.length_nil] at hf; omega⟩
      refine ⟨M', i', ?_⟩
      rw [e, q2, Option.bind_some]
      exact h0 nf M' _ i'
    · rw [q1, show chk n (some o') [] = false from rfl] at hc
      exact absurd hc (by decide)
  | cons o2 t ih =>
    intro o M s nf hc hp hi hr hf
    obtain ⟨nf, rfl⟩ : ∃ t, nf = t + 1 := ⟨nf - 1, by omega⟩
    obtain ⟨M', i', r', e⟩ := h1 nf M s o hi hr (hp o (List.mem_cons_self ..))
    rcases s_next hN hn M' (hI _ _ i') (o := o) (by rw [r']; exact hr) (hp o (List.mem_cons_self ..)).1 with ⟨q1, q2⟩ | ⟨o', r2, q1, q2, q3⟩
    · rw [q1] at hc
      exact absurd hc (by unfold chk; decide)
    · rw [q1] at hc
      unfold chk at hc
      rw [Bool.and_eq_true] at hc
      have hr2 : rowIs ((zIr M' 13 r2).1 13) o2 n := fun p hp => by
        rw [zIr_e, q3 p hp, eqOn_get hc.1 p hp]
      obtain ⟨Mf, j1, j2⟩ := ih o2 (zIr M' 13 r2) (V s o) nf hc.2 (fun o' ho' => hp o' (List.mem_cons_of_mem _ ho')) (hI2 _ _ _ i') hr2 (by simp only [List.length_cons] at hf; omega)
      refine ⟨Mf, j1, ?_⟩
      rw [e, q2, Option.bind_some]
      exact j2
/-- each of them is an order -/
theorem flt_mem {α : Type} {F : Nat → List α} {x : α} : ∀ m i, x ∈ flt F m i → ∃ b, i ≤ b ∧ b < i + m ∧ x ∈ F b := by
  intro m
  induction m with
  | zero => intro i h; exact absurd h (List.not_mem_nil)
  | succ m ih =>
    intro i h
    unfold flt at h
    rcases List.mem_append.mp h with h | h
    · exact ⟨i, by omega, by omega, h⟩
    · obtain ⟨b, h1, h2, h3⟩ := ih (i + 1) h
      exact ⟨b, by omega, by omega, h3⟩
def agr (o o' : Nat → Nat) (p : Nat) : Prop := ∀ q, q < p → o' q = o q
theorem agr.rf (o : Nat → Nat) (p : Nat) : agr o o p := fun _ _ => rfl
theorem agr.tr {o o' o2 : Nat → Nat} {p : Nat} (h : agr o o' p) (g : agr o' o2 p) : agr o o2 p := fun q hq => (g q hq).trans (h q hq)
theorem agr.le {o o' : Nat → Nat} {p p' : Nat} (h : agr o o' p) (hp : p' ≤ p) : agr o o' p' := fun q hq => h q (by omega)
theorem agr_up (o : Nat → Nat) (p b : Nat) : agr o (va_up o p b) p := fun q hq => vu_n _ _ (by omega)
theorem lfN_congr {o o' : Nat → Nat} (n : Nat) : ∀ p, agr o o' p → lfN o' n p = lfN o n p := by
  intro p
  induction p with
  | zero => intro _; rfl
  | succ p ih =>
    intro h
    unfold lfN
    rw [ih (h.le (by omega)), h p (by omega)]
theorem lfN_up (o : Nat → Nat) (n p b : Nat) : lfN (va_up o p b) n (p + 1) = aN (lfN o n p) (2 ^ b) := by
  show aN (lfN (va_up o p b) n p) (2 ^ va_up o p b p) = _
  rw [lfN_congr n p (agr_up o p b), vu_s]
theorem ordL_agr (n : Nat) : ∀ k p o, ∀ o' ∈ ordL n k p (lfN o n p) o, agr o o' p := by
  intro k
  induction k with
  | zero =>
    intro p o o' h
    rw [List.mem_singleton.mp h]
    exact agr.rf o p
  | succ k ih =>
    intro p o o' h
    unfold ordL at h
    obtain ⟨b, h1, h2, h3⟩ := flt_mem n 0 h
    by_cases hb : (lfN o n p).testBit b = true
    · rw [if_pos hb, ← lfN_up] at h3
      exact ((agr_up o p b)).tr ((ih (p + 1) _ o' h3).le (by omega))
    · rw [if_neg hb] at h3
      exact absurd h3 (List.not_mem_nil)
theorem ordL_perm (n : Nat) : ∀ k p o, p + k = n → (∀ q, q < p → o q < n) → (∀ q r, q < p → r < p → o q = o r → q = r) → ∀ o' ∈ ordL n k p (lfN o n p) o, perm o' n := by
  intro k
  induction k with
  | zero =>
    intro p o hp h1 h2 o' h
    have : p = n := by omega
    subst this
    rw [List.mem_singleton.mp h]
    exact ⟨h1, h2⟩
  | succ k ih =>
    intro p o hp h1 h2 o' h
    unfold ordL at h
    obtain ⟨b, _, _, h3⟩ := flt_mem n 0 h
    by_cases hb : (lfN o n p).testBit b = true
    · rw [if_pos hb, ← lfN_up] at h3
      have hbb := (lfN_bit o n p b).mp hb
      refine ih (p + 1) _ (by omega) (fun q hq => ?_) (fun q r hq hr e => ?_) o' h3
      · by_cases hqp : q = p
        · subst hqp; rw [vu_s]; exact hbb.1
        · rw [vu_n _ _ hqp]; exact h1 q (by omega)
      · by_cases hqp : q = p
        · by_cases hrp : r = p
          · omega
          · rw [hqp, vu_s, vu_n _ _ hrp] at e
            exact absurd e.symm (hbb.2 r (by omega))
        · by_cases hrp : r = p
          · rw [hrp, vu_s, vu_n _ _ hqp] at e
            exact absurd e (hbb.2 q (by omega))
          · rw [vu_n _ _ hqp, vu_n _ _ hrp] at e
            exact h2 q r (by omega) (by omega) e
    · rw [if_neg hb] at h3
      exact absurd h3 (List.not_mem_nil)
def ords (n : Nat) : List (Nat → Nat) := ordL n n 0 (2 ^ n - 1) id
theorem ords_perm (n : Nat) : ∀ o ∈ ords n, perm o n := ordL_perm n n 0 id (by omega) (fun q hq => absurd hq (by omega)) (fun q r hq _ _ => absurd hq (by omega))
