/-! THE PAST: six states by their numbers, in turn; the reference's rows -/
def permOK (μ : zM) (o lo : Nat) : Prop := (∀ i, i < 6 → lo ≤ (μ o).2.2 1 i ∧ (μ o).2.2 1 i < lo + 6) ∧ ∀ i j, i < 6 → j < 6 → (μ o).2.2 1 i = (μ o).2.2 1 j → i = j
def pastOK (μ : zM) (o lo k : Nat) (r : Nat → Int32) : Prop := permOK μ o lo ∧ k ≤ 6 ∧ (μ o).1 0 1 = nI k ∧ ∀ i, i < k → ∃ a, wfA a ∧ repS (μ ((μ o).2.2 1 i)) a ∧ repM (rowAt r i) a
theorem zc_st {u : Nat} (h : u < 16) : zc u = 6 := if_pos h
def zRr (S : zOb) (j : Nat) (f : Nat → Nat) : zOb := (S.1, S.2.1, fun j' => if j' = j then f else S.2.2 j')
theorem zR_r (S : zOb) (j i x : Nat) : zR S j i x = zRr S j (va_up (S.2.2 j) i x) := rfl
theorem zRr_at (S : zOb) (j : Nat) (f : Nat → Nat) : (zRr S j f).2.2 j = f := if_pos rfl
theorem zRr_rr (S : zOb) (j : Nat) (f g : Nat → Nat) : zRr (zRr S j f) j g = zRr S j g := by
  unfold zRr
  congr 2
  funext j'
  dsimp only
  split <;> rfl
theorem zRr_id (S : zOb) (j : Nat) : zRr S j (S.2.2 j) = S := by
  apply Prod.ext
  · rfl
  · apply Prod.ext
    · rfl
    · funext j'
      show (if j' = j then S.2.2 j else S.2.2 j') = _
      split
      · next h => rw [h]
      · rfl
/-- the oldest state is lost: the rows move on, its object comes last -/
theorem s_lose_loop (N o : Nat) (μ : zM) (hlt : ∀ i, i < 6 → (μ o).2.2 1 i < 16) (u0 : Nat) : ∀ n i, i ≤ 5 → 5 < n + i → f_Pt_loseOldest_9 N o n (zset μ o (zRr (μ o) 1 (fun t => if t < i then (μ o).2.2 1 (t + 1) else (μ o).2.2 1 t))) u0 (nI i) = some (zset μ o (zI (zR (zRr (μ o) 1 (fun t => if t < 5 then (μ o).2.2 1 (t + 1) else (μ o).2.2 1 t)) 1 5 u0) 0 1 (nI 5))) := by
  intro n i hi hn
  refine for_eq (fun n S x => f_Pt_loseOldest_9 N o n S u0 x) 5 (fun i => zset μ o (zRr (μ o) 1 (fun t => if t < i then (μ o).2.2 1 (t + 1) else (μ o).2.2 1 t))) _ ?_ ?_ i n hi hn
  · intro n
    show f_Pt_loseOldest_9 N o (n + 1) _ u0 (nI 5) = _
    rw [f_Pt_loseOldest_9, if_pos (by decide)]
    simp only [bnd, zset_s, zset_ss]
  · intro n i hi
    show f_Pt_loseOldest_9 N o (n + 1) _ u0 (nI i) = _
    have e : (zRr (μ o) 1 (fun t => if t < i then (μ o).2.2 1 (t + 1) else (μ o).2.2 1 t)).2.2 1 (i + 1) = (μ o).2.2 1 (i + 1) := by
      rw [zRr_at, if_neg (by omega)]
    rw [f_Pt_loseOldest_9, nI_add, if_neg (nI_ge (by omega) (by decide)), if_pos (zin_nI (by omega) (by decide))]
    simp only [bnd, zset_s]
    rw [nI_clamp (by omega), e, if_pos (zc_st (hlt _ (by omega))), if_pos (zin_nI (by omega) (by decide)), zset_ss, nI_clamp (by omega), zR_r, zRr_rr, zRr_at]
    congr 3
    funext t
    show (if t = i then (μ o).2.2 1 (i + 1) else if t < i then (μ o).2.2 1 (t + 1) else (μ o).2.2 1 t) = if t < i + 1 then (μ o).2.2 1 (t + 1) else (μ o).2.2 1 t
    by_cases h1 : t = i
    · subst h1; rw [if_pos rfl, if_pos (by omega)]
    · by_cases h2 : t < i
      · rw [if_neg h1, if_pos h2, if_pos (by omega)]
      · rw [if_neg h1, if_neg h2, if_neg (by omega)]
theorem s_loseOldest {N o lo : Nat} (hN : 200 ≤ N) {μ : zM} (hlo : lo ≤ 10) (hp : permOK μ o lo) : ∃ S, f_Pt_loseOldest N μ o = some (zset μ o S) ∧ S.1 0 1 = nI 5 ∧ (∀ i, i < 5 → S.2.2 1 i = (μ o).2.2 1 (i + 1)) ∧ S.2.2 1 5 = (μ o).2.2 1 0 := by
  have hlt : ∀ i, i < 6 → (μ o).2.2 1 i < 16 := fun i hi => by have := (hp.1 i hi).2; omega
  have h := s_lose_loop N o μ hlt ((μ o).2.2 1 0) N 0 (by omega) (by omega)
  have e : zset μ o (zRr (μ o) 1 (fun t => if t < 0 then (μ o).2.2 1 (t + 1) else (μ o).2.2 1 t)) = μ := by
    rw [show zRr (μ o) 1 (fun t => if t < 0 then (μ o).2.2 1 (t + 1) else (μ o).2.2 1 t) = μ o from zRr_id (μ o) 1]
    exact zset_id μ o
  rw [e] at h
  refine ⟨(zI (zR (zRr (μ o) 1 (fun t => if t < 5 then (μ o).2.2 1 (t + 1) else (μ o).2.2 1 t)) 1 5 ((μ o).2.2 1 0)) 0 1 (nI 5)), ?_, rfl, ?_, rfl⟩
  · simp only [f_Pt_loseOldest, bnd]
    rw [if_pos (zc_st (hlt 0 (by omega)))]
    exact h
  · intro i hi
    show (if i = 5 then _ else if i < 5 then (μ o).2.2 1 (i + 1) else _) = _
    rw [if_neg (by omega), if_pos hi]
theorem s_keep13 {N o o2 lo k : Nat} {μ : zM} {r : Nat → Int32} {a : aS} (hlo : 4 ≤ lo ∧ lo ≤ 10) (ho : o = 16 ∨ o = 17) (h2 : o2 < 2) (hk : k < 6) (hp : permOK μ o lo) (hs : (μ o).1 0 1 = nI k) (hr : ∀ i, i < k → ∃ a, wfA a ∧ repS (μ ((μ o).2.2 1 i)) a ∧ repM (rowAt r i) a) (hw : wfA a) (ha : repS (μ o2) a) (hm : repM (rowAt r k) a) : ∃ μ', f_Pt_keep_13 N o o2 μ = some μ' ∧ pastOK μ' o lo (k + 1) r ∧ ∀ x, x ≠ o → ¬ (lo ≤ x ∧ x < lo + 6) → μ' x = μ x := by
  have hu := hp.1 k hk
  generalize hue : (μ o).2.2 1 k = u at hu
  have huo : u ≠ o := by rcases ho with h | h <;> omega
  obtain ⟨T, eT, hT⟩ := s_takeFrom_rep (S := μ u) hw ha
  refine ⟨zset (zset μ u T) o (zI (μ o) 0 1 (nI (k + 1))), ?_, ?_, ?_⟩
  · simp only [f_Pt_keep_13, bnd]
    rw [hs, if_pos (zin_nI hk (by decide)), nI_clamp (by omega), hue, if_pos (zc_st (by omega)), if_pos (show o2 ≠ u by omega), eT]
    show some (zset (zset μ u T) o (zI ((zset μ u T) o) 0 1 (((zset μ u T) o).1 0 1 + nI 1))) = _
    rw [zset_n μ T (Ne.symm huo), hs, nI_add]
  · have hperm : ∀ i, (zset (zset μ u T) o (zI (μ o) 0 1 (nI (k + 1))) o).2.2 1 i = (μ o).2.2 1 i := fun i => by rw [zset_s]; rfl
    refine ⟨⟨fun i hi => by rw [hperm]; exact hp.1 i hi, fun i j hi hj e => by rw [hperm, hperm] at e; exact hp.2 i j hi hj e⟩, by omega, by rw [zset_s]; rfl, ?_⟩
    intro i hi
    rw [hperm]
    by_cases hik : i = k
    · subst hik
      rw [hue]
      refine ⟨a, hw, ?_, hm⟩
      rw [zset_n _ _ huo, zset_s]
      exact hT
    · obtain ⟨a', q1, q2, q3⟩ := hr i (by omega)
      refine ⟨a', q1, ?_, q3⟩
      have hv := hp.1 i (by omega)
      have hne : (μ o).2.2 1 i ≠ u := fun e => hik (hp.2 i k (by omega) hk (e.trans hue.symm))
      have hno : (μ o).2.2 1 i ≠ o := by rcases ho with h | h <;> omega
      rw [zset_n _ _ hno, zset_n _ _ hne]
      exact q2
  · intro x hx hxr
    rw [zset_n _ _ hx, zset_n _ _ (fun e => hxr (by omega))]
/-- a state is kept, on both sides -/
theorem s_keep {N o o2 lo k : Nat} {μ : zM} {M : zOb} {a : aS} (hN : 200 ≤ N) (hlo : 4 ≤ lo ∧ lo ≤ 10) (ho : o = 16 ∨ o = 17) (h2 : o2 < 2) (hp : pastOK μ o lo k (M.1 2)) (hk : M.1 0 2 = nI k) (hw : wfA a) (ha : repS (μ o2) a) (hm : repM (M.1 25) a) : ∃ μ' r k', f_Pt_keep N μ o o2 = some μ' ∧ f_Mo_notes N M = some (zIr (zIr M 2 r) 0 (upd (M.1 0) 2 (nI k'))) ∧ pastOK μ' o lo k' r ∧ ∀ x, x ≠ o → ¬ (lo ≤ x ∧ x < lo + 6) → μ' x = μ x := by
  obtain ⟨hperm, hk6, hs, hr⟩ := hp
  obtain ⟨r, en, h1, h3⟩ := s_notes hN M hk6 hk
  by_cases h6 : k = 6
  · subst h6
    rw [if_pos rfl] at en h1 h3
    obtain ⟨S, eS, s1, s2, s3⟩ := s_loseOldest hN hlo.2 hperm
    have hpm : ∀ i, i < 6 → (zset μ o S o).2.2 1 i = (μ o).2.2 1 (if i = 5 then 0 else i + 1) := by
      intro i hi
      rw [zset_s]
      by_cases h : i = 5
      · subst h; rw [if_pos rfl]; exact s3
      · rw [if_neg h]; exact s2 i (by omega)
    have hnoo : ∀ i, i < 6 → (μ o).2.2 1 i ≠ o := fun i hi => by have := hperm.1 i hi; rcases ho with h | h <;> omega
    have hperm2 : permOK (zset μ o S) o lo := by
      refine ⟨fun i hi => ?_, fun i j hi hj e => ?_⟩
      · rw [hpm i hi]; exact hperm.1 _ (by split <;> omega)
      · rw [hpm i hi, hpm j hj] at e
        have := hperm.2 _ _ (by split <;> omega) (by split <;> omega) e
        split at this <;> split at this <;> omega
    have ha2 : repS (zset μ o S o2) a := by
      rw [zset_n _ _ (by rcases ho with h | h <;> omega)]; exact ha
    obtain ⟨μ', e1, e2, e3⟩ := s_keep13 (N := N) (r := r) hlo ho h2 (k := 5) (by omega) hperm2 (by rw [zset_s]; exact s1) (fun i hi => by
      obtain ⟨a', q1, q2, q3⟩ := hr (i + 1) (by omega)
      refine ⟨a', q1, ?_, repM_congr q1 q3 (fun j hj => by rw [h3 i hi j hj, if_pos rfl])⟩
      rw [hpm i (by omega), if_neg (by omega), zset_n _ _ (hnoo _ (by omega))]
      exact q2) hw ha2 (repM_congr hw hm h1)
    refine ⟨μ', r, 6, ?_, en, e2, fun x hx hxr => by rw [e3 x hx hxr, zset_n _ _ hx]⟩
    unfold f_Pt_keep
    rw [hs, if_neg (nI_nlt (by omega) (by decide)), eS]
    exact e1
  · rw [if_neg h6] at en h1 h3
    obtain ⟨μ', e1, e2, e3⟩ := s_keep13 (N := N) (r := r) hlo ho h2 (k := k) (by omega) hperm hs (fun i hi => by
      obtain ⟨a', q1, q2, q3⟩ := hr i hi
      exact ⟨a', q1, q2, repM_congr q1 q3 (fun j hj => by rw [h3 i hi j hj, if_neg h6])⟩) hw ha (repM_congr hw hm h1)
    refine ⟨μ', r, k + 1, ?_, en, e2, e3⟩
    unfold f_Pt_keep
    rw [hs, if_pos (nI_lt (by omega) (by decide))]
    exact e1
