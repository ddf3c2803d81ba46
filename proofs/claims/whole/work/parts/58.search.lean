/-! THE SEARCH: what is found of all orders, as a fold -/
abbrev sT : Type := Nat × Nat × Nat × (Nat → Nat)
noncomputable def cB (p : Prop) : Bool := @decide p (Classical.propDecidable p)
theorem cB_t {p : Prop} : cB p = true ↔ p := @decide_eq_true_iff p (Classical.propDecidable p)
def oF (a : aS) (o : Nat → Nat) (p : Nat) : Nat := pcb 20 (frN (tS a o p) (sgm (aL a) (tS a o) p))
def oO (a : aS) (o : Nat → Nat) (p : Nat) : Nat := pcb 20 (loN (aL a) p (tS a o p) (sgm (aL a) (tS a o) p))
def accP (a : aS) (ld lo hi o : Nat → Nat) (p : Nat) : Prop := ld (o p) &&& lfN o (a.1 0) p = 0 ∧ lo p ≤ oF a o p ∧ oF a o p ≤ hi p
def accA (a : aS) (ld lo hi o : Nat → Nat) : Prop := ∀ p, p < a.1 0 → accP a ld lo hi o p
def wtd (only : Bool) (st : sT) (pk ls : Nat) : Prop := only = false ∨ st.1 = 0 ∨ pk < st.2.1 ∨ (pk = st.2.1 ∧ ls < st.2.2.1)
def tkn (a : aS) (ld lo hi : Nat → Nat) (only : Bool) (W : Nat) (st : sT) (o : Nat → Nat) : Prop := accA a ld lo hi o ∧ st.1 ≤ W ∧ wtd only st (oPk a o) (oLs a o)
noncomputable def sV (a : aS) (ld lo hi : Nat → Nat) (only : Bool) (W : Nat) (st : sT) (o : Nat → Nat) : sT := if cB (tkn a ld lo hi only W st o) = true then (st.1 + 1, oPk a o, oLs a o, o) else st
theorem sV_y {a : aS} {ld lo hi : Nat → Nat} {only : Bool} {W : Nat} {st : sT} {o : Nat → Nat} (h : tkn a ld lo hi only W st o) : sV a ld lo hi only W st o = (st.1 + 1, oPk a o, oLs a o, o) := if_pos (cB_t.mpr h)
theorem sV_n {a : aS} {ld lo hi : Nat → Nat} {only : Bool} {W : Nat} {st : sT} {o : Nat → Nat} (h : ¬ tkn a ld lo hi only W st o) : sV a ld lo hi only W st o = st := if_neg (fun q => h (cB_t.mp q))
theorem sV_skip {a : aS} {ld lo hi : Nat → Nat} {only : Bool} {W : Nat} {st : sT} : ∀ l : List (Nat → Nat), (∀ o ∈ l, ¬ tkn a ld lo hi only W st o) → l.foldl (sV a ld lo hi only W) st = st := by
  intro l
  induction l with
  | nil => intro _; rfl
  | cons o l ih =>
    intro h
    rw [List.foldl_cons, sV_n (h o (List.mem_cons_self ..))]
    exact ih (fun o' ho' => h o' (List.mem_cons_of_mem _ ho'))
theorem sV_len {a : aS} {ld lo hi : Nat → Nat} {only : Bool} {W : Nat} : ∀ (l : List (Nat → Nat)) (st : sT), (l.foldl (sV a ld lo hi only W) st).1 ≤ st.1 + l.length := by
  intro l
  induction l with
  | nil => intro st; exact Nat.le_refl _
  | cons o l ih =>
    intro st
    rw [List.foldl_cons, List.length_cons]
    have h1 := ih (sV a ld lo hi only W st o)
    have h2 : (sV a ld lo hi only W st o).1 ≤ st.1 + 1 := by
      by_cases h : tkn a ld lo hi only W st o
      · rw [sV_y h]; exact Nat.le_refl _
      · rw [sV_n h]; omega
    omega
theorem sgm_cg (L : Nat → Nat) {T T' : Nat → Nat} : ∀ p, (∀ q, q < p → T' q = T q) → sgm L T' p = sgm L T p := by
  intro p
  induction p with
  | zero => intro _; rfl
  | succ p ih =>
    intro h
    show stp L p (T' p) (sgm L T' p) = stp L p (T p) (sgm L T p)
    rw [ih (fun q hq => h q (by omega)), h p (by omega)]
theorem tS_ag {a : aS} {o o' : Nat → Nat} {p : Nat} (h : agr o o' p) : ∀ q, q < p → tS a o' q = tS a o q := fun q hq => by unfold tS; rw [h q hq]
theorem oF_ag {a : aS} {o o' : Nat → Nat} {p q : Nat} (h : agr o o' p) (hq : q < p) : oF a o' q = oF a o q := by
  unfold oF
  rw [tS_ag h q hq, sgm_cg _ q (fun r hr => tS_ag h r (by omega))]
theorem oO_ag {a : aS} {o o' : Nat → Nat} {p q : Nat} (h : agr o o' p) (hq : q < p) : oO a o' q = oO a o q := by
  unfold oO
  rw [tS_ag h q hq, sgm_cg _ q (fun r hr => tS_ag h r (by omega))]
theorem pkN_cg {F G : Nat → Nat} : ∀ p, (∀ q, q < p → G q = F q) → pkN G p = pkN F p := by
  intro p
  induction p with
  | zero => intro _; rfl
  | succ p ih => intro h; unfold pkN; rw [ih (fun q hq => h q (by omega)), h p (by omega)]
theorem lsN_cg {F G : Nat → Nat} : ∀ p, (∀ q, q < p → G q = F q) → lsN G p = lsN F p := by
  intro p
  induction p with
  | zero => intro _; rfl
  | succ p ih => intro h; unfold lsN; rw [ih (fun q hq => h q (by omega)), h p (by omega)]
theorem pkN_mono (F : Nat → Nat) (p : Nat) : ∀ k, pkN F p ≤ pkN F (p + k) := by
  intro k
  induction k with
  | zero => exact Nat.le_refl _
  | succ k ih => show pkN F p ≤ (if pkN F (p + k) < F (p + k) then F (p + k) else pkN F (p + k)); split <;> omega
theorem lsN_mono (F : Nat → Nat) (p : Nat) : ∀ k, lsN F p ≤ lsN F (p + k) := by
  intro k
  induction k with
  | zero => exact Nat.le_refl _
  | succ k ih => show lsN F p ≤ lsN F (p + k) + F (p + k); omega
theorem wtd_le {only : Bool} {st : sT} {pk ls pk' ls' : Nat} (h : wtd only st pk ls) (h1 : pk' ≤ pk) (h2 : ls' ≤ ls) : wtd only st pk' ls' := by
  rcases h with h | h | h | h
  · exact Or.inl h
  · exact Or.inr (Or.inl h)
  · exact Or.inr (Or.inr (Or.inl (by omega)))
  · refine Or.inr (Or.inr ?_)
    omega
theorem accP_ag {a : aS} {ld lo hi o o' : Nat → Nat} {p q : Nat} (h : agr o o' p) (hq : q < p) (g : accP a ld lo hi o q) : accP a ld lo hi o' q := by
  unfold accP
  rw [h q hq, lfN_congr _ q (h.le (by omega)), oF_ag h hq]
  exact g
theorem rdAll_cg {R : zOb} {n : Nat} {L T T' : Nat → Nat} {i : Nat} (h : rdAll R n L T i) (e : ∀ q, q < i → T' q = T q) : rdAll R n L T' i := by
  obtain ⟨h1, h2, h3, h4⟩ := h
  refine ⟨h1, fun p hp => ?_, fun p hp => ?_, h4⟩
  · rw [sgm_cg L p (fun q hq => e q (by omega))]; exact h2 p hp
  · rw [sgm_cg L p (fun q hq => e q (by omega)), e p hp]; exact h3 p hp
theorem rdAll_le {R : zOb} {n : Nat} {L T : Nat → Nat} {i j : Nat} (h : rdAll R n L T i) (hj : j ≤ i) : rdAll R n L T j := ⟨h.1, fun p hp => h.2.1 p (by omega), fun p hp => h.2.2.1 p (by omega), h.2.2.2⟩
/-- one branch of the tree of orders -/
def brn (n k p lf : Nat) (o : Nat → Nat) (b : Nat) : List (Nat → Nat) := if lf.testBit b then ordL n k (p + 1) (aN lf (2 ^ b)) (va_up o p b) else []
theorem ordL_br (n k p lf : Nat) (o : Nat → Nat) : ordL n (k + 1) p lf o = flt (brn n k p lf o) n 0 := rfl
theorem brn_ag {n k p b : Nat} {o o' : Nat → Nat} (h : o' ∈ brn n k p (lfN o n p) o b) : (lfN o n p).testBit b = true ∧ agr (va_up o p b) o' (p + 1) := by
  unfold brn at h
  by_cases hb : (lfN o n p).testBit b = true
  · rw [if_pos hb, ← lfN_up] at h
    exact ⟨hb, ordL_agr n k (p + 1) _ o' h⟩
  · rw [if_neg hb] at h
    exact absurd h (List.not_mem_nil)
def seC (S : zOb) (a : aS) (ld lo hi : Nat → Nat) (only : Bool) (W : Nat) : Prop := (S.1 0 6 = nI (a.1 0) ∧ S.1 0 7 = nI (if only then 1 else 0) ∧ S.1 0 8 = nI W) ∧ ∀ i, i < a.1 0 → S.1 2 i = nI (aN (a.2.1 i) (a.1 1)) ∧ S.1 3 i = nI (ld i) ∧ S.1 4 i = nI (lo i) ∧ S.1 5 i = nI (hi i)
def seS (S : zOb) (n : Nat) (st : sT) : Prop := S.1 0 9 = nI st.1 ∧ S.1 0 11 = nI st.2.1 ∧ S.1 0 12 = nI st.2.2.1 ∧ (0 < st.1 → ∀ p, p < n → S.1 11 p = nI (st.2.2.2 p))
def seI (μ : zM) (a : aS) (ld lo hi : Nat → Nat) (only : Bool) (W : Nat) (st : sT) (o : Nat → Nat) (p : Nat) : Prop := seC (μ 23) a ld lo hi only W ∧ seS (μ 23) (a.1 0) st ∧ rowIs ((μ 23).1 6) o p ∧ rdAll (μ 22) (a.1 0) (aL a) (tS a o) p ∧ st.2.1 ≤ 20 ∧ st.2.2.1 ≤ 140
theorem seI_dn {μ : zM} {a : aS} {ld lo hi : Nat → Nat} {only : Bool} {W : Nat} {st : sT} {o : Nat → Nat} {p b : Nat} (h : seI μ a ld lo hi only W st (va_up o p b) (p + 1)) : seI μ a ld lo hi only W st o p := by
  obtain ⟨hC, hS, hr, hR, b2⟩ := h
  refine ⟨hC, hS, fun q hq => ?_, ?_, b2⟩
  · rw [hr q (by omega), vu_n _ _ (by omega)]
  · exact rdAll_cg (rdAll_le hR (by omega)) (fun q hq => (tS_ag (agr_up o p b) q hq).symm)
theorem s_isWanted {μ : zM} {a : aS} {ld lo hi : Nat → Nat} {only : Bool} {W n pk ls : Nat} {st : sT} (hC : seC (μ 23) a ld lo hi only W) (hS : seS (μ 23) n st) (b1 : st.1 ≤ 5040) (b2 : st.2.1 ≤ 20) (b3 : st.2.2.1 ≤ 140) (hp : pk ≤ 1000) (hl : ls ≤ 1000) : (wtd only st pk ls → f_Se_isWanted μ (nI pk) (nI ls) = some (nI 1)) ∧ (¬ wtd only st pk ls → f_Se_isWanted μ (nI pk) (nI ls) = some (nI 0)) := by
  have e1 : f_Se_isWanted_38 μ = some (nI 1) := by unfold f_Se_isWanted_38 f_Se_isWanted_43; exact if_pos (Or.inr rfl)
  have e0 : f_Se_isWanted_42 μ = some (nI 0) := by unfold f_Se_isWanted_42 f_Se_isWanted_43; exact if_pos (Or.inl rfl)
  unfold f_Se_isWanted
  rw [hC.1.2.1, hS.1, hS.2.1, hS.2.2.1, e1, e0]
  cases only with
  | false => exact ⟨fun _ => if_pos rfl, fun h => absurd (Or.inl rfl) h⟩
  | true =>
    rw [if_neg (show ¬ nI (if true = true then 1 else 0) = nI 0 from nI_1_0)]
    by_cases h0 : st.1 = 0
    · rw [h0, if_pos rfl]
      exact ⟨fun _ => rfl, fun h => absurd (Or.inr (Or.inl h0)) h⟩
    · rw [if_neg (nI_n0 (by omega) (by omega))]
      by_cases h1 : pk < st.2.1
      · rw [if_pos (nI_lt h1 (by omega))]
        exact ⟨fun _ => rfl, fun h => absurd (Or.inr (Or.inr (Or.inl h1))) h⟩
      · rw [if_neg (nI_nlt (by omega) (by omega))]
        by_cases h2 : pk = st.2.1
        · rw [if_pos (by rw [h2])]
          by_cases h3 : ls < st.2.2.1
          · rw [if_neg (nI_ge h3 (by omega))]
            exact ⟨fun _ => rfl, fun h => absurd (Or.inr (Or.inr (Or.inr ⟨h2, h3⟩))) h⟩
          · rw [if_pos (nI_le (by omega) (by omega))]
            refine ⟨fun h => ?_, fun _ => rfl⟩
            rcases h with h | h | h | h
            · exact absurd h (by decide)
            · exact absurd h h0
            · exact absurd h h1
            · exact absurd h.2 h3
        · rw [if_neg (fun q => h2 ((nI_eq (by omega) (by omega)).mp q))]
          refine ⟨fun h => ?_, fun _ => rfl⟩
          rcases h with h | h | h | h
          · exact absurd h (by decide)
          · exact absurd h h0
          · exact absurd h h1
          · exact absurd h.1 h2
theorem s_mayCome {μ : zM} {ld : Nat → Nat} {b lf : Nat} (hC : (μ 23).1 3 b = nI (ld b)) (hb : b < 7) (hld : ld b < 2 ^ 31) (hlf : lf < 2 ^ 31) : (lf.testBit b = true ∧ ld b &&& lf = 0 → f_Se_mayCome μ (nI b) (nI lf) = some (nI 1)) ∧ (¬ (lf.testBit b = true ∧ ld b &&& lf = 0) → f_Se_mayCome μ (nI b) (nI lf) = some (nI 0)) := by
  have e0 : f_Se_mayCome_23 μ = some (nI 0) := by unfold f_Se_mayCome_23 f_Se_mayCome_24; exact if_pos (Or.inl rfl)
  have e1 : f_Se_mayCome_24 μ (nI 1) = some (nI 1) := if_pos (Or.inr rfl)
  have hx : ld b &&& lf < 2 ^ 31 := Nat.lt_of_le_of_lt Nat.and_le_left hld
  unfold f_Se_mayCome
  have cb : (nI b).toNatClampNeg = b := nI_clamp (by omega)
  rw [s_hasBit hlf (by omega), Option.bind_some, e0, e1]
  simp only [cb, hC, b_and]
  by_cases h1 : lf.testBit b = true
  · rw [if_pos h1, if_neg nI_1_0, if_pos (zin_nI hb (by decide))]
    by_cases h2 : ld b &&& lf = 0
    · rw [h2, if_pos rfl]
      exact ⟨fun _ => rfl, fun h => absurd ⟨h1, rfl⟩ h⟩
    · rw [if_neg (fun q => h2 ((nI_eq hx (by decide)).mp q))]
      exact ⟨fun h => absurd h.2 h2, fun _ => rfl⟩
  · rw [if_neg h1, if_pos rfl]
    exact ⟨fun h => absurd h.1 h1, fun _ => rfl⟩
def goSp (N W : Nat) (a : aS) (ld lo hi : Nat → Nat) (only : Bool) (D k : Nat) : Prop := ∀ p o st μ, p + k = a.1 0 → seI μ a ld lo hi only W st o p → (∀ q, q < p → accP a ld lo hi o q) → st.1 ≤ W → wtd only st (pkN (oF a o) p) (lsN (oO a o) p) → st.1 + (ordL (a.1 0) k p (lfN o (a.1 0) p) o).length ≤ 5040 → ∃ μ', f_Se_goD N D μ (nI p) (nI (lfN o (a.1 0) p)) (nI (pkN (oF a o) p)) (nI (lsN (oO a o) p)) = some μ' ∧ seI μ' a ld lo hi only W ((ordL (a.1 0) k p (lfN o (a.1 0) p) o).foldl (sV a ld lo hi only W) st) o p ∧ ∀ x, x ≠ 22 → x ≠ 23 → μ' x = μ x
theorem go_leaf {N W D : Nat} {a : aS} {ld lo hi : Nat → Nat} {only : Bool} (hw : wfA a) : goSp N W a ld lo hi only (D + 1) 0 := by
  intro p o st μ hp hI hacc hsW hwt hlen
  have h7 := hw.1.1
  obtain ⟨hC, hS, hr, hR, b2, b3⟩ := hI
  have hpn : p = a.1 0 := by omega
  subst hpn
  have e : (ordL (a.1 0) 0 (a.1 0) (lfN o (a.1 0) (a.1 0)) o).foldl (sV a ld lo hi only W) st = (st.1 + 1, oPk a o, oLs a o, o) := sV_y ⟨hacc, hsW, hwt⟩
  refine ⟨zset μ 23 (zIr (zI (zI (zI (μ 23) 0 9 (nI (st.1 + 1))) 0 11 (nI (pkN (oF a o) (a.1 0)))) 0 12 (nI (lsN (oO a o) (a.1 0)))) 11 (va_cpy ((μ 23).1 6) ((μ 23).1 11) 0 0 7)), ?_, ?_, fun x _ h23 => zset_n _ _ h23⟩
  · show f_Se_goThrough_b N (f_Se_goD N D) μ _ _ _ _ = _
    unfold f_Se_goThrough_b f_Se_goThrough_14 f_Se_keepFound
    rw [hC.1.1, if_pos (Int32.le_refl _)]
    simp only [bnd, zset_s, zset_ss, Option.bind_some, hS.1, nI_add]
    rfl
  · rw [e]
    refine ⟨?_, ?_, ?_, ?_, ?_, ?_⟩
    · rw [zset_s]; exact hC
    · rw [zset_s]
      refine ⟨rfl, rfl, rfl, fun _ p hp => ?_⟩
      exact (cpy7 _ _ (by omega)).trans (hr p hp)
    · rw [zset_s]; exact hr
    · rw [zset_n _ _ (by decide)]; exact hR
    · exact oPk_le a o
    · have := lsN_le (F := oO a o) (fun p => pcb_le 20 _) (a.1 0)
      show lsN (oO a o) (a.1 0) ≤ 140
      omega
theorem go_loop {N W D k p : Nat} {a : aS} {ld lo hi o : Nat → Nat} {only : Bool} (hN : 200 ≤ N) (hw : wfA a) (hld : ∀ i, i < a.1 0 → ld i < 2 ^ 31) (hlo : ∀ i, i < a.1 0 → lo i < 2 ^ 31) (hhi : ∀ i, i < a.1 0 → hi i < 2 ^ 31) (hW : W < 2 ^ 31) (ih : goSp N W a ld lo hi only D k) (hp : p + (k + 1) = a.1 0) (hacc : ∀ q, q < p → accP a ld lo hi o q) : ∀ m b nf st μ, b + m = a.1 0 → m < nf → seI μ a ld lo hi only W st o p → st.1 + (flt (brn (a.1 0) k p (lfN o (a.1 0) p) o) m b).length ≤ 5040 → ∃ μ', f_Se_goThrough_25 N (f_Se_goD N D) nf μ (nI p) (nI (lfN o (a.1 0) p)) (nI (pkN (oF a o) p)) (nI (lsN (oO a o) p)) (nI b) = some μ' ∧ seI μ' a ld lo hi only W ((flt (brn (a.1 0) k p (lfN o (a.1 0) p) o) m b).foldl (sV a ld lo hi only W) st) o p ∧ ∀ x, x ≠ 22 → x ≠ 23 → μ' x = μ x := by
  have h7 := hw.1.1
  have hlf : lfN o (a.1 0) p < 2 ^ 31 := lt31 h7 (lfN_lt o (a.1 0) p)
  intro m
  induction m with
  | zero =>
    intro b nf st μ hb hf hI hlen
    obtain ⟨nf, rfl⟩ : ∃ t, nf = t + 1 := ⟨nf - 1, by omega⟩
    refine ⟨μ, ?_, hI, fun _ _ _ => rfl⟩
    rw [f_Se_goThrough_25, hI.1.1.1, if_pos (nI_le (by omega) (by omega))]
    rfl
  | succ m ihm =>
    intro b nf st μ hb hf hI hlen
    obtain ⟨nf, rfl⟩ : ∃ t, nf = t + 1 := ⟨nf - 1, by omega⟩
    obtain ⟨hC, hS, hr, hR, b2, b3⟩ := id hI
    have hsp : flt (brn (a.1 0) k p (lfN o (a.1 0) p) o) (m + 1) b = brn (a.1 0) k p (lfN o (a.1 0) p) o b ++ flt (brn (a.1 0) k p (lfN o (a.1 0) p) o) m (b + 1) := rfl
    rw [hsp, List.length_append] at hlen
    rw [hsp, f_Se_goThrough_25, hC.1.1, if_neg (nI_ge (by omega) (by omega)), hC.1.2.2, hS.1]
    by_cases hcw : W < st.1
    · rw [if_pos (nI_lt hcw (by omega))]
      refine ⟨μ, rfl, ?_, fun _ _ _ => rfl⟩
      rw [sV_skip _ (fun o' _ q => by have := q.2.1; omega)]
      exact hI
    · have next : ∀ st2 μ2, seI μ2 a ld lo hi only W st2 o p → (brn (a.1 0) k p (lfN o (a.1 0) p) o b).foldl (sV a ld lo hi only W) st = st2 → (∀ x, x ≠ 22 → x ≠ 23 → μ2 x = μ x) → ∃ μ', f_Se_goThrough_172 N (f_Se_goD N D) (f_Se_goThrough_25 N (f_Se_goD N D) nf) μ2 (nI p) (nI (lfN o (a.1 0) p)) (nI (pkN (oF a o) p)) (nI (lsN (oO a o) p)) (nI b) = some μ' ∧ seI μ' a ld lo hi only W ((brn (a.1 0) k p (lfN o (a.1 0) p) o b ++ flt (brn (a.1 0) k p (lfN o (a.1 0) p) o) m (b + 1)).foldl (sV a ld lo hi only W) st) o p ∧ ∀ x, x ≠ 22 → x ≠ 23 → μ' x = μ x := by
        intro st2 μ2 h2 e2 k2
        have hl2 := sV_len (a := a) (ld := ld) (lo := lo) (hi := hi) (only := only) (W := W) (brn (a.1 0) k p (lfN o (a.1 0) p) o b) st
        rw [e2] at hl2
        obtain ⟨μ', e, i', k'⟩ := ihm (b + 1) nf st2 μ2 (by omega) (by omega) h2 (by omega)
        refine ⟨μ', ?_, ?_, fun x h1 h2 => (k' x h1 h2).trans (k2 x h1 h2)⟩
        · simp only [f_Se_goThrough_172, bnd, nI_add]; exact e
        · rw [List.foldl_append, e2]; exact i'
      obtain ⟨m1, m0⟩ := s_mayCome (μ := μ) (ld := ld) (b := b) (hC.2 b (by omega)).2.1 (by omega) (hld b (by omega)) hlf
      rw [if_neg (nI_nlt (by omega) (by omega))]
      by_cases hm : (lfN o (a.1 0) p).testBit b = true ∧ ld b &&& lfN o (a.1 0) p = 0
      · have hpn : p < a.1 0 := by omega
        have eT : tS a (va_up o p b) p = aN (a.2.1 b) (a.1 1) := by unfold tS; rw [vu_s]
        obtain ⟨R', eR, aR, kR⟩ := rdAll_s (T := tS a (va_up o p b)) hN (aL_wf hw) h7 hpn (by rw [eT]; exact aN_lt (hw.2.1 b (by omega)).1.2) (rdAll_cg hR (tS_ag (agr_up o p b)))
        rw [eT] at eR
        have zp : zin (nI p) 7 := zin_nI (by omega) (by decide)
        have zb : zin (nI b) 7 := zin_nI (by omega) (by decide)
        have cp : (nI p).toNatClampNeg = p := nI_clamp (by omega)
        have cb : (nI b).toNatClampNeg = b := nI_clamp (by omega)
        obtain ⟨f7, -, f9⟩ := aR.2.2.1 p (by omega)
        have e7 : f_J_bitCount (R'.1 7 p) = some (nI (oF a (va_up o p b) p)) := by rw [f7]; exact s_bitCount (mkb_lt _ 20)
        have e9 : f_J_bitCount (R'.1 9 p) = some (nI (oO a (va_up o p b) p)) := by rw [f9]; exact s_bitCount (mkb_lt _ 20)
        have z22 : (zset μ 22 R') 22 = R' := zset_s _ _ _
        have z23 : (zset μ 22 R') 23 = μ 23 := zset_n _ _ (by decide)
        have bF : oF a (va_up o p b) p ≤ 20 := pcb_le 20 _
        have bP : pkN (oF a o) p ≤ 20 := pkN_le (fun q => pcb_le 20 _) p
        have bL : lsN (oO a (va_up o p b)) (p + 1) ≤ 20 * (p + 1) := lsN_le (fun q => pcb_le 20 _) (p + 1)
        have bP1 : pkN (oF a (va_up o p b)) (p + 1) ≤ 20 := pkN_le (fun q => pcb_le 20 _) (p + 1)
        have ePk : (if nI (pkN (oF a o) p) < nI (oF a (va_up o p b) p) then nI (oF a (va_up o p b) p) else nI (pkN (oF a o) p)) = nI (pkN (oF a (va_up o p b)) (p + 1)) := by
          have ec : pkN (oF a (va_up o p b)) p = pkN (oF a o) p := pkN_cg p (fun q hq => oF_ag (agr_up o p b) hq)
          show _ = nI (if pkN (oF a (va_up o p b)) p < oF a (va_up o p b) p then oF a (va_up o p b) p else pkN (oF a (va_up o p b)) p)
          rw [ec]
          by_cases hc : pkN (oF a o) p < oF a (va_up o p b) p
          · rw [if_pos hc, if_pos (nI_lt hc (by omega))]
          · rw [if_neg hc, if_neg (nI_nlt (by omega) (by omega))]
        have eLs : nI (lsN (oO a o) p) + nI (oO a (va_up o p b) p) = nI (lsN (oO a (va_up o p b)) (p + 1)) := by
          have ec : lsN (oO a (va_up o p b)) p = lsN (oO a o) p := lsN_cg p (fun q hq => oO_ag (agr_up o p b) hq)
          show _ = nI (lsN (oO a (va_up o p b)) p + oO a (va_up o p b) p)
          rw [ec, nI_add]
        have hIR : seI (zset μ 22 R') a ld lo hi only W st o p := by
          refine ⟨by rw [z23]; exact hC, by rw [z23]; exact hS, by rw [z23]; exact hr, ?_, b2, b3⟩
          rw [z22]
          exact rdAll_cg (rdAll_le aR (by omega)) (fun q hq => (tS_ag (agr_up o p b) q hq).symm)
        have k22 : ∀ x, x ≠ 22 → x ≠ 23 → (zset μ 22 R') x = μ x := fun x h _ => zset_n _ _ h
        have hopp : ∀ o' ∈ brn (a.1 0) k p (lfN o (a.1 0) p) o b, agr (va_up o p b) o' (p + 1) := fun o' ho' => (brn_ag ho').2
        obtain ⟨w1, w0⟩ := s_isWanted (μ := zset μ 22 R') (by rw [z23]; exact hC) (by rw [z23]; exact hS) (by omega) b2 b3 (show pkN (oF a (va_up o p b)) (p + 1) ≤ 1000 by omega) (show lsN (oO a (va_up o p b)) (p + 1) ≤ 1000 by omega)
        rw [m1 hm, Option.bind_some, if_neg nI_1_0, if_pos zb]
        simp only [cb, (hC.2 b (by omega)).1, eR, Option.bind_some]
        dsimp only [bnd]
        rw [z22, z23, if_pos zp]
        simp only [cp, e7, Option.bind_some]
        simp only [if_pos zp, e9, Option.bind_some]
        rw [ePk, eLs]
        simp only [(hC.2 p hpn).2.2.1, (hC.2 p hpn).2.2.2]
        by_cases hl : oF a (va_up o p b) p < lo p
        · rw [if_pos (nI_lt hl (hlo p hpn))]
          refine next st _ hIR (sV_skip _ (fun o' ho' q => ?_)) k22
          have := (q.1 p hpn).2.1
          rw [oF_ag (hopp o' ho') (by omega)] at this
          omega
        · rw [if_neg (nI_nlt (by omega) (by omega))]
          by_cases hh : hi p < oF a (va_up o p b) p
          · rw [if_pos (nI_lt hh (by omega))]
            refine next st _ hIR (sV_skip _ (fun o' ho' q => ?_)) k22
            have := (q.1 p hpn).2.2
            rw [oF_ag (hopp o' ho') (by omega)] at this
            omega
          · rw [if_neg (nI_nlt (by omega) (hhi p hpn))]
            by_cases hwt : wtd only st (pkN (oF a (va_up o p b)) (p + 1)) (lsN (oO a (va_up o p b)) (p + 1))
            · rw [w1 hwt]
              simp only [Option.bind_some, if_neg nI_1_0, b_one (show b < 32 by omega), b_andN, nI_add]
              have eb : brn (a.1 0) k p (lfN o (a.1 0) p) o b = ordL (a.1 0) k (p + 1) (lfN (va_up o p b) (a.1 0) (p + 1)) (va_up o p b) := by
                rw [lfN_up]; exact if_pos hm.1
              have elf : lfN (va_up o p b) (a.1 0) p = lfN o (a.1 0) p := lfN_congr _ p (agr_up o p b)
              obtain ⟨μ3, g1, g2, g3⟩ := ih (p + 1) (va_up o p b) st (zset (zset μ 22 R') 23 (zI (μ 23) 6 p (nI b))) (by omega) (by
                refine ⟨by rw [zset_s]; exact hC, by rw [zset_s]; exact hS, ?_, ?_, b2, b3⟩
                · rw [zset_s]
                  intro q hq
                  rw [zI_e]
                  by_cases hqp : q = p
                  · subst hqp; rw [upd_s, vu_s]
                  · rw [upd_n _ _ hqp, vu_n _ _ hqp]; exact hr q (by omega)
                · rw [zset_n _ _ (by decide), z22]; exact aR) (fun q hq => by
                by_cases hqp : q = p
                · subst hqp
                  refine ⟨?_, by omega, by omega⟩
                  rw [vu_s, elf]; exact hm.2
                · exact accP_ag (agr_up o p b) (by omega) (hacc q (by omega))) (by omega) hwt (by rw [← eb]; omega)
              rw [lfN_up] at g1
              rw [g1, Option.bind_some]
              rw [← eb] at g2
              exact next _ μ3 (seI_dn g2) rfl (fun x h1 h2 => by rw [g3 x h1 h2, zset_n _ _ h2, zset_n _ _ h1])
            · rw [w0 hwt]
              simp only [Option.bind_some, if_pos]
              refine next st _ hIR (sV_skip _ (fun o' ho' q => hwt ?_)) k22
              refine wtd_le q.2.2 ?_ ?_
              · have e1 : pkN (oF a o') (p + 1) = pkN (oF a (va_up o p b)) (p + 1) := pkN_cg _ (fun q hq => oF_ag (hopp o' ho') hq)
                have e2 := pkN_mono (oF a o') (p + 1) k
                rw [e1, show p + 1 + k = a.1 0 by omega] at e2
                exact e2
              · have e1 : lsN (oO a o') (p + 1) = lsN (oO a (va_up o p b)) (p + 1) := lsN_cg _ (fun q hq => oO_ag (hopp o' ho') hq)
                have e2 := lsN_mono (oO a o') (p + 1) k
                rw [e1, show p + 1 + k = a.1 0 by omega] at e2
                exact e2
      · rw [m0 hm, Option.bind_some, if_pos rfl]
        refine next st μ hI (sV_skip _ (fun o' ho' q => hm ?_)) (fun _ _ _ => rfl)
        obtain ⟨hb1, hag⟩ := brn_ag ho'
        have h1 := (q.1 p (by omega)).1
        rw [hag p (by omega), vu_s, lfN_congr _ p ((agr_up o p b).tr (hag.le (by omega)))] at h1
        exact ⟨hb1, h1⟩
theorem s_go {N W : Nat} {a : aS} {ld lo hi : Nat → Nat} {only : Bool} (hN : 200 ≤ N) (hw : wfA a) (hld : ∀ i, i < a.1 0 → ld i < 2 ^ 31) (hlo : ∀ i, i < a.1 0 → lo i < 2 ^ 31) (hhi : ∀ i, i < a.1 0 → hi i < 2 ^ 31) (hW : W < 2 ^ 31) : ∀ k D, k < D → goSp N W a ld lo hi only D k := by
  intro k
  induction k with
  | zero =>
    intro D hD
    obtain ⟨D, rfl⟩ : ∃ t, D = t + 1 := ⟨D - 1, by omega⟩
    exact go_leaf hw
  | succ k ih =>
    intro D hD
    obtain ⟨D, rfl⟩ : ∃ t, D = t + 1 := ⟨D - 1, by omega⟩
    intro p o st μ hp hI hacc hsW hwt hlen
    have h7 := hw.1.1
    rw [ordL_br] at hlen
    obtain ⟨μ', e, i', k'⟩ := go_loop hN hw hld hlo hhi hW (ih D (by omega)) hp hacc (a.1 0) 0 N st μ (by omega) (by omega) hI hlen
    refine ⟨μ', ?_, i', k'⟩
    show f_Se_goThrough_b N (f_Se_goD N D) μ _ _ _ _ = _
    unfold f_Se_goThrough_b
    rw [hI.1.1.1, if_neg (nI_ge (by omega) (by omega)), if_pos (nI_lt (by omega) (by decide))]
    exact e
