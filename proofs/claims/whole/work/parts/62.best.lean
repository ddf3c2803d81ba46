/-! the best order -/
theorem nuN_lt {o : Nat → Nat} : ∀ n, (∀ p, p < n → o p < 10) → nuN o n < 10 ^ n := by
  intro n
  induction n with
  | zero => intro _; exact Nat.one_pos
  | succ n ih =>
    intro h
    have h1 := ih (fun p hp => h p (by omega))
    have h2 := h n (by omega)
    show 10 * nuN o n + o n < 10 ^ (n + 1)
    rw [Nat.pow_succ]
    omega
theorem nuN_31 {o : Nat → Nat} {n : Nat} (hn : n ≤ 7) (h : ∀ p, p < n → o p < n) : nuN o n < 2 ^ 31 := by
  have h1 := nuN_lt (o := o) n (fun p hp => by have := h p hp; omega)
  have h2 : 10 ^ n ≤ 10 ^ 7 := Nat.pow_le_pow_right (by decide) hn
  omega
noncomputable def bV (a : aS) (st : sT) (o : Nat → Nat) : sT := if cB (holdN a.2.2.1 o (a.1 0) ∧ wtd true st (oPk a o) (oLs a o)) = true then (st.1 + 1, oPk a o, oLs a o, o) else st
theorem fold_best {a : aS} {ld lo hi : Nat → Nat} {W : Nat} : ∀ (l : List (Nat → Nat)) (st : sT), st.1 + l.length ≤ W + 1 → (∀ o ∈ l, accA a ld lo hi o ↔ holdN a.2.2.1 o (a.1 0)) → l.foldl (sV a ld lo hi true W) st = l.foldl (bV a) st := by
  intro l
  induction l with
  | nil => intro st _ _; rfl
  | cons o l ih =>
    intro st hl hP
    rw [List.length_cons] at hl
    rw [List.foldl_cons, List.foldl_cons]
    have hP' : ∀ o ∈ l, accA a ld lo hi o ↔ holdN a.2.2.1 o (a.1 0) := fun o' ho' => hP o' (List.mem_cons_of_mem _ ho')
    by_cases h : holdN a.2.2.1 o (a.1 0) ∧ wtd true st (oPk a o) (oLs a o)
    · have ht : tkn a ld lo hi true W st o := ⟨(hP o (List.mem_cons_self ..)).mpr h.1, by omega, h.2⟩
      rw [sV_y ht, show bV a st o = (st.1 + 1, oPk a o, oLs a o, o) from if_pos (cB_t.mpr h)]
      exact ih _ (by show st.1 + 1 + l.length ≤ W + 1; omega) hP'
    · have ht : ¬ tkn a ld lo hi true W st o := fun q => h ⟨(hP o (List.mem_cons_self ..)).mp q.1, q.2.2⟩
      rw [sV_n ht, show bV a st o = st from if_neg (fun q => h (cB_t.mp q))]
      exact ih _ (by omega) hP'
/-- the reference's best one so far -/
def bsI (M : zOb) (n : Nat) (st : sT) : Prop := (st.1 = 0 → M.1 0 19 = -4) ∧ (0 < st.1 → M.1 0 19 = nI (nuN st.2.2.2 n) ∧ M.1 0 20 = nI st.2.1 ∧ M.1 0 21 = nI st.2.2.1 ∧ st.2.1 ≤ 20 ∧ st.2.2.1 ≤ 140 ∧ ∀ p, p < n → st.2.2.2 p < n)
theorem bsI_0 {M M' : zOb} {n : Nat} {st : sT} (e : M'.1 0 = M.1 0) (h : bsI M n st) : bsI M' n st := by unfold bsI; rw [e]; exact h
theorem s_laysBest {N : Nat} (hN : 6000 ≤ N) {M0 : zOb} {a : aS} (hw : wfA a) (hM : repM (M0.1 1) a) : ∃ Mf, f_Mo_laysBest N M0 = some Mf ∧ wkJ M0 Mf ∧ bsI Mf (a.1 0) ((ords (a.1 0)).foldl (bV a) (0, 0, 0, id)) := by
  have h7 := hw.1.1
  have hN2 : 200 ≤ N := by omega
  have h1 : ∀ nf M (s : sT) o, (wkJ M0 M ∧ bsI M (a.1 0) s) → rowIs (M.1 13) o (a.1 0) → perm o (a.1 0) → ∃ M', (wkJ M0 M' ∧ bsI M' (a.1 0) (bV a s o)) ∧ M'.1 13 = M.1 13 ∧ f_Mo_laysBest_12 N (nf + 1) M (nI 1) = (f_Mo_nextOrder N M').bind (fun q => f_Mo_laysBest_12 N nf q.2 q.1) := by
    intro nf M s o ⟨h, hb⟩ hr hp
    have hMi : repM (M.1 1) a := by rw [h.one]; exact hM
    obtain ⟨y, n⟩ := s_isHolding hN2 h7 (hMi.1 0 (by decide)) (fun i hi => (hMi.2 i hi).2.1) (wf_acy hw) hp hr
    by_cases hh : holdN a.2.2.1 o (a.1 0)
    · obtain ⟨M', e, k, pk, ls, -⟩ := s_brings hN2 hw hMi hp hr
      have k0 : M'.1 0 = M.1 0 := k.1 0 (by omega)
      have hb' := bsI_0 k0 hb
      have bp := oPk_le a o
      have bl : oLs a o ≤ 140 := by
        have := lsN_le (F := oO a o) (fun p => pcb_le 20 _) (a.1 0)
        show lsN (oO a o) (a.1 0) ≤ 140
        omega
      have num : f_Mo_number N M' = some (nI (nuN o (a.1 0))) := s_numberM hN2 h7 (by rw [k.1 1 (by omega)]; exact hMi.1 0 (by decide)) (fun p hp => by rw [k.1 13 (by omega)]; exact hr p hp)
      have run : f_Mo_laysBest_12 N (nf + 1) M (nI 1) = (if (M'.1 0 19) < nI 0 then f_Mo_laysBest_68 N (f_Mo_laysBest_12 N nf) M' (nI (oPk a o)) (nI (oLs a o)) else (if nI (oPk a o) < (M'.1 0 20) then f_Mo_laysBest_68 N (f_Mo_laysBest_12 N nf) M' (nI (oPk a o)) (nI (oLs a o)) else (if nI (oPk a o) = (M'.1 0 20) then (if (M'.1 0 21) ≤ nI (oLs a o) then f_Mo_laysBest_86 N (f_Mo_laysBest_12 N nf) M' else f_Mo_laysBest_68 N (f_Mo_laysBest_12 N nf) M' (nI (oPk a o)) (nI (oLs a o))) else f_Mo_laysBest_86 N (f_Mo_laysBest_12 N nf) M'))) := by
        rw [f_Mo_laysBest_12, if_neg nI_1_0, y hh, Option.bind_some, if_neg nI_1_0, e, Option.bind_some, pk, Option.bind_some, ls, Option.bind_some]
      have yes : wtd true s (oPk a o) (oLs a o) → f_Mo_laysBest_12 N (nf + 1) M (nI 1) = f_Mo_laysBest_68 N (f_Mo_laysBest_12 N nf) M' (nI (oPk a o)) (nI (oLs a o)) := by
        intro hwt
        rw [run]
        by_cases h0 : s.1 = 0
        · rw [hb'.1 h0, if_pos (by decide)]
        · obtain ⟨c1, c2, c3, c4, c5, c6⟩ := hb'.2 (by omega)
          rw [c1, if_neg (nI_nlt (Nat.zero_le _) (nuN_31 h7 c6)), c2, c3]
          by_cases h2 : oPk a o < s.2.1
          · rw [if_pos (nI_lt h2 (by omega))]
          · rw [if_neg (nI_nlt (by omega) (by omega))]
            rcases hwt with q | q | q | q
            · exact absurd q (by decide)
            · exact absurd q h0
            · exact absurd q h2
            · rw [if_pos (by rw [q.1]), if_neg (nI_ge q.2 (by omega))]
      have no : ¬ wtd true s (oPk a o) (oLs a o) → f_Mo_laysBest_12 N (nf + 1) M (nI 1) = f_Mo_laysBest_86 N (f_Mo_laysBest_12 N nf) M' := by
        intro hwt
        rw [run]
        have h0 : ¬ s.1 = 0 := fun q => hwt (Or.inr (Or.inl q))
        obtain ⟨c1, c2, c3, c4, c5, c6⟩ := hb'.2 (by omega)
        have h2 : ¬ oPk a o < s.2.1 := fun q => hwt (Or.inr (Or.inr (Or.inl q)))
        rw [c1, if_neg (nI_nlt (Nat.zero_le _) (nuN_31 h7 c6)), c2, c3, if_neg (nI_nlt (by omega) (by omega))]
        by_cases h3 : oPk a o = s.2.1
        · have h4 : ¬ oLs a o < s.2.2.1 := fun q => hwt (Or.inr (Or.inr (Or.inr ⟨h3, q⟩)))
          rw [if_pos (by rw [h3]), if_pos (nI_le (by omega) (by omega))]
        · rw [if_neg (fun q => h3 ((nI_eq (by omega) (by omega)).mp q))]
      by_cases hwt : wtd true s (oPk a o) (oLs a o)
      · refine ⟨zI (zI (zI M' 0 19 (nI (nuN o (a.1 0)))) 0 20 (nI (oPk a o))) 0 21 (nI (oLs a o)), ⟨?_, ?_⟩, k.1 13 (by omega), ?_⟩
        · exact ((h.tr k.wkJ).tr (wkJ.fld _ (by omega) _)).tr ((wkJ.fld _ (by omega) _).tr (wkJ.fld _ (by omega) _))
        · rw [show bV a s o = (s.1 + 1, oPk a o, oLs a o, o) from if_pos (cB_t.mpr ⟨hh, hwt⟩)]
          exact ⟨fun q => absurd q (Nat.succ_ne_zero _), fun _ => ⟨rfl, rfl, rfl, bp, bl, hp.1⟩⟩
        · rw [yes hwt, f_Mo_laysBest_68, num, Option.bind_some]
          rfl
      · refine ⟨M', ⟨h.tr k.wkJ, ?_⟩, k.1 13 (by omega), ?_⟩
        · rw [show bV a s o = s from if_neg (fun q => hwt (cB_t.mp q).2)]
          exact hb'
        · rw [no hwt]
          rfl
    · refine ⟨M, ⟨h, ?_⟩, rfl, ?_⟩
      · rw [show bV a s o = s from if_neg (fun q => hh (cB_t.mp q).1)]
        exact hb
      · rw [f_Mo_laysBest_12, if_neg nI_1_0, n hh, Option.bind_some, if_pos rfl]
        rfl
  obtain ⟨Mf, i, e⟩ := walkA (σ := sT) hN h7 (fun nf M _ x => f_Mo_laysBest_12 N nf M x) (fun M s => wkJ M0 M ∧ bsI M (a.1 0) s) (bV a) (fun M _ => some M) (fun M s h => by rw [h.1.one]; exact hM.1 0 (by decide)) (fun M s r h => ⟨h.1.tr (wkJ.r13 M r), bsI_0 rfl h.2⟩) (fun nf M s h => by
    show f_Mo_laysBest_12 N (nf + 1) M (nI 0) = _
    rw [f_Mo_laysBest_12, if_pos rfl]) h1 (M := zIr (zI M0 0 19 (-4)) 13 (til nI ((zI M0 0 19 (-4)).1 13) 7)) (s := (0, 0, 0, id)) ⟨(wkJ.fld M0 (by omega) _).tr (wkJ.r13 _ _), ⟨fun _ => rfl, fun q => absurd q (Nat.lt_irrefl 0)⟩⟩ (first_row _ h7)
  refine ⟨Mf, ?_, i.1, i.2⟩
  unfold f_Mo_laysBest
  dsimp only [bnd]
  rw [s_firstOrder hN2, Option.bind_some]
  exact e
/-- some order holds -/
theorem pcb_aN (x b : Nat) : ∀ k, pcb k x ≤ pcb k (aN x (2 ^ b)) + (if b < k then 1 else 0) := by
  intro k
  induction k with
  | zero => exact Nat.zero_le _
  | succ k ih =>
    show pcb k x + (if x.testBit k then 1 else 0) ≤ pcb k (aN x (2 ^ b)) + (if (aN x (2 ^ b)).testBit k then 1 else 0) + (if b < k + 1 then 1 else 0)
    rw [aN_bit, tb_pow]
    by_cases hb : b = k
    · subst hb
      rw [if_neg (Nat.lt_irrefl _)] at ih
      rw [if_pos (Nat.lt_succ_self _)]
      split <;> omega
    · have e : (x.testBit k && !decide (b = k)) = x.testBit k := by simp [hb]
      rw [e]
      by_cases hk : b < k
      · rw [if_pos hk] at ih
        rw [if_pos (show b < k + 1 by omega)]
        omega
      · rw [if_neg hk] at ih
        omega
theorem pcb_full : ∀ n, n ≤ 7 → pcb n (2 ^ n - 1) = n := by decide
theorem lfN_pcb {o : Nat → Nat} {n : Nat} (hn : n ≤ 7) : ∀ p, n ≤ pcb n (lfN o n p) + p := by
  intro p
  induction p with
  | zero =>
    show n ≤ pcb n (2 ^ n - 1) + 0
    rw [pcb_full n hn]
    omega
  | succ p ih =>
    have h := pcb_aN (lfN o n p) (o p) n
    show n ≤ pcb n (aN (lfN o n p) (2 ^ o p)) + (p + 1)
    split at h <;> omega
theorem pcb_pos {x : Nat} : ∀ n, 0 < pcb n x → ∃ b, b < n ∧ x.testBit b = true := by
  intro n
  induction n with
  | zero => intro h; exact absurd h (Nat.lt_irrefl 0)
  | succ n ih =>
    intro h
    by_cases hb : x.testBit n = true
    · exact ⟨n, by omega, hb⟩
    · have e : pcb (n + 1) x = pcb n x := by
        show pcb n x + (if x.testBit n then 1 else 0) = pcb n x
        rw [if_neg hb, Nat.add_zero]
      rw [e] at h
      obtain ⟨b, h1, h2⟩ := ih h
      exact ⟨b, by omega, h2⟩
theorem min_left {f : Nat → Nat} {n lf : Nat} (ha : acy f n) (hl : lf < 2 ^ n) : ∀ b, lf.testBit b = true → ∃ b', b' < n ∧ lf.testBit b' = true ∧ ldr f b' n &&& lf = 0 := by
  obtain ⟨-, rk, hr⟩ := ha
  have hbn : ∀ b, lf.testBit b = true → b < n := by
    intro b hb
    refine Nat.lt_of_not_le (fun h => ?_)
    have : 2 ^ n ≤ 2 ^ b := Nat.pow_le_pow_right (by decide) h
    rw [Nat.testBit_lt_two_pow (by omega)] at hb
    exact absurd hb (by decide)
  have key : ∀ r b, rk b < r → lf.testBit b = true → ∃ b', b' < n ∧ lf.testBit b' = true ∧ ldr f b' n &&& lf = 0 := by
    intro r
    induction r with
    | zero => intro b h _; exact absurd h (Nat.not_lt_zero _)
    | succ r ih =>
      intro b hb hlb
      by_cases h0 : ldr f b n &&& lf = 0
      · exact ⟨b, hbn b hlb, hlb, h0⟩
      · have : ∃ k, (ldr f b n).testBit k = true ∧ lf.testBit k = true := Classical.byContradiction (fun hc => h0 (and0.mpr (fun k h1 h2 => hc ⟨k, h1, h2⟩)))
        obtain ⟨k, h1, h2⟩ := this
        rw [ldr_bit, Bool.and_eq_true, decide_eq_true_iff] at h1
        have := hr k b h1.1 (hbn b hlb) h1.2
        exact ih k (by omega) h2
  intro b hb
  exact key (rk b + 1) b (Nat.lt_succ_self _) hb
theorem flt_in {α : Type} {F : Nat → List α} {x : α} {b : Nat} : ∀ m i, i ≤ b → b < i + m → x ∈ F b → x ∈ flt F m i := by
  intro m
  induction m with
  | zero => intro i h1 h2 _; omega
  | succ m ih =>
    intro i h1 h2 h3
    show x ∈ F i ++ flt F m (i + 1)
    by_cases hb : b = i
    · subst hb; exact List.mem_append_left _ h3
    · exact List.mem_append_right _ (ih (i + 1) (by omega) (by omega) h3)
theorem ex_path {f : Nat → Nat} {n : Nat} (hn : n ≤ 7) (ha : acy f n) : ∀ k p o, p + k = n → ∃ o' ∈ ordL n k p (lfN o n p) o, ∀ q, p ≤ q → q < n → ldr f (o' q) n &&& lfN o' n q = 0 := by
  intro k
  induction k with
  | zero =>
    intro p o hp
    exact ⟨o, List.mem_singleton.mpr rfl, fun q h1 h2 => by omega⟩
  | succ k ih =>
    intro p o hp
    have h1 := lfN_pcb (o := o) hn p
    obtain ⟨b0, -, hb0⟩ := pcb_pos (x := lfN o n p) n (by omega)
    obtain ⟨b, hbn, hb, hz⟩ := min_left ha (lfN_lt o n p) b0 hb0
    obtain ⟨o', ho', hq⟩ := ih (p + 1) (va_up o p b) (by omega)
    have hag := ordL_agr n k (p + 1) (va_up o p b) o' ho'
    rw [lfN_up] at ho'
    refine ⟨o', ?_, fun q h1 h2 => ?_⟩
    · rw [ordL_br]
      refine flt_in (b := b) n 0 (by omega) (by omega) ?_
      unfold brn
      rw [if_pos hb]
      exact ho'
    · by_cases hqp : q = p
      · subst hqp
        rw [hag q (by omega), vu_s, lfN_congr n q ((agr_up o q b).tr (hag.le (by omega)))]
        exact hz
      · exact hq q (by omega) h2
theorem ex_hold {a : aS} (hw : wfA a) : ∃ o ∈ ords (a.1 0), holdN a.2.2.1 o (a.1 0) := by
  obtain ⟨o, ho, h⟩ := ex_path hw.1.1 (wf_acy hw) (a.1 0) 0 id (by omega)
  have ho' : o ∈ ords (a.1 0) := ho
  exact ⟨o, ho', (hold_c (wf_acy hw) (ords_perm _ o ho')).mpr (fun p hp => h p (Nat.zero_le _) hp)⟩
theorem bV_mono (a : aS) : ∀ (l : List (Nat → Nat)) (st : sT), 0 < st.1 → 0 < (l.foldl (bV a) st).1 := by
  intro l
  induction l with
  | nil => intro st h; exact h
  | cons o l ih =>
    intro st h
    rw [List.foldl_cons]
    refine ih _ ?_
    unfold bV
    split
    · exact Nat.succ_pos _
    · exact h
theorem bV_pos (a : aS) : ∀ (l : List (Nat → Nat)) (st : sT), (∃ o ∈ l, holdN a.2.2.1 o (a.1 0)) → 0 < (l.foldl (bV a) st).1 := by
  intro l
  induction l with
  | nil => intro st ⟨o, ho, _⟩; exact absurd ho (List.not_mem_nil)
  | cons o l ih =>
    intro st ⟨o', ho', hh⟩
    rw [List.foldl_cons]
    rcases List.mem_cons.mp ho' with e | e
    · subst e
      by_cases h0 : st.1 = 0
      · refine bV_mono a l _ ?_
        rw [show bV a st o' = (st.1 + 1, oPk a o', oLs a o', o') from if_pos (cB_t.mpr ⟨hh, Or.inr (Or.inl h0)⟩)]
        exact Nat.succ_pos _
      · refine bV_mono a l _ ?_
        unfold bV
        split
        · exact Nat.succ_pos _
        · omega
    · exact ih _ ⟨o', e, hh⟩
/-- the class's best one -/
theorem s_seekLeast {N : Nat} (hN : 200 ≤ N) {μ : zM} {a : aS} (hw : wfA a) (hS : repS (μ 0) a) (hr : rdOK (μ 22)) : ∃ μ', f_RS_seekBestOrGrown N μ (nI 0) = some μ' ∧ seS (μ' 23) (a.1 0) ((ords (a.1 0)).foldl (bV a) (0, 0, 0, id)) ∧ rdOK (μ' 22) ∧ ∀ x, x ≠ 22 → x ≠ 23 → μ' x = μ x := by
  have h7 := hw.1.1
  obtain ⟨R, S, ep, bR, rR, hC, hs⟩ := s_prepare hN hw hS hr
  have zx : ∀ S x, x ≠ 22 → x ≠ 23 → (zset (zset μ 22 R) 23 S) x = μ x := fun S x h1 h2 => by rw [zset_n _ _ h2, zset_n _ _ h1]
  have hC2 : seC (zI S 0 7 (nI 1)) a (aLd a) (fun _ => 0) (fun _ => 20) true 5040 := ⟨⟨hC.1.1, rfl, hC.1.2.2⟩, hC.2⟩
  have hs2 : seS (zI S 0 7 (nI 1)) (a.1 0) (0, 0, 0, id) := hs
  obtain ⟨μ1, es, i1, k1⟩ := s_seek (ld := aLd a) (lo := fun _ => 0) (hi := fun _ => 20) (only := true) (W := 5040) hN hw (aLd_lt hw) (fun _ _ => by decide) (fun _ _ => by decide) (by decide) (μ := zset (zset μ 22 R) 23 (zI S 0 7 (nI 1))) (seI_0 hw (by rw [zset_s]; exact hC2) (by rw [zset_s]; exact hs2) (by rw [zset_n _ _ (by decide), zset_s]; exact bR) (by rw [zset_n _ _ (by decide), zset_s]; exact rR))
  refine ⟨μ1, ?_, ?_, i1.2.2.2.1.2.2.2, fun x h1 h2 => (k1 x h1 h2).trans (zx _ x h1 h2)⟩
  · unfold f_RS_seekBestOrGrown f_RS_seekBestOrGrown_32 f_Se_seekLeast
    rw [ep, Option.bind_some, if_pos rfl]
    dsimp only [bnd]
    rw [zset_s, zset_ss, es]
    rfl
  · have := i1.2.1
    rw [fold_best _ _ (by have := ords_len h7; show 0 + (ords (a.1 0)).length ≤ 5040 + 1; omega) (fun o ho => acc_hold hw (ords_perm _ o ho))] at this
    exact this
