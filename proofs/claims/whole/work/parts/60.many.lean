/-! many, fit -/
theorem s_manyM {N w : Nat} (hN : 6000 ≤ N) {M0 : zOb} {a : aS} (hw : wfA a) (hM : repM (M0.1 1) a) (hw2 : w < 2) : ∃ Mf, f_Mo_many_20 N N (zIr M0 13 (til nI (M0.1 13) 7)) (nI w) (nI 0) (nI 1) = some (nI ((ords (a.1 0)).foldl (cV (fun o => holdN a.2.2.1 o (a.1 0) ∧ (w = 1 → oPk a o ≤ a.1 3))) 0), Mf) ∧ wkJ M0 Mf := by
  have h7 := hw.1.1
  have hb20 : a.1 3 ≤ 20 := hw.1.2.2.2.1
  have hN2 : 200 ≤ N := by omega
  have h1 : ∀ nf M (s : Nat) o, wkJ M0 M → rowIs (M.1 13) o (a.1 0) → perm o (a.1 0) → ∃ M', wkJ M0 M' ∧ M'.1 13 = M.1 13 ∧ f_Mo_many_20 N (nf + 1) M (nI w) (nI s) (nI 1) = (f_Mo_nextOrder N M').bind (fun q => f_Mo_many_20 N nf q.2 (nI w) (nI (cV (fun o => holdN a.2.2.1 o (a.1 0) ∧ (w = 1 → oPk a o ≤ a.1 3)) s o)) q.1) := by
    intro nf M s o h hr hp
    have hMi : repM (M.1 1) a := by rw [h.one]; exact hM
    obtain ⟨y, n⟩ := s_isHolding hN2 h7 (hMi.1 0 (by decide)) (fun i hi => (hMi.2 i hi).2.1) (wf_acy hw) hp hr
    by_cases hh : holdN a.2.2.1 o (a.1 0)
    · by_cases hw1 : w = 1
      · obtain ⟨M', e, k, pk, -, -⟩ := s_brings hN2 hw hMi hp hr
        refine ⟨M', h.tr k.wkJ, k.1 13 (by omega), ?_⟩
        have e3 : M'.1 1 3 = nI (a.1 3) := by rw [k.1 1 (by omega)]; exact hMi.1 3 (by decide)
        have bp := oPk_le a o
        rw [f_Mo_many_20, if_neg nI_1_0, y hh, Option.bind_some, if_neg nI_1_0, if_pos (by rw [hw1]), e, Option.bind_some, pk, Option.bind_some, e3]
        by_cases hb : oPk a o ≤ a.1 3
        · have ec : cV (fun o => holdN a.2.2.1 o (a.1 0) ∧ (w = 1 → oPk a o ≤ a.1 3)) s o = s + 1 := if_pos (cB_t.mpr ⟨hh, fun _ => hb⟩)
          rw [ec, if_neg (nI_nlt hb (by omega)), f_Mo_many_62, f_Mo_many_64, if_neg nI_1_0, f_Mo_many_75]
          dsimp only [bnd]
          rw [nI_add]
        · have ec : cV (fun o => holdN a.2.2.1 o (a.1 0) ∧ (w = 1 → oPk a o ≤ a.1 3)) s o = s := if_neg (fun q => hb ((cB_t.mp q).2 hw1))
          rw [ec, if_pos (nI_lt (by omega) (by omega)), f_Mo_many_62, f_Mo_many_64, if_pos rfl, f_Mo_many_75]
          dsimp only [bnd]
          rw [nI_add, Nat.add_zero]
      · refine ⟨M, h, rfl, ?_⟩
        have ec : cV (fun o => holdN a.2.2.1 o (a.1 0) ∧ (w = 1 → oPk a o ≤ a.1 3)) s o = s + 1 := if_pos (cB_t.mpr ⟨hh, fun q => absurd q hw1⟩)
        rw [ec, f_Mo_many_20, if_neg nI_1_0, y hh, Option.bind_some, if_neg nI_1_0, if_neg (fun q => hw1 ((nI_eq (by omega) (by decide)).mp q)), f_Mo_many_64, if_neg nI_1_0, f_Mo_many_75]
        dsimp only [bnd]
        rw [nI_add]
    · refine ⟨M, h, rfl, ?_⟩
      have ec : cV (fun o => holdN a.2.2.1 o (a.1 0) ∧ (w = 1 → oPk a o ≤ a.1 3)) s o = s := if_neg (fun q => hh (cB_t.mp q).1)
      rw [ec, f_Mo_many_20, if_neg nI_1_0, n hh, Option.bind_some, if_pos rfl, f_Mo_many_64, if_pos rfl, f_Mo_many_75]
      dsimp only [bnd]
      rw [nI_add, Nat.add_zero]
  obtain ⟨Mf, i, e⟩ := walkA (σ := Nat) hN h7 (fun nf M s x => f_Mo_many_20 N nf M (nI w) (nI s) x) (fun M _ => wkJ M0 M) (cV (fun o => holdN a.2.2.1 o (a.1 0) ∧ (w = 1 → oPk a o ≤ a.1 3))) (fun M s => some (nI s, M)) (fun M s h => by rw [h.one]; exact hM.1 0 (by decide)) (fun M s r h => h.tr (wkJ.r13 M r)) (fun nf M s h => by
    show f_Mo_many_20 N (nf + 1) M (nI w) (nI s) (nI 0) = _
    rw [f_Mo_many_20, if_pos rfl]) h1 (M := zIr M0 13 (til nI (M0.1 13) 7)) (s := 0) (wkJ.r13 _ _) (first_row _ h7)
  exact ⟨Mf, e, i⟩
/-- a bound for what is new -/
theorem s_limit {N b : Nat} (hN : 200 ≤ N) {μ : zM} {a : aS} (hw : wfA a) {R S : zOb} (hC : seC S a (aLd a) (fun _ => 0) (fun _ => 20) false 5040) (hS : seS S (a.1 0) (0, 0, 0, id)) : ∃ S', f_Se_limitFresh N (zset (zset μ 22 R) 23 S) (nI b) = some (zset (zset μ 22 R) 23 S') ∧ seC S' a (aLd a) (fun _ => 0) (fun _ => b) false 5040 ∧ seS S' (a.1 0) (0, 0, 0, id) := by
  obtain ⟨S', e, f1, f2⟩ := s_limitFresh (m := b) hN hw.1.1 (μ := zset (zset μ 22 R) 23 S) (by rw [zset_s]; exact hC.1.1)
  rw [zset_ss] at e
  rw [zset_s] at f2
  refine ⟨S', e, ⟨?_, fun i hi => ⟨?_, ?_, f1 i hi⟩⟩, ?_⟩
  · rw [f2 0 (by decide) (by decide)]; exact hC.1
  · rw [f2 2 (by decide) (by decide)]; exact (hC.2 i hi).1
  · rw [f2 3 (by decide) (by decide)]; exact (hC.2 i hi).2.1
  · unfold seS
    rw [f2 0 (by decide) (by decide)]
    exact ⟨hS.1, hS.2.1, hS.2.2.1, fun h => absurd h (Nat.lt_irrefl 0)⟩
theorem o_many {N : Nat} (hN : 6000 ≤ N) : zop_many N zInv := by
  intro μ x h
  have hN2 : 200 ≤ N := by omega
  obtain ⟨⟨a, hw, hS, hM⟩, hJ⟩ := id h
  have h7 := hw.1.1
  have hb20 : a.1 3 ≤ 20 := hw.1.2.2.2.1
  have e0 : (nI 0).toInt = 0 := rfl
  have e1 : (nI 1).toInt = 1 := rfl
  have el0 : (0 : Int64).toInt = 0 := by decide
  have el1 : (1 : Int64).toInt = 1 := by decide
  rcases arg_in x (n := 2) (by decide) with ⟨w, hw2, rfl⟩ | hx
  · obtain ⟨R, S, ep, bR, rR, hC, hs⟩ := s_prepare hN2 hw hS hJ.2.2.2.2.2
    have z0 : ∀ S, (zset (zset μ 22 R) 23 S) 0 = μ 0 := fun S => by rw [zset_n _ _ (by decide), zset_n _ _ (by decide)]
    have zx : ∀ S x, x ≠ 22 → x ≠ 23 → (zset (zset μ 22 R) 23 S) x = μ x := fun S x h1 h2 => by rw [zset_n _ _ h2, zset_n _ _ h1]
    have e6 : (μ 0).1 0 6 = nI (a.1 3) := hS.1 3 (by decide)
    obtain ⟨Mf, em, kM⟩ := s_manyM hN hw hM hw2
    have eM : f_Mo_many N (μ 29) (nI w) = some (nI ((ords (a.1 0)).foldl (cV (fun o => holdN a.2.2.1 o (a.1 0) ∧ (w = 1 → oPk a o ≤ a.1 3))) 0), Mf) := by
      unfold f_Mo_many
      rw [s_inI, nI_toInt (by omega), el0, el1, if_pos (by omega), Option.bind_some, if_neg nI_1_0, s_firstOrder hN2, Option.bind_some]
      exact em
    have fin : ∀ S' b, seC S' a (aLd a) (fun _ => 0) (fun _ => b) false 5040 → seS S' (a.1 0) (0, 0, 0, id) → b ≤ 20 → (∀ o ∈ ords (a.1 0), accA a (aLd a) (fun _ => 0) (fun _ => b) o ↔ holdN a.2.2.1 o (a.1 0) ∧ (w = 1 → oPk a o ≤ a.1 3)) → ∃ μ1, f_RS_many_41 N (zset (zset μ 22 R) 23 S') = some (nI ((ords (a.1 0)).foldl (cV (fun o => holdN a.2.2.1 o (a.1 0) ∧ (w = 1 → oPk a o ≤ a.1 3))) 0), μ1) ∧ (∀ x, x ≠ 22 → x ≠ 23 → μ1 x = μ x) ∧ rdOK (μ1 22) := by
      intro S' b hC' hs' hb hP
      obtain ⟨μ1, es, i1, k1⟩ := s_seek (ld := aLd a) (lo := fun _ => 0) (hi := fun _ => b) (only := false) (W := 5040) hN2 hw (aLd_lt hw) (fun _ _ => by decide) (fun _ _ => by omega) (by decide) (μ := zset (zset μ 22 R) 23 S') (seI_0 hw (by rw [zset_s]; exact hC') (by rw [zset_s]; exact hs') (by rw [zset_n _ _ (by decide), zset_s]; exact bR) (by rw [zset_n _ _ (by decide), zset_s]; exact rR))
      refine ⟨μ1, ?_, fun x h1 h2 => (k1 x h1 h2).trans (zx _ x h1 h2), i1.2.2.2.1.2.2.2⟩
      unfold f_RS_many_41
      rw [es, Option.bind_some, i1.2.1.1, fold_cnt _ _ _ (by have := ords_len h7; show 0 + (ords (a.1 0)).length ≤ 5040 + 1; omega) hP]
    have c1 : ¬ nI w < nI 0 := nI_nlt (Nat.zero_le _) (by omega)
    have c2 : nI w ≤ nI 1 := nI_le (by omega) (by decide)
    by_cases hw1 : w = 1
    · obtain ⟨S', e5, hC', hs'⟩ := s_limit (b := a.1 3) hN2 (μ := μ) (R := R) hw hC hs
      obtain ⟨μ1, g1, g2, g3⟩ := fin S' (a.1 3) hC' hs' hb20 (fun o ho => by
        rw [acc_fit hw (ords_perm _ o ho)]
        exact ⟨fun q => ⟨q.1, fun _ => q.2⟩, fun q => ⟨q.1, q.2 hw1⟩⟩)
      refine ⟨nI ((ords (a.1 0)).foldl (cV (fun o => holdN a.2.2.1 o (a.1 0) ∧ (w = 1 → oPk a o ≤ a.1 3))) 0), μ1, Mf, ?_, ?_, inv_srch h g2 g3 kM.keep kM.one⟩
      rotate_left
      · rw [g2 29 (by decide) (by decide)]; exact eM
      · unfold f_RS_many
        rw [if_neg c1, if_pos c2, ep, Option.bind_some, if_pos (by rw [hw1]), z0, e6, e5, Option.bind_some]
        exact g1
    · obtain ⟨μ1, g1, g2, g3⟩ := fin S 20 hC hs (by omega) (fun o ho => by
        rw [acc_hold hw (ords_perm _ o ho)]
        exact ⟨fun q => ⟨q, fun e => absurd e hw1⟩, fun q => q.1⟩)
      refine ⟨nI ((ords (a.1 0)).foldl (cV (fun o => holdN a.2.2.1 o (a.1 0) ∧ (w = 1 → oPk a o ≤ a.1 3))) 0), μ1, Mf, ?_, ?_, inv_srch h g2 g3 kM.keep kM.one⟩
      rotate_left
      · rw [g2 29 (by decide) (by decide)]; exact eM
      · unfold f_RS_many
        rw [if_neg c1, if_pos c2, ep, Option.bind_some, if_neg (fun q => hw1 ((nI_eq (by omega) (by decide)).mp q))]
        exact g1
  · refine ⟨-1, μ, μ 29, ?_, ?_, inv_same h⟩
    · unfold f_RS_many f_RS_many_9
      by_cases h1 : x < nI 0
      · rw [if_pos h1]
      · rw [if_neg h1, if_neg (fun q => hx ?_)]
        have h3 := i_le.mp q
        have h4 : ¬ x.toInt < (nI 0).toInt := fun g => h1 (i_lt.mpr g)
        omega
    · unfold f_Mo_many
      rw [s_inI, el0, el1, if_neg (fun q => hx (by omega)), Option.bind_some, if_pos rfl]
/-- the k-th that fits -/
noncomputable def ftR (P : (Nat → Nat) → Prop) : Nat → List (Nat → Nat) → Option (Nat → Nat)
  | _, [] => none
  | j, o :: l => if cB (P o) = true then (if j = 0 then some o else ftR P (j - 1) l) else ftR P j l
def ftA (n : Nat) : Option (Nat → Nat) → Int32
  | some o => nI (nuN o n)
  | none => -4
def fitP (a : aS) (o : Nat → Nat) : Prop := holdN a.2.2.1 o (a.1 0) ∧ oPk a o ≤ a.1 3
theorem fit_step {N nf j : Nat} (hN : 200 ≤ N) {M0 M : zOb} {a : aS} (hw : wfA a) (hM : repM (M0.1 1) a) (h : wkJ M0 M) {o : Nat → Nat} (hr : rowIs (M.1 13) o (a.1 0)) (hp : perm o (a.1 0)) (hj : j < 2 ^ 31) : (∃ Mf, wkJ M0 Mf ∧ f_Mo_fit_14 N (nf + 1) M (nI j) (nI 1) = some (nI (nuN o (a.1 0)), Mf) ∧ ∀ l, ftR (fitP a) j (o :: l) = some o) ∨ (∃ M' j', wkJ M0 M' ∧ M'.1 13 = M.1 13 ∧ j' < 2 ^ 31 ∧ f_Mo_fit_14 N (nf + 1) M (nI j) (nI 1) = (f_Mo_nextOrder N M').bind (fun q => f_Mo_fit_14 N nf q.2 (nI j') q.1) ∧ ∀ l, ftR (fitP a) j (o :: l) = ftR (fitP a) j' l) := by
  have h7 := hw.1.1
  have hb20 : a.1 3 ≤ 20 := hw.1.2.2.2.1
  have hMi : repM (M.1 1) a := by rw [h.one]; exact hM
  obtain ⟨y, n⟩ := s_isHolding hN h7 (hMi.1 0 (by decide)) (fun i hi => (hMi.2 i hi).2.1) (wf_acy hw) hp hr
  by_cases hh : holdN a.2.2.1 o (a.1 0)
  · obtain ⟨M', e, k, pk, -, -⟩ := s_brings hN hw hMi hp hr
    have e3 : M'.1 1 3 = nI (a.1 3) := by rw [k.1 1 (by omega)]; exact hMi.1 3 (by decide)
    have e0 : M'.1 1 0 = nI (a.1 0) := by rw [k.1 1 (by omega)]; exact hMi.1 0 (by decide)
    have bp := oPk_le a o
    have hrun : f_Mo_fit_14 N (nf + 1) M (nI j) (nI 1) = (if nI (a.1 3) < nI (oPk a o) then f_Mo_fit_54 N (f_Mo_fit_14 N nf) M' (nI j) else (if nI j = nI 0 then (f_Mo_number N M').bind (fun q13 => some (q13, M')) else bnd (nI j + (-1 : Int32)) (fun v12 => f_Mo_fit_54 N (f_Mo_fit_14 N nf) M' v12))) := by
      rw [f_Mo_fit_14, if_neg nI_1_0, y hh, Option.bind_some, if_neg nI_1_0, e, Option.bind_some, pk, Option.bind_some, e3]
    rw [hrun]
    by_cases hb : oPk a o ≤ a.1 3
    · rw [if_neg (nI_nlt hb (by omega))]
      have hP : cB (fitP a o) = true := cB_t.mpr ⟨hh, hb⟩
      by_cases hj0 : j = 0
      · refine Or.inl ⟨M', h.tr k.wkJ, ?_, fun l => ?_⟩
        · rw [hj0, if_pos rfl, s_numberM hN h7 e0 (fun p hp => by rw [k.1 13 (by omega)]; exact hr p hp), Option.bind_some]
        · rw [ftR, if_pos hP, if_pos hj0]
      · refine Or.inr ⟨M', j - 1, h.tr k.wkJ, k.1 13 (by omega), by omega, ?_, fun l => ?_⟩
        · have ej : nI j + (-1 : Int32) = nI (j - 1) := by
            have e1 : (-1 : Int32) = -(nI 1) := by decide
            rw [e1, ← Int32.sub_eq_add_neg, pk_sub (by omega)]
          rw [if_neg (fun q => hj0 ((nI_eq hj (by decide)).mp q)), ej]
          rfl
        · rw [ftR, if_pos hP, if_neg hj0]
    · refine Or.inr ⟨M', j, h.tr k.wkJ, k.1 13 (by omega), hj, ?_, fun l => ?_⟩
      · rw [if_pos (nI_lt (by omega) (by omega))]
        rfl
      · rw [ftR, if_neg (fun q => hb (cB_t.mp q).2)]
  · refine Or.inr ⟨M, j, h, rfl, hj, ?_, fun l => ?_⟩
    · rw [f_Mo_fit_14, if_neg nI_1_0, n hh, Option.bind_some, if_pos rfl]
      rfl
    · rw [ftR, if_neg (fun q => hh (cB_t.mp q).1)]
theorem walkF {N : Nat} (hN : 200 ≤ N) {M0 : zOb} {a : aS} (hw : wfA a) (hM : repM (M0.1 1) a) : ∀ t o M j nf, chk (a.1 0) (nxo (a.1 0) o) t = true → (∀ o', o' ∈ o :: t → perm o' (a.1 0)) → wkJ M0 M → rowIs (M.1 13) o (a.1 0) → t.length + 1 < nf → j < 2 ^ 31 → ∃ Mf, wkJ M0 Mf ∧ f_Mo_fit_14 N nf M (nI j) (nI 1) = some (ftA (a.1 0) (ftR (fitP a) j (o :: t)), Mf) := by
  have h7 := hw.1.1
  intro t
  induction t with
  | nil =>
    intro o M j nf hc hp hi hr hf hj
    obtain ⟨nf, rfl⟩ : ∃ t, nf = t + 1 := ⟨nf - 1, by omega⟩
    rcases fit_step (nf := nf) hN hw hM hi hr (hp o (List.mem_cons_self ..)) hj with ⟨Mf, i1, e1, e2⟩ | ⟨M', j', i1, r1, hj', e1, e2⟩
    · exact ⟨Mf, i1, by rw [e1, e2]; rfl⟩
    · rcases s_next hN h7 M' (by rw [i1.one]; exact hM.1 0 (by decide)) (o := o) (by rw [r1]; exact hr) (hp o (List.mem_cons_self ..)).1 with ⟨q1, q2⟩ | ⟨o', r2, q1, q2, q3⟩
      · obtain ⟨nf, rfl⟩ : ∃ t, nf = t + 1 := ⟨nf - 1, by simp only [List.length_nil] at hf; omega⟩
        refine ⟨M', i1, ?_⟩
        rw [e1, e2, q2, Option.bind_some]
        show f_Mo_fit_14 N (nf + 1) M' (nI j') (nI 0) = _
        rw [f_Mo_fit_14, if_pos rfl]
        rfl
      · rw [q1, show chk (a.1 0) (some o') [] = false from rfl] at hc
        exact absurd hc (by decide)
  | cons o2 t ih =>
    intro o M j nf hc hp hi hr hf hj
    obtain ⟨nf, rfl⟩ : ∃ t, nf = t + 1 := ⟨nf - 1, by omega⟩
    rcases fit_step (nf := nf) hN hw hM hi hr (hp o (List.mem_cons_self ..)) hj with ⟨Mf, i1, e1, e2⟩ | ⟨M', j', i1, r1, hj', e1, e2⟩
    · exact ⟨Mf, i1, by rw [e1, e2]; rfl⟩
    · rcases s_next hN h7 M' (by rw [i1.one]; exact hM.1 0 (by decide)) (o := o) (by rw [r1]; exact hr) (hp o (List.mem_cons_self ..)).1 with ⟨q1, q2⟩ | ⟨o', r2, q1, q2, q3⟩
      · rw [q1] at hc
        exact absurd hc (by unfold chk; decide)
      · rw [q1] at hc
        unfold chk at hc
        rw [Bool.and_eq_true] at hc
        have hr2 : rowIs ((zIr M' 13 r2).1 13) o2 (a.1 0) := fun p hp => by
          rw [zIr_e, q3 p hp, eqOn_get hc.1 p hp]
        obtain ⟨Mf, j1, j2⟩ := ih o2 (zIr M' 13 r2) j' nf hc.2 (fun o' ho' => hp o' (List.mem_cons_of_mem _ ho')) (i1.tr (wkJ.r13 _ _)) hr2 (by simp only [List.length_cons] at hf; omega) hj'
        refine ⟨Mf, j1, ?_⟩
        rw [e1, e2, q2, Option.bind_some]
        exact j2
theorem fold_fit {a : aS} {ld lo hi : Nat → Nat} {k : Nat} (P : (Nat → Nat) → Prop) : ∀ (l : List (Nat → Nat)) (st : sT), st.1 ≤ k → (∀ o ∈ l, accA a ld lo hi o ↔ P o) → (∃ o, ftR P (k - st.1) l = some o ∧ (l.foldl (sV a ld lo hi false k) st).1 = k + 1 ∧ (l.foldl (sV a ld lo hi false k) st).2.2.2 = o) ∨ (ftR P (k - st.1) l = none ∧ (l.foldl (sV a ld lo hi false k) st).1 ≤ k) := by
  intro l
  induction l with
  | nil => intro st hs _; exact Or.inr ⟨rfl, hs⟩
  | cons o l ih =>
    intro st hs hP
    have hP' : ∀ o ∈ l, accA a ld lo hi o ↔ P o := fun o' ho' => hP o' (List.mem_cons_of_mem _ ho')
    rw [List.foldl_cons, ftR]
    by_cases h : P o
    · have ht : tkn a ld lo hi false k st o := ⟨(hP o (List.mem_cons_self ..)).mpr h, hs, Or.inl rfl⟩
      rw [sV_y ht, if_pos (cB_t.mpr h)]
      by_cases hk : k - st.1 = 0
      · rw [if_pos hk, sV_skip l (fun o' _ q => by have h1 := q.2.1; have h2 : st.1 + 1 ≤ k := h1; omega)]
        exact Or.inl ⟨o, rfl, by show st.1 + 1 = k + 1; omega, rfl⟩
      · rw [if_neg hk, show k - st.1 - 1 = k - (st.1 + 1) by omega]
        exact ih (st.1 + 1, oPk a o, oLs a o, o) (by show st.1 + 1 ≤ k; omega) hP'
    · have ht : ¬ tkn a ld lo hi false k st o := fun q => h ((hP o (List.mem_cons_self ..)).mp q.1)
      rw [sV_n ht, if_neg (fun q => h (cB_t.mp q))]
      exact ih st hs hP'
theorem arg_pos (x : Int32) : (∃ k, k < 2 ^ 31 ∧ x = nI k) ∨ ¬ nI 0 ≤ x := by
  by_cases h : 0 ≤ x.toInt
  · have h2 : x.toInt < 2147483648 := Int32.toInt_lt x
    refine Or.inl ⟨x.toInt.toNat, by omega, ?_⟩
    apply Int32.toInt_inj.mp
    rw [nI_toInt (by omega)]
    omega
  · refine Or.inr (fun q => h ?_)
    have := i_le.mp q
    have e0 : (nI 0).toInt = 0 := rfl
    omega
theorem o_fit {N : Nat} (hN : 6000 ≤ N) : zop_fit N zInv := by
  intro μ x h
  have hN2 : 200 ≤ N := by omega
  obtain ⟨⟨a, hw, hS, hM⟩, hJ⟩ := id h
  have h7 := hw.1.1
  have hb20 : a.1 3 ≤ 20 := hw.1.2.2.2.1
  rcases arg_pos x with ⟨k, hk, rfl⟩ | hx
  · obtain ⟨R, S, ep, bR, rR, hC, hs⟩ := s_prepare hN2 hw hS hJ.2.2.2.2.2
    have z0 : ∀ S, (zset (zset μ 22 R) 23 S) 0 = μ 0 := fun S => by rw [zset_n _ _ (by decide), zset_n _ _ (by decide)]
    have zx : ∀ S x, x ≠ 22 → x ≠ 23 → (zset (zset μ 22 R) 23 S) x = μ x := fun S x h1 h2 => by rw [zset_n _ _ h2, zset_n _ _ h1]
    have e6 : (μ 0).1 0 6 = nI (a.1 3) := hS.1 3 (by decide)
    have e3 : (μ 0).1 0 3 = nI (a.1 0) := hS.1 0 (by decide)
    obtain ⟨S', e5, hC', hs'⟩ := s_limit (b := a.1 3) hN2 (μ := μ) (R := R) hw hC hs
    have hC2 : seC (zI S' 0 8 (nI k)) a (aLd a) (fun _ => 0) (fun _ => a.1 3) false k := ⟨⟨hC'.1.1, hC'.1.2.1, rfl⟩, hC'.2⟩
    have hs2 : seS (zI S' 0 8 (nI k)) (a.1 0) (0, 0, 0, id) := hs'
    obtain ⟨μ1, es, i1, k1⟩ := s_seek (ld := aLd a) (lo := fun _ => 0) (hi := fun _ => a.1 3) (only := false) (W := k) hN2 hw (aLd_lt hw) (fun _ _ => by decide) (fun _ _ => by omega) hk (μ := zset (zset μ 22 R) 23 (zI S' 0 8 (nI k))) (seI_0 hw (by rw [zset_s]; exact hC2) (by rw [zset_s]; exact hs2) (by rw [zset_n _ _ (by decide), zset_s]; exact bR) (by rw [zset_n _ _ (by decide), zset_s]; exact rR))
    have k2 : ∀ x, x ≠ 22 → x ≠ 23 → μ1 x = μ x := fun x h1 h2 => (k1 x h1 h2).trans (zx _ x h1 h2)
    obtain ⟨o, t, eo, o1, o2, o3⟩ := ords_cons h7
    have hpm := ords_perm (a.1 0)
    have hlen := ords_len h7
    have hff := fold_fit (a := a) (ld := aLd a) (lo := fun _ => 0) (hi := fun _ => a.1 3) (k := k) (fitP a) (ords (a.1 0)) (0, 0, 0, id) (Nat.zero_le _) (fun o ho => acc_fit hw (hpm o ho) _)
    have hln := sV_len (a := a) (ld := aLd a) (lo := fun _ => 0) (hi := fun _ => a.1 3) (only := false) (W := k) (ords (a.1 0)) (0, 0, 0, id)
    obtain ⟨Mf, kM, em⟩ := walkF hN2 hw hM t o (zIr (μ 29) 13 (til nI ((μ 29).1 13) 7)) k N o2 (by rw [← eo]; exact hpm) (wkJ.r13 _ _) (fun p hp => by rw [first_row _ h7 p hp, o1 p hp]; rfl) (by omega) hk
    rw [← eo] at em
    have k0 : k - ((0, 0, 0, id) : sT).1 = k := Nat.sub_zero k
    rw [k0] at hff
    refine ⟨ftA (a.1 0) (ftR (fitP a) k (ords (a.1 0))), μ1, Mf, ?_, ?_, inv_srch h k2 i1.2.2.2.1.2.2.2 kM.keep kM.one⟩
    · unfold f_RS_fit f_RS_fit_76
      rw [if_pos (nI_le (Nat.zero_le _) hk), ep, Option.bind_some, z0, e6, e5, Option.bind_some]
      dsimp only [bnd]
      rw [zset_s, zset_ss, es, Option.bind_some, i1.2.1.1]
      rcases hff with ⟨o', f1, f2, f3⟩ | ⟨f1, f2⟩
      · have hl2 : k + 1 ≤ 0 + (ords (a.1 0)).length := by rw [← f2]; exact hln
        rw [f1, f2, if_neg (nI_ge (by omega) (by omega)), k2 0 (by decide) (by decide), s_number hN2 h7 e3 (o := o') (fun p hp => by
          rw [i1.2.1.2.2.2 (by rw [f2]; omega) p hp, f3]), Option.bind_some]
        rfl
      · rw [f1, if_pos (nI_le f2 hk)]
        rfl
    · rw [k2 29 (by decide) (by decide)]
      unfold f_Mo_fit
      rw [if_pos (nI_le (Nat.zero_le _) hk), s_firstOrder hN2, Option.bind_some]
      exact em
  · refine ⟨-1, μ, μ 29, ?_, ?_, inv_same h⟩
    · unfold f_RS_fit
      rw [if_neg hx]
    · unfold f_Mo_fit
      rw [if_neg hx]
