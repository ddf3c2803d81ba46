/-! settle -/
theorem s_78 {N : Nat} {o : Nat → Nat} {M : zOb} {its : Int32} : ∀ p nf r, p < 7 → p + 1 < nf → (∀ q, q ≤ p → o q < 7) → ∃ r', f_Mo_settles_78 N nf (zIr M 1 r) its (nI (nuN o (p + 1))) (nI p) = some (its, zIr M 1 r') ∧ (∀ q, q ≤ p → r' (6 + q) = nI (o q)) ∧ ∀ j, ¬ (6 ≤ j ∧ j ≤ 6 + p) → r' j = r j := by
  intro p
  induction p with
  | zero =>
    intro nf r hp hf ho
    obtain ⟨nf, rfl⟩ : ∃ t, nf = t + 2 := ⟨nf - 2, by omega⟩
    have o0 := ho 0 (Nat.le_refl _)
    have z6 : zin (nI (6 + 0)) 27 := zin_nI (by omega) (by decide)
    have c6 : (nI (6 + 0)).toNatClampNeg = 6 := nI_clamp (by omega)
    have e1 : nuN o (0 + 1) = o 0 := by show 10 * 0 + o 0 = o 0; omega
    refine ⟨upd r 6 (nI (o 0)), ?_, fun q hq => ?_, fun j hj => ?_⟩
    · rw [f_Mo_settles_78, if_neg (nI_nlt (Nat.zero_le _) (by omega)), nI_add, if_pos z6]
      dsimp only [bnd]
      rw [c6, e1, pk_rem (by omega) (by decide) (by decide), Nat.mod_eq_of_lt (by omega), zI_r, zIr_rr, zIr_e, f_Mo_settles_78, if_pos (by decide)]
    · have : q = 0 := by omega
      subst this
      exact upd_s _ _ _
    · exact upd_n _ _ (by omega)
  | succ p ih =>
    intro nf r hp hf ho
    obtain ⟨nf, rfl⟩ : ∃ t, nf = t + 1 := ⟨nf - 1, by omega⟩
    have op := ho (p + 1) (Nat.le_refl _)
    have z6 : zin (nI (6 + (p + 1))) 27 := zin_nI (by omega) (by decide)
    have c6 : (nI (6 + (p + 1))).toNatClampNeg = 6 + (p + 1) := nI_clamp (by omega)
    have e1 : nuN o (p + 1 + 1) = 10 * nuN o (p + 1) + o (p + 1) := rfl
    have hb := nuN_lt (o := o) (p + 1 + 1) (fun q hq => by have := ho q (by omega); omega)
    have hb2 : 10 ^ (p + 1 + 1) ≤ 10 ^ 7 := Nat.pow_le_pow_right (by decide) (by omega)
    obtain ⟨r', e, q1, q2⟩ := ih nf (upd r (6 + (p + 1)) (nI (o (p + 1)))) (by omega) (by omega) (fun q hq => ho q (by omega))
    refine ⟨r', ?_, fun q hq => ?_, fun j hj => ?_⟩
    · rw [f_Mo_settles_78, if_neg (nI_nlt (Nat.zero_le _) (by omega)), nI_add, if_pos z6]
      dsimp only [bnd]
      rw [c6, pk_rem (by omega) (by decide) (by decide), pk_div (by omega) (by decide) (by decide), zI_r, zIr_rr, zIr_e, m1_add p (by omega), e1, show (10 * nuN o (p + 1) + o (p + 1)) % 10 = o (p + 1) by omega, show (10 * nuN o (p + 1) + o (p + 1)) / 10 = nuN o (p + 1) by omega]
      exact e
    · by_cases hqp : q = p + 1
      · subst hqp
        rw [q2 _ (by omega), upd_s]
      · exact q1 q (by omega)
    · rw [q2 j (by omega), upd_n _ _ (by omega)]
theorem settle_fin {N : Nat} (hN : 200 ≤ N) {μ μ' : zM} {a : aS} {o : Nat → Nat} (hw : wfA a) (hS : repS (μ 0) a) (hM : repM ((μ 29).1 1) a) (hJ : zJ μ (μ 29)) (h0 : 0 < a.1 0) (hf : ∀ p, p < a.1 0 → (μ' 23).1 11 p = nI (o p)) (hp : perm o (a.1 0)) (hr : rdOK (μ' 22)) (k : ∀ x, x ≠ 22 → x ≠ 23 → μ' x = μ x) {f : Nat → Int32} (hf25 : ∀ j, j < 27 → f j = (μ 29).1 1 j) {M2 : zOb} (kM : wkJ (zIr (μ 29) 25 f) M2) : ∃ r μ1 S2, (f_St_takeFrom (μ' 1) (μ' 0)).bind (fun q6 => bnd (zset μ' 1 q6) (fun μ7 => (f_St_changeOrder N (μ7 0) ((μ7 23).1 11)).bind (fun q8 => bnd (zset μ7 0 q8.2) (fun μ9 => (f_RS_remembered N μ9 q8.1).bind (fun q10 => some (q10.1, q10.2)))))) = some (r, μ1) ∧ (f_Mo_settles_48 N M2 (nI (nuN a.2.2.2 (a.1 0))) (nI (nuN o (a.1 0)))).bind (fun q2 => (f_Mo_acted N q2.2 q2.1).bind (fun q3 => some (q3.1, q3.2))) = some (r, S2) ∧ zInv (zset μ1 29 S2) ∧ μ1 29 = μ 29 := by
  have h7 := hw.1.1
  have hS' : repS (μ' 0) a := by rw [k 0 (by decide) (by decide)]; exact hS
  have hJ1 : zJ μ (zIr (μ 29) 25 f) := hJ
  have m1 : M2.1 1 = (μ 29).1 1 := kM.one
  have m25 : M2.1 25 = f := kM.1 25 (by decide) (by omega)
  have hM2 : repM (M2.1 1) a := by rw [m1]; exact hM
  have h25 : repM (M2.1 25) a := by rw [m25]; exact repM_congr hw hM hf25
  have e0 : M2.1 1 0 = nI (a.1 0) := hM2.1 0 (by decide)
  obtain ⟨T, eT, hT⟩ := s_takeFrom_rep (S := μ' 1) hw hS'
  have z0 : (zset μ' 1 T) 0 = μ' 0 := zset_n _ _ (by decide)
  have z23 : (zset μ' 1 T) 23 = μ' 23 := zset_n _ _ (by decide)
  have n1 : f_St_number N (μ' 0) ((μ' 23).1 11) = some (nI (nuN o (a.1 0))) := s_number hN h7 (hS'.1 0 (by decide)) hf
  have n2 : f_St_number N (μ' 0) ((μ' 0).1 3) = some (nI (nuN a.2.2.2 (a.1 0))) := s_number hN h7 (hS'.1 0 (by decide)) (fun p hp => (hS'.2 p hp).2.2)
  have b1 := nuN_31 h7 hp.1
  have b2 := nuN_31 h7 (wf_perm hw).1
  have hJ2 : ∀ S' M3, keepM (zIr (μ 29) 25 f) M3 → zJ (zset (zset μ' 1 T) 0 S') M3 := by
    intro S' M3 hk
    refine zJ_keep (fun x hx => ?_) ?_ ?_ hk hJ1
    · rw [zset_n _ _ (by omega), zset_n _ _ (by omega), k x (by omega) (by omega)]
    · rw [zset_n _ _ (by decide), zset_n _ _ (by decide), k 21 (by decide) (by decide)]; exact hJ.2.2.2.2.1
    · rw [zset_n _ _ (by decide), zset_n _ _ (by decide)]; exact hr
  have h1T : ∀ S', repS ((zset (zset μ' 1 T) 0 S') 1) a := fun S' => by rw [zset_n _ _ (by decide), zset_s]; exact hT
  have k29 : ∀ S', (zset (zset μ' 1 T) 0 S') 29 = μ 29 := fun S' => by rw [zset_n _ _ (by decide), zset_n _ _ (by decide), k 29 (by decide) (by decide)]
  by_cases he : nuN o (a.1 0) = nuN a.2.2.2 (a.1 0)
  · obtain ⟨μ1, S2, g1, g2, g3, g4⟩ := s_rem (N := N) hN (μ := zset (zset μ' 1 T) 0 (μ' 0)) (M := M2) (-2 : Int32) hw (h1T _) h25 ⟨a, hw, by rw [zset_s]; exact hS', hM2⟩ (hJ2 _ _ kM.keep)
    refine ⟨-2, μ1, S2, ?_, ?_, g3, by rw [g4, k29]⟩
    · rw [eT, Option.bind_some]
      dsimp only [bnd]
      rw [z0, z23]
      unfold f_St_changeOrder
      rw [n1, Option.bind_some, n2, Option.bind_some, if_pos (by rw [he]), Option.bind_some]
      dsimp only
      rw [g1]
      rfl
    · unfold f_Mo_settles_48 f_Mo_settles_62
      rw [e0, if_neg (nI_n0 h0 (by omega)), if_pos (by rw [he]), Option.bind_some]
      dsimp only
      rw [g2]
      rfl
  · obtain ⟨r', e78, q1, q2⟩ := s_78 (N := N) (o := o) (M := M2) (its := nI (nuN o (a.1 0))) (a.1 0 - 1) N (M2.1 1) (by omega) (by omega) (fun q hq => by have := hp.1 q (by omega); omega)
    rw [show a.1 0 - 1 + 1 = a.1 0 by omega, zIr_id] at e78
    have hwa : wfA (a.1, a.2.1, a.2.2.1, o) := ⟨hw.1, fun i hi => ⟨(hw.2.1 i hi).1, (hw.2.1 i hi).2.1, hp.1 i hi⟩, hp.2, hw.2.2.2⟩
    have hSa : repS (zIr (μ' 0) 3 (va_cpy ((μ' 23).1 11) ((μ' 0).1 3) 0 0 7)) (a.1, a.2.1, a.2.2.1, o) := by
      refine ⟨hS'.1, fun i hi => ⟨(hS'.2 i hi).1, (hS'.2 i hi).2.1, ?_⟩⟩
      rw [zIr_e]
      have hi' : i < a.1 0 := hi
      rw [cpy7 _ _ (by omega)]
      exact hf i hi'
    have hMa : repM r' (a.1, a.2.1, a.2.2.1, o) := by
      refine ⟨fun t ht => ?_, fun i hi => ⟨?_, ?_, ?_⟩⟩
      · rw [q2 t (by omega)]; exact hM2.1 t ht
      · rw [q2 (13 + i) (by omega)]; exact (hM2.2 i hi).1
      · rw [q2 (20 + i) (by omega)]; exact (hM2.2 i hi).2.1
      · have hi' : i < a.1 0 := hi
        exact q1 i (by omega)
    obtain ⟨μ1, S2, g1, g2, g3, g4⟩ := s_rem (N := N) hN (μ := zset (zset μ' 1 T) 0 (zIr (μ' 0) 3 (va_cpy ((μ' 23).1 11) ((μ' 0).1 3) 0 0 7))) (M := zIr M2 1 r') (nI (nuN o (a.1 0))) hw (h1T _) h25 ⟨_, hwa, by rw [zset_s]; exact hSa, hMa⟩ (hJ2 _ _ (kM.keep.tr (keepM.row M2 (by decide) r')))
    refine ⟨nI (nuN o (a.1 0)), μ1, S2, ?_, ?_, g3, by rw [g4, k29]⟩
    · rw [eT, Option.bind_some]
      dsimp only [bnd]
      rw [z0, z23]
      unfold f_St_changeOrder
      rw [n1, Option.bind_some, n2, Option.bind_some, if_neg (fun q => he ((nI_eq b1 b2).mp q))]
      dsimp only [bnd]
      rw [Option.bind_some]
      dsimp only
      rw [g1]
      rfl
    · unfold f_Mo_settles_48
      rw [e0, if_neg (nI_n0 h0 (by omega)), if_neg (fun q => he ((nI_eq b1 b2).mp q))]
      dsimp only [bnd]
      rw [pk_sub (by omega), e78, Option.bind_some]
      dsimp only
      rw [g2]
      rfl
theorem bV_perm (a : aS) : ∀ (l : List (Nat → Nat)) (st : sT), (∀ o ∈ l, perm o (a.1 0)) → (0 < st.1 → perm st.2.2.2 (a.1 0)) → 0 < (l.foldl (bV a) st).1 → perm (l.foldl (bV a) st).2.2.2 (a.1 0) := by
  intro l
  induction l with
  | nil => intro st _ h h0; exact h h0
  | cons o l ih =>
    intro st hl h h0
    rw [List.foldl_cons] at h0 ⊢
    refine ih _ (fun o' ho' => hl o' (List.mem_cons_of_mem _ ho')) ?_ h0
    unfold bV
    split
    · exact fun _ => hl o (List.mem_cons_self ..)
    · exact h
theorem o_settle {N : Nat} (hN : 6000 ≤ N) : zop_settle N zInv := by
  intro μ x h
  have hN2 : 200 ≤ N := by omega
  obtain ⟨⟨a, hw, hS, hM⟩, hJ⟩ := id h
  have h7 := hw.1.1
  have e0 : (nI 0).toInt = 0 := rfl
  have e1 : (nI 1).toInt = 1 := rfl
  have el0 : (0 : Int64).toInt = 0 := by decide
  have el1 : (1 : Int64).toInt = 1 := by decide
  obtain ⟨f, eh, hf⟩ := s_holds hN2 (μ 29)
  have hJ1 : zJ μ (zIr (μ 29) 25 f) := hJ
  have hM1 : repM ((zIr (μ 29) 25 f).1 1) a := hM
  have inv25 : ∀ M', wkJ (zIr (μ 29) 25 f) M' → zInv (zset μ 29 M') := fun M' hk => zInv_of ⟨a, hw, hS, by rw [hk.one]; exact hM⟩ (zJ_keep (fun x _ => rfl) hJ.2.2.2.2.1 hJ.2.2.2.2.2 hk.keep hJ1)
  have hO : rowIs ((zIr (zIr (μ 29) 25 f) 13 (til (fun j => (zIr (μ 29) 25 f).1 1 (6 + j)) ((zIr (μ 29) 25 f).1 13) 7)).1 13) a.2.2.2 (a.1 0) := by
    intro p hp
    rw [zIr_e, til_in _ _ (by omega)]
    exact (hM.2 p hp).2.2
  generalize hQ : zIr (zIr (μ 29) 25 f) 13 (til (fun j => (zIr (μ 29) 25 f).1 1 (6 + j)) ((zIr (μ 29) 25 f).1 13) 7) = Q at hO
  have kQ : wkJ (zIr (μ 29) 25 f) Q := by rw [← hQ]; exact wkJ.r13 _ _
  have eQ : f_Mo_takesOrder N (zIr (μ 29) 25 f) = some Q := by rw [← hQ]; exact s_takesOrder hN2 _
  have hMQ : repM (Q.1 1) a := by rw [kQ.one]; exact hM1
  have nQ : f_Mo_number N Q = some (nI (nuN a.2.2.2 (a.1 0))) := s_numberM hN2 h7 (hMQ.1 0 (by decide)) hO
  have refused : ∀ r M', r < nI 0 → f_Mo_acted N M' r = some (r, M') := by
    intro r M' hr
    unfold f_Mo_acted f_Mo_acted_8
    rw [if_pos hr]
  rcases arg_in x (n := 2) (by decide) with ⟨w, hw2, rfl⟩ | hx
  · have c1 : ¬ nI w < nI 0 := nI_nlt (Nat.zero_le _) (by omega)
    have c2 : nI w ≤ nI 1 := nI_le (by omega) (by decide)
    have hin : f_Mo_in (nI w).toInt64 (0 : Int64) (1 : Int64) = some (nI 1) := by rw [s_inI, nI_toInt (by omega), el0, el1, if_pos (by omega)]
    obtain ⟨Mb, eb, kb, bb⟩ := s_laysBest hN hw hMQ
    obtain ⟨Mg, eg, kg, ng, -, -⟩ := s_grows hN2 hw hMQ
    have hpos := bV_pos a (ords (a.1 0)) (0, 0, 0, id) (ex_hold hw)
    have hbp := bV_perm a (ords (a.1 0)) (0, 0, 0, id) (ords_perm _) (fun q => absurd q (Nat.lt_irrefl 0)) hpos
    have b19 := (bb.2 hpos).1
    have eM : ∃ Mw ow, wkJ (zIr (μ 29) 25 f) Mw ∧ perm ow (a.1 0) ∧ (0 < a.1 0 → ∃ μ', f_RS_seekBestOrGrown N μ (nI w) = some μ' ∧ (∀ p, p < a.1 0 → (μ' 23).1 11 p = nI (ow p)) ∧ rdOK (μ' 22) ∧ ∀ x, x ≠ 22 → x ≠ 23 → μ' x = μ x) ∧ f_Mo_settle N (μ 29) (nI w) = (f_Mo_settles_48 N Mw (nI (nuN a.2.2.2 (a.1 0))) (nI (nuN ow (a.1 0)))).bind (fun q2 => (f_Mo_acted N q2.2 q2.1).bind (fun q3 => some (q3.1, q3.2))) := by
      by_cases hw0 : w = 0
      · refine ⟨Mb, ((ords (a.1 0)).foldl (bV a) (0, 0, 0, id)).2.2.2, kQ.tr kb, hbp, fun _ => ?_, ?_⟩
        · obtain ⟨μ', e, hs, hr, k⟩ := s_seekLeast hN2 hw hS hJ.2.2.2.2.2
          exact ⟨μ', by rw [hw0]; exact e, hs.2.2.2 hpos, hr, k⟩
        · unfold f_Mo_settle f_Mo_settles
          rw [eh, Option.bind_some, hin, Option.bind_some, if_neg nI_1_0, eQ, Option.bind_some, nQ, Option.bind_some, if_pos (by rw [hw0]), eb, Option.bind_some]
          dsimp only [bnd]
          rw [b19]
      · have hw1 : w = 1 := by omega
        refine ⟨Mg, grw a, kQ.tr kg, grw_perm hw, fun _ => ?_, ?_⟩
        · obtain ⟨μ', e, hF, hr, k⟩ := s_seekGrown hN2 hw hS hJ.2.2.2.2.2
          exact ⟨μ', by rw [hw1]; exact e, hF.2.2, hr, k⟩
        · unfold f_Mo_settle f_Mo_settles
          rw [eh, Option.bind_some, hin, Option.bind_some, if_neg nI_1_0, eQ, Option.bind_some, nQ, Option.bind_some, if_neg (fun q => hw0 ((nI_eq (by omega) (by decide)).mp q)), eg, Option.bind_some, ng, Option.bind_some]
    obtain ⟨Mw, ow, kw, pw, hc, em⟩ := eM
    by_cases hn0 : a.1 0 = 0
    · refine ⟨-2, μ, Mw, ?_, ?_, inv25 Mw kw⟩
      · rw [f_RS_settle, if_neg c1, if_pos c2, if_pos (by rw [hS.1 0 (by decide), hn0])]
      · rw [em, f_Mo_settles_48, kw.one, if_pos (by rw [hM1.1 0 (by decide), hn0]), f_Mo_settles_62, Option.bind_some]
        dsimp only
        rw [refused _ _ (by decide)]
        rfl
    · obtain ⟨μ', e, hfo, hr, k⟩ := hc (by omega)
      obtain ⟨r, μ1, S2, g1, g2, g3, g4⟩ := settle_fin hN2 hw hS hM hJ (by omega) hfo pw hr k hf kw
      refine ⟨r, μ1, S2, ?_, ?_, g3⟩
      · have e35 : f_RS_settle N μ (nI w) = f_RS_settle_35 N μ (nI w) := by
          rw [f_RS_settle, if_neg c1, if_pos c2, if_neg (by rw [hS.1 0 (by decide)]; exact nI_n0 (by omega) (by omega))]
          by_cases hw1 : w = 1
          · rw [if_pos (by rw [hw1]), hw1]
          · have hw0 : w = 0 := by omega
            rw [if_neg (fun q => hw1 ((nI_eq (by omega) (by decide)).mp q)), hw0]
        rw [e35, f_RS_settle_35, e, Option.bind_some]
        exact g1
      · rw [g4, em]
        exact g2
  · refine ⟨-1, μ, zIr (μ 29) 25 f, ?_, ?_, inv25 _ (wkJ.rf _)⟩
    · unfold f_RS_settle f_RS_settle_9
      by_cases h1 : x < nI 0
      · rw [if_pos h1]
      · rw [if_neg h1, if_neg (fun q => hx ?_)]
        have h3 := i_le.mp q
        have h4 : ¬ x.toInt < (nI 0).toInt := fun g => h1 (i_lt.mpr g)
        omega
    · unfold f_Mo_settle f_Mo_settles
      rw [eh, Option.bind_some, s_inI, el0, el1, if_neg (fun q => hx (by omega)), Option.bind_some, if_pos rfl, Option.bind_some]
      dsimp only
      rw [refused _ _ (by decide)]
      rfl
