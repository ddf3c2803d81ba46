/-! seen -/
theorem lg_eq0 (x y : Int64) : lg_cmp x y = nI 0 ↔ x.toInt = y.toInt := by
  have h1 := lg_lt0 x y
  have h2 := lg_gt0 x y
  rw [i_lt] at h1 h2
  rw [i_eq]
  constructor
  · intro h
    rw [h] at h1 h2
    have a1 : ¬ x.toInt < y.toInt := fun q => absurd (h1.mpr q) (Int.lt_irrefl _)
    have a2 : ¬ y.toInt < x.toInt := fun q => absurd (h2.mpr q) (Int.lt_irrefl _)
    omega
  · intro h
    have a1 : ¬ (lg_cmp x y).toInt < (nI 0).toInt := fun q => by have := h1.mp q; omega
    have a2 : ¬ (nI 0).toInt < (lg_cmp x y).toInt := fun q => by have := h2.mp q; omega
    omega
theorem l_small {v : Int64} (h : 0 ≤ v.toInt ∧ v.toInt ≤ 20) : v = (nI v.toInt.toNat).toInt64 ∧ v.toInt32 = nI v.toInt.toNat := by
  have d32 : ∀ c, c < 21 → (nI c).toInt64.toInt32 = nI c := by decide
  have e : v = (nI v.toInt.toNat).toInt64 := by
    apply Int64.toInt_inj.mp
    rw [l_toInt, nI_toInt (by omega)]
    omega
  exact ⟨e, by
    have := d32 v.toInt.toNat (by omega)
    rw [← e] at this
    exact this⟩
def itO (V : Nat → Int64) (q : Nat) : Prop := 0 ≤ (V q).toInt ∧ (V q).toInt ≤ 20
def itN (V : Nat → Int64) (q : Nat) : Nat := (V q).toInt.toNat
def seW (S : zOb) (a : aS) (V : Nat → Int64) (p : Nat) : Prop := (S.1 0 6 = nI (a.1 0) ∧ S.1 0 7 = nI (if false then 1 else 0) ∧ S.1 0 8 = nI 5040) ∧ (∀ i, i < a.1 0 → S.1 2 i = nI (aN (a.2.1 i) (a.1 1)) ∧ S.1 3 i = nI 0) ∧ (∀ i, i < p → S.1 4 i = nI (itN V i) ∧ S.1 5 i = nI (itN V i)) ∧ seS S (a.1 0) (0, 0, 0, id)
theorem s_seen58 {N k j : Nat} {a : aS} (hw : wfA a) {ν : zM} {V : Nat → Int64} (hn : (ν 0).1 0 3 = nI (a.1 0)) (hk : k < 4) (hj : j + a.1 0 ≤ 24) (hV : ∀ q, q < a.1 0 → (ν (24 + k)).2.1 1 (j + q) = V q) : ∀ m p nf S, p + m = a.1 0 → m < nf → seW S a V p → ((∀ q, p ≤ q → q < a.1 0 → itO V q) → ∃ S', seW S' a V (a.1 0) ∧ f_RS_seen_58 N nf (zset ν 23 S) (nI k) (nI j) (nI p) = (f_Se_seek N (zset ν 23 S')).bind (fun q7 => some ((q7 23).1 0 9, q7))) ∧ ((∃ q, p ≤ q ∧ q < a.1 0 ∧ ¬ itO V q) → ∃ S', f_RS_seen_58 N nf (zset ν 23 S) (nI k) (nI j) (nI p) = some ((-2 : Int32), zset ν 23 S')) := by
  have h7 := hw.1.1
  have z0 : ∀ S, (zset ν 23 S) 0 = ν 0 := fun S => zset_n _ _ (by decide)
  have zk : ∀ S, (zset ν 23 S) (24 + k) = ν (24 + k) := fun S => zset_n _ _ (by omega)
  intro m
  induction m with
  | zero =>
    intro p nf S hp hf hS
    obtain ⟨nf, rfl⟩ : ∃ t, nf = t + 1 := ⟨nf - 1, by omega⟩
    have : p = a.1 0 := by omega
    subst this
    refine ⟨fun _ => ⟨S, hS, ?_⟩, fun ⟨q, q1, q2, _⟩ => absurd q2 (by omega)⟩
    rw [f_RS_seen_58, z0, hn, if_pos (Int32.le_refl _)]
  | succ m ih =>
    intro p nf S hp hf hS
    obtain ⟨nf, rfl⟩ : ∃ t, nf = t + 1 := ⟨nf - 1, by omega⟩
    have z4 : zin (nI k) 4 := zin_nI hk (by decide)
    have ck : (nI k).toNatClampNeg = k := nI_clamp (by omega)
    have z24 : zin (nI (j + p)) 24 := zin_nI (by omega) (by decide)
    have cj : (nI (j + p)).toNatClampNeg = j + p := nI_clamp (by omega)
    have zp : zin (nI p) 7 := zin_nI (by omega) (by decide)
    have cp : (nI p).toNatClampNeg = p := nI_clamp (by omega)
    have el0 : (0 : Int64).toInt = 0 := by decide
    have el20 : (20 : Int64).toInt = 20 := by decide
    have run : f_RS_seen_58 N (nf + 1) (zset ν 23 S) (nI k) (nI j) (nI p) = (if (lg_cmp (V p) (0 : Int64)) < nI 0 then f_RS_seen_102 N (zset ν 23 S) else (if (lg_cmp (V p) (20 : Int64)) ≤ nI 0 then (f_Se_wantFresh (zset ν 23 S) (nI p) (V p).toInt32).bind (fun q13 => f_RS_seen_58 N nf q13 (nI k) (nI j) (nI (p + 1))) else f_RS_seen_102 N (zset ν 23 S))) := by
      rw [f_RS_seen_58, z0, hn, if_neg (nI_ge (by omega) (by omega)), if_pos z4, nI_add, if_pos z24]
      dsimp only [bnd]
      simp only [ck, zk, cj, hV p (by omega), nI_add]
    rw [run]
    by_cases ho : itO V p
    · have c1 : ¬ lg_cmp (V p) (0 : Int64) < nI 0 := fun q => by have := (lg_lt0 _ _).mp q; have := ho.1; omega
      have c2 : lg_cmp (V p) (20 : Int64) ≤ nI 0 := by
        rw [i_le]
        have : ¬ (nI 0).toInt < (lg_cmp (V p) 20).toInt := fun q => by have := (lg_gt0 _ _).mp (i_lt.mpr q); have := ho.2; omega
        omega
      have ev : (V p).toInt32 = nI (itN V p) := (l_small ho).2
      have ew : f_Se_wantFresh (zset ν 23 S) (nI p) (nI (itN V p)) = some (zset ν 23 (zI (zI S 4 p (nI (itN V p))) 5 p (nI (itN V p)))) := by
        unfold f_Se_wantFresh f_Se_wantFresh_24
        rw [if_neg (nI_nlt (Nat.zero_le _) (by omega)), if_neg (nI_ge (by omega) (by decide)), if_pos zp]
        dsimp only [bnd]
        rw [if_pos zp]
        simp only [cp, zset_s, zset_ss]
      rw [if_neg c1, if_pos c2, ev, ew, Option.bind_some]
      obtain ⟨i1, i2⟩ := ih (p + 1) nf (zI (zI S 4 p (nI (itN V p))) 5 p (nI (itN V p))) (by omega) (by omega) (by
        refine ⟨hS.1, hS.2.1, fun i hi => ?_, hS.2.2.2⟩
        by_cases hip : i = p
        · subst hip
          exact ⟨by rw [zI_o _ _ (by decide), zI_e, upd_s], by rw [zI_e, upd_s]⟩
        · obtain ⟨g1, g2⟩ := hS.2.2.1 i (by omega)
          exact ⟨by rw [zI_o _ _ (by decide), zI_e, upd_n _ _ hip]; exact g1, by rw [zI_e, upd_n _ _ hip, zI_o _ _ (by decide)]; exact g2⟩)
      refine ⟨fun h => i1 (fun q h1 h2 => h q (by omega) h2), fun ⟨q, q1, q2, q3⟩ => i2 ⟨q, ?_, q2, q3⟩⟩
      rcases Nat.lt_or_ge p q with h | h
      · exact h
      · have : q = p := by omega
        subst this
        exact absurd ho q3
    · refine ⟨fun h => absurd (h p (Nat.le_refl _) (by omega)) ho, fun _ => ⟨S, ?_⟩⟩
      by_cases c1 : lg_cmp (V p) (0 : Int64) < nI 0
      · rw [if_pos c1]; rfl
      · rw [if_neg c1, if_neg (fun q => ho ?_)]
        · rfl
        · have a1 : ¬ (V p).toInt < 0 := fun q => c1 ((lg_lt0 _ _).mpr (by rw [el0]; exact q))
          have a2 : ¬ 20 < (V p).toInt := fun g => by
            have h1 := (lg_gt0 (V p) 20).mpr (by rw [el20]; exact g)
            rw [i_lt] at h1
            rw [i_le] at q
            omega
          exact ⟨by omega, by omega⟩
theorem s_seen63 {N k j n : Nat} (hn7 : n ≤ 7) {M : zOb} {V : Nat → Int64} (hn : M.1 1 0 = nI n) (hk : k < 4) (hj : j + n ≤ 24) (hV : ∀ q, q < n → M.2.1 11 (24 * k + j + q) = V q) : ∀ m p nf, p + m = n → m < nf → ((∀ q, p ≤ q → q < n → itO V q) → f_Mo_seen_63 N nf M (nI k) (nI j) (nI 1) (nI p) = (f_Mo_firstOrder N M).bind (fun q10 => f_Mo_seen_134 N N q10 (nI k) (nI j) (nI 0) (nI 1))) ∧ ((∃ q, p ≤ q ∧ q < n ∧ ¬ itO V q) → f_Mo_seen_63 N nf M (nI k) (nI j) (nI 1) (nI p) = some ((-2 : Int32), M)) ∧ f_Mo_seen_63 N nf M (nI k) (nI j) (nI 0) (nI p) = some ((-2 : Int32), M) := by
  intro m
  induction m with
  | zero =>
    intro p nf hp hf
    obtain ⟨nf, rfl⟩ : ∃ t, nf = t + 1 := ⟨nf - 1, by omega⟩
    have : p = n := by omega
    subst this
    refine ⟨fun _ => ?_, fun ⟨q, q1, q2, _⟩ => absurd q2 (by omega), ?_⟩
    · rw [f_Mo_seen_63, hn, if_pos (Int32.le_refl _), if_neg nI_1_0]
    · rw [f_Mo_seen_63, hn, if_pos (Int32.le_refl _), if_pos rfl]
  | succ m ih =>
    intro p nf hp hf
    obtain ⟨nf, rfl⟩ : ∃ t, nf = t + 1 := ⟨nf - 1, by omega⟩
    have z96 : zin (nI (24 * k + j + p)) 96 := zin_nI (by omega) (by decide)
    have c96 : (nI (24 * k + j + p)).toNatClampNeg = 24 * k + j + p := nI_clamp (by omega)
    have el0 : (0 : Int64).toInt = 0 := by decide
    have el20 : (20 : Int64).toInt = 20 := by decide
    obtain ⟨i1, i2, i3⟩ := ih (p + 1) nf (by omega) (by omega)
    have run0 : f_Mo_seen_63 N (nf + 1) M (nI k) (nI j) (nI 0) (nI p) = some ((-2 : Int32), M) := by
      rw [f_Mo_seen_63, hn, if_neg (nI_ge (by omega) (by omega)), if_pos rfl, f_Mo_seen_107, f_Mo_seen_108]
      dsimp only [bnd]
      rw [nI_add]
      exact i3
    have run1 : f_Mo_seen_63 N (nf + 1) M (nI k) (nI j) (nI 1) (nI p) = (if (if (0 : Int64).toInt ≤ (V p).toInt ∧ (V p).toInt ≤ (20 : Int64).toInt then nI 1 else nI 0) = nI 0 then f_Mo_seen_63 N nf M (nI k) (nI j) (nI 0) (nI (p + 1)) else f_Mo_seen_63 N nf M (nI k) (nI j) (nI 1) (nI (p + 1))) := by
      rw [f_Mo_seen_63, hn, if_neg (nI_ge (by omega) (by omega)), if_neg nI_1_0]
      simp only [pk_mul, nI_add, if_pos z96, c96, hV p (by omega), s_in, Option.bind_some, f_Mo_seen_107, f_Mo_seen_108]
      dsimp only [bnd]
    refine ⟨fun h => ?_, fun ⟨q, q1, q2, q3⟩ => ?_, run0⟩
    · have ho := h p (Nat.le_refl _) (by omega)
      rw [run1, if_pos (show _ ∧ _ from by rw [el0, el20]; exact ho), if_neg nI_1_0]
      exact i1 (fun q h1 h2 => h q (by omega) h2)
    · rw [run1]
      by_cases ho : itO V p
      · rw [if_pos (show _ ∧ _ from by rw [el0, el20]; exact ho), if_neg nI_1_0]
        refine i2 ⟨q, ?_, q2, q3⟩
        rcases Nat.lt_or_ge p q with h | h
        · exact h
        · have : q = p := by omega
          subst this
          exact absurd ho q3
      · rw [if_neg (show ¬ (_ ∧ _) from by rw [el0, el20]; exact ho), if_pos rfl]
        exact i3
theorem s_seen149 {N k j n c : Nat} (hN : 200 ≤ N) (hn7 : n ≤ 7) (K : zOb → Int32 → Int32 → Int32 → Int32 → Option (Int32 × zOb)) {M : zOb} {V : Nat → Int64} {F : Nat → Nat} (hn : M.1 1 0 = nI n) (hk : k < 4) (hj : j + n ≤ 24) (hV : ∀ q, q < n → M.2.1 11 (24 * k + j + q) = V q) (hO : ∀ q, q < n → itO V q) (hF : ∀ q, q < n → M.1 16 q = nI (F q) ∧ F q < 2 ^ 20) : ∀ m p nf, p + m = n → m < nf → ((∀ q, p ≤ q → q < n → pcb 20 (F q) = itN V q) → f_Mo_seen_149 N K nf M (nI k) (nI j) (nI c) (nI 1) (nI p) = f_Mo_seen_219 N K M (nI k) (nI j) (nI 1) (nI c)) ∧ ((∃ q, p ≤ q ∧ q < n ∧ ¬ pcb 20 (F q) = itN V q) → f_Mo_seen_149 N K nf M (nI k) (nI j) (nI c) (nI 1) (nI p) = f_Mo_seen_219 N K M (nI k) (nI j) (nI 0) (nI c)) ∧ f_Mo_seen_149 N K nf M (nI k) (nI j) (nI c) (nI 0) (nI p) = f_Mo_seen_219 N K M (nI k) (nI j) (nI 0) (nI c) := by
  intro m
  induction m with
  | zero =>
    intro p nf hp hf
    obtain ⟨nf, rfl⟩ : ∃ t, nf = t + 1 := ⟨nf - 1, by omega⟩
    have : p = n := by omega
    subst this
    refine ⟨fun _ => ?_, fun ⟨q, q1, q2, _⟩ => absurd q2 (by omega), ?_⟩
    · rw [f_Mo_seen_149, hn, if_pos (Int32.le_refl _), if_neg nI_1_0]
    · rw [f_Mo_seen_149, hn, if_pos (Int32.le_refl _), if_pos rfl]
  | succ m ih =>
    intro p nf hp hf
    obtain ⟨nf, rfl⟩ : ∃ t, nf = t + 1 := ⟨nf - 1, by omega⟩
    have z96 : zin (nI (24 * k + j + p)) 96 := zin_nI (by omega) (by decide)
    have c96 : (nI (24 * k + j + p)).toNatClampNeg = 24 * k + j + p := nI_clamp (by omega)
    have zp : zin (nI p) 7 := zin_nI (by omega) (by decide)
    have cp : (nI p).toNatClampNeg = p := nI_clamp (by omega)
    obtain ⟨i1, i2, i3⟩ := ih (p + 1) nf (by omega) (by omega)
    obtain ⟨f1, f2⟩ := hF p (by omega)
    have ho := hO p (by omega)
    have bF := pcb_le 20 (F p)
    have run0 : f_Mo_seen_149 N K (nf + 1) M (nI k) (nI j) (nI c) (nI 0) (nI p) = f_Mo_seen_219 N K M (nI k) (nI j) (nI 0) (nI c) := by
      rw [f_Mo_seen_149, hn, if_neg (nI_ge (by omega) (by omega)), if_pos rfl, f_Mo_seen_198, f_Mo_seen_199]
      dsimp only [bnd]
      rw [nI_add]
      exact i3
    have run1 : f_Mo_seen_149 N K (nf + 1) M (nI k) (nI j) (nI c) (nI 1) (nI p) = (if lg_cmp (nI (pcb 20 (F p))).toInt64 (V p) = nI 0 then f_Mo_seen_149 N K nf M (nI k) (nI j) (nI c) (nI 1) (nI (p + 1)) else f_Mo_seen_149 N K nf M (nI k) (nI j) (nI c) (nI 0) (nI (p + 1))) := by
      rw [f_Mo_seen_149, hn, if_neg (nI_ge (by omega) (by omega)), if_neg nI_1_0, if_pos zp]
      simp only [cp, f1, s_sizeOf hN f2, Option.bind_some, pk_mul, nI_add, if_pos z96, c96, hV p (by omega), f_Mo_seen_198, f_Mo_seen_199]
      dsimp only [bnd]
    have hc : lg_cmp (nI (pcb 20 (F p))).toInt64 (V p) = nI 0 ↔ pcb 20 (F p) = itN V p := by
      rw [lg_eq0, l_toInt, nI_toInt (by omega)]
      unfold itN
      have h1 := ho.1
      constructor
      · intro h; omega
      · intro h; omega
    refine ⟨fun h => ?_, fun ⟨q, q1, q2, q3⟩ => ?_, run0⟩
    · rw [run1, if_pos (hc.mpr (h p (Nat.le_refl _) (by omega)))]
      exact i1 (fun q h1 h2 => h q (by omega) h2)
    · rw [run1]
      by_cases he : pcb 20 (F p) = itN V p
      · rw [if_pos (hc.mpr he)]
        refine i2 ⟨q, ?_, q2, q3⟩
        rcases Nat.lt_or_ge p q with h | h
        · exact h
        · have : q = p := by omega
          subst this
          exact absurd he q3
      · rw [if_neg (fun q => he (hc.mp q))]
        exact i3
theorem s_seenM {N k j : Nat} (hN : 6000 ≤ N) {M0 : zOb} {a : aS} (hw : wfA a) (hM : repM (M0.1 1) a) {V : Nat → Int64} (hk : k < 4) (hj : j + a.1 0 ≤ 24) (hV : ∀ q, q < a.1 0 → M0.2.1 11 (24 * k + j + q) = V q) (hO : ∀ q, q < a.1 0 → itO V q) : ∃ Mf, f_Mo_seen_134 N N (zIr M0 13 (til nI (M0.1 13) 7)) (nI k) (nI j) (nI 0) (nI 1) = some (nI ((ords (a.1 0)).foldl (cV (fun o => ∀ p, p < a.1 0 → oF a o p = itN V p)) 0), Mf) ∧ wkJ M0 Mf := by
  have h7 := hw.1.1
  have hN2 : 200 ≤ N := by omega
  have h1 : ∀ nf M (s : Nat) o, wkJ M0 M → rowIs (M.1 13) o (a.1 0) → perm o (a.1 0) → ∃ M', wkJ M0 M' ∧ M'.1 13 = M.1 13 ∧ f_Mo_seen_134 N (nf + 1) M (nI k) (nI j) (nI s) (nI 1) = (f_Mo_nextOrder N M').bind (fun q => f_Mo_seen_134 N nf q.2 (nI k) (nI j) (nI (cV (fun o => ∀ p, p < a.1 0 → oF a o p = itN V p) s o)) q.1) := by
    intro nf M s o h hr hp
    have hMi : repM (M.1 1) a := by rw [h.one]; exact hM
    obtain ⟨M', e, kk, -, -, f16⟩ := s_brings hN2 hw hMi hp hr
    refine ⟨M', h.tr kk.wkJ, kk.1 13 (by omega), ?_⟩
    obtain ⟨g1, g2, g3⟩ := s_seen149 (c := s) (F := fun p => frN (tS a o p) (sgm (aL a) (tS a o) p)) hN2 h7 (f_Mo_seen_134 N nf) (M := M') (by rw [kk.1 1 (by omega)]; exact hMi.1 0 (by decide)) hk hj (fun q hq => by rw [kk.2, h.2.2]; exact hV q hq) hO (fun q hq => ⟨f16 q hq, mkb_lt _ 20⟩) (a.1 0) 0 N (by omega) (by omega)
    rw [f_Mo_seen_134, if_neg nI_1_0, e, Option.bind_some]
    by_cases hP : ∀ p, p < a.1 0 → oF a o p = itN V p
    · have ec : cV (fun o => ∀ p, p < a.1 0 → oF a o p = itN V p) s o = s + 1 := if_pos (cB_t.mpr hP)
      rw [ec, g1 (fun q _ hq => hP q hq), f_Mo_seen_219]
      dsimp only [bnd]
      rw [nI_add]
    · have ec : cV (fun o => ∀ p, p < a.1 0 → oF a o p = itN V p) s o = s := if_neg (fun q => hP (cB_t.mp q))
      rw [ec, g2 (Classical.byContradiction (fun hc => hP (fun p hp => Classical.byContradiction (fun hz => hc ⟨p, Nat.zero_le _, hp, hz⟩)))), f_Mo_seen_219]
      dsimp only [bnd]
      rw [nI_add, Nat.add_zero]
  obtain ⟨Mf, i, e⟩ := walkA (σ := Nat) hN h7 (fun nf M s x => f_Mo_seen_134 N nf M (nI k) (nI j) (nI s) x) (fun M _ => wkJ M0 M) (cV (fun o => ∀ p, p < a.1 0 → oF a o p = itN V p)) (fun M s => some (nI s, M)) (fun M s h => by rw [h.one]; exact hM.1 0 (by decide)) (fun M s r h => h.tr (wkJ.r13 M r)) (fun nf M s h => by
    show f_Mo_seen_134 N (nf + 1) M (nI k) (nI j) (nI s) (nI 0) = _
    rw [f_Mo_seen_134, if_pos rfl]) h1 (M := zIr M0 13 (til nI (M0.1 13) 7)) (s := 0) (wkJ.r13 _ _) (first_row _ h7)
  exact ⟨Mf, e, i⟩
theorem acc_seen {a : aS} {V : Nat → Int64} {o : Nat → Nat} : accA a (fun _ => 0) (itN V) (itN V) o ↔ ∀ p, p < a.1 0 → oF a o p = itN V p := by
  constructor
  · intro h p hp
    have := (h p hp).2
    omega
  · intro h p hp
    have := h p hp
    exact ⟨Nat.zero_and _, by omega, by omega⟩
theorem o_seen {N : Nat} (hN : 6000 ≤ N) : zop_seen N zInv := by
  intro μ x y i h
  have hN2 : 200 ≤ N := by omega
  obtain ⟨⟨a, hw, hS, hM⟩, hJ⟩ := id h
  have h7 := hw.1.1
  have hn : (μ 0).1 0 3 = nI (a.1 0) := hS.1 0 (by decide)
  have hm : (μ 29).1 1 0 = nI (a.1 0) := hM.1 0 (by decide)
  have hs := h.2.2.2.2.1
  have eM : ∀ x y i, f_Mo_seen N (μ 29) x y i = (f_Mo_isSheet x).bind (fun q1 => if q1 = nI 0 then some ((-1 : Int32), μ 29) else (f_Mo_in y.toInt64 (0 : Int64) (3 : Int64)).bind (fun q3 => if q3 = nI 0 then some ((-1 : Int32), μ 29) else (f_Mo_found (μ 29) x y i (nI (a.1 0))).bind (fun q5 => if nI 0 ≤ q5 then (if ((μ 29).1 1 0) ≤ nI 0 then f_Mo_seen_58 N (μ 29) x i (nI 0) else f_Mo_seen_58 N (μ 29) x i (nI 1)) else some (q5, μ 29)))) := by
    intro x y i
    rw [← hm]; rfl
  rcases s_row hs x y i h7 (some ((-1 : Int32), μ 29)) (if ((μ 29).1 1 0) ≤ nI 0 then f_Mo_seen_58 N (μ 29) x i (nI 0) else f_Mo_seen_58 N (μ 29) x i (nI 1)) (fun r => some (r, μ 29)) with ⟨r, g1, g2, g3⟩ | ⟨k, l, j, sz, hk, hl, hj, hsz, rfl, rfl, rfl, q1, q2, q3, q4, q5, g1, g2⟩
  · refine ⟨r, μ, μ 29, ?_, ?_, inv_same h⟩
    · rw [f_RS_seen, hn, g1, Option.bind_some, if_neg g2]
    · rw [eM]
      rcases g3 with ⟨rfl, g3⟩ | g3
      · exact g3
      · exact g3
  · have hV : ∀ q, q < a.1 0 → (μ 29).2.1 11 (24 * k + j + q) = (fun q => (μ (24 + k)).2.1 1 (j + q)) q := fun q hq => by
      show _ = (μ (24 + k)).2.1 1 (j + q)
      rw [q5 (j + q) (by omega), Nat.add_assoc]
    by_cases hn0 : a.1 0 = 0
    · refine ⟨-2, μ, μ 29, ?_, ?_, inv_same h⟩
      · rw [f_RS_seen, hn, g1, Option.bind_some, if_pos rfl, if_pos (by rw [hn0])]
      · obtain ⟨-, -, s3⟩ := s_seen63 (N := N) (V := fun q => (μ (24 + k)).2.1 1 (j + q)) h7 hm hk (by omega) hV (a.1 0) 0 N (by omega) (by omega)
        rw [eM, g2, hm, hn0, if_pos (Int32.le_refl _), f_Mo_seen_58]
        exact s3
    · have c0 : ¬ nI (a.1 0) ≤ nI 0 := nI_ge (by omega) (by omega)
      obtain ⟨R, S, ep, bR, rR, hC, hss⟩ := s_prepare hN2 hw hS hJ.2.2.2.2.2
      obtain ⟨S2, ef, f1, f2⟩ := s_forget hN2 h7 (μ := zset (zset μ 22 R) 23 S) (by rw [zset_s]; exact hC.1.1)
      rw [zset_ss] at ef
      rw [zset_s] at f2
      have zx : ∀ S x, x ≠ 22 → x ≠ 23 → (zset (zset μ 22 R) 23 S) x = μ x := fun S x h1 h2 => by rw [zset_n _ _ h2, zset_n _ _ h1]
      have hW : seW S2 a (fun q => (μ (24 + k)).2.1 1 (j + q)) 0 := by
        refine ⟨by rw [f2 0 (by decide)]; exact hC.1, fun i hi => ⟨by rw [f2 2 (by decide)]; exact (hC.2 i hi).1, f1 i hi⟩, fun i hi => absurd hi (by omega), ?_⟩
        unfold seS
        rw [f2 0 (by decide)]
        exact ⟨hss.1, hss.2.1, hss.2.2.1, fun h => absurd h (Nat.lt_irrefl 0)⟩
      obtain ⟨u1, u2⟩ := s_seen58 (N := N) (k := k) (j := j) (ν := zset μ 22 R) (V := fun q => (μ (24 + k)).2.1 1 (j + q)) hw (by rw [zset_n _ _ (by decide)]; exact hn) hk (by omega) (fun q hq => by rw [zset_n _ _ (by omega)]) (a.1 0) 0 N S2 (by omega) (by omega) hW
      obtain ⟨v1, v2, -⟩ := s_seen63 (N := N) (V := fun q => (μ (24 + k)).2.1 1 (j + q)) h7 hm hk (by omega) hV (a.1 0) 0 N (by omega) (by omega)
      have run : f_RS_seen N μ (nI k) (nI l) (nI j) = f_RS_seen_58 N N (zset (zset μ 22 R) 23 S2) (nI k) (nI j) (nI 0) := by
        rw [f_RS_seen, hn, g1, Option.bind_some, if_pos rfl, if_neg (nI_n0 (by omega) (by omega)), ep, Option.bind_some, ef, Option.bind_some]
      by_cases hall : ∀ q, q < a.1 0 → itO (fun q => (μ (24 + k)).2.1 1 (j + q)) q
      · obtain ⟨S', hW', e58⟩ := u1 (fun q _ hq => hall q hq)
        have bI : ∀ i, i < a.1 0 → itN (fun q => (μ (24 + k)).2.1 1 (j + q)) i < 2 ^ 31 := fun i hi => by
          have := (hall i hi)
          unfold itN
          unfold itO at this
          omega
        obtain ⟨μ1, es, i1, k1⟩ := s_seek (ld := fun _ => 0) (lo := itN (fun q => (μ (24 + k)).2.1 1 (j + q))) (hi := itN (fun q => (μ (24 + k)).2.1 1 (j + q))) (only := false) (W := 5040) hN2 hw (fun _ _ => by decide) bI bI (by decide) (μ := zset (zset μ 22 R) 23 S') (seI_0 hw (by rw [zset_s]; exact ⟨hW'.1, fun i hi => ⟨(hW'.2.1 i hi).1, (hW'.2.1 i hi).2, hW'.2.2.1 i hi⟩⟩) (by rw [zset_s]; exact hW'.2.2.2) (by rw [zset_n _ _ (by decide), zset_s]; exact bR) (by rw [zset_n _ _ (by decide), zset_s]; exact rR))
        have k2 : ∀ x, x ≠ 22 → x ≠ 23 → μ1 x = μ x := fun x h1 h2 => (k1 x h1 h2).trans (zx _ x h1 h2)
        obtain ⟨Mf, em, kM⟩ := s_seenM hN hw hM hk (by omega) hV hall
        refine ⟨nI ((ords (a.1 0)).foldl (cV (fun o => ∀ p, p < a.1 0 → oF a o p = itN (fun q => (μ (24 + k)).2.1 1 (j + q)) p)) 0), μ1, Mf, ?_, ?_, inv_srch h k2 i1.2.2.2.1.2.2.2 kM.keep kM.one⟩
        · rw [run, e58, es, Option.bind_some, i1.2.1.1, fold_cnt _ _ _ (by have := ords_len h7; show 0 + (ords (a.1 0)).length ≤ 5040 + 1; omega) (fun o _ => acc_seen)]
        · rw [k2 29 (by decide) (by decide), eM, g2, hm, if_neg c0, f_Mo_seen_58, v1 (fun q _ hq => hall q hq), s_firstOrder hN2, Option.bind_some]
          exact em
      · have hbad : ∃ q, 0 ≤ q ∧ q < a.1 0 ∧ ¬ itO (fun q => (μ (24 + k)).2.1 1 (j + q)) q := Classical.byContradiction (fun hc => hall (fun p hp => Classical.byContradiction (fun hz => hc ⟨p, Nat.zero_le _, hp, hz⟩)))
        obtain ⟨S', e58⟩ := u2 hbad
        refine ⟨-2, _, μ 29, by rw [run]; exact e58, ?_, inv_srch h (zx S') (by rw [zset_n _ _ (by decide), zset_s]; exact rR) (keepM.rf _) rfl⟩
        rw [zx S' 29 (by decide) (by decide), eM, g2, hm, if_neg c0, f_Mo_seen_58]
        exact v2 hbad
