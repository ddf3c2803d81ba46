/-! an order is read, on both sides -/
def sgm (L T : Nat → Nat) : Nat → Nat → Nat × Nat
  | 0 => fun _ => (0, 0)
  | p + 1 => stp L p (T p) (sgm L T p)
theorem sgm_wf (L T : Nat → Nat) : ∀ p, wfR L p (sgm L T p) := by
  intro p
  induction p with
  | zero => exact wfR_0 L
  | succ p ih => exact wfR_s ih
def tS (a : aS) (o : Nat → Nat) (p : Nat) : Nat := aN (a.2.1 (o p)) (a.1 1)
abbrev aL (a : aS) : Nat → Nat := lasN (a.1 2) (a.1 4)
theorem aL_wf {a : aS} (hw : wfA a) : wfL (aL a) := lasN_wf hw.1.2.2.1
theorem aN_lt {x y : Nat} (h : x < 2 ^ 20) : aN x y < 2 ^ 20 := Nat.xor_lt_two_pow h (Nat.lt_of_le_of_lt Nat.and_le_left h)
theorem tS_lt {a : aS} (hw : wfA a) {o : Nat → Nat} {p : Nat} (ho : o p < a.1 0) : tS a o p < 2 ^ 20 := aN_lt (hw.2.1 _ ho).1.2
theorem s_wtc {S : zOb} {a : aS} (hw : wfA a) (hS : repS S a) {k : Nat} (hk : k < a.1 0) : f_St_wordsThatCount S (nI k) = some (nI (aN (a.2.1 k) (a.1 1))) := by
  have h7 := hw.1.1
  have z7 : zin (nI k) 7 := zin_nI (by omega) (by decide)
  have ck : (nI k).toNatClampNeg = k := nI_clamp (by omega)
  have e4 : S.1 0 4 = nI (a.1 1) := hS.1 1 (by decide)
  simp only [f_St_wordsThatCount, f_St_wordsThatCount_25, isB_1 h7 (hS.1 0 (by decide)) hk, Option.bind_some, if_neg nI_1_0, if_pos z7, ck, e4, (hS.2 k hk).1, b_andN]
theorem fac {S : zOb} {a : aS} (hw : wfA a) (hS : repS S a) {m : Nat} (h1 : 1 ≤ m) (h9 : m ≤ 9) : ∃ y, f_Rd_factor (S.1 0 7) (nI m) = some y ∧ S.1 0 5 * y = nI (aL a m) := by
  have e5 : S.1 0 5 = nI (a.1 2) := hS.1 2 (by decide)
  have e7 : S.1 0 7 = nI (a.1 4) := hS.1 4 (by decide)
  have h4 := hw.1.2.2.2.2.1
  unfold aL lasN
  simp only [f_Rd_factor, e5, e7]
  by_cases hr : a.1 4 = 1
  · rw [hr, if_pos rfl, if_pos rfl]
    exact ⟨_, rfl, by rw [pk_mul]⟩
  · rw [if_neg (fun q => hr ((nI_eq (by omega) (by decide)).mp q)), if_neg hr]
    by_cases hr2 : a.1 4 = 2
    · rw [hr2, if_pos rfl, if_pos rfl, pk_sub h1, b_one (by omega)]
      exact ⟨_, rfl, by rw [pk_mul]⟩
    · rw [if_neg (fun q => hr2 ((nI_eq (by omega) (by decide)).mp q)), if_neg hr2]
      exact ⟨_, rfl, by rw [pk_mul, Nat.mul_one]⟩
theorem s_begin {N : Nat} (hN : 200 ≤ N) (R : zOb) {S : zOb} {a : aS} (hw : wfA a) (hS : repS S a) : ∃ R', f_Rd_begin N R S = some R' ∧ rdB R' (a.1 0) (aL a) ∧ (∀ j, 2 ≤ j → R'.1 j = R.1 j) := by
  obtain ⟨R', ⟨q0, q1, q2, q3⟩, e⟩ := for_ex (fun n R' x => f_Rd_begin_10 N S n R' x) 10 (fun i Ri => 1 ≤ i ∧ Ri.1 0 5 = nI (a.1 0) ∧ (∀ m, 1 ≤ m → m < i → Ri.1 1 m = nI (aL a m)) ∧ ∀ j, 2 ≤ j → Ri.1 j = R.1 j) (fun Ri => some Ri) (fun n Ri _ => by
    show f_Rd_begin_10 N S (n + 1) Ri (nI 10) = _
    rw [f_Rd_begin_10, if_pos (by decide)]) (fun n Ri i hi hP => by
    obtain ⟨h0, p1, p2, p3⟩ := hP
    obtain ⟨y, ey, hy⟩ := fac hw hS h0 (by omega)
    refine ⟨zI Ri 1 i (nI (aL a i)), ⟨by omega, ?_, ?_, ?_⟩, ?_⟩
    · rw [zI_o _ _ (by decide)]; exact p1
    · intro m h1 hm
      rw [zI_e]
      by_cases hmi : m = i
      · subst hmi; rw [upd_s]
      · rw [upd_n _ _ hmi]; exact p2 m h1 (by omega)
    · intro j hj
      rw [zI_o _ _ (by omega)]; exact p3 j hj
    · show f_Rd_begin_10 N S (n + 1) Ri (nI i) = f_Rd_begin_10 N S n (zI Ri 1 i (nI (aL a i))) (nI (i + 1))
      rw [f_Rd_begin_10, if_neg (nI_nlt (by omega) (by omega)), ey, Option.bind_some, if_pos (zin_nI hi (by decide)), nI_clamp (by omega)]
      simp only [bnd, hy, nI_add]) 9 1 N (zI R 0 5 (nI (a.1 0))) (by omega) (by omega) ⟨by omega, by rw [zI_e, upd_s], fun m h1 hm => absurd hm (by omega), fun j hj => by rw [zI_o _ _ (by omega)]⟩
  refine ⟨R', ?_, ⟨q1, fun m h1 h9 => q2 m h1 (by omega)⟩, q3⟩
  have e3 : S.1 0 3 = nI (a.1 0) := hS.1 0 (by decide)
  simp only [f_Rd_begin, bnd, e3]
  exact e
theorem mkb_z {f : Nat → Bool} (h : ∀ j, f j = false) : ∀ i, mkb f i = 0 := by
  intro i
  induction i with
  | zero => rfl
  | succ i ih => unfold mkb; rw [h i, if_neg (by decide)]; exact ih
theorem rdOK_at {R : zOb} (h : rdOK R) {n : Nat} (hn : n ≤ 7) (L T : Nat → Nat) : rdAt R n L 0 (sgm L T 0) := by
  obtain ⟨h1, h2, h3, h4⟩ := h
  refine ⟨?_, ?_, ?_, fun q _ hq => ?_⟩
  · rw [h1]; exact congrArg nI (mkb_z (fun j => Nat.zero_testBit 0) 20).symm
  · rw [h2]; exact congrArg nI (mkb_z (fun j => Nat.zero_testBit 1) 20).symm
  · rw [h3]; exact congrArg nI (mkb_z (fun j => Nat.zero_testBit 2) 20).symm
  · rw [show 10 + 0 = 10 from rfl, h4 q (by omega)]; exact congrArg nI (mkb_z (fun j => decide_eq_false (fun q => absurd q.1 (Nat.lt_irrefl 0))) 20).symm
theorem rdOK_keep {R R' : zOb} {p : Nat} (h : rdKeep R R' p) (hr : rdOK R) : rdOK R' := by
  obtain ⟨e1, e2, e3, e4⟩ := h.2.2 0 (by omega)
  obtain ⟨h1, h2, h3, h4⟩ := hr
  exact ⟨by rw [e1]; exact h1, by rw [e2]; exact h2, by rw [e3]; exact h3, fun q hq => by rw [show (10 : Nat) = 10 + 0 from rfl, e4]; exact h4 q hq⟩
theorem rdOK_rows {R R' : zOb} (h : ∀ j, 2 ≤ j → R'.1 j = R.1 j) (hr : rdOK R) : rdOK R' := by
  obtain ⟨h1, h2, h3, h4⟩ := hr
  exact ⟨by rw [h 2 (by omega)]; exact h1, by rw [h 3 (by omega)]; exact h2, by rw [h 4 (by omega)]; exact h3, fun q hq => by rw [h 10 (by omega)]; exact h4 q hq⟩
/-- what the class has read of an order -/
def rdAll (R : zOb) (n : Nat) (L T : Nat → Nat) (i : Nat) : Prop := rdB R n L ∧ (∀ p, p ≤ i → rdAt R n L p (sgm L T p)) ∧ (∀ p, p < i → R.1 7 p = nI (frN (T p) (sgm L T p)) ∧ R.1 8 p = nI (agN (T p) (sgm L T p)) ∧ R.1 9 p = nI (loN L p (T p) (sgm L T p))) ∧ rdOK R
theorem rdAll_s {N n p : Nat} {L T : Nat → Nat} (hN : 200 ≤ N) (hL : wfL L) (hn : n ≤ 7) (hp : p < n) (hT : T p < 2 ^ 20) {R : zOb} (h : rdAll R n L T p) : ∃ R', f_Rd_step N R (nI p) (nI (T p)) = some R' ∧ rdAll R' n L T (p + 1) ∧ rdKeep R R' p := by
  obtain ⟨h1, h2, h3, h4⟩ := h
  obtain ⟨R', e, r1, r2, r3, r4, rk⟩ := s_step hN hL hn hp hT (sgm_wf L T p) h1 (h2 p (Nat.le_refl _))
  refine ⟨R', e, ⟨rk.B h1, fun p' hp' => ?_, fun p' hp' => ?_, rdOK_keep rk h4⟩, rk⟩
  · by_cases hq : p' = p + 1
    · subst hq; exact r1
    · exact rk.at (by omega) (h2 p' (by omega))
  · by_cases hq : p' = p
    · subst hq; exact ⟨r2, r3, r4⟩
    · obtain ⟨k1, k2, k3⟩ := rk.2.1 p' hq
      obtain ⟨g1, g2, g3⟩ := h3 p' (by omega)
      exact ⟨by rw [k1]; exact g1, by rw [k2]; exact g2, by rw [k3]; exact g3⟩
theorem rdAll_0 {R : zOb} {n : Nat} {L T : Nat → Nat} (hn : n ≤ 7) (h : rdB R n L) (hr : rdOK R) : rdAll R n L T 0 := by
  refine ⟨h, fun p hp => ?_, fun p hp => absurd hp (by omega), hr⟩
  have : p = 0 := by omega
  subst this
  exact rdOK_at hr hn L T
theorem s_readOrder {N : Nat} (hN : 200 ≤ N) {R S : zOb} {a : aS} (hw : wfA a) (hS : repS S a) (hr : rdOK R) : ∃ R', f_Rd_readOrder N R S = some R' ∧ rdAll R' (a.1 0) (aL a) (tS a a.2.2.2) (a.1 0) := by
  have h7 := hw.1.1
  obtain ⟨R1, e1, b1, k1⟩ := s_begin hN R hw hS
  obtain ⟨R', hP, e⟩ := for_ex (fun n R' x => f_Rd_readOrder_7 N S n R' x) (a.1 0) (fun i Ri => rdAll Ri (a.1 0) (aL a) (tS a a.2.2.2) i) (fun Ri => some Ri) (fun n Ri hP => by
    show f_Rd_readOrder_7 N S (n + 1) Ri (nI (a.1 0)) = _
    rw [f_Rd_readOrder_7, hP.1.1, if_pos (Int32.le_refl _)]) (fun n Ri i hi hP => by
    have ho := (hw.2.1 i hi).2.2
    obtain ⟨R2, e2, a2, -⟩ := rdAll_s hN (aL_wf hw) h7 hi (tS_lt hw ho) hP
    refine ⟨R2, a2, ?_⟩
    show f_Rd_readOrder_7 N S (n + 1) Ri (nI i) = f_Rd_readOrder_7 N S n R2 (nI (i + 1))
    rw [f_Rd_readOrder_7, hP.1.1, if_neg (nI_ge hi (by omega)), if_pos (zin_nI (by omega) (by decide)), nI_clamp (by omega), (hS.2 i hi).2.2, s_wtc hw hS ho, Option.bind_some]
    have e2' : f_Rd_step N Ri (nI i) (nI (aN (a.2.1 (a.2.2.2 i)) (a.1 1))) = some R2 := e2
    rw [e2', Option.bind_some]
    simp only [bnd, nI_add]) (a.1 0) 0 N R1 (by omega) (by omega) (rdAll_0 h7 b1 (rdOK_rows k1 hr))
  exact ⟨R', by rw [f_Rd_readOrder, e1, Option.bind_some]; exact e, hP⟩
/-- the reference reads an order -/
def refOrd (M : zOb) (o : Nat → Nat) (n : Nat) : Prop := ∀ p, p < n → M.1 13 p = nI (o p)
def refAll (M : zOb) (L T : Nat → Nat) (i : Nat) : Prop := refAt M (sgm L T i) ∧ ∀ p, p < i → M.1 16 p = nI (frN (T p) (sgm L T p)) ∧ M.1 17 p = nI (agN (T p) (sgm L T p)) ∧ M.1 18 p = nI (loN L p (T p) (sgm L T p)) ∧ M.1 19 p = nI (liN (sgm L T (p + 1)))
def mrk (M M' : zOb) : Prop := (∀ j, ¬ (14 ≤ j ∧ j ≤ 19) → M'.1 j = M.1 j) ∧ M'.2 = M.2
theorem mrk.rf (M : zOb) : mrk M M := ⟨fun _ _ => rfl, rfl⟩
theorem mrk.tr {M M' M2 : zOb} (h : mrk M M') (g : mrk M' M2) : mrk M M2 := ⟨fun j hj => (g.1 j hj).trans (h.1 j hj), g.2.trans h.2⟩
theorem mrk.keep {M M' : zOb} (h : mrk M M') : keepM M M' := ⟨⟨h.1 2 (by omega), h.1 4 (by omega), h.1 5 (by omega), h.1 7 (by omega), h.1 9 (by omega), h.1 10 (by omega), h.1 25 (by omega)⟩, ⟨by rw [h.1 0 (by omega)], by rw [h.1 0 (by omega)], by rw [h.1 0 (by omega)]⟩, h.2⟩
theorem s_begins {N : Nat} (hN : 200 ≤ N) (M : zOb) : ∃ M', f_Mo_begins N M = some M' ∧ (∀ w, w < 20 → M'.1 14 w = nI 0) ∧ mrk M M' := by
  obtain ⟨M', ⟨q1, q2⟩, e⟩ := for_ex (fun n R' x => f_Mo_begins_2 N n R' x) 20 (fun i Mi => (∀ w, w < i → Mi.1 14 w = nI 0) ∧ mrk M Mi) (fun Mi => some Mi) (fun n Mi _ => by
    show f_Mo_begins_2 N (n + 1) Mi (nI 20) = _
    rw [f_Mo_begins_2, if_pos (by decide)]) (fun n Mi i hi hP => by
    refine ⟨zI Mi 14 i (nI 0), ⟨fun w hw => ?_, fun j hj => ?_, hP.2.2⟩, ?_⟩
    · rw [zI_e]
      by_cases hwi : w = i
      · subst hwi; rw [upd_s]
      · rw [upd_n _ _ hwi]; exact hP.1 w (by omega)
    · rw [zI_o _ _ (by omega)]; exact hP.2.1 j hj
    · show f_Mo_begins_2 N (n + 1) Mi (nI i) = f_Mo_begins_2 N n (zI Mi 14 i (nI 0)) (nI (i + 1))
      rw [f_Mo_begins_2, if_neg (nI_ge hi (by decide)), if_pos (zin_nI hi (by decide)), nI_clamp (by omega)]
      simp only [bnd, nI_add]) 20 0 N M (by omega) (by omega) ⟨fun w h => absurd h (by omega), mrk.rf M⟩
  exact ⟨M', e, q1, q2⟩
theorem refAll_s {N p : Nat} {a : aS} {T : Nat → Nat} (hN : 200 ≤ N) (hw : wfA a) (hp : p < 7) {x : Nat} (hx : x < 2 ^ 20) (hT : T p = aN x (a.1 1)) {M : zOb} (hM : repM (M.1 1) a) (h : refAll M (aL a) T p) : ∃ M', f_Mo_reads N M (nI p) (nI x) = some M' ∧ refAll M' (aL a) T (p + 1) ∧ mrk M M' := by
  obtain ⟨M', e, r1, r2, r3, r4, r5, k1, k2, k3⟩ := s_reads hN hp hw.1.2.2.1 hw.1.2.2.2.2.1 hx ⟨hM.1 2 (by decide), hM.1 4 (by decide)⟩ (hM.1 1 (by decide)) (sgm_wf (aL a) T p) h.1
  rw [← hT] at r1 r2 r3 r4 r5
  refine ⟨M', e, ⟨r1, fun p' hp' => ?_⟩, k2, k3⟩
  by_cases hq : p' = p
  · subst hq; exact ⟨r2, r3, r4, r5⟩
  · obtain ⟨g1, g2, g3, g4⟩ := k1 p' hq
    obtain ⟨q1, q2, q3, q4⟩ := h.2 p' (by omega)
    exact ⟨by rw [g1]; exact q1, by rw [g2]; exact q2, by rw [g3]; exact q3, by rw [g4]; exact q4⟩
theorem refAll_0 {M : zOb} {L T : Nat → Nat} (h : ∀ w, w < 20 → M.1 14 w = nI 0) : refAll M L T 0 := ⟨fun w hw => ⟨h w hw, fun q => absurd q (Nat.lt_irrefl 0)⟩, fun p hp => absurd hp (by omega)⟩
theorem s_wordsAt {a : aS} {o : Nat → Nat} (hw : wfA a) {M : zOb} (hM : repM (M.1 1) a) {p : Nat} (hp : p < a.1 0) (ho : o p < a.1 0) (h13 : M.1 13 p = nI (o p)) : f_Mo_wordsAt M (nI p) = some (nI (a.2.1 (o p))) := by
  have h7 := hw.1.1
  have z7 : zin (nI p) 7 := zin_nI (by omega) (by decide)
  have cp : (nI p).toNatClampNeg = p := nI_clamp (by omega)
  have z27 : zin (nI (13 + o p)) 27 := zin_nI (by omega) (by decide)
  have c27 : (nI (13 + o p)).toNatClampNeg = 13 + o p := nI_clamp (by omega)
  simp only [f_Mo_wordsAt, if_pos z7, cp, h13, nI_add, if_pos z27, c27, (hM.2 _ ho).1]
theorem s_readsOrder {N : Nat} (hN : 200 ≤ N) {M : zOb} {a : aS} {o : Nat → Nat} (hw : wfA a) (hM : repM (M.1 1) a) (ho : ∀ p, p < a.1 0 → o p < a.1 0) (hO : refOrd M o (a.1 0)) : ∃ M', f_Mo_readsOrder N M = some M' ∧ refAll M' (aL a) (tS a o) (a.1 0) ∧ mrk M M' := by
  have h7 := hw.1.1
  obtain ⟨M1, e1, b1, k1⟩ := s_begins hN M
  obtain ⟨M', ⟨hP, hk⟩, e⟩ := for_ex (fun n R' x => f_Mo_readsOrder_6 N n R' x) (a.1 0) (fun i Mi => refAll Mi (aL a) (tS a o) i ∧ mrk M Mi) (fun Mi => some Mi) (fun n Mi hP => by
    show f_Mo_readsOrder_6 N (n + 1) Mi (nI (a.1 0)) = _
    rw [f_Mo_readsOrder_6, hP.2.1 1 (by omega), hM.1 0 (by decide), if_pos (Int32.le_refl _)]) (fun n Mi i hi hP => by
    have hMi : repM (Mi.1 1) a := by rw [hP.2.1 1 (by omega)]; exact hM
    obtain ⟨M2, e2, a2, k2⟩ := refAll_s (T := tS a o) hN hw (by omega) (hw.2.1 _ (ho i hi)).1.2 rfl hMi hP.1
    refine ⟨M2, ⟨a2, hP.2.tr k2⟩, ?_⟩
    show f_Mo_readsOrder_6 N (n + 1) Mi (nI i) = f_Mo_readsOrder_6 N n M2 (nI (i + 1))
    rw [f_Mo_readsOrder_6, hMi.1 0 (by decide), if_neg (nI_ge hi (by omega)), s_wordsAt hw hMi hi (ho i hi) (by rw [hP.2.1 13 (by omega)]; exact hO i hi), Option.bind_some, e2, Option.bind_some]
    simp only [bnd, nI_add]) (a.1 0) 0 N M1 (by omega) (by omega) ⟨refAll_0 b1, k1⟩
  exact ⟨M', by rw [f_Mo_readsOrder, e1, Option.bind_some]; exact e, hP, hk⟩
theorem s_takesOrder {N : Nat} (hN : 200 ≤ N) (M : zOb) : f_Mo_takesOrder N M = some (zIr M 13 (til (fun j => M.1 1 (6 + j)) (M.1 13) 7)) := by
  have h := for_up (fun n S x => f_Mo_takesOrder_2 N n S x) 0 7 (fun i => zIr M 13 (til (fun j => M.1 1 (6 + j)) (M.1 13) i)) (some (zIr M 13 (til (fun j => M.1 1 (6 + j)) (M.1 13) 7))) ?_ ?_ (by omega) N (by omega)
  · simp only [til_0, zIr_id] at h
    exact h
  · intro n
    show f_Mo_takesOrder_2 N (n + 1) _ (nI 7) = _
    rw [f_Mo_takesOrder_2, if_pos (by decide)]
  · intro n i _ hi
    show f_Mo_takesOrder_2 N (n + 1) (zIr M 13 (til (fun j => M.1 1 (6 + j)) (M.1 13) i)) (nI i) = f_Mo_takesOrder_2 N n (zIr M 13 (til (fun j => M.1 1 (6 + j)) (M.1 13) (i + 1))) (nI (i + 1))
    have z6 : zin (nI (6 + i)) 27 := zin_nI (by omega) (by decide)
    have z7 : zin (nI i) 7 := zin_nI (by omega) (by decide)
    have c6 : (nI (6 + i)).toNatClampNeg = 6 + i := nI_clamp (by omega)
    have c7 : (nI i).toNatClampNeg = i := nI_clamp (by omega)
    have e1 : (zIr M 13 (til (fun j => M.1 1 (6 + j)) (M.1 13) i)).1 1 (6 + i) = M.1 1 (6 + i) := rfl
    rw [f_Mo_takesOrder_2, if_neg (nI_ge hi (by decide))]
    simp only [nI_add, if_pos z6, if_pos z7, c6, c7, bnd, e1]
    rw [zI_r, zIr_rr, zIr_e]
    congr 2
    exact til_s _ _ i
/-- the order that is now, read by both -/
theorem s_now {N : Nat} (hN : 200 ≤ N) {μ : zM} (h : zInv μ) : ∃ a R' M1 M', wfA a ∧ repS (μ 0) a ∧ repM ((μ 29).1 1) a ∧ f_Rd_readOrder N (μ 21) (μ 0) = some R' ∧ rdAll R' (a.1 0) (aL a) (tS a a.2.2.2) (a.1 0) ∧ f_Mo_takesOrder N (μ 29) = some M1 ∧ f_Mo_readsOrder N M1 = some M' ∧ refAll M' (aL a) (tS a a.2.2.2) (a.1 0) ∧ refOrd M' a.2.2.2 (a.1 0) ∧ keepM (μ 29) M' ∧ M'.1 1 = (μ 29).1 1 ∧ ∀ j, ¬ (13 ≤ j ∧ j ≤ 19) → M'.1 j = (μ 29).1 j := by
  obtain ⟨⟨a, hw, hS, hM⟩, hJ⟩ := h
  have h7 := hw.1.1
  obtain ⟨R', e1, r1⟩ := s_readOrder hN hw hS hJ.2.2.2.2.1
  have hO : refOrd (zIr (μ 29) 13 (til (fun j => (μ 29).1 1 (6 + j)) ((μ 29).1 13) 7)) a.2.2.2 (a.1 0) := by
    intro p hp
    rw [zIr_e, til_in _ _ (by omega)]
    exact (hM.2 p hp).2.2
  have hM1 : repM ((zIr (μ 29) 13 (til (fun j => (μ 29).1 1 (6 + j)) ((μ 29).1 13) 7)).1 1) a := hM
  obtain ⟨M', e2, r2, k2⟩ := s_readsOrder hN hw hM1 (fun p hp => (hw.2.1 p hp).2.2) hO
  refine ⟨a, R', _, M', hw, hS, hM, e1, r1, s_takesOrder hN (μ 29), e2, r2, ?_, (keepM.row (μ 29) (by decide) _).tr k2.keep, ?_, fun j hj => by rw [k2.1 j (by omega), zIr_o _ _ (by omega)]⟩
  · intro p hp
    rw [k2.1 13 (by omega)]; exact hO p hp
  · rw [k2.1 1 (by omega)]; rfl
theorem inv_read {μ : zM} (h : zInv μ) {R' M' : zOb} (hr : rdOK R') (hk : keepM (μ 29) M') (h1 : M'.1 1 = (μ 29).1 1) : zInv (zset (zset μ 21 R') 29 M') := by
  obtain ⟨⟨a, hw, hS, hM⟩, hJ⟩ := h
  refine zInv_of ⟨a, hw, by rw [zset_n _ _ (by decide)]; exact hS, by rw [h1]; exact hM⟩ ?_
  refine zJ_keep (fun x hx => zset_n _ _ (by omega)) (by rw [zset_s]; exact hr) (by rw [zset_n _ _ (by decide)]; exact hJ.2.2.2.2.2) hk hJ
