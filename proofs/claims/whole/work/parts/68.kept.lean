/-! kept -/
def wsp (L : Nat → Nat) (p : Nat) (b : Bool) (x : Nat × Nat) : Nat × Nat := (if decide (0 < (if b = true then x.1 + 1 else x.1) ∧ L (if b = true then x.1 + 1 else x.1) ≤ p - (if b = true then p else x.2)) = true then 0 else (if b = true then x.1 + 1 else x.1), if b = true then p else x.2)
def wst (L : Nat → Nat) (B : Nat → Bool) : Nat → Nat × Nat
  | 0 => (0, 0)
  | p + 1 => wsp L p (B p) (wst L B p)
theorem sgm_w (L T : Nat → Nat) (w : Nat) : ∀ p, sgm L T p w = wst L (fun p => (T p).testBit w) p := by
  intro p
  induction p with
  | zero => rfl
  | succ p ih =>
    show stp L p (T p) (sgm L T p) w = wsp L p ((T p).testBit w) (wst L (fun p => (T p).testBit w) p)
    rw [← ih]
    rfl
theorem wst_cg {L : Nat → Nat} {B B' : Nat → Bool} : ∀ p, (∀ q, q < p → B' q = B q) → wst L B' p = wst L B p := by
  intro p
  induction p with
  | zero => intro _; rfl
  | succ p ih => intro h; show wsp L p (B' p) (wst L B' p) = wsp L p (B p) (wst L B p); rw [ih (fun q hq => h q (by omega)), h p (by omega)]
theorem wst_f (L : Nat → Nat) : ∀ p, (wst L (fun _ => false) p).1 = 0 := by
  intro p
  induction p with
  | zero => rfl
  | succ p ih =>
    show (wsp L p false (wst L (fun _ => false) p)).1 = 0
    unfold wsp
    simp [ih]
def kB (L : Nat → Nat) (n : Nat) (B : Nat → Bool) : Nat := if 0 < (wst L B n).1 then 1 else 0
theorem li_0 {σ : Nat → Nat × Nat} (h : ∀ w, 1 ≤ w → w < 20 → (σ w).1 = 0) : liN σ = 0 ↔ (σ 0).1 = 0 := by
  constructor
  · intro h0
    have h1 := (isM_mk (fun w => decide (0 < (σ w).1))).2 0 (by decide)
    have e : mkb (fun w => decide (0 < (σ w).1)) 20 = 0 := h0
    rw [e, Nat.zero_testBit] at h1
    have := of_decide_eq_false h1.symm
    omega
  · intro h0
    show mkb (fun w => decide (0 < (σ w).1)) 20 = 0
    rw [mkb_congr (g := fun _ => false) (fun j hj => decide_eq_false (by
      by_cases hj0 : j = 0
      · subst hj0; omega
      · have := h j (by omega) hj; omega)), mkb_z (fun _ => rfl)]
theorem bit01 {x p w : Nat} : (x / 2 ^ p % 2).testBit w = (decide (w = 0) && x.testBit p) := by
  by_cases hw : w = 0
  · subst hw
    rw [Nat.testBit_zero, tb_div]
    simp
  · have h1 : 2 ^ 1 ≤ 2 ^ w := Nat.pow_le_pow_right (by decide) (by omega)
    have h2 : x / 2 ^ p % 2 < 2 := Nat.mod_lt _ (by decide)
    rw [Nat.testBit_lt_two_pow (by omega)]
    simp [hw]
theorem s_kw {N n x : Nat} {L : Nat → Nat} (hN : 200 ≤ N) (hL : wfL L) (hn : n ≤ 7) (hx : x < 2 ^ 31) {R : zOb} (hB : rdB R n L) (hr : rdOK R) : ∃ R', f_Rd_keepsWordMetAt N R (nI x) = some (nI (kB L n (fun p => x.testBit p)), R') ∧ rdB R' n L ∧ rdOK R' := by
  obtain ⟨R', hP, e⟩ := for_ex (fun f Ri y => f_Rd_keepsWordMetAt_2 N f Ri (nI x) y) n (fun i Ri => rdAll Ri n L (fun p => x / 2 ^ p % 2) i) (fun Ri => some (nI (kB L n (fun p => x.testBit p)), Ri)) (fun f Ri hP => by
    show f_Rd_keepsWordMetAt_2 N (f + 1) Ri (nI x) (nI n) = _
    have hk := s_known (p := n) hn (sg_lt hn) (hP.2.1 n (Nat.le_refl _))
    have e0 : sgm L (fun p => x / 2 ^ p % 2) n 0 = wst L (fun p => x.testBit p) n := by
      rw [sgm_w]
      exact wst_cg n (fun q _ => by rw [bit01]; simp)
    have h1 : ∀ w, 1 ≤ w → w < 20 → (sgm L (fun p => x / 2 ^ p % 2) n w).1 = 0 := by
      intro w hw _
      rw [sgm_w, wst_cg (B := fun _ => false) n (fun q _ => by rw [bit01]; simp; omega)]
      exact wst_f L n
    have h0 := li_0 h1
    rw [e0] at h0
    have hb : liN (sgm L (fun p => x / 2 ^ p % 2) n) < 2 ^ 20 := mkb_lt _ 20
    rw [f_Rd_keepsWordMetAt_2, hP.1.1, if_pos (Int32.le_refl _), hk, Option.bind_some]
    unfold f_Rd_keepsWordMetAt_42 kB
    by_cases hz : (wst L (fun p => x.testBit p) n).1 = 0
    · rw [h0.mpr hz, if_pos rfl, if_pos (Or.inl rfl), if_neg (by omega)]
    · rw [if_neg (fun q => hz (h0.mp ((nI_eq (by omega) (by decide)).mp q))), if_pos (Or.inr rfl), if_pos (by omega)]) (fun f Ri i hi hP => by
    have h2 : x / 2 ^ i % 2 < 2 := Nat.mod_lt _ (by decide)
    obtain ⟨R2, e2, a2, -⟩ := rdAll_s hN hL hn hi (show (fun p => x / 2 ^ p % 2) i < 2 ^ 20 by show x / 2 ^ i % 2 < 2 ^ 20; omega) hP
    refine ⟨R2, a2, ?_⟩
    show f_Rd_keepsWordMetAt_2 N (f + 1) Ri (nI x) (nI i) = f_Rd_keepsWordMetAt_2 N f R2 (nI x) (nI (i + 1))
    have e2' : f_Rd_step N Ri (nI i) (nI (x / 2 ^ i % 2)) = some R2 := e2
    rw [f_Rd_keepsWordMetAt_2, hP.1.1, if_neg (nI_ge hi (by omega)), b_shr hx (by omega), b_and1 _ (Nat.lt_of_le_of_lt (Nat.div_le_self _ _) hx), e2', Option.bind_some]
    dsimp only [bnd]
    rw [nI_add]) n 0 N R (by omega) (by omega) (rdAll_0 hn hB hr)
  exact ⟨R', e, hP.1, hP.2.2.2⟩
theorem s_placesWith {N w : Nat} (hN : 200 ≤ N) {μ : zM} {a : aS} (hw : wfA a) (hS : repS (μ 0) a) (hw20 : w < 20) : f_RS_placesWith N μ (nI w) = some (nI (mkb (fun p => (tS a a.2.2.2 p).testBit w) (a.1 0))) := by
  have h7 := hw.1.1
  have h := for_up (fun m (c : Int32) y => f_RS_placesWith_4 N μ m (nI w) c y) 0 (a.1 0) (fun i => nI (mkb (fun p => (tS a a.2.2.2 p).testBit w) i)) (some (nI (mkb (fun p => (tS a a.2.2.2 p).testBit w) (a.1 0)))) ?_ ?_ (by omega) N (by omega)
  · exact h
  · intro m
    show f_RS_placesWith_4 N μ (m + 1) (nI w) _ (nI (a.1 0)) = _
    rw [f_RS_placesWith_4, hS.1 0 (by decide), if_pos (Int32.le_refl _)]
  · intro m i _ hi
    have ho := (wf_perm hw).1 i hi
    have hb : aN (a.2.1 (a.2.2.2 i)) (a.1 1) < 2 ^ 31 := by have := aN_lt (y := a.1 1) (hw.2.1 _ ho).1.2; omega
    show f_RS_placesWith_4 N μ (m + 1) (nI w) (nI (mkb (fun p => (tS a a.2.2.2 p).testBit w) i)) (nI i) = f_RS_placesWith_4 N μ m (nI w) (nI (if (tS a a.2.2.2 i).testBit w then mkb (fun p => (tS a a.2.2.2 p).testBit w) i ||| 2 ^ i else mkb (fun p => (tS a a.2.2.2 p).testBit w) i)) (nI (i + 1))
    rw [f_RS_placesWith_4, hS.1 0 (by decide), if_neg (nI_ge hi (by omega)), if_pos (zin_nI (by omega) (by decide)), nI_clamp (by omega), (hS.2 i hi).2.2, s_wtc hw hS ho, Option.bind_some, s_hasBit hb (by omega), Option.bind_some]
    by_cases ht : (aN (a.2.1 (a.2.2.2 i)) (a.1 1)).testBit w = true
    · have ht' : (tS a a.2.2.2 i).testBit w = true := ht
      rw [if_pos ht, if_neg nI_1_0, if_pos ht']
      dsimp only [bnd]
      rw [b_one (by omega), b_or, f_RS_placesWith_44]
      dsimp only [bnd]
      rw [nI_add]
    · have ht' : ¬ (tS a a.2.2.2 i).testBit w = true := ht
      rw [if_neg ht, if_pos rfl, if_neg ht', f_RS_placesWith_44]
      dsimp only [bnd]
      rw [nI_add]
theorem pcb_0 : ∀ m, pcb m 0 = 0 := by
  intro m
  induction m with
  | zero => rfl
  | succ m ih => rw [pcb_s, ih, Nat.zero_testBit]; rfl
theorem pcb_20 {x n : Nat} (hn : n ≤ 7) (hx : x < 2 ^ n) : pcb 20 x = pcb n x := by
  have h := pcb_split n (20 - n) x
  rw [show n + (20 - n) = 20 by omega, Nat.div_eq_of_lt hx, pcb_0] at h
  exact h
theorem pcb_mkb (P : Nat → Bool) (n : Nat) : ∀ k, k ≤ n → pcb k (mkb P n) = cntB P k := by
  intro k
  induction k with
  | zero => intro _; rfl
  | succ k ih =>
    intro hk
    have e : decide (k < n) = true := decide_eq_true (by omega)
    rw [pcb_s, ih (by omega), mkb_bit, e, Bool.true_and]
    rfl
theorem sb_all {P : Nat → Bool} {x : Nat} : ∀ n, sbB P n x = true ↔ ∀ p, p < n → x.testBit p = true → P p = true := by
  intro n
  induction n with
  | zero => exact ⟨fun _ p hp => absurd hp (by omega), fun _ => rfl⟩
  | succ n ih =>
    have e : sbB P (n + 1) x = (sbB P n x && (!x.testBit n || P n)) := rfl
    rw [e, Bool.and_eq_true, ih]
    constructor
    · rintro ⟨h1, h2⟩ p hp hx
      by_cases hpn : p = n
      · subst hpn
        rw [hx] at h2
        simpa using h2
      · exact h1 p (by omega) hx
    · intro h
      refine ⟨fun p hp => h p (by omega), ?_⟩
      cases hx : x.testBit n
      · rfl
      · rw [h n (by omega) hx]; rfl
theorem sb_iff {P : Nat → Bool} {x n : Nat} (hx : x < 2 ^ n) : aN x (mkb P n) = 0 ↔ sbB P n x = true := by
  rw [sb_all]
  constructor
  · intro h p hp hb
    have h1 : (aN x (mkb P n)).testBit p = false := by rw [h]; exact Nat.zero_testBit p
    rw [aN_bit, mkb_bit, hb, decide_eq_true hp] at h1
    simpa using h1
  · intro h
    apply Nat.eq_of_testBit_eq
    intro p
    rw [Nat.zero_testBit, aN_bit, mkb_bit]
    cases hb : x.testBit p
    · rfl
    · have hp : p < n := by
        refine Nat.lt_of_not_le (fun hq => ?_)
        have : 2 ^ n ≤ 2 ^ p := Nat.pow_le_pow_right (by decide) hq
        rw [Nat.testBit_lt_two_pow (by omega)] at hb
        exact absurd hb (by decide)
      rw [h p hp hb, decide_eq_true hp]
      rfl
theorem s_ways {N c : Nat} (hN : 200 ≤ N) {μ : zM} {a : aS} (hw : wfA a) (hS : repS (μ 0) a) (hr : rdOK (μ 21)) (hc : c ≤ 10) (P : Nat → Bool) : ∃ R', f_RS_waysToKeep N μ (nI (mkb P (a.1 0))) (nI c) = some (nI (smN (Gn (kB (aL a) (a.1 0)) P c (10 - c) (a.1 0)) (2 ^ a.1 0)), zset μ 21 R') ∧ rdOK R' := by
  have h7 := hw.1.1
  have h2n : 2 ^ a.1 0 ≤ 2 ^ 7 := Nat.pow_le_pow_right (by decide) h7
  obtain ⟨R1, e1, b1, k1⟩ := s_begin hN (μ 21) hw hS
  have z0 : ∀ R, (zset μ 21 R) 0 = μ 0 := fun R => zset_n _ _ (by decide)
  have hn : (μ 0).1 0 3 = nI (a.1 0) := hS.1 0 (by decide)
  have hpl : mkb P (a.1 0) < 2 ^ a.1 0 := mkb_lt P _
  obtain ⟨⟨μ', ac⟩, ⟨R', e', bR, rR, eac⟩, e⟩ := for_ex (σ := zM × Int32) (fun f s y => f_RS_waysToKeep_16 N f s.1 (nI (mkb P (a.1 0))) (nI c) s.2 y) (2 ^ a.1 0) (fun i s => ∃ R, s.1 = zset μ 21 R ∧ rdB R (a.1 0) (aL a) ∧ rdOK R ∧ s.2 = nI (smN (Gn (kB (aL a) (a.1 0)) P c (10 - c) (a.1 0)) i)) (fun s => some (s.2, s.1)) (fun f s hP => by
    obtain ⟨R, g1, -, -, -⟩ := hP
    show f_RS_waysToKeep_16 N (f + 1) s.1 (nI (mkb P (a.1 0))) (nI c) s.2 (nI (2 ^ a.1 0)) = _
    rw [f_RS_waysToKeep_16, g1, z0, hn, b_one (by omega), if_pos (Int32.le_refl _)]) (fun f s i hi hP => by
    obtain ⟨R, g1, g2, g3, g4⟩ := hP
    have hxa : aN i (mkb P (a.1 0)) < 2 ^ 31 := by
      have : aN i (mkb P (a.1 0)) < 2 ^ a.1 0 := Nat.xor_lt_two_pow hi (Nat.lt_of_le_of_lt Nat.and_le_left hi)
      omega
    have hsm : smN (Gn (kB (aL a) (a.1 0)) P c (10 - c) (a.1 0)) (i + 1) = smN (Gn (kB (aL a) (a.1 0)) P c (10 - c) (a.1 0)) i + Gn (kB (aL a) (a.1 0)) P c (10 - c) (a.1 0) i := rfl
    have run : f_RS_waysToKeep_16 N (f + 1) s.1 (nI (mkb P (a.1 0))) (nI c) s.2 (nI i) = (if nI (aN i (mkb P (a.1 0))) = nI 0 then (f_Rd_keepsWordMetAt N R (nI i)).bind (fun q6 => (if q6.1 = nI 0 then f_RS_waysToKeep_86 N (f_RS_waysToKeep_16 N f) (zset μ 21 q6.2) (nI (mkb P (a.1 0))) (nI c) s.2 (nI i) else (f_J_bitCount (nI i)).bind (fun q9 => (f_J_bitCount (nI (mkb P (a.1 0)))).bind (fun q10 => (f_RS_power N ((nI 10) - (nI c)) q9).bind (fun q12 => (f_RS_power N (nI c) (q10 - q9)).bind (fun q13 => f_RS_waysToKeep_86 N (f_RS_waysToKeep_16 N f) (zset μ 21 q6.2) (nI (mkb P (a.1 0))) (nI c) (s.2 + (q12 * q13)) (nI i))))))) else f_RS_waysToKeep_86 N (f_RS_waysToKeep_16 N f) (zset μ 21 R) (nI (mkb P (a.1 0))) (nI c) s.2 (nI i)) := by
      rw [f_RS_waysToKeep_16, g1, z0, hn, b_one (by omega), if_neg (nI_ge hi (by omega)), b_andN, zset_s]
      dsimp only [bnd]
      simp only [zset_ss]
    have fin : ∀ R2 x3, f_RS_waysToKeep_86 N (f_RS_waysToKeep_16 N f) (zset μ 21 R2) (nI (mkb P (a.1 0))) (nI c) x3 (nI i) = f_RS_waysToKeep_16 N f (zset μ 21 R2) (nI (mkb P (a.1 0))) (nI c) x3 (nI (i + 1)) := by
      intro R2 x3
      unfold f_RS_waysToKeep_86
      dsimp only [bnd]
      rw [nI_add]
    by_cases hz : sbB P (a.1 0) i = true
    · obtain ⟨R2, ek, bk, rk⟩ := s_kw (x := i) hN (aL_wf hw) h7 (by omega) g2 g3
      have hpc := sb_pc (a.1 0) hz
      have hcl := cnt_le P (a.1 0)
      have eG : Gn (kB (aL a) (a.1 0)) P c (10 - c) (a.1 0) i = kB (aL a) (a.1 0) (fun p => i.testBit p) * ((10 - c) ^ pcb (a.1 0) i * c ^ (cntB P (a.1 0) - pcb (a.1 0) i)) := if_pos hz
      by_cases hk : 0 < (wst (aL a) (fun p => i.testBit p) (a.1 0)).1
      · have ekb : kB (aL a) (a.1 0) (fun p => i.testBit p) = 1 := if_pos hk
        rw [ekb] at ek eG
        refine ⟨(zset μ 21 R2, nI (smN (Gn (kB (aL a) (a.1 0)) P c (10 - c) (a.1 0)) (i + 1))), ⟨R2, rfl, bk, rk, rfl⟩, ?_⟩
        show f_RS_waysToKeep_16 N (f + 1) s.1 (nI (mkb P (a.1 0))) (nI c) s.2 (nI i) = f_RS_waysToKeep_16 N f (zset μ 21 R2) (nI (mkb P (a.1 0))) (nI c) (nI (smN (Gn (kB (aL a) (a.1 0)) P c (10 - c) (a.1 0)) (i + 1))) (nI (i + 1))
        rw [run, (sb_iff hi).mpr hz, if_pos rfl, ek, Option.bind_some]
        dsimp only
        rw [if_neg nI_1_0, s_bitCount (by omega), Option.bind_some, s_bitCount (by omega), Option.bind_some, pcb_20 h7 hi, pcb_20 h7 hpl, pcb_mkb P _ _ (Nat.le_refl _), pk_sub hc, s_power hN (by omega), Option.bind_some, pk_sub hpc, s_power hN (by omega), Option.bind_some, fin, g4, pk_mul, nI_add, hsm, eG, Nat.one_mul]
      · have ekb : kB (aL a) (a.1 0) (fun p => i.testBit p) = 0 := if_neg hk
        rw [ekb] at ek eG
        refine ⟨(zset μ 21 R2, nI (smN (Gn (kB (aL a) (a.1 0)) P c (10 - c) (a.1 0)) (i + 1))), ⟨R2, rfl, bk, rk, rfl⟩, ?_⟩
        show f_RS_waysToKeep_16 N (f + 1) s.1 (nI (mkb P (a.1 0))) (nI c) s.2 (nI i) = f_RS_waysToKeep_16 N f (zset μ 21 R2) (nI (mkb P (a.1 0))) (nI c) (nI (smN (Gn (kB (aL a) (a.1 0)) P c (10 - c) (a.1 0)) (i + 1))) (nI (i + 1))
        rw [run, (sb_iff hi).mpr hz, if_pos rfl, ek, Option.bind_some]
        dsimp only
        rw [if_pos rfl, fin, g4, hsm, eG, Nat.zero_mul]
        rfl
    · have eG : Gn (kB (aL a) (a.1 0)) P c (10 - c) (a.1 0) i = 0 := if_neg hz
      refine ⟨(zset μ 21 R, nI (smN (Gn (kB (aL a) (a.1 0)) P c (10 - c) (a.1 0)) (i + 1))), ⟨R, rfl, g2, g3, rfl⟩, ?_⟩
      show f_RS_waysToKeep_16 N (f + 1) s.1 (nI (mkb P (a.1 0))) (nI c) s.2 (nI i) = f_RS_waysToKeep_16 N f (zset μ 21 R) (nI (mkb P (a.1 0))) (nI c) (nI (smN (Gn (kB (aL a) (a.1 0)) P c (10 - c) (a.1 0)) (i + 1))) (nI (i + 1))
      rw [run, if_neg (fun q => hz ((sb_iff hi).mp ((nI_eq hxa (by decide)).mp q))), fin, g4, hsm, eG]
      rfl) (2 ^ a.1 0) 0 N (zset μ 21 R1, nI 0) (by omega) (by omega) ⟨R1, rfl, b1, rdOK_rows k1 hr, rfl⟩
  refine ⟨R', ?_, rR⟩
  unfold f_RS_waysToKeep
  rw [e1, Option.bind_some]
  dsimp only [bnd]
  have e'' : μ' = zset μ 21 R' := e'
  have eac' : ac = nI (smN (Gn (kB (aL a) (a.1 0)) P c (10 - c) (a.1 0)) (2 ^ a.1 0)) := eac
  have e3 : f_RS_waysToKeep_16 N N (zset μ 21 R1) (nI (mkb P (a.1 0))) (nI c) (nI 0) (nI 0) = some (ac, μ') := e
  rw [e3, e'', eac']
