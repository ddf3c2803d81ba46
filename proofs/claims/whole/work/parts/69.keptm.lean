/-! kept by the reference -/
abbrev kT (a : aS) (o : Nat → Nat) (w x p : Nat) : Nat := aN (if x.testBit p = true then a.2.1 (o p) &&& 2 ^ w else 0) (a.1 1)
theorem kT_bit {a : aS} {o : Nat → Nat} {w x p : Nat} : (kT a o w x p).testBit w = (x.testBit p && (tS a o p).testBit w) := by
  unfold kT tS
  rw [aN_bit, aN_bit]
  cases hx : x.testBit p
  · rw [if_neg (by decide), Nat.zero_testBit]
    rfl
  · rw [if_pos rfl, Nat.testBit_and, tb_pow, decide_eq_true rfl, Bool.and_true, Bool.true_and]
theorem r_99 {N w c x ac bl : Nat} (hN : 200 ≤ N) {a : aS} {o : Nat → Nat} (hw : wfA a) (hw20 : w < 20) (hc : c ≤ 10) (hx : x < 2 ^ 31) (ho : ∀ p, p < a.1 0 → o p < a.1 0) {M : zOb} (hM : repM (M.1 1) a) (hO : rowIs (M.1 13) o (a.1 0)) (h0 : ∀ w, w < 20 → M.1 14 w = nI 0) (K : zOb → Int32 → Int32 → Int32 → Int32 → Int32 → Int32 → Option (Int32 × zOb)) (x3 : Int32) : ∃ M', mrk M M' ∧ f_Mo_kept_99 N K N M (nI w) (nI c) x3 (nI ac) (nI bl) (nI x) (nI 1) (nI 0) = f_Mo_kept_186 N K M' (nI w) (nI c) x3 (nI bl) (nI x) (nI (kB (aL a) (a.1 0) (fun p => x.testBit p && (tS a o p).testBit w) * Wn c (10 - c) (a.1 0) x)) (nI ac) := by
  have h7 := hw.1.1
  obtain ⟨s', ⟨hR, hk, hb⟩, e⟩ := for_ex (σ := zOb × Int32) (fun f s y => f_Mo_kept_99 N K f s.1 (nI w) (nI c) x3 (nI ac) (nI bl) (nI x) s.2 y) (a.1 0) (fun i s => refAll s.1 (aL a) (kT a o w x) i ∧ mrk M s.1 ∧ s.2 = nI (Wn c (10 - c) i x)) (fun s => f_Mo_kept_99 N K (0 + 1) s.1 (nI w) (nI c) x3 (nI ac) (nI bl) (nI x) s.2 (nI (a.1 0))) (fun f s hP => by
    show f_Mo_kept_99 N K (f + 1) s.1 (nI w) (nI c) x3 (nI ac) (nI bl) (nI x) s.2 (nI (a.1 0)) = _
    have e0 : s.1.1 1 0 = nI (a.1 0) := by rw [hP.2.1.1 1 (by omega)]; exact hM.1 0 (by decide)
    rw [f_Mo_kept_99, f_Mo_kept_99, e0, if_pos (Int32.le_refl _), if_pos (Int32.le_refl _)]) (fun f s i hi hP => by
    obtain ⟨hR, hk, hb⟩ := hP
    have hMi : repM (s.1.1 1) a := by rw [hk.1 1 (by omega)]; exact hM
    have e0 : s.1.1 1 0 = nI (a.1 0) := hMi.1 0 (by decide)
    have hs20 := (hw.2.1 (o i) (ho i hi)).1.2
    have hy : (if x.testBit i = true then a.2.1 (o i) &&& 2 ^ w else 0) < 2 ^ 20 := by
      split
      · exact Nat.lt_of_le_of_lt Nat.and_le_left hs20
      · decide
    obtain ⟨M2, e2, r2, k2⟩ := refAll_s (T := kT a o w x) hN hw (show i < 7 by omega) hy rfl hMi hR
    have ew : f_Mo_wordsAt s.1 (nI i) = some (nI (a.2.1 (o i))) := s_wordsAt hw hMi hi (ho i hi) (by rw [hk.1 13 (by omega)]; exact hO i hi)
    refine ⟨(M2, nI (Wn c (10 - c) (i + 1) x)), ⟨r2, hk.tr k2, rfl⟩, ?_⟩
    show f_Mo_kept_99 N K (f + 1) s.1 (nI w) (nI c) x3 (nI ac) (nI bl) (nI x) s.2 (nI i) = f_Mo_kept_99 N K f M2 (nI w) (nI c) x3 (nI ac) (nI bl) (nI x) (nI (Wn c (10 - c) i x * (if x.testBit i then 10 - c else c))) (nI (i + 1))
    rw [f_Mo_kept_99, e0, if_neg (nI_ge hi (by omega)), s_has hx (by omega), Option.bind_some, hb]
    by_cases hxb : x.testBit i = true
    · rw [if_pos hxb] at e2
      rw [if_pos hxb, if_neg nI_1_0, if_pos hxb, f_Mo_kept_130]
      dsimp only [bnd]
      rw [pk_sub hc, pk_mul, s_has hx (by omega), Option.bind_some, if_pos hxb, if_neg nI_1_0, ew, Option.bind_some, b_one (by omega), b_and, f_Mo_kept_160, e2, Option.bind_some]
      dsimp only [bnd]
      rw [nI_add]
    · rw [if_neg hxb] at e2
      rw [if_neg hxb, if_pos rfl, if_neg hxb, f_Mo_kept_130]
      dsimp only [bnd]
      rw [pk_mul, s_has hx (by omega), Option.bind_some, if_neg hxb, if_pos rfl, f_Mo_kept_160, e2, Option.bind_some]
      dsimp only [bnd]
      rw [nI_add]) (a.1 0) 0 N (M, nI 1) (by omega) (by omega) ⟨refAll_0 h0, mrk.rf M, rfl⟩
  refine ⟨s'.1, hk, ?_⟩
  have e3 : f_Mo_kept_99 N K N M (nI w) (nI c) x3 (nI ac) (nI bl) (nI x) (nI 1) (nI 0) = f_Mo_kept_99 N K (0 + 1) s'.1 (nI w) (nI c) x3 (nI ac) (nI bl) (nI x) s'.2 (nI (a.1 0)) := e
  have e0 : s'.1.1 1 0 = nI (a.1 0) := by rw [hk.1 1 (by omega)]; exact hM.1 0 (by decide)
  have es := (hR.1 w hw20).1
  have esg : sgm (aL a) (kT a o w x) (a.1 0) w = wst (aL a) (fun p => x.testBit p && (tS a o p).testBit w) (a.1 0) := by
    rw [sgm_w]
    exact wst_cg _ (fun q _ => kT_bit)
  have hlt := sg_lt (L := aL a) (T := kT a o w x) h7 w hw20
  rw [esg] at es hlt
  rw [e3, f_Mo_kept_99, e0, if_pos (Int32.le_refl _), if_pos (zin_nI hw20 (by decide)), nI_clamp (by omega), es, hb]
  unfold kB
  by_cases hz : 0 < (wst (aL a) (fun p => x.testBit p && (tS a o p).testBit w) (a.1 0)).1
  · rw [if_neg (nI_ge hz (by omega)), if_pos hz, Nat.one_mul]
  · rw [if_pos (nI_le (by omega) (by decide)), if_neg hz, Nat.zero_mul]
abbrev kH (a : aS) (o : Nat → Nat) (w c x : Nat) : Nat := kB (aL a) (a.1 0) (fun p => x.testBit p && (tS a o p).testBit w) * Wn c (10 - c) (a.1 0) x
theorem r_76 {N w c bl : Nat} (hN : 200 ≤ N) {a : aS} {o : Nat → Nat} (hw : wfA a) (hw20 : w < 20) (hc : c ≤ 10) (ho : ∀ p, p < a.1 0 → o p < a.1 0) {M : zOb} (hM : repM (M.1 1) a) (hO : rowIs (M.1 13) o (a.1 0)) (x3 : Int32) : ∃ M', mrk M M' ∧ f_Mo_kept_76 N N M (nI w) (nI c) x3 (nI 0) (nI bl) (nI 0) = f_Mo_kept_203 N N M' x3 (nI (smN (kH a o w c) (2 ^ a.1 0))) (nI bl) (nI (smN (kH a o w c) (2 ^ a.1 0))) (nI bl) := by
  have h7 := hw.1.1
  have h2n : 2 ^ a.1 0 ≤ 2 ^ 7 := Nat.pow_le_pow_right (by decide) h7
  obtain ⟨s', ⟨hk, hb⟩, e⟩ := for_ex (σ := zOb × Int32) (fun f s y => f_Mo_kept_76 N f s.1 (nI w) (nI c) x3 s.2 (nI bl) y) (2 ^ a.1 0) (fun i s => mrk M s.1 ∧ s.2 = nI (smN (kH a o w c) i)) (fun s => f_Mo_kept_203 N N s.1 x3 s.2 (nI bl) s.2 (nI bl)) (fun f s hP => by
    have e0 : s.1.1 1 0 = nI (a.1 0) := by rw [hP.1.1 1 (by omega)]; exact hM.1 0 (by decide)
    show f_Mo_kept_76 N (f + 1) s.1 (nI w) (nI c) x3 s.2 (nI bl) (nI (2 ^ a.1 0)) = _
    rw [f_Mo_kept_76, e0, b_one (by omega), if_pos (Int32.le_refl _)]) (fun f s i hi hP => by
    obtain ⟨hk, hb⟩ := hP
    have e0 : s.1.1 1 0 = nI (a.1 0) := by rw [hk.1 1 (by omega)]; exact hM.1 0 (by decide)
    obtain ⟨M1, e1, b1, k1⟩ := s_begins hN s.1
    have hk1 := hk.tr k1
    obtain ⟨M2, k2, e2⟩ := r_99 (x := i) (ac := smN (kH a o w c) i) (bl := bl) hN hw hw20 hc (by omega) ho (M := M1) (by rw [hk1.1 1 (by omega)]; exact hM) (by rw [hk1.1 13 (by omega)]; exact hO) b1 (f_Mo_kept_76 N f) x3
    refine ⟨(M2, nI (smN (kH a o w c) (i + 1))), ⟨hk1.tr k2, rfl⟩, ?_⟩
    show f_Mo_kept_76 N (f + 1) s.1 (nI w) (nI c) x3 s.2 (nI bl) (nI i) = f_Mo_kept_76 N f M2 (nI w) (nI c) x3 (nI (smN (kH a o w c) i + kH a o w c i)) (nI bl) (nI (i + 1))
    rw [f_Mo_kept_76, e0, b_one (by omega), if_neg (nI_ge hi (by omega)), e1, Option.bind_some, hb, e2, f_Mo_kept_186]
    dsimp only [bnd]
    rw [nI_add, nI_add]) (2 ^ a.1 0) 0 N (M, nI 0) (by omega) (by omega) ⟨mrk.rf M, rfl⟩
  refine ⟨s'.1, hk, ?_⟩
  rw [← hb]
  exact e
theorem r_49 {N n : Nat} (hN : 200 ≤ N) (hn : n ≤ 7) {M : zOb} (h0 : M.1 1 0 = nI n) (x1 x2 x3 : Int32) : f_Mo_kept_49 N N M x1 x2 x3 (nI 0) (nI 1) (nI 0) = f_Mo_kept_76 N N M x1 x2 x3 (nI 0) (nI (10 ^ n)) (nI 0) := by
  have h := for_up (fun m (c : Int32) y => f_Mo_kept_49 N m M x1 x2 x3 (nI 0) c y) 0 n (fun i => nI (10 ^ i)) (f_Mo_kept_76 N N M x1 x2 x3 (nI 0) (nI (10 ^ n)) (nI 0)) ?_ ?_ (by omega) N (by omega)
  · exact h
  · intro m
    show f_Mo_kept_49 N (m + 1) M x1 x2 x3 (nI 0) _ (nI n) = _
    rw [f_Mo_kept_49, h0, if_pos (Int32.le_refl _)]
  · intro m i _ hi
    show f_Mo_kept_49 N (m + 1) M x1 x2 x3 (nI 0) (nI (10 ^ i)) (nI i) = f_Mo_kept_49 N m M x1 x2 x3 (nI 0) (nI (10 ^ (i + 1))) (nI (i + 1))
    rw [f_Mo_kept_49, h0, if_neg (nI_ge hi (by omega))]
    dsimp only [bnd]
    rw [pk_mul, nI_add, Nat.pow_succ]
theorem o_kept {N : Nat} (hN : 200 ≤ N) : zop_kept N zInv := by
  intro μ x y z h
  obtain ⟨⟨a, hw, hS, hM⟩, hJ⟩ := id h
  have h7 := hw.1.1
  have e0 : (nI 0).toInt = 0 := rfl
  have e1 : (nI 1).toInt = 1 := rfl
  have e10 : (nI 10).toInt = 10 := rfl
  have e20 : (nI 20).toInt = 20 := rfl
  have el0 : (0 : Int64).toInt = 0 := by decide
  have el1 : (1 : Int64).toInt = 1 := by decide
  have el10 : (10 : Int64).toInt = 10 := by decide
  have el19 : (19 : Int64).toInt = 19 := by decide
  by_cases hok : (0 ≤ x.toInt ∧ x.toInt < 20) ∧ (0 ≤ y.toInt ∧ y.toInt < 11) ∧ 0 ≤ z.toInt ∧ z.toInt < 2
  · obtain ⟨w, hw20, rfl⟩ := (arg_in x (n := 20) (by decide)).resolve_right (fun q => q hok.1)
    obtain ⟨c, hc11, rfl⟩ := (arg_in y (n := 11) (by decide)).resolve_right (fun q => q hok.2.1)
    obtain ⟨t, ht2, rfl⟩ := (arg_in z (n := 2) (by decide)).resolve_right (fun q => q hok.2.2)
    have hO : rowIs ((zIr (μ 29) 13 (til (fun j => (μ 29).1 1 (6 + j)) ((μ 29).1 13) 7)).1 13) a.2.2.2 (a.1 0) := by
      intro p hp
      rw [zIr_e, til_in _ _ (by omega)]
      exact (hM.2 p hp).2.2
    obtain ⟨M', kM, em⟩ := r_76 (w := w) (c := c) (bl := 10 ^ a.1 0) hN hw hw20 (by omega) (wf_perm hw).1 (M := zIr (μ 29) 13 (til (fun j => (μ 29).1 1 (6 + j)) ((μ 29).1 13) 7)) hM hO (nI t)
    obtain ⟨R', ew, rR⟩ := s_ways (c := c) hN hw hS hJ.2.2.2.2.1 (by omega) (fun p => (tS a a.2.2.2 p).testBit w)
    have eP := s_placesWith (w := w) hN hw hS hw20
    have hmain := kp_main (c := c) (d := 10 - c) (by omega) (a.1 0) (kB (aL a) (a.1 0)) (fun p => (tS a a.2.2.2 p).testBit w)
    have hcl := cnt_le (fun p => (tS a a.2.2.2 p).testBit w) (a.1 0)
    have hpl : mkb (fun p => (tS a a.2.2.2 p).testBit w) (a.1 0) < 2 ^ a.1 0 := mkb_lt _ _
    have h2n : 2 ^ a.1 0 ≤ 2 ^ 7 := Nat.pow_le_pow_right (by decide) h7
    have epc : pcb 20 (mkb (fun p => (tS a a.2.2.2 p).testBit w) (a.1 0)) = cntB (fun p => (tS a a.2.2.2 p).testBit w) (a.1 0) := by rw [pcb_20 h7 hpl, pcb_mkb _ _ _ (Nat.le_refl _)]
    have hle : smN (kH a a.2.2.2 w c) (2 ^ a.1 0) ≤ 10 ^ a.1 0 := by
      rw [← Wn_sum (c := c) (d := 10 - c) (by omega) (a.1 0)]
      refine smN_le _ (fun x _ => ?_)
      show kB _ _ _ * Wn c (10 - c) (a.1 0) x ≤ Wn c (10 - c) (a.1 0) x
      unfold kB
      split
      · rw [Nat.one_mul]; exact Nat.le_refl _
      · rw [Nat.zero_mul]; exact Nat.zero_le _
    have hmain' : smN (kH a a.2.2.2 w c) (2 ^ a.1 0) = 10 ^ (a.1 0 - cntB (fun p => (tS a a.2.2.2 p).testBit w) (a.1 0)) * smN (Gn (kB (aL a) (a.1 0)) (fun p => (tS a a.2.2.2 p).testBit w) c (10 - c) (a.1 0)) (2 ^ a.1 0) := hmain
    generalize smN (kH a a.2.2.2 w c) (2 ^ a.1 0) = A at em hle hmain'
    generalize smN (Gn (kB (aL a) (a.1 0)) (fun p => (tS a a.2.2.2 p).testBit w) c (10 - c) (a.1 0)) (2 ^ a.1 0) = B at ew hmain'
    generalize hcn : cntB (fun p => (tS a a.2.2.2 p).testBit w) (a.1 0) = k at hcl epc hmain'
    have hp7 : 10 ^ a.1 0 ≤ 10 ^ 7 := Nat.pow_le_pow_right (by decide) h7
    have hk7 : 10 ^ k ≤ 10 ^ 7 := Nat.pow_le_pow_right (by decide) (by omega)
    have hk0 : 0 < 10 ^ k := Nat.pow_pos (by decide)
    have hn0 : 0 < 10 ^ a.1 0 := Nat.pow_pos (by decide)
    have hm0 : 0 < 10 ^ (a.1 0 - k) := Nat.pow_pos (by decide)
    have hsp : 10 ^ a.1 0 = 10 ^ (a.1 0 - k) * 10 ^ k := by rw [← Nat.pow_add, show a.1 0 - k + k = a.1 0 by omega]
    have hBA : B ≤ A := by
      rw [hmain']
      exact Nat.le_mul_of_pos_left B hm0
    have gA : Nat.gcd A (10 ^ a.1 0) = 10 ^ (a.1 0 - k) * Nat.gcd B (10 ^ k) := by rw [hmain', hsp, Nat.gcd_mul_left]
    have gB0 : 0 < Nat.gcd B (10 ^ k) := Nat.gcd_pos_of_pos_right _ hk0
    have gBle : Nat.gcd B (10 ^ k) ≤ 10 ^ k := Nat.gcd_le_right _ hk0
    have gA0 : 0 < Nat.gcd A (10 ^ a.1 0) := Nat.gcd_pos_of_pos_right _ hn0
    have gAle : Nat.gcd A (10 ^ a.1 0) ≤ 10 ^ a.1 0 := Nat.gcd_le_right _ hn0
    have q1 : A / Nat.gcd A (10 ^ a.1 0) = B / Nat.gcd B (10 ^ k) := by rw [gA, hmain', Nat.mul_div_mul_left _ _ hm0]
    have q2 : 10 ^ a.1 0 / Nat.gcd A (10 ^ a.1 0) = 10 ^ k / Nat.gcd B (10 ^ k) := by rw [gA, hsp, Nat.mul_div_mul_left _ _ hm0]
    have g24 : ∀ v, v ≤ 10 ^ 7 → v < 2 ^ 24 := fun v hv => by
      have : (10 : Nat) ^ 7 < 2 ^ 24 := by decide
      omega
    have g31 : ∀ v, v ≤ 10 ^ 7 → v < 2 ^ 31 := fun v hv => by
      have : (10 : Nat) ^ 7 < 2 ^ 31 := by decide
      omega
    have dC : f_RS_greatestDivisor N (nI B) (nI (10 ^ k)) = some (nI (Nat.gcd B (10 ^ k))) := s_gcd 24 B (10 ^ k) 0 N (g24 _ hk7) (g31 _ (by omega)) (g31 _ hk7) (by decide) (by omega)
    have dM := s_gcdM (N := N) (S := M') (x3 := nI t) (x4 := nI A) (x5 := nI (10 ^ a.1 0)) 24 A (10 ^ a.1 0) N (g24 _ hp7) (g31 _ (by omega)) (g31 _ hp7) (by omega)
    have n1 : ¬ nI (Nat.gcd B (10 ^ k)) = nI 0 := nI_n0 gB0 (g31 _ (by omega))
    have n2 : ¬ nI (Nat.gcd A (10 ^ a.1 0)) = nI 0 := nI_n0 gA0 (g31 _ (by omega))
    have kk : keepM (μ 29) M' := (keepM.row (μ 29) (by decide) _).tr kM.keep
    have k1 : M'.1 1 = (μ 29).1 1 := by rw [kM.1 1 (by omega)]; rfl
    refine ⟨if t = 0 then nI (B / Nat.gcd B (10 ^ k)) else nI (10 ^ k / Nat.gcd B (10 ^ k)), zset μ 21 R', M', ?_, ?_, inv_read h rR kk k1⟩
    · unfold f_RS_kept
      rw [if_neg (nI_nlt (Nat.zero_le _) (by omega)), if_neg (nI_ge hw20 (by decide)), if_neg (nI_nlt (Nat.zero_le _) (by omega)), if_neg (nI_nlt (by omega) (by decide)), if_neg (nI_nlt (Nat.zero_le _) (by omega)), if_pos (nI_le (by omega) (by decide)), eP, Option.bind_some, ew, Option.bind_some]
      dsimp only [bnd]
      rw [s_bitCount (by omega), Option.bind_some, epc, s_power hN (by omega), Option.bind_some, dC, Option.bind_some, if_neg n1]
      unfold f_RS_kept_86
      rw [if_pos n1, if_pos n1, pk_div (g31 _ (by omega)) gB0 (g31 _ (by omega)), pk_div (g31 _ hk7) gB0 (g31 _ (by omega))]
      by_cases ht0 : t = 0
      · rw [ht0, if_pos rfl, if_pos rfl]
      · rw [if_neg ht0, if_neg (fun q => ht0 ((nI_eq (by omega) (by decide)).mp q))]
    · rw [zset_n _ _ (by decide)]
      unfold f_Mo_kept
      rw [s_inI, nI_toInt (by omega), el0, el19, if_pos (by omega), Option.bind_some, if_neg nI_1_0, s_inI, nI_toInt (by omega), el0, el10, if_pos (by omega), Option.bind_some, if_neg nI_1_0, s_inI, nI_toInt (by omega), el0, el1, if_pos (by omega), Option.bind_some, if_neg nI_1_0, s_takesOrder hN, Option.bind_some, r_49 hN h7 (show (zIr (μ 29) 13 _).1 1 0 = nI (a.1 0) from hM.1 0 (by decide)), em, dM, f_Mo_kept_203, if_pos rfl]
      unfold f_Mo_kept_243
      rw [if_pos n2, if_pos n2, pk_div (g31 _ (by omega)) gA0 (g31 _ (by omega)), pk_div (g31 _ hp7) gA0 (g31 _ (by omega)), q1, q2]
      by_cases ht0 : t = 0
      · rw [ht0, if_pos rfl, if_pos rfl]
      · rw [if_neg ht0, if_neg (fun q => ht0 ((nI_eq (by omega) (by decide)).mp q))]
  · refine ⟨-1, μ, μ 29, ?_, ?_, inv_same h⟩
    · unfold f_RS_kept f_RS_kept_29
      by_cases h1 : x < nI 0
      · rw [if_pos h1]
      · rw [if_neg h1]
        by_cases h2 : nI 20 ≤ x
        · rw [if_pos h2]
        · rw [if_neg h2]
          by_cases h3 : y < nI 0
          · rw [if_pos h3]
          · rw [if_neg h3]
            by_cases h4 : nI 10 < y
            · rw [if_pos h4]
            · rw [if_neg h4]
              by_cases h5 : z < nI 0
              · rw [if_pos h5]
              · rw [if_neg h5, if_neg (fun q => hok ?_)]
                rw [i_lt] at h1 h3 h4 h5
                rw [i_le] at h2 q
                omega
    · unfold f_Mo_kept f_Mo_kept_34
      rw [s_inI, s_inI, s_inI, el0, el1, el10, el19]
      by_cases h1 : 0 ≤ x.toInt ∧ x.toInt ≤ 19
      · rw [if_pos h1, Option.bind_some, if_neg nI_1_0]
        by_cases h2 : 0 ≤ y.toInt ∧ y.toInt ≤ 10
        · rw [if_pos h2, Option.bind_some, if_neg nI_1_0, if_neg (fun q => hok (by omega)), Option.bind_some, if_pos rfl]
        · rw [if_neg h2, Option.bind_some, if_pos rfl]
      · rw [if_neg h1, Option.bind_some, if_pos rfl]
