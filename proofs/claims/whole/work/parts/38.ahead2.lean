/-! ahead on both sides -/
theorem lt31 {T n : Nat} (hn : n ≤ 7) (h : T < 2 ^ n) : T < 2 ^ 31 := Nat.lt_of_lt_of_le h (Nat.pow_le_pow_right (by decide) (by omega))
theorem s_ab20 {N c : Nat} (hc : c ≤ 7) (S : zOb) (f : Nat → Nat) (h0 : S.1 0 3 = nI c) (hs : ∀ i, i < c → S.1 2 i = nI (f i)) (hf : ∀ i, i < c → f i < 2 ^ c) (k9 : Int32 → Int32 → Option Int32) (x3 : Int32) : ∀ k i n T, i + k = c → k < n → T < 2 ^ c → f_St_allBehind_20 N S k9 n (nI T) x3 (nI i) = k9 (nI (cpass f k i T)) (x3 + nI 1) := by
  intro k
  induction k with
  | zero =>
    intro i n T hi hn hT
    obtain ⟨n, rfl⟩ : ∃ m, n = m + 1 := ⟨n - 1, by omega⟩
    have : i = c := by omega
    subst this
    rw [f_St_allBehind_20, h0, if_pos (nI_le (Nat.le_refl i) (by omega))]
    rfl
  | succ k ih =>
    intro i n T hi hn hT
    obtain ⟨n, rfl⟩ : ∃ m, n = m + 1 := ⟨n - 1, by omega⟩
    rw [f_St_allBehind_20, h0, if_neg (nI_ge (by omega) (by omega)), s_hasBit (lt31 hc hT) (by omega)]
    simp only [Option.bind_some]
    unfold cpass
    cases hb : T.testBit i
    · simp only [Bool.false_eq_true, if_false, if_true, f_St_allBehind_48, bnd]
      rw [nI_add]
      exact ih (i + 1) n T (by omega) (by omega) hT
    · simp only [if_true]
      rw [if_neg nI_1_0, if_pos (zin_nI (by omega) (by decide)), nI_clamp (by omega), hs i (by omega), b_or]
      simp only [f_St_allBehind_48, bnd]
      rw [nI_add]
      exact ih (i + 1) n _ (by omega) (by omega) (or_lt hT (hf i (by omega)))
theorem s_ab9 {N c : Nat} (hN : 200 ≤ N) (hc : c ≤ 7) (S : zOb) (f : Nat → Nat) (h0 : S.1 0 3 = nI c) (hs : ∀ i, i < c → S.1 2 i = nI (f i)) (hf : ∀ i, i < c → f i < 2 ^ c) : ∀ k st n T, st + k = c → k < n → T < 2 ^ c → f_St_allBehind_9 N S n (nI T) (nI st) = some (nI (crnd f c k T)) := by
  intro k
  induction k with
  | zero =>
    intro i n T hi hn hT
    obtain ⟨n, rfl⟩ : ∃ m, n = m + 1 := ⟨n - 1, by omega⟩
    have : i = c := by omega
    subst this
    rw [f_St_allBehind_9, h0, if_pos (nI_le (Nat.le_refl i) (by omega))]
    rfl
  | succ k ih =>
    intro i n T hi hn hT
    obtain ⟨n, rfl⟩ : ∃ m, n = m + 1 := ⟨n - 1, by omega⟩
    rw [f_St_allBehind_9, h0, if_neg (nI_ge (by omega) (by omega)), s_ab20 hc S f h0 hs hf _ _ c 0 N T (by omega) (by omega) hT, nI_add]
    exact ih (i + 1) n _ (by omega) (by omega) (cpass_lt f hf c 0 T (by omega) hT)
theorem s_allBehind {N c b : Nat} (hN : 200 ≤ N) (hc : c ≤ 7) (S : zOb) (f : Nat → Nat) (h0 : S.1 0 3 = nI c) (hs : ∀ i, i < c → S.1 2 i = nI (f i)) (hf : ∀ i, i < c → f i < 2 ^ c) (hb : b < c) : f_St_allBehind N S (nI b) = some (nI (crnd f c c (f b))) := by
  unfold f_St_allBehind
  rw [if_pos (zin_nI (by omega) (by decide)), nI_clamp (by omega), hs b hb]
  exact s_ab9 hN hc S f h0 hs hf c 0 N (f b) (by omega) (by omega) (hf b hb)
theorem s_ct17 {N c : Nat} (hc : c ≤ 7) (M : zOb) (f : Nat → Nat) (h0 : M.1 1 0 = nI c) (hs : ∀ i, i < c → M.1 1 (20 + i) = nI (f i)) (hf : ∀ i, i < c → f i < 2 ^ c) (k7 : Int32 → Int32 → Int32 → Option Int32) (x2 x4 : Int32) : ∀ k i n T, i + k = c → k < n → T < 2 ^ c → f_Mo_comesTo_17 N M k7 n x2 (nI T) x4 (nI i) = k7 x2 (nI (cpass f k i T)) (x4 + nI 1) := by
  intro k
  induction k with
  | zero =>
    intro i n T hi hn hT
    obtain ⟨n, rfl⟩ : ∃ m, n = m + 1 := ⟨n - 1, by omega⟩
    have : i = c := by omega
    subst this
    rw [f_Mo_comesTo_17, h0, if_pos (nI_le (Nat.le_refl i) (by omega))]
    rfl
  | succ k ih =>
    intro i n T hi hn hT
    obtain ⟨n, rfl⟩ : ∃ m, n = m + 1 := ⟨n - 1, by omega⟩
    rw [f_Mo_comesTo_17, h0, if_neg (nI_ge (by omega) (by omega)), s_has (lt31 hc hT) (by omega)]
    simp only [Option.bind_some]
    unfold cpass
    cases hb : T.testBit i
    · simp only [Bool.false_eq_true, if_false, if_true, f_Mo_comesTo_52, bnd]
      rw [nI_add, b_or, Nat.or_zero]
      exact ih (i + 1) n T (by omega) (by omega) hT
    · simp only [if_true]
      rw [if_neg nI_1_0, nI_add, if_pos (zin_nI (by omega) (by decide)), nI_clamp (by omega), hs i (by omega)]
      simp only [f_Mo_comesTo_52, bnd]
      rw [nI_add, b_or]
      exact ih (i + 1) n _ (by omega) (by omega) (or_lt hT (hf i (by omega)))
theorem s_ct7 {N c : Nat} (hN : 200 ≤ N) (hc : c ≤ 7) (M : zOb) (f : Nat → Nat) (h0 : M.1 1 0 = nI c) (hs : ∀ i, i < c → M.1 1 (20 + i) = nI (f i)) (hf : ∀ i, i < c → f i < 2 ^ c) {a : Nat} (ha : a < 32) : ∀ k st n T, st + k = 7 → k < n → T < 2 ^ c → f_Mo_comesTo_7 N M n (nI a) (nI T) (nI st) = some (if (crnd f c k T).testBit a then nI 1 else nI 0) := by
  intro k
  induction k with
  | zero =>
    intro i n T hi hn hT
    obtain ⟨n, rfl⟩ : ∃ m, n = m + 1 := ⟨n - 1, by omega⟩
    have : i = 7 := by omega
    subst this
    rw [f_Mo_comesTo_7, if_pos (by decide), s_has (lt31 hc hT) ha]
    simp only [Option.bind_some]
    exact zb01 _
  | succ k ih =>
    intro i n T hi hn hT
    obtain ⟨n, rfl⟩ : ∃ m, n = m + 1 := ⟨n - 1, by omega⟩
    rw [f_Mo_comesTo_7, if_neg (nI_ge (by omega) (by decide)), s_ct17 hc M f h0 hs hf _ _ _ c 0 N T (by omega) (by omega) hT, nI_add]
    exact ih (i + 1) n _ (by omega) (by omega) (cpass_lt f hf c 0 T (by omega) hT)
theorem s_comesTo {N c a b : Nat} (hN : 200 ≤ N) (hc : c ≤ 7) (M : zOb) (f : Nat → Nat) (h0 : M.1 1 0 = nI c) (hs : ∀ i, i < c → M.1 1 (20 + i) = nI (f i)) (hf : ∀ i, i < c → f i < 2 ^ c) (ha : a < c) (hb : b < c) : f_Mo_comesTo N M (nI b) (nI a) = some (if (crnd f c 7 (2 ^ b)).testBit a then nI 1 else nI 0) := by
  unfold f_Mo_comesTo
  rw [b_one (by omega)]
  exact s_ct7 hN hc M f h0 hs hf (by omega) 7 0 N (2 ^ b) (by omega) (by omega) (Nat.pow_lt_pow_right (by decide) hb)
def sumR (rk : Nat → Nat) : Nat → Nat
  | 0 => 0
  | n + 1 => sumR rk n + rk n
theorem sumR_le (rk : Nat → Nat) {n i : Nat} (h : i < n) : rk i ≤ sumR rk n := by
  induction n with
  | zero => omega
  | succ n ih =>
    unfold sumR
    by_cases e : i = n
    · subst e; omega
    · have := ih (by omega); omega
/-- one row of followers changed -/
theorem rep_foll {S M : zOb} {a : aS} (hw : wfA a) (hS : repS S a) (hM : repM (M.1 1) a) {p v : Nat} (hp : p < a.1 0) : repS (zI S 2 p (nI v)) (a.1, a.2.1, va_up a.2.2.1 p v, a.2.2.2) ∧ repM (upd (M.1 1) (20 + p) (nI v)) (a.1, a.2.1, va_up a.2.2.1 p v, a.2.2.2) := by
  have h7 := hw.1.1
  refine ⟨⟨fun k hk => hS.1 k hk, fun i hi => ?_⟩, ⟨fun k hk => ?_, fun i hi => ?_⟩⟩
  · obtain ⟨t1, t2, t3⟩ := hS.2 i hi
    refine ⟨t1, ?_, t3⟩
    show upd (S.1 2) p (nI v) i = nI (va_up a.2.2.1 p v i)
    by_cases h : i = p
    · subst h; rw [upd_s, vu_s]
    · rw [upd_n _ _ h, vu_n _ _ h]; exact t2
  · rw [upd_n _ _ (by omega)]; exact hM.1 k hk
  · have hi : i < a.1 0 := hi
    obtain ⟨t1, t2, t3⟩ := hM.2 i hi
    refine ⟨by rw [upd_n _ _ (by omega)]; exact t1, ?_, by rw [upd_n _ _ (by omega)]; exact t3⟩
    show upd (M.1 1) (20 + p) (nI v) (20 + i) = nI (va_up a.2.2.1 p v i)
    by_cases h : i = p
    · subst h; rw [upd_s, vu_s]
    · rw [upd_n _ _ (by omega), vu_n _ _ h]; exact t2
theorem wf_foll {a : aS} (hw : wfA a) {p v : Nat} (hv : v < 2 ^ a.1 0) (hr : ∃ rk : Nat → Nat, ∀ i j, i < a.1 0 → j < a.1 0 → (va_up a.2.2.1 p v i).testBit j = true → rk i < rk j) : wfA (a.1, a.2.1, va_up a.2.2.1 p v, a.2.2.2) := by
  obtain ⟨w1, w2, w3, -⟩ := hw
  refine ⟨w1, fun i hi => ?_, w3, hr⟩
  obtain ⟨t1, t2, t3⟩ := w2 i hi
  refine ⟨t1, ?_, t3⟩
  show va_up a.2.2.1 p v i < 2 ^ a.1 0
  by_cases h : i = p
  · subst h; rw [vu_s]; exact hv
  · rw [vu_n _ _ h]; exact t2
theorem a_ahead {N : Nat} (hN : 200 ≤ N) (x y : Int32) : actOK (fun S => f_St_turnAhead N S x y) (fun M => f_Mo_puts N M x y) := by
  intro S M a hw hS hM
  dsimp only
  have h7 := hw.1.1
  have hn : S.1 0 3 = nI (a.1 0) := hS.1 0 (by decide)
  have hm : M.1 1 0 = nI (a.1 0) := hM.1 0 (by decide)
  have hf : ∀ i, i < a.1 0 → a.2.2.1 i < 2 ^ a.1 0 := fun i hi => (hw.2.1 i hi).2.1
  rcases arg_in x (n := a.1 0) (by omega) with ⟨p, hp, rfl⟩ | hx
  · rcases arg_in y (n := a.1 0) (by omega) with ⟨q, hq, rfl⟩ | hy
    · by_cases hpq : p = q
      · subst hpq
        refine act_same hw hS hM (r := -1) ?_ ?_
        · simp only [f_St_turnAhead, isB_1 h7 hn hp, Option.bind_some, f_St_turnAhead_21]
          rw [if_neg nI_1_0, if_neg nI_1_0, if_pos trivial]
        · simp only [f_Mo_puts, isBM_1 h7 hm hp, Option.bind_some, f_Mo_puts_21]
          rw [if_neg nI_1_0, if_neg nI_1_0, if_pos trivial]
      · have hne : ¬ nI p = nI q := fun e => hpq ((nI_eq (by omega) (by omega)).mp e)
        have z1 : zin (nI p) 7 := zin_nI (by omega) (by decide)
        have z2 : zin (nI (20 + p)) 27 := zin_nI (by omega) (by decide)
        have c1 : (nI p).toNatClampNeg = p := nI_clamp (by omega)
        have c2 : (nI (20 + p)).toNatClampNeg = 20 + p := nI_clamp (by omega)
        have hfp := hf p hp
        have h31 := lt31 h7 hfp
        have e1 := (hS.2 p hp).2.1
        have e2 := (hM.2 p hp).2.1
        have hb1 := s_hasBit h31 (w := q) (by omega)
        have hb2 := s_has h31 (w := q) (by omega)
        have hq2 : 2 ^ q < 2 ^ a.1 0 := Nat.pow_lt_pow_right (by decide) hq
        cases hbit : (a.2.2.1 p).testBit q
        · rw [hbit] at hb1 hb2
          have hab := s_allBehind hN h7 S a.2.2.1 hn (fun i hi => (hS.2 i hi).2.1) hf hq
          have hct := s_comesTo hN h7 M a.2.2.1 hm (fun i hi => (hM.2 i hi).2.1) hf hp hq
          have hsame := clo_same a.2.2.1 hf hq h7 hpq
          have hcl := lt31 h7 (crnd_lt a.2.2.1 hf (a.1 0) _ (hf q hq))
          have hb3 := s_hasBit hcl (w := p) (by omega)
          rw [← hsame] at hct
          cases hc : (crnd a.2.2.1 (a.1 0) (a.1 0) (a.2.2.1 q)).testBit p
          · rw [hc] at hb3 hct
            obtain ⟨r1, r2⟩ := rep_foll hw hS hM (p := p) (v := a.2.2.1 p ||| 2 ^ q) hp
            have hxor : a.2.2.1 p ^^^ 2 ^ q = a.2.2.1 p ||| 2 ^ q := by
              apply Nat.eq_of_testBit_eq
              intro j
              rw [Nat.testBit_xor, Nat.testBit_or, tb_pow]
              by_cases hj : q = j
              · subst hj; rw [hbit]; simp
              · rw [decide_eq_false hj]; simp
            refine ⟨nI 1, _, _, _, ?_, ?_, wf_foll hw (p := p) (or_lt hfp hq2) ?_, r1, r2⟩
            · simp only [f_St_turnAhead, isB_1 h7 hn hp, isB_1 h7 hn hq, Option.bind_some, if_neg nI_1_0, if_neg hne, if_pos z1, c1, e1, hb1, hab, hb3, Bool.false_eq_true, if_false, if_true, bnd]
              rw [b_one (by omega), b_or]
            · simp only [f_Mo_puts, f_Mo_puts_53, f_Mo_puts_77, isBM_1 h7 hm hp, isBM_1 h7 hm hq, Option.bind_some, if_neg nI_1_0, if_neg hne, nI_add, if_pos z2, c2, e2, hb2, hct, Bool.false_eq_true, if_false, if_true, bnd]
              rw [b_one (by omega), b_xor, hxor]
              rfl
            · obtain ⟨w1, w2, w3, rk, w4⟩ := hw
              have hclo := crnd_clo a.2.2.1 hf (a.1 0) (a.2.2.1 q) (hf q hq) (by omega)
              generalize hR : crnd a.2.2.1 (a.1 0) (a.1 0) (a.2.2.1 q) = R at hc hclo
              have hRq : sub (a.2.2.1 q) R := by rw [← hR]; exact crnd_up _ _ _ _
              refine ⟨fun i => if i = q ∨ R.testBit i = true then rk i + (sumR rk (a.1 0) + 1) else rk i, ?_⟩
              intro i j hi hj hij
              have step : ∀ i j, i < a.1 0 → j < a.1 0 → (a.2.2.1 i).testBit j = true → (if i = q ∨ R.testBit i = true then rk i + (sumR rk (a.1 0) + 1) else rk i) < (if j = q ∨ R.testBit j = true then rk j + (sumR rk (a.1 0) + 1) else rk j) := by
                intro i1 j1 hi1 hj1 hij1
                have hlt := w4 i1 j1 hi1 hj1 hij1
                by_cases hR1 : i1 = q ∨ R.testBit i1 = true
                · have hR2 : R.testBit j1 = true := by
                    rcases hR1 with h | h
                    · rw [h] at hij1; exact hRq j1 hij1
                    · exact hclo i1 hi1 h j1 hij1
                  rw [if_pos hR1, if_pos (Or.inr hR2)]
                  omega
                · rw [if_neg hR1]
                  split <;> omega
              show (if i = q ∨ R.testBit i = true then rk i + (sumR rk (a.1 0) + 1) else rk i) < (if j = q ∨ R.testBit j = true then rk j + (sumR rk (a.1 0) + 1) else rk j)
              by_cases hip : i = p
              · subst hip
                rw [vu_s, Nat.testBit_or, Bool.or_eq_true, tb_pow, decide_eq_true_eq] at hij
                rcases hij with hij | hij
                · exact step i j hi hj hij
                · subst hij
                  have hno : ¬ (i = q ∨ R.testBit i = true) := by
                    rintro (h | h)
                    · exact hpq h
                    · rw [hc] at h; cases h
                  rw [if_neg hno, if_pos (Or.inl rfl)]
                  have := sumR_le rk hi
                  omega
              · rw [vu_n _ _ hip] at hij
                exact step i j hi hj hij
          · rw [hc] at hb3 hct
            refine act_same hw hS hM (r := -2) ?_ ?_
            · simp only [f_St_turnAhead, isB_1 h7 hn hp, isB_1 h7 hn hq, Option.bind_some, if_neg nI_1_0, if_neg hne, if_pos z1, c1, e1, hb1, hab, hb3, Bool.false_eq_true, if_false, if_true, bnd]
            · simp only [f_Mo_puts, f_Mo_puts_53, f_Mo_puts_77, isBM_1 h7 hm hp, isBM_1 h7 hm hq, Option.bind_some, if_neg nI_1_0, if_neg hne, nI_add, if_pos z2, c2, e2, hb2, hct, Bool.false_eq_true, if_false, if_true, bnd]
        · rw [hbit] at hb1 hb2
          have hxor : a.2.2.1 p ^^^ 2 ^ q = aN (a.2.2.1 p) (2 ^ q) := by
            apply Nat.eq_of_testBit_eq
            intro j
            rw [Nat.testBit_xor, aN_bit, tb_pow]
            by_cases hj : q = j
            · subst hj; rw [hbit]; simp
            · rw [decide_eq_false hj]; simp
          have hlt : aN (a.2.2.1 p) (2 ^ q) < 2 ^ a.1 0 := by
            rw [← hxor]; exact Nat.xor_lt_two_pow hfp hq2
          obtain ⟨r1, r2⟩ := rep_foll hw hS hM (p := p) (v := aN (a.2.2.1 p) (2 ^ q)) hp
          refine ⟨nI 0, _, _, _, ?_, ?_, wf_foll hw (p := p) hlt ?_, r1, r2⟩
          · simp only [f_St_turnAhead, isB_1 h7 hn hp, isB_1 h7 hn hq, Option.bind_some, if_neg nI_1_0, if_neg hne, if_pos z1, c1, e1, hb1, if_true, bnd]
            rw [b_one (by omega), b_andN]
          · simp only [f_Mo_puts, f_Mo_puts_53, f_Mo_puts_77, isBM_1 h7 hm hp, isBM_1 h7 hm hq, Option.bind_some, if_neg nI_1_0, if_neg hne, nI_add, if_pos z2, c2, e2, hb2, if_true, bnd]
            rw [b_one (by omega), b_xor, hxor]
            rfl
          · obtain ⟨w1, w2, w3, rk, w4⟩ := hw
            refine ⟨rk, fun i j hi hj hij => ?_⟩
            by_cases hip : i = p
            · subst hip
              rw [vu_s, aN_bit, Bool.and_eq_true] at hij
              exact w4 i j hi hj hij.1
            · rw [vu_n _ _ hip] at hij
              exact w4 i j hi hj hij
    · refine act_same hw hS hM (r := -1) ?_ ?_
      · simp only [f_St_turnAhead, isB_1 h7 hn hp, isB_0 h7 hn hy, Option.bind_some, f_St_turnAhead_21]
        rw [if_neg nI_1_0, if_pos trivial]
      · simp only [f_Mo_puts, isBM_1 h7 hm hp, isBM_0 h7 hm hy, Option.bind_some, f_Mo_puts_21]
        rw [if_neg nI_1_0, if_pos trivial]
  · refine act_same hw hS hM (r := -1) ?_ ?_
    · simp only [f_St_turnAhead, isB_0 h7 hn hx, Option.bind_some, f_St_turnAhead_21]
      rw [if_pos trivial]
    · simp only [f_Mo_puts, isBM_0 h7 hm hx, Option.bind_some, f_Mo_puts_21]
      rw [if_pos trivial]
