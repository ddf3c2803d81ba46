/-! KEPT: sums over sets of places, the greatest divisor -/
def smN (f : Nat → Nat) : Nat → Nat
  | 0 => 0
  | i + 1 => smN f i + f i
theorem smN_cg {f g : Nat → Nat} : ∀ n, (∀ x, x < n → f x = g x) → smN f n = smN g n := by
  intro n
  induction n with
  | zero => intro _; rfl
  | succ n ih => intro h; show smN f n + f n = smN g n + g n; rw [ih (fun x hx => h x (by omega)), h n (by omega)]
theorem smN_add (f : Nat → Nat) (a : Nat) : ∀ b, smN f (a + b) = smN f a + smN (fun x => f (a + x)) b := by
  intro b
  induction b with
  | zero => rfl
  | succ b ih => show smN f (a + b) + f (a + b) = smN f a + (smN (fun x => f (a + x)) b + f (a + b)); rw [ih, Nat.add_assoc]
theorem smN_mul (k : Nat) (f : Nat → Nat) : ∀ n, smN (fun x => k * f x) n = k * smN f n := by
  intro n
  induction n with
  | zero => rfl
  | succ n ih => show smN (fun x => k * f x) n + k * f n = k * (smN f n + f n); rw [ih, Nat.mul_add]
theorem smN_le {f g : Nat → Nat} : ∀ n, (∀ x, x < n → f x ≤ g x) → smN f n ≤ smN g n := by
  intro n
  induction n with
  | zero => intro _; exact Nat.le_refl _
  | succ n ih => intro h; exact Nat.add_le_add (ih (fun x hx => h x (by omega))) (h n (by omega))
theorem smN_z : ∀ n, smN (fun _ => 0) n = 0 := by
  intro n
  induction n with
  | zero => rfl
  | succ n ih => show smN (fun _ => 0) n + 0 = 0; rw [ih]
theorem smN_two (f : Nat → Nat) (n : Nat) : smN f (2 ^ (n + 1)) = smN f (2 ^ n) + smN (fun x => f (2 ^ n + x)) (2 ^ n) := by rw [Nat.pow_succ, Nat.mul_two, smN_add]
theorem bt_hi {n y : Nat} (hy : y < 2 ^ n) (p : Nat) : (2 ^ n + y).testBit p = if p = n then true else y.testBit p := by
  have h := Nat.testBit_two_pow_mul_add 1 hy p
  rw [Nat.mul_one] at h
  rw [h]
  by_cases h1 : p < n
  · rw [if_pos h1, if_neg (by omega)]
  · rw [if_neg h1]
    by_cases h2 : p = n
    · subst h2
      rw [if_pos rfl, Nat.sub_self]
      rfl
    · have h3 : 2 ^ n ≤ 2 ^ p := Nat.pow_le_pow_right (by decide) (by omega)
      rw [if_neg h2, Nat.testBit_lt_two_pow (show y < 2 ^ p by omega)]
      obtain ⟨k, hk⟩ : ∃ k, p - n = k + 1 := ⟨p - n - 1, by omega⟩
      rw [hk, Nat.testBit_succ]
      exact Nat.zero_testBit k
theorem bt_lo {n y : Nat} (hy : y < 2 ^ n) : y.testBit n = false := Nat.testBit_lt_two_pow hy
def Wn (c d : Nat) : Nat → Nat → Nat
  | 0, _ => 1
  | n + 1, x => Wn c d n x * (if x.testBit n then d else c)
def cntB (P : Nat → Bool) : Nat → Nat
  | 0 => 0
  | n + 1 => cntB P n + (if P n then 1 else 0)
def sbB (P : Nat → Bool) : Nat → Nat → Bool
  | 0, _ => true
  | n + 1, x => sbB P n x && (!x.testBit n || P n)
def Gn (K : (Nat → Bool) → Nat) (P : Nat → Bool) (c d n x : Nat) : Nat := if sbB P n x = true then K (fun p => x.testBit p) * (d ^ pcb n x * c ^ (cntB P n - pcb n x)) else 0
theorem Wn_hi {c d m y : Nat} (hy : y < 2 ^ m) : ∀ n, n ≤ m → Wn c d n (2 ^ m + y) = Wn c d n y := by
  intro n
  induction n with
  | zero => intro _; rfl
  | succ n ih => intro h; show Wn c d n (2 ^ m + y) * _ = Wn c d n y * _; rw [ih (by omega), bt_hi hy, if_neg (show ¬ n = m by omega)]
theorem sb_hi {P : Nat → Bool} {m y : Nat} (hy : y < 2 ^ m) : ∀ n, n ≤ m → sbB P n (2 ^ m + y) = sbB P n y := by
  intro n
  induction n with
  | zero => intro _; rfl
  | succ n ih => intro h; show (sbB P n (2 ^ m + y) && _) = (sbB P n y && _); rw [ih (by omega), bt_hi hy, if_neg (show ¬ n = m by omega)]
theorem pcb_hi {m y : Nat} (hy : y < 2 ^ m) : ∀ n, n ≤ m → pcb n (2 ^ m + y) = pcb n y := by
  intro n
  induction n with
  | zero => intro _; rfl
  | succ n ih => intro h; show pcb n (2 ^ m + y) + _ = pcb n y + _; rw [ih (by omega), bt_hi hy, if_neg (show ¬ n = m by omega)]
theorem cnt_le (P : Nat → Bool) : ∀ n, cntB P n ≤ n := by
  intro n
  induction n with
  | zero => exact Nat.le_refl _
  | succ n ih => show cntB P n + (if P n then 1 else 0) ≤ n + 1; split <;> omega
theorem sb_pc {P : Nat → Bool} {x : Nat} : ∀ n, sbB P n x = true → pcb n x ≤ cntB P n := by
  intro n
  induction n with
  | zero => intro _; exact Nat.le_refl _
  | succ n ih =>
    intro h
    have h' : (sbB P n x && (!x.testBit n || P n)) = true := h
    rw [Bool.and_eq_true] at h'
    have h1 := ih h'.1
    show pcb n x + (if x.testBit n then 1 else 0) ≤ cntB P n + (if P n then 1 else 0)
    cases hx : x.testBit n
    · rw [if_neg (by decide)]; split <;> omega
    · have h2 := h'.2
      rw [hx] at h2
      have h3 : P n = true := by simpa using h2
      rw [h3, if_pos rfl]
      omega
theorem Wn_sum {c d : Nat} (h : c + d = 10) : ∀ n, smN (Wn c d n) (2 ^ n) = 10 ^ n := by
  intro n
  induction n with
  | zero => rfl
  | succ n ih =>
    rw [smN_two]
    have e1 : smN (Wn c d (n + 1)) (2 ^ n) = c * smN (Wn c d n) (2 ^ n) := by
      rw [← smN_mul]
      refine smN_cg _ (fun x hx => ?_)
      show Wn c d n x * (if x.testBit n then d else c) = c * Wn c d n x
      rw [bt_lo hx, if_neg (by decide), Nat.mul_comm]
    have e2 : smN (fun x => Wn c d (n + 1) (2 ^ n + x)) (2 ^ n) = d * smN (Wn c d n) (2 ^ n) := by
      rw [← smN_mul]
      refine smN_cg _ (fun x hx => ?_)
      show Wn c d n (2 ^ n + x) * (if (2 ^ n + x).testBit n then d else c) = d * Wn c d n x
      rw [Wn_hi hx n (Nat.le_refl _), bt_hi hx, if_pos rfl, if_pos rfl, Nat.mul_comm]
    rw [e1, e2, ih, ← Nat.add_mul, h, Nat.pow_succ, Nat.mul_comm]
theorem kp_main {c d : Nat} (h : c + d = 10) : ∀ n (K : (Nat → Bool) → Nat) (P : Nat → Bool), smN (fun x => K (fun p => x.testBit p && P p) * Wn c d n x) (2 ^ n) = 10 ^ (n - cntB P n) * smN (Gn K P c d n) (2 ^ n) := by
  intro n
  induction n with
  | zero =>
    intro K P
    have e : (fun p => (0 : Nat).testBit p && P p) = fun p => (0 : Nat).testBit p := by
      funext p; rw [Nat.zero_testBit]; rfl
    show 0 + K (fun p => (0 : Nat).testBit p && P p) * 1 = 1 * (0 + K (fun p => (0 : Nat).testBit p) * (1 * 1))
    rw [e]
    omega
  | succ n ih =>
    intro K P
    have hc := cnt_le P n
    have l1 : smN (fun x => K (fun p => x.testBit p && P p) * Wn c d (n + 1) x) (2 ^ n) = c * smN (fun x => K (fun p => x.testBit p && P p) * Wn c d n x) (2 ^ n) := by
      rw [← smN_mul]
      refine smN_cg _ (fun x hx => ?_)
      show K _ * (Wn c d n x * (if x.testBit n then d else c)) = c * (K _ * Wn c d n x)
      rw [bt_lo hx, if_neg (by decide), ← Nat.mul_assoc, Nat.mul_comm]
    have l2 : smN (fun x => K (fun p => (2 ^ n + x).testBit p && P p) * Wn c d (n + 1) (2 ^ n + x)) (2 ^ n) = d * smN (fun x => (fun B => K (fun p => if p = n then P n else B p)) (fun p => x.testBit p && P p) * Wn c d n x) (2 ^ n) := by
      rw [← smN_mul]
      refine smN_cg _ (fun x hx => ?_)
      show K (fun p => (2 ^ n + x).testBit p && P p) * (Wn c d n (2 ^ n + x) * (if (2 ^ n + x).testBit n then d else c)) = d * (K (fun p => if p = n then P n else (x.testBit p && P p)) * Wn c d n x)
      have eB : (fun p => (2 ^ n + x).testBit p && P p) = fun p => if p = n then P n else (x.testBit p && P p) := by
        funext p
        rw [bt_hi hx]
        by_cases hp : p = n
        · subst hp; rw [if_pos rfl, if_pos rfl]; rfl
        · rw [if_neg hp, if_neg hp]
      rw [eB, Wn_hi hx n (Nat.le_refl _), bt_hi hx, if_pos rfl, if_pos rfl, ← Nat.mul_assoc, Nat.mul_comm]
    rw [smN_two, smN_two, l1, l2]
    cases hP : P n
    · have e2 : smN (fun x => (fun B => K (fun p => if p = n then false else B p)) (fun p => x.testBit p && P p) * Wn c d n x) (2 ^ n) = smN (fun x => K (fun p => x.testBit p && P p) * Wn c d n x) (2 ^ n) := by
        refine smN_cg _ (fun x hx => ?_)
        have eB : (fun p => if p = n then false else (x.testBit p && P p)) = fun p => x.testBit p && P p := by
          funext p
          by_cases hp : p = n
          · subst hp; rw [if_pos rfl, hP, Bool.and_false]
          · rw [if_neg hp]
        show K (fun p => if p = n then false else (x.testBit p && P p)) * Wn c d n x = _
        rw [eB]
      have ec : cntB P (n + 1) = cntB P n := by show cntB P n + (if P n then 1 else 0) = _; rw [hP]; rfl
      have r1 : smN (Gn K P c d (n + 1)) (2 ^ n) = smN (Gn K P c d n) (2 ^ n) := by
        refine smN_cg _ (fun x hx => ?_)
        have es : sbB P (n + 1) x = sbB P n x := by show (sbB P n x && (!x.testBit n || P n)) = _; rw [bt_lo hx]; simp
        have ep : pcb (n + 1) x = pcb n x := by show pcb n x + (if x.testBit n then 1 else 0) = _; rw [bt_lo hx]; rfl
        unfold Gn
        rw [es, ep, ec]
      have r2 : smN (fun x => Gn K P c d (n + 1) (2 ^ n + x)) (2 ^ n) = 0 := by
        rw [← smN_z (2 ^ n)]
        refine smN_cg _ (fun x hx => ?_)
        have es : sbB P (n + 1) (2 ^ n + x) = false := by show (sbB P n (2 ^ n + x) && (!(2 ^ n + x).testBit n || P n)) = false; rw [bt_hi hx, if_pos rfl, hP]; simp
        show Gn K P c d (n + 1) (2 ^ n + x) = 0
        unfold Gn
        rw [es, if_neg (by decide)]
      rw [e2, r1, r2, ec, ih K P, ← Nat.add_mul, h, Nat.add_zero, show n + 1 - cntB P n = (n - cntB P n) + 1 by omega, Nat.pow_succ, ← Nat.mul_assoc, Nat.mul_comm 10, Nat.add_zero]
    · have ec : cntB P (n + 1) = cntB P n + 1 := by show cntB P n + (if P n then 1 else 0) = _; rw [hP]; rfl
      have r1 : smN (Gn K P c d (n + 1)) (2 ^ n) = c * smN (Gn K P c d n) (2 ^ n) := by
        rw [← smN_mul]
        refine smN_cg _ (fun x hx => ?_)
        have es : sbB P (n + 1) x = sbB P n x := by show (sbB P n x && (!x.testBit n || P n)) = _; rw [bt_lo hx]; simp
        have ep : pcb (n + 1) x = pcb n x := by show pcb n x + (if x.testBit n then 1 else 0) = _; rw [bt_lo hx]; rfl
        unfold Gn
        rw [es, ep, ec]
        by_cases hs : sbB P n x = true
        · have := sb_pc n hs
          rw [if_pos hs, if_pos hs, show cntB P n + 1 - pcb n x = (cntB P n - pcb n x) + 1 by omega, Nat.pow_succ]
          simp only [Nat.mul_assoc, Nat.mul_comm, Nat.mul_left_comm]
        · rw [if_neg hs, if_neg hs, Nat.mul_zero]
      have r2 : smN (fun x => Gn K P c d (n + 1) (2 ^ n + x)) (2 ^ n) = d * smN (Gn (fun B => K (fun p => if p = n then true else B p)) P c d n) (2 ^ n) := by
        rw [← smN_mul]
        refine smN_cg _ (fun x hx => ?_)
        have es : sbB P (n + 1) (2 ^ n + x) = sbB P n x := by show (sbB P n (2 ^ n + x) && (!(2 ^ n + x).testBit n || P n)) = _; rw [sb_hi hx n (Nat.le_refl _), hP]; simp
        have ep : pcb (n + 1) (2 ^ n + x) = pcb n x + 1 := by show pcb n (2 ^ n + x) + (if (2 ^ n + x).testBit n then 1 else 0) = _; rw [pcb_hi hx n (Nat.le_refl _), bt_hi hx, if_pos rfl]; rfl
        have eB : (fun p => (2 ^ n + x).testBit p) = fun p => if p = n then true else x.testBit p := by
          funext p
          rw [bt_hi hx]
        show Gn K P c d (n + 1) (2 ^ n + x) = d * Gn (fun B => K (fun p => if p = n then true else B p)) P c d n x
        unfold Gn
        rw [es, ep, ec, eB]
        by_cases hs : sbB P n x = true
        · rw [if_pos hs, if_pos hs, show cntB P n + 1 - (pcb n x + 1) = cntB P n - pcb n x by omega, Nat.pow_succ]
          simp only [Nat.mul_assoc, Nat.mul_comm, Nat.mul_left_comm]
        · rw [if_neg hs, if_neg hs, Nat.mul_zero]
      rw [r1, r2, ec, ih K P, ih (fun B => K (fun p => if p = n then true else B p)) P, show n + 1 - (cntB P n + 1) = n - cntB P n by omega, Nat.mul_add]
      simp only [Nat.mul_left_comm]
/-- the greatest divisor -/
theorem gcd_st (a b : Nat) : Nat.gcd a b = Nat.gcd b (a % b) := by rw [Nat.gcd_comm a b, Nat.gcd_rec b a, Nat.gcd_comm]
theorem mod_half {a b k : Nat} (hb : b < 2 ^ (k + 1)) (h0 : 0 < a % b) : b % (a % b) < 2 ^ k := by
  rw [Nat.pow_succ] at hb
  rcases Nat.eq_zero_or_pos b with hz | h1
  · subst hz
    rw [Nat.zero_mod]
    exact Nat.two_pow_pos k
  have h2 : a % b < b := Nat.mod_lt _ h1
  have h3 : b % (a % b) < a % b := Nat.mod_lt _ h0
  by_cases h4 : 2 * (a % b) ≤ b
  · omega
  · have h5 : b % (a % b) = b - a % b := by
      rw [Nat.mod_eq_sub_mod (by omega), Nat.mod_eq_of_lt (by omega)]
    omega
theorem s_gcd {N : Nat} : ∀ k a b i nf, b < 2 ^ k → a < 2 ^ 31 → b < 2 ^ 31 → i + 2 * k + 1 ≤ 64 → 2 * k + 1 ≤ nf → f_RS_greatestDivisor_7 N nf (nI a) (nI b) (nI i) = some (nI (Nat.gcd a b)) := by
  intro k
  induction k with
  | zero =>
    intro a b i nf hb ha hb2 hi hf
    obtain ⟨nf, rfl⟩ : ∃ t, nf = t + 1 := ⟨nf - 1, by omega⟩
    have h0 : b = 0 := by rw [Nat.pow_zero] at hb; omega
    rw [f_RS_greatestDivisor_7, if_neg (nI_ge (by omega) (by decide)), h0, if_pos rfl, Nat.gcd_zero_right]
    rfl
  | succ k ih =>
    intro a b i nf hb ha hb2 hi hf
    obtain ⟨nf, rfl⟩ : ∃ t, nf = t + 2 := ⟨nf - 2, by omega⟩
    rw [f_RS_greatestDivisor_7, if_neg (nI_ge (by omega) (by decide))]
    by_cases h0 : b = 0
    · rw [h0, if_pos rfl, Nat.gcd_zero_right]
      rfl
    · have n0 : ¬ nI b = nI 0 := nI_n0 (by omega) hb2
      have h2 : a % b < b := Nat.mod_lt _ (by omega)
      rw [if_neg n0, if_pos n0]
      dsimp only [bnd]
      rw [pk_rem ha (by omega) hb2, nI_add, gcd_st a b, f_RS_greatestDivisor_7, if_neg (nI_ge (by omega) (by decide))]
      by_cases h1 : a % b = 0
      · rw [h1, if_pos rfl, Nat.gcd_zero_right]
        rfl
      · have n1 : ¬ nI (a % b) = nI 0 := nI_n0 (by omega) (by omega)
        rw [if_neg n1, if_pos n1]
        dsimp only [bnd]
        have h3 : b % (a % b) < a % b := Nat.mod_lt _ (by omega)
        rw [pk_rem hb2 (by omega) (by omega), nI_add, gcd_st b (a % b)]
        exact ih (a % b) (b % (a % b)) (i + 1 + 1) nf (mod_half hb (by omega)) (by omega) (by omega) (by omega) (by omega)
theorem s_gcdM {N : Nat} {S : zOb} {x3 x4 x5 : Int32} : ∀ k a b nf, b < 2 ^ k → a < 2 ^ 31 → b < 2 ^ 31 → 2 * k + 1 ≤ nf → f_Mo_kept_203 N nf S x3 x4 x5 (nI a) (nI b) = f_Mo_kept_203 N (0 + 1) S x3 x4 x5 (nI (Nat.gcd a b)) (nI 0) := by
  intro k
  induction k with
  | zero =>
    intro a b nf hb ha hb2 hf
    obtain ⟨nf, rfl⟩ : ∃ t, nf = t + 1 := ⟨nf - 1, by omega⟩
    have h0 : b = 0 := by rw [Nat.pow_zero] at hb; omega
    rw [h0, Nat.gcd_zero_right, f_Mo_kept_203, f_Mo_kept_203, if_pos rfl, if_pos rfl]
  | succ k ih =>
    intro a b nf hb ha hb2 hf
    obtain ⟨nf, rfl⟩ : ∃ t, nf = t + 2 := ⟨nf - 2, by omega⟩
    by_cases h0 : b = 0
    · rw [h0, Nat.gcd_zero_right, f_Mo_kept_203, f_Mo_kept_203, if_pos rfl, if_pos rfl]
    · have n0 : ¬ nI b = nI 0 := nI_n0 (by omega) hb2
      have h2 : a % b < b := Nat.mod_lt _ (by omega)
      rw [gcd_st a b]
      have st : f_Mo_kept_203 N (nf + 2) S x3 x4 x5 (nI a) (nI b) = f_Mo_kept_203 N (nf + 1) S x3 x4 x5 (nI b) (nI (a % b)) := by
        rw [f_Mo_kept_203, if_neg n0, if_pos n0]
        dsimp only [bnd]
        rw [pk_rem ha (by omega) hb2]
      rw [st]
      by_cases h1 : a % b = 0
      · rw [h1, Nat.gcd_zero_right, f_Mo_kept_203, f_Mo_kept_203, if_pos rfl, if_pos rfl]
      · have n1 : ¬ nI (a % b) = nI 0 := nI_n0 (by omega) (by omega)
        have h3 : b % (a % b) < a % b := Nat.mod_lt _ (by omega)
        have st2 : f_Mo_kept_203 N (nf + 1) S x3 x4 x5 (nI b) (nI (a % b)) = f_Mo_kept_203 N nf S x3 x4 x5 (nI (a % b)) (nI (b % (a % b))) := by
          rw [f_Mo_kept_203, if_neg n1, if_pos n1]
          dsimp only [bnd]
          rw [pk_rem hb2 (by omega) (by omega)]
        rw [st2, gcd_st b (a % b)]
        exact ih (a % b) (b % (a % b)) nf (mod_half hb (by omega)) (by omega) (by omega) (by omega)
theorem s_power {N b : Nat} {e : Nat} (hN : 200 ≤ N) (he : e ≤ 20) : f_RS_power N (nI b) (nI e) = some (nI (b ^ e)) := by
  have h := for_up (fun m (c : Int32) x => f_RS_power_4 N m (nI b) (nI e) c x) 0 e (fun i => nI (b ^ i)) (some (nI (b ^ e))) ?_ ?_ (by omega) N (by omega)
  · exact h
  · intro m
    show f_RS_power_4 N (m + 1) (nI b) (nI e) _ (nI e) = _
    rw [f_RS_power_4, if_pos (Int32.le_refl _)]
  · intro m i _ hi
    show f_RS_power_4 N (m + 1) (nI b) (nI e) (nI (b ^ i)) (nI i) = f_RS_power_4 N m (nI b) (nI e) (nI (b ^ (i + 1))) (nI (i + 1))
    rw [f_RS_power_4, if_neg (nI_ge hi (by omega))]
    dsimp only [bnd]
    rw [pk_mul, nI_add, Nat.pow_succ]
