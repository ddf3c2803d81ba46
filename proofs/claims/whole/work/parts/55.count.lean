/-! peak, loss, number, what holds; count -/
def pkN (F : Nat → Nat) : Nat → Nat
  | 0 => 0
  | p + 1 => if pkN F p < F p then F p else pkN F p
def lsN (F : Nat → Nat) : Nat → Nat
  | 0 => 0
  | p + 1 => lsN F p + F p
theorem pkN_le {F : Nat → Nat} (h : ∀ p, F p ≤ 20) : ∀ n, pkN F n ≤ 20 := by
  intro n
  induction n with
  | zero => exact Nat.zero_le _
  | succ n ih => unfold pkN; have := h n; split <;> omega
theorem lsN_le {F : Nat → Nat} (h : ∀ p, F p ≤ 20) : ∀ n, lsN F n ≤ 20 * n := by
  intro n
  induction n with
  | zero => exact Nat.zero_le _
  | succ n ih => unfold lsN; have := h n; omega
theorem s_peak {N n : Nat} (hN : 200 ≤ N) (hn : n ≤ 7) {R : zOb} {F : Nat → Nat} (h0 : R.1 0 5 = nI n) (h7 : ∀ p, p < n → R.1 7 p = nI (F p) ∧ F p < 2 ^ 20) : f_Rd_peak N R = some (nI (pkN (fun p => pcb 20 (F p)) n)) := by
  have hb := pkN_le (F := fun p => pcb 20 (F p)) (fun p => pcb_le 20 _)
  have h := for_up (fun m (c : Int32) x => f_Rd_peak_4 N R m c x) 0 n (fun i => nI (pkN (fun p => pcb 20 (F p)) i)) (some (nI (pkN (fun p => pcb 20 (F p)) n))) ?_ ?_ (by omega) N (by omega)
  · exact h
  · intro m
    show f_Rd_peak_4 N R (m + 1) _ (nI n) = _
    rw [f_Rd_peak_4, h0, if_pos (Int32.le_refl _)]
  · intro m i _ hi
    obtain ⟨g1, g2⟩ := h7 i hi
    have b1 := hb i
    have b2 := pcb_le 20 (F i)
    show f_Rd_peak_4 N R (m + 1) (nI (pkN (fun p => pcb 20 (F p)) i)) (nI i) = f_Rd_peak_4 N R m (nI (if pkN (fun p => pcb 20 (F p)) i < pcb 20 (F i) then pcb 20 (F i) else pkN (fun p => pcb 20 (F p)) i)) (nI (i + 1))
    rw [f_Rd_peak_4, h0, if_neg (nI_ge (by omega) (by omega)), if_pos (zin_nI (by omega) (by decide)), nI_clamp (by omega), g1, s_bitCount g2, Option.bind_some]
    simp only [bnd, nI_add]
    by_cases hc : pkN (fun p => pcb 20 (F p)) i < pcb 20 (F i)
    · rw [if_pos hc, if_pos (nI_lt hc (by omega))]
    · rw [if_neg hc, if_neg (nI_nlt (by omega) (by omega))]
theorem s_loss {N n : Nat} (hN : 200 ≤ N) (hn : n ≤ 7) {R : zOb} {F : Nat → Nat} (h0 : R.1 0 5 = nI n) (h7 : ∀ p, p < n → R.1 9 p = nI (F p) ∧ F p < 2 ^ 20) : f_Rd_loss N R = some (nI (lsN (fun p => pcb 20 (F p)) n)) := by
  have h := for_up (fun m (c : Int32) x => f_Rd_loss_4 N R m c x) 0 n (fun i => nI (lsN (fun p => pcb 20 (F p)) i)) (some (nI (lsN (fun p => pcb 20 (F p)) n))) ?_ ?_ (by omega) N (by omega)
  · exact h
  · intro m
    show f_Rd_loss_4 N R (m + 1) _ (nI n) = _
    rw [f_Rd_loss_4, h0, if_pos (Int32.le_refl _)]
  · intro m i _ hi
    obtain ⟨g1, g2⟩ := h7 i hi
    show f_Rd_loss_4 N R (m + 1) (nI (lsN (fun p => pcb 20 (F p)) i)) (nI i) = f_Rd_loss_4 N R m (nI (lsN (fun p => pcb 20 (F p)) i + pcb 20 (F i))) (nI (i + 1))
    rw [f_Rd_loss_4, h0, if_neg (nI_ge (by omega) (by omega)), if_pos (zin_nI (by omega) (by decide)), nI_clamp (by omega), g1, s_bitCount g2, Option.bind_some]
    simp only [bnd, nI_add]
theorem s_peakM {N n : Nat} (hN : 200 ≤ N) (hn : n ≤ 7) {M : zOb} {F : Nat → Nat} (h0 : M.1 1 0 = nI n) (h7 : ∀ p, p < n → M.1 16 p = nI (F p) ∧ F p < 2 ^ 20) : f_Mo_peak N M = some (nI (pkN (fun p => pcb 20 (F p)) n)) := by
  have hb := pkN_le (F := fun p => pcb 20 (F p)) (fun p => pcb_le 20 _)
  have h := for_up (fun m (c : Int32) x => f_Mo_peak_4 N M m c x) 0 n (fun i => nI (pkN (fun p => pcb 20 (F p)) i)) (some (nI (pkN (fun p => pcb 20 (F p)) n))) ?_ ?_ (by omega) N (by omega)
  · exact h
  · intro m
    show f_Mo_peak_4 N M (m + 1) _ (nI n) = _
    rw [f_Mo_peak_4, h0, if_pos (Int32.le_refl _)]
  · intro m i _ hi
    obtain ⟨g1, g2⟩ := h7 i hi
    have b1 := hb i
    have b2 := pcb_le 20 (F i)
    have zi : zin (nI i) 7 := zin_nI (by omega) (by decide)
    have ci : (nI i).toNatClampNeg = i := nI_clamp (by omega)
    show f_Mo_peak_4 N M (m + 1) (nI (pkN (fun p => pcb 20 (F p)) i)) (nI i) = f_Mo_peak_4 N M m (nI (if pkN (fun p => pcb 20 (F p)) i < pcb 20 (F i) then pcb 20 (F i) else pkN (fun p => pcb 20 (F p)) i)) (nI (i + 1))
    rw [f_Mo_peak_4, h0, if_neg (nI_ge (by omega) (by omega))]
    simp only [if_pos zi, ci, g1, s_sizeOf hN g2, Option.bind_some, bnd, nI_add, f_Mo_peak_40]
    by_cases hc : pkN (fun p => pcb 20 (F p)) i < pcb 20 (F i)
    · rw [if_pos hc, if_neg (nI_ge hc (by omega))]
    · rw [if_neg hc, if_pos (nI_le (by omega) (by omega))]
theorem s_lossM {N n : Nat} (hN : 200 ≤ N) (hn : n ≤ 7) {M : zOb} {F : Nat → Nat} (h0 : M.1 1 0 = nI n) (h7 : ∀ p, p < n → M.1 18 p = nI (F p) ∧ F p < 2 ^ 20) : f_Mo_loss N M = some (nI (lsN (fun p => pcb 20 (F p)) n)) := by
  have h := for_up (fun m (c : Int32) x => f_Mo_loss_4 N M m c x) 0 n (fun i => nI (lsN (fun p => pcb 20 (F p)) i)) (some (nI (lsN (fun p => pcb 20 (F p)) n))) ?_ ?_ (by omega) N (by omega)
  · exact h
  · intro m
    show f_Mo_loss_4 N M (m + 1) _ (nI n) = _
    rw [f_Mo_loss_4, h0, if_pos (Int32.le_refl _)]
  · intro m i _ hi
    obtain ⟨g1, g2⟩ := h7 i hi
    show f_Mo_loss_4 N M (m + 1) (nI (lsN (fun p => pcb 20 (F p)) i)) (nI i) = f_Mo_loss_4 N M m (nI (lsN (fun p => pcb 20 (F p)) i + pcb 20 (F i))) (nI (i + 1))
    rw [f_Mo_loss_4, h0, if_neg (nI_ge (by omega) (by omega)), if_pos (zin_nI (by omega) (by decide)), nI_clamp (by omega), g1, s_sizeOf hN g2, Option.bind_some]
    simp only [bnd, nI_add]
def nuN (o : Nat → Nat) : Nat → Nat
  | 0 => 0
  | p + 1 => 10 * nuN o p + o p
theorem s_number {N n : Nat} (hN : 200 ≤ N) (hn : n ≤ 7) {S : zOb} {r : Nat → Int32} {o : Nat → Nat} (h0 : S.1 0 3 = nI n) (h7 : ∀ p, p < n → r p = nI (o p)) : f_St_number N S r = some (nI (nuN o n)) := by
  have h := for_up (fun m (c : Int32) x => f_St_number_4 N S r m c x) 0 n (fun i => nI (nuN o i)) (some (nI (nuN o n))) ?_ ?_ (by omega) N (by omega)
  · exact h
  · intro m
    show f_St_number_4 N S r (m + 1) _ (nI n) = _
    rw [f_St_number_4, h0, if_pos (Int32.le_refl _)]
  · intro m i _ hi
    show f_St_number_4 N S r (m + 1) (nI (nuN o i)) (nI i) = f_St_number_4 N S r m (nI (10 * nuN o i + o i)) (nI (i + 1))
    rw [f_St_number_4, h0, if_neg (nI_ge (by omega) (by omega)), if_pos (zin_nI (by omega) (by decide)), nI_clamp (by omega), h7 i hi]
    simp only [bnd, pk_mul, nI_add, Nat.mul_comm (nuN o i) 10]
theorem s_numberM {N n : Nat} (hN : 200 ≤ N) (hn : n ≤ 7) {M : zOb} {o : Nat → Nat} (h0 : M.1 1 0 = nI n) (h7 : ∀ p, p < n → M.1 13 p = nI (o p)) : f_Mo_number N M = some (nI (nuN o n)) := by
  have h := for_up (fun m (c : Int32) x => f_Mo_number_4 N M m c x) 0 n (fun i => nI (nuN o i)) (some (nI (nuN o n))) ?_ ?_ (by omega) N (by omega)
  · exact h
  · intro m
    show f_Mo_number_4 N M (m + 1) _ (nI n) = _
    rw [f_Mo_number_4, h0, if_pos (Int32.le_refl _)]
  · intro m i _ hi
    show f_Mo_number_4 N M (m + 1) (nI (nuN o i)) (nI i) = f_Mo_number_4 N M m (nI (10 * nuN o i + o i)) (nI (i + 1))
    rw [f_Mo_number_4, h0, if_neg (nI_ge (by omega) (by omega)), if_pos (zin_nI (by omega) (by decide)), nI_clamp (by omega), h7 i hi]
    simp only [bnd, pk_mul, nI_add]
/-- who is left when the first p of an order are gone; who was met -/
def lfN (o : Nat → Nat) (n : Nat) : Nat → Nat
  | 0 => 2 ^ n - 1
  | p + 1 => aN (lfN o n p) (2 ^ o p)
def mtN (o : Nat → Nat) : Nat → Nat
  | 0 => 0
  | p + 1 => mtN o p ||| 2 ^ o p
theorem lfN_lt (o : Nat → Nat) (n : Nat) : ∀ p, lfN o n p < 2 ^ n := by
  intro p
  induction p with
  | zero => have := Nat.two_pow_pos n; unfold lfN; omega
  | succ p ih => exact Nat.xor_lt_two_pow ih (Nat.lt_of_le_of_lt Nat.and_le_left ih)
theorem lfN_bit (o : Nat → Nat) (n : Nat) : ∀ p k, (lfN o n p).testBit k = true ↔ k < n ∧ ∀ q, q < p → o q ≠ k := by
  intro p
  induction p with
  | zero =>
    intro k
    unfold lfN
    rw [Nat.testBit_two_pow_sub_one, decide_eq_true_iff]
    exact ⟨fun h => ⟨h, fun q hq => absurd hq (by omega)⟩, fun h => h.1⟩
  | succ p ih =>
    intro k
    unfold lfN
    rw [aN_bit, tb_pow, Bool.and_eq_true, ih k]
    constructor
    · rintro ⟨⟨h1, h2⟩, h3⟩
      refine ⟨h1, fun q hq => ?_⟩
      by_cases hqp : q = p
      · subst hqp; simpa using h3
      · exact h2 q (by omega)
    · rintro ⟨h1, h2⟩
      refine ⟨⟨h1, fun q hq => h2 q (by omega)⟩, ?_⟩
      have := h2 p (by omega)
      simpa using this
theorem mtN_lt {o : Nat → Nat} {n : Nat} : ∀ p, (∀ q, q < p → o q < n) → mtN o p < 2 ^ n := by
  intro p
  induction p with
  | zero => intro _; exact Nat.two_pow_pos n
  | succ p ih =>
    intro h
    exact or_lt (ih (fun q hq => h q (by omega))) (Nat.pow_lt_pow_right (by decide) (h p (by omega)))
theorem mtN_bit (o : Nat → Nat) : ∀ p k, (mtN o p).testBit k = true ↔ ∃ q, q < p ∧ o q = k := by
  intro p
  induction p with
  | zero =>
    intro k
    unfold mtN
    rw [Nat.zero_testBit]
    exact ⟨fun h => absurd h (by decide), fun ⟨q, hq, _⟩ => absurd hq (by omega)⟩
  | succ p ih =>
    intro k
    unfold mtN
    rw [Nat.testBit_or, tb_pow, Bool.or_eq_true, ih k, decide_eq_true_iff]
    constructor
    · rintro (⟨q, h1, h2⟩ | h)
      · exact ⟨q, by omega, h2⟩
      · exact ⟨p, by omega, h⟩
    · rintro ⟨q, h1, h2⟩
      by_cases hqp : q = p
      · subst hqp; exact Or.inr h2
      · exact Or.inl ⟨q, by omega, h2⟩
theorem and0 {x y : Nat} : x &&& y = 0 ↔ ∀ k, x.testBit k = true → y.testBit k = true → False := by
  constructor
  · intro h k h1 h2
    have : (x &&& y).testBit k = true := by rw [Nat.testBit_and, h1, h2]; rfl
    rw [h, Nat.zero_testBit] at this
    exact absurd this (by decide)
  · intro h
    apply Nat.eq_of_testBit_eq
    intro k
    rw [Nat.zero_testBit, Nat.testBit_and]
    cases h1 : x.testBit k
    · rfl
    · cases h2 : y.testBit k
      · rfl
      · exact absurd (h k h1 h2) (fun q => q)
def perm (o : Nat → Nat) (n : Nat) : Prop := (∀ p, p < n → o p < n) ∧ ∀ p q, p < n → q < n → o p = o q → p = q
def holdN (f o : Nat → Nat) (n : Nat) : Prop := ∀ p q, p < n → q < n → (f (o p)).testBit (o q) = true → p < q
def acy (f : Nat → Nat) (n : Nat) : Prop := (∀ i, i < n → f i < 2 ^ n) ∧ ∃ rk : Nat → Nat, ∀ i j, i < n → j < n → (f i).testBit j = true → rk i < rk j
theorem wf_acy {a : aS} (hw : wfA a) : acy a.2.2.1 (a.1 0) := ⟨fun i hi => (hw.2.1 i hi).2.1, hw.2.2.2⟩
theorem wf_perm {a : aS} (hw : wfA a) : perm a.2.2.2 (a.1 0) := ⟨fun p hp => (hw.2.1 p hp).2.2, hw.2.2.1⟩
theorem hold_c {f o : Nat → Nat} {n : Nat} (ha : acy f n) (hp : perm o n) : holdN f o n ↔ ∀ p, p < n → ldr f (o p) n &&& lfN o n p = 0 := by
  constructor
  · intro h p hpn
    rw [and0]
    intro k h1 h2
    rw [ldr_bit, Bool.and_eq_true, decide_eq_true_iff] at h1
    rw [lfN_bit] at h2
    obtain ⟨q, q1, q2⟩ := inj_surj n o hp.1 hp.2 k h1.1
    have := h q p q1 hpn (by rw [q2]; exact h1.2)
    exact h2.2 q this q2
  · intro h p q hpn hqn hb
    have h1 := and0.mp (h q hqn) (o p) (by rw [ldr_bit, Bool.and_eq_true, decide_eq_true_iff]; exact ⟨hp.1 p hpn, hb⟩)
    refine Nat.lt_of_not_le (fun hqp => h1 ?_)
    rw [lfN_bit]
    refine ⟨hp.1 p hpn, fun r hr e => ?_⟩
    have := hp.2 r p (by omega) hpn e
    omega
theorem hold_r {f o : Nat → Nat} {n : Nat} (ha : acy f n) (hp : perm o n) : holdN f o n ↔ ∀ p, p < n → f (o p) &&& mtN o p = 0 := by
  constructor
  · intro h p hpn
    rw [and0]
    intro k h1 h2
    rw [mtN_bit] at h2
    obtain ⟨q, q1, q2⟩ := h2
    have := h p q hpn (by omega) (by rw [q2]; exact h1)
    omega
  · intro h p q hpn hqn hb
    have h1 := and0.mp (h p hpn) (o q) hb
    have h2 : ¬ q < p := fun e => h1 (by rw [mtN_bit]; exact ⟨q, e, rfl⟩)
    have h3 : q ≠ p := fun e => by
      subst e
      obtain ⟨rk, hr⟩ := ha.2
      have := hr _ _ (hp.1 q hqn) (hp.1 q hqn) hb
      omega
    omega
theorem s_holdsC {N n : Nat} (hN : 200 ≤ N) (hn : n ≤ 7) {S : zOb} {f o : Nat → Nat} (h0 : S.1 0 3 = nI n) (h2 : ∀ i, i < n → S.1 2 i = nI (f i)) (hf : ∀ i, i < n → f i < 2 ^ n) (ho : ∀ i, i < n → o i < n) (h3 : ∀ i, i < n → S.1 3 i = nI (o i)) : ∀ k p nf, p + k = n → k < nf → ((∀ q, p ≤ q → q < n → ldr f (o q) n &&& lfN o n q = 0) → f_St_holds_11 N S nf (nI (lfN o n p)) (nI p) = some (nI 1)) ∧ ((∃ q, p ≤ q ∧ q < n ∧ ¬ ldr f (o q) n &&& lfN o n q = 0) → f_St_holds_11 N S nf (nI (lfN o n p)) (nI p) = some (nI 0)) := by
  intro k
  induction k with
  | zero =>
    intro p nf hp hf
    obtain ⟨nf, rfl⟩ : ∃ t, nf = t + 1 := ⟨nf - 1, by omega⟩
    refine ⟨fun _ => ?_, fun ⟨q, q1, q2, _⟩ => absurd q2 (by omega)⟩
    rw [f_St_holds_11, h0, if_pos (nI_le (by omega) (by omega))]
  | succ k ih =>
    intro p nf hp hf'
    obtain ⟨nf, rfl⟩ : ∃ t, nf = t + 1 := ⟨nf - 1, by omega⟩
    have hl := s_leaders hN hn S f h0 h2 hf (k := o p) (by have := ho p (by omega); omega)
    have op := ho p (by omega)
    have zp : zin (nI p) 7 := zin_nI (by omega) (by decide)
    have cp : (nI p).toNatClampNeg = p := nI_clamp (by omega)
    have hb : ldr f (o p) n &&& lfN o n p < 2 ^ n := Nat.lt_of_le_of_lt Nat.and_le_left (ldr_lt _ _ _)
    have hb2 := lt31 hn hb
    have step : f_St_holds_11 N S (nf + 1) (nI (lfN o n p)) (nI p) = if ldr f (o p) n &&& lfN o n p = 0 then f_St_holds_11 N S nf (nI (lfN o n (p + 1))) (nI (p + 1)) else some (nI 0) := by
      rw [f_St_holds_11, h0, if_neg (nI_ge (by omega) (by omega))]
      simp only [if_pos zp, cp, h3 p (by omega), hl, Option.bind_some, b_and, bnd, b_one (show o p < 32 by omega), b_andN, nI_add]
      by_cases hz : ldr f (o p) n &&& lfN o n p = 0
      · rw [if_pos hz, hz, if_pos rfl]
        rfl
      · rw [if_neg hz, if_neg (fun q => hz ((nI_eq hb2 (by decide)).mp q))]
    obtain ⟨i1, i2⟩ := ih (p + 1) nf (by omega) (by omega)
    refine ⟨fun h => ?_, fun ⟨q, q1, q2, q3⟩ => ?_⟩
    · rw [step, if_pos (h p (Nat.le_refl _) (by omega))]
      exact i1 (fun q hq hqn => h q (by omega) hqn)
    · rw [step]
      by_cases hz : ldr f (o p) n &&& lfN o n p = 0
      · rw [if_pos hz]
        exact i2 ⟨q, by
          rcases Nat.lt_or_ge p q with h | h
          · exact h
          · have : q = p := by omega
            subst this
            exact absurd hz q3, q2, q3⟩
      · rw [if_neg hz]
theorem s_holdsM {N n : Nat} (hn : n ≤ 7) {M : zOb} {f o : Nat → Nat} (h0 : M.1 1 0 = nI n) (h2 : ∀ i, i < n → M.1 1 (20 + i) = nI (f i)) (hf : ∀ i, i < n → f i < 2 ^ n) (ho : ∀ i, i < n → o i < n) (h3 : ∀ i, i < n → M.1 13 i = nI (o i)) : ∀ k p nf, p + k = n → k < nf → ((∀ q, p ≤ q → q < n → f (o q) &&& mtN o q = 0) → f_Mo_isHolding_6 N M nf (nI (mtN o p)) (nI 1) (nI p) = some (nI 1)) ∧ ((∃ q, p ≤ q ∧ q < n ∧ ¬ f (o q) &&& mtN o q = 0) → f_Mo_isHolding_6 N M nf (nI (mtN o p)) (nI 1) (nI p) = some (nI 0)) ∧ f_Mo_isHolding_6 N M nf (nI (mtN o p)) (nI 0) (nI p) = some (nI 0) := by
  intro k
  induction k with
  | zero =>
    intro p nf hp hf
    obtain ⟨nf, rfl⟩ : ∃ t, nf = t + 1 := ⟨nf - 1, by omega⟩
    refine ⟨fun _ => ?_, fun ⟨q, q1, q2, _⟩ => absurd q2 (by omega), ?_⟩
    · rw [f_Mo_isHolding_6, h0, if_pos (nI_le (by omega) (by omega)), if_pos (Or.inr rfl)]
    · rw [f_Mo_isHolding_6, h0, if_pos (nI_le (by omega) (by omega)), if_pos (Or.inl rfl)]
  | succ k ih =>
    intro p nf hp hf'
    obtain ⟨nf, rfl⟩ : ∃ t, nf = t + 1 := ⟨nf - 1, by omega⟩
    have op := ho p (by omega)
    have zp : zin (nI p) 7 := zin_nI (by omega) (by decide)
    have cp : (nI p).toNatClampNeg = p := nI_clamp (by omega)
    have z20 : zin (nI (20 + o p)) 27 := zin_nI (by omega) (by decide)
    have c20 : (nI (20 + o p)).toNatClampNeg = 20 + o p := nI_clamp (by omega)
    have hb : f (o p) &&& mtN o p < 2 ^ n := Nat.lt_of_le_of_lt Nat.and_le_left (hf _ op)
    have hb2 := lt31 hn hb
    obtain ⟨i1, i2, i3⟩ := ih (p + 1) nf (by omega) (by omega)
    have em : nI (mtN o p ||| 2 ^ o p) = nI (mtN o (p + 1)) := rfl
    have step : f_Mo_isHolding_6 N M (nf + 1) (nI (mtN o p)) (nI 1) (nI p) = if f (o p) &&& mtN o p = 0 then f_Mo_isHolding_6 N M nf (nI (mtN o (p + 1))) (nI 1) (nI (p + 1)) else some (nI 0) := by
      rw [f_Mo_isHolding_6, h0, if_neg (nI_ge (by omega) (by omega))]
      simp only [if_neg nI_1_0, if_pos zp, cp, h3 p (by omega), nI_add, if_pos z20, c20, h2 _ op, b_and, f_Mo_isHolding_44, f_Mo_isHolding_43, bnd, b_one (show o p < 32 by omega), b_or, em]
      by_cases hz : f (o p) &&& mtN o p = 0
      · rw [if_pos hz, hz, if_pos rfl]
      · rw [if_neg hz, if_neg (fun q => hz ((nI_eq hb2 (by decide)).mp q))]
        exact i3
    refine ⟨fun h => ?_, fun ⟨q, q1, q2, q3⟩ => ?_, ?_⟩
    · rw [step, if_pos (h p (Nat.le_refl _) (by omega))]
      exact i1 (fun q hq hqn => h q (by omega) hqn)
    · rw [step]
      by_cases hz : f (o p) &&& mtN o p = 0
      · rw [if_pos hz]
        exact i2 ⟨q, by
          rcases Nat.lt_or_ge p q with h | h
          · exact h
          · have : q = p := by omega
            subst this
            exact absurd hz q3, q2, q3⟩
      · rw [if_neg hz]
    · rw [f_Mo_isHolding_6, h0, if_neg (nI_ge (by omega) (by omega))]
      simp only [if_pos, f_Mo_isHolding_43, f_Mo_isHolding_44, if_pos zp, cp, h3 p (by omega), bnd, b_one (show o p < 32 by omega), b_or, em, nI_add]
      exact i3
theorem s_isHolding {N n : Nat} (hN : 200 ≤ N) (hn : n ≤ 7) {M : zOb} {f o : Nat → Nat} (h0 : M.1 1 0 = nI n) (h2 : ∀ i, i < n → M.1 1 (20 + i) = nI (f i)) (ha : acy f n) (hp : perm o n) (h3 : ∀ i, i < n → M.1 13 i = nI (o i)) : (holdN f o n → f_Mo_isHolding N M = some (nI 1)) ∧ (¬ holdN f o n → f_Mo_isHolding N M = some (nI 0)) := by
  obtain ⟨q1, q2, q3⟩ := s_holdsM (N := N) hn h0 h2 ha.1 hp.1 h3 n 0 N (by omega) (by omega)
  refine ⟨fun h => q1 (fun q _ hq => (hold_r ha hp).mp h q hq), fun h => q2 ?_⟩
  refine Classical.byContradiction (fun hc => h ((hold_r ha hp).mpr (fun q hq => ?_)))
  exact Classical.byContradiction (fun hz => hc ⟨q, Nat.zero_le _, hq, hz⟩)
theorem s_holds3 {N n : Nat} (hN : 200 ≤ N) (hn : n ≤ 7) {S : zOb} {f o : Nat → Nat} (h0 : S.1 0 3 = nI n) (h2 : ∀ i, i < n → S.1 2 i = nI (f i)) (ha : acy f n) (hp : perm o n) (h3 : ∀ i, i < n → S.1 3 i = nI (o i)) : (holdN f o n → f_St_holds N S = some (nI 1)) ∧ (¬ holdN f o n → f_St_holds N S = some (nI 0)) := by
  obtain ⟨q1, q2⟩ := s_holdsC hN hn h0 h2 ha.1 hp.1 h3 n 0 N (by omega) (by omega)
  have e : f_St_holds N S = f_St_holds_11 N S N (nI (lfN o n 0)) (nI 0) := by
    have h2n : 2 ^ n ≤ 2 ^ 7 := Nat.pow_le_pow_right (by decide) hn
    have := Nat.two_pow_pos n
    simp only [f_St_holds, bnd, h0, b_one (show n < 32 by omega)]
    rw [pk_sub (by omega)]
    rfl
  rw [e]
  refine ⟨fun h => q1 (fun q _ hq => (hold_c ha hp).mp h q hq), fun h => q2 ?_⟩
  refine Classical.byContradiction (fun hc => h ((hold_c ha hp).mpr (fun q hq => ?_)))
  exact Classical.byContradiction (fun hz => hc ⟨q, Nat.zero_le _, hq, hz⟩)
/-- what an order brings -/
def oPk (a : aS) (o : Nat → Nat) : Nat := pkN (fun p => pcb 20 (frN (tS a o p) (sgm (aL a) (tS a o) p))) (a.1 0)
def oLs (a : aS) (o : Nat → Nat) : Nat := lsN (fun p => pcb 20 (loN (aL a) p (tS a o p) (sgm (aL a) (tS a o) p))) (a.1 0)
theorem oPk_le (a : aS) (o : Nat → Nat) : oPk a o ≤ 20 := pkN_le (fun _ => pcb_le 20 _) _
theorem o_count {N : Nat} (hN : 200 ≤ N) : zop_count N zInv := by
  intro μ x h
  obtain ⟨a, R', M1, M', hw, hS, hM, e1, r1, e2, e3, r2, rO, kM, k1, kj⟩ := s_now hN h
  have h7 := hw.1.1
  have hn : (μ 0).1 0 3 = nI (a.1 0) := hS.1 0 (by decide)
  have hM' : repM (M'.1 1) a := by rw [k1]; exact hM
  have hm : M'.1 1 0 = nI (a.1 0) := hM'.1 0 (by decide)
  have e29 : ∀ X, (zset μ 21 X) 29 = μ 29 := fun X => zset_n _ _ (by decide)
  have z0 : (zset μ 21 R') 0 = μ 0 := zset_n _ _ (by decide)
  have z21 : (zset μ 21 R') 21 = R' := zset_s _ _ _
  have i0 := inv_read0 h kM k1
  have i1 := inv_read h r1.2.2.2 kM k1
  have d : ∀ i j, i < 11 → j < 11 → i ≠ j → ¬ nI i = nI j := fun i j hi hj hij q => hij ((nI_eq (by omega) (by omega)).mp q)
  have hpk := s_peak hN h7 (R := R') (F := fun p => frN (tS a a.2.2.2 p) (sgm (aL a) (tS a a.2.2.2) p)) r1.1.1 (fun p hp => ⟨(r1.2.2.1 p hp).1, mkb_lt _ 20⟩)
  have hls := s_loss hN h7 (R := R') (F := fun p => loN (aL a) p (tS a a.2.2.2 p) (sgm (aL a) (tS a a.2.2.2) p)) r1.1.1 (fun p hp => ⟨(r1.2.2.1 p hp).2.2, mkb_lt _ 20⟩)
  have hpM := s_peakM hN h7 (M := M') (F := fun p => frN (tS a a.2.2.2 p) (sgm (aL a) (tS a a.2.2.2) p)) hm (fun p hp => ⟨(r2.2 p hp).1, mkb_lt _ 20⟩)
  have hlM := s_lossM hN h7 (M := M') (F := fun p => loN (aL a) p (tS a a.2.2.2 p) (sgm (aL a) (tS a a.2.2.2) p)) hm (fun p hp => ⟨(r2.2 p hp).2.2.1, mkb_lt _ 20⟩)
  have hpk : f_Rd_peak N R' = some (nI (oPk a a.2.2.2)) := hpk
  have hls : f_Rd_loss N R' = some (nI (oLs a a.2.2.2)) := hls
  have hpM : f_Mo_peak N M' = some (nI (oPk a a.2.2.2)) := hpM
  have hlM : f_Mo_loss N M' = some (nI (oLs a a.2.2.2)) := hlM
  have hnu := s_number hN h7 hn (fun p hp => (hS.2 p hp).2.2)
  have hnM := s_numberM hN h7 hm rO
  obtain ⟨hh1, hh0⟩ := s_holds3 hN h7 hn (fun i hi => (hS.2 i hi).2.1) (wf_acy hw) (wf_perm hw) (fun i hi => (hS.2 i hi).2.2)
  obtain ⟨hg1, hg0⟩ := s_isHolding hN h7 hm (fun i hi => (hM'.2 i hi).2.1) (wf_acy hw) (wf_perm hw) rO
  have hpb := oPk_le a a.2.2.2
  have hbd : (μ 0).1 0 6 = nI (a.1 3) := hS.1 3 (by decide)
  have hbM : M'.1 1 3 = nI (a.1 3) := hM'.1 3 (by decide)
  have hb20 := hw.1.2.2.2.1
  rcases arg_in x (n := 11) (by decide) with ⟨v, hv, rfl⟩ | hx
  · have p0 : ¬ nI v < nI 0 := nI_nlt (Nat.zero_le _) (by omega)
    have p10 : nI v ≤ nI 10 := nI_le (by omega) (by decide)
    have zv : zin (nI v) 27 := zin_nI (by omega) (by decide)
    have cv : (nI v).toNatClampNeg = v := nI_clamp (by omega)
    by_cases hv5 : v < 5
    · have hc : f_RS_count N μ (nI v) = some (nI (a.1 v), μ) := by
        match v, hv5 with
        | 0, _ => simp only [f_RS_count, if_pos, hn]
        | 1, _ => simp only [f_RS_count, if_neg (d 1 0 (by decide) (by decide) (by decide)), if_pos, show (μ 0).1 0 4 = nI (a.1 1) from hS.1 1 (by decide)]
        | 2, _ => simp only [f_RS_count, if_neg (d 2 0 (by decide) (by decide) (by decide)), if_neg (d 2 1 (by decide) (by decide) (by decide)), if_pos, show (μ 0).1 0 5 = nI (a.1 2) from hS.1 2 (by decide)]
        | 3, _ => simp only [f_RS_count, if_neg (d 3 0 (by decide) (by decide) (by decide)), if_neg (d 3 1 (by decide) (by decide) (by decide)), if_neg (d 3 2 (by decide) (by decide) (by decide)), if_pos, hbd]
        | 4, _ => simp only [f_RS_count, if_neg (d 4 0 (by decide) (by decide) (by decide)), if_neg (d 4 1 (by decide) (by decide) (by decide)), if_neg (d 4 2 (by decide) (by decide) (by decide)), if_neg (d 4 3 (by decide) (by decide) (by decide)), if_pos, show (μ 0).1 0 7 = nI (a.1 4) from hS.1 4 (by decide)]
        | v + 5, h => exact absurd h (by omega)
      have hcM : f_Mo_count_68 N M' (nI v) = some (nI (a.1 v), M') := by
        simp only [f_Mo_count_68, if_pos zv, cv, hM'.1 v (by omega)]
      refine ⟨nI (a.1 v), μ, M', hc, ?_, i0⟩
      simp only [f_Mo_count, e2, e3, Option.bind_some]
      match v, hv5 with
      | 0, _ => rw [if_pos rfl]; exact hcM
      | 1, _ => rw [if_neg (d 1 0 (by decide) (by decide) (by decide)), if_pos rfl]; exact hcM
      | 2, _ => rw [if_neg (d 2 0 (by decide) (by decide) (by decide)), if_neg (d 2 1 (by decide) (by decide) (by decide)), if_pos rfl]; exact hcM
      | 3, _ => rw [if_neg (d 3 0 (by decide) (by decide) (by decide)), if_neg (d 3 1 (by decide) (by decide) (by decide)), if_neg (d 3 2 (by decide) (by decide) (by decide)), if_pos rfl]; exact hcM
      | 4, _ => rw [if_neg (d 4 0 (by decide) (by decide) (by decide)), if_neg (d 4 1 (by decide) (by decide) (by decide)), if_neg (d 4 2 (by decide) (by decide) (by decide)), if_neg (d 4 3 (by decide) (by decide) (by decide)), if_pos rfl]; exact hcM
      | v + 5, h => exact absurd h (by omega)
    · have hge : ∀ j, j < 5 → ¬ nI v = nI j := fun j hj => d v j hv (by omega) (by omega)
      have hcl : f_RS_count N μ (nI v) = if nI v = nI 5 then (f_St_number N (μ 0) ((μ 0).1 3)).bind (fun q7 => some (q7, μ)) else if nI v = nI 10 then some ((μ 16).1 0 1, μ) else f_RS_count_123 N μ (nI v) := by
        simp only [f_RS_count]
        rw [if_neg (hge 0 (by decide)), if_neg (hge 1 (by decide)), if_neg (hge 2 (by decide)), if_neg (hge 3 (by decide)), if_neg (hge 4 (by decide))]
        by_cases h5 : nI v = nI 5
        · rw [if_pos h5, if_pos h5]
        · rw [if_neg h5, if_neg h5]
          by_cases h10 : nI v = nI 10
          · rw [if_pos h10, h10, if_neg (d 10 6 (by decide) (by decide) (by decide)), if_neg (d 10 7 (by decide) (by decide) (by decide)), if_neg (d 10 8 (by decide) (by decide) (by decide)), if_neg (d 10 9 (by decide) (by decide) (by decide))]
          · rw [if_neg h10, ite_self, ite_self, ite_self, ite_self]
      have hmo : f_Mo_count N (μ 29) (nI v) = if nI v = nI 5 then some (nI (nuN a.2.2.2 (a.1 0)), M') else if nI v = nI 6 then some (nI (oPk a a.2.2.2), M') else if nI v = nI 7 then some (nI (oLs a a.2.2.2), M') else if nI v = nI 8 then (f_Mo_isHolding N M').bind (fun q16 => (if q16 = nI 0 then f_Mo_count_102 N M' (nI 0) else f_Mo_count_102 N M' (nI 1))) else if nI v = nI 9 then (f_Mo_isHolding N M').bind (fun q19 => (if q19 = nI 0 then f_Mo_count_127 N M' else (f_Mo_peak N M').bind (fun q21 => (if (M'.1 1 3) < q21 then f_Mo_count_127 N M' else f_Mo_count_128 N M' (nI 1))))) else if nI v = nI 10 then some (M'.1 0 2, M') else some ((-1 : Int32), M') := by
        simp only [f_Mo_count, e2, e3, Option.bind_some, hnM, hpM, hlM]
        rw [if_neg (hge 0 (by decide)), if_neg (hge 1 (by decide)), if_neg (hge 2 (by decide)), if_neg (hge 3 (by decide)), if_neg (hge 4 (by decide))]
      by_cases h5 : v = 5
      · subst h5
        refine ⟨nI (nuN a.2.2.2 (a.1 0)), μ, M', ?_, by rw [hmo, if_pos rfl], i0⟩
        rw [hcl, if_pos rfl, hnu, Option.bind_some]
      · by_cases h10 : v = 10
        · subst h10
          obtain ⟨k, hpast, hk⟩ := h.2.1
          refine ⟨nI k, μ, M', ?_, ?_, i0⟩
          · rw [hcl, if_neg (d 10 5 (by decide) (by decide) (by decide)), if_pos rfl, hpast.2.2.1]
          · rw [hmo, if_neg (d 10 5 (by decide) (by decide) (by decide)), if_neg (d 10 6 (by decide) (by decide) (by decide)), if_neg (d 10 7 (by decide) (by decide) (by decide)), if_neg (d 10 8 (by decide) (by decide) (by decide)), if_neg (d 10 9 (by decide) (by decide) (by decide)), if_pos rfl, kj 0 (by omega), hk]
        · have hrd : ∃ s0, (s0 = nI 0 ∨ s0 = nI 1) ∧ f_RS_count N μ (nI v) = f_RS_countOfReading_43 N (zset μ 21 R') (nI v) s0 ∧ ((holdN a.2.2.1 a.2.2.2 (a.1 0) ∧ oPk a a.2.2.2 ≤ a.1 3 ∧ s0 = nI 1) ∨ (¬ (holdN a.2.2.1 a.2.2.2 (a.1 0) ∧ oPk a a.2.2.2 ≤ a.1 3) ∧ s0 = nI 0)) := by
            have hb : f_RS_count N μ (nI v) = (f_St_holds N (μ 0)).bind (fun q3 => (if q3 = nI 0 then f_RS_countOfReading_42 N (zset μ 21 R') (nI v) else (f_Rd_peak N R').bind (fun q13 => (if nI (a.1 3) < q13 then f_RS_countOfReading_42 N (zset μ 21 R') (nI v) else f_RS_countOfReading_43 N (zset μ 21 R') (nI v) (nI 1))))) := by
              rw [hcl, if_neg (d v 5 hv (by decide) h5), if_neg (d v 10 hv (by decide) h10)]
              simp only [f_RS_count_123, f_RS_count_142, f_RS_countOfReading, bnd]
              rw [if_neg p0, if_pos p10, e1]
              simp only [Option.bind_some, z0, z21, hbd]
              rw [Option.bind_fun_some]
            by_cases hh : holdN a.2.2.1 a.2.2.2 (a.1 0)
            · rw [hh1 hh, Option.bind_some, if_neg nI_1_0, hpk, Option.bind_some] at hb
              by_cases hp : oPk a a.2.2.2 ≤ a.1 3
              · rw [if_neg (nI_nlt hp (by omega))] at hb
                exact ⟨nI 1, Or.inr rfl, hb, Or.inl ⟨hh, hp, rfl⟩⟩
              · rw [if_pos (nI_lt (by omega) (by omega))] at hb
                exact ⟨nI 0, Or.inl rfl, hb, Or.inr ⟨fun q => hp q.2, rfl⟩⟩
            · rw [hh0 hh, Option.bind_some, if_pos rfl] at hb
              exact ⟨nI 0, Or.inl rfl, hb, Or.inr ⟨fun q => hh q.1, rfl⟩⟩
          obtain ⟨s0, -, hc, hfit⟩ := hrd
          have hv4 : v = 6 ∨ v = 7 ∨ v = 8 ∨ v = 9 := by omega
          rcases hv4 with rfl | rfl | rfl | rfl
          · refine ⟨nI (oPk a a.2.2.2), zset μ 21 R', M', ?_, ?_, i1⟩
            · simp only [hc, f_RS_countOfReading_43, if_pos, z21, hpk, Option.bind_some]
            · rw [e29, hmo, if_neg (d 6 5 (by decide) (by decide) (by decide)), if_pos rfl]
          · refine ⟨nI (oLs a a.2.2.2), zset μ 21 R', M', ?_, ?_, i1⟩
            · simp only [hc, f_RS_countOfReading_43, if_neg (d 7 6 (by decide) (by decide) (by decide)), if_pos, z21, hls, Option.bind_some]
            · rw [e29, hmo, if_neg (d 7 5 (by decide) (by decide) (by decide)), if_neg (d 7 6 (by decide) (by decide) (by decide)), if_pos rfl]
          · by_cases hh : holdN a.2.2.1 a.2.2.2 (a.1 0)
            · refine ⟨nI 1, zset μ 21 R', M', ?_, ?_, i1⟩
              · simp only [hc, f_RS_countOfReading_43, f_RS_countOfReading_103, if_neg (d 8 6 (by decide) (by decide) (by decide)), if_neg (d 8 7 (by decide) (by decide) (by decide)), if_pos, z0, hh1 hh, Option.bind_some, if_neg nI_1_0]
              · rw [e29, hmo, if_neg (d 8 5 (by decide) (by decide) (by decide)), if_neg (d 8 6 (by decide) (by decide) (by decide)), if_neg (d 8 7 (by decide) (by decide) (by decide)), if_pos rfl, hg1 hh, Option.bind_some, if_neg nI_1_0]
                rfl
            · refine ⟨nI 0, zset μ 21 R', M', ?_, ?_, i1⟩
              · simp only [hc, f_RS_countOfReading_43, f_RS_countOfReading_103, if_neg (d 8 6 (by decide) (by decide) (by decide)), if_neg (d 8 7 (by decide) (by decide) (by decide)), if_pos, z0, hh0 hh, Option.bind_some]
              · rw [e29, hmo, if_neg (d 8 5 (by decide) (by decide) (by decide)), if_neg (d 8 6 (by decide) (by decide) (by decide)), if_neg (d 8 7 (by decide) (by decide) (by decide)), if_pos rfl, hg0 hh, Option.bind_some, if_pos rfl]
                rfl
          · have hm9 : f_Mo_count N (μ 29) (nI 9) = (f_Mo_isHolding N M').bind (fun q19 => (if q19 = nI 0 then f_Mo_count_127 N M' else (f_Mo_peak N M').bind (fun q21 => (if (M'.1 1 3) < q21 then f_Mo_count_127 N M' else f_Mo_count_128 N M' (nI 1))))) := by
              rw [hmo, if_neg (d 9 5 (by decide) (by decide) (by decide)), if_neg (d 9 6 (by decide) (by decide) (by decide)), if_neg (d 9 7 (by decide) (by decide) (by decide)), if_neg (d 9 8 (by decide) (by decide) (by decide)), if_pos rfl]
            rcases hfit with ⟨hh, hp, rfl⟩ | ⟨hf, rfl⟩
            · refine ⟨nI 1, zset μ 21 R', M', ?_, ?_, i1⟩
              · simp only [hc, f_RS_countOfReading_43, f_RS_countOfReading_113, if_neg (d 9 6 (by decide) (by decide) (by decide)), if_neg (d 9 7 (by decide) (by decide) (by decide)), if_neg (d 9 8 (by decide) (by decide) (by decide)), if_neg nI_1_0]
              · rw [e29, hm9, hg1 hh, Option.bind_some, if_neg nI_1_0, hpM, Option.bind_some, hbM, if_neg (nI_nlt hp (by omega))]
                rfl
            · refine ⟨nI 0, zset μ 21 R', M', ?_, ?_, i1⟩
              · simp only [hc, f_RS_countOfReading_43, f_RS_countOfReading_113, if_neg (d 9 6 (by decide) (by decide) (by decide)), if_neg (d 9 7 (by decide) (by decide) (by decide)), if_neg (d 9 8 (by decide) (by decide) (by decide)), if_pos]
              · rw [e29, hm9]
                by_cases hh : holdN a.2.2.1 a.2.2.2 (a.1 0)
                · have hp : ¬ oPk a a.2.2.2 ≤ a.1 3 := fun q => hf ⟨hh, q⟩
                  rw [hg1 hh, Option.bind_some, if_neg nI_1_0, hpM, Option.bind_some, hbM, if_pos (nI_lt (by omega) (by omega))]
                  rfl
                · rw [hg0 hh, Option.bind_some, if_pos rfl]
                  rfl
  · have hx0 : ∀ v, v < 11 → ¬ x = nI v := fun v hv q => hx (by rw [q, nI_T (by omega)]; omega)
    have e0 : (nI 0).toInt = 0 := rfl
    have e10 : (nI 10).toInt = 10 := rfl
    refine ⟨-1, μ, M', ?_, ?_, i0⟩
    · simp only [f_RS_count]
      rw [if_neg (hx0 0 (by decide)), if_neg (hx0 1 (by decide)), if_neg (hx0 2 (by decide)), if_neg (hx0 3 (by decide)), if_neg (hx0 4 (by decide)), if_neg (hx0 5 (by decide)), if_neg (hx0 6 (by decide)), if_neg (hx0 7 (by decide)), if_neg (hx0 8 (by decide)), if_neg (hx0 9 (by decide)), if_neg (hx0 10 (by decide))]
      simp only [f_RS_count_123, f_RS_count_133, f_RS_count_142]
      by_cases h1 : x < nI 0
      · rw [if_pos h1]
      · rw [if_neg h1, if_neg (fun q => hx ?_)]
        have h3 := i_le.mp q
        have h4 : ¬ x.toInt < (nI 0).toInt := fun g => h1 (i_lt.mpr g)
        omega
    · simp only [f_Mo_count, e2, e3, Option.bind_some]
      rw [if_neg (hx0 0 (by decide)), if_neg (hx0 1 (by decide)), if_neg (hx0 2 (by decide)), if_neg (hx0 3 (by decide)), if_neg (hx0 4 (by decide)), if_neg (hx0 5 (by decide)), if_neg (hx0 6 (by decide)), if_neg (hx0 7 (by decide)), if_neg (hx0 8 (by decide)), if_neg (hx0 9 (by decide)), if_neg (hx0 10 (by decide))]
