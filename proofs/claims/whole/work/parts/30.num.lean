/-! NUMBERS: ints that are small naturals, their bits -/
theorem lit_nI (n : Nat) : (OfNat.ofNat n : Int32) = nI n := rfl
theorem b_and (a b : Nat) : nI a &&& nI b = nI (a &&& b) := by
  apply Int32.toBitVec_inj.mp
  simp [nI, BitVec.ofNat_and]
theorem b_or (a b : Nat) : nI a ||| nI b = nI (a ||| b) := by
  apply Int32.toBitVec_inj.mp
  simp [nI, BitVec.ofNat_or]
theorem b_xor (a b : Nat) : nI a ^^^ nI b = nI (a ^^^ b) := by
  apply Int32.toBitVec_inj.mp
  simp [nI, BitVec.ofNat_xor]
/-- a without b, of sets as bits -/
def aN (a b : Nat) : Nat := a ^^^ (a &&& b)
theorem aN_bit (a b i : Nat) : (aN a b).testBit i = (a.testBit i && !b.testBit i) := by
  unfold aN
  rw [Nat.testBit_xor, Nat.testBit_and]
  cases a.testBit i <;> cases b.testBit i <;> rfl
theorem b_andN (a b : Nat) : nI a &&& (nI b ^^^ (-1)) = nI (aN a b) := by
  apply Int32.toBitVec_inj.mp
  have h1 : (-1 : Int32).toBitVec = BitVec.allOnes 32 := by decide
  have h2 : (nI (aN a b)).toBitVec = (nI a).toBitVec ^^^ ((nI a).toBitVec &&& (nI b).toBitVec) := by
    simp [nI, aN, BitVec.ofNat_xor, BitVec.ofNat_and]
  rw [h2, Int32.toBitVec_and, Int32.toBitVec_xor, h1, BitVec.xor_allOnes]
  apply BitVec.eq_of_getLsbD_eq
  intro i hi
  rw [BitVec.getLsbD_and, BitVec.getLsbD_xor, BitVec.getLsbD_and, BitVec.getLsbD_not]
  cases (nI a).toBitVec.getLsbD i <;> cases (nI b).toBitVec.getLsbD i <;> simp [hi]
theorem b_sh : ∀ w, w < 32 → ((nI w &&& 31).toBitVec.smod 32).toNat = w := by decide +kernel
theorem b_shl {n w : Nat} (hw : w < 32) (h : n * 2 ^ w < 2 ^ 32) : nI n <<< (nI w &&& 31) = nI (n * 2 ^ w) := pk_shlN _ w (b_sh w hw) h
theorem b_one {w : Nat} (hw : w < 32) : nI 1 <<< (nI w &&& 31) = nI (2 ^ w) := by
  have h : 2 ^ w < 2 ^ 32 := Nat.pow_lt_pow_right (by decide) hw
  have := b_shl (n := 1) hw (by omega)
  rw [Nat.one_mul] at this
  exact this
theorem b_shr {n w : Nat} (hn : n < 2 ^ 31) (hw : w < 32) : nI n >>> (nI w &&& 31) = nI (n / 2 ^ w) := pk_shrN hn _ w (b_sh w hw)
theorem b_and1 (n : Nat) (h : n < 2 ^ 31) : nI n &&& nI 1 = nI (n % 2) := pk_andN (by omega) 1 (by decide)
theorem tb_div (x w : Nat) : x.testBit w = decide (x / 2 ^ w % 2 = 1) := Nat.testBit_eq_decide_div_mod_eq
theorem s_hasBit {x w : Nat} (hx : x < 2 ^ 31) (hw : w < 32) : f_RS_hasBit (nI x) (nI w) = some (if x.testBit w then nI 1 else nI 0) := by
  have h2 : x / 2 ^ w < 2 ^ 31 := Nat.lt_of_le_of_lt (Nat.div_le_self _ _) hx
  unfold f_RS_hasBit f_RS_hasBit_13
  rw [b_shr hx hw, b_and1 _ h2, tb_div]
  by_cases h : x / 2 ^ w % 2 = 1
  · rw [h]; simp [nI]
  · have h0 : x / 2 ^ w % 2 = 0 := by omega
    rw [h0]; simp [nI]
theorem s_has {x w : Nat} (hx : x < 2 ^ 31) (hw : w < 32) : f_Mo_has (nI x) (nI w) = some (if x.testBit w then nI 1 else nI 0) := by
  have h2 : x / 2 ^ w < 2 ^ 31 := Nat.lt_of_le_of_lt (Nat.div_le_self _ _) hx
  unfold f_Mo_has
  rw [b_shr hx hw, b_and1 _ h2, tb_div]
  by_cases h : x / 2 ^ w % 2 = 1
  · rw [h]; simp [nI, f_Mo_has_14]
  · have h0 : x / 2 ^ w % 2 = 0 := by omega
    rw [h0]; simp [nI, f_Mo_has_14]
theorem zin_nI {k n : Nat} (h : k < n) (hn : n < 2 ^ 31) : zin (nI k) n := nI_in h hn
/-- a loop that counts up to e: its state keeps P -/
theorem for_ex {σ ρ : Type} (F : Nat → σ → Int32 → Option ρ) (e : Nat) (P : Nat → σ → Prop) (x : σ → Option ρ) (h1 : ∀ n s, P e s → F (n + 1) s (nI e) = x s) (h2 : ∀ n s i, i < e → P i s → ∃ s', P (i + 1) s' ∧ F (n + 1) s (nI i) = F n s' (nI (i + 1))) : ∀ k i n s, i + k = e → k < n → P i s → ∃ s', P e s' ∧ F n s (nI i) = x s' := by
  intro k
  induction k with
  | zero =>
    intro i n s hi hn hp
    obtain ⟨n, rfl⟩ : ∃ m, n = m + 1 := ⟨n - 1, by omega⟩
    have : i = e := by omega
    subst this
    exact ⟨s, hp, h1 n s hp⟩
  | succ k ih =>
    intro i n s hi hn hp
    obtain ⟨n, rfl⟩ : ∃ m, n = m + 1 := ⟨n - 1, by omega⟩
    obtain ⟨s', hp', he⟩ := h2 n s i (by omega) hp
    obtain ⟨s2, hp2, he2⟩ := ih (i + 1) n s' (by omega) (by omega) hp'
    exact ⟨s2, hp2, by rw [he, he2]⟩
/-- the same, the state told as a function of the counter -/
theorem for_eq {σ ρ : Type} (F : Nat → σ → Int32 → Option ρ) (e : Nat) (g : Nat → σ) (x : Option ρ) (h1 : ∀ n, F (n + 1) (g e) (nI e) = x) (h2 : ∀ n i, i < e → F (n + 1) (g i) (nI i) = F n (g (i + 1)) (nI (i + 1))) : ∀ i n, i ≤ e → e < n + i → F n (g i) (nI i) = x := by
  intro i n hi hn
  obtain ⟨s', hp, he⟩ := for_ex F e (fun i s => s = g i) (fun _ => x) (fun n s hp => by rw [hp]; exact h1 n) (fun n s i hi hp => ⟨g (i + 1), rfl, by rw [hp]; exact h2 n i hi⟩) (e - i) i n (g i) (by omega) (by omega) rfl
  exact he
/-- how many bits are set -/
def pcn : Nat → Nat → Nat
  | 0, _ => 0
  | k + 1, x => x % 2 + pcn k (x / 2)
theorem upd_s (f : Nat → Int32) (k : Nat) (x : Int32) : upd f k x k = x := pk_us
theorem upd_n (f : Nat → Int32) {k j : Nat} (x : Int32) (h : j ≠ k) : upd f k x j = f j := pk_un h
theorem zI_r (S : zOb) (j i : Nat) (x : Int32) : zI S j i x = zIr S j (upd (S.1 j) i x) := rfl
theorem zIr_at (S : zOb) (j j' : Nat) (f : Nat → Int32) : (zIr S j f).1 j' = if j' = j then f else S.1 j' := rfl
theorem zIr_2 (S : zOb) (j : Nat) (f : Nat → Int32) : (zIr S j f).2 = S.2 := rfl
theorem zIr_rr (S : zOb) (j : Nat) (f g : Nat → Int32) : zIr (zIr S j f) j g = zIr S j g := by
  unfold zIr
  congr 1
  funext j'
  dsimp only
  split <;> rfl
theorem zIr_id (S : zOb) (j : Nat) : zIr S j (S.1 j) = S := by
  unfold zIr
  apply Prod.ext
  · funext j'
    dsimp only
    split
    · next h => rw [h]
    · rfl
  · rfl
theorem zIr_comm (S : zOb) {j j' : Nat} (h : j ≠ j') (f g : Nat → Int32) : zIr (zIr S j f) j' g = zIr (zIr S j' g) j f := by
  unfold zIr
  congr 1
  funext k
  dsimp only
  by_cases h1 : k = j'
  · rw [if_pos h1, if_neg (fun e => h (e.symm.trans h1)), if_pos h1]
  · rw [if_neg h1, if_neg h1]
