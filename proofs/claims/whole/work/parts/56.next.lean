/-! all orders, one behind the other -/
def nxAt (o : Nat → Nat) : Nat → Option Nat
  | 0 => none
  | i + 1 => if o i ≤ o (i + 1) then some i else nxAt o i
def nxOt (o : Nat → Nat) (a : Nat) : Nat → Nat
  | 0 => 0
  | j + 1 => if o a ≤ o (j + 1) then j + 1 else nxOt o a j
def nxSw (o : Nat → Nat) (i j : Nat) : Nat → Nat := va_up (va_up o i (o j)) j (o i)
def nxRv : Nat → Nat → Nat → (Nat → Nat) → Nat → Nat
  | 0, _, _, o => o
  | m + 1, i, j, o => if j ≤ i then o else nxRv m (i + 1) (j - 1) (nxSw o i j)
def nxo (n : Nat) (o : Nat → Nat) : Option (Nat → Nat) :=
  match nxAt o (n - 1) with
  | none => none
  | some a => some (nxRv 7 (a + 1) (n - 1) (nxSw o a (nxOt o a (n - 1))))
def flt {α : Type} (F : Nat → List α) : Nat → Nat → List α
  | 0, _ => []
  | m + 1, i => F i ++ flt F m (i + 1)
def ordL (n : Nat) : Nat → Nat → Nat → (Nat → Nat) → List (Nat → Nat)
  | 0, _, _, o => [o]
  | k + 1, p, lf, o => flt (fun b => if lf.testBit b then ordL n k (p + 1) (aN lf (2 ^ b)) (va_up o p b) else []) n 0
def eqOn (n : Nat) (f g : Nat → Nat) : Bool := (List.range n).all (fun i => f i == g i)
def chk (n : Nat) : Option (Nat → Nat) → List (Nat → Nat) → Bool
  | e, [] => e.isNone
  | none, _ :: _ => false
  | some e, o :: t => eqOn n e o && chk n (nxo n o) t
theorem chk0 : chk 0 (some id) (ordL 0 0 0 0 id) = true := by decide +kernel
theorem len0 : (ordL 0 0 0 0 id).length ≤ 5040 := by decide +kernel
theorem chk1 : chk 1 (some id) (ordL 1 1 0 1 id) = true := by decide +kernel
theorem len1 : (ordL 1 1 0 1 id).length ≤ 5040 := by decide +kernel
theorem chk2 : chk 2 (some id) (ordL 2 2 0 3 id) = true := by decide +kernel
theorem len2 : (ordL 2 2 0 3 id).length ≤ 5040 := by decide +kernel
theorem chk3 : chk 3 (some id) (ordL 3 3 0 7 id) = true := by decide +kernel
theorem len3 : (ordL 3 3 0 7 id).length ≤ 5040 := by decide +kernel
theorem chk4 : chk 4 (some id) (ordL 4 4 0 15 id) = true := by decide +kernel
theorem len4 : (ordL 4 4 0 15 id).length ≤ 5040 := by decide +kernel
theorem chk5 : chk 5 (some id) (ordL 5 5 0 31 id) = true := by decide +kernel
theorem len5 : (ordL 5 5 0 31 id).length ≤ 5040 := by decide +kernel
theorem chk6 : chk 6 (some id) (ordL 6 6 0 63 id) = true := by decide +kernel
theorem len6 : (ordL 6 6 0 63 id).length ≤ 5040 := by decide +kernel
theorem chk7 : chk 7 (some id) (ordL 7 7 0 127 id) = true := by decide +kernel
theorem len7 : (ordL 7 7 0 127 id).length ≤ 5040 := by decide +kernel
theorem chkN : ∀ n, n ≤ 7 → chk n (some id) (ordL n n 0 (2 ^ n - 1) id) = true ∧ (ordL n n 0 (2 ^ n - 1) id).length ≤ 5040
  | 0, _ => ⟨chk0, len0⟩
  | 1, _ => ⟨chk1, len1⟩
  | 2, _ => ⟨chk2, len2⟩
  | 3, _ => ⟨chk3, len3⟩
  | 4, _ => ⟨chk4, len4⟩
  | 5, _ => ⟨chk5, len5⟩
  | 6, _ => ⟨chk6, len6⟩
  | 7, _ => ⟨chk7, len7⟩
  | n + 8, h => absurd h (by omega)
