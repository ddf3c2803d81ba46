/-! SMALL ACTS on the state: book, words, prior, tell -/
theorem arg_in (x : Int32) {n : Nat} (hn : n < 2 ^ 31) : (∃ k, k < n ∧ x = nI k) ∨ ¬ (0 ≤ x.toInt ∧ x.toInt < n) := by
  by_cases h : 0 ≤ x.toInt ∧ x.toInt < n
  · refine Or.inl ⟨x.toInt.toNat, by omega, ?_⟩
    apply Int32.toInt_inj.mp
    rw [nI_toInt (by omega)]
    omega
  · exact Or.inr h
theorem i_lt {x y : Int32} : x < y ↔ x.toInt < y.toInt := Int32.lt_iff_toInt_lt
theorem i_le {x y : Int32} : x ≤ y ↔ x.toInt ≤ y.toInt := Int32.le_iff_toInt_le
theorem i_eq {x y : Int32} : x = y ↔ x.toInt = y.toInt := Int32.toInt_inj.symm
theorem lg_lt0 (x y : Int64) : lg_cmp x y < nI 0 ↔ x.toInt < y.toInt := by
  have h := lg_cmp_ge x y
  rw [Int64.le_iff_toInt_le] at h
  constructor
  · intro q
    refine Int.not_le.mp (fun g => ?_)
    have := h.mpr g
    rw [i_lt] at q
    rw [i_le] at this
    exact absurd this (Int.not_le.mpr q)
  · intro q
    rw [i_lt]
    refine Int.not_le.mp (fun g => ?_)
    have := h.mp (i_le.mpr g)
    omega
theorem lg_gt0 (x y : Int64) : nI 0 < lg_cmp x y ↔ y.toInt < x.toInt := by
  unfold lg_cmp
  simp only [gt_iff_lt, Int64.lt_iff_toInt_lt, ← Int64.toInt_inj]
  split
  · next h => exact ⟨fun _ => h, fun _ => by decide⟩
  · split
    · next h1 h2 => exact ⟨fun q => absurd q (by decide), fun q => absurd q (by omega)⟩
    · next h1 h2 => exact ⟨fun q => absurd q (by decide), fun q => absurd q h1⟩
theorem s_in (x lo hi : Int64) : f_Mo_in x lo hi = some (if lo.toInt ≤ x.toInt ∧ x.toInt ≤ hi.toInt then nI 1 else nI 0) := by
  unfold f_Mo_in f_Mo_in_17 f_Mo_in_18
  by_cases h1 : x.toInt < lo.toInt
  · rw [if_pos ((lg_lt0 x lo).mpr h1), if_pos (Or.inl rfl), if_neg (by omega)]
  · rw [if_neg (fun q => h1 ((lg_lt0 x lo).mp q))]
    by_cases h2 : hi.toInt < x.toInt
    · rw [if_pos ((lg_gt0 x hi).mpr h2), if_pos (Or.inl rfl), if_neg (by omega)]
    · rw [if_neg (fun q => h2 ((lg_gt0 x hi).mp q)), if_pos (Or.inr rfl), if_pos (by omega)]
theorem l_toInt (x : Int32) : x.toInt64.toInt = x.toInt := by simp
theorem s_inI (x : Int32) (lo hi : Int64) : f_Mo_in x.toInt64 lo hi = some (if lo.toInt ≤ x.toInt ∧ x.toInt ≤ hi.toInt then nI 1 else nI 0) := by rw [s_in, l_toInt]
theorem nI_n0 {s : Nat} (h0 : 0 < s) (h : s < 2 ^ 31) : ¬ nI s = nI 0 := nI_ne0 h0 h
theorem vu_s {α : Type} (f : Nat → α) (k : Nat) (v : α) : va_up f k v k = v := if_pos rfl
theorem vu_n {α : Type} (f : Nat → α) (v : α) {k j : Nat} (h : j ≠ k) : va_up f k v j = f j := if_neg h
theorem nI_1_0 : ¬ (nI 1 = nI 0) := by decide
theorem zb01 (c : Prop) [Decidable c] : (if ((if c then nI 1 else nI 0) = nI 0 ∨ (if c then nI 1 else nI 0) = nI 1) then some (if c then nI 1 else nI 0) else none) = some (if c then nI 1 else nI 0) := by
  rw [if_pos]
  split
  · exact Or.inr rfl
  · exact Or.inl rfl
theorem n1_toInt {n : Nat} (h : n < 2 ^ 29) : (nI n - nI 1).toInt64.toInt = (n : Int) - 1 := by
  rw [l_toInt, pk_sub_toInt (by omega) (by omega)]
  rfl
theorem s_isBookM {M : zOb} {n : Nat} (hn : n ≤ 7) (h : M.1 1 0 = nI n) (x : Int32) : f_Mo_isBook M x = some (if 0 ≤ x.toInt ∧ x.toInt < n then nI 1 else nI 0) := by
  unfold f_Mo_isBook
  rw [h, s_inI, n1_toInt (by omega)]
  simp only [Option.bind_some]
  rw [zb01]
  congr 1
  have e : (0 : Int64).toInt = 0 := by decide
  rw [e]
  by_cases q : 0 ≤ x.toInt ∧ x.toInt < n
  · rw [if_pos (by omega), if_pos q]
  · rw [if_neg (by omega), if_neg q]
theorem s_isBook {S : zOb} {n : Nat} (hn : n ≤ 7) (h : S.1 0 3 = nI n) (x : Int32) : f_St_isBook S x = some (if 0 ≤ x.toInt ∧ x.toInt < n then nI 1 else nI 0) := by
  unfold f_St_isBook f_St_isBook_16 f_St_isBook_17
  rw [h]
  have e0 : (nI 0).toInt = 0 := rfl
  have en : (nI n).toInt = n := nI_toInt (by omega)
  by_cases h1 : x.toInt < 0
  · rw [if_pos (i_lt.mpr h1), if_pos (Or.inl rfl), if_neg (by omega)]
  · rw [if_neg (fun q => h1 (i_lt.mp q))]
    by_cases h2 : (n : Int) ≤ x.toInt
    · rw [if_pos (i_le.mpr (by rw [en]; exact h2)), if_pos (Or.inl rfl), if_neg (by omega)]
    · rw [if_neg (fun q => h2 (by have := i_le.mp q; rw [en] at this; exact this)), if_pos (Or.inr rfl), if_pos (by omega)]
theorem s_isSetOfBook (x : Int32) : f_St_isSetOfBook x = some (if 0 < x.toInt ∧ x.toInt < 2 ^ 20 then nI 1 else nI 0) := by
  unfold f_St_isSetOfBook f_St_isSetOfBook_14 f_St_isSetOfBook_15
  have e0 : (nI 0).toInt = 0 := rfl
  have en : (nI 1048575).toInt = 1048575 := rfl
  by_cases h1 : x.toInt ≤ 0
  · rw [if_pos (i_le.mpr h1), if_pos (Or.inl rfl), if_neg (by omega)]
  · rw [if_neg (fun q => h1 (i_le.mp q))]
    by_cases h2 : 1048575 < x.toInt
    · rw [if_pos (i_lt.mpr (show (nI 1048575).toInt < x.toInt from h2)), if_pos (Or.inl rfl), if_neg (by omega)]
    · rw [if_neg (fun q => h2 (show (nI 1048575).toInt < x.toInt from i_lt.mp q)), if_pos (Or.inr rfl), if_pos (by omega)]
theorem s_isSet (x : Int32) : f_Mo_isSet x = some (if 0 ≤ x.toInt ∧ x.toInt < 2 ^ 20 then nI 1 else nI 0) := by
  unfold f_Mo_isSet
  rw [s_inI]
  simp only [Option.bind_some]
  rw [zb01]
  congr 1
  have e : (0 : Int64).toInt = 0 := by decide
  have e2 : (1048575 : Int64).toInt = 1048575 := by decide
  rw [e, e2]
  by_cases q : 0 ≤ x.toInt ∧ x.toInt < 2 ^ 20
  · rw [if_pos (by omega), if_pos q]
  · rw [if_neg (by omega), if_neg q]
theorem set_arg (x : Int32) : (∃ s, 0 < s ∧ s < 2 ^ 20 ∧ x = nI s) ∨ ¬ (0 < x.toInt ∧ x.toInt < 2 ^ 20) := by
  rcases arg_in x (n := 2 ^ 20) (by decide) with ⟨k, hk, rfl⟩ | h
  · by_cases h0 : k = 0
    · subst h0
      exact Or.inr (by decide)
    · exact Or.inl ⟨k, by omega, hk, rfl⟩
  · exact Or.inr (fun q => h (by omega))
theorem nI_T {k : Nat} (h : k < 2 ^ 31) : (nI k).toInt = k := nI_toInt h
theorem isSB_1 {s : Nat} (h0 : 0 < s) (h1 : s < 2 ^ 20) : f_St_isSetOfBook (nI s) = some (nI 1) := by
  have hT := nI_T (k := s) (by omega)
  rw [s_isSetOfBook, if_pos (by omega)]
theorem isSB_0 {x : Int32} (h : ¬ (0 < x.toInt ∧ x.toInt < 2 ^ 20)) : f_St_isSetOfBook x = some (nI 0) := by rw [s_isSetOfBook, if_neg h]
theorem isSet_1 {s : Nat} (h1 : s < 2 ^ 20) : f_Mo_isSet (nI s) = some (nI 1) := by
  have hT := nI_T (k := s) (by omega)
  rw [s_isSet, if_pos (by omega)]
theorem isSet_0 {x : Int32} (h : ¬ (0 ≤ x.toInt ∧ x.toInt < 2 ^ 20)) : f_Mo_isSet x = some (nI 0) := by rw [s_isSet, if_neg h]
theorem isB_1 {S : zOb} {n k : Nat} (hn : n ≤ 7) (h : S.1 0 3 = nI n) (hk : k < n) : f_St_isBook S (nI k) = some (nI 1) := by
  have hT := nI_T (k := k) (by omega)
  rw [s_isBook hn h, if_pos (by omega)]
theorem isB_0 {S : zOb} {n : Nat} {x : Int32} (hn : n ≤ 7) (h : S.1 0 3 = nI n) (hx : ¬ (0 ≤ x.toInt ∧ x.toInt < n)) : f_St_isBook S x = some (nI 0) := by rw [s_isBook hn h, if_neg hx]
theorem isBM_1 {M : zOb} {n k : Nat} (hn : n ≤ 7) (h : M.1 1 0 = nI n) (hk : k < n) : f_Mo_isBook M (nI k) = some (nI 1) := by
  have hT := nI_T (k := k) (by omega)
  rw [s_isBookM hn h, if_pos (by omega)]
theorem isBM_0 {M : zOb} {n : Nat} {x : Int32} (hn : n ≤ 7) (h : M.1 1 0 = nI n) (hx : ¬ (0 ≤ x.toInt ∧ x.toInt < n)) : f_Mo_isBook M x = some (nI 0) := by rw [s_isBookM hn h, if_neg hx]
/-- nothing happens, on both sides -/
theorem act_same {c m : Option (Int32 × zOb)} {S M : zOb} {a : aS} (hw : wfA a) (hS : repS S a) (hM : repM (M.1 1) a) {r : Int32} (h1 : c = some (r, S)) (h2 : m = some (r, M)) : ∃ r S' f' a', c = some (r, S') ∧ m = some (r, zIr M 1 f') ∧ wfA a' ∧ repS S' a' ∧ repM f' a' :=
  ⟨r, S, M.1 1, a, h1, by rw [zIr_id]; exact h2, hw, hS, hM⟩
theorem a_book (x : Int32) : actOK (fun S => f_St_addBook S x) (fun M => f_Mo_adds M x) := by
  intro S M a hw hS hM
  dsimp only
  have h7 := hw.1.1
  have hn : S.1 0 3 = nI (a.1 0) := hS.1 0 (by decide)
  have hm : M.1 1 0 = nI (a.1 0) := hM.1 0 (by decide)
  rcases set_arg x with ⟨s, s0, s1, rfl⟩ | hx
  · have hT := nI_T (k := s) (by omega)
    by_cases hf : a.1 0 = 7
    · refine act_same hw hS hM (r := -3) ?_ ?_
      · simp only [f_St_addBook, isSB_1 s0 s1, Option.bind_some]
        rw [if_neg nI_1_0, hn, hf, if_neg (by decide)]
      · simp only [f_Mo_adds, isSet_1 s1, Option.bind_some, bnd]
        rw [if_neg nI_1_0, if_neg (nI_n0 s0 (by omega)), hm, hf, if_pos rfl]
    · generalize hna : a.1 0 = n at hf h7 hn hm
      refine ⟨nI n, zI (zI (zI (zI S 1 n (nI s)) 2 n (nI 0)) 3 n (nI n)) 0 3 (nI (n + 1)), upd (upd (upd (upd (M.1 1) (6 + n) (nI n)) (13 + n) (nI s)) (20 + n) (nI 0)) 0 (nI (n + 1)), (va_up a.1 0 (n + 1), va_up a.2.1 n s, va_up a.2.2.1 n 0, va_up a.2.2.2 n n), ?_, ?_, ?_, ?_, ?_⟩
      · simp only [f_St_addBook, isSB_1 s0 s1, Option.bind_some]
        rw [if_neg nI_1_0, hn, if_pos (nI_lt (by omega) (by decide)), if_pos (zin_nI (by omega) (by decide)), nI_clamp (by omega)]
        simp only [bnd]
        have e1 : (zI S 1 n (nI s)).1 0 3 = nI n := hn
        rw [e1, if_pos (zin_nI (by omega) (by decide)), nI_clamp (by omega)]
        have e2 : (zI (zI S 1 n (nI s)) 2 n (nI 0)).1 0 3 = nI n := hn
        rw [e2, if_pos (zin_nI (by omega) (by decide)), nI_clamp (by omega)]
        have e3 : (zI (zI (zI S 1 n (nI s)) 2 n (nI 0)) 3 n (nI n)).1 0 3 = nI n := hn
        rw [e3, nI_add]
        have e4 : (zI (zI (zI (zI S 1 n (nI s)) 2 n (nI 0)) 3 n (nI n)) 0 3 (nI (n + 1))).1 0 3 = nI (n + 1) := rfl
        rw [e4, pk_sub (by omega), Nat.add_sub_cancel]
      · simp only [f_Mo_adds, isSet_1 s1, Option.bind_some, bnd]
        rw [if_neg nI_1_0, if_neg (nI_n0 s0 (by omega)), hm, if_neg (fun q => hf ((nI_eq (by omega) (by decide)).mp q)), nI_add, if_pos (zin_nI (by omega) (by decide)), nI_add, if_pos (zin_nI (by omega) (by decide)), nI_add, if_pos (zin_nI (by omega) (by decide)), nI_clamp (by omega), nI_clamp (by omega), nI_clamp (by omega)]
        simp only [zI_r, zIr_rr, zIr_s]
        have e : upd (upd (upd (M.1 1) (6 + n) (nI n)) (13 + n) (nI s)) (20 + n) (nI 0) 0 = nI n := by
          rw [upd_n _ _ (by omega), upd_n _ _ (by omega), upd_n _ _ (by omega), hm]
        rw [e, nI_add]
      · obtain ⟨⟨w0, w1, w2, w3, w4, w5⟩, wi, wo, rk, wr⟩ := hw
        rw [hna] at wi wo wr
        refine ⟨⟨by show n + 1 ≤ 7; omega, w1, w2, w3, w4, w5⟩, ?_, ?_, (fun i => if i = n then 0 else rk i), ?_⟩
        · intro i hi
          have hi : i < n + 1 := hi
          by_cases hin : i = n
          · subst hin
            refine ⟨⟨?_, ?_⟩, ?_, ?_⟩
            · show 0 < va_up a.2.1 i s i; rw [vu_s]; exact s0
            · show va_up a.2.1 i s i < _; rw [vu_s]; exact s1
            · show va_up a.2.2.1 i 0 i < 2 ^ (i + 1); rw [vu_s]; exact Nat.two_pow_pos _
            · show va_up a.2.2.2 i i i < i + 1; rw [vu_s]; omega
          · obtain ⟨⟨q1, q2⟩, q3, q4⟩ := wi i (by omega)
            refine ⟨⟨?_, ?_⟩, ?_, ?_⟩
            · show 0 < va_up a.2.1 n s i; rw [vu_n _ _ hin]; exact q1
            · show va_up a.2.1 n s i < _; rw [vu_n _ _ hin]; exact q2
            · show va_up a.2.2.1 n 0 i < 2 ^ (n + 1); rw [vu_n _ _ hin, Nat.pow_succ]; omega
            · show va_up a.2.2.2 n n i < n + 1; rw [vu_n _ _ hin]; omega
        · intro i j hi hj e
          have hi : i < n + 1 := hi
          have hj : j < n + 1 := hj
          have e : va_up a.2.2.2 n n i = va_up a.2.2.2 n n j := e
          by_cases h1 : i = n
          · by_cases h2 : j = n
            · omega
            · rw [h1, vu_s, vu_n _ _ h2] at e
              have := (wi j (by omega)).2.2
              omega
          · by_cases h2 : j = n
            · rw [h2, vu_s, vu_n _ _ h1] at e
              have := (wi i (by omega)).2.2
              omega
            · rw [vu_n _ _ h1, vu_n _ _ h2] at e
              exact wo i j (by omega) (by omega) e
        · intro i j hi hj e
          have hi : i < n + 1 := hi
          have hj : j < n + 1 := hj
          have e : (va_up a.2.2.1 n 0 i).testBit j = true := e
          by_cases h1 : i = n
          · rw [h1, vu_s, Nat.zero_testBit] at e
            cases e
          · rw [vu_n _ _ h1] at e
            have hlt := (wi i (by omega)).2.1
            by_cases h2 : j = n
            · rw [h2, Nat.testBit_lt_two_pow hlt] at e
              cases e
            · show (if i = n then 0 else rk i) < (if j = n then 0 else rk j)
              rw [if_neg h1, if_neg h2]
              exact wr i j (by omega) (by omega) e
      · constructor
        · intro k hk
          match k, hk with
          | 0, _ => rfl
          | 1, _ => exact hS.1 1 (by decide)
          | 2, _ => exact hS.1 2 (by decide)
          | 3, _ => exact hS.1 3 (by decide)
          | 4, _ => exact hS.1 4 (by decide)
          | 5, _ => exact hS.1 5 (by decide)
          | k + 6, h => exact absurd h (by omega)
        · intro i hi
          have hi : i < n + 1 := hi
          by_cases h : i = n
          · subst h
            refine ⟨?_, ?_, ?_⟩
            · show upd (S.1 1) i (nI s) i = nI (va_up a.2.1 i s i); rw [upd_s, vu_s]
            · show upd (S.1 2) i (nI 0) i = nI (va_up a.2.2.1 i 0 i); rw [upd_s, vu_s]
            · show upd (S.1 3) i (nI i) i = nI (va_up a.2.2.2 i i i); rw [upd_s, vu_s]
          · have := hS.2 i (by omega)
            refine ⟨?_, ?_, ?_⟩
            · show upd (S.1 1) n (nI s) i = nI (va_up a.2.1 n s i); rw [upd_n _ _ h, vu_n _ _ h]; exact this.1
            · show upd (S.1 2) n (nI 0) i = nI (va_up a.2.2.1 n 0 i); rw [upd_n _ _ h, vu_n _ _ h]; exact this.2.1
            · show upd (S.1 3) n (nI n) i = nI (va_up a.2.2.2 n n i); rw [upd_n _ _ h, vu_n _ _ h]; exact this.2.2
      · constructor
        · intro k hk
          by_cases h0 : k = 0
          · subst h0; rfl
          · show _ = nI (va_up a.1 0 (n + 1) k)
            rw [upd_n _ _ h0, upd_n _ _ (by omega), upd_n _ _ (by omega), upd_n _ _ (by omega), vu_n _ _ h0]
            exact hM.1 k hk
        · intro i hi
          have hi : i < n + 1 := hi
          by_cases h : i = n
          · subst h
            refine ⟨?_, ?_, ?_⟩
            · show _ = nI (va_up a.2.1 i s i)
              rw [upd_n _ _ (by omega), upd_n _ _ (by omega), upd_s, vu_s]
            · show _ = nI (va_up a.2.2.1 i 0 i)
              rw [upd_n _ _ (by omega), upd_s, vu_s]
            · show _ = nI (va_up a.2.2.2 i i i)
              rw [upd_n _ _ (by omega), upd_n _ _ (by omega), upd_n _ _ (by omega), upd_s, vu_s]
          · have := hM.2 i (by omega)
            refine ⟨?_, ?_, ?_⟩
            · show _ = nI (va_up a.2.1 n s i)
              rw [upd_n _ _ (by omega), upd_n _ _ (by omega), upd_n _ _ (by omega), upd_n _ _ (by omega), vu_n _ _ h]; exact this.1
            · show _ = nI (va_up a.2.2.1 n 0 i)
              rw [upd_n _ _ (by omega), upd_n _ _ (by omega), upd_n _ _ (by omega), upd_n _ _ (by omega), vu_n _ _ h]; exact this.2.1
            · show _ = nI (va_up a.2.2.2 n n i)
              rw [upd_n _ _ (by omega), upd_n _ _ (by omega), upd_n _ _ (by omega), upd_n _ _ (by omega), vu_n _ _ h]; exact this.2.2
  · refine act_same hw hS hM (r := -1) ?_ ?_
    · simp only [f_St_addBook, isSB_0 hx, Option.bind_some]
      rw [if_pos trivial]
    · by_cases h0 : 0 ≤ x.toInt ∧ x.toInt < 2 ^ 20
      · have hx0 : x = nI 0 := i_eq.mpr (by show x.toInt = 0; omega)
        subst hx0
        simp only [f_Mo_adds, isSet_1 (s := 0) (by decide), Option.bind_some, f_Mo_adds_11]
        rw [if_neg nI_1_0, if_pos trivial]
      · simp only [f_Mo_adds, isSet_0 h0, Option.bind_some, f_Mo_adds_11]
        rw [if_pos trivial]
/-- one int of the state becomes v -/
theorem rep_int {S M : zOb} {a : aS} (hS : repS S a) (hM : repM (M.1 1) a) {k v : Nat} (hk0 : k ≠ 0) (hk : k < 6) : repS (zI S 0 (3 + k) (nI v)) (va_up a.1 k v, a.2) ∧ repM (upd (M.1 1) k (nI v)) (va_up a.1 k v, a.2) := by
  have e0 : (va_up a.1 k v) 0 = a.1 0 := vu_n _ _ (Ne.symm hk0)
  refine ⟨⟨fun j hj => ?_, fun i hi => ?_⟩, ⟨fun j hj => ?_, fun i hi => ?_⟩⟩
  · show upd (S.1 0) (3 + k) (nI v) (3 + j) = nI (va_up a.1 k v j)
    by_cases h : j = k
    · subst h; rw [upd_s, vu_s]
    · rw [upd_n _ _ (by omega), vu_n _ _ h]; exact hS.1 j hj
  · exact hS.2 i (by rw [← e0]; exact hi)
  · show upd (M.1 1) k (nI v) j = nI (va_up a.1 k v j)
    by_cases h : j = k
    · subst h; rw [upd_s, vu_s]
    · rw [upd_n _ _ h, vu_n _ _ h]; exact hM.1 j hj
  · have := hM.2 i (by rw [← e0]; exact hi)
    refine ⟨?_, ?_, ?_⟩
    · rw [upd_n _ _ (by omega)]; exact this.1
    · rw [upd_n _ _ (by omega)]; exact this.2.1
    · rw [upd_n _ _ (by omega)]; exact this.2.2
theorem wf_int {a : aS} (hw : wfA a) {k v : Nat} (hk0 : k ≠ 0) (h : ∀ b : Nat → Nat, b = va_up a.1 k v → b 0 ≤ 7 ∧ b 1 < 2 ^ 20 ∧ (1 ≤ b 2 ∧ b 2 ≤ 4) ∧ b 3 ≤ 20 ∧ b 4 ≤ 2 ∧ b 5 < 2 ^ 31) : wfA (va_up a.1 k v, a.2) := by
  have e0 : (va_up a.1 k v) 0 = a.1 0 := vu_n _ _ (Ne.symm hk0)
  obtain ⟨w1, w2, w3, rk, w4⟩ := hw
  refine ⟨h _ rfl, ?_, ?_, rk, ?_⟩
  · intro i hi
    show (0 < a.2.1 i ∧ a.2.1 i < 2 ^ 20) ∧ a.2.2.1 i < 2 ^ (va_up a.1 k v) 0 ∧ a.2.2.2 i < (va_up a.1 k v) 0
    have hi : i < (va_up a.1 k v) 0 := hi
    rw [e0] at hi ⊢
    exact w2 i hi
  · intro i j hi hj e
    have hi : i < (va_up a.1 k v) 0 := hi
    have hj : j < (va_up a.1 k v) 0 := hj
    rw [e0] at hi hj
    exact w3 i j hi hj e
  · intro i j hi hj e
    have hi : i < (va_up a.1 k v) 0 := hi
    have hj : j < (va_up a.1 k v) 0 := hj
    rw [e0] at hi hj
    exact w4 i j hi hj e
theorem up_id (f : Nat → Nat) {k v : Nat} (h : f k = v) : va_up f k v = f := by
  funext j
  unfold va_up
  split
  · next e => rw [e]; exact h.symm
  · rfl
theorem a_prior (x : Int32) : actOK (fun S => f_St_changePrior S x) (fun M => f_Mo_sets M x) := by
  intro S M a hw hS hM
  dsimp only
  have hs : S.1 0 4 = nI (a.1 1) := hS.1 1 (by decide)
  have hm : M.1 1 1 = nI (a.1 1) := hM.1 1 (by decide)
  have hb := hw.1.2.1
  rcases arg_in x (n := 2 ^ 20) (by decide) with ⟨v, hv, rfl⟩ | hx
  · have h1 : ¬ nI v < nI 0 := nI_pos (by omega)
    have h2 : nI v ≤ nI 1048575 := nI_le (by omega) (by decide)
    by_cases he : a.1 1 = v
    · refine act_same hw hS hM (r := -2) ?_ ?_
      · simp only [f_St_changePrior, bnd]
        rw [if_neg h1, if_pos h2, hs, he, if_pos rfl]
      · simp only [f_Mo_sets, isSet_1 hv, Option.bind_some, bnd]
        rw [if_neg nI_1_0, hm, he, if_pos rfl]
    · have hne : ¬ nI (a.1 1) = nI v := fun q => he ((nI_eq (by omega) (by omega)).mp q)
      obtain ⟨r1, r2⟩ := rep_int hS hM (k := 1) (v := v) (by decide) (by decide)
      refine ⟨nI (a.1 1), _, _, _, ?_, ?_, wf_int hw (by decide) (k := 1) (v := v) ?_, r1, r2⟩
      · simp only [f_St_changePrior, bnd]
        rw [if_neg h1, if_pos h2, hs, if_neg hne]
      · simp only [f_Mo_sets, isSet_1 hv, Option.bind_some, bnd]
        rw [if_neg nI_1_0, hm, if_neg hne]
        rfl
      · intro b hb
        subst hb
        obtain ⟨w0, w1, w2, w3, w4, w5⟩ := hw.1
        exact ⟨w0, hv, w2, w3, w4, w5⟩
  · refine act_same hw hS hM (r := -1) ?_ ?_
    · simp only [f_St_changePrior, f_St_changePrior_10]
      by_cases h1 : x < nI 0
      · rw [if_pos h1]
      · rw [if_neg h1, if_neg (fun q => hx ?_)]
        have h3 := i_le.mp q
        have h4 : ¬ x.toInt < (nI 0).toInt := fun g => h1 (i_lt.mpr g)
        have e0 : (nI 0).toInt = 0 := rfl
        have e1 : (nI 1048575).toInt = 1048575 := rfl
        omega
    · simp only [f_Mo_sets, isSet_0 hx, Option.bind_some]
      rw [if_pos trivial]
