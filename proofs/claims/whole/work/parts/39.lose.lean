/-! lose -/
theorem inj_surj : ∀ (n : Nat) (f : Nat → Nat), (∀ i, i < n → f i < n) → (∀ i j, i < n → j < n → f i = f j → i = j) → ∀ k, k < n → ∃ i, i < n ∧ f i = k := by
  intro n
  induction n with
  | zero => intro f _ _ k hk; omega
  | succ n ih =>
    intro f h1 h2 k hk
    by_cases hm : f n = n
    · by_cases hkn : k = n
      · exact ⟨n, by omega, by rw [hm, hkn]⟩
      · obtain ⟨i, hi, e⟩ := ih f (fun i hi => by
          have := h1 i (by omega)
          have hne : f i ≠ n := fun q => absurd (h2 i n (by omega) (by omega) (q.trans hm.symm)) (by omega)
          omega) (fun i j hi hj => h2 i j (by omega) (by omega)) k (by omega)
        exact ⟨i, by omega, e⟩
    · have hmn := h1 n (by omega)
      have hg := ih (fun i => if f i = n then f n else f i) (fun i hi => by
        have := h1 i (by omega)
        show (if f i = n then f n else f i) < n
        split <;> omega) (fun i j hi hj e => by
        have e : (if f i = n then f n else f i) = (if f j = n then f n else f j) := e
        by_cases a1 : f i = n
        · by_cases a2 : f j = n
          · exact h2 i j (by omega) (by omega) (a1.trans a2.symm)
          · rw [if_pos a1, if_neg a2] at e
            exact absurd (h2 n j (by omega) (by omega) e) (by omega)
        · by_cases a2 : f j = n
          · rw [if_neg a1, if_pos a2] at e
            exact absurd (h2 i n (by omega) (by omega) e) (by omega)
          · rw [if_neg a1, if_neg a2] at e
            exact h2 i j (by omega) (by omega) e)
      by_cases hkm : k = f n
      · exact ⟨n, by omega, hkm.symm⟩
      · by_cases hkn : k = n
        · obtain ⟨i, hi, e⟩ := hg (f n) (by omega)
          have e : (if f i = n then f n else f i) = f n := e
          by_cases a1 : f i = n
          · exact ⟨i, by omega, by rw [a1, hkn]⟩
          · rw [if_neg a1] at e
            exact absurd (h2 i n (by omega) (by omega) e) (by omega)
        · obtain ⟨i, hi, e⟩ := hg k (by omega)
          have e : (if f i = n then f n else f i) = k := e
          by_cases a1 : f i = n
          · rw [if_pos a1] at e; exact absurd e.symm hkm
          · rw [if_neg a1] at e; exact ⟨i, by omega, e⟩
/-- the reference's row, put together -/
def mk4 (h o w f : Nat → Int32) : Nat → Int32 := fun j => if j < 6 then h j else if j < 13 then o (j - 6) else if j < 20 then w (j - 13) else f (j - 20)
theorem mk4_id (r : Nat → Int32) : mk4 r (fun t => r (6 + t)) (fun t => r (13 + t)) (fun t => r (20 + t)) = r := by
  funext j
  unfold mk4
  by_cases h1 : j < 6
  · rw [if_pos h1]
  · by_cases h2 : j < 13
    · rw [if_neg h1, if_pos h2]; show r (6 + (j - 6)) = r j; rw [show 6 + (j - 6) = j by omega]
    · by_cases h3 : j < 20
      · rw [if_neg h1, if_neg h2, if_pos h3]; show r (13 + (j - 13)) = r j; rw [show 13 + (j - 13) = j by omega]
      · rw [if_neg h1, if_neg h2, if_neg h3]; show r (20 + (j - 20)) = r j; rw [show 20 + (j - 20) = j by omega]
theorem mk4_h (h o w f : Nat → Int32) {k : Nat} (hk : k < 6) : mk4 h o w f k = h k := if_pos hk
theorem mk4_o (h o w f : Nat → Int32) {i : Nat} (hi : i < 7) : mk4 h o w f (6 + i) = o i := by
  unfold mk4; rw [if_neg (by omega), if_pos (by omega), show 6 + i - 6 = i by omega]
theorem mk4_w (h o w f : Nat → Int32) {i : Nat} (hi : i < 7) : mk4 h o w f (13 + i) = w i := by
  unfold mk4; rw [if_neg (by omega), if_neg (by omega), if_pos (by omega), show 13 + i - 13 = i by omega]
theorem mk4_f (h o w f : Nat → Int32) (i : Nat) : mk4 h o w f (20 + i) = f i := by
  unfold mk4; rw [if_neg (by omega), if_neg (by omega), if_neg (by omega), show 20 + i - 20 = i by omega]
theorem upd_app (f : Nat → Int32) (k : Nat) (x : Int32) (j : Nat) : upd f k x j = if j = k then x else f j := rfl
theorem mk4_uh (h o w f : Nat → Int32) {k : Nat} (hk : k < 6) (x : Int32) : upd (mk4 h o w f) k x = mk4 (upd h k x) o w f := by
  funext j; simp only [upd_app, mk4]
  by_cases h1 : j = k
  · rw [if_pos h1, if_pos (by omega), if_pos h1]
  · rw [if_neg h1, if_neg h1]
theorem mk4_uo (h o w f : Nat → Int32) {i : Nat} (hi : i < 7) (x : Int32) : upd (mk4 h o w f) (6 + i) x = mk4 h (upd o i x) w f := by
  funext j; simp only [upd_app, mk4]
  by_cases h1 : j = 6 + i
  · rw [if_pos h1, if_neg (by omega), if_pos (by omega), if_pos (by omega)]
  · rw [if_neg h1]
    by_cases h2 : j < 6
    · rw [if_pos h2, if_pos h2]
    · by_cases h3 : j < 13
      · rw [if_neg h2, if_pos h3, if_neg h2, if_pos h3, if_neg (by omega)]
      · rw [if_neg h2, if_neg h3, if_neg h2, if_neg h3]
theorem mk4_uw (h o w f : Nat → Int32) {i : Nat} (hi : i < 7) (x : Int32) : upd (mk4 h o w f) (13 + i) x = mk4 h o (upd w i x) f := by
  funext j; simp only [upd_app, mk4]
  by_cases h1 : j = 13 + i
  · rw [if_pos h1, if_neg (by omega), if_neg (by omega), if_pos (by omega), if_pos (by omega)]
  · rw [if_neg h1]
    by_cases h2 : j < 6
    · rw [if_pos h2, if_pos h2]
    · by_cases h3 : j < 13
      · rw [if_neg h2, if_pos h3, if_neg h2, if_pos h3]
      · by_cases h4 : j < 20
        · rw [if_neg h2, if_neg h3, if_pos h4, if_neg h2, if_neg h3, if_pos h4, if_neg (by omega)]
        · rw [if_neg h2, if_neg h3, if_neg h4, if_neg h2, if_neg h3, if_neg h4]
theorem mk4_uf (h o w f : Nat → Int32) (i : Nat) (x : Int32) : upd (mk4 h o w f) (20 + i) x = mk4 h o w (upd f i x) := by
  funext j; simp only [upd_app, mk4]
  by_cases h1 : j = 20 + i
  · rw [if_pos h1, if_neg (by omega), if_neg (by omega), if_neg (by omega), if_pos (by omega)]
  · rw [if_neg h1]
    by_cases h2 : j < 6
    · rw [if_pos h2, if_pos h2]
    · by_cases h3 : j < 13
      · rw [if_neg h2, if_pos h3, if_neg h2, if_pos h3]
      · by_cases h4 : j < 20
        · rw [if_neg h2, if_neg h3, if_pos h4, if_neg h2, if_neg h3, if_pos h4]
        · rw [if_neg h2, if_neg h3, if_neg h4, if_neg h2, if_neg h3, if_neg h4, if_neg (by omega)]
/-- the place of a book in the order -/
theorem s_placeOf {N n k pl : Nat} (hN : 200 ≤ N) (hn : n ≤ 7) (S : zOb) (o : Nat → Nat) (h0 : S.1 0 3 = nI n) (hs : ∀ i, i < n → S.1 3 i = nI (o i)) (ho : ∀ i, i < n → o i < n) (hk : k < n) (hp : pl < n) (he : o pl = k) (hfirst : ∀ i, i < pl → o i ≠ k) : f_St_placeOf N S (nI k) = some (nI pl) := by
  unfold f_St_placeOf
  refine for_up (fun m (_ : Unit) x => f_St_placeOf_2 N S m (nI k) x) 0 pl (fun _ => ()) (some (nI pl)) ?_ ?_ (by omega) N (by omega)
  · intro m
    show f_St_placeOf_2 N S (m + 1) (nI k) (nI pl) = _
    rw [f_St_placeOf_2, h0, if_neg (nI_ge hp (by omega)), if_pos (zin_nI (by omega) (by decide)), nI_clamp (by omega), hs pl hp, he, if_pos rfl]
  · intro m i _ hi
    show f_St_placeOf_2 N S (m + 1) (nI k) (nI i) = f_St_placeOf_2 N S m (nI k) (nI (i + 1))
    have := ho i (by omega)
    rw [f_St_placeOf_2, h0, if_neg (nI_ge (by omega) (by omega)), if_pos (zin_nI (by omega) (by decide)), nI_clamp (by omega), hs i (by omega), if_neg (fun q => hfirst i hi ((nI_eq (by omega) (by omega)).mp q)), nI_add]
    rfl
theorem s_placeOfM {N n k pl : Nat} (hN : 200 ≤ N) (hn : n ≤ 7) (M : zOb) (o : Nat → Nat) (hs : ∀ i, i < n → M.1 1 (6 + i) = nI (o i)) (ho : ∀ i, i < n → o i < n) (hk : k < n) (hp : pl < n) (he : o pl = k) (hfirst : ∀ i, i < pl → o i ≠ k) : f_Mo_placeOf N M (nI k) = some (nI pl) := by
  unfold f_Mo_placeOf
  refine for_up (fun m (_ : Unit) x => f_Mo_placeOf_2 N M m (nI k) x) 0 pl (fun _ => ()) (some (nI pl)) ?_ ?_ (by omega) N (by omega)
  · intro m
    show f_Mo_placeOf_2 N M (m + 1) (nI k) (nI pl) = _
    rw [f_Mo_placeOf_2, nI_add, if_pos (zin_nI (by omega) (by decide)), nI_clamp (by omega), hs pl hp, he, if_pos rfl]
  · intro m i _ hi
    show f_Mo_placeOf_2 N M (m + 1) (nI k) (nI i) = f_Mo_placeOf_2 N M m (nI k) (nI (i + 1))
    have := ho i (by omega)
    rw [f_Mo_placeOf_2, nI_add, if_pos (zin_nI (by omega) (by decide)), nI_clamp (by omega), hs i (by omega), if_neg (fun q => hfirst i hi ((nI_eq (by omega) (by omega)).mp q)), nI_add]
    rfl
theorem s_closeGap {N n p j : Nat} (hN : 200 ≤ N) (hn : n ≤ 7) (S : zOb) (h0 : S.1 0 3 = nI n) (hj : j ≠ 0) (hp : p < n) : f_St_closeGap N S j (nI p) = some (zIr S j (mvu (S.1 j) p (n - 1))) := by
  have e : (if nI 0 < nI p then nI p else nI 0) = nI p := by
    by_cases h : p = 0
    · subst h; rfl
    · rw [if_pos (nI_lt (by omega) (by omega))]
  unfold f_St_closeGap
  rw [e]
  have h := for_up (fun m S x => f_St_closeGap_6 N j m S x) p (n - 1) (fun i => zIr S j (mvu (S.1 j) p i)) (some (zIr S j (mvu (S.1 j) p (n - 1)))) ?_ ?_ (by omega) N (by omega)
  · simp only [mvu_0, zIr_id] at h
    exact h
  · intro m
    show f_St_closeGap_6 N j (m + 1) _ (nI (n - 1)) = _
    rw [f_St_closeGap_6, zIr_at, if_neg (Ne.symm hj), h0, nI_add, if_pos (nI_le (by omega) (by omega))]
  · intro m i hi hin
    show f_St_closeGap_6 N j (m + 1) (zIr S j (mvu (S.1 j) p i)) (nI i) = f_St_closeGap_6 N j m (zIr S j (mvu (S.1 j) p (i + 1))) (nI (i + 1))
    rw [f_St_closeGap_6, zIr_at S j 0, if_neg (Ne.symm hj), h0, nI_add, if_neg (nI_ge (by omega) (by omega)), if_pos (zin_nI (by omega) (by decide)), if_pos (zin_nI (by omega) (by decide)), nI_clamp (by omega), nI_clamp (by omega)]
    simp only [bnd]
    rw [zI_r, zIr_rr, zIr_s, mvu_step _ hi]
/-- a set without one, those above it one less -/
def woI (x k : Int32) : Int32 := (x &&& ((nI 1 <<< (k &&& 31)) - nI 1)) ||| ((x >>> ((k + nI 1) &&& 31)) <<< (k &&& 31))
theorem s_withoutBit (x k : Int32) : f_St_withoutBit x k = some (woI x k) := rfl
theorem s_without (x k : Int32) : f_Mo_without x k = some (woI x k) := rfl
def wob (s k : Nat) : Nat := (s % 2 ^ k) ||| ((s / 2 ^ (k + 1)) <<< k)
theorem wob_bit (s k j : Nat) : (wob s k).testBit j = s.testBit (if j < k then j else j + 1) := by
  unfold wob
  rw [Nat.testBit_or, Nat.testBit_mod_two_pow, Nat.testBit_shiftLeft, Nat.testBit_div_two_pow]
  by_cases h : j < k
  · rw [if_pos h, decide_eq_true h, decide_eq_false (by omega)]; simp
  · rw [if_neg h, decide_eq_false h, decide_eq_true (by omega)]
    simp only [Bool.false_and, Bool.false_or, Bool.true_and]
    congr 1
    omega
theorem wob_lt {s k n : Nat} (hs : s < 2 ^ (n + 1)) (hk : k ≤ n) : wob s k < 2 ^ n := by
  refine Nat.lt_pow_two_of_testBit _ (fun j hj => ?_)
  rw [wob_bit, if_neg (by omega)]
  exact Nat.testBit_lt_two_pow (Nat.lt_of_lt_of_le hs (Nat.pow_le_pow_right (by decide) (by omega)))
theorem woI_nI {s k : Nat} (hs : s < 2 ^ 7) (hk : k < 7) : woI (nI s) (nI k) = nI (wob s k) := by
  have h2 : 2 ^ k ≤ 2 ^ 6 := Nat.pow_le_pow_right (by decide) (by omega)
  have hp : 0 < 2 ^ k := Nat.two_pow_pos k
  have hd : s / 2 ^ (k + 1) * 2 ^ k ≤ s := by
    rw [Nat.pow_succ, ← Nat.div_div_eq_div_mul]
    calc s / 2 ^ k / 2 * 2 ^ k ≤ s / 2 ^ k * 2 ^ k := Nat.mul_le_mul_right _ (Nat.div_le_self _ _)
      _ ≤ s := Nat.div_mul_le_self _ _
  unfold woI wob
  rw [b_one (by omega), pk_sub (by omega), nI_add, b_shr (by omega) (by omega), b_shl (by omega) (by omega), Nat.shiftLeft_eq]
  rw [pk_andN (by omega) k (by rw [pk_tn (by omega)]), b_or]
