/-! move -/
theorem for_dn {σ ρ : Type} (F : Nat → σ → Int32 → Option ρ) (e t : Nat) (g : Nat → σ) (x : Option ρ) (h1 : ∀ n, F (n + 1) (g e) (nI e) = x) (h2 : ∀ n i, e ≤ i → i < t → F (n + 1) (g (i + 1)) (nI (i + 1)) = F n (g i) (nI i)) (he : e ≤ t) : ∀ n, t < n + e → F n (g t) (nI t) = x := by
  have key : ∀ k n, e + k ≤ t → k < n → F n (g (e + k)) (nI (e + k)) = x := by
    intro k
    induction k with
    | zero =>
      intro n _ hn
      obtain ⟨n, rfl⟩ : ∃ m, n = m + 1 := ⟨n - 1, by omega⟩
      exact h1 n
    | succ k ih =>
      intro n hk hn
      obtain ⟨n, rfl⟩ : ∃ m, n = m + 1 := ⟨n - 1, by omega⟩
      rw [← Nat.add_assoc, h2 n (e + k) (by omega) (by omega)]
      exact ih n (by omega) (by omega)
  intro n hn
  have := key (t - e) n (by omega) (by omega)
  rw [show e + (t - e) = t by omega] at this
  exact this
/-- where the place i takes its book from when p's comes to q -/
def mvs (p q i : Nat) : Nat := if i = q then p else if p ≤ i ∧ i < q then i + 1 else if q < i ∧ i ≤ p then i - 1 else i
theorem mvs_inj {p q i j : Nat} (h : mvs p q i = mvs p q j) : i = j := by
  unfold mvs at h
  split at h <;> split at h <;> (try split at h) <;> (try split at h) <;> (try split at h) <;> (try split at h) <;> omega
theorem mvs_lt {p q i n : Nat} (hp : p < n) (hq : q < n) (hi : i < n) : mvs p q i < n := by
  unfold mvs
  split
  · omega
  · split
    · omega
    · split <;> omega
/-- the part of the way: places from p on have moved, up to i -/
def mvu (f : Nat → Int32) (p i : Nat) : Nat → Int32 := fun j => if p ≤ j ∧ j < i then f (j + 1) else f j
def mvd (f : Nat → Int32) (p i : Nat) : Nat → Int32 := fun j => if i < j ∧ j ≤ p then f (j - 1) else f j
theorem mvu_step (f : Nat → Int32) {p i : Nat} (h : p ≤ i) : upd (mvu f p i) i (mvu f p i (i + 1)) = mvu f p (i + 1) := by
  funext j
  unfold upd mvu
  by_cases h1 : j = i
  · subst h1; rw [if_pos rfl, if_neg (by omega), if_pos (by omega)]
  · by_cases h2 : p ≤ j ∧ j < i
    · rw [if_neg h1, if_pos h2, if_pos (by omega)]
    · rw [if_neg h1, if_neg h2, if_neg (by omega)]
theorem mvd_step (f : Nat → Int32) {p i : Nat} (h : i + 1 ≤ p) : upd (mvd f p (i + 1)) (i + 1) (mvd f p (i + 1) i) = mvd f p i := by
  funext j
  unfold upd mvd
  by_cases h1 : j = i + 1
  · subst h1; rw [if_pos rfl, if_neg (by omega), if_pos (by omega)]; rfl
  · by_cases h2 : i + 1 < j ∧ j ≤ p
    · rw [if_neg h1, if_pos h2, if_pos (by omega)]
    · rw [if_neg h1, if_neg h2, if_neg (by omega)]
theorem mvu_0 (f : Nat → Int32) (p : Nat) : mvu f p p = f := by
  funext j; unfold mvu; rw [if_neg (by omega)]
theorem mvd_0 (f : Nat → Int32) (p : Nat) : mvd f p p = f := by
  funext j; unfold mvd; rw [if_neg (by omega)]
theorem mvu_end (f : Nat → Int32) {p q : Nat} (h : p < q) : upd (mvu f p q) q (f p) = fun j => f (mvs p q j) := by
  funext j
  unfold upd mvu mvs
  by_cases h1 : j = q
  · rw [if_pos h1, if_pos h1]
  · by_cases h2 : p ≤ j ∧ j < q
    · rw [if_neg h1, if_pos h2, if_neg h1, if_pos h2]
    · rw [if_neg h1, if_neg h2, if_neg h1, if_neg h2, if_neg (by omega)]
theorem mvd_end (f : Nat → Int32) {p q : Nat} (h : q < p) : upd (mvd f p q) q (f p) = fun j => f (mvs p q j) := by
  funext j
  unfold upd mvd mvs
  by_cases h1 : j = q
  · rw [if_pos h1, if_pos h1]
  · by_cases h2 : q < j ∧ j ≤ p
    · rw [if_neg h1, if_pos h2, if_neg h1, if_neg (by omega), if_pos h2]
    · rw [if_neg h1, if_neg h2, if_neg h1, if_neg (by omega), if_neg h2]
theorem s_move67 {N : Nat} (hN : 200 ≤ N) (S : zOb) {p q : Nat} (hp : p < 7) (hq : q ≤ p) (v : Int32) : f_St_moveBook_67 N N S (nI q) v (nI p) = some (v, zIr S 3 (upd (mvd (S.1 3) p q) q v)) := by
  have h := for_dn (fun n S x => f_St_moveBook_67 N n S (nI q) v x) q p (fun i => zIr S 3 (mvd (S.1 3) p i)) (some (v, zIr S 3 (upd (mvd (S.1 3) p q) q v))) ?_ ?_ hq N (by omega)
  · simp only [mvd_0, zIr_id] at h
    exact h
  · intro n
    show f_St_moveBook_67 N (n + 1) (zIr S 3 (mvd (S.1 3) p q)) (nI q) v (nI q) = _
    rw [f_St_moveBook_67, if_pos (nI_le (Nat.le_refl q) (by omega)), if_pos (zin_nI (by omega) (by decide)), nI_clamp (by omega)]
    simp only [bnd]
    rw [zI_r, zIr_rr, zIr_s]
  · intro n i hi hip
    show f_St_moveBook_67 N (n + 1) (zIr S 3 (mvd (S.1 3) p (i + 1))) (nI q) v (nI (i + 1)) = f_St_moveBook_67 N n (zIr S 3 (mvd (S.1 3) p i)) (nI q) v (nI i)
    rw [f_St_moveBook_67, if_neg (nI_ge (by omega) (by omega)), pk_sub (by omega), Nat.add_sub_cancel, if_pos (zin_nI (by omega) (by decide)), if_pos (zin_nI (by omega) (by decide)), nI_clamp (by omega), nI_clamp (by omega), pk_m1]
    simp only [bnd]
    rw [zI_r, zIr_rr, zIr_s, mvd_step _ (by omega)]
theorem for_up {σ ρ : Type} (F : Nat → σ → Int32 → Option ρ) (b e : Nat) (g : Nat → σ) (x : Option ρ) (h1 : ∀ n, F (n + 1) (g e) (nI e) = x) (h2 : ∀ n i, b ≤ i → i < e → F (n + 1) (g i) (nI i) = F n (g (i + 1)) (nI (i + 1))) (hb : b ≤ e) : ∀ n, e < n + b → F n (g b) (nI b) = x := by
  intro n hn
  obtain ⟨s', hp, he⟩ := for_ex F e (fun i s => b ≤ i ∧ s = g i) (fun _ => x) (fun n s hp => by rw [hp.2]; exact h1 n) (fun n s i hi hp => ⟨g (i + 1), ⟨by omega, rfl⟩, by rw [hp.2]; exact h2 n i hp.1 hi⟩) (e - b) b n (g b) (by omega) (by omega) ⟨Nat.le_refl b, rfl⟩
  exact he
theorem s_move36 {N : Nat} (hN : 200 ≤ N) (S : zOb) {p q : Nat} (hq : q < 7) (hp : p ≤ q) (v : Int32) : f_St_moveBook_36 N N S (nI p) (nI q) v (nI p) = f_St_moveBook_67 N N (zIr S 3 (mvu (S.1 3) p q)) (nI q) v (nI p) := by
  have h := for_up (fun n S x => f_St_moveBook_36 N n S (nI p) (nI q) v x) p q (fun i => zIr S 3 (mvu (S.1 3) p i)) (f_St_moveBook_67 N N (zIr S 3 (mvu (S.1 3) p q)) (nI q) v (nI p)) ?_ ?_ hp N (by omega)
  · simp only [mvu_0, zIr_id] at h
    exact h
  · intro n
    show f_St_moveBook_36 N (n + 1) _ (nI p) (nI q) v (nI q) = _
    rw [f_St_moveBook_36, if_pos (nI_le (Nat.le_refl q) (by omega))]
  · intro n i hi hiq
    show f_St_moveBook_36 N (n + 1) (zIr S 3 (mvu (S.1 3) p i)) (nI p) (nI q) v (nI i) = f_St_moveBook_36 N n (zIr S 3 (mvu (S.1 3) p (i + 1))) (nI p) (nI q) v (nI (i + 1))
    rw [f_St_moveBook_36, if_neg (nI_ge (by omega) (by omega)), nI_add, if_pos (zin_nI (by omega) (by decide)), if_pos (zin_nI (by omega) (by decide)), nI_clamp (by omega), nI_clamp (by omega)]
    simp only [bnd]
    rw [zI_r, zIr_rr, zIr_s, mvu_step _ hi]
theorem s_moveBook {N : Nat} (hN : 200 ≤ N) (S : zOb) {p q n : Nat} (hn : n ≤ 7) (h0 : S.1 0 3 = nI n) (hp : p < n) (hq : q < n) (hne : p ≠ q) : f_St_moveBook N S (nI p) (nI q) = some (S.1 3 p, zIr S 3 (fun j => S.1 3 (mvs p q j))) := by
  simp only [f_St_moveBook, isB_1 hn h0 hp, isB_1 hn h0 hq, Option.bind_some]
  rw [if_neg nI_1_0, if_neg nI_1_0, if_neg (fun e => hne ((nI_eq (by omega) (by omega)).mp e)), if_pos (zin_nI (by omega) (by decide)), nI_clamp (by omega)]
  simp only [bnd]
  rcases Nat.lt_or_gt_of_ne hne with h | h
  · rw [s_move36 hN S (by omega) (by omega)]
    obtain ⟨m, hm⟩ : ∃ m, N = m + 1 := ⟨N - 1, by omega⟩
    rw [hm, f_St_moveBook_67, if_pos (nI_le (by omega) (by omega)), if_pos (zin_nI (by omega) (by decide)), nI_clamp (by omega)]
    simp only [bnd]
    rw [zI_r, zIr_rr, zIr_s, mvu_end _ h]
  · obtain ⟨m, hm⟩ : ∃ m, N = m + 1 := ⟨N - 1, by omega⟩
    have e : f_St_moveBook_36 N N S (nI p) (nI q) (S.1 3 p) (nI p) = f_St_moveBook_67 N N S (nI q) (S.1 3 p) (nI p) := by
      conv => lhs; rw [hm]
      rw [f_St_moveBook_36, if_pos (nI_le (by omega) (by omega)), ← hm]
    rw [e, s_move67 hN S (by omega) (by omega), mvd_end _ h]
/-- the reference's row with another order in it -/
def put6 (r g : Nat → Int32) : Nat → Int32 := fun j => if 6 ≤ j ∧ j < 13 then g (j - 6) else r j
theorem put6_in (r g : Nat → Int32) {i : Nat} (h : i < 7) : put6 r g (6 + i) = g i := by
  unfold put6; rw [if_pos (by omega), show 6 + i - 6 = i by omega]
theorem put6_out (r g : Nat → Int32) {j : Nat} (h : j < 6 ∨ 13 ≤ j) : put6 r g j = r j := by
  unfold put6; rw [if_neg (by omega)]
theorem put6_id (r : Nat → Int32) : put6 r (fun t => r (6 + t)) = r := by
  funext j; unfold put6; split
  · show r (6 + (j - 6)) = r j
    rw [show 6 + (j - 6) = j by omega]
  · rfl
theorem put6_upd (r g : Nat → Int32) {i : Nat} (h : i < 7) (x : Int32) : upd (put6 r g) (6 + i) x = put6 r (upd g i x) := by
  funext j
  unfold upd put6
  by_cases h1 : j = 6 + i
  · rw [if_pos h1, if_pos (by omega)]
    show x = if j - 6 = i then x else g (j - 6)
    rw [if_pos (by omega)]
  · by_cases h2 : 6 ≤ j ∧ j < 13
    · rw [if_neg h1, if_pos h2, if_pos h2]
      show g (j - 6) = if j - 6 = i then x else g (j - 6)
      rw [if_neg (by omega)]
    · rw [if_neg h1, if_neg h2, if_neg h2]
theorem s_shifts {N : Nat} (hN : 200 ≤ N) (M : zOb) {p q n : Nat} (hn : n ≤ 7) (h0 : M.1 1 0 = nI n) (hp : p < n) (hq : q < n) (hne : p ≠ q) : f_Mo_shifts N M (nI p) (nI q) = some (M.1 1 (6 + p), zIr M 1 (put6 (M.1 1) (fun j => M.1 1 (6 + mvs p q j)))) := by
  have b : ∀ k, k < n → f_Mo_in (nI k).toInt64 (0 : Int64) ((nI n - nI 1).toInt64) = some (nI 1) := by
    intro k hk
    have e0 : (0 : Int64).toInt = 0 := by decide
    rw [s_inI, n1_toInt (by omega), e0, nI_T (by omega), if_pos (by omega)]
  simp only [f_Mo_shifts, h0, b p hp, b q hq, Option.bind_some]
  rw [if_neg nI_1_0, if_neg nI_1_0, if_neg (fun e => hne ((nI_eq (by omega) (by omega)).mp e)), nI_add, if_pos (zin_nI (by omega) (by decide)), nI_clamp (by omega)]
  simp only [bnd, f_Mo_shifts_66]
  rcases Nat.lt_or_gt_of_ne hne with h | h
  · rw [if_neg (nI_ge h (by omega))]
    have h := for_up (fun n S x => f_Mo_shifts_71 N n S (nI q) (M.1 1 (6 + p)) (nI 1) x) p q (fun i => zIr M 1 (put6 (M.1 1) (mvu (fun t => M.1 1 (6 + t)) p i))) (some (M.1 1 (6 + p), zIr M 1 (put6 (M.1 1) (fun j => M.1 1 (6 + mvs p q j))))) ?_ ?_ (by omega) N (by omega)
    · simp only [mvu_0, put6_id, zIr_id] at h
      exact h
    · intro n
      show f_Mo_shifts_71 N (n + 1) _ (nI q) _ (nI 1) (nI q) = _
      rw [f_Mo_shifts_71, if_pos rfl, nI_add, if_pos (zin_nI (by omega) (by decide)), nI_clamp (by omega)]
      simp only [bnd]
      rw [zI_r, zIr_rr, zIr_s, put6_upd _ _ (by omega), mvu_end (fun t => M.1 1 (6 + t)) h]
    · intro n i hi hiq
      show f_Mo_shifts_71 N (n + 1) (zIr M 1 (put6 (M.1 1) (mvu (fun t => M.1 1 (6 + t)) p i))) (nI q) _ (nI 1) (nI i) = f_Mo_shifts_71 N n (zIr M 1 (put6 (M.1 1) (mvu (fun t => M.1 1 (6 + t)) p (i + 1)))) (nI q) _ (nI 1) (nI (i + 1))
      rw [f_Mo_shifts_71, if_neg (fun e => absurd ((nI_eq (by omega) (by omega)).mp e) (by omega)), nI_add, nI_add, if_pos (zin_nI (by omega) (by decide)), if_pos (zin_nI (by omega) (by decide)), nI_clamp (by omega), nI_clamp (by omega)]
      simp only [bnd]
      rw [nI_add, zI_r, zIr_rr, zIr_s, Nat.add_assoc, put6_in _ _ (by omega), put6_upd _ _ (by omega), mvu_step _ hi]
  · rw [if_pos (nI_le (by omega) (by omega))]
    have h := for_dn (fun n S x => f_Mo_shifts_71 N n S (nI q) (M.1 1 (6 + p)) (-1) x) q p (fun i => zIr M 1 (put6 (M.1 1) (mvd (fun t => M.1 1 (6 + t)) p i))) (some (M.1 1 (6 + p), zIr M 1 (put6 (M.1 1) (fun j => M.1 1 (6 + mvs p q j))))) ?_ ?_ (by omega) N (by omega)
    · simp only [mvd_0, put6_id, zIr_id] at h
      exact h
    · intro n
      show f_Mo_shifts_71 N (n + 1) _ (nI q) _ (-1) (nI q) = _
      rw [f_Mo_shifts_71, if_pos rfl, nI_add, if_pos (zin_nI (by omega) (by decide)), nI_clamp (by omega)]
      simp only [bnd]
      rw [zI_r, zIr_rr, zIr_s, put6_upd _ _ (by omega), mvd_end (fun t => M.1 1 (6 + t)) h]
    · intro n i hi hiq
      show f_Mo_shifts_71 N (n + 1) (zIr M 1 (put6 (M.1 1) (mvd (fun t => M.1 1 (6 + t)) p (i + 1)))) (nI q) _ (-1) (nI (i + 1)) = f_Mo_shifts_71 N n (zIr M 1 (put6 (M.1 1) (mvd (fun t => M.1 1 (6 + t)) p i))) (nI q) _ (-1) (nI i)
      rw [f_Mo_shifts_71, if_neg (fun e => absurd ((nI_eq (by omega) (by omega)).mp e) (by omega)), nI_add, ← Nat.add_assoc, pk_m1, if_pos (zin_nI (by omega) (by decide)), if_pos (zin_nI (by omega) (by decide)), nI_clamp (by omega), nI_clamp (by omega)]
      simp only [bnd]
      rw [pk_m1, zI_r, zIr_rr, zIr_s, put6_in _ _ (by omega), Nat.add_assoc, put6_upd _ _ (by omega), mvd_step _ (by omega)]
theorem a_move {N : Nat} (hN : 200 ≤ N) (x y : Int32) : actOK (fun S => f_St_moveBook N S x y) (fun M => f_Mo_shifts N M x y) := by
  intro S M a hw hS hM
  dsimp only
  have h7 := hw.1.1
  have hn : S.1 0 3 = nI (a.1 0) := hS.1 0 (by decide)
  have hm : M.1 1 0 = nI (a.1 0) := hM.1 0 (by decide)
  have e0 : (0 : Int64).toInt = 0 := by decide
  have bo : ∀ x : Int32, ¬ (0 ≤ x.toInt ∧ x.toInt < a.1 0) → f_Mo_in x.toInt64 (0 : Int64) ((nI (a.1 0) - nI 1).toInt64) = some (nI 0) := by
    intro x hx
    rw [s_inI, n1_toInt (by omega), e0, if_neg (by omega)]
  have bi : ∀ k, k < a.1 0 → f_Mo_in (nI k).toInt64 (0 : Int64) ((nI (a.1 0) - nI 1).toInt64) = some (nI 1) := by
    intro k hk
    rw [s_inI, n1_toInt (by omega), e0, nI_T (by omega), if_pos (by omega)]
  rcases arg_in x (n := a.1 0) (by omega) with ⟨p, hp, rfl⟩ | hx
  · rcases arg_in y (n := a.1 0) (by omega) with ⟨q, hq, rfl⟩ | hy
    · by_cases hpq : p = q
      · subst hpq
        refine act_same hw hS hM (r := -2) ?_ ?_
        · simp only [f_St_moveBook, isB_1 h7 hn hp, Option.bind_some]
          rw [if_neg nI_1_0, if_neg nI_1_0, if_pos trivial]
        · simp only [f_Mo_shifts, hm, bi p hp, Option.bind_some]
          rw [if_neg nI_1_0, if_neg nI_1_0, if_pos trivial]
      · refine ⟨_, _, put6 (M.1 1) (fun j => M.1 1 (6 + mvs p q j)), (a.1, a.2.1, a.2.2.1, fun j => a.2.2.2 (mvs p q j)), s_moveBook hN S h7 hn hp hq hpq, ?_, ?_, ?_, ?_⟩
        · rw [s_shifts hN M h7 hm hp hq hpq, (hM.2 p hp).2.2, (hS.2 p hp).2.2]
        · obtain ⟨w1, w2, w3, w4⟩ := hw
          refine ⟨w1, fun i hi => ?_, fun i j hi hj e => ?_, w4⟩
          · obtain ⟨t1, t2, t3⟩ := w2 i hi
            exact ⟨t1, t2, (w2 _ (mvs_lt hp hq hi)).2.2⟩
          · exact mvs_inj (w3 _ _ (mvs_lt hp hq hi) (mvs_lt hp hq hj) e)
        · refine ⟨fun k hk => hS.1 k hk, fun i hi => ?_⟩
          obtain ⟨t1, t2, t3⟩ := hS.2 i hi
          exact ⟨t1, t2, (hS.2 _ (mvs_lt hp hq hi)).2.2⟩
        · refine ⟨fun k hk => ?_, fun i hi => ?_⟩
          · rw [put6_out _ _ (by omega)]; exact hM.1 k hk
          · have hi : i < a.1 0 := hi
            obtain ⟨t1, t2, t3⟩ := hM.2 i hi
            refine ⟨by rw [put6_out _ _ (by omega)]; exact t1, by rw [put6_out _ _ (by omega)]; exact t2, ?_⟩
            rw [put6_in _ _ (by omega)]
            exact (hM.2 _ (mvs_lt hp hq hi)).2.2
    · refine act_same hw hS hM (r := -1) ?_ ?_
      · simp only [f_St_moveBook, isB_1 h7 hn hp, isB_0 h7 hn hy, Option.bind_some, f_St_moveBook_16]
        rw [if_neg nI_1_0, if_pos trivial]
      · simp only [f_Mo_shifts, hm, bi p hp, bo y hy, Option.bind_some, f_Mo_shifts_36]
        rw [if_neg nI_1_0, if_pos trivial]
  · refine act_same hw hS hM (r := -1) ?_ ?_
    · simp only [f_St_moveBook, isB_0 h7 hn hx, Option.bind_some, f_St_moveBook_16]
      rw [if_pos trivial]
    · simp only [f_Mo_shifts, hm, bo x hx, Option.bind_some, f_Mo_shifts_36]
      rw [if_pos trivial]
