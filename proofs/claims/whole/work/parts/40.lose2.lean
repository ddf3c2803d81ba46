/-! lose, on both sides -/
/-- a book's number when k is lost -/
def dcI (k x : Int32) : Int32 := if x ≤ k then x else x - nI 1
/-- the first i places done -/
def til (g f : Nat → Int32) (i : Nat) : Nat → Int32 := fun j => if j < i then g j else f j
theorem til_0 (g f : Nat → Int32) : til g f 0 = f := by funext j; unfold til; rw [if_neg (by omega)]
theorem til_s (g f : Nat → Int32) (i : Nat) : upd (til g f i) i (g i) = til g f (i + 1) := by
  funext j; unfold upd til
  by_cases h1 : j = i
  · subst h1; rw [if_pos rfl, if_pos (by omega)]
  · by_cases h2 : j < i
    · rw [if_neg h1, if_pos h2, if_pos (by omega)]
    · rw [if_neg h1, if_neg h2, if_neg (by omega)]
theorem til_at (g f : Nat → Int32) (i : Nat) : til g f i i = f i := by unfold til; rw [if_neg (by omega)]
theorem til_in (g f : Nat → Int32) {i j : Nat} (h : j < i) : til g f i j = g j := if_pos h
theorem upd_same (f : Nat → Int32) {i : Nat} {x : Int32} (h : f i = x) : upd f i x = f := by
  funext j; unfold upd; split
  · next e => rw [e]; exact h.symm
  · rfl
theorem s_rm53 {N m : Nat} (hN : 200 ≤ N) (hm : m < 7) (S : zOb) (k : Int32) (h0 : S.1 0 3 = nI m) : f_St_removeBook_53 N N S k (nI 0) = some (nI m, zIr (zIr S 2 (til (fun i => woI (S.1 2 i) k) (S.1 2) m)) 3 (til (fun i => dcI k (S.1 3 i)) (S.1 3) m)) := by
  have h := for_up (fun n S x => f_St_removeBook_53 N n S k x) 0 m (fun i => zIr (zIr S 2 (til (fun i => woI (S.1 2 i) k) (S.1 2) i)) 3 (til (fun i => dcI k (S.1 3 i)) (S.1 3) i)) (some (nI m, zIr (zIr S 2 (til (fun i => woI (S.1 2 i) k) (S.1 2) m)) 3 (til (fun i => dcI k (S.1 3 i)) (S.1 3) m))) ?_ ?_ (by omega) N (by omega)
  · simp only [til_0, zIr_id] at h
    exact h
  · intro n
    show f_St_removeBook_53 N (n + 1) _ k (nI m) = _
    have e : (zIr (zIr S 2 (til (fun i => woI (S.1 2 i) k) (S.1 2) m)) 3 (til (fun i => dcI k (S.1 3 i)) (S.1 3) m)).1 0 3 = nI m := h0
    rw [f_St_removeBook_53, e, if_pos (nI_le (Nat.le_refl m) (by omega))]
  · intro n i _ hi
    show f_St_removeBook_53 N (n + 1) (zIr (zIr S 2 (til (fun i => woI (S.1 2 i) k) (S.1 2) i)) 3 (til (fun i => dcI k (S.1 3 i)) (S.1 3) i)) k (nI i) = f_St_removeBook_53 N n (zIr (zIr S 2 (til (fun i => woI (S.1 2 i) k) (S.1 2) (i + 1))) 3 (til (fun i => dcI k (S.1 3 i)) (S.1 3) (i + 1))) k (nI (i + 1))
    generalize hX : zIr (zIr S 2 (til (fun i => woI (S.1 2 i) k) (S.1 2) i)) 3 (til (fun i => dcI k (S.1 3 i)) (S.1 3) i) = X
    have e0 : X.1 0 3 = nI m := by rw [← hX]; exact h0
    have e2 : X.1 2 i = S.1 2 i := by
      rw [← hX]
      show til (fun i => woI (S.1 2 i) k) (S.1 2) i i = _
      exact til_at _ _ i
    have z : zin (nI i) 7 := zin_nI (by omega) (by decide)
    have c : (nI i).toNatClampNeg = i := nI_clamp (by omega)
    rw [f_St_removeBook_53, e0, if_neg (nI_ge hi (by omega))]
    simp only [if_pos z, c, e2, s_withoutBit, Option.bind_some, bnd, f_St_removeBook_97, nI_add]
    have e3 : (zI X 2 i (woI (S.1 2 i) k)).1 3 i = S.1 3 i := by
      rw [← hX]
      show til (fun i => dcI k (S.1 3 i)) (S.1 3) i i = _
      exact til_at _ _ i
    have eX : zI X 2 i (woI (S.1 2 i) k) = zIr (zIr S 2 (til (fun i => woI (S.1 2 i) k) (S.1 2) (i + 1))) 3 (til (fun i => dcI k (S.1 3 i)) (S.1 3) i) := by
      rw [← hX, zI_r, zIr_comm _ (by decide), zIr_rr, zIr_at, if_neg (by decide), zIr_at, if_pos rfl, til_s]
    rw [e3]
    by_cases hk : S.1 3 i ≤ k
    · rw [if_pos hk, eX]
      congr 2
      have ed : dcI k (S.1 3 i) = S.1 3 i := if_pos hk
      rw [← til_s, ed, upd_same _ (til_at _ _ i)]
    · rw [if_neg hk, eX, zI_r, zIr_rr, zIr_s]
      congr 2
      have ed : dcI k (S.1 3 i) = S.1 3 i - nI 1 := if_neg hk
      rw [← til_s, ed]
theorem s_ls161 {N m : Nat} (hN : 200 ≤ N) (hm : m < 7) (M : zOb) (k : Int32) (h o w f : Nat → Int32) : f_Mo_loses_161 N N (zIr M 1 (mk4 h o w f)) k (nI m) (nI 0) = some (nI m, zIr M 1 (mk4 h (til (fun i => dcI k (o i)) o m) w (til (fun i => woI (f i) k) f m))) := by
  have hh := for_up (fun n S x => f_Mo_loses_161 N n S k (nI m) x) 0 m (fun i => zIr M 1 (mk4 h (til (fun i => dcI k (o i)) o i) w (til (fun i => woI (f i) k) f i))) (some (nI m, zIr M 1 (mk4 h (til (fun i => dcI k (o i)) o m) w (til (fun i => woI (f i) k) f m)))) ?_ ?_ (by omega) N (by omega)
  · simp only [til_0] at hh
    exact hh
  · intro n
    show f_Mo_loses_161 N (n + 1) _ k (nI m) (nI m) = _
    rw [f_Mo_loses_161, if_pos (nI_le (Nat.le_refl m) (by omega))]
  · intro n i _ hi
    show f_Mo_loses_161 N (n + 1) (zIr M 1 (mk4 h (til (fun i => dcI k (o i)) o i) w (til (fun i => woI (f i) k) f i))) k (nI m) (nI i) = f_Mo_loses_161 N n (zIr M 1 (mk4 h (til (fun i => dcI k (o i)) o (i + 1)) w (til (fun i => woI (f i) k) f (i + 1)))) k (nI m) (nI (i + 1))
    have z6 : zin (nI (6 + i)) 27 := zin_nI (by omega) (by decide)
    have z20 : zin (nI (20 + i)) 27 := zin_nI (by omega) (by decide)
    have c6 : (nI (6 + i)).toNatClampNeg = 6 + i := nI_clamp (by omega)
    have c20 : (nI (20 + i)).toNatClampNeg = 20 + i := nI_clamp (by omega)
    have key : ∀ s0 : Int32, o i - s0 = dcI k (o i) → f_Mo_loses_197 N (f_Mo_loses_161 N n) (zIr M 1 (mk4 h (til (fun i => dcI k (o i)) o i) w (til (fun i => woI (f i) k) f i))) k (nI m) (nI i) s0 (o i) (nI (6 + i)) = f_Mo_loses_161 N n (zIr M 1 (mk4 h (til (fun i => dcI k (o i)) o (i + 1)) w (til (fun i => woI (f i) k) f (i + 1)))) k (nI m) (nI (i + 1)) := by
      intro s0 hs
      simp only [f_Mo_loses_197, if_pos z6, c6, nI_add, if_pos z20, c20, bnd, zI_r, zIr_rr, zIr_s, hs, s_without, Option.bind_some]
      rw [mk4_uo _ _ _ _ (by omega), mk4_f, til_at, mk4_uf, til_s, til_s]
    have eo : (zIr M 1 (mk4 h (til (fun i => dcI k (o i)) o i) w (til (fun i => woI (f i) k) f i))).1 1 (6 + i) = o i := by
      rw [zIr_s, mk4_o _ _ _ _ (by omega), til_at]
    rw [f_Mo_loses_161, if_neg (nI_ge hi (by omega))]
    simp only [nI_add, if_pos z6, c6, eo]
    by_cases hk : o i ≤ k
    · rw [if_pos hk]
      exact key _ (by unfold dcI; rw [if_pos hk]; show o i - 0 = o i; simp)
    · rw [if_neg hk]
      exact key _ (by unfold dcI; rw [if_neg hk])
theorem s_ls65 {N m k : Nat} (hN : 200 ≤ N) (hm : m < 7) (hk : k ≤ m) (M : zOb) (h o w f : Nat → Int32) : f_Mo_loses_65 N N (zIr M 1 (mk4 h o w f)) (nI k) (nI m) (nI k) = f_Mo_loses_161 N N (zIr M 1 (mk4 (upd h 0 (nI m)) (upd o m (nI 0)) (upd (mvu w k m) m (nI 0)) (upd (mvu f k m) m (nI 0)))) (nI k) (nI m) (nI 0) := by
  have hh := for_up (fun n S x => f_Mo_loses_65 N n S (nI k) (nI m) x) k m (fun i => zIr M 1 (mk4 h o (mvu w k i) (mvu f k i))) (f_Mo_loses_161 N N (zIr M 1 (mk4 (upd h 0 (nI m)) (upd o m (nI 0)) (upd (mvu w k m) m (nI 0)) (upd (mvu f k m) m (nI 0)))) (nI k) (nI m) (nI 0)) ?_ ?_ hk N (by omega)
  · simp only [mvu_0] at hh
    exact hh
  · intro n
    show f_Mo_loses_65 N (n + 1) _ (nI k) (nI m) (nI m) = _
    have z6 : zin (nI (6 + m)) 27 := zin_nI (by omega) (by decide)
    have z13 : zin (nI (13 + m)) 27 := zin_nI (by omega) (by decide)
    have z20 : zin (nI (20 + m)) 27 := zin_nI (by omega) (by decide)
    have c6 : (nI (6 + m)).toNatClampNeg = 6 + m := nI_clamp (by omega)
    have c13 : (nI (13 + m)).toNatClampNeg = 13 + m := nI_clamp (by omega)
    have c20 : (nI (20 + m)).toNatClampNeg = 20 + m := nI_clamp (by omega)
    rw [f_Mo_loses_65, if_pos (nI_le (Nat.le_refl m) (by omega))]
    simp only [bnd, nI_add, if_pos z6, if_pos z13, if_pos z20, c6, c13, c20, zI_r, zIr_rr, zIr_s]
    rw [mk4_uh _ _ _ _ (by decide), mk4_uo _ _ _ _ (by omega), mk4_uw _ _ _ _ (by omega), mk4_uf]
  · intro n i hi him
    show f_Mo_loses_65 N (n + 1) (zIr M 1 (mk4 h o (mvu w k i) (mvu f k i))) (nI k) (nI m) (nI i) = f_Mo_loses_65 N n (zIr M 1 (mk4 h o (mvu w k (i + 1)) (mvu f k (i + 1)))) (nI k) (nI m) (nI (i + 1))
    have z13 : zin (nI (13 + i)) 27 := zin_nI (by omega) (by decide)
    have z14 : zin (nI (13 + i + 1)) 27 := zin_nI (by omega) (by decide)
    have z20 : zin (nI (20 + i)) 27 := zin_nI (by omega) (by decide)
    have z21 : zin (nI (20 + i + 1)) 27 := zin_nI (by omega) (by decide)
    have c13 : (nI (13 + i)).toNatClampNeg = 13 + i := nI_clamp (by omega)
    have c14 : (nI (13 + i + 1)).toNatClampNeg = 13 + (i + 1) := nI_clamp (by omega)
    have c20 : (nI (20 + i)).toNatClampNeg = 20 + i := nI_clamp (by omega)
    have c21 : (nI (20 + i + 1)).toNatClampNeg = 20 + (i + 1) := nI_clamp (by omega)
    rw [f_Mo_loses_65, if_neg (nI_ge him (by omega))]
    simp only [bnd, nI_add, if_pos z13, if_pos z14, if_pos z20, if_pos z21, c13, c14, c20, c21, zI_r, zIr_rr, zIr_s]
    rw [mk4_w _ _ _ _ (by omega), mk4_uw _ _ _ _ (by omega), mk4_f, mk4_uf, mvu_step _ hi, mvu_step _ hi]
theorem s_ls28 {N m k pl : Nat} (hN : 200 ≤ N) (hm : m < 7) (hp : pl ≤ m) (M : zOb) (h o w f : Nat → Int32) : f_Mo_loses_28 N N (zIr M 1 (mk4 h o w f)) (nI k) (nI m) (nI pl) = f_Mo_loses_65 N N (zIr M 1 (mk4 h (mvu o pl m) w f)) (nI k) (nI m) (nI k) := by
  have hh := for_up (fun n S x => f_Mo_loses_28 N n S (nI k) (nI m) x) pl m (fun i => zIr M 1 (mk4 h (mvu o pl i) w f)) (f_Mo_loses_65 N N (zIr M 1 (mk4 h (mvu o pl m) w f)) (nI k) (nI m) (nI k)) ?_ ?_ hp N (by omega)
  · simp only [mvu_0] at hh
    exact hh
  · intro n
    show f_Mo_loses_28 N (n + 1) _ (nI k) (nI m) (nI m) = _
    rw [f_Mo_loses_28, if_pos (nI_le (Nat.le_refl m) (by omega))]
  · intro n i hi him
    show f_Mo_loses_28 N (n + 1) (zIr M 1 (mk4 h (mvu o pl i) w f)) (nI k) (nI m) (nI i) = f_Mo_loses_28 N n (zIr M 1 (mk4 h (mvu o pl (i + 1)) w f)) (nI k) (nI m) (nI (i + 1))
    have z6 : zin (nI (6 + i)) 27 := zin_nI (by omega) (by decide)
    have z7 : zin (nI (6 + i + 1)) 27 := zin_nI (by omega) (by decide)
    have c6 : (nI (6 + i)).toNatClampNeg = 6 + i := nI_clamp (by omega)
    have c7 : (nI (6 + i + 1)).toNatClampNeg = 6 + (i + 1) := nI_clamp (by omega)
    rw [f_Mo_loses_28, if_neg (nI_ge him (by omega))]
    simp only [bnd, nI_add, if_pos z6, if_pos z7, c6, c7, zI_r, zIr_rr, zIr_s]
    rw [mk4_o _ _ _ _ (by omega), mk4_uo _ _ _ _ (by omega), mvu_step _ hi]
/-- over the gap at k -/
def ov (k i : Nat) : Nat := if i < k then i else i + 1
theorem mvu_ov (f : Nat → Int32) {p m i : Nat} (hi : i < m) : mvu f p m i = f (ov p i) := by
  unfold mvu ov
  by_cases h : i < p
  · rw [if_neg (by omega), if_pos h]
  · rw [if_pos (by omega), if_neg h]
theorem ov_lt {k i m : Nat} (hi : i < m) : ov k i < m + 1 := by unfold ov; split <;> omega
theorem ov_inj {k i j : Nat} (h : ov k i = ov k j) : i = j := by unfold ov at h; split at h <;> split at h <;> omega
theorem ov_ne (k i : Nat) : ov k i ≠ k := by unfold ov; split <;> omega
def dcN (k v : Nat) : Nat := if v ≤ k then v else v - 1
theorem dcI_nI {k v : Nat} (hk : k < 7) (hv : v < 7) : dcI (nI k) (nI v) = nI (dcN k v) := by
  unfold dcI dcN
  by_cases h : v ≤ k
  · rw [if_pos (nI_le h (by omega)), if_pos h]
  · rw [if_neg (nI_ge (by omega) (by omega)), if_neg h, pk_sub (by omega)]
theorem a_lose {N : Nat} (hN : 200 ≤ N) (x : Int32) : actOK (fun S => f_St_removeBook N S x) (fun M => f_Mo_loses N M x) := by
  intro S M a hw hS hM
  dsimp only
  have h7 := hw.1.1
  have hn : S.1 0 3 = nI (a.1 0) := hS.1 0 (by decide)
  have hm : M.1 1 0 = nI (a.1 0) := hM.1 0 (by decide)
  rcases arg_in x (n := a.1 0) (by omega) with ⟨k, hk, rfl⟩ | hx
  · obtain ⟨w1, w2, w3, rk, w4⟩ := id hw
    obtain ⟨pl, hpl, epl⟩ := inj_surj (a.1 0) a.2.2.2 (fun i hi => (w2 i hi).2.2) w3 k hk
    have hfirst : ∀ i, i < pl → a.2.2.2 i ≠ k := fun i hi e => by
      have := w3 i pl (by omega) hpl (e.trans epl.symm)
      omega
    obtain ⟨m, hma⟩ : ∃ m, a.1 0 = m + 1 := ⟨a.1 0 - 1, by omega⟩
    have hpS := s_placeOf hN h7 S a.2.2.2 hn (fun i hi => (hS.2 i hi).2.2) (fun i hi => (w2 i hi).2.2) hk hpl epl hfirst
    have hpM := s_placeOfM hN h7 M a.2.2.2 (fun i hi => (hM.2 i hi).2.2) (fun i hi => (w2 i hi).2.2) hk hpl epl hfirst
    have g3 := s_closeGap hN h7 S hn (j := 3) (by decide) hpl
    have g1 := s_closeGap hN h7 (zIr S 3 (mvu (S.1 3) pl (a.1 0 - 1))) (by rw [zIr_at, if_neg (by decide)]; exact hn) (j := 1) (by decide) hk
    have g2 := s_closeGap hN h7 (zIr (zIr S 3 (mvu (S.1 3) pl (a.1 0 - 1))) 1 (mvu (S.1 1) k (a.1 0 - 1))) (by rw [zIr_at, if_neg (by decide), zIr_at, if_neg (by decide)]; exact hn) (j := 2) (by decide) hk
    rw [hma, Nat.add_sub_cancel] at g1 g2 g3
    generalize hS3 : zIr (zIr (zIr S 3 (mvu (S.1 3) pl m)) 1 (mvu (S.1 1) k m)) 2 (mvu (S.1 2) k m) = S3
    have e0 : S3.1 0 3 = nI (m + 1) := by rw [← hS3, ← hma]; exact hn
    have r53 := s_rm53 (N := N) (m := m) hN (by omega) (zI S3 0 3 (nI m)) (nI k) rfl
    have q3 : ∀ i, i < m → (zI S3 0 3 (nI m)).1 3 i = nI (a.2.2.2 (ov pl i)) := by
      intro i hi
      have : (zI S3 0 3 (nI m)).1 3 i = mvu (S.1 3) pl m i := by rw [← hS3]; rfl
      rw [this, mvu_ov _ hi]
      exact (hS.2 _ (by rw [hma]; exact ov_lt hi)).2.2
    have q1 : ∀ i, i < m → (zI S3 0 3 (nI m)).1 1 i = nI (a.2.1 (ov k i)) := by
      intro i hi
      have : (zI S3 0 3 (nI m)).1 1 i = mvu (S.1 1) k m i := by rw [← hS3]; rfl
      rw [this, mvu_ov _ hi]
      exact (hS.2 _ (by rw [hma]; exact ov_lt hi)).1
    have q2 : ∀ i, i < m → (zI S3 0 3 (nI m)).1 2 i = nI (a.2.2.1 (ov k i)) := by
      intro i hi
      have : (zI S3 0 3 (nI m)).1 2 i = mvu (S.1 2) k m i := by rw [← hS3]; rfl
      rw [this, mvu_ov _ hi]
      exact (hS.2 _ (by rw [hma]; exact ov_lt hi)).2.1
    have hov : ∀ p i, i < m → ov p i < a.1 0 := fun p i hi => by rw [hma]; exact ov_lt hi
    have hfl : ∀ i, i < m → a.2.2.1 (ov k i) < 2 ^ 7 := fun i hi => Nat.lt_of_lt_of_le (w2 _ (hov k i hi)).2.1 (Nat.pow_le_pow_right (by decide) h7)
    have hol : ∀ i, i < m → a.2.2.2 (ov pl i) < 7 ∧ a.2.2.2 (ov pl i) ≠ k := fun i hi => by
      have h1 := (w2 _ (hov pl i hi)).2.2
      refine ⟨by omega, fun e => ?_⟩
      exact ov_ne pl i (w3 _ _ (hov pl i hi) hpl (e.trans epl.symm))
    have hM4 : zIr M 1 (mk4 (M.1 1) (fun t => M.1 1 (6 + t)) (fun t => M.1 1 (13 + t)) (fun t => M.1 1 (20 + t))) = M := by rw [mk4_id, zIr_id]
    have r28 := s_ls28 (N := N) (m := m) (k := k) hN (by omega) (show pl ≤ m by omega) M (M.1 1) (fun t => M.1 1 (6 + t)) (fun t => M.1 1 (13 + t)) (fun t => M.1 1 (20 + t))
    rw [hM4, s_ls65 hN (by omega) (by omega), s_ls161 hN (by omega)] at r28
    have g1' : f_St_closeGap N (zIr S 3 (mvu (S.1 3) pl m)) 1 (nI k) = some (zIr (zIr S 3 (mvu (S.1 3) pl m)) 1 (mvu (S.1 1) k m)) := g1
    have g2' : f_St_closeGap N (zIr (zIr S 3 (mvu (S.1 3) pl m)) 1 (mvu (S.1 1) k m)) 2 (nI k) = some S3 := by rw [← hS3]; exact g2
    generalize hT : zI S3 0 3 (nI m) = T at r53 q1 q2 q3
    have t0 : ∀ j, j < 6 → T.1 0 (3 + j) = nI (va_up a.1 0 m j) := by
      intro j hj
      rw [← hT]
      by_cases h : j = 0
      · subst h; rfl
      · rw [vu_n _ _ h]
        show upd (S3.1 0) 3 (nI m) (3 + j) = _
        rw [upd_n _ _ (by omega), ← hS3]
        exact hS.1 j hj
    refine ⟨nI m, (zIr (zIr T 2 (til (fun i => woI (T.1 2 i) (nI k)) (T.1 2) m)) 3 (til (fun i => dcI (nI k) (T.1 3 i)) (T.1 3) m)), mk4 (upd (M.1 1) 0 (nI m)) (til (fun i => dcI (nI k) (upd (mvu (fun t => M.1 1 (6 + t)) pl m) m (nI 0) i)) (upd (mvu (fun t => M.1 1 (6 + t)) pl m) m (nI 0)) m) (upd (mvu (fun t => M.1 1 (13 + t)) k m) m (nI 0)) (til (fun i => woI (upd (mvu (fun t => M.1 1 (20 + t)) k m) m (nI 0) i) (nI k)) (upd (mvu (fun t => M.1 1 (20 + t)) k m) m (nI 0)) m), (va_up a.1 0 m, fun i => a.2.1 (ov k i), fun i => wob (a.2.2.1 (ov k i)) k, fun i => dcN k (a.2.2.2 (ov pl i))), ?_, ?_, ?_, ?_, ?_⟩
    · simp only [f_St_removeBook, isB_1 h7 hn hk, Option.bind_some, if_neg nI_1_0, hpS, g3, g1', g2', bnd]
      rw [e0, pk_sub (by omega), Nat.add_sub_cancel, hT]
      exact r53
    · simp only [f_Mo_loses, isBM_1 h7 hm hk, Option.bind_some, if_neg nI_1_0, bnd, hpM, hm]
      rw [hma, pk_sub (by omega), Nat.add_sub_cancel]
      exact r28
    · refine ⟨⟨by show m ≤ 7; omega, w1.2⟩, ?_, ?_, fun i => rk (ov k i), ?_⟩
      · intro i hi
        have hi : i < m := hi
        obtain ⟨t1, t2, t3⟩ := w2 _ (hov k i hi)
        refine ⟨t1, ?_, ?_⟩
        · show wob (a.2.2.1 (ov k i)) k < 2 ^ m
          rw [hma] at t2
          exact wob_lt t2 (by omega)
        · show dcN k (a.2.2.2 (ov pl i)) < m
          have h1 := (w2 _ (hov pl i hi)).2.2
          have h2 := (hol i hi).2
          unfold dcN
          split <;> omega
      · intro i j hi hj e
        have hi : i < m := hi
        have hj : j < m := hj
        have e : dcN k (a.2.2.2 (ov pl i)) = dcN k (a.2.2.2 (ov pl j)) := e
        have h1 := (hol i hi).2
        have h2 := (hol j hj).2
        have : a.2.2.2 (ov pl i) = a.2.2.2 (ov pl j) := by
          unfold dcN at e
          split at e <;> split at e <;> omega
        exact ov_inj (w3 _ _ (hov pl i hi) (hov pl j hj) this)
      · intro i j hi hj e
        have hi : i < m := hi
        have hj : j < m := hj
        have e : (wob (a.2.2.1 (ov k i)) k).testBit j = true := e
        rw [wob_bit] at e
        exact w4 _ _ (hov k i hi) (hov k j hj) e
    · refine ⟨fun j hj => ?_, fun i hi => ?_⟩
      · exact t0 j hj
      · have hi : i < m := hi
        refine ⟨q1 i hi, ?_, ?_⟩
        · show til (fun i => woI (T.1 2 i) (nI k)) (T.1 2) m i = nI (wob (a.2.2.1 (ov k i)) k)
          rw [til_in _ _ hi, q2 i hi, woI_nI (hfl i hi) (by omega)]
        · show til (fun i => dcI (nI k) (T.1 3 i)) (T.1 3) m i = nI (dcN k (a.2.2.2 (ov pl i)))
          rw [til_in _ _ hi, q3 i hi, dcI_nI (by omega) (hol i hi).1]
    · refine ⟨fun j hj => ?_, fun i hi => ?_⟩
      · show mk4 _ _ _ _ j = nI (va_up a.1 0 m j)
        rw [mk4_h _ _ _ _ hj]
        by_cases h : j = 0
        · subst h; rfl
        · rw [upd_n _ _ h, vu_n _ _ h]; exact hM.1 j hj
      · have hi : i < m := hi
        refine ⟨?_, ?_, ?_⟩
        · show mk4 _ _ _ _ (13 + i) = nI (a.2.1 (ov k i))
          rw [mk4_w _ _ _ _ (by omega), upd_n _ _ (by omega), mvu_ov _ hi]
          exact (hM.2 _ (hov k i hi)).1
        · show mk4 _ _ _ _ (20 + i) = nI (wob (a.2.2.1 (ov k i)) k)
          rw [mk4_f, til_in _ _ hi, upd_n _ _ (by omega), mvu_ov _ hi]
          show woI (M.1 1 (20 + ov k i)) (nI k) = _
          rw [(hM.2 _ (hov k i hi)).2.1, woI_nI (hfl i hi) (by omega)]
        · show mk4 _ _ _ _ (6 + i) = nI (dcN k (a.2.2.2 (ov pl i)))
          rw [mk4_o _ _ _ _ (by omega), til_in _ _ hi, upd_n _ _ (by omega), mvu_ov _ hi]
          show dcI (nI k) (M.1 1 (6 + ov pl i)) = _
          rw [(hM.2 _ (hov pl i hi)).2.2, dcI_nI (by omega) (hol i hi).1]
  · refine act_same hw hS hM (r := -1) ?_ ?_
    · simp only [f_St_removeBook, isB_0 h7 hn hx, Option.bind_some]
      rw [if_pos trivial]
    · simp only [f_Mo_loses, isBM_0 h7 hm hx, Option.bind_some]
      rw [if_pos trivial]
