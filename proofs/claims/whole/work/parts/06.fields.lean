/-! THE CLASSES' CELLS: where they lie (k.. ), what they hold (z.. ), their fields read (g.. ) and written (p.. ) -/
theorem zc_lt {o : Nat} (h : zc o ≠ 8) : o < 29 := by
  refine Nat.not_le.mp (fun q => h ?_)
  unfold zc
  rw [if_neg (by omega), if_neg (by omega), if_neg (by omega), if_neg (by omega), if_neg (by omega), if_neg (by omega), if_neg (by omega), if_neg (by omega)]
theorem zss {μ : zM} {o : Nat} {S S' S1 : zOb} (h : S1 = S') : zset (zset μ o S) o S' = zset μ o S1 := by rw [h]; exact zset_ss μ o S S'
theorem it_p {α : Type} {c : Prop} [Decidable c] {A B o : α} (h : (if c then A else B) = o) (hc : c) : A = o := by rw [if_pos hc] at h; exact h
theorem it_n {α : Type} {c : Prop} [Decidable c] {A B o : α} (h : (if c then A else B) = o) (hc : ¬ c) : B = o := by rw [if_neg hc] at h; exact h
theorem zk0 {o : Nat} (hc : zc o = 0) : ∀ j ∈ [0, 1], (o, j) ∈ zK := by
  have h : ∀ o, o < 29 → zc o = 0 → ∀ j ∈ [0, 1], (o, j) ∈ zK := by decide +kernel
  exact h o (zc_lt (by rw [hc]; decide)) hc
theorem zv0 {o : Nat} (hc : zc o = 0) : vwCl[zc o]? = some (RX0, TX0, 2) := by rw [hc]; rfl
theorem k0_0 {o : Nat} (hc : zc o = 0) : (o, 0) ∈ zK := zk0 hc 0 (by decide)
theorem k0_1 {o : Nat} (hc : zc o = 0) : (o, 1) ∈ zK := zk0 hc 1 (by decide)
theorem z0_0 {G : zG} {o : Nat} (hc : zc o = 0) : ∀ S : zOb, zcell G o 0 S = .inr (0, [.ref (G.2.2.1 o 1), .int (S.1 0 1)]) := by
  intro S
  unfold zcell
  rw [hc]
  rfl
theorem z0_1 {G : zG} {o : Nat} (hc : zc o = 0) : ∀ S : zOb, zcell G o 1 S = .inl (G.2.1 1, zlen o, .inl (S.1 1)) := by
  intro S
  unfold zcell
  rw [hc]
  rfl
theorem zk1 {o : Nat} (hc : zc o = 1) : ∀ j ∈ [0], (o, j) ∈ zK := by
  have h : ∀ o, o < 29 → zc o = 1 → ∀ j ∈ [0], (o, j) ∈ zK := by decide +kernel
  exact h o (zc_lt (by rw [hc]; decide)) hc
theorem zv1 {o : Nat} (hc : zc o = 1) : vwCl[zc o]? = some (RX1, TX1, 3) := by rw [hc]; rfl
theorem k1_0 {o : Nat} (hc : zc o = 1) : (o, 0) ∈ zK := zk1 hc 0 (by decide)
theorem z1_0 {G : zG} {o : Nat} (hc : zc o = 1) : ∀ S : zOb, zcell G o 0 S = .inr (1, [.ref (G.2.2.1 19 0), .ref (G.2.2.1 3 0), .int (S.1 0 2)]) := by
  intro S
  unfold zcell
  rw [hc]
  rfl
theorem zk2 {o : Nat} (hc : zc o = 2) : ∀ j ∈ [0, 1], (o, j) ∈ zK := by
  have h : ∀ o, o < 29 → zc o = 2 → ∀ j ∈ [0, 1], (o, j) ∈ zK := by decide +kernel
  exact h o (zc_lt (by rw [hc]; decide)) hc
theorem zv2 {o : Nat} (hc : zc o = 2) : vwCl[zc o]? = some (RX2, TX2, 2) := by rw [hc]; rfl
theorem k2_0 {o : Nat} (hc : zc o = 2) : (o, 0) ∈ zK := zk2 hc 0 (by decide)
theorem k2_1 {o : Nat} (hc : zc o = 2) : (o, 1) ∈ zK := zk2 hc 1 (by decide)
theorem z2_0 {G : zG} {o : Nat} (hc : zc o = 2) : ∀ S : zOb, zcell G o 0 S = .inr (2, [.ref (G.2.2.1 o 1), .int (S.1 0 1)]) := by
  intro S
  unfold zcell
  rw [hc]
  rfl
theorem z2_1 {G : zG} {o : Nat} (hc : zc o = 2) : ∀ S : zOb, zcell G o 1 S = .inl (G.2.1 3, 6, .inr (.inr (.inr (.inr (fun i => some (G.2.2.1 (S.2.2 1 i) 0)))))) := by
  intro S
  unfold zcell
  rw [hc]
  rfl
theorem zk3 {o : Nat} (hc : zc o = 3) : ∀ j ∈ [0, 1, 2, 3, 4, 5, 7, 8, 9, 10, 11, 12, 13, 14, 15, 16, 17], (o, j) ∈ zK := by
  have h : ∀ o, o < 29 → zc o = 3 → ∀ j ∈ [0, 1, 2, 3, 4, 5, 7, 8, 9, 10, 11, 12, 13, 14, 15, 16, 17], (o, j) ∈ zK := by decide +kernel
  exact h o (zc_lt (by rw [hc]; decide)) hc
theorem zv3 {o : Nat} (hc : zc o = 3) : vwCl[zc o]? = some (RX3, TX3, 9) := by rw [hc]; rfl
theorem k3_0 {o : Nat} (hc : zc o = 3) : (o, 0) ∈ zK := zk3 hc 0 (by decide)
theorem k3_1 {o : Nat} (hc : zc o = 3) : (o, 1) ∈ zK := zk3 hc 1 (by decide)
theorem k3_2 {o : Nat} (hc : zc o = 3) : (o, 2) ∈ zK := zk3 hc 2 (by decide)
theorem k3_3 {o : Nat} (hc : zc o = 3) : (o, 3) ∈ zK := zk3 hc 3 (by decide)
theorem k3_4 {o : Nat} (hc : zc o = 3) : (o, 4) ∈ zK := zk3 hc 4 (by decide)
theorem k3_5 {o : Nat} (hc : zc o = 3) : (o, 5) ∈ zK := zk3 hc 5 (by decide)
theorem k3_7 {o : Nat} (hc : zc o = 3) : (o, 7) ∈ zK := zk3 hc 7 (by decide)
theorem k3_8 {o : Nat} (hc : zc o = 3) : (o, 8) ∈ zK := zk3 hc 8 (by decide)
theorem k3_9 {o : Nat} (hc : zc o = 3) : (o, 9) ∈ zK := zk3 hc 9 (by decide)
theorem k3_10 {o : Nat} (hc : zc o = 3) : (o, 10) ∈ zK := zk3 hc 10 (by decide)
theorem k3_11 {o : Nat} (hc : zc o = 3) : (o, 11) ∈ zK := zk3 hc 11 (by decide)
theorem k3_12 {o : Nat} (hc : zc o = 3) : (o, 12) ∈ zK := zk3 hc 12 (by decide)
theorem k3_13 {o : Nat} (hc : zc o = 3) : (o, 13) ∈ zK := zk3 hc 13 (by decide)
theorem k3_14 {o : Nat} (hc : zc o = 3) : (o, 14) ∈ zK := zk3 hc 14 (by decide)
theorem k3_15 {o : Nat} (hc : zc o = 3) : (o, 15) ∈ zK := zk3 hc 15 (by decide)
theorem k3_16 {o : Nat} (hc : zc o = 3) : (o, 16) ∈ zK := zk3 hc 16 (by decide)
theorem k3_17 {o : Nat} (hc : zc o = 3) : (o, 17) ∈ zK := zk3 hc 17 (by decide)
theorem z3_0 {G : zG} {o : Nat} (hc : zc o = 3) : ∀ S : zOb, zcell G o 0 S = .inr (3, [.ref (G.2.2.1 o 1), .ref (G.2.2.1 o 2), .ref (G.2.2.1 o 3), .ref (G.2.2.1 o 4), .ref (G.2.2.1 o 5), .int (S.1 0 5), .ref (G.2.2.1 o 7), .ref (G.2.2.1 o 8), .ref (G.2.2.1 o 9)]) := by
  intro S
  unfold zcell
  rw [hc]
  rfl
theorem z3_1 {G : zG} {o : Nat} (hc : zc o = 3) : ∀ S : zOb, zcell G o 1 S = .inl (G.2.1 0, 10, .inl (S.1 1)) := by
  intro S
  unfold zcell
  rw [hc]
  rfl
theorem z3_2 {G : zG} {o : Nat} (hc : zc o = 3) : ∀ S : zOb, zcell G o 2 S = .inl (G.2.1 0, 8, .inl (S.1 2)) := by
  intro S
  unfold zcell
  rw [hc]
  rfl
theorem z3_3 {G : zG} {o : Nat} (hc : zc o = 3) : ∀ S : zOb, zcell G o 3 S = .inl (G.2.1 0, 8, .inl (S.1 3)) := by
  intro S
  unfold zcell
  rw [hc]
  rfl
theorem z3_4 {G : zG} {o : Nat} (hc : zc o = 3) : ∀ S : zOb, zcell G o 4 S = .inl (G.2.1 0, 8, .inl (S.1 4)) := by
  intro S
  unfold zcell
  rw [hc]
  rfl
theorem z3_5 {G : zG} {o : Nat} (hc : zc o = 3) : ∀ S : zOb, zcell G o 5 S = .inl (G.2.1 5, 8, .inr (.inr (.inr (.inr (fun i => some (G.2.2.1 o (10 + i))))))) := by
  intro S
  unfold zcell
  rw [hc]
  rfl
theorem z3_7 {G : zG} {o : Nat} (hc : zc o = 3) : ∀ S : zOb, zcell G o 7 S = .inl (G.2.1 0, 7, .inl (S.1 7)) := by
  intro S
  unfold zcell
  rw [hc]
  rfl
theorem z3_8 {G : zG} {o : Nat} (hc : zc o = 3) : ∀ S : zOb, zcell G o 8 S = .inl (G.2.1 0, 7, .inl (S.1 8)) := by
  intro S
  unfold zcell
  rw [hc]
  rfl
theorem z3_9 {G : zG} {o : Nat} (hc : zc o = 3) : ∀ S : zOb, zcell G o 9 S = .inl (G.2.1 0, 7, .inl (S.1 9)) := by
  intro S
  unfold zcell
  rw [hc]
  rfl
theorem z3_10 {G : zG} {o : Nat} (hc : zc o = 3) : ∀ S : zOb, zcell G o 10 S = .inl (G.2.1 0, 7, .inl (S.1 10)) := by
  intro S
  unfold zcell
  rw [hc]
  rfl
theorem z3_11 {G : zG} {o : Nat} (hc : zc o = 3) : ∀ S : zOb, zcell G o 11 S = .inl (G.2.1 0, 7, .inl (S.1 11)) := by
  intro S
  unfold zcell
  rw [hc]
  rfl
theorem z3_12 {G : zG} {o : Nat} (hc : zc o = 3) : ∀ S : zOb, zcell G o 12 S = .inl (G.2.1 0, 7, .inl (S.1 12)) := by
  intro S
  unfold zcell
  rw [hc]
  rfl
theorem z3_13 {G : zG} {o : Nat} (hc : zc o = 3) : ∀ S : zOb, zcell G o 13 S = .inl (G.2.1 0, 7, .inl (S.1 13)) := by
  intro S
  unfold zcell
  rw [hc]
  rfl
theorem z3_14 {G : zG} {o : Nat} (hc : zc o = 3) : ∀ S : zOb, zcell G o 14 S = .inl (G.2.1 0, 7, .inl (S.1 14)) := by
  intro S
  unfold zcell
  rw [hc]
  rfl
theorem z3_15 {G : zG} {o : Nat} (hc : zc o = 3) : ∀ S : zOb, zcell G o 15 S = .inl (G.2.1 0, 7, .inl (S.1 15)) := by
  intro S
  unfold zcell
  rw [hc]
  rfl
theorem z3_16 {G : zG} {o : Nat} (hc : zc o = 3) : ∀ S : zOb, zcell G o 16 S = .inl (G.2.1 0, 7, .inl (S.1 16)) := by
  intro S
  unfold zcell
  rw [hc]
  rfl
theorem z3_17 {G : zG} {o : Nat} (hc : zc o = 3) : ∀ S : zOb, zcell G o 17 S = .inl (G.2.1 0, 7, .inl (S.1 17)) := by
  intro S
  unfold zcell
  rw [hc]
  rfl
theorem zk4 {o : Nat} (hc : zc o = 4) : ∀ j ∈ [0, 2, 3, 4, 5, 6, 11], (o, j) ∈ zK := by
  have h : ∀ o, o < 29 → zc o = 4 → ∀ j ∈ [0, 2, 3, 4, 5, 6, 11], (o, j) ∈ zK := by decide +kernel
  exact h o (zc_lt (by rw [hc]; decide)) hc
theorem zv4 {o : Nat} (hc : zc o = 4) : vwCl[zc o]? = some (RX4, TX4, 13) := by rw [hc]; rfl
theorem k4_0 {o : Nat} (hc : zc o = 4) : (o, 0) ∈ zK := zk4 hc 0 (by decide)
theorem k4_2 {o : Nat} (hc : zc o = 4) : (o, 2) ∈ zK := zk4 hc 2 (by decide)
theorem k4_3 {o : Nat} (hc : zc o = 4) : (o, 3) ∈ zK := zk4 hc 3 (by decide)
theorem k4_4 {o : Nat} (hc : zc o = 4) : (o, 4) ∈ zK := zk4 hc 4 (by decide)
theorem k4_5 {o : Nat} (hc : zc o = 4) : (o, 5) ∈ zK := zk4 hc 5 (by decide)
theorem k4_6 {o : Nat} (hc : zc o = 4) : (o, 6) ∈ zK := zk4 hc 6 (by decide)
theorem k4_11 {o : Nat} (hc : zc o = 4) : (o, 11) ∈ zK := zk4 hc 11 (by decide)
theorem z4_0 {G : zG} {o : Nat} (hc : zc o = 4) : ∀ S : zOb, zcell G o 0 S = .inr (4, [.ref (G.2.2.1 22 0), .ref (G.2.2.1 o 2), .ref (G.2.2.1 o 3), .ref (G.2.2.1 o 4), .ref (G.2.2.1 o 5), .ref (G.2.2.1 o 6), .int (S.1 0 6), .int (S.1 0 7), .int (S.1 0 8), .int (S.1 0 9), .ref (G.2.2.1 o 11), .int (S.1 0 11), .int (S.1 0 12)]) := by
  intro S
  unfold zcell
  rw [hc]
  rfl
theorem z4_2 {G : zG} {o : Nat} (hc : zc o = 4) : ∀ S : zOb, zcell G o 2 S = .inl (G.2.1 0, 7, .inl (S.1 2)) := by
  intro S
  unfold zcell
  rw [hc]
  rfl
theorem z4_3 {G : zG} {o : Nat} (hc : zc o = 4) : ∀ S : zOb, zcell G o 3 S = .inl (G.2.1 0, 7, .inl (S.1 3)) := by
  intro S
  unfold zcell
  rw [hc]
  rfl
theorem z4_4 {G : zG} {o : Nat} (hc : zc o = 4) : ∀ S : zOb, zcell G o 4 S = .inl (G.2.1 0, 7, .inl (S.1 4)) := by
  intro S
  unfold zcell
  rw [hc]
  rfl
theorem z4_5 {G : zG} {o : Nat} (hc : zc o = 4) : ∀ S : zOb, zcell G o 5 S = .inl (G.2.1 0, 7, .inl (S.1 5)) := by
  intro S
  unfold zcell
  rw [hc]
  rfl
theorem z4_6 {G : zG} {o : Nat} (hc : zc o = 4) : ∀ S : zOb, zcell G o 6 S = .inl (G.2.1 0, 7, .inl (S.1 6)) := by
  intro S
  unfold zcell
  rw [hc]
  rfl
theorem z4_11 {G : zG} {o : Nat} (hc : zc o = 4) : ∀ S : zOb, zcell G o 11 S = .inl (G.2.1 0, 7, .inl (S.1 11)) := by
  intro S
  unfold zcell
  rw [hc]
  rfl
theorem zk5 {o : Nat} (hc : zc o = 5) : ∀ j ∈ [0, 1], (o, j) ∈ zK := by
  have h : ∀ o, o < 29 → zc o = 5 → ∀ j ∈ [0, 1], (o, j) ∈ zK := by decide +kernel
  exact h o (zc_lt (by rw [hc]; decide)) hc
theorem zv5 {o : Nat} (hc : zc o = 5) : vwCl[zc o]? = some (RX5, TX5, 3) := by rw [hc]; rfl
theorem k5_0 {o : Nat} (hc : zc o = 5) : (o, 0) ∈ zK := zk5 hc 0 (by decide)
theorem k5_1 {o : Nat} (hc : zc o = 5) : (o, 1) ∈ zK := zk5 hc 1 (by decide)
theorem z5_0 {G : zG} {o : Nat} (hc : zc o = 5) : ∀ S : zOb, zcell G o 0 S = .inr (5, [.ref (G.2.2.1 o 1), .int (S.1 0 1), .int (S.1 0 2)]) := by
  intro S
  unfold zcell
  rw [hc]
  rfl
theorem z5_1 {G : zG} {o : Nat} (hc : zc o = 5) : ∀ S : zOb, zcell G o 1 S = .inl (G.2.1 2, 24, .inr (.inl (S.2.1 1))) := by
  intro S
  unfold zcell
  rw [hc]
  rfl
theorem zk6 {o : Nat} (hc : zc o = 6) : ∀ j ∈ [0, 1, 2, 3], (o, j) ∈ zK := by
  have h : ∀ o, o < 29 → zc o = 6 → ∀ j ∈ [0, 1, 2, 3], (o, j) ∈ zK := by decide +kernel
  exact h o (zc_lt (by rw [hc]; decide)) hc
theorem zv6 {o : Nat} (hc : zc o = 6) : vwCl[zc o]? = some (RX6, TX6, 9) := by rw [hc]; rfl
theorem k6_0 {o : Nat} (hc : zc o = 6) : (o, 0) ∈ zK := zk6 hc 0 (by decide)
theorem k6_1 {o : Nat} (hc : zc o = 6) : (o, 1) ∈ zK := zk6 hc 1 (by decide)
theorem k6_2 {o : Nat} (hc : zc o = 6) : (o, 2) ∈ zK := zk6 hc 2 (by decide)
theorem k6_3 {o : Nat} (hc : zc o = 6) : (o, 3) ∈ zK := zk6 hc 3 (by decide)
theorem z6_0 {G : zG} {o : Nat} (hc : zc o = 6) : ∀ S : zOb, zcell G o 0 S = .inr (6, [.ref (G.2.2.1 o 1), .ref (G.2.2.1 o 2), .ref (G.2.2.1 o 3), .int (S.1 0 3), .int (S.1 0 4), .int (S.1 0 5), .int (S.1 0 6), .int (S.1 0 7), .int (S.1 0 8)]) := by
  intro S
  unfold zcell
  rw [hc]
  rfl
theorem z6_1 {G : zG} {o : Nat} (hc : zc o = 6) : ∀ S : zOb, zcell G o 1 S = .inl (G.2.1 0, 7, .inl (S.1 1)) := by
  intro S
  unfold zcell
  rw [hc]
  rfl
theorem z6_2 {G : zG} {o : Nat} (hc : zc o = 6) : ∀ S : zOb, zcell G o 2 S = .inl (G.2.1 0, 7, .inl (S.1 2)) := by
  intro S
  unfold zcell
  rw [hc]
  rfl
theorem z6_3 {G : zG} {o : Nat} (hc : zc o = 6) : ∀ S : zOb, zcell G o 3 S = .inl (G.2.1 0, 7, .inl (S.1 3)) := by
  intro S
  unfold zcell
  rw [hc]
  rfl
theorem zk7 {o : Nat} (hc : zc o = 7) : ∀ j ∈ [0, 11], (o, j) ∈ zK := by
  have h : ∀ o, o < 29 → zc o = 7 → ∀ j ∈ [0, 11], (o, j) ∈ zK := by decide +kernel
  exact h o (zc_lt (by rw [hc]; decide)) hc
theorem zv7 {o : Nat} (hc : zc o = 7) : vwCl[zc o]? = some (RX7, TX7, 11) := by rw [hc]; rfl
theorem k7_0 {o : Nat} (hc : zc o = 7) : (o, 0) ∈ zK := zk7 hc 0 (by decide)
theorem k7_11 {o : Nat} (hc : zc o = 7) : (o, 11) ∈ zK := zk7 hc 11 (by decide)
theorem z7_0 {G : zG} {o : Nat} (hc : zc o = 7) : ∀ S : zOb, zcell G o 0 S = .inr (7, [.ref (G.2.2.1 0 0), .ref (G.2.2.1 1 0), .ref (G.2.2.1 16 0), .ref (G.2.2.1 2 0), .ref (G.2.2.1 17 0), .int (S.1 0 5), .ref (G.2.2.1 20 0), .ref (G.2.2.1 18 0), .ref (G.2.2.1 21 0), .ref (G.2.2.1 23 0), .ref (G.2.2.1 o 11)]) := by
  intro S
  unfold zcell
  rw [hc]
  rfl
theorem z7_11 {G : zG} {o : Nat} (hc : zc o = 7) : ∀ S : zOb, zcell G o 11 S = .inl (G.2.1 4, 4, .inr (.inr (.inr (.inr (fun i => some (G.2.2.1 (24 + i) 0)))))) := by
  intro S
  unfold zcell
  rw [hc]
  rfl
theorem zk8 {o : Nat} (hc : o = 29) : ∀ j ∈ [0, 1, 2, 4, 5, 7, 9, 10, 11, 12, 13, 14, 15, 16, 17, 18, 19, 23, 25], (o, j) ∈ zK := by
  subst hc
  decide +kernel
theorem zv8 {o : Nat} (hc : o = 29) : vwCl[zc o]? = some (RX8, TX8, 27) := by rw [hc]; rfl
theorem k8_0 {o : Nat} (hc : o = 29) : (o, 0) ∈ zK := zk8 hc 0 (by decide)
theorem k8_1 {o : Nat} (hc : o = 29) : (o, 1) ∈ zK := zk8 hc 1 (by decide)
theorem k8_2 {o : Nat} (hc : o = 29) : (o, 2) ∈ zK := zk8 hc 2 (by decide)
theorem k8_4 {o : Nat} (hc : o = 29) : (o, 4) ∈ zK := zk8 hc 4 (by decide)
theorem k8_5 {o : Nat} (hc : o = 29) : (o, 5) ∈ zK := zk8 hc 5 (by decide)
theorem k8_7 {o : Nat} (hc : o = 29) : (o, 7) ∈ zK := zk8 hc 7 (by decide)
theorem k8_9 {o : Nat} (hc : o = 29) : (o, 9) ∈ zK := zk8 hc 9 (by decide)
theorem k8_10 {o : Nat} (hc : o = 29) : (o, 10) ∈ zK := zk8 hc 10 (by decide)
theorem k8_11 {o : Nat} (hc : o = 29) : (o, 11) ∈ zK := zk8 hc 11 (by decide)
theorem k8_12 {o : Nat} (hc : o = 29) : (o, 12) ∈ zK := zk8 hc 12 (by decide)
theorem k8_13 {o : Nat} (hc : o = 29) : (o, 13) ∈ zK := zk8 hc 13 (by decide)
theorem k8_14 {o : Nat} (hc : o = 29) : (o, 14) ∈ zK := zk8 hc 14 (by decide)
theorem k8_15 {o : Nat} (hc : o = 29) : (o, 15) ∈ zK := zk8 hc 15 (by decide)
theorem k8_16 {o : Nat} (hc : o = 29) : (o, 16) ∈ zK := zk8 hc 16 (by decide)
theorem k8_17 {o : Nat} (hc : o = 29) : (o, 17) ∈ zK := zk8 hc 17 (by decide)
theorem k8_18 {o : Nat} (hc : o = 29) : (o, 18) ∈ zK := zk8 hc 18 (by decide)
theorem k8_19 {o : Nat} (hc : o = 29) : (o, 19) ∈ zK := zk8 hc 19 (by decide)
theorem k8_23 {o : Nat} (hc : o = 29) : (o, 23) ∈ zK := zk8 hc 23 (by decide)
theorem k8_25 {o : Nat} (hc : o = 29) : (o, 25) ∈ zK := zk8 hc 25 (by decide)
theorem z8_0 {G : zG} {o : Nat} (hc : o = 29) : ∀ S : zOb, zcell G o 0 S = .inr (8, [.ref (G.2.2.1 o 1), .ref (G.2.2.1 o 2), .int (S.1 0 2), .ref (G.2.2.1 o 4), .ref (G.2.2.1 o 5), .int (S.1 0 5), .ref (G.2.2.1 o 7), .int (S.1 0 7), .ref (G.2.2.1 o 9), .ref (G.2.2.1 o 10), .ref (G.2.2.1 o 11), .ref (G.2.2.1 o 12), .ref (G.2.2.1 o 13), .ref (G.2.2.1 o 14), .ref (G.2.2.1 o 15), .ref (G.2.2.1 o 16), .ref (G.2.2.1 o 17), .ref (G.2.2.1 o 18), .ref (G.2.2.1 o 19), .int (S.1 0 19), .int (S.1 0 20), .int (S.1 0 21), .ref (G.2.2.1 o 23), .int (S.1 0 23), .ref (G.2.2.1 o 25), .int (S.1 0 25), .int (S.1 0 26)]) := by
  subst hc
  intro S
  unfold zcell
  rfl
theorem z8_1 {G : zG} {o : Nat} (hc : o = 29) : ∀ S : zOb, zcell G o 1 S = .inl (G.2.1 0, 27, .inl (S.1 1)) := by
  subst hc
  intro S
  unfold zcell
  rfl
theorem z8_2 {G : zG} {o : Nat} (hc : o = 29) : ∀ S : zOb, zcell G o 2 S = .inl (G.2.1 0, 162, .inl (S.1 2)) := by
  subst hc
  intro S
  unfold zcell
  rfl
theorem z8_4 {G : zG} {o : Nat} (hc : o = 29) : ∀ S : zOb, zcell G o 4 S = .inl (G.2.1 0, 27, .inl (S.1 4)) := by
  subst hc
  intro S
  unfold zcell
  rfl
theorem z8_5 {G : zG} {o : Nat} (hc : o = 29) : ∀ S : zOb, zcell G o 5 S = .inl (G.2.1 0, 162, .inl (S.1 5)) := by
  subst hc
  intro S
  unfold zcell
  rfl
theorem z8_7 {G : zG} {o : Nat} (hc : o = 29) : ∀ S : zOb, zcell G o 7 S = .inl (G.2.1 0, 90, .inl (S.1 7)) := by
  subst hc
  intro S
  unfold zcell
  rfl
theorem z8_9 {G : zG} {o : Nat} (hc : o = 29) : ∀ S : zOb, zcell G o 9 S = .inl (G.2.1 0, 4, .inl (S.1 9)) := by
  subst hc
  intro S
  unfold zcell
  rfl
theorem z8_10 {G : zG} {o : Nat} (hc : o = 29) : ∀ S : zOb, zcell G o 10 S = .inl (G.2.1 0, 4, .inl (S.1 10)) := by
  subst hc
  intro S
  unfold zcell
  rfl
theorem z8_11 {G : zG} {o : Nat} (hc : o = 29) : ∀ S : zOb, zcell G o 11 S = .inl (G.2.1 2, 96, .inr (.inl (S.2.1 11))) := by
  subst hc
  intro S
  unfold zcell
  rfl
theorem z8_12 {G : zG} {o : Nat} (hc : o = 29) : ∀ S : zOb, zcell G o 12 S = .inl (G.2.1 2, 24, .inr (.inl (S.2.1 12))) := by
  subst hc
  intro S
  unfold zcell
  rfl
theorem z8_13 {G : zG} {o : Nat} (hc : o = 29) : ∀ S : zOb, zcell G o 13 S = .inl (G.2.1 0, 7, .inl (S.1 13)) := by
  subst hc
  intro S
  unfold zcell
  rfl
theorem z8_14 {G : zG} {o : Nat} (hc : o = 29) : ∀ S : zOb, zcell G o 14 S = .inl (G.2.1 0, 20, .inl (S.1 14)) := by
  subst hc
  intro S
  unfold zcell
  rfl
theorem z8_15 {G : zG} {o : Nat} (hc : o = 29) : ∀ S : zOb, zcell G o 15 S = .inl (G.2.1 0, 20, .inl (S.1 15)) := by
  subst hc
  intro S
  unfold zcell
  rfl
theorem z8_16 {G : zG} {o : Nat} (hc : o = 29) : ∀ S : zOb, zcell G o 16 S = .inl (G.2.1 0, 7, .inl (S.1 16)) := by
  subst hc
  intro S
  unfold zcell
  rfl
theorem z8_17 {G : zG} {o : Nat} (hc : o = 29) : ∀ S : zOb, zcell G o 17 S = .inl (G.2.1 0, 7, .inl (S.1 17)) := by
  subst hc
  intro S
  unfold zcell
  rfl
theorem z8_18 {G : zG} {o : Nat} (hc : o = 29) : ∀ S : zOb, zcell G o 18 S = .inl (G.2.1 0, 7, .inl (S.1 18)) := by
  subst hc
  intro S
  unfold zcell
  rfl
theorem z8_19 {G : zG} {o : Nat} (hc : o = 29) : ∀ S : zOb, zcell G o 19 S = .inl (G.2.1 0, 7, .inl (S.1 19)) := by
  subst hc
  intro S
  unfold zcell
  rfl
theorem z8_23 {G : zG} {o : Nat} (hc : o = 29) : ∀ S : zOb, zcell G o 23 S = .inl (G.2.1 0, 64, .inl (S.1 23)) := by
  subst hc
  intro S
  unfold zcell
  rfl
theorem z8_25 {G : zG} {o : Nat} (hc : o = 29) : ∀ S : zOb, zcell G o 25 S = .inl (G.2.1 0, 27, .inl (S.1 25)) := by
  subst hc
  intro S
  unfold zcell
  rfl
theorem z3_d {G : zG} {o : Nat} (hc : zc o = 3) {k : Nat} (hk : k < 8) : ∀ S : zOb, zcell G o (10 + k) S = .inl (G.2.1 0, 7, .inl (S.1 (10 + k))) := by
  intro S
  unfold zcell
  rw [hc]
  match k, hk with
  | 0, _ => rfl
  | 1, _ => rfl
  | 2, _ => rfl
  | 3, _ => rfl
  | 4, _ => rfl
  | 5, _ => rfl
  | 6, _ => rfl
  | 7, _ => rfl
  | n + 8, h => exact absurd h (by omega)
theorem k3_d {o : Nat} (hc : zc o = 3) {k : Nat} (hk : k < 8) : (o, 10 + k) ∈ zK := by
  have h : ∀ o, o < 29 → zc o = 3 → ∀ k ∈ List.range 8, (o, 10 + k) ∈ zK := by decide +kernel
  exact h o (zc_lt (by rw [hc]; decide)) hc k (List.mem_range.mpr hk)
theorem z6_r {G : zG} {o : Nat} (hc : zc o = 6) {j : Nat} (hj : 0 < j ∧ j < 4) : ∀ S : zOb, zcell G o j S = .inl (G.2.1 0, 7, .inl (S.1 j)) := by
  intro S
  unfold zcell
  rw [hc]
  match j, hj with
  | 0, h => exact absurd h.1 (by omega)
  | 1, _ => rfl
  | 2, _ => rfl
  | 3, _ => rfl
  | n + 4, h => exact absurd h.2 (by omega)
theorem k6_r {o : Nat} (hc : zc o = 6) {j : Nat} (hj : 0 < j ∧ j < 4) : (o, j) ∈ zK := by
  have h : ∀ o, o < 29 → zc o = 6 → ∀ j ∈ List.range 4, (o, j) ∈ zK := by decide +kernel
  exact h o (zc_lt (by rw [hc]; decide)) hc j (List.mem_range.mpr hj.2)
theorem zin_lt {i : Int32} {n : Nat} (h : zin i n) : i.toNatClampNeg < n := Nat.not_le.mp (fun q => h (Or.inr q))
theorem zc_sheet {k : Nat} (h : k < 4) : zc (24 + k) = 5 := by
  match k, h with
  | 0, _ => rfl
  | 1, _ => rfl
  | 2, _ => rfl
  | 3, _ => rfl
  | n + 4, h => exact absurd h (by omega)
section ZF
variable {p : Program} {l : Launch} {e : Env} {R : Room} {s : State} {m : MethodId} {args : Array Value} {below : List Frame} {meth : Method} {c : Code} {H : Heap} {locs : List Loc} {Q : State → Prop} {cc : ByteArray} {pc : Nat} {ls : Array Slot} {rest : List Value} {own : String} {nL d : Nat} {G : zG} {μ μ' : zM} {S : zOb} {o index : Nat}
theorem g0_0 (cx : zCX p R s m args c own cc nL d G) (hI : zIW G s μ H locs) (hc : zc o = 0) (hS : μ o = S) (hl : Cond.fieldLink own index (TX0 0).1 (TX0 0).2.1 (TX0 0).2.2.1 ∈ wsL_law) (hdg : decode cc pc = .ok (.getfield index, 3)) (kk : W p l e R s m args below meth c H locs 0 0 Q (F0 m (pc + 3) ls (.ref (G.2.2.1 o 1) :: rest))) : W p l e R s m args below meth c H locs 0 0 Q (F0 m pc ls (.ref (G.2.2.1 o 0) :: rest)) := zr_get (k := 0) cx hI (k0_0 hc) hS (z0_0 hc S) rfl inlX0 (by decide) hl rfl hdg kk
theorem g0_1 (cx : zCX p R s m args c own cc nL d G) (hI : zIW G s μ H locs) (hc : zc o = 0) (hS : μ o = S) (hl : Cond.fieldLink own index (TX0 1).1 (TX0 1).2.1 (TX0 1).2.2.1 ∈ wsL_law) (hdg : decode cc pc = .ok (.getfield index, 3)) (kk : W p l e R s m args below meth c H locs 0 0 Q (F0 m (pc + 3) ls (.int (S.1 0 1) :: rest))) : W p l e R s m args below meth c H locs 0 0 Q (F0 m pc ls (.ref (G.2.2.1 o 0) :: rest)) := zr_get (k := 1) cx hI (k0_0 hc) hS (z0_0 hc S) rfl inlX0 (by decide) hl rfl hdg kk
theorem p0_1 {x : Int32} (cx : zCX p R s m args c own cc nL d G) (hI : zIW G s μ H locs) (hc : zc o = 0) (hS : μ o = S) (hl : Cond.fieldLink own index (TX0 1).1 (TX0 1).2.1 (TX0 1).2.2.1 ∈ wsL_law) (hμ : zset μ o (zI S 0 1 x) = μ') (hdg : decode cc pc = .ok (.putfield index, 3)) (kk : ∀ (H1 : Heap) (locs1 : List Loc), zIW G s μ' H1 locs1 → W p l e R s m args below meth c H1 locs1 0 0 Q (F0 m (pc + 3) ls rest)) : W p l e R s m args below meth c H locs 0 0 Q (F0 m pc ls (.int x :: .ref (G.2.2.1 o 0) :: rest)) := zr_put (k := 1) (ty := .int) cx hI (k0_0 hc) hS (z0_0 hc S) rfl inlX0 tyX0_ok nmX0 (by decide) hl rfl rfl rfl rfl (Nat.le_of_ble_eq_true rfl) (z0_0 hc _) hμ hdg kk
theorem g1_0 (cx : zCX p R s m args c own cc nL d G) (hI : zIW G s μ H locs) (hc : zc o = 1) (hS : μ o = S) (hl : Cond.fieldLink own index (TX1 0).1 (TX1 0).2.1 (TX1 0).2.2.1 ∈ wsL_law) (hdg : decode cc pc = .ok (.getfield index, 3)) (kk : W p l e R s m args below meth c H locs 0 0 Q (F0 m (pc + 3) ls (.ref (G.2.2.1 19 0) :: rest))) : W p l e R s m args below meth c H locs 0 0 Q (F0 m pc ls (.ref (G.2.2.1 o 0) :: rest)) := zr_get (k := 0) cx hI (k1_0 hc) hS (z1_0 hc S) rfl inlX1 (by decide) hl rfl hdg kk
theorem g1_1 (cx : zCX p R s m args c own cc nL d G) (hI : zIW G s μ H locs) (hc : zc o = 1) (hS : μ o = S) (hl : Cond.fieldLink own index (TX1 1).1 (TX1 1).2.1 (TX1 1).2.2.1 ∈ wsL_law) (hdg : decode cc pc = .ok (.getfield index, 3)) (kk : W p l e R s m args below meth c H locs 0 0 Q (F0 m (pc + 3) ls (.ref (G.2.2.1 3 0) :: rest))) : W p l e R s m args below meth c H locs 0 0 Q (F0 m pc ls (.ref (G.2.2.1 o 0) :: rest)) := zr_get (k := 1) cx hI (k1_0 hc) hS (z1_0 hc S) rfl inlX1 (by decide) hl rfl hdg kk
theorem g1_2 (cx : zCX p R s m args c own cc nL d G) (hI : zIW G s μ H locs) (hc : zc o = 1) (hS : μ o = S) (hl : Cond.fieldLink own index (TX1 2).1 (TX1 2).2.1 (TX1 2).2.2.1 ∈ wsL_law) (hdg : decode cc pc = .ok (.getfield index, 3)) (kk : W p l e R s m args below meth c H locs 0 0 Q (F0 m (pc + 3) ls (.int (S.1 0 2) :: rest))) : W p l e R s m args below meth c H locs 0 0 Q (F0 m pc ls (.ref (G.2.2.1 o 0) :: rest)) := zr_get (k := 2) cx hI (k1_0 hc) hS (z1_0 hc S) rfl inlX1 (by decide) hl rfl hdg kk
theorem p1_2 {x : Int32} (cx : zCX p R s m args c own cc nL d G) (hI : zIW G s μ H locs) (hc : zc o = 1) (hS : μ o = S) (hl : Cond.fieldLink own index (TX1 2).1 (TX1 2).2.1 (TX1 2).2.2.1 ∈ wsL_law) (hμ : zset μ o (zI S 0 2 x) = μ') (hdg : decode cc pc = .ok (.putfield index, 3)) (kk : ∀ (H1 : Heap) (locs1 : List Loc), zIW G s μ' H1 locs1 → W p l e R s m args below meth c H1 locs1 0 0 Q (F0 m (pc + 3) ls rest)) : W p l e R s m args below meth c H locs 0 0 Q (F0 m pc ls (.int x :: .ref (G.2.2.1 o 0) :: rest)) := zr_put (k := 2) (ty := .int) cx hI (k1_0 hc) hS (z1_0 hc S) rfl inlX1 tyX1_ok nmX1 (by decide) hl rfl rfl rfl rfl (Nat.le_of_ble_eq_true rfl) (z1_0 hc _) hμ hdg kk
theorem g2_0 (cx : zCX p R s m args c own cc nL d G) (hI : zIW G s μ H locs) (hc : zc o = 2) (hS : μ o = S) (hl : Cond.fieldLink own index (TX2 0).1 (TX2 0).2.1 (TX2 0).2.2.1 ∈ wsL_law) (hdg : decode cc pc = .ok (.getfield index, 3)) (kk : W p l e R s m args below meth c H locs 0 0 Q (F0 m (pc + 3) ls (.ref (G.2.2.1 o 1) :: rest))) : W p l e R s m args below meth c H locs 0 0 Q (F0 m pc ls (.ref (G.2.2.1 o 0) :: rest)) := zr_get (k := 0) cx hI (k2_0 hc) hS (z2_0 hc S) rfl inlX2 (by decide) hl rfl hdg kk
theorem g2_1 (cx : zCX p R s m args c own cc nL d G) (hI : zIW G s μ H locs) (hc : zc o = 2) (hS : μ o = S) (hl : Cond.fieldLink own index (TX2 1).1 (TX2 1).2.1 (TX2 1).2.2.1 ∈ wsL_law) (hdg : decode cc pc = .ok (.getfield index, 3)) (kk : W p l e R s m args below meth c H locs 0 0 Q (F0 m (pc + 3) ls (.int (S.1 0 1) :: rest))) : W p l e R s m args below meth c H locs 0 0 Q (F0 m pc ls (.ref (G.2.2.1 o 0) :: rest)) := zr_get (k := 1) cx hI (k2_0 hc) hS (z2_0 hc S) rfl inlX2 (by decide) hl rfl hdg kk
theorem p2_1 {x : Int32} (cx : zCX p R s m args c own cc nL d G) (hI : zIW G s μ H locs) (hc : zc o = 2) (hS : μ o = S) (hl : Cond.fieldLink own index (TX2 1).1 (TX2 1).2.1 (TX2 1).2.2.1 ∈ wsL_law) (hμ : zset μ o (zI S 0 1 x) = μ') (hdg : decode cc pc = .ok (.putfield index, 3)) (kk : ∀ (H1 : Heap) (locs1 : List Loc), zIW G s μ' H1 locs1 → W p l e R s m args below meth c H1 locs1 0 0 Q (F0 m (pc + 3) ls rest)) : W p l e R s m args below meth c H locs 0 0 Q (F0 m pc ls (.int x :: .ref (G.2.2.1 o 0) :: rest)) := zr_put (k := 1) (ty := .int) cx hI (k2_0 hc) hS (z2_0 hc S) rfl inlX2 tyX2_ok nmX2 (by decide) hl rfl rfl rfl rfl (Nat.le_of_ble_eq_true rfl) (z2_0 hc _) hμ hdg kk
theorem g3_0 (cx : zCX p R s m args c own cc nL d G) (hI : zIW G s μ H locs) (hc : zc o = 3) (hS : μ o = S) (hl : Cond.fieldLink own index (TX3 0).1 (TX3 0).2.1 (TX3 0).2.2.1 ∈ wsL_law) (hdg : decode cc pc = .ok (.getfield index, 3)) (kk : W p l e R s m args below meth c H locs 0 0 Q (F0 m (pc + 3) ls (.ref (G.2.2.1 o 1) :: rest))) : W p l e R s m args below meth c H locs 0 0 Q (F0 m pc ls (.ref (G.2.2.1 o 0) :: rest)) := zr_get (k := 0) cx hI (k3_0 hc) hS (z3_0 hc S) rfl inlX3 (by decide) hl rfl hdg kk
theorem g3_1 (cx : zCX p R s m args c own cc nL d G) (hI : zIW G s μ H locs) (hc : zc o = 3) (hS : μ o = S) (hl : Cond.fieldLink own index (TX3 1).1 (TX3 1).2.1 (TX3 1).2.2.1 ∈ wsL_law) (hdg : decode cc pc = .ok (.getfield index, 3)) (kk : W p l e R s m args below meth c H locs 0 0 Q (F0 m (pc + 3) ls (.ref (G.2.2.1 o 2) :: rest))) : W p l e R s m args below meth c H locs 0 0 Q (F0 m pc ls (.ref (G.2.2.1 o 0) :: rest)) := zr_get (k := 1) cx hI (k3_0 hc) hS (z3_0 hc S) rfl inlX3 (by decide) hl rfl hdg kk
theorem g3_2 (cx : zCX p R s m args c own cc nL d G) (hI : zIW G s μ H locs) (hc : zc o = 3) (hS : μ o = S) (hl : Cond.fieldLink own index (TX3 2).1 (TX3 2).2.1 (TX3 2).2.2.1 ∈ wsL_law) (hdg : decode cc pc = .ok (.getfield index, 3)) (kk : W p l e R s m args below meth c H locs 0 0 Q (F0 m (pc + 3) ls (.ref (G.2.2.1 o 3) :: rest))) : W p l e R s m args below meth c H locs 0 0 Q (F0 m pc ls (.ref (G.2.2.1 o 0) :: rest)) := zr_get (k := 2) cx hI (k3_0 hc) hS (z3_0 hc S) rfl inlX3 (by decide) hl rfl hdg kk
theorem g3_3 (cx : zCX p R s m args c own cc nL d G) (hI : zIW G s μ H locs) (hc : zc o = 3) (hS : μ o = S) (hl : Cond.fieldLink own index (TX3 3).1 (TX3 3).2.1 (TX3 3).2.2.1 ∈ wsL_law) (hdg : decode cc pc = .ok (.getfield index, 3)) (kk : W p l e R s m args below meth c H locs 0 0 Q (F0 m (pc + 3) ls (.ref (G.2.2.1 o 4) :: rest))) : W p l e R s m args below meth c H locs 0 0 Q (F0 m pc ls (.ref (G.2.2.1 o 0) :: rest)) := zr_get (k := 3) cx hI (k3_0 hc) hS (z3_0 hc S) rfl inlX3 (by decide) hl rfl hdg kk
theorem g3_4 (cx : zCX p R s m args c own cc nL d G) (hI : zIW G s μ H locs) (hc : zc o = 3) (hS : μ o = S) (hl : Cond.fieldLink own index (TX3 4).1 (TX3 4).2.1 (TX3 4).2.2.1 ∈ wsL_law) (hdg : decode cc pc = .ok (.getfield index, 3)) (kk : W p l e R s m args below meth c H locs 0 0 Q (F0 m (pc + 3) ls (.ref (G.2.2.1 o 5) :: rest))) : W p l e R s m args below meth c H locs 0 0 Q (F0 m pc ls (.ref (G.2.2.1 o 0) :: rest)) := zr_get (k := 4) cx hI (k3_0 hc) hS (z3_0 hc S) rfl inlX3 (by decide) hl rfl hdg kk
theorem g3_5 (cx : zCX p R s m args c own cc nL d G) (hI : zIW G s μ H locs) (hc : zc o = 3) (hS : μ o = S) (hl : Cond.fieldLink own index (TX3 5).1 (TX3 5).2.1 (TX3 5).2.2.1 ∈ wsL_law) (hdg : decode cc pc = .ok (.getfield index, 3)) (kk : W p l e R s m args below meth c H locs 0 0 Q (F0 m (pc + 3) ls (.int (S.1 0 5) :: rest))) : W p l e R s m args below meth c H locs 0 0 Q (F0 m pc ls (.ref (G.2.2.1 o 0) :: rest)) := zr_get (k := 5) cx hI (k3_0 hc) hS (z3_0 hc S) rfl inlX3 (by decide) hl rfl hdg kk
theorem p3_5 {x : Int32} (cx : zCX p R s m args c own cc nL d G) (hI : zIW G s μ H locs) (hc : zc o = 3) (hS : μ o = S) (hl : Cond.fieldLink own index (TX3 5).1 (TX3 5).2.1 (TX3 5).2.2.1 ∈ wsL_law) (hμ : zset μ o (zI S 0 5 x) = μ') (hdg : decode cc pc = .ok (.putfield index, 3)) (kk : ∀ (H1 : Heap) (locs1 : List Loc), zIW G s μ' H1 locs1 → W p l e R s m args below meth c H1 locs1 0 0 Q (F0 m (pc + 3) ls rest)) : W p l e R s m args below meth c H locs 0 0 Q (F0 m pc ls (.int x :: .ref (G.2.2.1 o 0) :: rest)) := zr_put (k := 5) (ty := .int) cx hI (k3_0 hc) hS (z3_0 hc S) rfl inlX3 tyX3_ok nmX3 (by decide) hl rfl rfl rfl rfl (Nat.le_of_ble_eq_true rfl) (z3_0 hc _) hμ hdg kk
theorem g3_6 (cx : zCX p R s m args c own cc nL d G) (hI : zIW G s μ H locs) (hc : zc o = 3) (hS : μ o = S) (hl : Cond.fieldLink own index (TX3 6).1 (TX3 6).2.1 (TX3 6).2.2.1 ∈ wsL_law) (hdg : decode cc pc = .ok (.getfield index, 3)) (kk : W p l e R s m args below meth c H locs 0 0 Q (F0 m (pc + 3) ls (.ref (G.2.2.1 o 7) :: rest))) : W p l e R s m args below meth c H locs 0 0 Q (F0 m pc ls (.ref (G.2.2.1 o 0) :: rest)) := zr_get (k := 6) cx hI (k3_0 hc) hS (z3_0 hc S) rfl inlX3 (by decide) hl rfl hdg kk
theorem g3_7 (cx : zCX p R s m args c own cc nL d G) (hI : zIW G s μ H locs) (hc : zc o = 3) (hS : μ o = S) (hl : Cond.fieldLink own index (TX3 7).1 (TX3 7).2.1 (TX3 7).2.2.1 ∈ wsL_law) (hdg : decode cc pc = .ok (.getfield index, 3)) (kk : W p l e R s m args below meth c H locs 0 0 Q (F0 m (pc + 3) ls (.ref (G.2.2.1 o 8) :: rest))) : W p l e R s m args below meth c H locs 0 0 Q (F0 m pc ls (.ref (G.2.2.1 o 0) :: rest)) := zr_get (k := 7) cx hI (k3_0 hc) hS (z3_0 hc S) rfl inlX3 (by decide) hl rfl hdg kk
theorem g3_8 (cx : zCX p R s m args c own cc nL d G) (hI : zIW G s μ H locs) (hc : zc o = 3) (hS : μ o = S) (hl : Cond.fieldLink own index (TX3 8).1 (TX3 8).2.1 (TX3 8).2.2.1 ∈ wsL_law) (hdg : decode cc pc = .ok (.getfield index, 3)) (kk : W p l e R s m args below meth c H locs 0 0 Q (F0 m (pc + 3) ls (.ref (G.2.2.1 o 9) :: rest))) : W p l e R s m args below meth c H locs 0 0 Q (F0 m pc ls (.ref (G.2.2.1 o 0) :: rest)) := zr_get (k := 8) cx hI (k3_0 hc) hS (z3_0 hc S) rfl inlX3 (by decide) hl rfl hdg kk
theorem g4_0 (cx : zCX p R s m args c own cc nL d G) (hI : zIW G s μ H locs) (hc : zc o = 4) (hS : μ o = S) (hl : Cond.fieldLink own index (TX4 0).1 (TX4 0).2.1 (TX4 0).2.2.1 ∈ wsL_law) (hdg : decode cc pc = .ok (.getfield index, 3)) (kk : W p l e R s m args below meth c H locs 0 0 Q (F0 m (pc + 3) ls (.ref (G.2.2.1 22 0) :: rest))) : W p l e R s m args below meth c H locs 0 0 Q (F0 m pc ls (.ref (G.2.2.1 o 0) :: rest)) := zr_get (k := 0) cx hI (k4_0 hc) hS (z4_0 hc S) rfl inlX4 (by decide) hl rfl hdg kk
theorem g4_1 (cx : zCX p R s m args c own cc nL d G) (hI : zIW G s μ H locs) (hc : zc o = 4) (hS : μ o = S) (hl : Cond.fieldLink own index (TX4 1).1 (TX4 1).2.1 (TX4 1).2.2.1 ∈ wsL_law) (hdg : decode cc pc = .ok (.getfield index, 3)) (kk : W p l e R s m args below meth c H locs 0 0 Q (F0 m (pc + 3) ls (.ref (G.2.2.1 o 2) :: rest))) : W p l e R s m args below meth c H locs 0 0 Q (F0 m pc ls (.ref (G.2.2.1 o 0) :: rest)) := zr_get (k := 1) cx hI (k4_0 hc) hS (z4_0 hc S) rfl inlX4 (by decide) hl rfl hdg kk
theorem g4_2 (cx : zCX p R s m args c own cc nL d G) (hI : zIW G s μ H locs) (hc : zc o = 4) (hS : μ o = S) (hl : Cond.fieldLink own index (TX4 2).1 (TX4 2).2.1 (TX4 2).2.2.1 ∈ wsL_law) (hdg : decode cc pc = .ok (.getfield index, 3)) (kk : W p l e R s m args below meth c H locs 0 0 Q (F0 m (pc + 3) ls (.ref (G.2.2.1 o 3) :: rest))) : W p l e R s m args below meth c H locs 0 0 Q (F0 m pc ls (.ref (G.2.2.1 o 0) :: rest)) := zr_get (k := 2) cx hI (k4_0 hc) hS (z4_0 hc S) rfl inlX4 (by decide) hl rfl hdg kk
theorem g4_3 (cx : zCX p R s m args c own cc nL d G) (hI : zIW G s μ H locs) (hc : zc o = 4) (hS : μ o = S) (hl : Cond.fieldLink own index (TX4 3).1 (TX4 3).2.1 (TX4 3).2.2.1 ∈ wsL_law) (hdg : decode cc pc = .ok (.getfield index, 3)) (kk : W p l e R s m args below meth c H locs 0 0 Q (F0 m (pc + 3) ls (.ref (G.2.2.1 o 4) :: rest))) : W p l e R s m args below meth c H locs 0 0 Q (F0 m pc ls (.ref (G.2.2.1 o 0) :: rest)) := zr_get (k := 3) cx hI (k4_0 hc) hS (z4_0 hc S) rfl inlX4 (by decide) hl rfl hdg kk
theorem g4_4 (cx : zCX p R s m args c own cc nL d G) (hI : zIW G s μ H locs) (hc : zc o = 4) (hS : μ o = S) (hl : Cond.fieldLink own index (TX4 4).1 (TX4 4).2.1 (TX4 4).2.2.1 ∈ wsL_law) (hdg : decode cc pc = .ok (.getfield index, 3)) (kk : W p l e R s m args below meth c H locs 0 0 Q (F0 m (pc + 3) ls (.ref (G.2.2.1 o 5) :: rest))) : W p l e R s m args below meth c H locs 0 0 Q (F0 m pc ls (.ref (G.2.2.1 o 0) :: rest)) := zr_get (k := 4) cx hI (k4_0 hc) hS (z4_0 hc S) rfl inlX4 (by decide) hl rfl hdg kk
theorem g4_5 (cx : zCX p R s m args c own cc nL d G) (hI : zIW G s μ H locs) (hc : zc o = 4) (hS : μ o = S) (hl : Cond.fieldLink own index (TX4 5).1 (TX4 5).2.1 (TX4 5).2.2.1 ∈ wsL_law) (hdg : decode cc pc = .ok (.getfield index, 3)) (kk : W p l e R s m args below meth c H locs 0 0 Q (F0 m (pc + 3) ls (.ref (G.2.2.1 o 6) :: rest))) : W p l e R s m args below meth c H locs 0 0 Q (F0 m pc ls (.ref (G.2.2.1 o 0) :: rest)) := zr_get (k := 5) cx hI (k4_0 hc) hS (z4_0 hc S) rfl inlX4 (by decide) hl rfl hdg kk
theorem g4_6 (cx : zCX p R s m args c own cc nL d G) (hI : zIW G s μ H locs) (hc : zc o = 4) (hS : μ o = S) (hl : Cond.fieldLink own index (TX4 6).1 (TX4 6).2.1 (TX4 6).2.2.1 ∈ wsL_law) (hdg : decode cc pc = .ok (.getfield index, 3)) (kk : W p l e R s m args below meth c H locs 0 0 Q (F0 m (pc + 3) ls (.int (S.1 0 6) :: rest))) : W p l e R s m args below meth c H locs 0 0 Q (F0 m pc ls (.ref (G.2.2.1 o 0) :: rest)) := zr_get (k := 6) cx hI (k4_0 hc) hS (z4_0 hc S) rfl inlX4 (by decide) hl rfl hdg kk
theorem p4_6 {x : Int32} (cx : zCX p R s m args c own cc nL d G) (hI : zIW G s μ H locs) (hc : zc o = 4) (hS : μ o = S) (hl : Cond.fieldLink own index (TX4 6).1 (TX4 6).2.1 (TX4 6).2.2.1 ∈ wsL_law) (hμ : zset μ o (zI S 0 6 x) = μ') (hdg : decode cc pc = .ok (.putfield index, 3)) (kk : ∀ (H1 : Heap) (locs1 : List Loc), zIW G s μ' H1 locs1 → W p l e R s m args below meth c H1 locs1 0 0 Q (F0 m (pc + 3) ls rest)) : W p l e R s m args below meth c H locs 0 0 Q (F0 m pc ls (.int x :: .ref (G.2.2.1 o 0) :: rest)) := zr_put (k := 6) (ty := .int) cx hI (k4_0 hc) hS (z4_0 hc S) rfl inlX4 tyX4_ok nmX4 (by decide) hl rfl rfl rfl rfl (Nat.le_of_ble_eq_true rfl) (z4_0 hc _) hμ hdg kk
theorem g4_7 (cx : zCX p R s m args c own cc nL d G) (hI : zIW G s μ H locs) (hc : zc o = 4) (hS : μ o = S) (hl : Cond.fieldLink own index (TX4 7).1 (TX4 7).2.1 (TX4 7).2.2.1 ∈ wsL_law) (hdg : decode cc pc = .ok (.getfield index, 3)) (kk : W p l e R s m args below meth c H locs 0 0 Q (F0 m (pc + 3) ls (.int (S.1 0 7) :: rest))) : W p l e R s m args below meth c H locs 0 0 Q (F0 m pc ls (.ref (G.2.2.1 o 0) :: rest)) := zr_get (k := 7) cx hI (k4_0 hc) hS (z4_0 hc S) rfl inlX4 (by decide) hl rfl hdg kk
theorem p4_7 {x : Int32} (cx : zCX p R s m args c own cc nL d G) (hI : zIW G s μ H locs) (hc : zc o = 4) (hS : μ o = S) (hb : narrow .boolean (.int x) = .int x) (hf : fits .boolean (.int x) = true) (hl : Cond.fieldLink own index (TX4 7).1 (TX4 7).2.1 (TX4 7).2.2.1 ∈ wsL_law) (hμ : zset μ o (zI S 0 7 x) = μ') (hdg : decode cc pc = .ok (.putfield index, 3)) (kk : ∀ (H1 : Heap) (locs1 : List Loc), zIW G s μ' H1 locs1 → W p l e R s m args below meth c H1 locs1 0 0 Q (F0 m (pc + 3) ls rest)) : W p l e R s m args below meth c H locs 0 0 Q (F0 m pc ls (.int x :: .ref (G.2.2.1 o 0) :: rest)) := zr_put (k := 7) (ty := .boolean) cx hI (k4_0 hc) hS (z4_0 hc S) rfl inlX4 tyX4_ok nmX4 (by decide) hl rfl rfl hb hf (Nat.le_of_ble_eq_true rfl) (z4_0 hc _) hμ hdg kk
theorem g4_8 (cx : zCX p R s m args c own cc nL d G) (hI : zIW G s μ H locs) (hc : zc o = 4) (hS : μ o = S) (hl : Cond.fieldLink own index (TX4 8).1 (TX4 8).2.1 (TX4 8).2.2.1 ∈ wsL_law) (hdg : decode cc pc = .ok (.getfield index, 3)) (kk : W p l e R s m args below meth c H locs 0 0 Q (F0 m (pc + 3) ls (.int (S.1 0 8) :: rest))) : W p l e R s m args below meth c H locs 0 0 Q (F0 m pc ls (.ref (G.2.2.1 o 0) :: rest)) := zr_get (k := 8) cx hI (k4_0 hc) hS (z4_0 hc S) rfl inlX4 (by decide) hl rfl hdg kk
theorem p4_8 {x : Int32} (cx : zCX p R s m args c own cc nL d G) (hI : zIW G s μ H locs) (hc : zc o = 4) (hS : μ o = S) (hl : Cond.fieldLink own index (TX4 8).1 (TX4 8).2.1 (TX4 8).2.2.1 ∈ wsL_law) (hμ : zset μ o (zI S 0 8 x) = μ') (hdg : decode cc pc = .ok (.putfield index, 3)) (kk : ∀ (H1 : Heap) (locs1 : List Loc), zIW G s μ' H1 locs1 → W p l e R s m args below meth c H1 locs1 0 0 Q (F0 m (pc + 3) ls rest)) : W p l e R s m args below meth c H locs 0 0 Q (F0 m pc ls (.int x :: .ref (G.2.2.1 o 0) :: rest)) := zr_put (k := 8) (ty := .int) cx hI (k4_0 hc) hS (z4_0 hc S) rfl inlX4 tyX4_ok nmX4 (by decide) hl rfl rfl rfl rfl (Nat.le_of_ble_eq_true rfl) (z4_0 hc _) hμ hdg kk
theorem g4_9 (cx : zCX p R s m args c own cc nL d G) (hI : zIW G s μ H locs) (hc : zc o = 4) (hS : μ o = S) (hl : Cond.fieldLink own index (TX4 9).1 (TX4 9).2.1 (TX4 9).2.2.1 ∈ wsL_law) (hdg : decode cc pc = .ok (.getfield index, 3)) (kk : W p l e R s m args below meth c H locs 0 0 Q (F0 m (pc + 3) ls (.int (S.1 0 9) :: rest))) : W p l e R s m args below meth c H locs 0 0 Q (F0 m pc ls (.ref (G.2.2.1 o 0) :: rest)) := zr_get (k := 9) cx hI (k4_0 hc) hS (z4_0 hc S) rfl inlX4 (by decide) hl rfl hdg kk
theorem p4_9 {x : Int32} (cx : zCX p R s m args c own cc nL d G) (hI : zIW G s μ H locs) (hc : zc o = 4) (hS : μ o = S) (hl : Cond.fieldLink own index (TX4 9).1 (TX4 9).2.1 (TX4 9).2.2.1 ∈ wsL_law) (hμ : zset μ o (zI S 0 9 x) = μ') (hdg : decode cc pc = .ok (.putfield index, 3)) (kk : ∀ (H1 : Heap) (locs1 : List Loc), zIW G s μ' H1 locs1 → W p l e R s m args below meth c H1 locs1 0 0 Q (F0 m (pc + 3) ls rest)) : W p l e R s m args below meth c H locs 0 0 Q (F0 m pc ls (.int x :: .ref (G.2.2.1 o 0) :: rest)) := zr_put (k := 9) (ty := .int) cx hI (k4_0 hc) hS (z4_0 hc S) rfl inlX4 tyX4_ok nmX4 (by decide) hl rfl rfl rfl rfl (Nat.le_of_ble_eq_true rfl) (z4_0 hc _) hμ hdg kk
theorem g4_10 (cx : zCX p R s m args c own cc nL d G) (hI : zIW G s μ H locs) (hc : zc o = 4) (hS : μ o = S) (hl : Cond.fieldLink own index (TX4 10).1 (TX4 10).2.1 (TX4 10).2.2.1 ∈ wsL_law) (hdg : decode cc pc = .ok (.getfield index, 3)) (kk : W p l e R s m args below meth c H locs 0 0 Q (F0 m (pc + 3) ls (.ref (G.2.2.1 o 11) :: rest))) : W p l e R s m args below meth c H locs 0 0 Q (F0 m pc ls (.ref (G.2.2.1 o 0) :: rest)) := zr_get (k := 10) cx hI (k4_0 hc) hS (z4_0 hc S) rfl inlX4 (by decide) hl rfl hdg kk
theorem g4_11 (cx : zCX p R s m args c own cc nL d G) (hI : zIW G s μ H locs) (hc : zc o = 4) (hS : μ o = S) (hl : Cond.fieldLink own index (TX4 11).1 (TX4 11).2.1 (TX4 11).2.2.1 ∈ wsL_law) (hdg : decode cc pc = .ok (.getfield index, 3)) (kk : W p l e R s m args below meth c H locs 0 0 Q (F0 m (pc + 3) ls (.int (S.1 0 11) :: rest))) : W p l e R s m args below meth c H locs 0 0 Q (F0 m pc ls (.ref (G.2.2.1 o 0) :: rest)) := zr_get (k := 11) cx hI (k4_0 hc) hS (z4_0 hc S) rfl inlX4 (by decide) hl rfl hdg kk
theorem p4_11 {x : Int32} (cx : zCX p R s m args c own cc nL d G) (hI : zIW G s μ H locs) (hc : zc o = 4) (hS : μ o = S) (hl : Cond.fieldLink own index (TX4 11).1 (TX4 11).2.1 (TX4 11).2.2.1 ∈ wsL_law) (hμ : zset μ o (zI S 0 11 x) = μ') (hdg : decode cc pc = .ok (.putfield index, 3)) (kk : ∀ (H1 : Heap) (locs1 : List Loc), zIW G s μ' H1 locs1 → W p l e R s m args below meth c H1 locs1 0 0 Q (F0 m (pc + 3) ls rest)) : W p l e R s m args below meth c H locs 0 0 Q (F0 m pc ls (.int x :: .ref (G.2.2.1 o 0) :: rest)) := zr_put (k := 11) (ty := .int) cx hI (k4_0 hc) hS (z4_0 hc S) rfl inlX4 tyX4_ok nmX4 (by decide) hl rfl rfl rfl rfl (Nat.le_of_ble_eq_true rfl) (z4_0 hc _) hμ hdg kk
theorem g4_12 (cx : zCX p R s m args c own cc nL d G) (hI : zIW G s μ H locs) (hc : zc o = 4) (hS : μ o = S) (hl : Cond.fieldLink own index (TX4 12).1 (TX4 12).2.1 (TX4 12).2.2.1 ∈ wsL_law) (hdg : decode cc pc = .ok (.getfield index, 3)) (kk : W p l e R s m args below meth c H locs 0 0 Q (F0 m (pc + 3) ls (.int (S.1 0 12) :: rest))) : W p l e R s m args below meth c H locs 0 0 Q (F0 m pc ls (.ref (G.2.2.1 o 0) :: rest)) := zr_get (k := 12) cx hI (k4_0 hc) hS (z4_0 hc S) rfl inlX4 (by decide) hl rfl hdg kk
theorem p4_12 {x : Int32} (cx : zCX p R s m args c own cc nL d G) (hI : zIW G s μ H locs) (hc : zc o = 4) (hS : μ o = S) (hl : Cond.fieldLink own index (TX4 12).1 (TX4 12).2.1 (TX4 12).2.2.1 ∈ wsL_law) (hμ : zset μ o (zI S 0 12 x) = μ') (hdg : decode cc pc = .ok (.putfield index, 3)) (kk : ∀ (H1 : Heap) (locs1 : List Loc), zIW G s μ' H1 locs1 → W p l e R s m args below meth c H1 locs1 0 0 Q (F0 m (pc + 3) ls rest)) : W p l e R s m args below meth c H locs 0 0 Q (F0 m pc ls (.int x :: .ref (G.2.2.1 o 0) :: rest)) := zr_put (k := 12) (ty := .int) cx hI (k4_0 hc) hS (z4_0 hc S) rfl inlX4 tyX4_ok nmX4 (by decide) hl rfl rfl rfl rfl (Nat.le_of_ble_eq_true rfl) (z4_0 hc _) hμ hdg kk
theorem g5_0 (cx : zCX p R s m args c own cc nL d G) (hI : zIW G s μ H locs) (hc : zc o = 5) (hS : μ o = S) (hl : Cond.fieldLink own index (TX5 0).1 (TX5 0).2.1 (TX5 0).2.2.1 ∈ wsL_law) (hdg : decode cc pc = .ok (.getfield index, 3)) (kk : W p l e R s m args below meth c H locs 0 0 Q (F0 m (pc + 3) ls (.ref (G.2.2.1 o 1) :: rest))) : W p l e R s m args below meth c H locs 0 0 Q (F0 m pc ls (.ref (G.2.2.1 o 0) :: rest)) := zr_get (k := 0) cx hI (k5_0 hc) hS (z5_0 hc S) rfl inlX5 (by decide) hl rfl hdg kk
theorem g5_1 (cx : zCX p R s m args c own cc nL d G) (hI : zIW G s μ H locs) (hc : zc o = 5) (hS : μ o = S) (hl : Cond.fieldLink own index (TX5 1).1 (TX5 1).2.1 (TX5 1).2.2.1 ∈ wsL_law) (hdg : decode cc pc = .ok (.getfield index, 3)) (kk : W p l e R s m args below meth c H locs 0 0 Q (F0 m (pc + 3) ls (.int (S.1 0 1) :: rest))) : W p l e R s m args below meth c H locs 0 0 Q (F0 m pc ls (.ref (G.2.2.1 o 0) :: rest)) := zr_get (k := 1) cx hI (k5_0 hc) hS (z5_0 hc S) rfl inlX5 (by decide) hl rfl hdg kk
theorem p5_1 {x : Int32} (cx : zCX p R s m args c own cc nL d G) (hI : zIW G s μ H locs) (hc : zc o = 5) (hS : μ o = S) (hl : Cond.fieldLink own index (TX5 1).1 (TX5 1).2.1 (TX5 1).2.2.1 ∈ wsL_law) (hμ : zset μ o (zI S 0 1 x) = μ') (hdg : decode cc pc = .ok (.putfield index, 3)) (kk : ∀ (H1 : Heap) (locs1 : List Loc), zIW G s μ' H1 locs1 → W p l e R s m args below meth c H1 locs1 0 0 Q (F0 m (pc + 3) ls rest)) : W p l e R s m args below meth c H locs 0 0 Q (F0 m pc ls (.int x :: .ref (G.2.2.1 o 0) :: rest)) := zr_put (k := 1) (ty := .int) cx hI (k5_0 hc) hS (z5_0 hc S) rfl inlX5 tyX5_ok nmX5 (by decide) hl rfl rfl rfl rfl (Nat.le_of_ble_eq_true rfl) (z5_0 hc _) hμ hdg kk
theorem g5_2 (cx : zCX p R s m args c own cc nL d G) (hI : zIW G s μ H locs) (hc : zc o = 5) (hS : μ o = S) (hl : Cond.fieldLink own index (TX5 2).1 (TX5 2).2.1 (TX5 2).2.2.1 ∈ wsL_law) (hdg : decode cc pc = .ok (.getfield index, 3)) (kk : W p l e R s m args below meth c H locs 0 0 Q (F0 m (pc + 3) ls (.int (S.1 0 2) :: rest))) : W p l e R s m args below meth c H locs 0 0 Q (F0 m pc ls (.ref (G.2.2.1 o 0) :: rest)) := zr_get (k := 2) cx hI (k5_0 hc) hS (z5_0 hc S) rfl inlX5 (by decide) hl rfl hdg kk
theorem p5_2 {x : Int32} (cx : zCX p R s m args c own cc nL d G) (hI : zIW G s μ H locs) (hc : zc o = 5) (hS : μ o = S) (hl : Cond.fieldLink own index (TX5 2).1 (TX5 2).2.1 (TX5 2).2.2.1 ∈ wsL_law) (hμ : zset μ o (zI S 0 2 x) = μ') (hdg : decode cc pc = .ok (.putfield index, 3)) (kk : ∀ (H1 : Heap) (locs1 : List Loc), zIW G s μ' H1 locs1 → W p l e R s m args below meth c H1 locs1 0 0 Q (F0 m (pc + 3) ls rest)) : W p l e R s m args below meth c H locs 0 0 Q (F0 m pc ls (.int x :: .ref (G.2.2.1 o 0) :: rest)) := zr_put (k := 2) (ty := .int) cx hI (k5_0 hc) hS (z5_0 hc S) rfl inlX5 tyX5_ok nmX5 (by decide) hl rfl rfl rfl rfl (Nat.le_of_ble_eq_true rfl) (z5_0 hc _) hμ hdg kk
theorem g6_0 (cx : zCX p R s m args c own cc nL d G) (hI : zIW G s μ H locs) (hc : zc o = 6) (hS : μ o = S) (hl : Cond.fieldLink own index (TX6 0).1 (TX6 0).2.1 (TX6 0).2.2.1 ∈ wsL_law) (hdg : decode cc pc = .ok (.getfield index, 3)) (kk : W p l e R s m args below meth c H locs 0 0 Q (F0 m (pc + 3) ls (.ref (G.2.2.1 o 1) :: rest))) : W p l e R s m args below meth c H locs 0 0 Q (F0 m pc ls (.ref (G.2.2.1 o 0) :: rest)) := zr_get (k := 0) cx hI (k6_0 hc) hS (z6_0 hc S) rfl inlX6 (by decide) hl rfl hdg kk
theorem g6_1 (cx : zCX p R s m args c own cc nL d G) (hI : zIW G s μ H locs) (hc : zc o = 6) (hS : μ o = S) (hl : Cond.fieldLink own index (TX6 1).1 (TX6 1).2.1 (TX6 1).2.2.1 ∈ wsL_law) (hdg : decode cc pc = .ok (.getfield index, 3)) (kk : W p l e R s m args below meth c H locs 0 0 Q (F0 m (pc + 3) ls (.ref (G.2.2.1 o 2) :: rest))) : W p l e R s m args below meth c H locs 0 0 Q (F0 m pc ls (.ref (G.2.2.1 o 0) :: rest)) := zr_get (k := 1) cx hI (k6_0 hc) hS (z6_0 hc S) rfl inlX6 (by decide) hl rfl hdg kk
theorem g6_2 (cx : zCX p R s m args c own cc nL d G) (hI : zIW G s μ H locs) (hc : zc o = 6) (hS : μ o = S) (hl : Cond.fieldLink own index (TX6 2).1 (TX6 2).2.1 (TX6 2).2.2.1 ∈ wsL_law) (hdg : decode cc pc = .ok (.getfield index, 3)) (kk : W p l e R s m args below meth c H locs 0 0 Q (F0 m (pc + 3) ls (.ref (G.2.2.1 o 3) :: rest))) : W p l e R s m args below meth c H locs 0 0 Q (F0 m pc ls (.ref (G.2.2.1 o 0) :: rest)) := zr_get (k := 2) cx hI (k6_0 hc) hS (z6_0 hc S) rfl inlX6 (by decide) hl rfl hdg kk
theorem g6_3 (cx : zCX p R s m args c own cc nL d G) (hI : zIW G s μ H locs) (hc : zc o = 6) (hS : μ o = S) (hl : Cond.fieldLink own index (TX6 3).1 (TX6 3).2.1 (TX6 3).2.2.1 ∈ wsL_law) (hdg : decode cc pc = .ok (.getfield index, 3)) (kk : W p l e R s m args below meth c H locs 0 0 Q (F0 m (pc + 3) ls (.int (S.1 0 3) :: rest))) : W p l e R s m args below meth c H locs 0 0 Q (F0 m pc ls (.ref (G.2.2.1 o 0) :: rest)) := zr_get (k := 3) cx hI (k6_0 hc) hS (z6_0 hc S) rfl inlX6 (by decide) hl rfl hdg kk
theorem p6_3 {x : Int32} (cx : zCX p R s m args c own cc nL d G) (hI : zIW G s μ H locs) (hc : zc o = 6) (hS : μ o = S) (hl : Cond.fieldLink own index (TX6 3).1 (TX6 3).2.1 (TX6 3).2.2.1 ∈ wsL_law) (hμ : zset μ o (zI S 0 3 x) = μ') (hdg : decode cc pc = .ok (.putfield index, 3)) (kk : ∀ (H1 : Heap) (locs1 : List Loc), zIW G s μ' H1 locs1 → W p l e R s m args below meth c H1 locs1 0 0 Q (F0 m (pc + 3) ls rest)) : W p l e R s m args below meth c H locs 0 0 Q (F0 m pc ls (.int x :: .ref (G.2.2.1 o 0) :: rest)) := zr_put (k := 3) (ty := .int) cx hI (k6_0 hc) hS (z6_0 hc S) rfl inlX6 tyX6_ok nmX6 (by decide) hl rfl rfl rfl rfl (Nat.le_of_ble_eq_true rfl) (z6_0 hc _) hμ hdg kk
theorem g6_4 (cx : zCX p R s m args c own cc nL d G) (hI : zIW G s μ H locs) (hc : zc o = 6) (hS : μ o = S) (hl : Cond.fieldLink own index (TX6 4).1 (TX6 4).2.1 (TX6 4).2.2.1 ∈ wsL_law) (hdg : decode cc pc = .ok (.getfield index, 3)) (kk : W p l e R s m args below meth c H locs 0 0 Q (F0 m (pc + 3) ls (.int (S.1 0 4) :: rest))) : W p l e R s m args below meth c H locs 0 0 Q (F0 m pc ls (.ref (G.2.2.1 o 0) :: rest)) := zr_get (k := 4) cx hI (k6_0 hc) hS (z6_0 hc S) rfl inlX6 (by decide) hl rfl hdg kk
theorem p6_4 {x : Int32} (cx : zCX p R s m args c own cc nL d G) (hI : zIW G s μ H locs) (hc : zc o = 6) (hS : μ o = S) (hl : Cond.fieldLink own index (TX6 4).1 (TX6 4).2.1 (TX6 4).2.2.1 ∈ wsL_law) (hμ : zset μ o (zI S 0 4 x) = μ') (hdg : decode cc pc = .ok (.putfield index, 3)) (kk : ∀ (H1 : Heap) (locs1 : List Loc), zIW G s μ' H1 locs1 → W p l e R s m args below meth c H1 locs1 0 0 Q (F0 m (pc + 3) ls rest)) : W p l e R s m args below meth c H locs 0 0 Q (F0 m pc ls (.int x :: .ref (G.2.2.1 o 0) :: rest)) := zr_put (k := 4) (ty := .int) cx hI (k6_0 hc) hS (z6_0 hc S) rfl inlX6 tyX6_ok nmX6 (by decide) hl rfl rfl rfl rfl (Nat.le_of_ble_eq_true rfl) (z6_0 hc _) hμ hdg kk
theorem g6_5 (cx : zCX p R s m args c own cc nL d G) (hI : zIW G s μ H locs) (hc : zc o = 6) (hS : μ o = S) (hl : Cond.fieldLink own index (TX6 5).1 (TX6 5).2.1 (TX6 5).2.2.1 ∈ wsL_law) (hdg : decode cc pc = .ok (.getfield index, 3)) (kk : W p l e R s m args below meth c H locs 0 0 Q (F0 m (pc + 3) ls (.int (S.1 0 5) :: rest))) : W p l e R s m args below meth c H locs 0 0 Q (F0 m pc ls (.ref (G.2.2.1 o 0) :: rest)) := zr_get (k := 5) cx hI (k6_0 hc) hS (z6_0 hc S) rfl inlX6 (by decide) hl rfl hdg kk
theorem p6_5 {x : Int32} (cx : zCX p R s m args c own cc nL d G) (hI : zIW G s μ H locs) (hc : zc o = 6) (hS : μ o = S) (hl : Cond.fieldLink own index (TX6 5).1 (TX6 5).2.1 (TX6 5).2.2.1 ∈ wsL_law) (hμ : zset μ o (zI S 0 5 x) = μ') (hdg : decode cc pc = .ok (.putfield index, 3)) (kk : ∀ (H1 : Heap) (locs1 : List Loc), zIW G s μ' H1 locs1 → W p l e R s m args below meth c H1 locs1 0 0 Q (F0 m (pc + 3) ls rest)) : W p l e R s m args below meth c H locs 0 0 Q (F0 m pc ls (.int x :: .ref (G.2.2.1 o 0) :: rest)) := zr_put (k := 5) (ty := .int) cx hI (k6_0 hc) hS (z6_0 hc S) rfl inlX6 tyX6_ok nmX6 (by decide) hl rfl rfl rfl rfl (Nat.le_of_ble_eq_true rfl) (z6_0 hc _) hμ hdg kk
theorem g6_6 (cx : zCX p R s m args c own cc nL d G) (hI : zIW G s μ H locs) (hc : zc o = 6) (hS : μ o = S) (hl : Cond.fieldLink own index (TX6 6).1 (TX6 6).2.1 (TX6 6).2.2.1 ∈ wsL_law) (hdg : decode cc pc = .ok (.getfield index, 3)) (kk : W p l e R s m args below meth c H locs 0 0 Q (F0 m (pc + 3) ls (.int (S.1 0 6) :: rest))) : W p l e R s m args below meth c H locs 0 0 Q (F0 m pc ls (.ref (G.2.2.1 o 0) :: rest)) := zr_get (k := 6) cx hI (k6_0 hc) hS (z6_0 hc S) rfl inlX6 (by decide) hl rfl hdg kk
theorem p6_6 {x : Int32} (cx : zCX p R s m args c own cc nL d G) (hI : zIW G s μ H locs) (hc : zc o = 6) (hS : μ o = S) (hl : Cond.fieldLink own index (TX6 6).1 (TX6 6).2.1 (TX6 6).2.2.1 ∈ wsL_law) (hμ : zset μ o (zI S 0 6 x) = μ') (hdg : decode cc pc = .ok (.putfield index, 3)) (kk : ∀ (H1 : Heap) (locs1 : List Loc), zIW G s μ' H1 locs1 → W p l e R s m args below meth c H1 locs1 0 0 Q (F0 m (pc + 3) ls rest)) : W p l e R s m args below meth c H locs 0 0 Q (F0 m pc ls (.int x :: .ref (G.2.2.1 o 0) :: rest)) := zr_put (k := 6) (ty := .int) cx hI (k6_0 hc) hS (z6_0 hc S) rfl inlX6 tyX6_ok nmX6 (by decide) hl rfl rfl rfl rfl (Nat.le_of_ble_eq_true rfl) (z6_0 hc _) hμ hdg kk
theorem g6_7 (cx : zCX p R s m args c own cc nL d G) (hI : zIW G s μ H locs) (hc : zc o = 6) (hS : μ o = S) (hl : Cond.fieldLink own index (TX6 7).1 (TX6 7).2.1 (TX6 7).2.2.1 ∈ wsL_law) (hdg : decode cc pc = .ok (.getfield index, 3)) (kk : W p l e R s m args below meth c H locs 0 0 Q (F0 m (pc + 3) ls (.int (S.1 0 7) :: rest))) : W p l e R s m args below meth c H locs 0 0 Q (F0 m pc ls (.ref (G.2.2.1 o 0) :: rest)) := zr_get (k := 7) cx hI (k6_0 hc) hS (z6_0 hc S) rfl inlX6 (by decide) hl rfl hdg kk
theorem p6_7 {x : Int32} (cx : zCX p R s m args c own cc nL d G) (hI : zIW G s μ H locs) (hc : zc o = 6) (hS : μ o = S) (hl : Cond.fieldLink own index (TX6 7).1 (TX6 7).2.1 (TX6 7).2.2.1 ∈ wsL_law) (hμ : zset μ o (zI S 0 7 x) = μ') (hdg : decode cc pc = .ok (.putfield index, 3)) (kk : ∀ (H1 : Heap) (locs1 : List Loc), zIW G s μ' H1 locs1 → W p l e R s m args below meth c H1 locs1 0 0 Q (F0 m (pc + 3) ls rest)) : W p l e R s m args below meth c H locs 0 0 Q (F0 m pc ls (.int x :: .ref (G.2.2.1 o 0) :: rest)) := zr_put (k := 7) (ty := .int) cx hI (k6_0 hc) hS (z6_0 hc S) rfl inlX6 tyX6_ok nmX6 (by decide) hl rfl rfl rfl rfl (Nat.le_of_ble_eq_true rfl) (z6_0 hc _) hμ hdg kk
theorem g6_8 (cx : zCX p R s m args c own cc nL d G) (hI : zIW G s μ H locs) (hc : zc o = 6) (hS : μ o = S) (hl : Cond.fieldLink own index (TX6 8).1 (TX6 8).2.1 (TX6 8).2.2.1 ∈ wsL_law) (hdg : decode cc pc = .ok (.getfield index, 3)) (kk : W p l e R s m args below meth c H locs 0 0 Q (F0 m (pc + 3) ls (.int (S.1 0 8) :: rest))) : W p l e R s m args below meth c H locs 0 0 Q (F0 m pc ls (.ref (G.2.2.1 o 0) :: rest)) := zr_get (k := 8) cx hI (k6_0 hc) hS (z6_0 hc S) rfl inlX6 (by decide) hl rfl hdg kk
theorem p6_8 {x : Int32} (cx : zCX p R s m args c own cc nL d G) (hI : zIW G s μ H locs) (hc : zc o = 6) (hS : μ o = S) (hl : Cond.fieldLink own index (TX6 8).1 (TX6 8).2.1 (TX6 8).2.2.1 ∈ wsL_law) (hμ : zset μ o (zI S 0 8 x) = μ') (hdg : decode cc pc = .ok (.putfield index, 3)) (kk : ∀ (H1 : Heap) (locs1 : List Loc), zIW G s μ' H1 locs1 → W p l e R s m args below meth c H1 locs1 0 0 Q (F0 m (pc + 3) ls rest)) : W p l e R s m args below meth c H locs 0 0 Q (F0 m pc ls (.int x :: .ref (G.2.2.1 o 0) :: rest)) := zr_put (k := 8) (ty := .int) cx hI (k6_0 hc) hS (z6_0 hc S) rfl inlX6 tyX6_ok nmX6 (by decide) hl rfl rfl rfl rfl (Nat.le_of_ble_eq_true rfl) (z6_0 hc _) hμ hdg kk
theorem g7_0 (cx : zCX p R s m args c own cc nL d G) (hI : zIW G s μ H locs) (hc : zc o = 7) (hS : μ o = S) (hl : Cond.fieldLink own index (TX7 0).1 (TX7 0).2.1 (TX7 0).2.2.1 ∈ wsL_law) (hdg : decode cc pc = .ok (.getfield index, 3)) (kk : W p l e R s m args below meth c H locs 0 0 Q (F0 m (pc + 3) ls (.ref (G.2.2.1 0 0) :: rest))) : W p l e R s m args below meth c H locs 0 0 Q (F0 m pc ls (.ref (G.2.2.1 o 0) :: rest)) := zr_get (k := 0) cx hI (k7_0 hc) hS (z7_0 hc S) rfl inlX7 (by decide) hl rfl hdg kk
theorem g7_1 (cx : zCX p R s m args c own cc nL d G) (hI : zIW G s μ H locs) (hc : zc o = 7) (hS : μ o = S) (hl : Cond.fieldLink own index (TX7 1).1 (TX7 1).2.1 (TX7 1).2.2.1 ∈ wsL_law) (hdg : decode cc pc = .ok (.getfield index, 3)) (kk : W p l e R s m args below meth c H locs 0 0 Q (F0 m (pc + 3) ls (.ref (G.2.2.1 1 0) :: rest))) : W p l e R s m args below meth c H locs 0 0 Q (F0 m pc ls (.ref (G.2.2.1 o 0) :: rest)) := zr_get (k := 1) cx hI (k7_0 hc) hS (z7_0 hc S) rfl inlX7 (by decide) hl rfl hdg kk
theorem g7_2 (cx : zCX p R s m args c own cc nL d G) (hI : zIW G s μ H locs) (hc : zc o = 7) (hS : μ o = S) (hl : Cond.fieldLink own index (TX7 2).1 (TX7 2).2.1 (TX7 2).2.2.1 ∈ wsL_law) (hdg : decode cc pc = .ok (.getfield index, 3)) (kk : W p l e R s m args below meth c H locs 0 0 Q (F0 m (pc + 3) ls (.ref (G.2.2.1 16 0) :: rest))) : W p l e R s m args below meth c H locs 0 0 Q (F0 m pc ls (.ref (G.2.2.1 o 0) :: rest)) := zr_get (k := 2) cx hI (k7_0 hc) hS (z7_0 hc S) rfl inlX7 (by decide) hl rfl hdg kk
theorem g7_3 (cx : zCX p R s m args c own cc nL d G) (hI : zIW G s μ H locs) (hc : zc o = 7) (hS : μ o = S) (hl : Cond.fieldLink own index (TX7 3).1 (TX7 3).2.1 (TX7 3).2.2.1 ∈ wsL_law) (hdg : decode cc pc = .ok (.getfield index, 3)) (kk : W p l e R s m args below meth c H locs 0 0 Q (F0 m (pc + 3) ls (.ref (G.2.2.1 2 0) :: rest))) : W p l e R s m args below meth c H locs 0 0 Q (F0 m pc ls (.ref (G.2.2.1 o 0) :: rest)) := zr_get (k := 3) cx hI (k7_0 hc) hS (z7_0 hc S) rfl inlX7 (by decide) hl rfl hdg kk
theorem g7_4 (cx : zCX p R s m args c own cc nL d G) (hI : zIW G s μ H locs) (hc : zc o = 7) (hS : μ o = S) (hl : Cond.fieldLink own index (TX7 4).1 (TX7 4).2.1 (TX7 4).2.2.1 ∈ wsL_law) (hdg : decode cc pc = .ok (.getfield index, 3)) (kk : W p l e R s m args below meth c H locs 0 0 Q (F0 m (pc + 3) ls (.ref (G.2.2.1 17 0) :: rest))) : W p l e R s m args below meth c H locs 0 0 Q (F0 m pc ls (.ref (G.2.2.1 o 0) :: rest)) := zr_get (k := 4) cx hI (k7_0 hc) hS (z7_0 hc S) rfl inlX7 (by decide) hl rfl hdg kk
theorem g7_5 (cx : zCX p R s m args c own cc nL d G) (hI : zIW G s μ H locs) (hc : zc o = 7) (hS : μ o = S) (hl : Cond.fieldLink own index (TX7 5).1 (TX7 5).2.1 (TX7 5).2.2.1 ∈ wsL_law) (hdg : decode cc pc = .ok (.getfield index, 3)) (kk : W p l e R s m args below meth c H locs 0 0 Q (F0 m (pc + 3) ls (.int (S.1 0 5) :: rest))) : W p l e R s m args below meth c H locs 0 0 Q (F0 m pc ls (.ref (G.2.2.1 o 0) :: rest)) := zr_get (k := 5) cx hI (k7_0 hc) hS (z7_0 hc S) rfl inlX7 (by decide) hl rfl hdg kk
theorem p7_5 {x : Int32} (cx : zCX p R s m args c own cc nL d G) (hI : zIW G s μ H locs) (hc : zc o = 7) (hS : μ o = S) (hb : narrow .boolean (.int x) = .int x) (hf : fits .boolean (.int x) = true) (hl : Cond.fieldLink own index (TX7 5).1 (TX7 5).2.1 (TX7 5).2.2.1 ∈ wsL_law) (hμ : zset μ o (zI S 0 5 x) = μ') (hdg : decode cc pc = .ok (.putfield index, 3)) (kk : ∀ (H1 : Heap) (locs1 : List Loc), zIW G s μ' H1 locs1 → W p l e R s m args below meth c H1 locs1 0 0 Q (F0 m (pc + 3) ls rest)) : W p l e R s m args below meth c H locs 0 0 Q (F0 m pc ls (.int x :: .ref (G.2.2.1 o 0) :: rest)) := zr_put (k := 5) (ty := .boolean) cx hI (k7_0 hc) hS (z7_0 hc S) rfl inlX7 tyX7_ok nmX7 (by decide) hl rfl rfl hb hf (Nat.le_of_ble_eq_true rfl) (z7_0 hc _) hμ hdg kk
theorem g7_6 (cx : zCX p R s m args c own cc nL d G) (hI : zIW G s μ H locs) (hc : zc o = 7) (hS : μ o = S) (hl : Cond.fieldLink own index (TX7 6).1 (TX7 6).2.1 (TX7 6).2.2.1 ∈ wsL_law) (hdg : decode cc pc = .ok (.getfield index, 3)) (kk : W p l e R s m args below meth c H locs 0 0 Q (F0 m (pc + 3) ls (.ref (G.2.2.1 20 0) :: rest))) : W p l e R s m args below meth c H locs 0 0 Q (F0 m pc ls (.ref (G.2.2.1 o 0) :: rest)) := zr_get (k := 6) cx hI (k7_0 hc) hS (z7_0 hc S) rfl inlX7 (by decide) hl rfl hdg kk
theorem g7_7 (cx : zCX p R s m args c own cc nL d G) (hI : zIW G s μ H locs) (hc : zc o = 7) (hS : μ o = S) (hl : Cond.fieldLink own index (TX7 7).1 (TX7 7).2.1 (TX7 7).2.2.1 ∈ wsL_law) (hdg : decode cc pc = .ok (.getfield index, 3)) (kk : W p l e R s m args below meth c H locs 0 0 Q (F0 m (pc + 3) ls (.ref (G.2.2.1 18 0) :: rest))) : W p l e R s m args below meth c H locs 0 0 Q (F0 m pc ls (.ref (G.2.2.1 o 0) :: rest)) := zr_get (k := 7) cx hI (k7_0 hc) hS (z7_0 hc S) rfl inlX7 (by decide) hl rfl hdg kk
theorem g7_8 (cx : zCX p R s m args c own cc nL d G) (hI : zIW G s μ H locs) (hc : zc o = 7) (hS : μ o = S) (hl : Cond.fieldLink own index (TX7 8).1 (TX7 8).2.1 (TX7 8).2.2.1 ∈ wsL_law) (hdg : decode cc pc = .ok (.getfield index, 3)) (kk : W p l e R s m args below meth c H locs 0 0 Q (F0 m (pc + 3) ls (.ref (G.2.2.1 21 0) :: rest))) : W p l e R s m args below meth c H locs 0 0 Q (F0 m pc ls (.ref (G.2.2.1 o 0) :: rest)) := zr_get (k := 8) cx hI (k7_0 hc) hS (z7_0 hc S) rfl inlX7 (by decide) hl rfl hdg kk
theorem g7_9 (cx : zCX p R s m args c own cc nL d G) (hI : zIW G s μ H locs) (hc : zc o = 7) (hS : μ o = S) (hl : Cond.fieldLink own index (TX7 9).1 (TX7 9).2.1 (TX7 9).2.2.1 ∈ wsL_law) (hdg : decode cc pc = .ok (.getfield index, 3)) (kk : W p l e R s m args below meth c H locs 0 0 Q (F0 m (pc + 3) ls (.ref (G.2.2.1 23 0) :: rest))) : W p l e R s m args below meth c H locs 0 0 Q (F0 m pc ls (.ref (G.2.2.1 o 0) :: rest)) := zr_get (k := 9) cx hI (k7_0 hc) hS (z7_0 hc S) rfl inlX7 (by decide) hl rfl hdg kk
theorem g7_10 (cx : zCX p R s m args c own cc nL d G) (hI : zIW G s μ H locs) (hc : zc o = 7) (hS : μ o = S) (hl : Cond.fieldLink own index (TX7 10).1 (TX7 10).2.1 (TX7 10).2.2.1 ∈ wsL_law) (hdg : decode cc pc = .ok (.getfield index, 3)) (kk : W p l e R s m args below meth c H locs 0 0 Q (F0 m (pc + 3) ls (.ref (G.2.2.1 o 11) :: rest))) : W p l e R s m args below meth c H locs 0 0 Q (F0 m pc ls (.ref (G.2.2.1 o 0) :: rest)) := zr_get (k := 10) cx hI (k7_0 hc) hS (z7_0 hc S) rfl inlX7 (by decide) hl rfl hdg kk
theorem g8_0 (cx : zCX p R s m args c own cc nL d G) (hI : zIW G s μ H locs) (hc : o = 29) (hS : μ o = S) (hl : Cond.fieldLink own index (TX8 0).1 (TX8 0).2.1 (TX8 0).2.2.1 ∈ wsL_law) (hdg : decode cc pc = .ok (.getfield index, 3)) (kk : W p l e R s m args below meth c H locs 0 0 Q (F0 m (pc + 3) ls (.ref (G.2.2.1 o 1) :: rest))) : W p l e R s m args below meth c H locs 0 0 Q (F0 m pc ls (.ref (G.2.2.1 o 0) :: rest)) := zr_get (k := 0) cx hI (k8_0 hc) hS (z8_0 hc S) rfl inlX8 (by decide) hl rfl hdg kk
theorem g8_1 (cx : zCX p R s m args c own cc nL d G) (hI : zIW G s μ H locs) (hc : o = 29) (hS : μ o = S) (hl : Cond.fieldLink own index (TX8 1).1 (TX8 1).2.1 (TX8 1).2.2.1 ∈ wsL_law) (hdg : decode cc pc = .ok (.getfield index, 3)) (kk : W p l e R s m args below meth c H locs 0 0 Q (F0 m (pc + 3) ls (.ref (G.2.2.1 o 2) :: rest))) : W p l e R s m args below meth c H locs 0 0 Q (F0 m pc ls (.ref (G.2.2.1 o 0) :: rest)) := zr_get (k := 1) cx hI (k8_0 hc) hS (z8_0 hc S) rfl inlX8 (by decide) hl rfl hdg kk
theorem g8_2 (cx : zCX p R s m args c own cc nL d G) (hI : zIW G s μ H locs) (hc : o = 29) (hS : μ o = S) (hl : Cond.fieldLink own index (TX8 2).1 (TX8 2).2.1 (TX8 2).2.2.1 ∈ wsL_law) (hdg : decode cc pc = .ok (.getfield index, 3)) (kk : W p l e R s m args below meth c H locs 0 0 Q (F0 m (pc + 3) ls (.int (S.1 0 2) :: rest))) : W p l e R s m args below meth c H locs 0 0 Q (F0 m pc ls (.ref (G.2.2.1 o 0) :: rest)) := zr_get (k := 2) cx hI (k8_0 hc) hS (z8_0 hc S) rfl inlX8 (by decide) hl rfl hdg kk
theorem p8_2 {x : Int32} (cx : zCX p R s m args c own cc nL d G) (hI : zIW G s μ H locs) (hc : o = 29) (hS : μ o = S) (hl : Cond.fieldLink own index (TX8 2).1 (TX8 2).2.1 (TX8 2).2.2.1 ∈ wsL_law) (hμ : zset μ o (zI S 0 2 x) = μ') (hdg : decode cc pc = .ok (.putfield index, 3)) (kk : ∀ (H1 : Heap) (locs1 : List Loc), zIW G s μ' H1 locs1 → W p l e R s m args below meth c H1 locs1 0 0 Q (F0 m (pc + 3) ls rest)) : W p l e R s m args below meth c H locs 0 0 Q (F0 m pc ls (.int x :: .ref (G.2.2.1 o 0) :: rest)) := zr_put (k := 2) (ty := .int) cx hI (k8_0 hc) hS (z8_0 hc S) rfl inlX8 tyX8_ok nmX8 (by decide) hl rfl rfl rfl rfl (Nat.le_of_ble_eq_true rfl) (z8_0 hc _) hμ hdg kk
theorem g8_3 (cx : zCX p R s m args c own cc nL d G) (hI : zIW G s μ H locs) (hc : o = 29) (hS : μ o = S) (hl : Cond.fieldLink own index (TX8 3).1 (TX8 3).2.1 (TX8 3).2.2.1 ∈ wsL_law) (hdg : decode cc pc = .ok (.getfield index, 3)) (kk : W p l e R s m args below meth c H locs 0 0 Q (F0 m (pc + 3) ls (.ref (G.2.2.1 o 4) :: rest))) : W p l e R s m args below meth c H locs 0 0 Q (F0 m pc ls (.ref (G.2.2.1 o 0) :: rest)) := zr_get (k := 3) cx hI (k8_0 hc) hS (z8_0 hc S) rfl inlX8 (by decide) hl rfl hdg kk
theorem g8_4 (cx : zCX p R s m args c own cc nL d G) (hI : zIW G s μ H locs) (hc : o = 29) (hS : μ o = S) (hl : Cond.fieldLink own index (TX8 4).1 (TX8 4).2.1 (TX8 4).2.2.1 ∈ wsL_law) (hdg : decode cc pc = .ok (.getfield index, 3)) (kk : W p l e R s m args below meth c H locs 0 0 Q (F0 m (pc + 3) ls (.ref (G.2.2.1 o 5) :: rest))) : W p l e R s m args below meth c H locs 0 0 Q (F0 m pc ls (.ref (G.2.2.1 o 0) :: rest)) := zr_get (k := 4) cx hI (k8_0 hc) hS (z8_0 hc S) rfl inlX8 (by decide) hl rfl hdg kk
theorem g8_5 (cx : zCX p R s m args c own cc nL d G) (hI : zIW G s μ H locs) (hc : o = 29) (hS : μ o = S) (hl : Cond.fieldLink own index (TX8 5).1 (TX8 5).2.1 (TX8 5).2.2.1 ∈ wsL_law) (hdg : decode cc pc = .ok (.getfield index, 3)) (kk : W p l e R s m args below meth c H locs 0 0 Q (F0 m (pc + 3) ls (.int (S.1 0 5) :: rest))) : W p l e R s m args below meth c H locs 0 0 Q (F0 m pc ls (.ref (G.2.2.1 o 0) :: rest)) := zr_get (k := 5) cx hI (k8_0 hc) hS (z8_0 hc S) rfl inlX8 (by decide) hl rfl hdg kk
theorem p8_5 {x : Int32} (cx : zCX p R s m args c own cc nL d G) (hI : zIW G s μ H locs) (hc : o = 29) (hS : μ o = S) (hl : Cond.fieldLink own index (TX8 5).1 (TX8 5).2.1 (TX8 5).2.2.1 ∈ wsL_law) (hμ : zset μ o (zI S 0 5 x) = μ') (hdg : decode cc pc = .ok (.putfield index, 3)) (kk : ∀ (H1 : Heap) (locs1 : List Loc), zIW G s μ' H1 locs1 → W p l e R s m args below meth c H1 locs1 0 0 Q (F0 m (pc + 3) ls rest)) : W p l e R s m args below meth c H locs 0 0 Q (F0 m pc ls (.int x :: .ref (G.2.2.1 o 0) :: rest)) := zr_put (k := 5) (ty := .int) cx hI (k8_0 hc) hS (z8_0 hc S) rfl inlX8 tyX8_ok nmX8 (by decide) hl rfl rfl rfl rfl (Nat.le_of_ble_eq_true rfl) (z8_0 hc _) hμ hdg kk
theorem g8_6 (cx : zCX p R s m args c own cc nL d G) (hI : zIW G s μ H locs) (hc : o = 29) (hS : μ o = S) (hl : Cond.fieldLink own index (TX8 6).1 (TX8 6).2.1 (TX8 6).2.2.1 ∈ wsL_law) (hdg : decode cc pc = .ok (.getfield index, 3)) (kk : W p l e R s m args below meth c H locs 0 0 Q (F0 m (pc + 3) ls (.ref (G.2.2.1 o 7) :: rest))) : W p l e R s m args below meth c H locs 0 0 Q (F0 m pc ls (.ref (G.2.2.1 o 0) :: rest)) := zr_get (k := 6) cx hI (k8_0 hc) hS (z8_0 hc S) rfl inlX8 (by decide) hl rfl hdg kk
theorem g8_7 (cx : zCX p R s m args c own cc nL d G) (hI : zIW G s μ H locs) (hc : o = 29) (hS : μ o = S) (hl : Cond.fieldLink own index (TX8 7).1 (TX8 7).2.1 (TX8 7).2.2.1 ∈ wsL_law) (hdg : decode cc pc = .ok (.getfield index, 3)) (kk : W p l e R s m args below meth c H locs 0 0 Q (F0 m (pc + 3) ls (.int (S.1 0 7) :: rest))) : W p l e R s m args below meth c H locs 0 0 Q (F0 m pc ls (.ref (G.2.2.1 o 0) :: rest)) := zr_get (k := 7) cx hI (k8_0 hc) hS (z8_0 hc S) rfl inlX8 (by decide) hl rfl hdg kk
theorem p8_7 {x : Int32} (cx : zCX p R s m args c own cc nL d G) (hI : zIW G s μ H locs) (hc : o = 29) (hS : μ o = S) (hl : Cond.fieldLink own index (TX8 7).1 (TX8 7).2.1 (TX8 7).2.2.1 ∈ wsL_law) (hμ : zset μ o (zI S 0 7 x) = μ') (hdg : decode cc pc = .ok (.putfield index, 3)) (kk : ∀ (H1 : Heap) (locs1 : List Loc), zIW G s μ' H1 locs1 → W p l e R s m args below meth c H1 locs1 0 0 Q (F0 m (pc + 3) ls rest)) : W p l e R s m args below meth c H locs 0 0 Q (F0 m pc ls (.int x :: .ref (G.2.2.1 o 0) :: rest)) := zr_put (k := 7) (ty := .int) cx hI (k8_0 hc) hS (z8_0 hc S) rfl inlX8 tyX8_ok nmX8 (by decide) hl rfl rfl rfl rfl (Nat.le_of_ble_eq_true rfl) (z8_0 hc _) hμ hdg kk
theorem g8_8 (cx : zCX p R s m args c own cc nL d G) (hI : zIW G s μ H locs) (hc : o = 29) (hS : μ o = S) (hl : Cond.fieldLink own index (TX8 8).1 (TX8 8).2.1 (TX8 8).2.2.1 ∈ wsL_law) (hdg : decode cc pc = .ok (.getfield index, 3)) (kk : W p l e R s m args below meth c H locs 0 0 Q (F0 m (pc + 3) ls (.ref (G.2.2.1 o 9) :: rest))) : W p l e R s m args below meth c H locs 0 0 Q (F0 m pc ls (.ref (G.2.2.1 o 0) :: rest)) := zr_get (k := 8) cx hI (k8_0 hc) hS (z8_0 hc S) rfl inlX8 (by decide) hl rfl hdg kk
theorem g8_9 (cx : zCX p R s m args c own cc nL d G) (hI : zIW G s μ H locs) (hc : o = 29) (hS : μ o = S) (hl : Cond.fieldLink own index (TX8 9).1 (TX8 9).2.1 (TX8 9).2.2.1 ∈ wsL_law) (hdg : decode cc pc = .ok (.getfield index, 3)) (kk : W p l e R s m args below meth c H locs 0 0 Q (F0 m (pc + 3) ls (.ref (G.2.2.1 o 10) :: rest))) : W p l e R s m args below meth c H locs 0 0 Q (F0 m pc ls (.ref (G.2.2.1 o 0) :: rest)) := zr_get (k := 9) cx hI (k8_0 hc) hS (z8_0 hc S) rfl inlX8 (by decide) hl rfl hdg kk
theorem g8_10 (cx : zCX p R s m args c own cc nL d G) (hI : zIW G s μ H locs) (hc : o = 29) (hS : μ o = S) (hl : Cond.fieldLink own index (TX8 10).1 (TX8 10).2.1 (TX8 10).2.2.1 ∈ wsL_law) (hdg : decode cc pc = .ok (.getfield index, 3)) (kk : W p l e R s m args below meth c H locs 0 0 Q (F0 m (pc + 3) ls (.ref (G.2.2.1 o 11) :: rest))) : W p l e R s m args below meth c H locs 0 0 Q (F0 m pc ls (.ref (G.2.2.1 o 0) :: rest)) := zr_get (k := 10) cx hI (k8_0 hc) hS (z8_0 hc S) rfl inlX8 (by decide) hl rfl hdg kk
theorem g8_11 (cx : zCX p R s m args c own cc nL d G) (hI : zIW G s μ H locs) (hc : o = 29) (hS : μ o = S) (hl : Cond.fieldLink own index (TX8 11).1 (TX8 11).2.1 (TX8 11).2.2.1 ∈ wsL_law) (hdg : decode cc pc = .ok (.getfield index, 3)) (kk : W p l e R s m args below meth c H locs 0 0 Q (F0 m (pc + 3) ls (.ref (G.2.2.1 o 12) :: rest))) : W p l e R s m args below meth c H locs 0 0 Q (F0 m pc ls (.ref (G.2.2.1 o 0) :: rest)) := zr_get (k := 11) cx hI (k8_0 hc) hS (z8_0 hc S) rfl inlX8 (by decide) hl rfl hdg kk
theorem g8_12 (cx : zCX p R s m args c own cc nL d G) (hI : zIW G s μ H locs) (hc : o = 29) (hS : μ o = S) (hl : Cond.fieldLink own index (TX8 12).1 (TX8 12).2.1 (TX8 12).2.2.1 ∈ wsL_law) (hdg : decode cc pc = .ok (.getfield index, 3)) (kk : W p l e R s m args below meth c H locs 0 0 Q (F0 m (pc + 3) ls (.ref (G.2.2.1 o 13) :: rest))) : W p l e R s m args below meth c H locs 0 0 Q (F0 m pc ls (.ref (G.2.2.1 o 0) :: rest)) := zr_get (k := 12) cx hI (k8_0 hc) hS (z8_0 hc S) rfl inlX8 (by decide) hl rfl hdg kk
theorem g8_13 (cx : zCX p R s m args c own cc nL d G) (hI : zIW G s μ H locs) (hc : o = 29) (hS : μ o = S) (hl : Cond.fieldLink own index (TX8 13).1 (TX8 13).2.1 (TX8 13).2.2.1 ∈ wsL_law) (hdg : decode cc pc = .ok (.getfield index, 3)) (kk : W p l e R s m args below meth c H locs 0 0 Q (F0 m (pc + 3) ls (.ref (G.2.2.1 o 14) :: rest))) : W p l e R s m args below meth c H locs 0 0 Q (F0 m pc ls (.ref (G.2.2.1 o 0) :: rest)) := zr_get (k := 13) cx hI (k8_0 hc) hS (z8_0 hc S) rfl inlX8 (by decide) hl rfl hdg kk
theorem g8_14 (cx : zCX p R s m args c own cc nL d G) (hI : zIW G s μ H locs) (hc : o = 29) (hS : μ o = S) (hl : Cond.fieldLink own index (TX8 14).1 (TX8 14).2.1 (TX8 14).2.2.1 ∈ wsL_law) (hdg : decode cc pc = .ok (.getfield index, 3)) (kk : W p l e R s m args below meth c H locs 0 0 Q (F0 m (pc + 3) ls (.ref (G.2.2.1 o 15) :: rest))) : W p l e R s m args below meth c H locs 0 0 Q (F0 m pc ls (.ref (G.2.2.1 o 0) :: rest)) := zr_get (k := 14) cx hI (k8_0 hc) hS (z8_0 hc S) rfl inlX8 (by decide) hl rfl hdg kk
theorem g8_15 (cx : zCX p R s m args c own cc nL d G) (hI : zIW G s μ H locs) (hc : o = 29) (hS : μ o = S) (hl : Cond.fieldLink own index (TX8 15).1 (TX8 15).2.1 (TX8 15).2.2.1 ∈ wsL_law) (hdg : decode cc pc = .ok (.getfield index, 3)) (kk : W p l e R s m args below meth c H locs 0 0 Q (F0 m (pc + 3) ls (.ref (G.2.2.1 o 16) :: rest))) : W p l e R s m args below meth c H locs 0 0 Q (F0 m pc ls (.ref (G.2.2.1 o 0) :: rest)) := zr_get (k := 15) cx hI (k8_0 hc) hS (z8_0 hc S) rfl inlX8 (by decide) hl rfl hdg kk
theorem g8_16 (cx : zCX p R s m args c own cc nL d G) (hI : zIW G s μ H locs) (hc : o = 29) (hS : μ o = S) (hl : Cond.fieldLink own index (TX8 16).1 (TX8 16).2.1 (TX8 16).2.2.1 ∈ wsL_law) (hdg : decode cc pc = .ok (.getfield index, 3)) (kk : W p l e R s m args below meth c H locs 0 0 Q (F0 m (pc + 3) ls (.ref (G.2.2.1 o 17) :: rest))) : W p l e R s m args below meth c H locs 0 0 Q (F0 m pc ls (.ref (G.2.2.1 o 0) :: rest)) := zr_get (k := 16) cx hI (k8_0 hc) hS (z8_0 hc S) rfl inlX8 (by decide) hl rfl hdg kk
theorem g8_17 (cx : zCX p R s m args c own cc nL d G) (hI : zIW G s μ H locs) (hc : o = 29) (hS : μ o = S) (hl : Cond.fieldLink own index (TX8 17).1 (TX8 17).2.1 (TX8 17).2.2.1 ∈ wsL_law) (hdg : decode cc pc = .ok (.getfield index, 3)) (kk : W p l e R s m args below meth c H locs 0 0 Q (F0 m (pc + 3) ls (.ref (G.2.2.1 o 18) :: rest))) : W p l e R s m args below meth c H locs 0 0 Q (F0 m pc ls (.ref (G.2.2.1 o 0) :: rest)) := zr_get (k := 17) cx hI (k8_0 hc) hS (z8_0 hc S) rfl inlX8 (by decide) hl rfl hdg kk
theorem g8_18 (cx : zCX p R s m args c own cc nL d G) (hI : zIW G s μ H locs) (hc : o = 29) (hS : μ o = S) (hl : Cond.fieldLink own index (TX8 18).1 (TX8 18).2.1 (TX8 18).2.2.1 ∈ wsL_law) (hdg : decode cc pc = .ok (.getfield index, 3)) (kk : W p l e R s m args below meth c H locs 0 0 Q (F0 m (pc + 3) ls (.ref (G.2.2.1 o 19) :: rest))) : W p l e R s m args below meth c H locs 0 0 Q (F0 m pc ls (.ref (G.2.2.1 o 0) :: rest)) := zr_get (k := 18) cx hI (k8_0 hc) hS (z8_0 hc S) rfl inlX8 (by decide) hl rfl hdg kk
theorem g8_19 (cx : zCX p R s m args c own cc nL d G) (hI : zIW G s μ H locs) (hc : o = 29) (hS : μ o = S) (hl : Cond.fieldLink own index (TX8 19).1 (TX8 19).2.1 (TX8 19).2.2.1 ∈ wsL_law) (hdg : decode cc pc = .ok (.getfield index, 3)) (kk : W p l e R s m args below meth c H locs 0 0 Q (F0 m (pc + 3) ls (.int (S.1 0 19) :: rest))) : W p l e R s m args below meth c H locs 0 0 Q (F0 m pc ls (.ref (G.2.2.1 o 0) :: rest)) := zr_get (k := 19) cx hI (k8_0 hc) hS (z8_0 hc S) rfl inlX8 (by decide) hl rfl hdg kk
theorem p8_19 {x : Int32} (cx : zCX p R s m args c own cc nL d G) (hI : zIW G s μ H locs) (hc : o = 29) (hS : μ o = S) (hl : Cond.fieldLink own index (TX8 19).1 (TX8 19).2.1 (TX8 19).2.2.1 ∈ wsL_law) (hμ : zset μ o (zI S 0 19 x) = μ') (hdg : decode cc pc = .ok (.putfield index, 3)) (kk : ∀ (H1 : Heap) (locs1 : List Loc), zIW G s μ' H1 locs1 → W p l e R s m args below meth c H1 locs1 0 0 Q (F0 m (pc + 3) ls rest)) : W p l e R s m args below meth c H locs 0 0 Q (F0 m pc ls (.int x :: .ref (G.2.2.1 o 0) :: rest)) := zr_put (k := 19) (ty := .int) cx hI (k8_0 hc) hS (z8_0 hc S) rfl inlX8 tyX8_ok nmX8 (by decide) hl rfl rfl rfl rfl (Nat.le_of_ble_eq_true rfl) (z8_0 hc _) hμ hdg kk
theorem g8_20 (cx : zCX p R s m args c own cc nL d G) (hI : zIW G s μ H locs) (hc : o = 29) (hS : μ o = S) (hl : Cond.fieldLink own index (TX8 20).1 (TX8 20).2.1 (TX8 20).2.2.1 ∈ wsL_law) (hdg : decode cc pc = .ok (.getfield index, 3)) (kk : W p l e R s m args below meth c H locs 0 0 Q (F0 m (pc + 3) ls (.int (S.1 0 20) :: rest))) : W p l e R s m args below meth c H locs 0 0 Q (F0 m pc ls (.ref (G.2.2.1 o 0) :: rest)) := zr_get (k := 20) cx hI (k8_0 hc) hS (z8_0 hc S) rfl inlX8 (by decide) hl rfl hdg kk
theorem p8_20 {x : Int32} (cx : zCX p R s m args c own cc nL d G) (hI : zIW G s μ H locs) (hc : o = 29) (hS : μ o = S) (hl : Cond.fieldLink own index (TX8 20).1 (TX8 20).2.1 (TX8 20).2.2.1 ∈ wsL_law) (hμ : zset μ o (zI S 0 20 x) = μ') (hdg : decode cc pc = .ok (.putfield index, 3)) (kk : ∀ (H1 : Heap) (locs1 : List Loc), zIW G s μ' H1 locs1 → W p l e R s m args below meth c H1 locs1 0 0 Q (F0 m (pc + 3) ls rest)) : W p l e R s m args below meth c H locs 0 0 Q (F0 m pc ls (.int x :: .ref (G.2.2.1 o 0) :: rest)) := zr_put (k := 20) (ty := .int) cx hI (k8_0 hc) hS (z8_0 hc S) rfl inlX8 tyX8_ok nmX8 (by decide) hl rfl rfl rfl rfl (Nat.le_of_ble_eq_true rfl) (z8_0 hc _) hμ hdg kk
theorem g8_21 (cx : zCX p R s m args c own cc nL d G) (hI : zIW G s μ H locs) (hc : o = 29) (hS : μ o = S) (hl : Cond.fieldLink own index (TX8 21).1 (TX8 21).2.1 (TX8 21).2.2.1 ∈ wsL_law) (hdg : decode cc pc = .ok (.getfield index, 3)) (kk : W p l e R s m args below meth c H locs 0 0 Q (F0 m (pc + 3) ls (.int (S.1 0 21) :: rest))) : W p l e R s m args below meth c H locs 0 0 Q (F0 m pc ls (.ref (G.2.2.1 o 0) :: rest)) := zr_get (k := 21) cx hI (k8_0 hc) hS (z8_0 hc S) rfl inlX8 (by decide) hl rfl hdg kk
theorem p8_21 {x : Int32} (cx : zCX p R s m args c own cc nL d G) (hI : zIW G s μ H locs) (hc : o = 29) (hS : μ o = S) (hl : Cond.fieldLink own index (TX8 21).1 (TX8 21).2.1 (TX8 21).2.2.1 ∈ wsL_law) (hμ : zset μ o (zI S 0 21 x) = μ') (hdg : decode cc pc = .ok (.putfield index, 3)) (kk : ∀ (H1 : Heap) (locs1 : List Loc), zIW G s μ' H1 locs1 → W p l e R s m args below meth c H1 locs1 0 0 Q (F0 m (pc + 3) ls rest)) : W p l e R s m args below meth c H locs 0 0 Q (F0 m pc ls (.int x :: .ref (G.2.2.1 o 0) :: rest)) := zr_put (k := 21) (ty := .int) cx hI (k8_0 hc) hS (z8_0 hc S) rfl inlX8 tyX8_ok nmX8 (by decide) hl rfl rfl rfl rfl (Nat.le_of_ble_eq_true rfl) (z8_0 hc _) hμ hdg kk
theorem g8_22 (cx : zCX p R s m args c own cc nL d G) (hI : zIW G s μ H locs) (hc : o = 29) (hS : μ o = S) (hl : Cond.fieldLink own index (TX8 22).1 (TX8 22).2.1 (TX8 22).2.2.1 ∈ wsL_law) (hdg : decode cc pc = .ok (.getfield index, 3)) (kk : W p l e R s m args below meth c H locs 0 0 Q (F0 m (pc + 3) ls (.ref (G.2.2.1 o 23) :: rest))) : W p l e R s m args below meth c H locs 0 0 Q (F0 m pc ls (.ref (G.2.2.1 o 0) :: rest)) := zr_get (k := 22) cx hI (k8_0 hc) hS (z8_0 hc S) rfl inlX8 (by decide) hl rfl hdg kk
theorem g8_23 (cx : zCX p R s m args c own cc nL d G) (hI : zIW G s μ H locs) (hc : o = 29) (hS : μ o = S) (hl : Cond.fieldLink own index (TX8 23).1 (TX8 23).2.1 (TX8 23).2.2.1 ∈ wsL_law) (hdg : decode cc pc = .ok (.getfield index, 3)) (kk : W p l e R s m args below meth c H locs 0 0 Q (F0 m (pc + 3) ls (.int (S.1 0 23) :: rest))) : W p l e R s m args below meth c H locs 0 0 Q (F0 m pc ls (.ref (G.2.2.1 o 0) :: rest)) := zr_get (k := 23) cx hI (k8_0 hc) hS (z8_0 hc S) rfl inlX8 (by decide) hl rfl hdg kk
theorem p8_23 {x : Int32} (cx : zCX p R s m args c own cc nL d G) (hI : zIW G s μ H locs) (hc : o = 29) (hS : μ o = S) (hl : Cond.fieldLink own index (TX8 23).1 (TX8 23).2.1 (TX8 23).2.2.1 ∈ wsL_law) (hμ : zset μ o (zI S 0 23 x) = μ') (hdg : decode cc pc = .ok (.putfield index, 3)) (kk : ∀ (H1 : Heap) (locs1 : List Loc), zIW G s μ' H1 locs1 → W p l e R s m args below meth c H1 locs1 0 0 Q (F0 m (pc + 3) ls rest)) : W p l e R s m args below meth c H locs 0 0 Q (F0 m pc ls (.int x :: .ref (G.2.2.1 o 0) :: rest)) := zr_put (k := 23) (ty := .int) cx hI (k8_0 hc) hS (z8_0 hc S) rfl inlX8 tyX8_ok nmX8 (by decide) hl rfl rfl rfl rfl (Nat.le_of_ble_eq_true rfl) (z8_0 hc _) hμ hdg kk
theorem g8_24 (cx : zCX p R s m args c own cc nL d G) (hI : zIW G s μ H locs) (hc : o = 29) (hS : μ o = S) (hl : Cond.fieldLink own index (TX8 24).1 (TX8 24).2.1 (TX8 24).2.2.1 ∈ wsL_law) (hdg : decode cc pc = .ok (.getfield index, 3)) (kk : W p l e R s m args below meth c H locs 0 0 Q (F0 m (pc + 3) ls (.ref (G.2.2.1 o 25) :: rest))) : W p l e R s m args below meth c H locs 0 0 Q (F0 m pc ls (.ref (G.2.2.1 o 0) :: rest)) := zr_get (k := 24) cx hI (k8_0 hc) hS (z8_0 hc S) rfl inlX8 (by decide) hl rfl hdg kk
theorem g8_25 (cx : zCX p R s m args c own cc nL d G) (hI : zIW G s μ H locs) (hc : o = 29) (hS : μ o = S) (hl : Cond.fieldLink own index (TX8 25).1 (TX8 25).2.1 (TX8 25).2.2.1 ∈ wsL_law) (hdg : decode cc pc = .ok (.getfield index, 3)) (kk : W p l e R s m args below meth c H locs 0 0 Q (F0 m (pc + 3) ls (.int (S.1 0 25) :: rest))) : W p l e R s m args below meth c H locs 0 0 Q (F0 m pc ls (.ref (G.2.2.1 o 0) :: rest)) := zr_get (k := 25) cx hI (k8_0 hc) hS (z8_0 hc S) rfl inlX8 (by decide) hl rfl hdg kk
theorem p8_25 {x : Int32} (cx : zCX p R s m args c own cc nL d G) (hI : zIW G s μ H locs) (hc : o = 29) (hS : μ o = S) (hl : Cond.fieldLink own index (TX8 25).1 (TX8 25).2.1 (TX8 25).2.2.1 ∈ wsL_law) (hμ : zset μ o (zI S 0 25 x) = μ') (hdg : decode cc pc = .ok (.putfield index, 3)) (kk : ∀ (H1 : Heap) (locs1 : List Loc), zIW G s μ' H1 locs1 → W p l e R s m args below meth c H1 locs1 0 0 Q (F0 m (pc + 3) ls rest)) : W p l e R s m args below meth c H locs 0 0 Q (F0 m pc ls (.int x :: .ref (G.2.2.1 o 0) :: rest)) := zr_put (k := 25) (ty := .int) cx hI (k8_0 hc) hS (z8_0 hc S) rfl inlX8 tyX8_ok nmX8 (by decide) hl rfl rfl rfl rfl (Nat.le_of_ble_eq_true rfl) (z8_0 hc _) hμ hdg kk
theorem g8_26 (cx : zCX p R s m args c own cc nL d G) (hI : zIW G s μ H locs) (hc : o = 29) (hS : μ o = S) (hl : Cond.fieldLink own index (TX8 26).1 (TX8 26).2.1 (TX8 26).2.2.1 ∈ wsL_law) (hdg : decode cc pc = .ok (.getfield index, 3)) (kk : W p l e R s m args below meth c H locs 0 0 Q (F0 m (pc + 3) ls (.int (S.1 0 26) :: rest))) : W p l e R s m args below meth c H locs 0 0 Q (F0 m pc ls (.ref (G.2.2.1 o 0) :: rest)) := zr_get (k := 26) cx hI (k8_0 hc) hS (z8_0 hc S) rfl inlX8 (by decide) hl rfl hdg kk
theorem p8_26 {x : Int32} (cx : zCX p R s m args c own cc nL d G) (hI : zIW G s μ H locs) (hc : o = 29) (hS : μ o = S) (hl : Cond.fieldLink own index (TX8 26).1 (TX8 26).2.1 (TX8 26).2.2.1 ∈ wsL_law) (hμ : zset μ o (zI S 0 26 x) = μ') (hdg : decode cc pc = .ok (.putfield index, 3)) (kk : ∀ (H1 : Heap) (locs1 : List Loc), zIW G s μ' H1 locs1 → W p l e R s m args below meth c H1 locs1 0 0 Q (F0 m (pc + 3) ls rest)) : W p l e R s m args below meth c H locs 0 0 Q (F0 m pc ls (.int x :: .ref (G.2.2.1 o 0) :: rest)) := zr_put (k := 26) (ty := .int) cx hI (k8_0 hc) hS (z8_0 hc S) rfl inlX8 tyX8_ok nmX8 (by decide) hl rfl rfl rfl rfl (Nat.le_of_ble_eq_true rfl) (z8_0 hc _) hμ hdg kk
end ZF
