theorem BX6_cg {E : zE} {f g : Nat → Nat} (h : ∀ j, j < 4 → f j = g j) : BX6 E f = BX6 E g := by
  unfold BX6
  rw [h 0 (by decide), h 1 (by decide), h 2 (by decide), h 3 (by decide)]
theorem BX5_cg {E : zE} {f g : Nat → Nat} (h : ∀ j, j < 2 → f j = g j) : BX5 E f = BX5 E g := by
  unfold BX5
  rw [h 0 (by decide), h 1 (by decide)]
theorem BX0_cg {E : zE} {k : Nat} {f g : Nat → Nat} (h : ∀ j, j < 2 → f j = g j) : BX0 E k f = BX0 E k g := by
  unfold BX0
  rw [h 0 (by decide), h 1 (by decide)]
theorem BX2_cg {E : zE} {f g : Nat → Nat} (h : ∀ j, j < 26 → f j = g j) : BX2 E f = BX2 E g := by
  unfold BX2
  rw [h 0 (by decide), h 1 (by decide), h 2 (by decide), h 6 (by decide), h 10 (by decide), h 14 (by decide), h 18 (by decide), h 22 (by decide), BX6_cg (f := fun j => f (2 + j)) (g := fun j => g (2 + j)) (fun j hj => h _ (by omega)), BX6_cg (f := fun j => f (6 + j)) (g := fun j => g (6 + j)) (fun j hj => h _ (by omega)), BX6_cg (f := fun j => f (10 + j)) (g := fun j => g (10 + j)) (fun j hj => h _ (by omega)), BX6_cg (f := fun j => f (14 + j)) (g := fun j => g (14 + j)) (fun j hj => h _ (by omega)), BX6_cg (f := fun j => f (18 + j)) (g := fun j => g (18 + j)) (fun j hj => h _ (by omega)), BX6_cg (f := fun j => f (22 + j)) (g := fun j => g (22 + j)) (fun j hj => h _ (by omega))]
theorem BX1_cg {E : zE} {f g : Nat → Nat} (h : ∀ j, j < 7 → f j = g j) : BX1 E f = BX1 E g := by
  unfold BX1
  rw [h 0 (by decide), h 1 (by decide), h 3 (by decide), BX0_cg (f := fun j => f (1 + j)) (g := fun j => g (1 + j)) (fun j hj => h _ (by omega)), BX6_cg (f := fun j => f (3 + j)) (g := fun j => g (3 + j)) (fun j hj => h _ (by omega))]
theorem BX3_cg {E : zE} {f g : Nat → Nat} (h : ∀ j, j < 17 → f j = g j) : BX3 E f = BX3 E g := by
  unfold BX3
  rw [h 0 (by decide), h 1 (by decide), h 2 (by decide), h 3 (by decide), h 4 (by decide), h 5 (by decide), h 6 (by decide), h 7 (by decide), h 8 (by decide), h 9 (by decide), h 10 (by decide), h 11 (by decide), h 12 (by decide), h 13 (by decide), h 14 (by decide), h 15 (by decide), h 16 (by decide)]
theorem BX4_cg {E : zE} {f g : Nat → Nat} (h : ∀ j, j < 24 → f j = g j) : BX4 E f = BX4 E g := by
  unfold BX4
  rw [h 0 (by decide), h 1 (by decide), h 18 (by decide), h 19 (by decide), h 20 (by decide), h 21 (by decide), h 22 (by decide), h 23 (by decide), BX3_cg (f := fun j => f (1 + j)) (g := fun j => g (1 + j)) (fun j hj => h _ (by omega))]
def zfl (b0 : Nat → Nat) (bs : List (Nat → Nat)) : Nat → Nat := fun i => if i < 100 then b0 i else (bs.getD (i / 100 - 1) (fun _ => 0)) (i % 100)
theorem zfl_at {b0 : Nat → Nat} {bs : List (Nat → Nat)} {j : Nat} (n k : Nat) (hn : n = 100 * (k + 1)) (hj : j < 100) : zfl b0 bs (n + j) = (bs.getD k (fun _ => 0)) j := by
  unfold zfl
  rw [if_neg (by omega), show (n + j) / 100 - 1 = k by omega, show (n + j) % 100 = j by omega]
def BX7 (E : zE) : (Nat → Nat) → va_W := fun a => [(a 0, .inr (7, [.ref (a 100), .ref (a 200), .ref (a 300), .ref (a 400), .ref (a 500), .int 0, .ref (a 600), .ref (a 700), .ref (a 800), .ref (a 900), .ref (a 1)])), (a 1, .inl (E.2 4, 4, .inr (.inr (.inr (.inr (va_up (va_up (va_up (va_up (fun _ => none) 0 (some (a 1000))) 1 (some (a 1100))) 2 (some (a 1200))) 3 (some (a 1300))))))))] ++ (BX5 E (fun j => a (1300 + j)) ++ (BX5 E (fun j => a (1200 + j)) ++ (BX5 E (fun j => a (1100 + j)) ++ (BX5 E (fun j => a (1000 + j)) ++ ((((((((BX6 E (fun j => a (100 + j)) ++ BX6 E (fun j => a (200 + j))) ++ BX2 E (fun j => a (300 + j))) ++ BX6 E (fun j => a (400 + j))) ++ BX2 E (fun j => a (500 + j))) ++ BX1 E (fun j => a (600 + j))) ++ BX0 E 64 (fun j => a (700 + j))) ++ BX3 E (fun j => a (800 + j))) ++ BX4 E (fun j => a (900 + j)))))))
set_option maxHeartbeats 8000000 in
set_option maxRecDepth 100000 in
theorem c_X7_init {l : Launch} {E : zE} (hRd : zRdH l E) {h0 sz : Nat} : zMC l E yX7_init cX7_init 2 3 123 1080 7 [.null, .null, .null, .null, .null, .int 0, .null, .null, .null, .null, .null] [] h0 sz (BX7 E) := by
  refine zMC.of (by decide) rfl (Nat.le_of_ble_eq_true rfl) (fun p e s m args below meth c Q ls A cx hin hP hD hS hl hret => ?_)
  have hx := cx.1
  have hb := cx.2.1
  have hl : lv_has ls 2 [(0, .ref h0)] := hl
  refine lv_aload_n hx hb dX7_init_0 rfl (lv_at hl 0 rfl) ?_
  refine zn_oi cx w_10 hl.1 (Nat.le_of_ble_eq_true rfl) (Nat.le_of_ble_eq_true rfl) dX7_init_1 ?_
  refine lv_aload_n hx hb dX7_init_4 rfl (lv_at hl 0 rfl) ?_
  refine zn_new 6 cx hP hD hS inlX6 tyX6_ok w_13 w_14 w_15 rfl dfX6 (Nat.le_of_ble_eq_true rfl) (Nat.le_of_ble_eq_true rfl) dX7_init_5 (fun q1 H hP hD hS => ?_)
  refine lv_dup hx hb dX7_init_8 rfl ?_
  refine zn_callN (X := [(h0, .inr (7, [.null, .null, .null, .null, .null, .int 0, .null, .null, .null, .null, .null]))]) (ext := []) cx hP hD hS (fun sz => c_X6_init) ⟨⟨rfl, by decide, by decide, by decide +kernel⟩, by decide, w_15, w_45⟩ w_44 rfl cx.2.2.2.2.2.1.2.1.1.1 ⟨Nat.le_of_ble_eq_true rfl, Nat.le_of_ble_eq_true rfl⟩ ⟨Nat.le_of_ble_eq_true rfl, Nat.le_of_ble_eq_true rfl⟩ rfl hl.1 rfl (Nat.le_of_ble_eq_true rfl) dX7_init_9 (fun a1 Hn locsn ha hPn hDn hSn => ?_)
  subst ha
  clear hP hD hS
  have hS := hSn
  obtain ⟨Y1, hY1⟩ : ∃ z : va_W, z = BX6 E a1 := ⟨_, rfl⟩
  have hP := hPn
  have hD := hDn
  rw [← hY1] at hP hD
  clear hPn hDn hSn
  refine zn_putF 0 0 cx hin hP hD hS inlX7 tyX7_ok nmX7 rfl rfl (by decide) w_16 rfl rfl rfl rfl rfl (Nat.le_of_ble_eq_true rfl) dX7_init_12 (fun H locs hP hD hS => ?_)
  have hP : va_P E.1 vwCl ([(h0, .inr (7, [.ref (a1 0), .null, .null, .null, .null, .int 0, .null, .null, .null, .null, .null]))] ++ Y1) _ := hP
  have hD : va_D A ([(h0, .inr (7, [.ref (a1 0), .null, .null, .null, .null, .int 0, .null, .null, .null, .null, .null]))] ++ Y1) := hD
  refine lv_aload_n hx hb dX7_init_15 rfl (lv_at hl 0 rfl) ?_
  refine zn_new 6 cx hP hD hS inlX6 tyX6_ok w_13 w_14 w_15 rfl dfX6 (Nat.le_of_ble_eq_true rfl) (Nat.le_of_ble_eq_true rfl) dX7_init_16 (fun q2 H hP hD hS => ?_)
  refine lv_dup hx hb dX7_init_19 rfl ?_
  refine zn_callN (X := [(h0, .inr (7, [.ref (a1 0), .null, .null, .null, .null, .int 0, .null, .null, .null, .null, .null]))] ++ Y1) (ext := []) cx hP hD hS (fun sz => c_X6_init) ⟨⟨rfl, by decide, by decide, by decide +kernel⟩, by decide, w_15, w_45⟩ w_44 rfl cx.2.2.2.2.2.1.2.1.1.1 ⟨Nat.le_of_ble_eq_true rfl, Nat.le_of_ble_eq_true rfl⟩ ⟨Nat.le_of_ble_eq_true rfl, Nat.le_of_ble_eq_true rfl⟩ rfl hl.1 rfl (Nat.le_of_ble_eq_true rfl) dX7_init_20 (fun a2 Hn locsn ha hPn hDn hSn => ?_)
  subst ha
  clear hP hD hS
  have hS := hSn
  obtain ⟨Y2, hY2⟩ : ∃ z : va_W, z = Y1 ++ BX6 E a2 := ⟨_, rfl⟩
  have hP := hPn
  have hD := hDn
  rw [List.append_assoc, ← hY2] at hP hD
  clear hPn hDn hSn
  refine zn_putF 1 0 cx hin hP hD hS inlX7 tyX7_ok nmX7 rfl rfl (by decide) w_17 rfl rfl rfl rfl rfl (Nat.le_of_ble_eq_true rfl) dX7_init_23 (fun H locs hP hD hS => ?_)
  have hP : va_P E.1 vwCl ([(h0, .inr (7, [.ref (a1 0), .ref (a2 0), .null, .null, .null, .int 0, .null, .null, .null, .null, .null]))] ++ Y2) _ := hP
  have hD : va_D A ([(h0, .inr (7, [.ref (a1 0), .ref (a2 0), .null, .null, .null, .int 0, .null, .null, .null, .null, .null]))] ++ Y2) := hD
  refine lv_aload_n hx hb dX7_init_26 rfl (lv_at hl 0 rfl) ?_
  refine zn_new 2 cx hP hD hS inlX2 tyX2_ok w_18 w_19 w_20 rfl dfX2 (Nat.le_of_ble_eq_true rfl) (Nat.le_of_ble_eq_true rfl) dX7_init_27 (fun q3 H hP hD hS => ?_)
  refine lv_dup hx hb dX7_init_30 rfl ?_
  refine zn_callI (X := [(h0, .inr (7, [.ref (a1 0), .ref (a2 0), .null, .null, .null, .int 0, .null, .null, .null, .null, .null]))] ++ Y2) (ext := []) cx hP hD hS (fun sz => c_X2_init) ⟨⟨rfl, by decide, by decide, by decide +kernel⟩, by decide, w_20, w_57⟩ w_56 rfl w_55 ⟨Nat.le_of_ble_eq_true rfl, Nat.le_of_ble_eq_true rfl⟩ ⟨Nat.le_of_ble_eq_true rfl, Nat.le_of_ble_eq_true rfl⟩ rfl hl.1 rfl (Nat.le_of_ble_eq_true rfl) dX7_init_31 (fun a3 Hn locsn ha hPn hDn hSn => ?_)
  subst ha
  clear hP hD hS
  have hS := hSn
  obtain ⟨Y3, hY3⟩ : ∃ z : va_W, z = Y2 ++ BX2 E a3 := ⟨_, rfl⟩
  have hP := hPn
  have hD := hDn
  rw [List.append_assoc, ← hY3] at hP hD
  clear hPn hDn hSn
  refine zn_putF 2 0 cx hin hP hD hS inlX7 tyX7_ok nmX7 rfl rfl (by decide) w_21 rfl rfl rfl rfl rfl (Nat.le_of_ble_eq_true rfl) dX7_init_34 (fun H locs hP hD hS => ?_)
  have hP : va_P E.1 vwCl ([(h0, .inr (7, [.ref (a1 0), .ref (a2 0), .ref (a3 0), .null, .null, .int 0, .null, .null, .null, .null, .null]))] ++ Y3) _ := hP
  have hD : va_D A ([(h0, .inr (7, [.ref (a1 0), .ref (a2 0), .ref (a3 0), .null, .null, .int 0, .null, .null, .null, .null, .null]))] ++ Y3) := hD
  refine lv_aload_n hx hb dX7_init_37 rfl (lv_at hl 0 rfl) ?_
  refine zn_new 6 cx hP hD hS inlX6 tyX6_ok w_13 w_14 w_15 rfl dfX6 (Nat.le_of_ble_eq_true rfl) (Nat.le_of_ble_eq_true rfl) dX7_init_38 (fun q4 H hP hD hS => ?_)
  refine lv_dup hx hb dX7_init_41 rfl ?_
  refine zn_callN (X := [(h0, .inr (7, [.ref (a1 0), .ref (a2 0), .ref (a3 0), .null, .null, .int 0, .null, .null, .null, .null, .null]))] ++ Y3) (ext := []) cx hP hD hS (fun sz => c_X6_init) ⟨⟨rfl, by decide, by decide, by decide +kernel⟩, by decide, w_15, w_45⟩ w_44 rfl cx.2.2.2.2.2.1.2.1.1.1 ⟨Nat.le_of_ble_eq_true rfl, Nat.le_of_ble_eq_true rfl⟩ ⟨Nat.le_of_ble_eq_true rfl, Nat.le_of_ble_eq_true rfl⟩ rfl hl.1 rfl (Nat.le_of_ble_eq_true rfl) dX7_init_42 (fun a4 Hn locsn ha hPn hDn hSn => ?_)
  subst ha
  clear hP hD hS
  have hS := hSn
  obtain ⟨Y4, hY4⟩ : ∃ z : va_W, z = Y3 ++ BX6 E a4 := ⟨_, rfl⟩
  have hP := hPn
  have hD := hDn
  rw [List.append_assoc, ← hY4] at hP hD
  clear hPn hDn hSn
  refine zn_putF 3 0 cx hin hP hD hS inlX7 tyX7_ok nmX7 rfl rfl (by decide) w_22 rfl rfl rfl rfl rfl (Nat.le_of_ble_eq_true rfl) dX7_init_45 (fun H locs hP hD hS => ?_)
  have hP : va_P E.1 vwCl ([(h0, .inr (7, [.ref (a1 0), .ref (a2 0), .ref (a3 0), .ref (a4 0), .null, .int 0, .null, .null, .null, .null, .null]))] ++ Y4) _ := hP
  have hD : va_D A ([(h0, .inr (7, [.ref (a1 0), .ref (a2 0), .ref (a3 0), .ref (a4 0), .null, .int 0, .null, .null, .null, .null, .null]))] ++ Y4) := hD
  refine lv_aload_n hx hb dX7_init_48 rfl (lv_at hl 0 rfl) ?_
  refine zn_new 2 cx hP hD hS inlX2 tyX2_ok w_18 w_19 w_20 rfl dfX2 (Nat.le_of_ble_eq_true rfl) (Nat.le_of_ble_eq_true rfl) dX7_init_49 (fun q5 H hP hD hS => ?_)
  refine lv_dup hx hb dX7_init_52 rfl ?_
  refine zn_callI (X := [(h0, .inr (7, [.ref (a1 0), .ref (a2 0), .ref (a3 0), .ref (a4 0), .null, .int 0, .null, .null, .null, .null, .null]))] ++ Y4) (ext := []) cx hP hD hS (fun sz => c_X2_init) ⟨⟨rfl, by decide, by decide, by decide +kernel⟩, by decide, w_20, w_57⟩ w_56 rfl w_55 ⟨Nat.le_of_ble_eq_true rfl, Nat.le_of_ble_eq_true rfl⟩ ⟨Nat.le_of_ble_eq_true rfl, Nat.le_of_ble_eq_true rfl⟩ rfl hl.1 rfl (Nat.le_of_ble_eq_true rfl) dX7_init_53 (fun a5 Hn locsn ha hPn hDn hSn => ?_)
  subst ha
  clear hP hD hS
  have hS := hSn
  obtain ⟨Y5, hY5⟩ : ∃ z : va_W, z = Y4 ++ BX2 E a5 := ⟨_, rfl⟩
  have hP := hPn
  have hD := hDn
  rw [List.append_assoc, ← hY5] at hP hD
  clear hPn hDn hSn
  refine zn_putF 4 0 cx hin hP hD hS inlX7 tyX7_ok nmX7 rfl rfl (by decide) w_23 rfl rfl rfl rfl rfl (Nat.le_of_ble_eq_true rfl) dX7_init_56 (fun H locs hP hD hS => ?_)
  have hP : va_P E.1 vwCl ([(h0, .inr (7, [.ref (a1 0), .ref (a2 0), .ref (a3 0), .ref (a4 0), .ref (a5 0), .int 0, .null, .null, .null, .null, .null]))] ++ Y5) _ := hP
  have hD : va_D A ([(h0, .inr (7, [.ref (a1 0), .ref (a2 0), .ref (a3 0), .ref (a4 0), .ref (a5 0), .int 0, .null, .null, .null, .null, .null]))] ++ Y5) := hD
  refine lv_aload_n hx hb dX7_init_59 rfl (lv_at hl 0 rfl) ?_
  refine zn_new 1 cx hP hD hS inlX1 tyX1_ok w_24 w_25 w_26 rfl dfX1 (Nat.le_of_ble_eq_true rfl) (Nat.le_of_ble_eq_true rfl) dX7_init_60 (fun q6 H hP hD hS => ?_)
  refine lv_dup hx hb dX7_init_63 rfl ?_
  refine zn_callN (X := [(h0, .inr (7, [.ref (a1 0), .ref (a2 0), .ref (a3 0), .ref (a4 0), .ref (a5 0), .int 0, .null, .null, .null, .null, .null]))] ++ Y5) (ext := []) cx hP hD hS (fun sz => c_X1_init) ⟨⟨rfl, by decide, by decide, by decide +kernel⟩, by decide, w_26, w_62⟩ w_61 rfl cx.2.2.2.2.2.1.2.1.2.1.1 ⟨Nat.le_of_ble_eq_true rfl, Nat.le_of_ble_eq_true rfl⟩ ⟨Nat.le_of_ble_eq_true rfl, Nat.le_of_ble_eq_true rfl⟩ rfl hl.1 rfl (Nat.le_of_ble_eq_true rfl) dX7_init_64 (fun a6 Hn locsn ha hPn hDn hSn => ?_)
  subst ha
  clear hP hD hS
  have hS := hSn
  obtain ⟨Y6, hY6⟩ : ∃ z : va_W, z = Y5 ++ BX1 E a6 := ⟨_, rfl⟩
  have hP := hPn
  have hD := hDn
  rw [List.append_assoc, ← hY6] at hP hD
  clear hPn hDn hSn
  refine zn_putF 6 0 cx hin hP hD hS inlX7 tyX7_ok nmX7 rfl rfl (by decide) w_27 rfl rfl rfl rfl rfl (Nat.le_of_ble_eq_true rfl) dX7_init_67 (fun H locs hP hD hS => ?_)
  have hP : va_P E.1 vwCl ([(h0, .inr (7, [.ref (a1 0), .ref (a2 0), .ref (a3 0), .ref (a4 0), .ref (a5 0), .int 0, .ref (a6 0), .null, .null, .null, .null]))] ++ Y6) _ := hP
  have hD : va_D A ([(h0, .inr (7, [.ref (a1 0), .ref (a2 0), .ref (a3 0), .ref (a4 0), .ref (a5 0), .int 0, .ref (a6 0), .null, .null, .null, .null]))] ++ Y6) := hD
  refine lv_aload_n hx hb dX7_init_70 rfl (lv_at hl 0 rfl) ?_
  refine zn_new 0 cx hP hD hS inlX0 tyX0_ok w_28 w_29 w_30 rfl dfX0 (Nat.le_of_ble_eq_true rfl) (Nat.le_of_ble_eq_true rfl) dX7_init_71 (fun q7 H hP hD hS => ?_)
  refine lv_dup hx hb dX7_init_74 rfl ?_
  refine lv_bipush (v := nI 64) hx hb dX7_init_75 (by decide) ?_
  refine zn_callI (X := [(h0, .inr (7, [.ref (a1 0), .ref (a2 0), .ref (a3 0), .ref (a4 0), .ref (a5 0), .int 0, .ref (a6 0), .null, .null, .null, .null]))] ++ Y6) (ext := [.int (nI 64)]) cx hP hD hS (fun sz => c_X0_init (k := 64) (by decide)) ⟨⟨rfl, by decide, by decide, by decide +kernel⟩, by decide, w_30, w_70⟩ w_69 rfl w_74 ⟨Nat.le_of_ble_eq_true rfl, Nat.le_of_ble_eq_true rfl⟩ ⟨Nat.le_of_ble_eq_true rfl, Nat.le_of_ble_eq_true rfl⟩ rfl hl.1 rfl (Nat.le_of_ble_eq_true rfl) dX7_init_77 (fun a7 Hn locsn ha hPn hDn hSn => ?_)
  subst ha
  clear hP hD hS
  have hS := hSn
  obtain ⟨Y7, hY7⟩ : ∃ z : va_W, z = Y6 ++ BX0 E 64 a7 := ⟨_, rfl⟩
  have hP := hPn
  have hD := hDn
  rw [List.append_assoc, ← hY7] at hP hD
  clear hPn hDn hSn
  refine zn_putF 7 0 cx hin hP hD hS inlX7 tyX7_ok nmX7 rfl rfl (by decide) w_31 rfl rfl rfl rfl rfl (Nat.le_of_ble_eq_true rfl) dX7_init_80 (fun H locs hP hD hS => ?_)
  have hP : va_P E.1 vwCl ([(h0, .inr (7, [.ref (a1 0), .ref (a2 0), .ref (a3 0), .ref (a4 0), .ref (a5 0), .int 0, .ref (a6 0), .ref (a7 0), .null, .null, .null]))] ++ Y7) _ := hP
  have hD : va_D A ([(h0, .inr (7, [.ref (a1 0), .ref (a2 0), .ref (a3 0), .ref (a4 0), .ref (a5 0), .int 0, .ref (a6 0), .ref (a7 0), .null, .null, .null]))] ++ Y7) := hD
  refine lv_aload_n hx hb dX7_init_83 rfl (lv_at hl 0 rfl) ?_
  refine zn_new 3 cx hP hD hS inlX3 tyX3_ok w_32 w_33 w_34 rfl dfX3 (Nat.le_of_ble_eq_true rfl) (Nat.le_of_ble_eq_true rfl) dX7_init_84 (fun q8 H hP hD hS => ?_)
  refine lv_dup hx hb dX7_init_87 rfl ?_
  refine zn_callN (X := [(h0, .inr (7, [.ref (a1 0), .ref (a2 0), .ref (a3 0), .ref (a4 0), .ref (a5 0), .int 0, .ref (a6 0), .ref (a7 0), .null, .null, .null]))] ++ Y7) (ext := []) cx hP hD hS (fun sz => hRd _ sz) ⟨⟨rfl, by decide, by decide, by decide +kernel⟩, by decide, w_34, w_76⟩ w_75 rfl cx.2.2.2.2.2.1.2.1.2.1.2.1 ⟨Nat.le_of_ble_eq_true rfl, Nat.le_of_ble_eq_true rfl⟩ ⟨Nat.le_of_ble_eq_true rfl, Nat.le_of_ble_eq_true rfl⟩ rfl hl.1 rfl (Nat.le_of_ble_eq_true rfl) dX7_init_88 (fun a8 Hn locsn ha hPn hDn hSn => ?_)
  subst ha
  clear hP hD hS
  have hS := hSn
  obtain ⟨Y8, hY8⟩ : ∃ z : va_W, z = Y7 ++ BX3 E a8 := ⟨_, rfl⟩
  have hP := hPn
  have hD := hDn
  rw [List.append_assoc, ← hY8] at hP hD
  clear hPn hDn hSn
  refine zn_putF 8 0 cx hin hP hD hS inlX7 tyX7_ok nmX7 rfl rfl (by decide) w_35 rfl rfl rfl rfl rfl (Nat.le_of_ble_eq_true rfl) dX7_init_91 (fun H locs hP hD hS => ?_)
  have hP : va_P E.1 vwCl ([(h0, .inr (7, [.ref (a1 0), .ref (a2 0), .ref (a3 0), .ref (a4 0), .ref (a5 0), .int 0, .ref (a6 0), .ref (a7 0), .ref (a8 0), .null, .null]))] ++ Y8) _ := hP
  have hD : va_D A ([(h0, .inr (7, [.ref (a1 0), .ref (a2 0), .ref (a3 0), .ref (a4 0), .ref (a5 0), .int 0, .ref (a6 0), .ref (a7 0), .ref (a8 0), .null, .null]))] ++ Y8) := hD
  refine lv_aload_n hx hb dX7_init_94 rfl (lv_at hl 0 rfl) ?_
  refine zn_new 4 cx hP hD hS inlX4 tyX4_ok w_36 w_37 w_38 rfl dfX4 (Nat.le_of_ble_eq_true rfl) (Nat.le_of_ble_eq_true rfl) dX7_init_95 (fun q9 H hP hD hS => ?_)
  refine lv_dup hx hb dX7_init_98 rfl ?_
  refine zn_callN (X := [(h0, .inr (7, [.ref (a1 0), .ref (a2 0), .ref (a3 0), .ref (a4 0), .ref (a5 0), .int 0, .ref (a6 0), .ref (a7 0), .ref (a8 0), .null, .null]))] ++ Y8) (ext := []) cx hP hD hS (fun sz => c_X4_init hRd) ⟨⟨rfl, by decide, by decide, by decide +kernel⟩, by decide, w_38, w_88⟩ w_87 rfl cx.2.2.2.2.2.1.2.1.2.2.1 ⟨Nat.le_of_ble_eq_true rfl, Nat.le_of_ble_eq_true rfl⟩ ⟨Nat.le_of_ble_eq_true rfl, Nat.le_of_ble_eq_true rfl⟩ rfl hl.1 rfl (Nat.le_of_ble_eq_true rfl) dX7_init_99 (fun a9 Hn locsn ha hPn hDn hSn => ?_)
  subst ha
  clear hP hD hS
  have hS := hSn
  obtain ⟨Y9, hY9⟩ : ∃ z : va_W, z = Y8 ++ BX4 E a9 := ⟨_, rfl⟩
  have hP := hPn
  have hD := hDn
  rw [List.append_assoc, ← hY9] at hP hD
  clear hPn hDn hSn
  refine zn_putF 9 0 cx hin hP hD hS inlX7 tyX7_ok nmX7 rfl rfl (by decide) w_39 rfl rfl rfl rfl rfl (Nat.le_of_ble_eq_true rfl) dX7_init_102 (fun H locs hP hD hS => ?_)
  have hP : va_P E.1 vwCl ([(h0, .inr (7, [.ref (a1 0), .ref (a2 0), .ref (a3 0), .ref (a4 0), .ref (a5 0), .int 0, .ref (a6 0), .ref (a7 0), .ref (a8 0), .ref (a9 0), .null]))] ++ Y9) _ := hP
  have hD : va_D A ([(h0, .inr (7, [.ref (a1 0), .ref (a2 0), .ref (a3 0), .ref (a4 0), .ref (a5 0), .int 0, .ref (a6 0), .ref (a7 0), .ref (a8 0), .ref (a9 0), .null]))] ++ Y9) := hD
  refine lv_aload_n hx hb dX7_init_105 rfl (lv_at hl 0 rfl) ?_
  refine lv_iconst (v := nI 4) hx hb dX7_init_106 (by decide) ?_
  refine zn_newq (k0 := 4) (N' := 4) 4 cx hP hD hS w_40 cx.2.2.2.2.2.1.2.2.2.1 rfl (by decide) (by decide) (Nat.le_of_ble_eq_true rfl) (Nat.le_of_ble_eq_true rfl) (Nat.le_of_ble_eq_true rfl) dX7_init_107 (fun q10 H hP hD hS => ?_)
  have hP : va_P E.1 vwCl ([(h0, .inr (7, [.ref (a1 0), .ref (a2 0), .ref (a3 0), .ref (a4 0), .ref (a5 0), .int 0, .ref (a6 0), .ref (a7 0), .ref (a8 0), .ref (a9 0), .null])), (q10, .inl (E.2 4, 4, .inr (.inr (.inr (.inr (fun _ => none))))))] ++ Y9) _ := va_P.swap hP
  have hD : va_D A ([(h0, .inr (7, [.ref (a1 0), .ref (a2 0), .ref (a3 0), .ref (a4 0), .ref (a5 0), .int 0, .ref (a6 0), .ref (a7 0), .ref (a8 0), .ref (a9 0), .null])), (q10, .inl (E.2 4, 4, .inr (.inr (.inr (.inr (fun _ => none))))))] ++ Y9) := va_D.swap hD
  refine zn_putF 10 0 cx hin hP hD hS inlX7 tyX7_ok nmX7 rfl rfl (by decide) w_41 rfl rfl rfl rfl rfl (Nat.le_of_ble_eq_true rfl) dX7_init_110 (fun H locs hP hD hS => ?_)
  have hP : va_P E.1 vwCl ([(h0, .inr (7, [.ref (a1 0), .ref (a2 0), .ref (a3 0), .ref (a4 0), .ref (a5 0), .int 0, .ref (a6 0), .ref (a7 0), .ref (a8 0), .ref (a9 0), .ref q10])), (q10, .inl (E.2 4, 4, .inr (.inr (.inr (.inr (fun _ => none))))))] ++ Y9) _ := hP
  have hD : va_D A ([(h0, .inr (7, [.ref (a1 0), .ref (a2 0), .ref (a3 0), .ref (a4 0), .ref (a5 0), .int 0, .ref (a6 0), .ref (a7 0), .ref (a8 0), .ref (a9 0), .ref q10])), (q10, .inl (E.2 4, 4, .inr (.inr (.inr (.inr (fun _ => none))))))] ++ Y9) := hD
  refine lv_iconst (v := nI 0) hx hb dX7_init_113 (by decide) ?_
  refine lv_istore_n (lv' := [(1, .int (nI 0)), (0, .ref h0)]) hx hb dX7_init_114 rfl hl (by decide) rfl (fun ls hl => ?_)
  have hl : lv_has ls 2 [(0, .ref h0), (1, .int (nI 0))] := lv_sub hl [1, 0] rfl
  refine lv_iload_n hx hb dX7_init_115 rfl (lv_at hl 1 rfl) ?_
  refine lv_iconst (v := nI 4) hx hb dX7_init_116 (by decide) ?_
  refine lv_icmp_ge (tgt := 139) hx hb dX7_init_117 (by decide) (fun c1 => absurd c1 (by decide)) (fun _ => ?_)
  refine lv_aload_n hx hb dX7_init_120 rfl (lv_at hl 0 rfl) ?_
  refine zn_get 10 0 cx hP inlX7 rfl rfl (by decide) w_41 rfl dX7_init_121 ?_
  refine lv_iload_n hx hb dX7_init_124 rfl (lv_at hl 1 rfl) ?_
  refine zn_new 5 cx hP hD hS inlX5 tyX5_ok w_40 w_42 w_43 rfl dfX5 (Nat.le_of_ble_eq_true rfl) (Nat.le_of_ble_eq_true rfl) dX7_init_125 (fun q11 H hP hD hS => ?_)
  refine lv_dup hx hb dX7_init_128 rfl ?_
  refine zn_callN (X := [(h0, .inr (7, [.ref (a1 0), .ref (a2 0), .ref (a3 0), .ref (a4 0), .ref (a5 0), .int 0, .ref (a6 0), .ref (a7 0), .ref (a8 0), .ref (a9 0), .ref q10])), (q10, .inl (E.2 4, 4, .inr (.inr (.inr (.inr (fun _ => none))))))] ++ Y9) (ext := []) cx hP hD hS (fun sz => c_X5_init) ⟨⟨rfl, by decide, by decide, by decide +kernel⟩, by decide, w_43, w_99⟩ w_98 rfl cx.2.2.2.2.2.1.2.1.2.2.2 ⟨Nat.le_of_ble_eq_true rfl, Nat.le_of_ble_eq_true rfl⟩ ⟨Nat.le_of_ble_eq_true rfl, Nat.le_of_ble_eq_true rfl⟩ rfl hl.1 rfl (Nat.le_of_ble_eq_true rfl) dX7_init_129 (fun a11 Hn locsn ha hPn hDn hSn => ?_)
  subst ha
  clear hP hD hS
  have hS := hSn
  have hP : va_P E.1 vwCl (([(h0, .inr (7, [.ref (a1 0), .ref (a2 0), .ref (a3 0), .ref (a4 0), .ref (a5 0), .int 0, .ref (a6 0), .ref (a7 0), .ref (a8 0), .ref (a9 0), .ref q10])), (q10, .inl (E.2 4, 4, .inr (.inr (.inr (.inr (fun _ => none))))))] ++ BX5 E a11) ++ Y9) _ := va_P.swap hPn
  have hD : va_D A (([(h0, .inr (7, [.ref (a1 0), .ref (a2 0), .ref (a3 0), .ref (a4 0), .ref (a5 0), .int 0, .ref (a6 0), .ref (a7 0), .ref (a8 0), .ref (a9 0), .ref q10])), (q10, .inl (E.2 4, 4, .inr (.inr (.inr (.inr (fun _ => none))))))] ++ BX5 E a11) ++ Y9) := va_D.swap hDn
  clear hPn hDn hSn
  refine va_astq (r := (RX5, TX5, 3)) hx hb cx.2.2.2.2.2.1.1 hP hD hS 1 4 2 5 rfl rfl rfl rfl (zin_nI (by decide) (by decide)) dX7_init_132 (fun H locs hP hD hS => ?_)
  have hP : va_P E.1 vwCl (([(h0, .inr (7, [.ref (a1 0), .ref (a2 0), .ref (a3 0), .ref (a4 0), .ref (a5 0), .int 0, .ref (a6 0), .ref (a7 0), .ref (a8 0), .ref (a9 0), .ref q10])), (q10, .inl (E.2 4, 4, .inr (.inr (.inr (.inr (va_up (fun _ => none) 0 (some (a11 0))))))))] ++ BX5 E a11) ++ Y9) _ := hP
  have hD : va_D A (([(h0, .inr (7, [.ref (a1 0), .ref (a2 0), .ref (a3 0), .ref (a4 0), .ref (a5 0), .int 0, .ref (a6 0), .ref (a7 0), .ref (a8 0), .ref (a9 0), .ref q10])), (q10, .inl (E.2 4, 4, .inr (.inr (.inr (.inr (va_up (fun _ => none) 0 (some (a11 0))))))))] ++ BX5 E a11) ++ Y9) := hD
  obtain ⟨Y10, hY10⟩ : ∃ z : va_W, z = BX5 E a11 ++ Y9 := ⟨_, rfl⟩
  have hP := hP
  have hD := hD
  rw [List.append_assoc, ← hY10] at hP hD
  refine lv_iinc (v := nI 1) (lv' := [(1, .int (nI 1)), (0, .ref h0)]) hx hb dX7_init_133 hl (k := 1) rfl (by decide) (by decide) rfl (fun ls hl => ?_)
  have hl : lv_has ls 2 [(0, .ref h0), (1, .int (nI 1))] := lv_sub hl [1, 0] rfl
  refine lv_goto (tgt := 115) hx hb dX7_init_136 (by decide) ?_
  refine lv_iload_n hx hb dX7_init_115 rfl (lv_at hl 1 rfl) ?_
  refine lv_iconst (v := nI 4) hx hb dX7_init_116 (by decide) ?_
  refine lv_icmp_ge (tgt := 139) hx hb dX7_init_117 (by decide) (fun c1 => absurd c1 (by decide)) (fun _ => ?_)
  refine lv_aload_n hx hb dX7_init_120 rfl (lv_at hl 0 rfl) ?_
  refine zn_get 10 0 cx hP inlX7 rfl rfl (by decide) w_41 rfl dX7_init_121 ?_
  refine lv_iload_n hx hb dX7_init_124 rfl (lv_at hl 1 rfl) ?_
  refine zn_new 5 cx hP hD hS inlX5 tyX5_ok w_40 w_42 w_43 rfl dfX5 (Nat.le_of_ble_eq_true rfl) (Nat.le_of_ble_eq_true rfl) dX7_init_125 (fun q12 H hP hD hS => ?_)
  refine lv_dup hx hb dX7_init_128 rfl ?_
  refine zn_callN (X := [(h0, .inr (7, [.ref (a1 0), .ref (a2 0), .ref (a3 0), .ref (a4 0), .ref (a5 0), .int 0, .ref (a6 0), .ref (a7 0), .ref (a8 0), .ref (a9 0), .ref q10])), (q10, .inl (E.2 4, 4, .inr (.inr (.inr (.inr (va_up (fun _ => none) 0 (some (a11 0))))))))] ++ Y10) (ext := []) cx hP hD hS (fun sz => c_X5_init) ⟨⟨rfl, by decide, by decide, by decide +kernel⟩, by decide, w_43, w_99⟩ w_98 rfl cx.2.2.2.2.2.1.2.1.2.2.2 ⟨Nat.le_of_ble_eq_true rfl, Nat.le_of_ble_eq_true rfl⟩ ⟨Nat.le_of_ble_eq_true rfl, Nat.le_of_ble_eq_true rfl⟩ rfl hl.1 rfl (Nat.le_of_ble_eq_true rfl) dX7_init_129 (fun a12 Hn locsn ha hPn hDn hSn => ?_)
  subst ha
  clear hP hD hS
  have hS := hSn
  have hP : va_P E.1 vwCl (([(h0, .inr (7, [.ref (a1 0), .ref (a2 0), .ref (a3 0), .ref (a4 0), .ref (a5 0), .int 0, .ref (a6 0), .ref (a7 0), .ref (a8 0), .ref (a9 0), .ref q10])), (q10, .inl (E.2 4, 4, .inr (.inr (.inr (.inr (va_up (fun _ => none) 0 (some (a11 0))))))))] ++ BX5 E a12) ++ Y10) _ := va_P.swap hPn
  have hD : va_D A (([(h0, .inr (7, [.ref (a1 0), .ref (a2 0), .ref (a3 0), .ref (a4 0), .ref (a5 0), .int 0, .ref (a6 0), .ref (a7 0), .ref (a8 0), .ref (a9 0), .ref q10])), (q10, .inl (E.2 4, 4, .inr (.inr (.inr (.inr (va_up (fun _ => none) 0 (some (a11 0))))))))] ++ BX5 E a12) ++ Y10) := va_D.swap hDn
  clear hPn hDn hSn
  refine va_astq (r := (RX5, TX5, 3)) hx hb cx.2.2.2.2.2.1.1 hP hD hS 1 4 2 5 rfl rfl rfl rfl (zin_nI (by decide) (by decide)) dX7_init_132 (fun H locs hP hD hS => ?_)
  have hP : va_P E.1 vwCl (([(h0, .inr (7, [.ref (a1 0), .ref (a2 0), .ref (a3 0), .ref (a4 0), .ref (a5 0), .int 0, .ref (a6 0), .ref (a7 0), .ref (a8 0), .ref (a9 0), .ref q10])), (q10, .inl (E.2 4, 4, .inr (.inr (.inr (.inr (va_up (va_up (fun _ => none) 0 (some (a11 0))) 1 (some (a12 0))))))))] ++ BX5 E a12) ++ Y10) _ := hP
  have hD : va_D A (([(h0, .inr (7, [.ref (a1 0), .ref (a2 0), .ref (a3 0), .ref (a4 0), .ref (a5 0), .int 0, .ref (a6 0), .ref (a7 0), .ref (a8 0), .ref (a9 0), .ref q10])), (q10, .inl (E.2 4, 4, .inr (.inr (.inr (.inr (va_up (va_up (fun _ => none) 0 (some (a11 0))) 1 (some (a12 0))))))))] ++ BX5 E a12) ++ Y10) := hD
  obtain ⟨Y11, hY11⟩ : ∃ z : va_W, z = BX5 E a12 ++ Y10 := ⟨_, rfl⟩
  have hP := hP
  have hD := hD
  rw [List.append_assoc, ← hY11] at hP hD
  refine lv_iinc (v := nI 2) (lv' := [(1, .int (nI 2)), (0, .ref h0)]) hx hb dX7_init_133 hl (k := 1) rfl (by decide) (by decide) rfl (fun ls hl => ?_)
  have hl : lv_has ls 2 [(0, .ref h0), (1, .int (nI 2))] := lv_sub hl [1, 0] rfl
  refine lv_goto (tgt := 115) hx hb dX7_init_136 (by decide) ?_
  refine lv_iload_n hx hb dX7_init_115 rfl (lv_at hl 1 rfl) ?_
  refine lv_iconst (v := nI 4) hx hb dX7_init_116 (by decide) ?_
  refine lv_icmp_ge (tgt := 139) hx hb dX7_init_117 (by decide) (fun c1 => absurd c1 (by decide)) (fun _ => ?_)
  refine lv_aload_n hx hb dX7_init_120 rfl (lv_at hl 0 rfl) ?_
  refine zn_get 10 0 cx hP inlX7 rfl rfl (by decide) w_41 rfl dX7_init_121 ?_
  refine lv_iload_n hx hb dX7_init_124 rfl (lv_at hl 1 rfl) ?_
  refine zn_new 5 cx hP hD hS inlX5 tyX5_ok w_40 w_42 w_43 rfl dfX5 (Nat.le_of_ble_eq_true rfl) (Nat.le_of_ble_eq_true rfl) dX7_init_125 (fun q13 H hP hD hS => ?_)
  refine lv_dup hx hb dX7_init_128 rfl ?_
  refine zn_callN (X := [(h0, .inr (7, [.ref (a1 0), .ref (a2 0), .ref (a3 0), .ref (a4 0), .ref (a5 0), .int 0, .ref (a6 0), .ref (a7 0), .ref (a8 0), .ref (a9 0), .ref q10])), (q10, .inl (E.2 4, 4, .inr (.inr (.inr (.inr (va_up (va_up (fun _ => none) 0 (some (a11 0))) 1 (some (a12 0))))))))] ++ Y11) (ext := []) cx hP hD hS (fun sz => c_X5_init) ⟨⟨rfl, by decide, by decide, by decide +kernel⟩, by decide, w_43, w_99⟩ w_98 rfl cx.2.2.2.2.2.1.2.1.2.2.2 ⟨Nat.le_of_ble_eq_true rfl, Nat.le_of_ble_eq_true rfl⟩ ⟨Nat.le_of_ble_eq_true rfl, Nat.le_of_ble_eq_true rfl⟩ rfl hl.1 rfl (Nat.le_of_ble_eq_true rfl) dX7_init_129 (fun a13 Hn locsn ha hPn hDn hSn => ?_)
  subst ha
  clear hP hD hS
  have hS := hSn
  have hP : va_P E.1 vwCl (([(h0, .inr (7, [.ref (a1 0), .ref (a2 0), .ref (a3 0), .ref (a4 0), .ref (a5 0), .int 0, .ref (a6 0), .ref (a7 0), .ref (a8 0), .ref (a9 0), .ref q10])), (q10, .inl (E.2 4, 4, .inr (.inr (.inr (.inr (va_up (va_up (fun _ => none) 0 (some (a11 0))) 1 (some (a12 0))))))))] ++ BX5 E a13) ++ Y11) _ := va_P.swap hPn
  have hD : va_D A (([(h0, .inr (7, [.ref (a1 0), .ref (a2 0), .ref (a3 0), .ref (a4 0), .ref (a5 0), .int 0, .ref (a6 0), .ref (a7 0), .ref (a8 0), .ref (a9 0), .ref q10])), (q10, .inl (E.2 4, 4, .inr (.inr (.inr (.inr (va_up (va_up (fun _ => none) 0 (some (a11 0))) 1 (some (a12 0))))))))] ++ BX5 E a13) ++ Y11) := va_D.swap hDn
  clear hPn hDn hSn
  refine va_astq (r := (RX5, TX5, 3)) hx hb cx.2.2.2.2.2.1.1 hP hD hS 1 4 2 5 rfl rfl rfl rfl (zin_nI (by decide) (by decide)) dX7_init_132 (fun H locs hP hD hS => ?_)
  have hP : va_P E.1 vwCl (([(h0, .inr (7, [.ref (a1 0), .ref (a2 0), .ref (a3 0), .ref (a4 0), .ref (a5 0), .int 0, .ref (a6 0), .ref (a7 0), .ref (a8 0), .ref (a9 0), .ref q10])), (q10, .inl (E.2 4, 4, .inr (.inr (.inr (.inr (va_up (va_up (va_up (fun _ => none) 0 (some (a11 0))) 1 (some (a12 0))) 2 (some (a13 0))))))))] ++ BX5 E a13) ++ Y11) _ := hP
  have hD : va_D A (([(h0, .inr (7, [.ref (a1 0), .ref (a2 0), .ref (a3 0), .ref (a4 0), .ref (a5 0), .int 0, .ref (a6 0), .ref (a7 0), .ref (a8 0), .ref (a9 0), .ref q10])), (q10, .inl (E.2 4, 4, .inr (.inr (.inr (.inr (va_up (va_up (va_up (fun _ => none) 0 (some (a11 0))) 1 (some (a12 0))) 2 (some (a13 0))))))))] ++ BX5 E a13) ++ Y11) := hD
  obtain ⟨Y12, hY12⟩ : ∃ z : va_W, z = BX5 E a13 ++ Y11 := ⟨_, rfl⟩
  have hP := hP
  have hD := hD
  rw [List.append_assoc, ← hY12] at hP hD
  refine lv_iinc (v := nI 3) (lv' := [(1, .int (nI 3)), (0, .ref h0)]) hx hb dX7_init_133 hl (k := 1) rfl (by decide) (by decide) rfl (fun ls hl => ?_)
  have hl : lv_has ls 2 [(0, .ref h0), (1, .int (nI 3))] := lv_sub hl [1, 0] rfl
  refine lv_goto (tgt := 115) hx hb dX7_init_136 (by decide) ?_
  refine lv_iload_n hx hb dX7_init_115 rfl (lv_at hl 1 rfl) ?_
  refine lv_iconst (v := nI 4) hx hb dX7_init_116 (by decide) ?_
  refine lv_icmp_ge (tgt := 139) hx hb dX7_init_117 (by decide) (fun c1 => absurd c1 (by decide)) (fun _ => ?_)
  refine lv_aload_n hx hb dX7_init_120 rfl (lv_at hl 0 rfl) ?_
  refine zn_get 10 0 cx hP inlX7 rfl rfl (by decide) w_41 rfl dX7_init_121 ?_
  refine lv_iload_n hx hb dX7_init_124 rfl (lv_at hl 1 rfl) ?_
  refine zn_new 5 cx hP hD hS inlX5 tyX5_ok w_40 w_42 w_43 rfl dfX5 (Nat.le_of_ble_eq_true rfl) (Nat.le_of_ble_eq_true rfl) dX7_init_125 (fun q14 H hP hD hS => ?_)
  refine lv_dup hx hb dX7_init_128 rfl ?_
  refine zn_callN (X := [(h0, .inr (7, [.ref (a1 0), .ref (a2 0), .ref (a3 0), .ref (a4 0), .ref (a5 0), .int 0, .ref (a6 0), .ref (a7 0), .ref (a8 0), .ref (a9 0), .ref q10])), (q10, .inl (E.2 4, 4, .inr (.inr (.inr (.inr (va_up (va_up (va_up (fun _ => none) 0 (some (a11 0))) 1 (some (a12 0))) 2 (some (a13 0))))))))] ++ Y12) (ext := []) cx hP hD hS (fun sz => c_X5_init) ⟨⟨rfl, by decide, by decide, by decide +kernel⟩, by decide, w_43, w_99⟩ w_98 rfl cx.2.2.2.2.2.1.2.1.2.2.2 ⟨Nat.le_of_ble_eq_true rfl, Nat.le_of_ble_eq_true rfl⟩ ⟨Nat.le_of_ble_eq_true rfl, Nat.le_of_ble_eq_true rfl⟩ rfl hl.1 rfl (Nat.le_of_ble_eq_true rfl) dX7_init_129 (fun a14 Hn locsn ha hPn hDn hSn => ?_)
  subst ha
  clear hP hD hS
  have hS := hSn
  have hP : va_P E.1 vwCl (([(h0, .inr (7, [.ref (a1 0), .ref (a2 0), .ref (a3 0), .ref (a4 0), .ref (a5 0), .int 0, .ref (a6 0), .ref (a7 0), .ref (a8 0), .ref (a9 0), .ref q10])), (q10, .inl (E.2 4, 4, .inr (.inr (.inr (.inr (va_up (va_up (va_up (fun _ => none) 0 (some (a11 0))) 1 (some (a12 0))) 2 (some (a13 0))))))))] ++ BX5 E a14) ++ Y12) _ := va_P.swap hPn
  have hD : va_D A (([(h0, .inr (7, [.ref (a1 0), .ref (a2 0), .ref (a3 0), .ref (a4 0), .ref (a5 0), .int 0, .ref (a6 0), .ref (a7 0), .ref (a8 0), .ref (a9 0), .ref q10])), (q10, .inl (E.2 4, 4, .inr (.inr (.inr (.inr (va_up (va_up (va_up (fun _ => none) 0 (some (a11 0))) 1 (some (a12 0))) 2 (some (a13 0))))))))] ++ BX5 E a14) ++ Y12) := va_D.swap hDn
  clear hPn hDn hSn
  refine va_astq (r := (RX5, TX5, 3)) hx hb cx.2.2.2.2.2.1.1 hP hD hS 1 4 2 5 rfl rfl rfl rfl (zin_nI (by decide) (by decide)) dX7_init_132 (fun H locs hP hD hS => ?_)
  have hP : va_P E.1 vwCl (([(h0, .inr (7, [.ref (a1 0), .ref (a2 0), .ref (a3 0), .ref (a4 0), .ref (a5 0), .int 0, .ref (a6 0), .ref (a7 0), .ref (a8 0), .ref (a9 0), .ref q10])), (q10, .inl (E.2 4, 4, .inr (.inr (.inr (.inr (va_up (va_up (va_up (va_up (fun _ => none) 0 (some (a11 0))) 1 (some (a12 0))) 2 (some (a13 0))) 3 (some (a14 0))))))))] ++ BX5 E a14) ++ Y12) _ := hP
  have hD : va_D A (([(h0, .inr (7, [.ref (a1 0), .ref (a2 0), .ref (a3 0), .ref (a4 0), .ref (a5 0), .int 0, .ref (a6 0), .ref (a7 0), .ref (a8 0), .ref (a9 0), .ref q10])), (q10, .inl (E.2 4, 4, .inr (.inr (.inr (.inr (va_up (va_up (va_up (va_up (fun _ => none) 0 (some (a11 0))) 1 (some (a12 0))) 2 (some (a13 0))) 3 (some (a14 0))))))))] ++ BX5 E a14) ++ Y12) := hD
  obtain ⟨Y13, hY13⟩ : ∃ z : va_W, z = BX5 E a14 ++ Y12 := ⟨_, rfl⟩
  have hP := hP
  have hD := hD
  rw [List.append_assoc, ← hY13] at hP hD
  refine lv_iinc (v := nI 4) (lv' := [(1, .int (nI 4)), (0, .ref h0)]) hx hb dX7_init_133 hl (k := 1) rfl (by decide) (by decide) rfl (fun ls hl => ?_)
  have hl : lv_has ls 2 [(0, .ref h0), (1, .int (nI 4))] := lv_sub hl [1, 0] rfl
  refine lv_goto (tgt := 115) hx hb dX7_init_136 (by decide) ?_
  refine lv_iload_n hx hb dX7_init_115 rfl (lv_at hl 1 rfl) ?_
  refine lv_iconst (v := nI 4) hx hb dX7_init_116 (by decide) ?_
  refine lv_icmp_ge (tgt := 139) hx hb dX7_init_117 (by decide) (fun _ => ?_) (fun c1 => absurd (by decide) c1)
  have hE : BX7 E (zfl (fun i => [h0, q10].getD i 0) [a1, a2, a3, a4, a5, a6, a7, a8, a9, a11, a12, a13, a14]) = [(h0, .inr (7, [.ref (a1 0), .ref (a2 0), .ref (a3 0), .ref (a4 0), .ref (a5 0), .int 0, .ref (a6 0), .ref (a7 0), .ref (a8 0), .ref (a9 0), .ref q10])), (q10, .inl (E.2 4, 4, .inr (.inr (.inr (.inr (va_up (va_up (va_up (va_up (fun _ => none) 0 (some (a11 0))) 1 (some (a12 0))) 2 (some (a13 0))) 3 (some (a14 0))))))))] ++ Y13 := by
    unfold BX7
    rw [BX6_cg (f := fun j => (zfl (fun i => [h0, q10].getD i 0) [a1, a2, a3, a4, a5, a6, a7, a8, a9, a11, a12, a13, a14]) (100 + j)) (g := a1) (fun j hj => zfl_at 100 0 rfl (by omega))]
    rw [BX6_cg (f := fun j => (zfl (fun i => [h0, q10].getD i 0) [a1, a2, a3, a4, a5, a6, a7, a8, a9, a11, a12, a13, a14]) (200 + j)) (g := a2) (fun j hj => zfl_at 200 1 rfl (by omega))]
    rw [BX2_cg (f := fun j => (zfl (fun i => [h0, q10].getD i 0) [a1, a2, a3, a4, a5, a6, a7, a8, a9, a11, a12, a13, a14]) (300 + j)) (g := a3) (fun j hj => zfl_at 300 2 rfl (by omega))]
    rw [BX6_cg (f := fun j => (zfl (fun i => [h0, q10].getD i 0) [a1, a2, a3, a4, a5, a6, a7, a8, a9, a11, a12, a13, a14]) (400 + j)) (g := a4) (fun j hj => zfl_at 400 3 rfl (by omega))]
    rw [BX2_cg (f := fun j => (zfl (fun i => [h0, q10].getD i 0) [a1, a2, a3, a4, a5, a6, a7, a8, a9, a11, a12, a13, a14]) (500 + j)) (g := a5) (fun j hj => zfl_at 500 4 rfl (by omega))]
    rw [BX1_cg (f := fun j => (zfl (fun i => [h0, q10].getD i 0) [a1, a2, a3, a4, a5, a6, a7, a8, a9, a11, a12, a13, a14]) (600 + j)) (g := a6) (fun j hj => zfl_at 600 5 rfl (by omega))]
    rw [BX0_cg (f := fun j => (zfl (fun i => [h0, q10].getD i 0) [a1, a2, a3, a4, a5, a6, a7, a8, a9, a11, a12, a13, a14]) (700 + j)) (g := a7) (fun j hj => zfl_at 700 6 rfl (by omega))]
    rw [BX3_cg (f := fun j => (zfl (fun i => [h0, q10].getD i 0) [a1, a2, a3, a4, a5, a6, a7, a8, a9, a11, a12, a13, a14]) (800 + j)) (g := a8) (fun j hj => zfl_at 800 7 rfl (by omega))]
    rw [BX4_cg (f := fun j => (zfl (fun i => [h0, q10].getD i 0) [a1, a2, a3, a4, a5, a6, a7, a8, a9, a11, a12, a13, a14]) (900 + j)) (g := a9) (fun j hj => zfl_at 900 8 rfl (by omega))]
    rw [BX5_cg (f := fun j => (zfl (fun i => [h0, q10].getD i 0) [a1, a2, a3, a4, a5, a6, a7, a8, a9, a11, a12, a13, a14]) (1000 + j)) (g := a11) (fun j hj => zfl_at 1000 9 rfl (by omega))]
    rw [BX5_cg (f := fun j => (zfl (fun i => [h0, q10].getD i 0) [a1, a2, a3, a4, a5, a6, a7, a8, a9, a11, a12, a13, a14]) (1100 + j)) (g := a12) (fun j hj => zfl_at 1100 10 rfl (by omega))]
    rw [BX5_cg (f := fun j => (zfl (fun i => [h0, q10].getD i 0) [a1, a2, a3, a4, a5, a6, a7, a8, a9, a11, a12, a13, a14]) (1200 + j)) (g := a13) (fun j hj => zfl_at 1200 11 rfl (by omega))]
    rw [BX5_cg (f := fun j => (zfl (fun i => [h0, q10].getD i 0) [a1, a2, a3, a4, a5, a6, a7, a8, a9, a11, a12, a13, a14]) (1300 + j)) (g := a14) (fun j hj => zfl_at 1300 12 rfl (by omega))]
    rw [hY13, hY12, hY11, hY10, hY9, hY8, hY7, hY6, hY5, hY4, hY3, hY2, hY1]
    rfl
  exact hret 139 _ _ _ (zfl (fun i => [h0, q10].getD i 0) [a1, a2, a3, a4, a5, a6, a7, a8, a9, a11, a12, a13, a14]) dX7_init_139 rfl (by rw [hE]; exact hP) (by rw [hE]; exact hD) hS
