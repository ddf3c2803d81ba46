def BX7 (E : zE) : (Nat → Nat) → va_W := fun a => (((((((((((((([(a 0, .inr (7, [.ref (a 100), .ref (a 200), .ref (a 300), .ref (a 400), .ref (a 500), .int 0, .ref (a 600), .ref (a 700), .ref (a 800), .ref (a 900), .ref (a 1)]))] ++ BX6 E (fun j => a (100 + j))) ++ BX6 E (fun j => a (200 + j))) ++ BX2 E (fun j => a (300 + j))) ++ BX6 E (fun j => a (400 + j))) ++ BX2 E (fun j => a (500 + j))) ++ BX1 E (fun j => a (600 + j))) ++ BX0 E 64 (fun j => a (700 + j))) ++ BX3 E (fun j => a (800 + j))) ++ BX4 E (fun j => a (900 + j))) ++ [(a 1, .inl (E.2 4, 4, .inr (.inr (.inr (.inr (va_up (va_up (va_up (va_up (fun _ => none) 0 (some (a 1000))) 1 (some (a 1100))) 2 (some (a 1200))) 3 (some (a 1300))))))))]) ++ BX5 E (fun j => a (1000 + j))) ++ BX5 E (fun j => a (1100 + j))) ++ BX5 E (fun j => a (1200 + j))) ++ BX5 E (fun j => a (1300 + j)))
set_option maxHeartbeats 8000000 in
set_option maxRecDepth 100000 in
theorem c_X7_init {l : Launch} {E : zE} (hRd : zRdH l E) {h0 sz : Nat} : zMC l E yX7_init cX7_init 2 3 123 1080 7 [.null, .null, .null, .null, .null, .int 0, .null, .null, .null, .null, .null] [] h0 sz (BX7 E) := by
  refine zMC.of (by decide) rfl (Nat.le_of_ble_eq_true rfl) (fun p e s m args below meth c Q ls A cx hin hP hD hS hl hret => ?_)
  have hx := cx.1
  have hb := cx.2.1
  have hl : lv_has ls 2 [(0, .ref h0)] := hl
  refine lv_aload_n hx hb dX7_init_0 rfl (lv_at hl 0 rfl) ?_
  refine zn_oi cx w_10 hl.1 (Nat.le_of_ble_eq_true rfl) (Nat.le_of_ble_eq_true rfl) dX7_init_1 ?_
  refine lv_aload_n hx hb dX7_init_4 rfl (lv_at hl 0 rfl) ?_
  refine zn_new 6 cx hP hD hS inlX6 tyX6_ok w_13 w_14 w_15 rfl dfX6 (Nat.le_of_ble_eq_true rfl) (Nat.le_of_ble_eq_true rfl) dX7_init_5 (fun q1 H hP hD hS => ?_)
  refine lv_dup hx hb dX7_init_8 rfl ?_
  refine zn_callN (X := [(h0, .inr (7, [.null, .null, .null, .null, .null, .int 0, .null, .null, .null, .null, .null]))]) (ext := []) cx hP hD hS (fun sz => c_X6_init) ⟨⟨rfl, by decide, by decide, by decide +kernel⟩, by decide, w_15, w_45⟩ w_44 rfl cx.2.2.2.2.2.1.2.1.1.1 ⟨Nat.le_of_ble_eq_true rfl, Nat.le_of_ble_eq_true rfl⟩ ⟨Nat.le_of_ble_eq_true rfl, Nat.le_of_ble_eq_true rfl⟩ rfl hl.1 rfl (Nat.le_of_ble_eq_true rfl) dX7_init_9 (fun a1 Hn locsn ha hPn hDn hSn => ?_)
  subst ha
  have hP := hPn
  have hD := hDn
  have hS := hSn
  have hP : va_P E.1 vwCl ([(h0, .inr (7, [.null, .null, .null, .null, .null, .int 0, .null, .null, .null, .null, .null]))] ++ BX6 E a1) _ := hP
  have hD : va_D A ([(h0, .inr (7, [.null, .null, .null, .null, .null, .int 0, .null, .null, .null, .null, .null]))] ++ BX6 E a1) := hD
  refine zn_putF 0 0 cx hin hP hD hS inlX7 tyX7_ok nmX7 rfl rfl (by decide) w_16 rfl rfl rfl rfl rfl (Nat.le_of_ble_eq_true rfl) dX7_init_12 (fun H locs hP hD hS => ?_)
  have hP : va_P E.1 vwCl ([(h0, .inr (7, [.ref (a1 0), .null, .null, .null, .null, .int 0, .null, .null, .null, .null, .null]))] ++ BX6 E a1) _ := hP
  have hD : va_D A ([(h0, .inr (7, [.ref (a1 0), .null, .null, .null, .null, .int 0, .null, .null, .null, .null, .null]))] ++ BX6 E a1) := hD
  refine lv_aload_n hx hb dX7_init_15 rfl (lv_at hl 0 rfl) ?_
  refine zn_new 6 cx hP hD hS inlX6 tyX6_ok w_13 w_14 w_15 rfl dfX6 (Nat.le_of_ble_eq_true rfl) (Nat.le_of_ble_eq_true rfl) dX7_init_16 (fun q2 H hP hD hS => ?_)
  refine lv_dup hx hb dX7_init_19 rfl ?_
  refine zn_callN (X := ([(h0, .inr (7, [.ref (a1 0), .null, .null, .null, .null, .int 0, .null, .null, .null, .null, .null]))] ++ BX6 E a1)) (ext := []) cx hP hD hS (fun sz => c_X6_init) ⟨⟨rfl, by decide, by decide, by decide +kernel⟩, by decide, w_15, w_45⟩ w_44 rfl cx.2.2.2.2.2.1.2.1.1.1 ⟨Nat.le_of_ble_eq_true rfl, Nat.le_of_ble_eq_true rfl⟩ ⟨Nat.le_of_ble_eq_true rfl, Nat.le_of_ble_eq_true rfl⟩ rfl hl.1 rfl (Nat.le_of_ble_eq_true rfl) dX7_init_20 (fun a2 Hn locsn ha hPn hDn hSn => ?_)
  subst ha
  have hP := hPn
  have hD := hDn
  have hS := hSn
  have hP : va_P E.1 vwCl (([(h0, .inr (7, [.ref (a1 0), .null, .null, .null, .null, .int 0, .null, .null, .null, .null, .null]))] ++ BX6 E a1) ++ BX6 E a2) _ := hP
  have hD : va_D A (([(h0, .inr (7, [.ref (a1 0), .null, .null, .null, .null, .int 0, .null, .null, .null, .null, .null]))] ++ BX6 E a1) ++ BX6 E a2) := hD
  refine zn_putF 1 0 cx hin hP hD hS inlX7 tyX7_ok nmX7 rfl rfl (by decide) w_17 rfl rfl rfl rfl rfl (Nat.le_of_ble_eq_true rfl) dX7_init_23 (fun H locs hP hD hS => ?_)
  have hP : va_P E.1 vwCl (([(h0, .inr (7, [.ref (a1 0), .ref (a2 0), .null, .null, .null, .int 0, .null, .null, .null, .null, .null]))] ++ BX6 E a1) ++ BX6 E a2) _ := hP
  have hD : va_D A (([(h0, .inr (7, [.ref (a1 0), .ref (a2 0), .null, .null, .null, .int 0, .null, .null, .null, .null, .null]))] ++ BX6 E a1) ++ BX6 E a2) := hD
  refine lv_aload_n hx hb dX7_init_26 rfl (lv_at hl 0 rfl) ?_
  refine zn_new 2 cx hP hD hS inlX2 tyX2_ok w_18 w_19 w_20 rfl dfX2 (Nat.le_of_ble_eq_true rfl) (Nat.le_of_ble_eq_true rfl) dX7_init_27 (fun q3 H hP hD hS => ?_)
  refine lv_dup hx hb dX7_init_30 rfl ?_
  refine zn_callI (X := (([(h0, .inr (7, [.ref (a1 0), .ref (a2 0), .null, .null, .null, .int 0, .null, .null, .null, .null, .null]))] ++ BX6 E a1) ++ BX6 E a2)) (ext := []) cx hP hD hS (fun sz => c_X2_init) ⟨⟨rfl, by decide, by decide, by decide +kernel⟩, by decide, w_20, w_57⟩ w_56 rfl w_55 ⟨Nat.le_of_ble_eq_true rfl, Nat.le_of_ble_eq_true rfl⟩ ⟨Nat.le_of_ble_eq_true rfl, Nat.le_of_ble_eq_true rfl⟩ rfl hl.1 rfl (Nat.le_of_ble_eq_true rfl) dX7_init_31 (fun a3 Hn locsn ha hPn hDn hSn => ?_)
  subst ha
  have hP := hPn
  have hD := hDn
  have hS := hSn
  have hP : va_P E.1 vwCl ((([(h0, .inr (7, [.ref (a1 0), .ref (a2 0), .null, .null, .null, .int 0, .null, .null, .null, .null, .null]))] ++ BX6 E a1) ++ BX6 E a2) ++ BX2 E a3) _ := hP
  have hD : va_D A ((([(h0, .inr (7, [.ref (a1 0), .ref (a2 0), .null, .null, .null, .int 0, .null, .null, .null, .null, .null]))] ++ BX6 E a1) ++ BX6 E a2) ++ BX2 E a3) := hD
  refine zn_putF 2 0 cx hin hP hD hS inlX7 tyX7_ok nmX7 rfl rfl (by decide) w_21 rfl rfl rfl rfl rfl (Nat.le_of_ble_eq_true rfl) dX7_init_34 (fun H locs hP hD hS => ?_)
  have hP : va_P E.1 vwCl ((([(h0, .inr (7, [.ref (a1 0), .ref (a2 0), .ref (a3 0), .null, .null, .int 0, .null, .null, .null, .null, .null]))] ++ BX6 E a1) ++ BX6 E a2) ++ BX2 E a3) _ := hP
  have hD : va_D A ((([(h0, .inr (7, [.ref (a1 0), .ref (a2 0), .ref (a3 0), .null, .null, .int 0, .null, .null, .null, .null, .null]))] ++ BX6 E a1) ++ BX6 E a2) ++ BX2 E a3) := hD
  refine lv_aload_n hx hb dX7_init_37 rfl (lv_at hl 0 rfl) ?_
  refine zn_new 6 cx hP hD hS inlX6 tyX6_ok w_13 w_14 w_15 rfl dfX6 (Nat.le_of_ble_eq_true rfl) (Nat.le_of_ble_eq_true rfl) dX7_init_38 (fun q4 H hP hD hS => ?_)
  refine lv_dup hx hb dX7_init_41 rfl ?_
  refine zn_callN (X := ((([(h0, .inr (7, [.ref (a1 0), .ref (a2 0), .ref (a3 0), .null, .null, .int 0, .null, .null, .null, .null, .null]))] ++ BX6 E a1) ++ BX6 E a2) ++ BX2 E a3)) (ext := []) cx hP hD hS (fun sz => c_X6_init) ⟨⟨rfl, by decide, by decide, by decide +kernel⟩, by decide, w_15, w_45⟩ w_44 rfl cx.2.2.2.2.2.1.2.1.1.1 ⟨Nat.le_of_ble_eq_true rfl, Nat.le_of_ble_eq_true rfl⟩ ⟨Nat.le_of_ble_eq_true rfl, Nat.le_of_ble_eq_true rfl⟩ rfl hl.1 rfl (Nat.le_of_ble_eq_true rfl) dX7_init_42 (fun a4 Hn locsn ha hPn hDn hSn => ?_)
  subst ha
  have hP := hPn
  have hD := hDn
  have hS := hSn
  have hP : va_P E.1 vwCl (((([(h0, .inr (7, [.ref (a1 0), .ref (a2 0), .ref (a3 0), .null, .null, .int 0, .null, .null, .null, .null, .null]))] ++ BX6 E a1) ++ BX6 E a2) ++ BX2 E a3) ++ BX6 E a4) _ := hP
  have hD : va_D A (((([(h0, .inr (7, [.ref (a1 0), .ref (a2 0), .ref (a3 0), .null, .null, .int 0, .null, .null, .null, .null, .null]))] ++ BX6 E a1) ++ BX6 E a2) ++ BX2 E a3) ++ BX6 E a4) := hD
  refine zn_putF 3 0 cx hin hP hD hS inlX7 tyX7_ok nmX7 rfl rfl (by decide) w_22 rfl rfl rfl rfl rfl (Nat.le_of_ble_eq_true rfl) dX7_init_45 (fun H locs hP hD hS => ?_)
  have hP : va_P E.1 vwCl (((([(h0, .inr (7, [.ref (a1 0), .ref (a2 0), .ref (a3 0), .ref (a4 0), .null, .int 0, .null, .null, .null, .null, .null]))] ++ BX6 E a1) ++ BX6 E a2) ++ BX2 E a3) ++ BX6 E a4) _ := hP
  have hD : va_D A (((([(h0, .inr (7, [.ref (a1 0), .ref (a2 0), .ref (a3 0), .ref (a4 0), .null, .int 0, .null, .null, .null, .null, .null]))] ++ BX6 E a1) ++ BX6 E a2) ++ BX2 E a3) ++ BX6 E a4) := hD
  refine lv_aload_n hx hb dX7_init_48 rfl (lv_at hl 0 rfl) ?_
  refine zn_new 2 cx hP hD hS inlX2 tyX2_ok w_18 w_19 w_20 rfl dfX2 (Nat.le_of_ble_eq_true rfl) (Nat.le_of_ble_eq_true rfl) dX7_init_49 (fun q5 H hP hD hS => ?_)
  refine lv_dup hx hb dX7_init_52 rfl ?_
  refine zn_callI (X := (((([(h0, .inr (7, [.ref (a1 0), .ref (a2 0), .ref (a3 0), .ref (a4 0), .null, .int 0, .null, .null, .null, .null, .null]))] ++ BX6 E a1) ++ BX6 E a2) ++ BX2 E a3) ++ BX6 E a4)) (ext := []) cx hP hD hS (fun sz => c_X2_init) ⟨⟨rfl, by decide, by decide, by decide +kernel⟩, by decide, w_20, w_57⟩ w_56 rfl w_55 ⟨Nat.le_of_ble_eq_true rfl, Nat.le_of_ble_eq_true rfl⟩ ⟨Nat.le_of_ble_eq_true rfl, Nat.le_of_ble_eq_true rfl⟩ rfl hl.1 rfl (Nat.le_of_ble_eq_true rfl) dX7_init_53 (fun a5 Hn locsn ha hPn hDn hSn => ?_)
  subst ha
  have hP := hPn
  have hD := hDn
  have hS := hSn
  have hP : va_P E.1 vwCl ((((([(h0, .inr (7, [.ref (a1 0), .ref (a2 0), .ref (a3 0), .ref (a4 0), .null, .int 0, .null, .null, .null, .null, .null]))] ++ BX6 E a1) ++ BX6 E a2) ++ BX2 E a3) ++ BX6 E a4) ++ BX2 E a5) _ := hP
  have hD : va_D A ((((([(h0, .inr (7, [.ref (a1 0), .ref (a2 0), .ref (a3 0), .ref (a4 0), .null, .int 0, .null, .null, .null, .null, .null]))] ++ BX6 E a1) ++ BX6 E a2) ++ BX2 E a3) ++ BX6 E a4) ++ BX2 E a5) := hD
  refine zn_putF 4 0 cx hin hP hD hS inlX7 tyX7_ok nmX7 rfl rfl (by decide) w_23 rfl rfl rfl rfl rfl (Nat.le_of_ble_eq_true rfl) dX7_init_56 (fun H locs hP hD hS => ?_)
  have hP : va_P E.1 vwCl ((((([(h0, .inr (7, [.ref (a1 0), .ref (a2 0), .ref (a3 0), .ref (a4 0), .ref (a5 0), .int 0, .null, .null, .null, .null, .null]))] ++ BX6 E a1) ++ BX6 E a2) ++ BX2 E a3) ++ BX6 E a4) ++ BX2 E a5) _ := hP
  have hD : va_D A ((((([(h0, .inr (7, [.ref (a1 0), .ref (a2 0), .ref (a3 0), .ref (a4 0), .ref (a5 0), .int 0, .null, .null, .null, .null, .null]))] ++ BX6 E a1) ++ BX6 E a2) ++ BX2 E a3) ++ BX6 E a4) ++ BX2 E a5) := hD
  refine lv_aload_n hx hb dX7_init_59 rfl (lv_at hl 0 rfl) ?_
  refine zn_new 1 cx hP hD hS inlX1 tyX1_ok w_24 w_25 w_26 rfl dfX1 (Nat.le_of_ble_eq_true rfl) (Nat.le_of_ble_eq_true rfl) dX7_init_60 (fun q6 H hP hD hS => ?_)
  refine lv_dup hx hb dX7_init_63 rfl ?_
  refine zn_callN (X := ((((([(h0, .inr (7, [.ref (a1 0), .ref (a2 0), .ref (a3 0), .ref (a4 0), .ref (a5 0), .int 0, .null, .null, .null, .null, .null]))] ++ BX6 E a1) ++ BX6 E a2) ++ BX2 E a3) ++ BX6 E a4) ++ BX2 E a5)) (ext := []) cx hP hD hS (fun sz => c_X1_init) ⟨⟨rfl, by decide, by decide, by decide +kernel⟩, by decide, w_26, w_62⟩ w_61 rfl cx.2.2.2.2.2.1.2.1.2.1.1 ⟨Nat.le_of_ble_eq_true rfl, Nat.le_of_ble_eq_true rfl⟩ ⟨Nat.le_of_ble_eq_true rfl, Nat.le_of_ble_eq_true rfl⟩ rfl hl.1 rfl (Nat.le_of_ble_eq_true rfl) dX7_init_64 (fun a6 Hn locsn ha hPn hDn hSn => ?_)
  subst ha
  have hP := hPn
  have hD := hDn
  have hS := hSn
  have hP : va_P E.1 vwCl (((((([(h0, .inr (7, [.ref (a1 0), .ref (a2 0), .ref (a3 0), .ref (a4 0), .ref (a5 0), .int 0, .null, .null, .null, .null, .null]))] ++ BX6 E a1) ++ BX6 E a2) ++ BX2 E a3) ++ BX6 E a4) ++ BX2 E a5) ++ BX1 E a6) _ := hP
  have hD : va_D A (((((([(h0, .inr (7, [.ref (a1 0), .ref (a2 0), .ref (a3 0), .ref (a4 0), .ref (a5 0), .int 0, .null, .null, .null, .null, .null]))] ++ BX6 E a1) ++ BX6 E a2) ++ BX2 E a3) ++ BX6 E a4) ++ BX2 E a5) ++ BX1 E a6) := hD
  refine zn_putF 6 0 cx hin hP hD hS inlX7 tyX7_ok nmX7 rfl rfl (by decide) w_27 rfl rfl rfl rfl rfl (Nat.le_of_ble_eq_true rfl) dX7_init_67 (fun H locs hP hD hS => ?_)
  have hP : va_P E.1 vwCl (((((([(h0, .inr (7, [.ref (a1 0), .ref (a2 0), .ref (a3 0), .ref (a4 0), .ref (a5 0), .int 0, .ref (a6 0), .null, .null, .null, .null]))] ++ BX6 E a1) ++ BX6 E a2) ++ BX2 E a3) ++ BX6 E a4) ++ BX2 E a5) ++ BX1 E a6) _ := hP
  have hD : va_D A (((((([(h0, .inr (7, [.ref (a1 0), .ref (a2 0), .ref (a3 0), .ref (a4 0), .ref (a5 0), .int 0, .ref (a6 0), .null, .null, .null, .null]))] ++ BX6 E a1) ++ BX6 E a2) ++ BX2 E a3) ++ BX6 E a4) ++ BX2 E a5) ++ BX1 E a6) := hD
  refine lv_aload_n hx hb dX7_init_70 rfl (lv_at hl 0 rfl) ?_
  refine zn_new 0 cx hP hD hS inlX0 tyX0_ok w_28 w_29 w_30 rfl dfX0 (Nat.le_of_ble_eq_true rfl) (Nat.le_of_ble_eq_true rfl) dX7_init_71 (fun q7 H hP hD hS => ?_)
  refine lv_dup hx hb dX7_init_74 rfl ?_
  refine lv_bipush (v := nI 64) hx hb dX7_init_75 (by decide) ?_
  refine zn_callI (X := (((((([(h0, .inr (7, [.ref (a1 0), .ref (a2 0), .ref (a3 0), .ref (a4 0), .ref (a5 0), .int 0, .ref (a6 0), .null, .null, .null, .null]))] ++ BX6 E a1) ++ BX6 E a2) ++ BX2 E a3) ++ BX6 E a4) ++ BX2 E a5) ++ BX1 E a6)) (ext := [.int (nI 64)]) cx hP hD hS (fun sz => c_X0_init (k := 64) (by decide)) ⟨⟨rfl, by decide, by decide, by decide +kernel⟩, by decide, w_30, w_70⟩ w_69 rfl w_74 ⟨Nat.le_of_ble_eq_true rfl, Nat.le_of_ble_eq_true rfl⟩ ⟨Nat.le_of_ble_eq_true rfl, Nat.le_of_ble_eq_true rfl⟩ rfl hl.1 rfl (Nat.le_of_ble_eq_true rfl) dX7_init_77 (fun a7 Hn locsn ha hPn hDn hSn => ?_)
  subst ha
  have hP := hPn
  have hD := hDn
  have hS := hSn
  have hP : va_P E.1 vwCl ((((((([(h0, .inr (7, [.ref (a1 0), .ref (a2 0), .ref (a3 0), .ref (a4 0), .ref (a5 0), .int 0, .ref (a6 0), .null, .null, .null, .null]))] ++ BX6 E a1) ++ BX6 E a2) ++ BX2 E a3) ++ BX6 E a4) ++ BX2 E a5) ++ BX1 E a6) ++ BX0 E 64 a7) _ := hP
  have hD : va_D A ((((((([(h0, .inr (7, [.ref (a1 0), .ref (a2 0), .ref (a3 0), .ref (a4 0), .ref (a5 0), .int 0, .ref (a6 0), .null, .null, .null, .null]))] ++ BX6 E a1) ++ BX6 E a2) ++ BX2 E a3) ++ BX6 E a4) ++ BX2 E a5) ++ BX1 E a6) ++ BX0 E 64 a7) := hD
  refine zn_putF 7 0 cx hin hP hD hS inlX7 tyX7_ok nmX7 rfl rfl (by decide) w_31 rfl rfl rfl rfl rfl (Nat.le_of_ble_eq_true rfl) dX7_init_80 (fun H locs hP hD hS => ?_)
  have hP : va_P E.1 vwCl ((((((([(h0, .inr (7, [.ref (a1 0), .ref (a2 0), .ref (a3 0), .ref (a4 0), .ref (a5 0), .int 0, .ref (a6 0), .ref (a7 0), .null, .null, .null]))] ++ BX6 E a1) ++ BX6 E a2) ++ BX2 E a3) ++ BX6 E a4) ++ BX2 E a5) ++ BX1 E a6) ++ BX0 E 64 a7) _ := hP
  have hD : va_D A ((((((([(h0, .inr (7, [.ref (a1 0), .ref (a2 0), .ref (a3 0), .ref (a4 0), .ref (a5 0), .int 0, .ref (a6 0), .ref (a7 0), .null, .null, .null]))] ++ BX6 E a1) ++ BX6 E a2) ++ BX2 E a3) ++ BX6 E a4) ++ BX2 E a5) ++ BX1 E a6) ++ BX0 E 64 a7) := hD
  refine lv_aload_n hx hb dX7_init_83 rfl (lv_at hl 0 rfl) ?_
  refine zn_new 3 cx hP hD hS inlX3 tyX3_ok w_32 w_33 w_34 rfl dfX3 (Nat.le_of_ble_eq_true rfl) (Nat.le_of_ble_eq_true rfl) dX7_init_84 (fun q8 H hP hD hS => ?_)
  refine lv_dup hx hb dX7_init_87 rfl ?_
  refine zn_callN (X := ((((((([(h0, .inr (7, [.ref (a1 0), .ref (a2 0), .ref (a3 0), .ref (a4 0), .ref (a5 0), .int 0, .ref (a6 0), .ref (a7 0), .null, .null, .null]))] ++ BX6 E a1) ++ BX6 E a2) ++ BX2 E a3) ++ BX6 E a4) ++ BX2 E a5) ++ BX1 E a6) ++ BX0 E 64 a7)) (ext := []) cx hP hD hS (fun sz => hRd _ sz) ⟨⟨rfl, by decide, by decide, by decide +kernel⟩, by decide, w_34, w_76⟩ w_75 rfl cx.2.2.2.2.2.1.2.1.2.1.2.1 ⟨Nat.le_of_ble_eq_true rfl, Nat.le_of_ble_eq_true rfl⟩ ⟨Nat.le_of_ble_eq_true rfl, Nat.le_of_ble_eq_true rfl⟩ rfl hl.1 rfl (Nat.le_of_ble_eq_true rfl) dX7_init_88 (fun a8 Hn locsn ha hPn hDn hSn => ?_)
  subst ha
  have hP := hPn
  have hD := hDn
  have hS := hSn
  have hP : va_P E.1 vwCl (((((((([(h0, .inr (7, [.ref (a1 0), .ref (a2 0), .ref (a3 0), .ref (a4 0), .ref (a5 0), .int 0, .ref (a6 0), .ref (a7 0), .null, .null, .null]))] ++ BX6 E a1) ++ BX6 E a2) ++ BX2 E a3) ++ BX6 E a4) ++ BX2 E a5) ++ BX1 E a6) ++ BX0 E 64 a7) ++ BX3 E a8) _ := hP
  have hD : va_D A (((((((([(h0, .inr (7, [.ref (a1 0), .ref (a2 0), .ref (a3 0), .ref (a4 0), .ref (a5 0), .int 0, .ref (a6 0), .ref (a7 0), .null, .null, .null]))] ++ BX6 E a1) ++ BX6 E a2) ++ BX2 E a3) ++ BX6 E a4) ++ BX2 E a5) ++ BX1 E a6) ++ BX0 E 64 a7) ++ BX3 E a8) := hD
  refine zn_putF 8 0 cx hin hP hD hS inlX7 tyX7_ok nmX7 rfl rfl (by decide) w_35 rfl rfl rfl rfl rfl (Nat.le_of_ble_eq_true rfl) dX7_init_91 (fun H locs hP hD hS => ?_)
  have hP : va_P E.1 vwCl (((((((([(h0, .inr (7, [.ref (a1 0), .ref (a2 0), .ref (a3 0), .ref (a4 0), .ref (a5 0), .int 0, .ref (a6 0), .ref (a7 0), .ref (a8 0), .null, .null]))] ++ BX6 E a1) ++ BX6 E a2) ++ BX2 E a3) ++ BX6 E a4) ++ BX2 E a5) ++ BX1 E a6) ++ BX0 E 64 a7) ++ BX3 E a8) _ := hP
  have hD : va_D A (((((((([(h0, .inr (7, [.ref (a1 0), .ref (a2 0), .ref (a3 0), .ref (a4 0), .ref (a5 0), .int 0, .ref (a6 0), .ref (a7 0), .ref (a8 0), .null, .null]))] ++ BX6 E a1) ++ BX6 E a2) ++ BX2 E a3) ++ BX6 E a4) ++ BX2 E a5) ++ BX1 E a6) ++ BX0 E 64 a7) ++ BX3 E a8) := hD
  refine lv_aload_n hx hb dX7_init_94 rfl (lv_at hl 0 rfl) ?_
  refine zn_new 4 cx hP hD hS inlX4 tyX4_ok w_36 w_37 w_38 rfl dfX4 (Nat.le_of_ble_eq_true rfl) (Nat.le_of_ble_eq_true rfl) dX7_init_95 (fun q9 H hP hD hS => ?_)
  refine lv_dup hx hb dX7_init_98 rfl ?_
  refine zn_callN (X := (((((((([(h0, .inr (7, [.ref (a1 0), .ref (a2 0), .ref (a3 0), .ref (a4 0), .ref (a5 0), .int 0, .ref (a6 0), .ref (a7 0), .ref (a8 0), .null, .null]))] ++ BX6 E a1) ++ BX6 E a2) ++ BX2 E a3) ++ BX6 E a4) ++ BX2 E a5) ++ BX1 E a6) ++ BX0 E 64 a7) ++ BX3 E a8)) (ext := []) cx hP hD hS (fun sz => c_X4_init hRd) ⟨⟨rfl, by decide, by decide, by decide +kernel⟩, by decide, w_38, w_88⟩ w_87 rfl cx.2.2.2.2.2.1.2.1.2.2.1 ⟨Nat.le_of_ble_eq_true rfl, Nat.le_of_ble_eq_true rfl⟩ ⟨Nat.le_of_ble_eq_true rfl, Nat.le_of_ble_eq_true rfl⟩ rfl hl.1 rfl (Nat.le_of_ble_eq_true rfl) dX7_init_99 (fun a9 Hn locsn ha hPn hDn hSn => ?_)
  subst ha
  have hP := hPn
  have hD := hDn
  have hS := hSn
  have hP : va_P E.1 vwCl ((((((((([(h0, .inr (7, [.ref (a1 0), .ref (a2 0), .ref (a3 0), .ref (a4 0), .ref (a5 0), .int 0, .ref (a6 0), .ref (a7 0), .ref (a8 0), .null, .null]))] ++ BX6 E a1) ++ BX6 E a2) ++ BX2 E a3) ++ BX6 E a4) ++ BX2 E a5) ++ BX1 E a6) ++ BX0 E 64 a7) ++ BX3 E a8) ++ BX4 E a9) _ := hP
  have hD : va_D A ((((((((([(h0, .inr (7, [.ref (a1 0), .ref (a2 0), .ref (a3 0), .ref (a4 0), .ref (a5 0), .int 0, .ref (a6 0), .ref (a7 0), .ref (a8 0), .null, .null]))] ++ BX6 E a1) ++ BX6 E a2) ++ BX2 E a3) ++ BX6 E a4) ++ BX2 E a5) ++ BX1 E a6) ++ BX0 E 64 a7) ++ BX3 E a8) ++ BX4 E a9) := hD
  refine zn_putF 9 0 cx hin hP hD hS inlX7 tyX7_ok nmX7 rfl rfl (by decide) w_39 rfl rfl rfl rfl rfl (Nat.le_of_ble_eq_true rfl) dX7_init_102 (fun H locs hP hD hS => ?_)
  have hP : va_P E.1 vwCl ((((((((([(h0, .inr (7, [.ref (a1 0), .ref (a2 0), .ref (a3 0), .ref (a4 0), .ref (a5 0), .int 0, .ref (a6 0), .ref (a7 0), .ref (a8 0), .ref (a9 0), .null]))] ++ BX6 E a1) ++ BX6 E a2) ++ BX2 E a3) ++ BX6 E a4) ++ BX2 E a5) ++ BX1 E a6) ++ BX0 E 64 a7) ++ BX3 E a8) ++ BX4 E a9) _ := hP
  have hD : va_D A ((((((((([(h0, .inr (7, [.ref (a1 0), .ref (a2 0), .ref (a3 0), .ref (a4 0), .ref (a5 0), .int 0, .ref (a6 0), .ref (a7 0), .ref (a8 0), .ref (a9 0), .null]))] ++ BX6 E a1) ++ BX6 E a2) ++ BX2 E a3) ++ BX6 E a4) ++ BX2 E a5) ++ BX1 E a6) ++ BX0 E 64 a7) ++ BX3 E a8) ++ BX4 E a9) := hD
  refine lv_aload_n hx hb dX7_init_105 rfl (lv_at hl 0 rfl) ?_
  refine lv_iconst (v := nI 4) hx hb dX7_init_106 (by decide) ?_
  refine zn_newq (k0 := 4) (N' := 4) 4 cx hP hD hS w_40 cx.2.2.2.2.2.1.2.2.2.1 rfl (by decide) (by decide) (Nat.le_of_ble_eq_true rfl) (Nat.le_of_ble_eq_true rfl) (Nat.le_of_ble_eq_true rfl) dX7_init_107 (fun q10 H hP hD hS => ?_)
  have hP : va_P E.1 vwCl (((((((((([(h0, .inr (7, [.ref (a1 0), .ref (a2 0), .ref (a3 0), .ref (a4 0), .ref (a5 0), .int 0, .ref (a6 0), .ref (a7 0), .ref (a8 0), .ref (a9 0), .null]))] ++ BX6 E a1) ++ BX6 E a2) ++ BX2 E a3) ++ BX6 E a4) ++ BX2 E a5) ++ BX1 E a6) ++ BX0 E 64 a7) ++ BX3 E a8) ++ BX4 E a9) ++ [(q10, .inl (E.2 4, 4, .inr (.inr (.inr (.inr (fun _ => none))))))]) _ := hP
  have hD : va_D A (((((((((([(h0, .inr (7, [.ref (a1 0), .ref (a2 0), .ref (a3 0), .ref (a4 0), .ref (a5 0), .int 0, .ref (a6 0), .ref (a7 0), .ref (a8 0), .ref (a9 0), .null]))] ++ BX6 E a1) ++ BX6 E a2) ++ BX2 E a3) ++ BX6 E a4) ++ BX2 E a5) ++ BX1 E a6) ++ BX0 E 64 a7) ++ BX3 E a8) ++ BX4 E a9) ++ [(q10, .inl (E.2 4, 4, .inr (.inr (.inr (.inr (fun _ => none))))))]) := hD
  refine zn_putF 10 0 cx hin hP hD hS inlX7 tyX7_ok nmX7 rfl rfl (by decide) w_41 rfl rfl rfl rfl rfl (Nat.le_of_ble_eq_true rfl) dX7_init_110 (fun H locs hP hD hS => ?_)
  have hP : va_P E.1 vwCl (((((((((([(h0, .inr (7, [.ref (a1 0), .ref (a2 0), .ref (a3 0), .ref (a4 0), .ref (a5 0), .int 0, .ref (a6 0), .ref (a7 0), .ref (a8 0), .ref (a9 0), .ref q10]))] ++ BX6 E a1) ++ BX6 E a2) ++ BX2 E a3) ++ BX6 E a4) ++ BX2 E a5) ++ BX1 E a6) ++ BX0 E 64 a7) ++ BX3 E a8) ++ BX4 E a9) ++ [(q10, .inl (E.2 4, 4, .inr (.inr (.inr (.inr (fun _ => none))))))]) _ := hP
  have hD : va_D A (((((((((([(h0, .inr (7, [.ref (a1 0), .ref (a2 0), .ref (a3 0), .ref (a4 0), .ref (a5 0), .int 0, .ref (a6 0), .ref (a7 0), .ref (a8 0), .ref (a9 0), .ref q10]))] ++ BX6 E a1) ++ BX6 E a2) ++ BX2 E a3) ++ BX6 E a4) ++ BX2 E a5) ++ BX1 E a6) ++ BX0 E 64 a7) ++ BX3 E a8) ++ BX4 E a9) ++ [(q10, .inl (E.2 4, 4, .inr (.inr (.inr (.inr (fun _ => none))))))]) := hD
  refine lv_iconst (v := nI 0) hx hb dX7_init_113 (by decide) ?_
  refine lv_istore_n (lv' := [(1, .int (nI 0)), (0, .ref h0)]) hx hb dX7_init_114 rfl hl (by decide) rfl (fun ls hl => ?_)
  have hl : lv_has ls 2 [(0, .ref h0), (1, .int (nI 0))] := lv_sub hl [1, 0] rfl
  refine lv_iload_n hx hb dX7_init_115 rfl (lv_at hl 1 rfl) ?_
  refine lv_iconst (v := nI 4) hx hb dX7_init_116 (by decide) ?_
  refine lv_icmp_ge (tgt := 139) hx hb dX7_init_117 (by decide) (fun c1 => absurd c1 (by decide)) (fun _ => ?_)
  refine lv_aload_n hx hb dX7_init_120 rfl (lv_at hl 0 rfl) ?_
  refine zn_get 10 0 cx hP inlX7 rfl rfl (by decide) w_41 rfl dX7_init_121 ?_
  refine lv_iload_n hx hb dX7_init_124 rfl (lv_at hl 1 rfl) ?_
  refine zn_new 5 cx hP hD hS inlX5 tyX5_ok w_40 w_42 w_43 rfl dfX5 (Nat.le_of_ble_eq_true rfl) (Nat.le_of_ble_eq_true rfl) dX7_init_125 (fun q11 H hP hD hS => ?_)
  refine lv_dup hx hb dX7_init_128 rfl ?_
  refine zn_callN (X := (((((((((([(h0, .inr (7, [.ref (a1 0), .ref (a2 0), .ref (a3 0), .ref (a4 0), .ref (a5 0), .int 0, .ref (a6 0), .ref (a7 0), .ref (a8 0), .ref (a9 0), .ref q10]))] ++ BX6 E a1) ++ BX6 E a2) ++ BX2 E a3) ++ BX6 E a4) ++ BX2 E a5) ++ BX1 E a6) ++ BX0 E 64 a7) ++ BX3 E a8) ++ BX4 E a9) ++ [(q10, .inl (E.2 4, 4, .inr (.inr (.inr (.inr (fun _ => none))))))])) (ext := []) cx hP hD hS (fun sz => c_X5_init) ⟨⟨rfl, by decide, by decide, by decide +kernel⟩, by decide, w_43, w_99⟩ w_98 rfl cx.2.2.2.2.2.1.2.1.2.2.2 ⟨Nat.le_of_ble_eq_true rfl, Nat.le_of_ble_eq_true rfl⟩ ⟨Nat.le_of_ble_eq_true rfl, Nat.le_of_ble_eq_true rfl⟩ rfl hl.1 rfl (Nat.le_of_ble_eq_true rfl) dX7_init_129 (fun a11 Hn locsn ha hPn hDn hSn => ?_)
  subst ha
  have hP := hPn
  have hD := hDn
  have hS := hSn
  have hP : va_P E.1 vwCl ((((((((((([(h0, .inr (7, [.ref (a1 0), .ref (a2 0), .ref (a3 0), .ref (a4 0), .ref (a5 0), .int 0, .ref (a6 0), .ref (a7 0), .ref (a8 0), .ref (a9 0), .ref q10]))] ++ BX6 E a1) ++ BX6 E a2) ++ BX2 E a3) ++ BX6 E a4) ++ BX2 E a5) ++ BX1 E a6) ++ BX0 E 64 a7) ++ BX3 E a8) ++ BX4 E a9) ++ [(q10, .inl (E.2 4, 4, .inr (.inr (.inr (.inr (fun _ => none))))))]) ++ BX5 E a11) _ := hP
  have hD : va_D A ((((((((((([(h0, .inr (7, [.ref (a1 0), .ref (a2 0), .ref (a3 0), .ref (a4 0), .ref (a5 0), .int 0, .ref (a6 0), .ref (a7 0), .ref (a8 0), .ref (a9 0), .ref q10]))] ++ BX6 E a1) ++ BX6 E a2) ++ BX2 E a3) ++ BX6 E a4) ++ BX2 E a5) ++ BX1 E a6) ++ BX0 E 64 a7) ++ BX3 E a8) ++ BX4 E a9) ++ [(q10, .inl (E.2 4, 4, .inr (.inr (.inr (.inr (fun _ => none))))))]) ++ BX5 E a11) := hD
  refine va_astq (r := (RX5, TX5, 3)) hx hb cx.2.2.2.2.2.1.1 hP hD hS 115 4 116 5 rfl rfl rfl rfl (zin_nI (by decide) (by decide)) dX7_init_132 (fun H locs hP hD hS => ?_)
  have hP : va_P E.1 vwCl ((((((((((([(h0, .inr (7, [.ref (a1 0), .ref (a2 0), .ref (a3 0), .ref (a4 0), .ref (a5 0), .int 0, .ref (a6 0), .ref (a7 0), .ref (a8 0), .ref (a9 0), .ref q10]))] ++ BX6 E a1) ++ BX6 E a2) ++ BX2 E a3) ++ BX6 E a4) ++ BX2 E a5) ++ BX1 E a6) ++ BX0 E 64 a7) ++ BX3 E a8) ++ BX4 E a9) ++ [(q10, .inl (E.2 4, 4, .inr (.inr (.inr (.inr (va_up (fun _ => none) 0 (some (a11 0))))))))]) ++ BX5 E a11) _ := hP
  have hD : va_D A ((((((((((([(h0, .inr (7, [.ref (a1 0), .ref (a2 0), .ref (a3 0), .ref (a4 0), .ref (a5 0), .int 0, .ref (a6 0), .ref (a7 0), .ref (a8 0), .ref (a9 0), .ref q10]))] ++ BX6 E a1) ++ BX6 E a2) ++ BX2 E a3) ++ BX6 E a4) ++ BX2 E a5) ++ BX1 E a6) ++ BX0 E 64 a7) ++ BX3 E a8) ++ BX4 E a9) ++ [(q10, .inl (E.2 4, 4, .inr (.inr (.inr (.inr (va_up (fun _ => none) 0 (some (a11 0))))))))]) ++ BX5 E a11) := hD
  refine lv_iinc (v := nI 1) (lv' := [(1, .int (nI 1)), (0, .ref h0)]) hx hb dX7_init_133 hl (k := 1) rfl (by decide) (by decide) rfl (fun ls hl => ?_)
  have hl : lv_has ls 2 [(0, .ref h0), (1, .int (nI 1))] := lv_sub hl [1, 0] rfl
  refine lv_goto (tgt := 115) hx hb dX7_init_136 (by decide) ?_
  refine lv_iload_n hx hb dX7_init_115 rfl (lv_at hl 1 rfl) ?_
  refine lv_iconst (v := nI 4) hx hb dX7_init_116 (by decide) ?_
  refine lv_icmp_ge (tgt := 139) hx hb dX7_init_117 (by decide) (fun c1 => absurd c1 (by decide)) (fun _ => ?_)
  refine lv_aload_n hx hb dX7_init_120 rfl (lv_at hl 0 rfl) ?_
  refine zn_get 10 0 cx hP inlX7 rfl rfl (by decide) w_41 rfl dX7_init_121 ?_
  refine lv_iload_n hx hb dX7_init_124 rfl (lv_at hl 1 rfl) ?_
  refine zn_new 5 cx hP hD hS inlX5 tyX5_ok w_40 w_42 w_43 rfl dfX5 (Nat.le_of_ble_eq_true rfl) (Nat.le_of_ble_eq_true rfl) dX7_init_125 (fun q12 H hP hD hS => ?_)
  refine lv_dup hx hb dX7_init_128 rfl ?_
  refine zn_callN (X := ((((((((((([(h0, .inr (7, [.ref (a1 0), .ref (a2 0), .ref (a3 0), .ref (a4 0), .ref (a5 0), .int 0, .ref (a6 0), .ref (a7 0), .ref (a8 0), .ref (a9 0), .ref q10]))] ++ BX6 E a1) ++ BX6 E a2) ++ BX2 E a3) ++ BX6 E a4) ++ BX2 E a5) ++ BX1 E a6) ++ BX0 E 64 a7) ++ BX3 E a8) ++ BX4 E a9) ++ [(q10, .inl (E.2 4, 4, .inr (.inr (.inr (.inr (va_up (fun _ => none) 0 (some (a11 0))))))))]) ++ BX5 E a11)) (ext := []) cx hP hD hS (fun sz => c_X5_init) ⟨⟨rfl, by decide, by decide, by decide +kernel⟩, by decide, w_43, w_99⟩ w_98 rfl cx.2.2.2.2.2.1.2.1.2.2.2 ⟨Nat.le_of_ble_eq_true rfl, Nat.le_of_ble_eq_true rfl⟩ ⟨Nat.le_of_ble_eq_true rfl, Nat.le_of_ble_eq_true rfl⟩ rfl hl.1 rfl (Nat.le_of_ble_eq_true rfl) dX7_init_129 (fun a12 Hn locsn ha hPn hDn hSn => ?_)
  subst ha
  have hP := hPn
  have hD := hDn
  have hS := hSn
  have hP : va_P E.1 vwCl (((((((((((([(h0, .inr (7, [.ref (a1 0), .ref (a2 0), .ref (a3 0), .ref (a4 0), .ref (a5 0), .int 0, .ref (a6 0), .ref (a7 0), .ref (a8 0), .ref (a9 0), .ref q10]))] ++ BX6 E a1) ++ BX6 E a2) ++ BX2 E a3) ++ BX6 E a4) ++ BX2 E a5) ++ BX1 E a6) ++ BX0 E 64 a7) ++ BX3 E a8) ++ BX4 E a9) ++ [(q10, .inl (E.2 4, 4, .inr (.inr (.inr (.inr (va_up (fun _ => none) 0 (some (a11 0))))))))]) ++ BX5 E a11) ++ BX5 E a12) _ := hP
  have hD : va_D A (((((((((((([(h0, .inr (7, [.ref (a1 0), .ref (a2 0), .ref (a3 0), .ref (a4 0), .ref (a5 0), .int 0, .ref (a6 0), .ref (a7 0), .ref (a8 0), .ref (a9 0), .ref q10]))] ++ BX6 E a1) ++ BX6 E a2) ++ BX2 E a3) ++ BX6 E a4) ++ BX2 E a5) ++ BX1 E a6) ++ BX0 E 64 a7) ++ BX3 E a8) ++ BX4 E a9) ++ [(q10, .inl (E.2 4, 4, .inr (.inr (.inr (.inr (va_up (fun _ => none) 0 (some (a11 0))))))))]) ++ BX5 E a11) ++ BX5 E a12) := hD
  refine va_astq (r := (RX5, TX5, 3)) hx hb cx.2.2.2.2.2.1.1 hP hD hS 115 4 118 5 rfl rfl rfl rfl (zin_nI (by decide) (by decide)) dX7_init_132 (fun H locs hP hD hS => ?_)
  have hP : va_P E.1 vwCl (((((((((((([(h0, .inr (7, [.ref (a1 0), .ref (a2 0), .ref (a3 0), .ref (a4 0), .ref (a5 0), .int 0, .ref (a6 0), .ref (a7 0), .ref (a8 0), .ref (a9 0), .ref q10]))] ++ BX6 E a1) ++ BX6 E a2) ++ BX2 E a3) ++ BX6 E a4) ++ BX2 E a5) ++ BX1 E a6) ++ BX0 E 64 a7) ++ BX3 E a8) ++ BX4 E a9) ++ [(q10, .inl (E.2 4, 4, .inr (.inr (.inr (.inr (va_up (va_up (fun _ => none) 0 (some (a11 0))) 1 (some (a12 0))))))))]) ++ BX5 E a11) ++ BX5 E a12) _ := hP
  have hD : va_D A (((((((((((([(h0, .inr (7, [.ref (a1 0), .ref (a2 0), .ref (a3 0), .ref (a4 0), .ref (a5 0), .int 0, .ref (a6 0), .ref (a7 0), .ref (a8 0), .ref (a9 0), .ref q10]))] ++ BX6 E a1) ++ BX6 E a2) ++ BX2 E a3) ++ BX6 E a4) ++ BX2 E a5) ++ BX1 E a6) ++ BX0 E 64 a7) ++ BX3 E a8) ++ BX4 E a9) ++ [(q10, .inl (E.2 4, 4, .inr (.inr (.inr (.inr (va_up (va_up (fun _ => none) 0 (some (a11 0))) 1 (some (a12 0))))))))]) ++ BX5 E a11) ++ BX5 E a12) := hD
  refine lv_iinc (v := nI 2) (lv' := [(1, .int (nI 2)), (0, .ref h0)]) hx hb dX7_init_133 hl (k := 1) rfl (by decide) (by decide) rfl (fun ls hl => ?_)
  have hl : lv_has ls 2 [(0, .ref h0), (1, .int (nI 2))] := lv_sub hl [1, 0] rfl
  refine lv_goto (tgt := 115) hx hb dX7_init_136 (by decide) ?_
  refine lv_iload_n hx hb dX7_init_115 rfl (lv_at hl 1 rfl) ?_
  refine lv_iconst (v := nI 4) hx hb dX7_init_116 (by decide) ?_
  refine lv_icmp_ge (tgt := 139) hx hb dX7_init_117 (by decide) (fun c1 => absurd c1 (by decide)) (fun _ => ?_)
  refine lv_aload_n hx hb dX7_init_120 rfl (lv_at hl 0 rfl) ?_
  refine zn_get 10 0 cx hP inlX7 rfl rfl (by decide) w_41 rfl dX7_init_121 ?_
  refine lv_iload_n hx hb dX7_init_124 rfl (lv_at hl 1 rfl) ?_
  refine zn_new 5 cx hP hD hS inlX5 tyX5_ok w_40 w_42 w_43 rfl dfX5 (Nat.le_of_ble_eq_true rfl) (Nat.le_of_ble_eq_true rfl) dX7_init_125 (fun q13 H hP hD hS => ?_)
  refine lv_dup hx hb dX7_init_128 rfl ?_
  refine zn_callN (X := (((((((((((([(h0, .inr (7, [.ref (a1 0), .ref (a2 0), .ref (a3 0), .ref (a4 0), .ref (a5 0), .int 0, .ref (a6 0), .ref (a7 0), .ref (a8 0), .ref (a9 0), .ref q10]))] ++ BX6 E a1) ++ BX6 E a2) ++ BX2 E a3) ++ BX6 E a4) ++ BX2 E a5) ++ BX1 E a6) ++ BX0 E 64 a7) ++ BX3 E a8) ++ BX4 E a9) ++ [(q10, .inl (E.2 4, 4, .inr (.inr (.inr (.inr (va_up (va_up (fun _ => none) 0 (some (a11 0))) 1 (some (a12 0))))))))]) ++ BX5 E a11) ++ BX5 E a12)) (ext := []) cx hP hD hS (fun sz => c_X5_init) ⟨⟨rfl, by decide, by decide, by decide +kernel⟩, by decide, w_43, w_99⟩ w_98 rfl cx.2.2.2.2.2.1.2.1.2.2.2 ⟨Nat.le_of_ble_eq_true rfl, Nat.le_of_ble_eq_true rfl⟩ ⟨Nat.le_of_ble_eq_true rfl, Nat.le_of_ble_eq_true rfl⟩ rfl hl.1 rfl (Nat.le_of_ble_eq_true rfl) dX7_init_129 (fun a13 Hn locsn ha hPn hDn hSn => ?_)
  subst ha
  have hP := hPn
  have hD := hDn
  have hS := hSn
  have hP : va_P E.1 vwCl ((((((((((((([(h0, .inr (7, [.ref (a1 0), .ref (a2 0), .ref (a3 0), .ref (a4 0), .ref (a5 0), .int 0, .ref (a6 0), .ref (a7 0), .ref (a8 0), .ref (a9 0), .ref q10]))] ++ BX6 E a1) ++ BX6 E a2) ++ BX2 E a3) ++ BX6 E a4) ++ BX2 E a5) ++ BX1 E a6) ++ BX0 E 64 a7) ++ BX3 E a8) ++ BX4 E a9) ++ [(q10, .inl (E.2 4, 4, .inr (.inr (.inr (.inr (va_up (va_up (fun _ => none) 0 (some (a11 0))) 1 (some (a12 0))))))))]) ++ BX5 E a11) ++ BX5 E a12) ++ BX5 E a13) _ := hP
  have hD : va_D A ((((((((((((([(h0, .inr (7, [.ref (a1 0), .ref (a2 0), .ref (a3 0), .ref (a4 0), .ref (a5 0), .int 0, .ref (a6 0), .ref (a7 0), .ref (a8 0), .ref (a9 0), .ref q10]))] ++ BX6 E a1) ++ BX6 E a2) ++ BX2 E a3) ++ BX6 E a4) ++ BX2 E a5) ++ BX1 E a6) ++ BX0 E 64 a7) ++ BX3 E a8) ++ BX4 E a9) ++ [(q10, .inl (E.2 4, 4, .inr (.inr (.inr (.inr (va_up (va_up (fun _ => none) 0 (some (a11 0))) 1 (some (a12 0))))))))]) ++ BX5 E a11) ++ BX5 E a12) ++ BX5 E a13) := hD
  refine va_astq (r := (RX5, TX5, 3)) hx hb cx.2.2.2.2.2.1.1 hP hD hS 115 4 120 5 rfl rfl rfl rfl (zin_nI (by decide) (by decide)) dX7_init_132 (fun H locs hP hD hS => ?_)
  have hP : va_P E.1 vwCl ((((((((((((([(h0, .inr (7, [.ref (a1 0), .ref (a2 0), .ref (a3 0), .ref (a4 0), .ref (a5 0), .int 0, .ref (a6 0), .ref (a7 0), .ref (a8 0), .ref (a9 0), .ref q10]))] ++ BX6 E a1) ++ BX6 E a2) ++ BX2 E a3) ++ BX6 E a4) ++ BX2 E a5) ++ BX1 E a6) ++ BX0 E 64 a7) ++ BX3 E a8) ++ BX4 E a9) ++ [(q10, .inl (E.2 4, 4, .inr (.inr (.inr (.inr (va_up (va_up (va_up (fun _ => none) 0 (some (a11 0))) 1 (some (a12 0))) 2 (some (a13 0))))))))]) ++ BX5 E a11) ++ BX5 E a12) ++ BX5 E a13) _ := hP
  have hD : va_D A ((((((((((((([(h0, .inr (7, [.ref (a1 0), .ref (a2 0), .ref (a3 0), .ref (a4 0), .ref (a5 0), .int 0, .ref (a6 0), .ref (a7 0), .ref (a8 0), .ref (a9 0), .ref q10]))] ++ BX6 E a1) ++ BX6 E a2) ++ BX2 E a3) ++ BX6 E a4) ++ BX2 E a5) ++ BX1 E a6) ++ BX0 E 64 a7) ++ BX3 E a8) ++ BX4 E a9) ++ [(q10, .inl (E.2 4, 4, .inr (.inr (.inr (.inr (va_up (va_up (va_up (fun _ => none) 0 (some (a11 0))) 1 (some (a12 0))) 2 (some (a13 0))))))))]) ++ BX5 E a11) ++ BX5 E a12) ++ BX5 E a13) := hD
  refine lv_iinc (v := nI 3) (lv' := [(1, .int (nI 3)), (0, .ref h0)]) hx hb dX7_init_133 hl (k := 1) rfl (by decide) (by decide) rfl (fun ls hl => ?_)
  have hl : lv_has ls 2 [(0, .ref h0), (1, .int (nI 3))] := lv_sub hl [1, 0] rfl
  refine lv_goto (tgt := 115) hx hb dX7_init_136 (by decide) ?_
  refine lv_iload_n hx hb dX7_init_115 rfl (lv_at hl 1 rfl) ?_
  refine lv_iconst (v := nI 4) hx hb dX7_init_116 (by decide) ?_
  refine lv_icmp_ge (tgt := 139) hx hb dX7_init_117 (by decide) (fun c1 => absurd c1 (by decide)) (fun _ => ?_)
  refine lv_aload_n hx hb dX7_init_120 rfl (lv_at hl 0 rfl) ?_
  refine zn_get 10 0 cx hP inlX7 rfl rfl (by decide) w_41 rfl dX7_init_121 ?_
  refine lv_iload_n hx hb dX7_init_124 rfl (lv_at hl 1 rfl) ?_
  refine zn_new 5 cx hP hD hS inlX5 tyX5_ok w_40 w_42 w_43 rfl dfX5 (Nat.le_of_ble_eq_true rfl) (Nat.le_of_ble_eq_true rfl) dX7_init_125 (fun q14 H hP hD hS => ?_)
  refine lv_dup hx hb dX7_init_128 rfl ?_
  refine zn_callN (X := ((((((((((((([(h0, .inr (7, [.ref (a1 0), .ref (a2 0), .ref (a3 0), .ref (a4 0), .ref (a5 0), .int 0, .ref (a6 0), .ref (a7 0), .ref (a8 0), .ref (a9 0), .ref q10]))] ++ BX6 E a1) ++ BX6 E a2) ++ BX2 E a3) ++ BX6 E a4) ++ BX2 E a5) ++ BX1 E a6) ++ BX0 E 64 a7) ++ BX3 E a8) ++ BX4 E a9) ++ [(q10, .inl (E.2 4, 4, .inr (.inr (.inr (.inr (va_up (va_up (va_up (fun _ => none) 0 (some (a11 0))) 1 (some (a12 0))) 2 (some (a13 0))))))))]) ++ BX5 E a11) ++ BX5 E a12) ++ BX5 E a13)) (ext := []) cx hP hD hS (fun sz => c_X5_init) ⟨⟨rfl, by decide, by decide, by decide +kernel⟩, by decide, w_43, w_99⟩ w_98 rfl cx.2.2.2.2.2.1.2.1.2.2.2 ⟨Nat.le_of_ble_eq_true rfl, Nat.le_of_ble_eq_true rfl⟩ ⟨Nat.le_of_ble_eq_true rfl, Nat.le_of_ble_eq_true rfl⟩ rfl hl.1 rfl (Nat.le_of_ble_eq_true rfl) dX7_init_129 (fun a14 Hn locsn ha hPn hDn hSn => ?_)
  subst ha
  have hP := hPn
  have hD := hDn
  have hS := hSn
  have hP : va_P E.1 vwCl (((((((((((((([(h0, .inr (7, [.ref (a1 0), .ref (a2 0), .ref (a3 0), .ref (a4 0), .ref (a5 0), .int 0, .ref (a6 0), .ref (a7 0), .ref (a8 0), .ref (a9 0), .ref q10]))] ++ BX6 E a1) ++ BX6 E a2) ++ BX2 E a3) ++ BX6 E a4) ++ BX2 E a5) ++ BX1 E a6) ++ BX0 E 64 a7) ++ BX3 E a8) ++ BX4 E a9) ++ [(q10, .inl (E.2 4, 4, .inr (.inr (.inr (.inr (va_up (va_up (va_up (fun _ => none) 0 (some (a11 0))) 1 (some (a12 0))) 2 (some (a13 0))))))))]) ++ BX5 E a11) ++ BX5 E a12) ++ BX5 E a13) ++ BX5 E a14) _ := hP
  have hD : va_D A (((((((((((((([(h0, .inr (7, [.ref (a1 0), .ref (a2 0), .ref (a3 0), .ref (a4 0), .ref (a5 0), .int 0, .ref (a6 0), .ref (a7 0), .ref (a8 0), .ref (a9 0), .ref q10]))] ++ BX6 E a1) ++ BX6 E a2) ++ BX2 E a3) ++ BX6 E a4) ++ BX2 E a5) ++ BX1 E a6) ++ BX0 E 64 a7) ++ BX3 E a8) ++ BX4 E a9) ++ [(q10, .inl (E.2 4, 4, .inr (.inr (.inr (.inr (va_up (va_up (va_up (fun _ => none) 0 (some (a11 0))) 1 (some (a12 0))) 2 (some (a13 0))))))))]) ++ BX5 E a11) ++ BX5 E a12) ++ BX5 E a13) ++ BX5 E a14) := hD
  refine va_astq (r := (RX5, TX5, 3)) hx hb cx.2.2.2.2.2.1.1 hP hD hS 115 4 122 5 rfl rfl rfl rfl (zin_nI (by decide) (by decide)) dX7_init_132 (fun H locs hP hD hS => ?_)
  have hP : va_P E.1 vwCl (((((((((((((([(h0, .inr (7, [.ref (a1 0), .ref (a2 0), .ref (a3 0), .ref (a4 0), .ref (a5 0), .int 0, .ref (a6 0), .ref (a7 0), .ref (a8 0), .ref (a9 0), .ref q10]))] ++ BX6 E a1) ++ BX6 E a2) ++ BX2 E a3) ++ BX6 E a4) ++ BX2 E a5) ++ BX1 E a6) ++ BX0 E 64 a7) ++ BX3 E a8) ++ BX4 E a9) ++ [(q10, .inl (E.2 4, 4, .inr (.inr (.inr (.inr (va_up (va_up (va_up (va_up (fun _ => none) 0 (some (a11 0))) 1 (some (a12 0))) 2 (some (a13 0))) 3 (some (a14 0))))))))]) ++ BX5 E a11) ++ BX5 E a12) ++ BX5 E a13) ++ BX5 E a14) _ := hP
  have hD : va_D A (((((((((((((([(h0, .inr (7, [.ref (a1 0), .ref (a2 0), .ref (a3 0), .ref (a4 0), .ref (a5 0), .int 0, .ref (a6 0), .ref (a7 0), .ref (a8 0), .ref (a9 0), .ref q10]))] ++ BX6 E a1) ++ BX6 E a2) ++ BX2 E a3) ++ BX6 E a4) ++ BX2 E a5) ++ BX1 E a6) ++ BX0 E 64 a7) ++ BX3 E a8) ++ BX4 E a9) ++ [(q10, .inl (E.2 4, 4, .inr (.inr (.inr (.inr (va_up (va_up (va_up (va_up (fun _ => none) 0 (some (a11 0))) 1 (some (a12 0))) 2 (some (a13 0))) 3 (some (a14 0))))))))]) ++ BX5 E a11) ++ BX5 E a12) ++ BX5 E a13) ++ BX5 E a14) := hD
  refine lv_iinc (v := nI 4) (lv' := [(1, .int (nI 4)), (0, .ref h0)]) hx hb dX7_init_133 hl (k := 1) rfl (by decide) (by decide) rfl (fun ls hl => ?_)
  have hl : lv_has ls 2 [(0, .ref h0), (1, .int (nI 4))] := lv_sub hl [1, 0] rfl
  refine lv_goto (tgt := 115) hx hb dX7_init_136 (by decide) ?_
  refine lv_iload_n hx hb dX7_init_115 rfl (lv_at hl 1 rfl) ?_
  refine lv_iconst (v := nI 4) hx hb dX7_init_116 (by decide) ?_
  refine lv_icmp_ge (tgt := 139) hx hb dX7_init_117 (by decide) (fun _ => ?_) (fun c1 => absurd (by decide) c1)
  exact hret 139 _ _ _ (fun i => (if i = 0 then h0 else (if i = 1 then q10 else (if i < 200 then a1 (i - 100) else (if i < 300 then a2 (i - 200) else (if i < 400 then a3 (i - 300) else (if i < 500 then a4 (i - 400) else (if i < 600 then a5 (i - 500) else (if i < 700 then a6 (i - 600) else (if i < 800 then a7 (i - 700) else (if i < 900 then a8 (i - 800) else (if i < 1000 then a9 (i - 900) else (if i < 1100 then a11 (i - 1000) else (if i < 1200 then a12 (i - 1100) else (if i < 1300 then a13 (i - 1200) else (if i < 1400 then a14 (i - 1300) else 0)))))))))))))))) dX7_init_139 rfl hP hD hS
