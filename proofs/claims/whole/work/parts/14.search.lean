/-! Search -/
def f_Se_limitFresh_2 (N : Nat)  : Nat → zM → Int32 → Int32 → Option zM
  | 0, _, _, _ => none
  | n + 1, μ, x1, x2 => (if ((μ 23).1 0 6) ≤ x2 then some μ else if zin x2 7 then bnd (zset μ 23 (zI (μ 23) 4 x2.toNatClampNeg (nI 0))) (fun μ3 => if zin x2 7 then bnd (zset μ3 23 (zI (μ3 23) 5 x2.toNatClampNeg x1)) (fun μ5 => bnd (x2 + (nI 1)) (fun v6 => f_Se_limitFresh_2 N n μ5 x1 v6)) else none) else none)
set_option maxHeartbeats 4000000 in
set_option maxRecDepth 100000 in
theorem t_Se_limitFresh_2 (N : Nat) {p : Program} {l : Launch} {e : Env} {s : State} {m : MethodId} {args : Array Value} {below : List Frame} {meth : Method} {c : Code} {Q : State → Prop} {G : zG}  {out : zM} (cx : zCX p (zrm 0) s m args c RX4 cX4_limitFresh 3 0 G) (hret : zRv p l e (zrm 0) s m args below meth c cX4_limitFresh G Q out)   : ∀ (n : Nat) (μ : zM) (x1 : Int32) (x2 : Int32), f_Se_limitFresh_2 N n μ x1 x2 = some out → ∀ {H : Heap} {locs : List Loc} {ls : Array Slot}, zIW G s μ H locs → lv_has ls 3 [(0, .ref (G.2.2.1 23 0)), (1, .int x1), (2, .int x2)] → W p l e (zrm 0) s m args below meth c H locs 0 0 Q (F0 m 2 ls []) := by
  obtain ⟨hx, hb, hml, hown, hts, hK, hR⟩ := id cx
  intro n
  induction n with
  | zero =>
    intro μ x1 x2  h
    cases h
  | succ n ih =>
    intro μ x1 x2  h H locs ls hI hl
    rw [f_Se_limitFresh_2] at h
    refine lv_iload_n hx hb dX4_limitFresh_2 rfl (lv_at hl 2 rfl) ?_
    refine lv_aload_n hx hb dX4_limitFresh_3 rfl (lv_at hl 0 rfl) ?_
    refine g4_6 cx hI rfl rfl w_360 dX4_limitFresh_4 ?_
    refine lv_icmp_ge (tgt := 30) hx hb dX4_limitFresh_7 (by decide) (fun c1 => ?_) (fun c1 => ?_)
    · have h := it_p h c1
      obtain rfl := Option.some.inj h
      exact hret _ _ _ _ dX4_limitFresh_30 hI
    · have h := it_n h c1
      refine lv_aload_n hx hb dX4_limitFresh_10 rfl (lv_at hl 0 rfl) ?_
      refine g4_3 cx hI rfl rfl w_94 dX4_limitFresh_11 ?_
      refine lv_iload_n hx hb dX4_limitFresh_14 rfl (lv_at hl 2 rfl) ?_
      refine lv_iconst (v := (nI 0)) hx hb dX4_limitFresh_15 (by decide) ?_
      obtain ⟨g2, h⟩ := gd_el h
      obtain ⟨μ3, eμ3⟩ : ∃ z : zM, z = zset μ 23 (zI (μ 23) 4 x2.toNatClampNeg (nI 0)) := ⟨_, rfl⟩
      have h := bnd_el h eμ3
      refine zr_iast cx hI (k4_4 rfl) rfl (z4_4 rfl) rfl g2 eμ3.symm dX4_limitFresh_16 (fun H locs hI => ?_)
      refine lv_aload_n hx hb dX4_limitFresh_17 rfl (lv_at hl 0 rfl) ?_
      refine g4_4 cx hI rfl rfl w_95 dX4_limitFresh_18 ?_
      refine lv_iload_n hx hb dX4_limitFresh_21 rfl (lv_at hl 2 rfl) ?_
      refine lv_iload_n hx hb dX4_limitFresh_22 rfl (lv_at hl 1 rfl) ?_
      obtain ⟨g4, h⟩ := gd_el h
      obtain ⟨μ5, eμ5⟩ : ∃ z : zM, z = zset μ3 23 (zI (μ3 23) 5 x2.toNatClampNeg x1) := ⟨_, rfl⟩
      have h := bnd_el h eμ5
      refine zr_iast cx hI (k4_5 rfl) rfl (z4_5 rfl) rfl g4 eμ5.symm dX4_limitFresh_23 (fun H locs hI => ?_)
      obtain ⟨v6, ev6⟩ : ∃ z : Int32, z = x2 + (nI 1) := ⟨_, rfl⟩
      have h := bnd_el h ev6
      refine lv_iinc (v := v6) (lv' := [(2, .int v6), (0, .ref (G.2.2.1 23 0)), (1, .int x1)]) hx hb dX4_limitFresh_24 hl (k := 2) rfl (by rw [ev6]; rfl) (by decide) rfl (fun ls hl => ?_)
      refine lv_goto (tgt := 2) hx hb dX4_limitFresh_27 (by decide) ?_
      exact ih μ5 x1 v6 h hI (lv_sub hl [1, 2, 0] rfl)
def f_Se_limitFresh (N : Nat) (μ : zM) (a1 : Int32) : Option zM :=
  f_Se_limitFresh_2 N N μ a1 (nI 0)
set_option maxHeartbeats 4000000 in
set_option maxRecDepth 100000 in
theorem c_Se_limitFresh (N : Nat) {l : Launch} {G : zG} {μ : zM}  {a1 : Int32} {out : zM} (h : f_Se_limitFresh N μ a1 = some out) : zMV l G yX4_limitFresh cX4_limitFresh 3 none 0 [.ref (G.2.2.1 23 0), .int a1] μ out := by
  refine zMV.of (by decide) (Nat.le_of_ble_eq_true rfl) (fun p e s m args below meth c Q ls cx hI hl hret => ?_)
  obtain ⟨hx, hb, hml, hown, hts, hK, hR⟩ := id cx
  have hl : lv_has ls 3 [(0, .ref (G.2.2.1 23 0)), (1, .int a1)] := hl
  unfold f_Se_limitFresh at h
  refine lv_iconst (v := (nI 0)) hx hb dX4_limitFresh_0 (by decide) ?_
  refine lv_istore_n (lv' := [(2, .int (nI 0)), (0, .ref (G.2.2.1 23 0)), (1, .int a1)]) hx hb dX4_limitFresh_1 rfl hl (by decide) rfl (fun ls hl => ?_)
  exact t_Se_limitFresh_2 N  cx hret N μ a1 (nI 0) h hI (lv_sub hl [1, 2, 0] rfl)
def f_Se_prepare_18 (N : Nat)  : Nat → zM → Int32 → Option zM
  | 0, _, _ => none
  | n + 1, μ, x2 => (if ((μ 23).1 0 6) ≤ x2 then (f_Se_limitFresh N μ (nI 20)).bind (fun q5 => bnd (zset q5 23 (zI (q5 23) 0 7 (nI 0))) (fun μ6 => bnd (zset μ6 23 (zI (μ6 23) 0 8 (nI 5040))) (fun μ7 => bnd (zset μ7 23 (zI (μ7 23) 0 9 (nI 0))) (fun μ8 => bnd (zset μ8 23 (zI (μ8 23) 0 11 (nI 0))) (fun μ9 => bnd (zset μ9 23 (zI (μ9 23) 0 12 (nI 0))) (fun μ10 => some μ10)))))) else (f_St_wordsThatCount (μ 0) x2).bind (fun q11 => if zin x2 7 then bnd (zset μ 23 (zI (μ 23) 2 x2.toNatClampNeg q11)) (fun μ13 => (f_St_leaders N (μ13 0) x2).bind (fun q14 => if zin x2 7 then bnd (zset μ13 23 (zI (μ13 23) 3 x2.toNatClampNeg q14)) (fun μ16 => bnd (x2 + (nI 1)) (fun v17 => f_Se_prepare_18 N n μ16 v17)) else none)) else none))
set_option maxHeartbeats 4000000 in
set_option maxRecDepth 100000 in
theorem t_Se_prepare_18 (N : Nat) {p : Program} {l : Launch} {e : Env} {s : State} {m : MethodId} {args : Array Value} {below : List Frame} {meth : Method} {c : Code} {Q : State → Prop} {G : zG}  {out : zM} (cx : zCX p (zrm 2) s m args c RX4 cX4_prepare 3 2 G) (hret : zRv p l e (zrm 2) s m args below meth c cX4_prepare G Q out)   : ∀ (n : Nat) (μ : zM) (x2 : Int32), f_Se_prepare_18 N n μ x2 = some out → ∀ {H : Heap} {locs : List Loc} {ls : Array Slot}, zIW G s μ H locs → lv_has ls 3 [(0, .ref (G.2.2.1 23 0)), (1, .ref (G.2.2.1 0 0)), (2, .int x2)] → W p l e (zrm 2) s m args below meth c H locs 0 0 Q (F0 m 18 ls []) := by
  obtain ⟨hx, hb, hml, hown, hts, hK, hR⟩ := id cx
  intro n
  induction n with
  | zero =>
    intro μ x2  h
    cases h
  | succ n ih =>
    intro μ x2  h H locs ls hI hl
    rw [f_Se_prepare_18] at h
    refine lv_iload_n hx hb dX4_prepare_18 rfl (lv_at hl 2 rfl) ?_
    refine lv_aload_n hx hb dX4_prepare_19 rfl (lv_at hl 0 rfl) ?_
    refine g4_6 cx hI rfl rfl w_360 dX4_prepare_20 ?_
    refine lv_icmp_ge (tgt := 54) hx hb dX4_prepare_23 (by decide) (fun c4 => ?_) (fun c4 => ?_)
    · have h := it_p h c4
      refine lv_aload_n hx hb dX4_prepare_54 rfl (lv_at hl 0 rfl) ?_
      refine lv_bipush (v := (nI 20)) hx hb dX4_prepare_55 (by decide) ?_
      obtain ⟨q5, hq5, h⟩ := bi_el h
      refine zcVv (As := [.int (nI 20)]) cx hI (c_Se_limitFresh N hq5) mt_yX4_limitFresh mv_yX4_limitFresh w_385 (by omega) (k4_0 rfl) (zv4 rfl) rfl hl.1 rfl (Nat.le_of_ble_eq_true rfl) dX4_prepare_57 (fun H locs hI => ?_)
      refine lv_aload_n hx hb dX4_prepare_60 rfl (lv_at hl 0 rfl) ?_
      refine lv_iconst (v := (nI 0)) hx hb dX4_prepare_61 (by decide) ?_
      obtain ⟨μ6, eμ6⟩ : ∃ z : zM, z = zset q5 23 (zI (q5 23) 0 7 (nI 0)) := ⟨_, rfl⟩
      have h := bnd_el h eμ6
      refine p4_7 cx hI rfl rfl (by decide) (by decide) w_361 eμ6.symm dX4_prepare_62 (fun H locs hI => ?_)
      refine lv_aload_n hx hb dX4_prepare_65 rfl (lv_at hl 0 rfl) ?_
      refine lv_sipush (v := (nI 5040)) hx hb dX4_prepare_66 (by decide) ?_
      obtain ⟨μ7, eμ7⟩ : ∃ z : zM, z = zset μ6 23 (zI (μ6 23) 0 8 (nI 5040)) := ⟨_, rfl⟩
      have h := bnd_el h eμ7
      refine p4_8 cx hI rfl rfl w_362 eμ7.symm dX4_prepare_69 (fun H locs hI => ?_)
      refine lv_aload_n hx hb dX4_prepare_72 rfl (lv_at hl 0 rfl) ?_
      refine lv_iconst (v := (nI 0)) hx hb dX4_prepare_73 (by decide) ?_
      obtain ⟨μ8, eμ8⟩ : ∃ z : zM, z = zset μ7 23 (zI (μ7 23) 0 9 (nI 0)) := ⟨_, rfl⟩
      have h := bnd_el h eμ8
      refine p4_9 cx hI rfl rfl w_363 eμ8.symm dX4_prepare_74 (fun H locs hI => ?_)
      refine lv_aload_n hx hb dX4_prepare_77 rfl (lv_at hl 0 rfl) ?_
      refine lv_iconst (v := (nI 0)) hx hb dX4_prepare_78 (by decide) ?_
      obtain ⟨μ9, eμ9⟩ : ∃ z : zM, z = zset μ8 23 (zI (μ8 23) 0 11 (nI 0)) := ⟨_, rfl⟩
      have h := bnd_el h eμ9
      refine p4_11 cx hI rfl rfl w_364 eμ9.symm dX4_prepare_79 (fun H locs hI => ?_)
      refine lv_aload_n hx hb dX4_prepare_82 rfl (lv_at hl 0 rfl) ?_
      refine lv_iconst (v := (nI 0)) hx hb dX4_prepare_83 (by decide) ?_
      obtain ⟨μ10, eμ10⟩ : ∃ z : zM, z = zset μ9 23 (zI (μ9 23) 0 12 (nI 0)) := ⟨_, rfl⟩
      have h := bnd_el h eμ10
      refine p4_12 cx hI rfl rfl w_365 eμ10.symm dX4_prepare_84 (fun H locs hI => ?_)
      obtain rfl := Option.some.inj h
      exact hret _ _ _ _ dX4_prepare_87 hI
    · have h := it_n h c4
      refine lv_aload_n hx hb dX4_prepare_26 rfl (lv_at hl 0 rfl) ?_
      refine g4_1 cx hI rfl rfl w_92 dX4_prepare_27 ?_
      refine lv_iload_n hx hb dX4_prepare_30 rfl (lv_at hl 2 rfl) ?_
      refine lv_aload_n hx hb dX4_prepare_31 rfl (lv_at hl 1 rfl) ?_
      refine lv_iload_n hx hb dX4_prepare_32 rfl (lv_at hl 2 rfl) ?_
      obtain ⟨q11, hq11, h⟩ := bi_el h
      refine zcVi (As := [.int x2]) cx hI (c_St_wordsThatCount rfl rfl hq11) mt_yX6_wordsThatCount mv_yX6_wordsThatCount w_377 (by omega) (k6_0 rfl) (zv6 rfl) rfl hl.1 rfl (Nat.le_of_ble_eq_true rfl) dX4_prepare_33 (fun H locs hI => ?_)
      obtain ⟨g12, h⟩ := gd_el h
      obtain ⟨μ13, eμ13⟩ : ∃ z : zM, z = zset μ 23 (zI (μ 23) 2 x2.toNatClampNeg q11) := ⟨_, rfl⟩
      have h := bnd_el h eμ13
      refine zr_iast cx hI (k4_2 rfl) rfl (z4_2 rfl) rfl g12 eμ13.symm dX4_prepare_36 (fun H locs hI => ?_)
      refine lv_aload_n hx hb dX4_prepare_37 rfl (lv_at hl 0 rfl) ?_
      refine g4_2 cx hI rfl rfl w_93 dX4_prepare_38 ?_
      refine lv_iload_n hx hb dX4_prepare_41 rfl (lv_at hl 2 rfl) ?_
      refine lv_aload_n hx hb dX4_prepare_42 rfl (lv_at hl 1 rfl) ?_
      refine lv_iload_n hx hb dX4_prepare_43 rfl (lv_at hl 2 rfl) ?_
      obtain ⟨q14, hq14, h⟩ := bi_el h
      refine zcVi (As := [.int x2]) cx hI (c_St_leaders N rfl rfl hq14) mt_yX6_leaders mv_yX6_leaders w_381 (by omega) (k6_0 rfl) (zv6 rfl) rfl hl.1 rfl (Nat.le_of_ble_eq_true rfl) dX4_prepare_44 (fun H locs hI => ?_)
      obtain ⟨g15, h⟩ := gd_el h
      obtain ⟨μ16, eμ16⟩ : ∃ z : zM, z = zset μ13 23 (zI (μ13 23) 3 x2.toNatClampNeg q14) := ⟨_, rfl⟩
      have h := bnd_el h eμ16
      refine zr_iast cx hI (k4_3 rfl) rfl (z4_3 rfl) rfl g15 eμ16.symm dX4_prepare_47 (fun H locs hI => ?_)
      obtain ⟨v17, ev17⟩ : ∃ z : Int32, z = x2 + (nI 1) := ⟨_, rfl⟩
      have h := bnd_el h ev17
      refine lv_iinc (v := v17) (lv' := [(2, .int v17), (0, .ref (G.2.2.1 23 0)), (1, .ref (G.2.2.1 0 0))]) hx hb dX4_prepare_48 hl (k := 2) rfl (by rw [ev17]; rfl) (by decide) rfl (fun ls hl => ?_)
      refine lv_goto (tgt := 18) hx hb dX4_prepare_51 (by decide) ?_
      exact ih μ16 v17 h hI (lv_sub hl [1, 2, 0] rfl)
def f_Se_prepare (N : Nat) (μ : zM) : Option zM :=
  (f_Rd_begin N (μ 22) (μ 0)).bind (fun q1 => bnd (zset μ 22 q1) (fun μ2 => bnd (zset μ2 23 (zI (μ2 23) 0 6 ((μ2 0).1 0 3))) (fun μ3 => f_Se_prepare_18 N N μ3 (nI 0))))
set_option maxHeartbeats 4000000 in
set_option maxRecDepth 100000 in
theorem c_Se_prepare (N : Nat) {l : Launch} {G : zG} {μ : zM}   {out : zM} (h : f_Se_prepare N μ  = some out) : zMV l G yX4_prepare cX4_prepare 3 none 2 [.ref (G.2.2.1 23 0), .ref (G.2.2.1 0 0)] μ out := by
  refine zMV.of (by decide) (Nat.le_of_ble_eq_true rfl) (fun p e s m args below meth c Q ls cx hI hl hret => ?_)
  obtain ⟨hx, hb, hml, hown, hts, hK, hR⟩ := id cx
  have hl : lv_has ls 3 [(0, .ref (G.2.2.1 23 0)), (1, .ref (G.2.2.1 0 0))] := hl
  unfold f_Se_prepare at h
  refine lv_aload_n hx hb dX4_prepare_0 rfl (lv_at hl 0 rfl) ?_
  refine g4_0 cx hI rfl rfl w_91 dX4_prepare_1 ?_
  refine lv_aload_n hx hb dX4_prepare_4 rfl (lv_at hl 1 rfl) ?_
  obtain ⟨q1, hq1, h⟩ := bi_el h
  obtain ⟨μ2, eμ2⟩ : ∃ z : zM, z = zset μ 22 q1 := ⟨_, rfl⟩
  have h := bnd_el h eμ2
  refine zcVv (As := [.ref (G.2.2.1 0 0)]) cx hI (c_Rd_begin N rfl rfl rfl rfl (by decide) hq1 eμ2.symm) mt_yX3_begin mv_yX3_begin w_366 (by omega) (k3_0 rfl) (zv3 rfl) rfl hl.1 rfl (Nat.le_of_ble_eq_true rfl) dX4_prepare_5 (fun H locs hI => ?_)
  refine lv_aload_n hx hb dX4_prepare_8 rfl (lv_at hl 0 rfl) ?_
  refine lv_aload_n hx hb dX4_prepare_9 rfl (lv_at hl 1 rfl) ?_
  refine g6_3 cx hI rfl rfl w_359 dX4_prepare_10 ?_
  obtain ⟨μ3, eμ3⟩ : ∃ z : zM, z = zset μ2 23 (zI (μ2 23) 0 6 ((μ2 0).1 0 3)) := ⟨_, rfl⟩
  have h := bnd_el h eμ3
  refine p4_6 cx hI rfl rfl w_360 eμ3.symm dX4_prepare_13 (fun H locs hI => ?_)
  refine lv_iconst (v := (nI 0)) hx hb dX4_prepare_16 (by decide) ?_
  refine lv_istore_n (lv' := [(2, .int (nI 0)), (0, .ref (G.2.2.1 23 0)), (1, .ref (G.2.2.1 0 0))]) hx hb dX4_prepare_17 rfl hl (by decide) rfl (fun ls hl => ?_)
  exact t_Se_prepare_18 N  cx hret N μ3 (nI 0) h hI (lv_sub hl [1, 2, 0] rfl)
def f_Se_forgetLeaders_2 (N : Nat)  : Nat → zM → Int32 → Option zM
  | 0, _, _ => none
  | n + 1, μ, x1 => (if ((μ 23).1 0 6) ≤ x1 then some μ else if zin x1 7 then bnd (zset μ 23 (zI (μ 23) 3 x1.toNatClampNeg (nI 0))) (fun μ3 => bnd (x1 + (nI 1)) (fun v4 => f_Se_forgetLeaders_2 N n μ3 v4)) else none)
set_option maxHeartbeats 4000000 in
set_option maxRecDepth 100000 in
theorem t_Se_forgetLeaders_2 (N : Nat) {p : Program} {l : Launch} {e : Env} {s : State} {m : MethodId} {args : Array Value} {below : List Frame} {meth : Method} {c : Code} {Q : State → Prop} {G : zG}  {out : zM} (cx : zCX p (zrm 0) s m args c RX4 cX4_forgetLeaders 2 0 G) (hret : zRv p l e (zrm 0) s m args below meth c cX4_forgetLeaders G Q out)   : ∀ (n : Nat) (μ : zM) (x1 : Int32), f_Se_forgetLeaders_2 N n μ x1 = some out → ∀ {H : Heap} {locs : List Loc} {ls : Array Slot}, zIW G s μ H locs → lv_has ls 2 [(0, .ref (G.2.2.1 23 0)), (1, .int x1)] → W p l e (zrm 0) s m args below meth c H locs 0 0 Q (F0 m 2 ls []) := by
  obtain ⟨hx, hb, hml, hown, hts, hK, hR⟩ := id cx
  intro n
  induction n with
  | zero =>
    intro μ x1  h
    cases h
  | succ n ih =>
    intro μ x1  h H locs ls hI hl
    rw [f_Se_forgetLeaders_2] at h
    refine lv_iload_n hx hb dX4_forgetLeaders_2 rfl (lv_at hl 1 rfl) ?_
    refine lv_aload_n hx hb dX4_forgetLeaders_3 rfl (lv_at hl 0 rfl) ?_
    refine g4_6 cx hI rfl rfl w_360 dX4_forgetLeaders_4 ?_
    refine lv_icmp_ge (tgt := 23) hx hb dX4_forgetLeaders_7 (by decide) (fun c1 => ?_) (fun c1 => ?_)
    · have h := it_p h c1
      obtain rfl := Option.some.inj h
      exact hret _ _ _ _ dX4_forgetLeaders_23 hI
    · have h := it_n h c1
      refine lv_aload_n hx hb dX4_forgetLeaders_10 rfl (lv_at hl 0 rfl) ?_
      refine g4_2 cx hI rfl rfl w_93 dX4_forgetLeaders_11 ?_
      refine lv_iload_n hx hb dX4_forgetLeaders_14 rfl (lv_at hl 1 rfl) ?_
      refine lv_iconst (v := (nI 0)) hx hb dX4_forgetLeaders_15 (by decide) ?_
      obtain ⟨g2, h⟩ := gd_el h
      obtain ⟨μ3, eμ3⟩ : ∃ z : zM, z = zset μ 23 (zI (μ 23) 3 x1.toNatClampNeg (nI 0)) := ⟨_, rfl⟩
      have h := bnd_el h eμ3
      refine zr_iast cx hI (k4_3 rfl) rfl (z4_3 rfl) rfl g2 eμ3.symm dX4_forgetLeaders_16 (fun H locs hI => ?_)
      obtain ⟨v4, ev4⟩ : ∃ z : Int32, z = x1 + (nI 1) := ⟨_, rfl⟩
      have h := bnd_el h ev4
      refine lv_iinc (v := v4) (lv' := [(1, .int v4), (0, .ref (G.2.2.1 23 0))]) hx hb dX4_forgetLeaders_17 hl (k := 1) rfl (by rw [ev4]; rfl) (by decide) rfl (fun ls hl => ?_)
      refine lv_goto (tgt := 2) hx hb dX4_forgetLeaders_20 (by decide) ?_
      exact ih μ3 v4 h hI (lv_sub hl [1, 0] rfl)
def f_Se_forgetLeaders (N : Nat) (μ : zM) : Option zM :=
  f_Se_forgetLeaders_2 N N μ (nI 0)
set_option maxHeartbeats 4000000 in
set_option maxRecDepth 100000 in
theorem c_Se_forgetLeaders (N : Nat) {l : Launch} {G : zG} {μ : zM}   {out : zM} (h : f_Se_forgetLeaders N μ  = some out) : zMV l G yX4_forgetLeaders cX4_forgetLeaders 2 none 0 [.ref (G.2.2.1 23 0)] μ out := by
  refine zMV.of (by decide) (Nat.le_of_ble_eq_true rfl) (fun p e s m args below meth c Q ls cx hI hl hret => ?_)
  obtain ⟨hx, hb, hml, hown, hts, hK, hR⟩ := id cx
  have hl : lv_has ls 2 [(0, .ref (G.2.2.1 23 0))] := hl
  unfold f_Se_forgetLeaders at h
  refine lv_iconst (v := (nI 0)) hx hb dX4_forgetLeaders_0 (by decide) ?_
  refine lv_istore_n (lv' := [(1, .int (nI 0)), (0, .ref (G.2.2.1 23 0))]) hx hb dX4_forgetLeaders_1 rfl hl (by decide) rfl (fun ls hl => ?_)
  exact t_Se_forgetLeaders_2 N  cx hret N μ (nI 0) h hI (lv_sub hl [1, 0] rfl)
def f_Se_wantFresh_24  (μ : zM) : Option zM :=
  some μ
set_option maxHeartbeats 4000000 in
set_option maxRecDepth 100000 in
theorem t_Se_wantFresh_24  {p : Program} {l : Launch} {e : Env} {s : State} {m : MethodId} {args : Array Value} {below : List Frame} {meth : Method} {c : Code} {Q : State → Prop} {G : zG}  {out : zM} (cx : zCX p (zrm 0) s m args c RX4 cX4_wantFresh 3 0 G) (hret : zRv p l e (zrm 0) s m args below meth c cX4_wantFresh G Q out)   : ∀ (μ : zM), f_Se_wantFresh_24 μ = some out → ∀ {H : Heap} {locs : List Loc} {ls : Array Slot}, zIW G s μ H locs → lv_has ls 3 [] → W p l e (zrm 0) s m args below meth c H locs 0 0 Q (F0 m 24 ls []) := by
  obtain ⟨hx, hb, hml, hown, hts, hK, hR⟩ := id cx
  intro μ  h H locs ls hI hl
  unfold f_Se_wantFresh_24 at h
  obtain rfl := Option.some.inj h
  exact hret _ _ _ _ dX4_wantFresh_24 hI
def f_Se_wantFresh (μ : zM) (a1 : Int32) (a2 : Int32) : Option zM :=
  (if a1 < nI 0 then f_Se_wantFresh_24 μ else (if (nI 7) ≤ a1 then f_Se_wantFresh_24 μ else if zin a1 7 then bnd (zset μ 23 (zI (μ 23) 4 a1.toNatClampNeg a2)) (fun μ4 => if zin a1 7 then bnd (zset μ4 23 (zI (μ4 23) 5 a1.toNatClampNeg a2)) (fun μ6 => f_Se_wantFresh_24 μ6) else none) else none))
set_option maxHeartbeats 4000000 in
set_option maxRecDepth 100000 in
theorem c_Se_wantFresh {l : Launch} {G : zG} {μ : zM}  {a1 : Int32} {a2 : Int32} {out : zM} (h : f_Se_wantFresh μ a1 a2 = some out) : zMV l G yX4_wantFresh cX4_wantFresh 3 none 0 [.ref (G.2.2.1 23 0), .int a1, .int a2] μ out := by
  refine zMV.of (by decide) (Nat.le_of_ble_eq_true rfl) (fun p e s m args below meth c Q ls cx hI hl hret => ?_)
  obtain ⟨hx, hb, hml, hown, hts, hK, hR⟩ := id cx
  have hl : lv_has ls 3 [(0, .ref (G.2.2.1 23 0)), (1, .int a1), (2, .int a2)] := hl
  unfold f_Se_wantFresh at h
  refine lv_iload_n hx hb dX4_wantFresh_0 rfl (lv_at hl 1 rfl) ?_
  refine lv_if_lt (tgt := 24) hx hb dX4_wantFresh_1 (by decide) (fun c1 => ?_) (fun c1 => ?_)
  · have h := it_p h c1
    exact t_Se_wantFresh_24  cx hret μ h hI (lv_sub hl [] rfl)
  · have h := it_n h c1
    refine lv_iload_n hx hb dX4_wantFresh_4 rfl (lv_at hl 1 rfl) ?_
    refine lv_bipush (v := (nI 7)) hx hb dX4_wantFresh_5 (by decide) ?_
    refine lv_icmp_ge (tgt := 24) hx hb dX4_wantFresh_7 (by decide) (fun c2 => ?_) (fun c2 => ?_)
    · have h := it_p h c2
      exact t_Se_wantFresh_24  cx hret μ h hI (lv_sub hl [] rfl)
    · have h := it_n h c2
      refine lv_aload_n hx hb dX4_wantFresh_10 rfl (lv_at hl 0 rfl) ?_
      refine g4_3 cx hI rfl rfl w_94 dX4_wantFresh_11 ?_
      refine lv_iload_n hx hb dX4_wantFresh_14 rfl (lv_at hl 1 rfl) ?_
      refine lv_iload_n hx hb dX4_wantFresh_15 rfl (lv_at hl 2 rfl) ?_
      obtain ⟨g3, h⟩ := gd_el h
      obtain ⟨μ4, eμ4⟩ : ∃ z : zM, z = zset μ 23 (zI (μ 23) 4 a1.toNatClampNeg a2) := ⟨_, rfl⟩
      have h := bnd_el h eμ4
      refine zr_iast cx hI (k4_4 rfl) rfl (z4_4 rfl) rfl g3 eμ4.symm dX4_wantFresh_16 (fun H locs hI => ?_)
      refine lv_aload_n hx hb dX4_wantFresh_17 rfl (lv_at hl 0 rfl) ?_
      refine g4_4 cx hI rfl rfl w_95 dX4_wantFresh_18 ?_
      refine lv_iload_n hx hb dX4_wantFresh_21 rfl (lv_at hl 1 rfl) ?_
      refine lv_iload_n hx hb dX4_wantFresh_22 rfl (lv_at hl 2 rfl) ?_
      obtain ⟨g5, h⟩ := gd_el h
      obtain ⟨μ6, eμ6⟩ : ∃ z : zM, z = zset μ4 23 (zI (μ4 23) 5 a1.toNatClampNeg a2) := ⟨_, rfl⟩
      have h := bnd_el h eμ6
      refine zr_iast cx hI (k4_5 rfl) rfl (z4_5 rfl) rfl g5 eμ6.symm dX4_wantFresh_23 (fun H locs hI => ?_)
      exact t_Se_wantFresh_24  cx hret μ6 h hI (lv_sub hl [] rfl)
def f_Se_isWanted_43 (μ : zM)  (s0 : Int32) : Option Int32 :=
  if (s0 = nI 0 ∨ s0 = nI 1) then some s0 else none
set_option maxHeartbeats 4000000 in
set_option maxRecDepth 100000 in
theorem t_Se_isWanted_43  {p : Program} {l : Launch} {e : Env} {s : State} {m : MethodId} {args : Array Value} {below : List Frame} {meth : Method} {c : Code} {Q : State → Prop} {G : zG} {μ : zM}  {out : Int32} (cx : zCX p (zrm 0) s m args c RX4 cX4_isWanted 3 0 G) (hret : zRi p l e (zrm 0) s m args below meth c cX4_isWanted G .boolean Q out μ)   : ∀ (s0 : Int32), f_Se_isWanted_43 μ s0 = some out → ∀ {H : Heap} {locs : List Loc} {ls : Array Slot}, zIW G s μ H locs → lv_has ls 3 [] → W p l e (zrm 0) s m args below meth c H locs 0 0 Q (F0 m 43 ls [.int s0]) := by
  obtain ⟨hx, hb, hml, hown, hts, hK, hR⟩ := id cx
  intro s0  h H locs ls hI hl
  unfold f_Se_isWanted_43 at h
  obtain ⟨g2, h⟩ := gd_el h
  obtain rfl := Option.some.inj h
  exact hret _ _ _ _ dX4_isWanted_43 (zbool g2) hI
def f_Se_isWanted_38 (μ : zM)   : Option Int32 :=
  f_Se_isWanted_43 μ (nI 1)
set_option maxHeartbeats 4000000 in
set_option maxRecDepth 100000 in
theorem t_Se_isWanted_38  {p : Program} {l : Launch} {e : Env} {s : State} {m : MethodId} {args : Array Value} {below : List Frame} {meth : Method} {c : Code} {Q : State → Prop} {G : zG} {μ : zM}  {out : Int32} (cx : zCX p (zrm 0) s m args c RX4 cX4_isWanted 3 0 G) (hret : zRi p l e (zrm 0) s m args below meth c cX4_isWanted G .boolean Q out μ)   : f_Se_isWanted_38 μ  = some out → ∀ {H : Heap} {locs : List Loc} {ls : Array Slot}, zIW G s μ H locs → lv_has ls 3 [] → W p l e (zrm 0) s m args below meth c H locs 0 0 Q (F0 m 38 ls []) := by
  obtain ⟨hx, hb, hml, hown, hts, hK, hR⟩ := id cx
  intro   h H locs ls hI hl
  unfold f_Se_isWanted_38 at h
  refine lv_iconst (v := (nI 1)) hx hb dX4_isWanted_38 (by decide) ?_
  refine lv_goto (tgt := 43) hx hb dX4_isWanted_39 (by decide) ?_
  exact t_Se_isWanted_43  cx hret (nI 1) h hI hl
def f_Se_isWanted_42 (μ : zM)   : Option Int32 :=
  f_Se_isWanted_43 μ (nI 0)
set_option maxHeartbeats 4000000 in
set_option maxRecDepth 100000 in
theorem t_Se_isWanted_42  {p : Program} {l : Launch} {e : Env} {s : State} {m : MethodId} {args : Array Value} {below : List Frame} {meth : Method} {c : Code} {Q : State → Prop} {G : zG} {μ : zM}  {out : Int32} (cx : zCX p (zrm 0) s m args c RX4 cX4_isWanted 3 0 G) (hret : zRi p l e (zrm 0) s m args below meth c cX4_isWanted G .boolean Q out μ)   : f_Se_isWanted_42 μ  = some out → ∀ {H : Heap} {locs : List Loc} {ls : Array Slot}, zIW G s μ H locs → lv_has ls 3 [] → W p l e (zrm 0) s m args below meth c H locs 0 0 Q (F0 m 42 ls []) := by
  obtain ⟨hx, hb, hml, hown, hts, hK, hR⟩ := id cx
  intro   h H locs ls hI hl
  unfold f_Se_isWanted_42 at h
  refine lv_iconst (v := (nI 0)) hx hb dX4_isWanted_42 (by decide) ?_
  exact t_Se_isWanted_43  cx hret (nI 0) h hI hl
def f_Se_isWanted (μ : zM) (a1 : Int32) (a2 : Int32) : Option Int32 :=
  (if ((μ 23).1 0 7) = nI 0 then f_Se_isWanted_38 μ else (if ((μ 23).1 0 9) = nI 0 then f_Se_isWanted_38 μ else (if a1 < ((μ 23).1 0 11) then f_Se_isWanted_38 μ else (if a1 = ((μ 23).1 0 11) then (if ((μ 23).1 0 12) ≤ a2 then f_Se_isWanted_42 μ else f_Se_isWanted_38 μ) else f_Se_isWanted_42 μ))))
set_option maxHeartbeats 4000000 in
set_option maxRecDepth 100000 in
theorem c_Se_isWanted {l : Launch} {G : zG} {μ : zM}  {a1 : Int32} {a2 : Int32} {out : Int32} (h : f_Se_isWanted μ a1 a2 = some out) : zMI l G yX4_isWanted cX4_isWanted 3 (some .boolean) 0 [.ref (G.2.2.1 23 0), .int a1, .int a2] μ out μ := by
  refine zMI.of (by decide) (Nat.le_of_ble_eq_true rfl) (fun p e s m args below meth c Q ls cx hI hl hret => ?_)
  obtain ⟨hx, hb, hml, hown, hts, hK, hR⟩ := id cx
  have hl : lv_has ls 3 [(0, .ref (G.2.2.1 23 0)), (1, .int a1), (2, .int a2)] := hl
  unfold f_Se_isWanted at h
  refine lv_aload_n hx hb dX4_isWanted_0 rfl (lv_at hl 0 rfl) ?_
  refine g4_7 cx hI rfl rfl w_361 dX4_isWanted_1 ?_
  refine lv_if_eq (tgt := 38) hx hb dX4_isWanted_4 (by decide) (fun c1 => ?_) (fun c1 => ?_)
  · have h := it_p h c1
    exact t_Se_isWanted_38  cx hret  h hI (lv_sub hl [] rfl)
  · have h := it_n h c1
    refine lv_aload_n hx hb dX4_isWanted_7 rfl (lv_at hl 0 rfl) ?_
    refine g4_9 cx hI rfl rfl w_363 dX4_isWanted_8 ?_
    refine lv_if_eq (tgt := 38) hx hb dX4_isWanted_11 (by decide) (fun c3 => ?_) (fun c3 => ?_)
    · have h := it_p h c3
      exact t_Se_isWanted_38  cx hret  h hI (lv_sub hl [] rfl)
    · have h := it_n h c3
      refine lv_iload_n hx hb dX4_isWanted_14 rfl (lv_at hl 1 rfl) ?_
      refine lv_aload_n hx hb dX4_isWanted_15 rfl (lv_at hl 0 rfl) ?_
      refine g4_11 cx hI rfl rfl w_364 dX4_isWanted_16 ?_
      refine lv_icmp_lt (tgt := 38) hx hb dX4_isWanted_19 (by decide) (fun c4 => ?_) (fun c4 => ?_)
      · have h := it_p h c4
        exact t_Se_isWanted_38  cx hret  h hI (lv_sub hl [] rfl)
      · have h := it_n h c4
        refine lv_iload_n hx hb dX4_isWanted_22 rfl (lv_at hl 1 rfl) ?_
        refine lv_aload_n hx hb dX4_isWanted_23 rfl (lv_at hl 0 rfl) ?_
        refine g4_11 cx hI rfl rfl w_364 dX4_isWanted_24 ?_
        refine lv_icmp_ne (tgt := 42) hx hb dX4_isWanted_27 (by decide) (fun c5 => ?_) (fun c5 => ?_)
        · have h := it_n h c5
          exact t_Se_isWanted_42  cx hret  h hI (lv_sub hl [] rfl)
        · have h := it_p h c5
          refine lv_iload_n hx hb dX4_isWanted_30 rfl (lv_at hl 2 rfl) ?_
          refine lv_aload_n hx hb dX4_isWanted_31 rfl (lv_at hl 0 rfl) ?_
          refine g4_12 cx hI rfl rfl w_365 dX4_isWanted_32 ?_
          refine lv_icmp_ge (tgt := 42) hx hb dX4_isWanted_35 (by decide) (fun c6 => ?_) (fun c6 => ?_)
          · have h := it_p h c6
            exact t_Se_isWanted_42  cx hret  h hI (lv_sub hl [] rfl)
          · have h := it_n h c6
            exact t_Se_isWanted_38  cx hret  h hI (lv_sub hl [] rfl)
def f_Se_keepFound (μ : zM) (a1 : Int32) (a2 : Int32) : Option zM :=
  bnd (zset μ 23 (zI (μ 23) 0 9 (((μ 23).1 0 9) + (nI 1)))) (fun μ1 => bnd (zset μ1 23 (zI (μ1 23) 0 11 a1)) (fun μ2 => bnd (zset μ2 23 (zI (μ2 23) 0 12 a2)) (fun μ3 => bnd (zset μ3 23 (zIr (μ3 23) 11 (va_cpy ((μ3 23).1 6) ((μ3 23).1 11) 0 0 7))) (fun μ4 => some μ4))))
set_option maxHeartbeats 4000000 in
set_option maxRecDepth 100000 in
theorem c_Se_keepFound {l : Launch} {G : zG} {μ : zM}  {a1 : Int32} {a2 : Int32} {out : zM} (h : f_Se_keepFound μ a1 a2 = some out) : zMV l G yX4_keepFound cX4_keepFound 3 none 1 [.ref (G.2.2.1 23 0), .int a1, .int a2] μ out := by
  refine zMV.of (by decide) (Nat.le_of_ble_eq_true rfl) (fun p e s m args below meth c Q ls cx hI hl hret => ?_)
  obtain ⟨hx, hb, hml, hown, hts, hK, hR⟩ := id cx
  have hl : lv_has ls 3 [(0, .ref (G.2.2.1 23 0)), (1, .int a1), (2, .int a2)] := hl
  unfold f_Se_keepFound at h
  refine lv_aload_n hx hb dX4_keepFound_0 rfl (lv_at hl 0 rfl) ?_
  refine lv_dup hx hb dX4_keepFound_1 rfl ?_
  refine g4_9 cx hI rfl rfl w_363 dX4_keepFound_2 ?_
  refine lv_iconst (v := (nI 1)) hx hb dX4_keepFound_5 (by decide) ?_
  refine lv_iadd hx hb dX4_keepFound_6 ?_
  obtain ⟨μ1, eμ1⟩ : ∃ z : zM, z = zset μ 23 (zI (μ 23) 0 9 (((μ 23).1 0 9) + (nI 1))) := ⟨_, rfl⟩
  have h := bnd_el h eμ1
  refine p4_9 cx hI rfl rfl w_363 eμ1.symm dX4_keepFound_7 (fun H locs hI => ?_)
  refine lv_aload_n hx hb dX4_keepFound_10 rfl (lv_at hl 0 rfl) ?_
  refine lv_iload_n hx hb dX4_keepFound_11 rfl (lv_at hl 1 rfl) ?_
  obtain ⟨μ2, eμ2⟩ : ∃ z : zM, z = zset μ1 23 (zI (μ1 23) 0 11 a1) := ⟨_, rfl⟩
  have h := bnd_el h eμ2
  refine p4_11 cx hI rfl rfl w_364 eμ2.symm dX4_keepFound_12 (fun H locs hI => ?_)
  refine lv_aload_n hx hb dX4_keepFound_15 rfl (lv_at hl 0 rfl) ?_
  refine lv_iload_n hx hb dX4_keepFound_16 rfl (lv_at hl 2 rfl) ?_
  obtain ⟨μ3, eμ3⟩ : ∃ z : zM, z = zset μ2 23 (zI (μ2 23) 0 12 a2) := ⟨_, rfl⟩
  have h := bnd_el h eμ3
  refine p4_12 cx hI rfl rfl w_365 eμ3.symm dX4_keepFound_17 (fun H locs hI => ?_)
  refine lv_aload_n hx hb dX4_keepFound_20 rfl (lv_at hl 0 rfl) ?_
  refine g4_5 cx hI rfl rfl w_96 dX4_keepFound_21 ?_
  refine lv_iconst (v := (nI 0)) hx hb dX4_keepFound_24 (by decide) ?_
  refine lv_aload_n hx hb dX4_keepFound_25 rfl (lv_at hl 0 rfl) ?_
  refine g4_10 cx hI rfl rfl w_97 dX4_keepFound_26 ?_
  refine lv_iconst (v := (nI 0)) hx hb dX4_keepFound_29 (by decide) ?_
  refine lv_bipush (v := (nI 7)) hx hb dX4_keepFound_30 (by decide) ?_
  obtain ⟨μ4, eμ4⟩ : ∃ z : zM, z = zset μ3 23 (zIr (μ3 23) 11 (va_cpy ((μ3 23).1 6) ((μ3 23).1 11) 0 0 7)) := ⟨_, rfl⟩
  have h := bnd_el h eμ4
  refine zr_cpi cx hI hl.1 (k4_6 rfl) rfl (z4_6 rfl) (k4_11 rfl) rfl (z4_11 rfl) w_448 (by omega) (by decide) (by decide) (by decide) (by decide) (by decide) (Nat.le_of_ble_eq_true rfl) eμ4.symm dX4_keepFound_32 (fun H locs hI => ?_)
  obtain rfl := Option.some.inj h
  exact hret _ _ _ _ dX4_keepFound_35 hI
def f_Se_mayCome_24 (μ : zM)  (s0 : Int32) : Option Int32 :=
  if (s0 = nI 0 ∨ s0 = nI 1) then some s0 else none
set_option maxHeartbeats 4000000 in
set_option maxRecDepth 100000 in
theorem t_Se_mayCome_24  {p : Program} {l : Launch} {e : Env} {s : State} {m : MethodId} {args : Array Value} {below : List Frame} {meth : Method} {c : Code} {Q : State → Prop} {G : zG} {μ : zM}  {out : Int32} (cx : zCX p (zrm 1) s m args c RX4 cX4_mayCome 3 1 G) (hret : zRi p l e (zrm 1) s m args below meth c cX4_mayCome G .boolean Q out μ)   : ∀ (s0 : Int32), f_Se_mayCome_24 μ s0 = some out → ∀ {H : Heap} {locs : List Loc} {ls : Array Slot}, zIW G s μ H locs → lv_has ls 3 [] → W p l e (zrm 1) s m args below meth c H locs 0 0 Q (F0 m 24 ls [.int s0]) := by
  obtain ⟨hx, hb, hml, hown, hts, hK, hR⟩ := id cx
  intro s0  h H locs ls hI hl
  unfold f_Se_mayCome_24 at h
  obtain ⟨g3, h⟩ := gd_el h
  obtain rfl := Option.some.inj h
  exact hret _ _ _ _ dX4_mayCome_24 (zbool g3) hI
def f_Se_mayCome_23 (μ : zM)   : Option Int32 :=
  f_Se_mayCome_24 μ (nI 0)
set_option maxHeartbeats 4000000 in
set_option maxRecDepth 100000 in
theorem t_Se_mayCome_23  {p : Program} {l : Launch} {e : Env} {s : State} {m : MethodId} {args : Array Value} {below : List Frame} {meth : Method} {c : Code} {Q : State → Prop} {G : zG} {μ : zM}  {out : Int32} (cx : zCX p (zrm 1) s m args c RX4 cX4_mayCome 3 1 G) (hret : zRi p l e (zrm 1) s m args below meth c cX4_mayCome G .boolean Q out μ)   : f_Se_mayCome_23 μ  = some out → ∀ {H : Heap} {locs : List Loc} {ls : Array Slot}, zIW G s μ H locs → lv_has ls 3 [] → W p l e (zrm 1) s m args below meth c H locs 0 0 Q (F0 m 23 ls []) := by
  obtain ⟨hx, hb, hml, hown, hts, hK, hR⟩ := id cx
  intro   h H locs ls hI hl
  unfold f_Se_mayCome_23 at h
  refine lv_iconst (v := (nI 0)) hx hb dX4_mayCome_23 (by decide) ?_
  exact t_Se_mayCome_24  cx hret (nI 0) h hI hl
def f_Se_mayCome (μ : zM) (a1 : Int32) (a2 : Int32) : Option Int32 :=
  (f_RS_hasBit a2 a1).bind (fun q1 => (if q1 = nI 0 then f_Se_mayCome_23 μ else if zin a1 7 then (if (((μ 23).1 3 a1.toNatClampNeg) &&& a2) = nI 0 then f_Se_mayCome_24 μ (nI 1) else f_Se_mayCome_23 μ) else none))
set_option maxHeartbeats 4000000 in
set_option maxRecDepth 100000 in
theorem c_Se_mayCome {l : Launch} {G : zG} {μ : zM}  {a1 : Int32} {a2 : Int32} {out : Int32} (h : f_Se_mayCome μ a1 a2 = some out) : zMI l G yX4_mayCome cX4_mayCome 3 (some .boolean) 1 [.ref (G.2.2.1 23 0), .int a1, .int a2] μ out μ := by
  refine zMI.of (by decide) (Nat.le_of_ble_eq_true rfl) (fun p e s m args below meth c Q ls cx hI hl hret => ?_)
  obtain ⟨hx, hb, hml, hown, hts, hK, hR⟩ := id cx
  have hl : lv_has ls 3 [(0, .ref (G.2.2.1 23 0)), (1, .int a1), (2, .int a2)] := hl
  unfold f_Se_mayCome at h
  refine lv_iload_n hx hb dX4_mayCome_0 rfl (lv_at hl 2 rfl) ?_
  refine lv_iload_n hx hb dX4_mayCome_1 rfl (lv_at hl 1 rfl) ?_
  obtain ⟨q1, hq1, h⟩ := bi_el h
  refine zcNi (As := [.int a2, .int a1]) cx hI (c_RS_hasBit  hq1) mt_yX7_hasBit ms_yX7_hasBit hK.2.1.2.1 (by omega) rfl hl.1 rfl (Nat.le_of_ble_eq_true rfl) dX4_mayCome_2 (fun H locs hI => ?_)
  refine lv_if_eq (tgt := 23) hx hb dX4_mayCome_5 (by decide) (fun c2 => ?_) (fun c2 => ?_)
  · have h := it_p h c2
    exact t_Se_mayCome_23  cx hret  h hI (lv_sub hl [] rfl)
  · have h := it_n h c2
    refine lv_aload_n hx hb dX4_mayCome_8 rfl (lv_at hl 0 rfl) ?_
    refine g4_2 cx hI rfl rfl w_93 dX4_mayCome_9 ?_
    refine lv_iload_n hx hb dX4_mayCome_12 rfl (lv_at hl 1 rfl) ?_
    obtain ⟨g4, h⟩ := gd_el h
    refine zr_iald cx hI (k4_3 rfl) rfl (z4_3 rfl) rfl g4 dX4_mayCome_13 ?_
    refine lv_iload_n hx hb dX4_mayCome_14 rfl (lv_at hl 2 rfl) ?_
    refine lv_iand hx hb dX4_mayCome_15 ?_
    refine lv_if_ne (tgt := 23) hx hb dX4_mayCome_16 (by decide) (fun c5 => ?_) (fun c5 => ?_)
    · have h := it_n h c5
      exact t_Se_mayCome_23  cx hret  h hI (lv_sub hl [] rfl)
    · have h := it_p h c5
      refine lv_iconst (v := (nI 1)) hx hb dX4_mayCome_19 (by decide) ?_
      refine lv_goto (tgt := 24) hx hb dX4_mayCome_20 (by decide) ?_
      exact t_Se_mayCome_24  cx hret (nI 1) h hI (lv_sub hl [] rfl)
def f_Se_goThrough_14 (N : Nat) (rec : zM → Int32 → Int32 → Int32 → Int32 → Option zM)  (μ : zM) (x3 : Int32) (x4 : Int32) : Option zM :=
  (f_Se_keepFound μ x3 x4).bind (fun q2 => some q2)
set_option maxHeartbeats 4000000 in
set_option maxRecDepth 100000 in
theorem t_Se_goThrough_14 (N : Nat) {p : Program} {l : Launch} {e : Env} {s : State} {m : MethodId} {args : Array Value} {below : List Frame} {meth : Method} {c : Code} {Q : State → Prop} {G : zG}  {out : zM} {rec : zM → Int32 → Int32 → Int32 → Int32 → Option zM} {dr : Nat} (hrec : ∀ (μ : zM) (a1 a2 a3 a4 : Int32) (μ' : zM), rec μ a1 a2 a3 a4 = some μ' → zMV l G yX4_goThrough cX4_goThrough 9 none dr [.ref (G.2.2.1 23 0), .int a1, .int a2, .int a3, .int a4] μ μ') (cx : zCX p (zrm (dr + 10)) s m args c RX4 cX4_goThrough 9 (dr + 10) G) (hret : zRv p l e (zrm (dr + 10)) s m args below meth c cX4_goThrough G Q out)   : ∀ (μ : zM) (x3 : Int32) (x4 : Int32), f_Se_goThrough_14 N rec μ x3 x4 = some out → ∀ {H : Heap} {locs : List Loc} {ls : Array Slot}, zIW G s μ H locs → lv_has ls 9 [(0, .ref (G.2.2.1 23 0)), (3, .int x3), (4, .int x4)] → W p l e (zrm (dr + 10)) s m args below meth c H locs 0 0 Q (F0 m 14 ls []) := by
  obtain ⟨hx, hb, hml, hown, hts, hK, hR⟩ := id cx
  intro μ x3 x4  h H locs ls hI hl
  unfold f_Se_goThrough_14 at h
  refine lv_aload_n hx hb dX4_goThrough_14 rfl (lv_at hl 0 rfl) ?_
  refine lv_iload_n hx hb dX4_goThrough_15 rfl (lv_at hl 1 rfl) ?_
  refine lv_iload hx hb dX4_goThrough_16 (lv_at hl 2 rfl) ?_
  obtain ⟨q2, hq2, h⟩ := bi_el h
  refine zcVv (As := [.int x3, .int x4]) cx hI (c_Se_keepFound  hq2) mt_yX4_keepFound mv_yX4_keepFound w_444 (by omega) (k4_0 rfl) (zv4 rfl) rfl hl.1 rfl (Nat.le_of_ble_eq_true rfl) dX4_goThrough_18 (fun H locs hI => ?_)
  obtain rfl := Option.some.inj h
  exact hret _ _ _ _ dX4_goThrough_21 hI
def f_Se_goThrough_178 (N : Nat) (rec : zM → Int32 → Int32 → Int32 → Int32 → Option zM)  (μ : zM) : Option zM :=
  some μ
set_option maxHeartbeats 4000000 in
set_option maxRecDepth 100000 in
theorem t_Se_goThrough_178 (N : Nat) {p : Program} {l : Launch} {e : Env} {s : State} {m : MethodId} {args : Array Value} {below : List Frame} {meth : Method} {c : Code} {Q : State → Prop} {G : zG}  {out : zM} {rec : zM → Int32 → Int32 → Int32 → Int32 → Option zM} {dr : Nat} (hrec : ∀ (μ : zM) (a1 a2 a3 a4 : Int32) (μ' : zM), rec μ a1 a2 a3 a4 = some μ' → zMV l G yX4_goThrough cX4_goThrough 9 none dr [.ref (G.2.2.1 23 0), .int a1, .int a2, .int a3, .int a4] μ μ') (cx : zCX p (zrm (dr + 10)) s m args c RX4 cX4_goThrough 9 (dr + 10) G) (hret : zRv p l e (zrm (dr + 10)) s m args below meth c cX4_goThrough G Q out)   : ∀ (μ : zM), f_Se_goThrough_178 N rec μ = some out → ∀ {H : Heap} {locs : List Loc} {ls : Array Slot}, zIW G s μ H locs → lv_has ls 9 [] → W p l e (zrm (dr + 10)) s m args below meth c H locs 0 0 Q (F0 m 178 ls []) := by
  obtain ⟨hx, hb, hml, hown, hts, hK, hR⟩ := id cx
  intro μ  h H locs ls hI hl
  unfold f_Se_goThrough_178 at h
  obtain rfl := Option.some.inj h
  exact hret _ _ _ _ dX4_goThrough_178 hI
def f_Se_goThrough_172 (N : Nat) (rec : zM → Int32 → Int32 → Int32 → Int32 → Option zM) (k25 : zM → Int32 → Int32 → Int32 → Int32 → Int32 → Option zM) (μ : zM) (x1 : Int32) (x2 : Int32) (x3 : Int32) (x4 : Int32) (x5 : Int32) : Option zM :=
  bnd (x5 + (nI 1)) (fun v19 => k25 μ x1 x2 x3 x4 v19)
set_option maxHeartbeats 4000000 in
set_option maxRecDepth 100000 in
theorem t_Se_goThrough_172 (N : Nat) {p : Program} {l : Launch} {e : Env} {s : State} {m : MethodId} {args : Array Value} {below : List Frame} {meth : Method} {c : Code} {Q : State → Prop} {G : zG}  {out : zM} {rec : zM → Int32 → Int32 → Int32 → Int32 → Option zM} {dr : Nat} (hrec : ∀ (μ : zM) (a1 a2 a3 a4 : Int32) (μ' : zM), rec μ a1 a2 a3 a4 = some μ' → zMV l G yX4_goThrough cX4_goThrough 9 none dr [.ref (G.2.2.1 23 0), .int a1, .int a2, .int a3, .int a4] μ μ') (cx : zCX p (zrm (dr + 10)) s m args c RX4 cX4_goThrough 9 (dr + 10) G) (hret : zRv p l e (zrm (dr + 10)) s m args below meth c cX4_goThrough G Q out) {k25 : zM → Int32 → Int32 → Int32 → Int32 → Int32 → Option zM} (hk25 : ∀ (μ : zM) (x1 : Int32) (x2 : Int32) (x3 : Int32) (x4 : Int32) (x5 : Int32), k25 μ x1 x2 x3 x4 x5 = some out → ∀ {H : Heap} {locs : List Loc} {ls : Array Slot}, zIW G s μ H locs → lv_has ls 9 [(0, .ref (G.2.2.1 23 0)), (1, .int x1), (2, .int x2), (3, .int x3), (4, .int x4), (5, .int x5)] → W p l e (zrm (dr + 10)) s m args below meth c H locs 0 0 Q (F0 m 25 ls [])) : ∀ (μ : zM) (x1 : Int32) (x2 : Int32) (x3 : Int32) (x4 : Int32) (x5 : Int32), f_Se_goThrough_172 N rec k25 μ x1 x2 x3 x4 x5 = some out → ∀ {H : Heap} {locs : List Loc} {ls : Array Slot}, zIW G s μ H locs → lv_has ls 9 [(0, .ref (G.2.2.1 23 0)), (1, .int x1), (2, .int x2), (3, .int x3), (4, .int x4), (5, .int x5)] → W p l e (zrm (dr + 10)) s m args below meth c H locs 0 0 Q (F0 m 172 ls []) := by
  obtain ⟨hx, hb, hml, hown, hts, hK, hR⟩ := id cx
  intro μ x1 x2 x3 x4 x5  h H locs ls hI hl
  unfold f_Se_goThrough_172 at h
  obtain ⟨v19, ev19⟩ : ∃ z : Int32, z = x5 + (nI 1) := ⟨_, rfl⟩
  have h := bnd_el h ev19
  refine lv_iinc (v := v19) (lv' := [(5, .int v19), (0, .ref (G.2.2.1 23 0)), (1, .int x1), (2, .int x2), (3, .int x3), (4, .int x4)]) hx hb dX4_goThrough_172 hl (k := 5) rfl (by rw [ev19]; rfl) (by decide) rfl (fun ls hl => ?_)
  refine lv_goto (tgt := 25) hx hb dX4_goThrough_175 (by decide) ?_
  exact hk25 μ x1 x2 x3 x4 v19 h hI (lv_sub hl [1, 2, 3, 4, 5, 0] rfl)
def f_Se_goThrough_25 (N : Nat) (rec : zM → Int32 → Int32 → Int32 → Int32 → Option zM)  : Nat → zM → Int32 → Int32 → Int32 → Int32 → Int32 → Option zM
  | 0, _, _, _, _, _, _ => none
  | n + 1, μ, x1, x2, x3, x4, x5 => (if ((μ 23).1 0 6) ≤ x5 then f_Se_goThrough_178 N rec μ else (if ((μ 23).1 0 8) < ((μ 23).1 0 9) then f_Se_goThrough_178 N rec μ else (f_Se_mayCome μ x5 x2).bind (fun q6 => (if q6 = nI 0 then f_Se_goThrough_172 N rec (f_Se_goThrough_25 N rec n) μ x1 x2 x3 x4 x5 else if zin x5 7 then (f_Rd_step N (μ 22) x1 ((μ 23).1 2 x5.toNatClampNeg)).bind (fun q9 => bnd (zset μ 22 q9) (fun μ10 => if zin x1 7 then (f_J_bitCount ((μ10 22).1 7 x1.toNatClampNeg)).bind (fun q12 => bnd (if x3 < q12 then q12 else x3) (fun v13 => if zin x1 7 then (f_J_bitCount ((μ10 22).1 9 x1.toNatClampNeg)).bind (fun q15 => bnd (x4 + q15) (fun v16 => if zin x1 7 then (if q12 < ((μ10 23).1 4 x1.toNatClampNeg) then f_Se_goThrough_172 N rec (f_Se_goThrough_25 N rec n) μ10 x1 x2 x3 x4 x5 else if zin x1 7 then (if ((μ10 23).1 5 x1.toNatClampNeg) < q12 then f_Se_goThrough_172 N rec (f_Se_goThrough_25 N rec n) μ10 x1 x2 x3 x4 x5 else (f_Se_isWanted μ10 v13 v16).bind (fun q22 => (if q22 = nI 0 then f_Se_goThrough_172 N rec (f_Se_goThrough_25 N rec n) μ10 x1 x2 x3 x4 x5 else if zin x1 7 then bnd (zset μ10 23 (zI (μ10 23) 6 x1.toNatClampNeg x5)) (fun μ25 => (rec μ25 (x1 + (nI 1)) (x2 &&& (((nI 1) <<< (x5 &&& 31)) ^^^ (-1 : Int32))) v13 v16).bind (fun q26 => f_Se_goThrough_172 N rec (f_Se_goThrough_25 N rec n) q26 x1 x2 x3 x4 x5)) else none))) else none) else none)) else none)) else none)) else none))))
set_option maxHeartbeats 4000000 in
set_option maxRecDepth 100000 in
theorem t_Se_goThrough_25 (N : Nat) {p : Program} {l : Launch} {e : Env} {s : State} {m : MethodId} {args : Array Value} {below : List Frame} {meth : Method} {c : Code} {Q : State → Prop} {G : zG}  {out : zM} {rec : zM → Int32 → Int32 → Int32 → Int32 → Option zM} {dr : Nat} (hrec : ∀ (μ : zM) (a1 a2 a3 a4 : Int32) (μ' : zM), rec μ a1 a2 a3 a4 = some μ' → zMV l G yX4_goThrough cX4_goThrough 9 none dr [.ref (G.2.2.1 23 0), .int a1, .int a2, .int a3, .int a4] μ μ') (cx : zCX p (zrm (dr + 10)) s m args c RX4 cX4_goThrough 9 (dr + 10) G) (hret : zRv p l e (zrm (dr + 10)) s m args below meth c cX4_goThrough G Q out)   : ∀ (n : Nat) (μ : zM) (x1 : Int32) (x2 : Int32) (x3 : Int32) (x4 : Int32) (x5 : Int32), f_Se_goThrough_25 N rec n μ x1 x2 x3 x4 x5 = some out → ∀ {H : Heap} {locs : List Loc} {ls : Array Slot}, zIW G s μ H locs → lv_has ls 9 [(0, .ref (G.2.2.1 23 0)), (1, .int x1), (2, .int x2), (3, .int x3), (4, .int x4), (5, .int x5)] → W p l e (zrm (dr + 10)) s m args below meth c H locs 0 0 Q (F0 m 25 ls []) := by
  obtain ⟨hx, hb, hml, hown, hts, hK, hR⟩ := id cx
  intro n
  induction n with
  | zero =>
    intro μ x1 x2 x3 x4 x5  h
    cases h
  | succ n ih =>
    intro μ x1 x2 x3 x4 x5  h H locs ls hI hl
    rw [f_Se_goThrough_25] at h
    refine lv_iload hx hb dX4_goThrough_25 (lv_at hl 5 rfl) ?_
    refine lv_aload_n hx hb dX4_goThrough_27 rfl (lv_at hl 0 rfl) ?_
    refine g4_6 cx hI rfl rfl w_360 dX4_goThrough_28 ?_
    refine lv_icmp_ge (tgt := 178) hx hb dX4_goThrough_31 (by decide) (fun c4 => ?_) (fun c4 => ?_)
    · have h := it_p h c4
      exact t_Se_goThrough_178 N  (rec := rec) hrec cx hret μ h hI (lv_sub hl [] rfl)
    · have h := it_n h c4
      refine lv_aload_n hx hb dX4_goThrough_34 rfl (lv_at hl 0 rfl) ?_
      refine g4_9 cx hI rfl rfl w_363 dX4_goThrough_35 ?_
      refine lv_aload_n hx hb dX4_goThrough_38 rfl (lv_at hl 0 rfl) ?_
      refine g4_8 cx hI rfl rfl w_362 dX4_goThrough_39 ?_
      refine lv_icmp_gt (tgt := 178) hx hb dX4_goThrough_42 (by decide) (fun c5 => ?_) (fun c5 => ?_)
      · have h := it_p h c5
        exact t_Se_goThrough_178 N  (rec := rec) hrec cx hret μ h hI (lv_sub hl [] rfl)
      · have h := it_n h c5
        refine lv_aload_n hx hb dX4_goThrough_45 rfl (lv_at hl 0 rfl) ?_
        refine lv_iload hx hb dX4_goThrough_46 (lv_at hl 5 rfl) ?_
        refine lv_iload_n hx hb dX4_goThrough_48 rfl (lv_at hl 2 rfl) ?_
        obtain ⟨q6, hq6, h⟩ := bi_el h
        refine zcVi (As := [.int x5, .int x2]) cx hI (c_Se_mayCome  hq6) mt_yX4_mayCome mv_yX4_mayCome w_408 (by omega) (k4_0 rfl) (zv4 rfl) rfl hl.1 rfl (Nat.le_of_ble_eq_true rfl) dX4_goThrough_49 (fun H locs hI => ?_)
        refine lv_if_ne (tgt := 58) hx hb dX4_goThrough_52 (by decide) (fun c7 => ?_) (fun c7 => ?_)
        · have h := it_n h c7
          refine lv_aload_n hx hb dX4_goThrough_58 rfl (lv_at hl 0 rfl) ?_
          refine g4_0 cx hI rfl rfl w_91 dX4_goThrough_59 ?_
          refine lv_iload_n hx hb dX4_goThrough_62 rfl (lv_at hl 1 rfl) ?_
          refine lv_aload_n hx hb dX4_goThrough_63 rfl (lv_at hl 0 rfl) ?_
          refine g4_1 cx hI rfl rfl w_92 dX4_goThrough_64 ?_
          refine lv_iload hx hb dX4_goThrough_67 (lv_at hl 5 rfl) ?_
          obtain ⟨g8, h⟩ := gd_el h
          refine zr_iald cx hI (k4_2 rfl) rfl (z4_2 rfl) rfl g8 dX4_goThrough_69 ?_
          obtain ⟨q9, hq9, h⟩ := bi_el h
          obtain ⟨μ10, eμ10⟩ : ∃ z : zM, z = zset μ 22 q9 := ⟨_, rfl⟩
          have h := bnd_el h eμ10
          refine zcVv (As := [.int x1, .int ((μ 23).1 2 x5.toNatClampNeg)]) cx hI (c_Rd_step N rfl rfl hq9 eμ10.symm) mt_yX3_step mv_yX3_step w_412 (by omega) (k3_0 rfl) (zv3 rfl) rfl hl.1 rfl (Nat.le_of_ble_eq_true rfl) dX4_goThrough_70 (fun H locs hI => ?_)
          refine lv_aload_n hx hb dX4_goThrough_73 rfl (lv_at hl 0 rfl) ?_
          refine g4_0 cx hI rfl rfl w_91 dX4_goThrough_74 ?_
          refine g3_6 cx hI rfl rfl w_441 dX4_goThrough_77 ?_
          refine lv_iload_n hx hb dX4_goThrough_80 rfl (lv_at hl 1 rfl) ?_
          obtain ⟨g11, h⟩ := gd_el h
          refine zr_iald cx hI (k3_7 rfl) rfl (z3_7 rfl) rfl g11 dX4_goThrough_81 ?_
          obtain ⟨q12, hq12, h⟩ := bi_el h
          refine zcSi (As := [.int ((μ10 22).1 7 x1.toNatClampNeg)]) cx hI (c_J_bitCount  hq12) mt_yJ6_bitCount_0f7a4 ms_yJ6_bitCount_0f7a4 w_401 (by omega) rfl hl.1 rfl (Nat.le_of_ble_eq_true rfl) dX4_goThrough_82 (fun H locs hI => ?_)
          refine lv_istore (lv' := [(6, .int q12), (0, .ref (G.2.2.1 23 0)), (1, .int x1), (2, .int x2), (3, .int x3), (4, .int x4), (5, .int x5)]) hx hb dX4_goThrough_85 hl (by decide) rfl (fun ls hl => ?_)
          refine lv_iload_n hx hb dX4_goThrough_87 rfl (lv_at hl 4 rfl) ?_
          refine lv_iload hx hb dX4_goThrough_88 (lv_at hl 0 rfl) ?_
          refine zcmax cx hl.1 w_442 (by omega) (Nat.le_of_ble_eq_true rfl) dX4_goThrough_90 ?_
          refine lv_topi (fun v13 ev13 => ?_)
          have h := bnd_el h ev13
          refine lv_istore (lv' := [(7, .int v13), (6, .int q12), (0, .ref (G.2.2.1 23 0)), (1, .int x1), (2, .int x2), (3, .int x3), (4, .int x4), (5, .int x5)]) hx hb dX4_goThrough_93 hl (by decide) rfl (fun ls hl => ?_)
          refine lv_iload hx hb dX4_goThrough_95 (lv_at hl 6 rfl) ?_
          refine lv_aload_n hx hb dX4_goThrough_97 rfl (lv_at hl 2 rfl) ?_
          refine g4_0 cx hI rfl rfl w_91 dX4_goThrough_98 ?_
          refine g3_8 cx hI rfl rfl w_443 dX4_goThrough_101 ?_
          refine lv_iload_n hx hb dX4_goThrough_104 rfl (lv_at hl 3 rfl) ?_
          obtain ⟨g14, h⟩ := gd_el h
          refine zr_iald cx hI (k3_9 rfl) rfl (z3_9 rfl) rfl g14 dX4_goThrough_105 ?_
          obtain ⟨q15, hq15, h⟩ := bi_el h
          refine zcSi (As := [.int ((μ10 22).1 9 x1.toNatClampNeg)]) cx hI (c_J_bitCount  hq15) mt_yJ6_bitCount_0f7a4 ms_yJ6_bitCount_0f7a4 w_401 (by omega) rfl hl.1 rfl (Nat.le_of_ble_eq_true rfl) dX4_goThrough_106 (fun H locs hI => ?_)
          refine lv_iadd hx hb dX4_goThrough_109 ?_
          refine lv_topi (fun v16 ev16 => ?_)
          have h := bnd_el h ev16
          refine lv_istore (lv' := [(8, .int v16), (7, .int v13), (6, .int q12), (0, .ref (G.2.2.1 23 0)), (1, .int x1), (2, .int x2), (3, .int x3), (4, .int x4), (5, .int x5)]) hx hb dX4_goThrough_110 hl (by decide) rfl (fun ls hl => ?_)
          refine lv_iload hx hb dX4_goThrough_112 (lv_at hl 2 rfl) ?_
          refine lv_aload_n hx hb dX4_goThrough_114 rfl (lv_at hl 3 rfl) ?_
          refine g4_3 cx hI rfl rfl w_94 dX4_goThrough_115 ?_
          refine lv_iload_n hx hb dX4_goThrough_118 rfl (lv_at hl 4 rfl) ?_
          obtain ⟨g17, h⟩ := gd_el h
          refine zr_iald cx hI (k4_4 rfl) rfl (z4_4 rfl) rfl g17 dX4_goThrough_119 ?_
          refine lv_icmp_lt (tgt := 172) hx hb dX4_goThrough_120 (by decide) (fun c18 => ?_) (fun c18 => ?_)
          · have h := it_p h c18
            exact t_Se_goThrough_172 N  (rec := rec) hrec cx hret ih μ10 x1 x2 x3 x4 x5 h hI (lv_sub hl [3, 4, 5, 6, 7, 8] rfl)
          · have h := it_n h c18
            refine lv_iload hx hb dX4_goThrough_123 (lv_at hl 2 rfl) ?_
            refine lv_aload_n hx hb dX4_goThrough_125 rfl (lv_at hl 3 rfl) ?_
            refine g4_4 cx hI rfl rfl w_95 dX4_goThrough_126 ?_
            refine lv_iload_n hx hb dX4_goThrough_129 rfl (lv_at hl 4 rfl) ?_
            obtain ⟨g20, h⟩ := gd_el h
            refine zr_iald cx hI (k4_5 rfl) rfl (z4_5 rfl) rfl g20 dX4_goThrough_130 ?_
            refine lv_icmp_gt (tgt := 172) hx hb dX4_goThrough_131 (by decide) (fun c21 => ?_) (fun c21 => ?_)
            · have h := it_p h c21
              exact t_Se_goThrough_172 N  (rec := rec) hrec cx hret ih μ10 x1 x2 x3 x4 x5 h hI (lv_sub hl [3, 4, 5, 6, 7, 8] rfl)
            · have h := it_n h c21
              refine lv_aload_n hx hb dX4_goThrough_134 rfl (lv_at hl 3 rfl) ?_
              refine lv_iload hx hb dX4_goThrough_135 (lv_at hl 1 rfl) ?_
              refine lv_iload hx hb dX4_goThrough_137 (lv_at hl 0 rfl) ?_
              obtain ⟨q22, hq22, h⟩ := bi_el h
              refine zcVi (As := [.int v13, .int v16]) cx hI (c_Se_isWanted  hq22) mt_yX4_isWanted mv_yX4_isWanted w_449 (by omega) (k4_0 rfl) (zv4 rfl) rfl hl.1 rfl (Nat.le_of_ble_eq_true rfl) dX4_goThrough_139 (fun H locs hI => ?_)
              refine lv_if_eq (tgt := 172) hx hb dX4_goThrough_142 (by decide) (fun c23 => ?_) (fun c23 => ?_)
              · have h := it_p h c23
                exact t_Se_goThrough_172 N  (rec := rec) hrec cx hret ih μ10 x1 x2 x3 x4 x5 h hI (lv_sub hl [3, 4, 5, 6, 7, 8] rfl)
              · have h := it_n h c23
                refine lv_aload_n hx hb dX4_goThrough_145 rfl (lv_at hl 3 rfl) ?_
                refine g4_5 cx hI rfl rfl w_96 dX4_goThrough_146 ?_
                refine lv_iload_n hx hb dX4_goThrough_149 rfl (lv_at hl 4 rfl) ?_
                refine lv_iload hx hb dX4_goThrough_150 (lv_at hl 8 rfl) ?_
                obtain ⟨g24, h⟩ := gd_el h
                obtain ⟨μ25, eμ25⟩ : ∃ z : zM, z = zset μ10 23 (zI (μ10 23) 6 x1.toNatClampNeg x5) := ⟨_, rfl⟩
                have h := bnd_el h eμ25
                refine zr_iast cx hI (k4_6 rfl) rfl (z4_6 rfl) rfl g24 eμ25.symm dX4_goThrough_152 (fun H locs hI => ?_)
                refine lv_aload_n hx hb dX4_goThrough_153 rfl (lv_at hl 3 rfl) ?_
                refine lv_iload_n hx hb dX4_goThrough_154 rfl (lv_at hl 4 rfl) ?_
                refine lv_iconst (v := (nI 1)) hx hb dX4_goThrough_155 (by decide) ?_
                refine lv_iadd hx hb dX4_goThrough_156 ?_
                refine lv_iload_n hx hb dX4_goThrough_157 rfl (lv_at hl 5 rfl) ?_
                refine lv_iconst (v := (nI 1)) hx hb dX4_goThrough_158 (by decide) ?_
                refine lv_iload hx hb dX4_goThrough_159 (lv_at hl 8 rfl) ?_
                refine lv_ishl hx hb dX4_goThrough_161 ?_
                refine lv_iconst (v := (-1 : Int32)) hx hb dX4_goThrough_162 (by decide) ?_
                refine lv_ixor hx hb dX4_goThrough_163 ?_
                refine lv_iand hx hb dX4_goThrough_164 ?_
                refine lv_iload hx hb dX4_goThrough_165 (lv_at hl 1 rfl) ?_
                refine lv_iload hx hb dX4_goThrough_167 (lv_at hl 0 rfl) ?_
                obtain ⟨q26, hq26, h⟩ := bi_el h
                refine zcSv (As := [.ref (G.2.2.1 23 0), .int (x1 + (nI 1)), .int (x2 &&& (((nI 1) <<< (x5 &&& 31)) ^^^ (-1 : Int32))), .int v13, .int v16]) cx hI (hrec _ _ _ _ _ _ hq26) mt_yX4_goThrough ms_yX4_goThrough w_438 (by omega) rfl hl.1 rfl (Nat.le_of_ble_eq_true rfl) dX4_goThrough_169 (fun H locs hI => ?_)
                exact t_Se_goThrough_172 N  (rec := rec) hrec cx hret ih q26 x1 x2 x3 x4 x5 h hI (lv_sub hl [3, 4, 5, 6, 7, 8] rfl)
        · have h := it_p h c7
          refine lv_goto (tgt := 172) hx hb dX4_goThrough_55 (by decide) ?_
          exact t_Se_goThrough_172 N  (rec := rec) hrec cx hret ih μ x1 x2 x3 x4 x5 h hI hl
def f_Se_goThrough_b (N : Nat) (rec : zM → Int32 → Int32 → Int32 → Int32 → Option zM) (μ : zM) (a1 : Int32) (a2 : Int32) (a3 : Int32) (a4 : Int32) : Option zM :=
  (if ((μ 23).1 0 6) ≤ a1 then f_Se_goThrough_14 N rec μ a3 a4 else (if a1 < (nI 7) then f_Se_goThrough_25 N rec N μ a1 a2 a3 a4 (nI 0) else f_Se_goThrough_14 N rec μ a3 a4))
set_option maxHeartbeats 4000000 in
set_option maxRecDepth 100000 in
theorem c_Se_goThrough_b (N : Nat) {l : Launch} {G : zG} {μ : zM}  {a1 : Int32} {a2 : Int32} {a3 : Int32} {a4 : Int32} {rec : zM → Int32 → Int32 → Int32 → Int32 → Option zM} {dr : Nat} (hrec : ∀ (μ : zM) (a1 a2 a3 a4 : Int32) (μ' : zM), rec μ a1 a2 a3 a4 = some μ' → zMV l G yX4_goThrough cX4_goThrough 9 none dr [.ref (G.2.2.1 23 0), .int a1, .int a2, .int a3, .int a4] μ μ') {out : zM} (h : f_Se_goThrough_b N rec μ a1 a2 a3 a4 = some out) : zMV l G yX4_goThrough cX4_goThrough 9 none (dr + 10) [.ref (G.2.2.1 23 0), .int a1, .int a2, .int a3, .int a4] μ out := by
  refine zMV.of (by decide) (Nat.le_of_ble_eq_true rfl) (fun p e s m args below meth c Q ls cx hI hl hret => ?_)
  obtain ⟨hx, hb, hml, hown, hts, hK, hR⟩ := id cx
  have hl : lv_has ls 9 [(0, .ref (G.2.2.1 23 0)), (1, .int a1), (2, .int a2), (3, .int a3), (4, .int a4)] := hl
  unfold f_Se_goThrough_b at h
  refine lv_iload_n hx hb dX4_goThrough_0 rfl (lv_at hl 1 rfl) ?_
  refine lv_aload_n hx hb dX4_goThrough_1 rfl (lv_at hl 0 rfl) ?_
  refine g4_6 cx hI rfl rfl w_360 dX4_goThrough_2 ?_
  refine lv_icmp_ge (tgt := 14) hx hb dX4_goThrough_5 (by decide) (fun c1 => ?_) (fun c1 => ?_)
  · have h := it_p h c1
    exact t_Se_goThrough_14 N  (rec := rec) hrec cx hret μ a3 a4 h hI (lv_sub hl [0, 3, 4] rfl)
  · have h := it_n h c1
    refine lv_iload_n hx hb dX4_goThrough_8 rfl (lv_at hl 1 rfl) ?_
    refine lv_bipush (v := (nI 7)) hx hb dX4_goThrough_9 (by decide) ?_
    refine lv_icmp_lt (tgt := 22) hx hb dX4_goThrough_11 (by decide) (fun c3 => ?_) (fun c3 => ?_)
    · have h := it_p h c3
      refine lv_iconst (v := (nI 0)) hx hb dX4_goThrough_22 (by decide) ?_
      refine lv_istore (lv' := [(5, .int (nI 0)), (0, .ref (G.2.2.1 23 0)), (1, .int a1), (2, .int a2), (3, .int a3), (4, .int a4)]) hx hb dX4_goThrough_23 hl (by decide) rfl (fun ls hl => ?_)
      exact t_Se_goThrough_25 N  (rec := rec) hrec cx hret N μ a1 a2 a3 a4 (nI 0) h hI (lv_sub hl [1, 2, 3, 4, 5, 0] rfl)
    · have h := it_n h c3
      exact t_Se_goThrough_14 N  (rec := rec) hrec cx hret μ a3 a4 h hI (lv_sub hl [0, 3, 4] rfl)
def f_Se_goD (N : Nat) : Nat → zM → Int32 → Int32 → Int32 → Int32 → Option zM
  | 0, _, _, _, _, _ => none
  | D + 1, μ, a1, a2, a3, a4 => f_Se_goThrough_b N (f_Se_goD N D) μ a1 a2 a3 a4
def f_Se_goThrough (N : Nat) (μ : zM) (a1 a2 a3 a4 : Int32) : Option zM := f_Se_goD N 9 μ a1 a2 a3 a4
theorem c_Se_goD (N : Nat) {l : Launch} {G : zG} : ∀ (D : Nat) (μ : zM) (a1 a2 a3 a4 : Int32) (out : zM), f_Se_goD N D μ a1 a2 a3 a4 = some out → zMV l G yX4_goThrough cX4_goThrough 9 none (10 * D) [.ref (G.2.2.1 23 0), .int a1, .int a2, .int a3, .int a4] μ out
  | 0, _, _, _, _, _, _, h => by cases h
  | D + 1, _, _, _, _, _, _, h => c_Se_goThrough_b N (rec := f_Se_goD N D) (dr := 10 * D) (c_Se_goD N D) h
theorem c_Se_goThrough (N : Nat) {l : Launch} {G : zG} {μ : zM} {a1 a2 a3 a4 : Int32} {out : zM} (h : f_Se_goThrough N μ a1 a2 a3 a4 = some out) : zMV l G yX4_goThrough cX4_goThrough 9 none 90 [.ref (G.2.2.1 23 0), .int a1, .int a2, .int a3, .int a4] μ out := c_Se_goD N 9 μ a1 a2 a3 a4 out h
def f_Se_seek (N : Nat) (μ : zM) : Option zM :=
  (f_Se_goThrough N μ (nI 0) (((nI 1) <<< (((μ 23).1 0 6) &&& 31)) - (nI 1)) (nI 0) (nI 0)).bind (fun q1 => some q1)
set_option maxHeartbeats 4000000 in
set_option maxRecDepth 100000 in
theorem c_Se_seek (N : Nat) {l : Launch} {G : zG} {μ : zM}   {out : zM} (h : f_Se_seek N μ  = some out) : zMV l G yX4_seek cX4_seek 1 none 91 [.ref (G.2.2.1 23 0)] μ out := by
  refine zMV.of (by decide) (Nat.le_of_ble_eq_true rfl) (fun p e s m args below meth c Q ls cx hI hl hret => ?_)
  obtain ⟨hx, hb, hml, hown, hts, hK, hR⟩ := id cx
  have hl : lv_has ls 1 [(0, .ref (G.2.2.1 23 0))] := hl
  unfold f_Se_seek at h
  refine lv_aload_n hx hb dX4_seek_0 rfl (lv_at hl 0 rfl) ?_
  refine lv_iconst (v := (nI 0)) hx hb dX4_seek_1 (by decide) ?_
  refine lv_iconst (v := (nI 1)) hx hb dX4_seek_2 (by decide) ?_
  refine lv_aload_n hx hb dX4_seek_3 rfl (lv_at hl 0 rfl) ?_
  refine g4_6 cx hI rfl rfl w_360 dX4_seek_4 ?_
  refine lv_ishl hx hb dX4_seek_7 ?_
  refine lv_iconst (v := (nI 1)) hx hb dX4_seek_8 (by decide) ?_
  refine lv_isub hx hb dX4_seek_9 ?_
  refine lv_iconst (v := (nI 0)) hx hb dX4_seek_10 (by decide) ?_
  refine lv_iconst (v := (nI 0)) hx hb dX4_seek_11 (by decide) ?_
  obtain ⟨q1, hq1, h⟩ := bi_el h
  refine zcSv (As := [.ref (G.2.2.1 23 0), .int (nI 0), .int (((nI 1) <<< (((μ 23).1 0 6) &&& 31)) - (nI 1)), .int (nI 0), .int (nI 0)]) cx hI (c_Se_goThrough N hq1) mt_yX4_goThrough ms_yX4_goThrough w_438 (by omega) rfl hl.1 rfl (Nat.le_of_ble_eq_true rfl) dX4_seek_12 (fun H locs hI => ?_)
  obtain rfl := Option.some.inj h
  exact hret _ _ _ _ dX4_seek_15 hI
def f_Se_seekLeast (N : Nat) (μ : zM) : Option zM :=
  bnd (zset μ 23 (zI (μ 23) 0 7 (nI 1))) (fun μ1 => (f_Se_seek N μ1).bind (fun q2 => some q2))
set_option maxHeartbeats 4000000 in
set_option maxRecDepth 100000 in
theorem c_Se_seekLeast (N : Nat) {l : Launch} {G : zG} {μ : zM}   {out : zM} (h : f_Se_seekLeast N μ  = some out) : zMV l G yX4_seekLeast cX4_seekLeast 1 none 92 [.ref (G.2.2.1 23 0)] μ out := by
  refine zMV.of (by decide) (Nat.le_of_ble_eq_true rfl) (fun p e s m args below meth c Q ls cx hI hl hret => ?_)
  obtain ⟨hx, hb, hml, hown, hts, hK, hR⟩ := id cx
  have hl : lv_has ls 1 [(0, .ref (G.2.2.1 23 0))] := hl
  unfold f_Se_seekLeast at h
  refine lv_aload_n hx hb dX4_seekLeast_0 rfl (lv_at hl 0 rfl) ?_
  refine lv_iconst (v := (nI 1)) hx hb dX4_seekLeast_1 (by decide) ?_
  obtain ⟨μ1, eμ1⟩ : ∃ z : zM, z = zset μ 23 (zI (μ 23) 0 7 (nI 1)) := ⟨_, rfl⟩
  have h := bnd_el h eμ1
  refine p4_7 cx hI rfl rfl (by decide) (by decide) w_361 eμ1.symm dX4_seekLeast_2 (fun H locs hI => ?_)
  refine lv_aload_n hx hb dX4_seekLeast_5 rfl (lv_at hl 0 rfl) ?_
  obtain ⟨q2, hq2, h⟩ := bi_el h
  refine zcVv (As := []) cx hI (c_Se_seek N hq2) mt_yX4_seek mv_yX4_seek w_434 (by omega) (k4_0 rfl) (zv4 rfl) rfl hl.1 rfl (Nat.le_of_ble_eq_true rfl) dX4_seekLeast_6 (fun H locs hI => ?_)
  obtain rfl := Option.some.inj h
  exact hret _ _ _ _ dX4_seekLeast_9 hI
def f_Se_nextGrown_121 (N : Nat) (μ : zM) (k22 : Int32 → Int32 → Int32 → Int32 → Int32 → Int32 → Option Int32) (x2 : Int32) (x3 : Int32) (x4 : Int32) (x5 : Int32) (x6 : Int32) (x7 : Int32) : Option Int32 :=
  bnd (x7 + (nI 1)) (fun v9 => k22 x2 x3 x4 x5 x6 v9)
set_option maxHeartbeats 4000000 in
set_option maxRecDepth 100000 in
theorem t_Se_nextGrown_121 (N : Nat) {p : Program} {l : Launch} {e : Env} {s : State} {m : MethodId} {args : Array Value} {below : List Frame} {meth : Method} {c : Code} {Q : State → Prop} {G : zG} {μ : zM}  {out : Int32} (cx : zCX p (zrm 2) s m args c RX4 cX4_nextGrown 11 2 G) (hret : zRi p l e (zrm 2) s m args below meth c cX4_nextGrown G .int Q out μ) {k22 : Int32 → Int32 → Int32 → Int32 → Int32 → Int32 → Option Int32} (hk22 : ∀ (x2 : Int32) (x3 : Int32) (x4 : Int32) (x5 : Int32) (x6 : Int32) (x7 : Int32), k22 x2 x3 x4 x5 x6 x7 = some out → ∀ {H : Heap} {locs : List Loc} {ls : Array Slot}, zIW G s μ H locs → lv_has ls 11 [(0, .ref (G.2.2.1 23 0)), (2, .int x2), (3, .int x3), (4, .int x4), (5, .int x5), (6, .int x6), (7, .int x7)] → W p l e (zrm 2) s m args below meth c H locs 0 0 Q (F0 m 22 ls [])) : ∀ (x2 : Int32) (x3 : Int32) (x4 : Int32) (x5 : Int32) (x6 : Int32) (x7 : Int32), f_Se_nextGrown_121 N μ k22 x2 x3 x4 x5 x6 x7 = some out → ∀ {H : Heap} {locs : List Loc} {ls : Array Slot}, zIW G s μ H locs → lv_has ls 11 [(0, .ref (G.2.2.1 23 0)), (2, .int x2), (3, .int x3), (4, .int x4), (5, .int x5), (6, .int x6), (7, .int x7)] → W p l e (zrm 2) s m args below meth c H locs 0 0 Q (F0 m 121 ls []) := by
  obtain ⟨hx, hb, hml, hown, hts, hK, hR⟩ := id cx
  intro x2 x3 x4 x5 x6 x7  h H locs ls hI hl
  unfold f_Se_nextGrown_121 at h
  obtain ⟨v9, ev9⟩ : ∃ z : Int32, z = x7 + (nI 1) := ⟨_, rfl⟩
  have h := bnd_el h ev9
  refine lv_iinc (v := v9) (lv' := [(7, .int v9), (0, .ref (G.2.2.1 23 0)), (2, .int x2), (3, .int x3), (4, .int x4), (5, .int x5), (6, .int x6)]) hx hb dX4_nextGrown_121 hl (k := 6) rfl (by rw [ev9]; rfl) (by decide) rfl (fun ls hl => ?_)
  refine lv_goto (tgt := 22) hx hb dX4_nextGrown_124 (by decide) ?_
  exact hk22 x2 x3 x4 x5 x6 v9 h hI (lv_sub hl [1, 2, 3, 4, 5, 6, 0] rfl)
def f_Se_nextGrown_92 (N : Nat) (μ : zM) (k22 : Int32 → Int32 → Int32 → Int32 → Int32 → Int32 → Option Int32) (x2 : Int32) (x3 : Int32) (x4 : Int32) (x5 : Int32) (x6 : Int32) (x7 : Int32) (x8 : Int32) (x9 : Int32) (s0 : Int32) : Option Int32 :=
  (if s0 = nI 0 then f_Se_nextGrown_121 N μ k22 x2 x3 x4 x5 x6 x7 else (f_Se_mayCome μ x7 x2).bind (fun q10 => (if q10 = nI 0 then f_Se_nextGrown_121 N μ k22 x2 x3 x4 x5 x6 x7 else f_Se_nextGrown_121 N μ k22 x2 x3 x7 x8 x9 x7)))
set_option maxHeartbeats 4000000 in
set_option maxRecDepth 100000 in
theorem t_Se_nextGrown_92 (N : Nat) {p : Program} {l : Launch} {e : Env} {s : State} {m : MethodId} {args : Array Value} {below : List Frame} {meth : Method} {c : Code} {Q : State → Prop} {G : zG} {μ : zM}  {out : Int32} (cx : zCX p (zrm 2) s m args c RX4 cX4_nextGrown 11 2 G) (hret : zRi p l e (zrm 2) s m args below meth c cX4_nextGrown G .int Q out μ) {k22 : Int32 → Int32 → Int32 → Int32 → Int32 → Int32 → Option Int32} (hk22 : ∀ (x2 : Int32) (x3 : Int32) (x4 : Int32) (x5 : Int32) (x6 : Int32) (x7 : Int32), k22 x2 x3 x4 x5 x6 x7 = some out → ∀ {H : Heap} {locs : List Loc} {ls : Array Slot}, zIW G s μ H locs → lv_has ls 11 [(0, .ref (G.2.2.1 23 0)), (2, .int x2), (3, .int x3), (4, .int x4), (5, .int x5), (6, .int x6), (7, .int x7)] → W p l e (zrm 2) s m args below meth c H locs 0 0 Q (F0 m 22 ls [])) : ∀ (x2 : Int32) (x3 : Int32) (x4 : Int32) (x5 : Int32) (x6 : Int32) (x7 : Int32) (x8 : Int32) (x9 : Int32) (s0 : Int32), f_Se_nextGrown_92 N μ k22 x2 x3 x4 x5 x6 x7 x8 x9 s0 = some out → ∀ {H : Heap} {locs : List Loc} {ls : Array Slot}, zIW G s μ H locs → lv_has ls 11 [(0, .ref (G.2.2.1 23 0)), (2, .int x2), (3, .int x3), (4, .int x4), (5, .int x5), (6, .int x6), (7, .int x7), (8, .int x8), (9, .int x9)] → W p l e (zrm 2) s m args below meth c H locs 0 0 Q (F0 m 92 ls [.int s0]) := by
  obtain ⟨hx, hb, hml, hown, hts, hK, hR⟩ := id cx
  intro x2 x3 x4 x5 x6 x7 x8 x9 s0  h H locs ls hI hl
  unfold f_Se_nextGrown_92 at h
  refine lv_istore (lv' := [(10, .int s0), (0, .ref (G.2.2.1 23 0)), (2, .int x2), (3, .int x3), (4, .int x4), (5, .int x5), (6, .int x6), (7, .int x7), (8, .int x8), (9, .int x9)]) hx hb dX4_nextGrown_92 hl (by decide) rfl (fun ls hl => ?_)
  refine lv_iload hx hb dX4_nextGrown_94 (lv_at hl 0 rfl) ?_
  refine lv_if_eq (tgt := 121) hx hb dX4_nextGrown_96 (by decide) (fun c8 => ?_) (fun c8 => ?_)
  · have h := it_p h c8
    exact t_Se_nextGrown_121 N  cx hret hk22 x2 x3 x4 x5 x6 x7 h hI (lv_sub hl [1, 2, 3, 4, 5, 6, 7] rfl)
  · have h := it_n h c8
    refine lv_aload_n hx hb dX4_nextGrown_99 rfl (lv_at hl 1 rfl) ?_
    refine lv_iload hx hb dX4_nextGrown_100 (lv_at hl 7 rfl) ?_
    refine lv_iload_n hx hb dX4_nextGrown_102 rfl (lv_at hl 2 rfl) ?_
    obtain ⟨q10, hq10, h⟩ := bi_el h
    refine zcVi (As := [.int x7, .int x2]) cx hI (c_Se_mayCome  hq10) mt_yX4_mayCome mv_yX4_mayCome w_408 (by omega) (k4_0 rfl) (zv4 rfl) rfl hl.1 rfl (Nat.le_of_ble_eq_true rfl) dX4_nextGrown_103 (fun H locs hI => ?_)
    refine lv_if_eq (tgt := 121) hx hb dX4_nextGrown_106 (by decide) (fun c11 => ?_) (fun c11 => ?_)
    · have h := it_p h c11
      exact t_Se_nextGrown_121 N  cx hret hk22 x2 x3 x4 x5 x6 x7 h hI (lv_sub hl [1, 2, 3, 4, 5, 6, 7] rfl)
    · have h := it_n h c11
      refine lv_iload hx hb dX4_nextGrown_109 (lv_at hl 7 rfl) ?_
      refine lv_istore (lv' := [(4, .int x7), (10, .int s0), (0, .ref (G.2.2.1 23 0)), (2, .int x2), (3, .int x3), (5, .int x5), (6, .int x6), (7, .int x7), (8, .int x8), (9, .int x9)]) hx hb dX4_nextGrown_111 hl (by decide) rfl (fun ls hl => ?_)
      refine lv_iload hx hb dX4_nextGrown_113 (lv_at hl 8 rfl) ?_
      refine lv_istore (lv' := [(5, .int x8), (4, .int x7), (10, .int s0), (0, .ref (G.2.2.1 23 0)), (2, .int x2), (3, .int x3), (6, .int x6), (7, .int x7), (8, .int x8), (9, .int x9)]) hx hb dX4_nextGrown_115 hl (by decide) rfl (fun ls hl => ?_)
      refine lv_iload hx hb dX4_nextGrown_117 (lv_at hl 9 rfl) ?_
      refine lv_istore (lv' := [(6, .int x9), (5, .int x8), (4, .int x7), (10, .int s0), (0, .ref (G.2.2.1 23 0)), (2, .int x2), (3, .int x3), (7, .int x7), (8, .int x8), (9, .int x9)]) hx hb dX4_nextGrown_119 hl (by decide) rfl (fun ls hl => ?_)
      exact t_Se_nextGrown_121 N  cx hret hk22 x2 x3 x7 x8 x9 x7 h hI (lv_sub hl [4, 5, 6, 2, 1, 0, 7] rfl)
def f_Se_nextGrown_87 (N : Nat) (μ : zM) (k22 : Int32 → Int32 → Int32 → Int32 → Int32 → Int32 → Option Int32) (x2 : Int32) (x3 : Int32) (x4 : Int32) (x5 : Int32) (x6 : Int32) (x7 : Int32) (x8 : Int32) (x9 : Int32) : Option Int32 :=
  f_Se_nextGrown_92 N μ k22 x2 x3 x4 x5 x6 x7 x8 x9 (nI 1)
set_option maxHeartbeats 4000000 in
set_option maxRecDepth 100000 in
theorem t_Se_nextGrown_87 (N : Nat) {p : Program} {l : Launch} {e : Env} {s : State} {m : MethodId} {args : Array Value} {below : List Frame} {meth : Method} {c : Code} {Q : State → Prop} {G : zG} {μ : zM}  {out : Int32} (cx : zCX p (zrm 2) s m args c RX4 cX4_nextGrown 11 2 G) (hret : zRi p l e (zrm 2) s m args below meth c cX4_nextGrown G .int Q out μ) {k22 : Int32 → Int32 → Int32 → Int32 → Int32 → Int32 → Option Int32} (hk22 : ∀ (x2 : Int32) (x3 : Int32) (x4 : Int32) (x5 : Int32) (x6 : Int32) (x7 : Int32), k22 x2 x3 x4 x5 x6 x7 = some out → ∀ {H : Heap} {locs : List Loc} {ls : Array Slot}, zIW G s μ H locs → lv_has ls 11 [(0, .ref (G.2.2.1 23 0)), (2, .int x2), (3, .int x3), (4, .int x4), (5, .int x5), (6, .int x6), (7, .int x7)] → W p l e (zrm 2) s m args below meth c H locs 0 0 Q (F0 m 22 ls [])) : ∀ (x2 : Int32) (x3 : Int32) (x4 : Int32) (x5 : Int32) (x6 : Int32) (x7 : Int32) (x8 : Int32) (x9 : Int32), f_Se_nextGrown_87 N μ k22 x2 x3 x4 x5 x6 x7 x8 x9 = some out → ∀ {H : Heap} {locs : List Loc} {ls : Array Slot}, zIW G s μ H locs → lv_has ls 11 [(0, .ref (G.2.2.1 23 0)), (2, .int x2), (3, .int x3), (4, .int x4), (5, .int x5), (6, .int x6), (7, .int x7), (8, .int x8), (9, .int x9)] → W p l e (zrm 2) s m args below meth c H locs 0 0 Q (F0 m 87 ls []) := by
  obtain ⟨hx, hb, hml, hown, hts, hK, hR⟩ := id cx
  intro x2 x3 x4 x5 x6 x7 x8 x9  h H locs ls hI hl
  unfold f_Se_nextGrown_87 at h
  refine lv_iconst (v := (nI 1)) hx hb dX4_nextGrown_87 (by decide) ?_
  refine lv_goto (tgt := 92) hx hb dX4_nextGrown_88 (by decide) ?_
  exact t_Se_nextGrown_92 N  cx hret hk22 x2 x3 x4 x5 x6 x7 x8 x9 (nI 1) h hI hl
def f_Se_nextGrown_91 (N : Nat) (μ : zM) (k22 : Int32 → Int32 → Int32 → Int32 → Int32 → Int32 → Option Int32) (x2 : Int32) (x3 : Int32) (x4 : Int32) (x5 : Int32) (x6 : Int32) (x7 : Int32) (x8 : Int32) (x9 : Int32) : Option Int32 :=
  f_Se_nextGrown_92 N μ k22 x2 x3 x4 x5 x6 x7 x8 x9 (nI 0)
set_option maxHeartbeats 4000000 in
set_option maxRecDepth 100000 in
theorem t_Se_nextGrown_91 (N : Nat) {p : Program} {l : Launch} {e : Env} {s : State} {m : MethodId} {args : Array Value} {below : List Frame} {meth : Method} {c : Code} {Q : State → Prop} {G : zG} {μ : zM}  {out : Int32} (cx : zCX p (zrm 2) s m args c RX4 cX4_nextGrown 11 2 G) (hret : zRi p l e (zrm 2) s m args below meth c cX4_nextGrown G .int Q out μ) {k22 : Int32 → Int32 → Int32 → Int32 → Int32 → Int32 → Option Int32} (hk22 : ∀ (x2 : Int32) (x3 : Int32) (x4 : Int32) (x5 : Int32) (x6 : Int32) (x7 : Int32), k22 x2 x3 x4 x5 x6 x7 = some out → ∀ {H : Heap} {locs : List Loc} {ls : Array Slot}, zIW G s μ H locs → lv_has ls 11 [(0, .ref (G.2.2.1 23 0)), (2, .int x2), (3, .int x3), (4, .int x4), (5, .int x5), (6, .int x6), (7, .int x7)] → W p l e (zrm 2) s m args below meth c H locs 0 0 Q (F0 m 22 ls [])) : ∀ (x2 : Int32) (x3 : Int32) (x4 : Int32) (x5 : Int32) (x6 : Int32) (x7 : Int32) (x8 : Int32) (x9 : Int32), f_Se_nextGrown_91 N μ k22 x2 x3 x4 x5 x6 x7 x8 x9 = some out → ∀ {H : Heap} {locs : List Loc} {ls : Array Slot}, zIW G s μ H locs → lv_has ls 11 [(0, .ref (G.2.2.1 23 0)), (2, .int x2), (3, .int x3), (4, .int x4), (5, .int x5), (6, .int x6), (7, .int x7), (8, .int x8), (9, .int x9)] → W p l e (zrm 2) s m args below meth c H locs 0 0 Q (F0 m 91 ls []) := by
  obtain ⟨hx, hb, hml, hown, hts, hK, hR⟩ := id cx
  intro x2 x3 x4 x5 x6 x7 x8 x9  h H locs ls hI hl
  unfold f_Se_nextGrown_91 at h
  refine lv_iconst (v := (nI 0)) hx hb dX4_nextGrown_91 (by decide) ?_
  exact t_Se_nextGrown_92 N  cx hret hk22 x2 x3 x4 x5 x6 x7 x8 x9 (nI 0) h hI hl
def f_Se_nextGrown_22 (N : Nat) (μ : zM)  : Nat → Int32 → Int32 → Int32 → Int32 → Int32 → Int32 → Option Int32
  | 0, _, _, _, _, _, _ => none
  | n + 1, x2, x3, x4, x5, x6, x7 => (if ((μ 23).1 0 6) ≤ x7 then some x4 else if zin x7 7 then (f_J_bitCount (((μ 23).1 2 x7.toNatClampNeg) &&& (x3 ^^^ (-1 : Int32)))).bind (fun q4 => if zin x7 7 then (f_J_bitCount (((μ 23).1 2 x7.toNatClampNeg) &&& x3)).bind (fun q6 => (if x4 < nI 0 then f_Se_nextGrown_87 N μ (f_Se_nextGrown_22 N μ n) x2 x3 x4 x5 x6 x7 q4 q6 else (if q4 < x5 then f_Se_nextGrown_87 N μ (f_Se_nextGrown_22 N μ n) x2 x3 x4 x5 x6 x7 q4 q6 else (if q4 = x5 then (if q6 ≤ x6 then f_Se_nextGrown_91 N μ (f_Se_nextGrown_22 N μ n) x2 x3 x4 x5 x6 x7 q4 q6 else f_Se_nextGrown_87 N μ (f_Se_nextGrown_22 N μ n) x2 x3 x4 x5 x6 x7 q4 q6) else f_Se_nextGrown_91 N μ (f_Se_nextGrown_22 N μ n) x2 x3 x4 x5 x6 x7 q4 q6)))) else none) else none)
set_option maxHeartbeats 4000000 in
set_option maxRecDepth 100000 in
theorem t_Se_nextGrown_22 (N : Nat) {p : Program} {l : Launch} {e : Env} {s : State} {m : MethodId} {args : Array Value} {below : List Frame} {meth : Method} {c : Code} {Q : State → Prop} {G : zG} {μ : zM}  {out : Int32} (cx : zCX p (zrm 2) s m args c RX4 cX4_nextGrown 11 2 G) (hret : zRi p l e (zrm 2) s m args below meth c cX4_nextGrown G .int Q out μ)   : ∀ (n : Nat) (x2 : Int32) (x3 : Int32) (x4 : Int32) (x5 : Int32) (x6 : Int32) (x7 : Int32), f_Se_nextGrown_22 N μ n x2 x3 x4 x5 x6 x7 = some out → ∀ {H : Heap} {locs : List Loc} {ls : Array Slot}, zIW G s μ H locs → lv_has ls 11 [(0, .ref (G.2.2.1 23 0)), (2, .int x2), (3, .int x3), (4, .int x4), (5, .int x5), (6, .int x6), (7, .int x7)] → W p l e (zrm 2) s m args below meth c H locs 0 0 Q (F0 m 22 ls []) := by
  obtain ⟨hx, hb, hml, hown, hts, hK, hR⟩ := id cx
  intro n
  induction n with
  | zero =>
    intro x2 x3 x4 x5 x6 x7  h
    cases h
  | succ n ih =>
    intro x2 x3 x4 x5 x6 x7  h H locs ls hI hl
    rw [f_Se_nextGrown_22] at h
    refine lv_iload hx hb dX4_nextGrown_22 (lv_at hl 6 rfl) ?_
    refine lv_aload_n hx hb dX4_nextGrown_24 rfl (lv_at hl 0 rfl) ?_
    refine g4_6 cx hI rfl rfl w_360 dX4_nextGrown_25 ?_
    refine lv_icmp_ge (tgt := 127) hx hb dX4_nextGrown_28 (by decide) (fun c2 => ?_) (fun c2 => ?_)
    · have h := it_p h c2
      refine lv_iload hx hb dX4_nextGrown_127 (lv_at hl 3 rfl) ?_
      obtain rfl := Option.some.inj h
      exact hret _ _ _ _ dX4_nextGrown_129 rfl hI
    · have h := it_n h c2
      refine lv_aload_n hx hb dX4_nextGrown_31 rfl (lv_at hl 0 rfl) ?_
      refine g4_1 cx hI rfl rfl w_92 dX4_nextGrown_32 ?_
      refine lv_iload hx hb dX4_nextGrown_35 (lv_at hl 6 rfl) ?_
      obtain ⟨g3, h⟩ := gd_el h
      refine zr_iald cx hI (k4_2 rfl) rfl (z4_2 rfl) rfl g3 dX4_nextGrown_37 ?_
      refine lv_iload_n hx hb dX4_nextGrown_38 rfl (lv_at hl 2 rfl) ?_
      refine lv_iconst (v := (-1 : Int32)) hx hb dX4_nextGrown_39 (by decide) ?_
      refine lv_ixor hx hb dX4_nextGrown_40 ?_
      refine lv_iand hx hb dX4_nextGrown_41 ?_
      obtain ⟨q4, hq4, h⟩ := bi_el h
      refine zcSi (As := [.int (((μ 23).1 2 x7.toNatClampNeg) &&& (x3 ^^^ (-1 : Int32)))]) cx hI (c_J_bitCount  hq4) mt_yJ6_bitCount_0f7a4 ms_yJ6_bitCount_0f7a4 w_401 (by omega) rfl hl.1 rfl (Nat.le_of_ble_eq_true rfl) dX4_nextGrown_42 (fun H locs hI => ?_)
      refine lv_istore (lv' := [(8, .int q4), (0, .ref (G.2.2.1 23 0)), (2, .int x2), (3, .int x3), (4, .int x4), (5, .int x5), (6, .int x6), (7, .int x7)]) hx hb dX4_nextGrown_45 hl (by decide) rfl (fun ls hl => ?_)
      refine lv_aload_n hx hb dX4_nextGrown_47 rfl (lv_at hl 1 rfl) ?_
      refine g4_1 cx hI rfl rfl w_92 dX4_nextGrown_48 ?_
      refine lv_iload hx hb dX4_nextGrown_51 (lv_at hl 7 rfl) ?_
      obtain ⟨g5, h⟩ := gd_el h
      refine zr_iald cx hI (k4_2 rfl) rfl (z4_2 rfl) rfl g5 dX4_nextGrown_53 ?_
      refine lv_iload_n hx hb dX4_nextGrown_54 rfl (lv_at hl 3 rfl) ?_
      refine lv_iand hx hb dX4_nextGrown_55 ?_
      obtain ⟨q6, hq6, h⟩ := bi_el h
      refine zcSi (As := [.int (((μ 23).1 2 x7.toNatClampNeg) &&& x3)]) cx hI (c_J_bitCount  hq6) mt_yJ6_bitCount_0f7a4 ms_yJ6_bitCount_0f7a4 w_401 (by omega) rfl hl.1 rfl (Nat.le_of_ble_eq_true rfl) dX4_nextGrown_56 (fun H locs hI => ?_)
      refine lv_istore (lv' := [(9, .int q6), (8, .int q4), (0, .ref (G.2.2.1 23 0)), (2, .int x2), (3, .int x3), (4, .int x4), (5, .int x5), (6, .int x6), (7, .int x7)]) hx hb dX4_nextGrown_59 hl (by decide) rfl (fun ls hl => ?_)
      refine lv_iload hx hb dX4_nextGrown_61 (lv_at hl 5 rfl) ?_
      refine lv_if_lt (tgt := 87) hx hb dX4_nextGrown_63 (by decide) (fun c7 => ?_) (fun c7 => ?_)
      · have h := it_p h c7
        exact t_Se_nextGrown_87 N  cx hret ih x2 x3 x4 x5 x6 x7 q4 q6 h hI (lv_sub hl [2, 3, 4, 5, 6, 7, 8, 1, 0] rfl)
      · have h := it_n h c7
        refine lv_iload hx hb dX4_nextGrown_66 (lv_at hl 1 rfl) ?_
        refine lv_iload hx hb dX4_nextGrown_68 (lv_at hl 6 rfl) ?_
        refine lv_icmp_lt (tgt := 87) hx hb dX4_nextGrown_70 (by decide) (fun c12 => ?_) (fun c12 => ?_)
        · have h := it_p h c12
          exact t_Se_nextGrown_87 N  cx hret ih x2 x3 x4 x5 x6 x7 q4 q6 h hI (lv_sub hl [2, 3, 4, 5, 6, 7, 8, 1, 0] rfl)
        · have h := it_n h c12
          refine lv_iload hx hb dX4_nextGrown_73 (lv_at hl 1 rfl) ?_
          refine lv_iload hx hb dX4_nextGrown_75 (lv_at hl 6 rfl) ?_
          refine lv_icmp_ne (tgt := 91) hx hb dX4_nextGrown_77 (by decide) (fun c13 => ?_) (fun c13 => ?_)
          · have h := it_n h c13
            exact t_Se_nextGrown_91 N  cx hret ih x2 x3 x4 x5 x6 x7 q4 q6 h hI (lv_sub hl [2, 3, 4, 5, 6, 7, 8, 1, 0] rfl)
          · have h := it_p h c13
            refine lv_iload hx hb dX4_nextGrown_80 (lv_at hl 0 rfl) ?_
            refine lv_iload hx hb dX4_nextGrown_82 (lv_at hl 7 rfl) ?_
            refine lv_icmp_le (tgt := 91) hx hb dX4_nextGrown_84 (by decide) (fun c14 => ?_) (fun c14 => ?_)
            · have h := it_p h c14
              exact t_Se_nextGrown_91 N  cx hret ih x2 x3 x4 x5 x6 x7 q4 q6 h hI (lv_sub hl [2, 3, 4, 5, 6, 7, 8, 1, 0] rfl)
            · have h := it_n h c14
              exact t_Se_nextGrown_87 N  cx hret ih x2 x3 x4 x5 x6 x7 q4 q6 h hI (lv_sub hl [2, 3, 4, 5, 6, 7, 8, 1, 0] rfl)
def f_Se_nextGrown (N : Nat) (μ : zM) (a1 : Int32) (a2 : Int32) : Option Int32 :=
  (f_Rd_knownAhead (μ 22) a1).bind (fun q1 => f_Se_nextGrown_22 N μ N a2 q1 (-4 : Int32) (nI 0) (nI 0) (nI 0))
set_option maxHeartbeats 4000000 in
set_option maxRecDepth 100000 in
theorem c_Se_nextGrown (N : Nat) {l : Launch} {G : zG} {μ : zM}  {a1 : Int32} {a2 : Int32} {out : Int32} (h : f_Se_nextGrown N μ a1 a2 = some out) : zMI l G yX4_nextGrown cX4_nextGrown 11 (some .int) 2 [.ref (G.2.2.1 23 0), .int a1, .int a2] μ out μ := by
  refine zMI.of (by decide) (Nat.le_of_ble_eq_true rfl) (fun p e s m args below meth c Q ls cx hI hl hret => ?_)
  obtain ⟨hx, hb, hml, hown, hts, hK, hR⟩ := id cx
  have hl : lv_has ls 11 [(0, .ref (G.2.2.1 23 0)), (1, .int a1), (2, .int a2)] := hl
  unfold f_Se_nextGrown at h
  refine lv_aload_n hx hb dX4_nextGrown_0 rfl (lv_at hl 0 rfl) ?_
  refine g4_0 cx hI rfl rfl w_91 dX4_nextGrown_1 ?_
  refine lv_iload_n hx hb dX4_nextGrown_4 rfl (lv_at hl 1 rfl) ?_
  obtain ⟨q1, hq1, h⟩ := bi_el h
  refine zcVi (As := [.int a1]) cx hI (c_Rd_knownAhead rfl rfl hq1) mt_yX3_knownAhead mv_yX3_knownAhead w_397 (by omega) (k3_0 rfl) (zv3 rfl) rfl hl.1 rfl (Nat.le_of_ble_eq_true rfl) dX4_nextGrown_5 (fun H locs hI => ?_)
  refine lv_istore_n (lv' := [(3, .int q1), (0, .ref (G.2.2.1 23 0)), (1, .int a1), (2, .int a2)]) hx hb dX4_nextGrown_8 rfl hl (by decide) rfl (fun ls hl => ?_)
  refine lv_bipush (v := (-4 : Int32)) hx hb dX4_nextGrown_9 (by decide) ?_
  refine lv_istore (lv' := [(4, .int (-4 : Int32)), (3, .int q1), (0, .ref (G.2.2.1 23 0)), (1, .int a1), (2, .int a2)]) hx hb dX4_nextGrown_11 hl (by decide) rfl (fun ls hl => ?_)
  refine lv_iconst (v := (nI 0)) hx hb dX4_nextGrown_13 (by decide) ?_
  refine lv_istore (lv' := [(5, .int (nI 0)), (4, .int (-4 : Int32)), (3, .int q1), (0, .ref (G.2.2.1 23 0)), (1, .int a1), (2, .int a2)]) hx hb dX4_nextGrown_14 hl (by decide) rfl (fun ls hl => ?_)
  refine lv_iconst (v := (nI 0)) hx hb dX4_nextGrown_16 (by decide) ?_
  refine lv_istore (lv' := [(6, .int (nI 0)), (5, .int (nI 0)), (4, .int (-4 : Int32)), (3, .int q1), (0, .ref (G.2.2.1 23 0)), (1, .int a1), (2, .int a2)]) hx hb dX4_nextGrown_17 hl (by decide) rfl (fun ls hl => ?_)
  refine lv_iconst (v := (nI 0)) hx hb dX4_nextGrown_19 (by decide) ?_
  refine lv_istore (lv' := [(7, .int (nI 0)), (6, .int (nI 0)), (5, .int (nI 0)), (4, .int (-4 : Int32)), (3, .int q1), (0, .ref (G.2.2.1 23 0)), (1, .int a1), (2, .int a2)]) hx hb dX4_nextGrown_20 hl (by decide) rfl (fun ls hl => ?_)
  exact t_Se_nextGrown_22 N  cx hret N a2 q1 (-4 : Int32) (nI 0) (nI 0) (nI 0) h hI (lv_sub hl [5, 7, 4, 3, 2, 1, 0] rfl)
def f_Se_grow_11 (N : Nat)  : Nat → zM → Int32 → Int32 → Option zM
  | 0, _, _, _ => none
  | n + 1, μ, x1, x2 => (if ((μ 23).1 0 6) ≤ x2 then (f_Rd_peak N (μ 22)).bind (fun q3 => bnd (zset μ 23 (zI (μ 23) 0 11 q3)) (fun μ4 => (f_Rd_loss N (μ4 22)).bind (fun q5 => bnd (zset μ4 23 (zI (μ4 23) 0 12 q5)) (fun μ6 => some μ6)))) else (f_Se_nextGrown N μ x2 x1).bind (fun q7 => (if nI 0 ≤ q7 then if zin q7 7 then (f_Rd_step N (μ 22) x2 ((μ 23).1 2 q7.toNatClampNeg)).bind (fun q10 => bnd (zset μ 22 q10) (fun μ11 => if zin x2 7 then bnd (zset μ11 23 (zI (μ11 23) 11 x2.toNatClampNeg q7)) (fun μ13 => bnd (x1 &&& (((nI 1) <<< (q7 &&& 31)) ^^^ (-1 : Int32))) (fun v14 => bnd (x2 + (nI 1)) (fun v15 => f_Se_grow_11 N n μ13 v14 v15))) else none)) else none else some μ)))
set_option maxHeartbeats 4000000 in
set_option maxRecDepth 100000 in
theorem t_Se_grow_11 (N : Nat) {p : Program} {l : Launch} {e : Env} {s : State} {m : MethodId} {args : Array Value} {below : List Frame} {meth : Method} {c : Code} {Q : State → Prop} {G : zG}  {out : zM} (cx : zCX p (zrm 3) s m args c RX4 cX4_grow 4 3 G) (hret : zRv p l e (zrm 3) s m args below meth c cX4_grow G Q out)   : ∀ (n : Nat) (μ : zM) (x1 : Int32) (x2 : Int32), f_Se_grow_11 N n μ x1 x2 = some out → ∀ {H : Heap} {locs : List Loc} {ls : Array Slot}, zIW G s μ H locs → lv_has ls 4 [(0, .ref (G.2.2.1 23 0)), (1, .int x1), (2, .int x2)] → W p l e (zrm 3) s m args below meth c H locs 0 0 Q (F0 m 11 ls []) := by
  obtain ⟨hx, hb, hml, hown, hts, hK, hR⟩ := id cx
  intro n
  induction n with
  | zero =>
    intro μ x1 x2  h
    cases h
  | succ n ih =>
    intro μ x1 x2  h H locs ls hI hl
    rw [f_Se_grow_11] at h
    refine lv_iload_n hx hb dX4_grow_11 rfl (lv_at hl 2 rfl) ?_
    refine lv_aload_n hx hb dX4_grow_12 rfl (lv_at hl 0 rfl) ?_
    refine g4_6 cx hI rfl rfl w_360 dX4_grow_13 ?_
    refine lv_icmp_ge (tgt := 66) hx hb dX4_grow_16 (by decide) (fun c2 => ?_) (fun c2 => ?_)
    · have h := it_p h c2
      refine lv_aload_n hx hb dX4_grow_66 rfl (lv_at hl 0 rfl) ?_
      refine lv_aload_n hx hb dX4_grow_67 rfl (lv_at hl 0 rfl) ?_
      refine g4_0 cx hI rfl rfl w_91 dX4_grow_68 ?_
      obtain ⟨q3, hq3, h⟩ := bi_el h
      refine zcVi (As := []) cx hI (c_Rd_peak N rfl rfl hq3) mt_yX3_peak mv_yX3_peak w_420 (by omega) (k3_0 rfl) (zv3 rfl) rfl hl.1 rfl (Nat.le_of_ble_eq_true rfl) dX4_grow_71 (fun H locs hI => ?_)
      obtain ⟨μ4, eμ4⟩ : ∃ z : zM, z = zset μ 23 (zI (μ 23) 0 11 q3) := ⟨_, rfl⟩
      have h := bnd_el h eμ4
      refine p4_11 cx hI rfl rfl w_364 eμ4.symm dX4_grow_74 (fun H locs hI => ?_)
      refine lv_aload_n hx hb dX4_grow_77 rfl (lv_at hl 0 rfl) ?_
      refine lv_aload_n hx hb dX4_grow_78 rfl (lv_at hl 0 rfl) ?_
      refine g4_0 cx hI rfl rfl w_91 dX4_grow_79 ?_
      obtain ⟨q5, hq5, h⟩ := bi_el h
      refine zcVi (As := []) cx hI (c_Rd_loss N rfl rfl hq5) mt_yX3_loss mv_yX3_loss w_426 (by omega) (k3_0 rfl) (zv3 rfl) rfl hl.1 rfl (Nat.le_of_ble_eq_true rfl) dX4_grow_82 (fun H locs hI => ?_)
      obtain ⟨μ6, eμ6⟩ : ∃ z : zM, z = zset μ4 23 (zI (μ4 23) 0 12 q5) := ⟨_, rfl⟩
      have h := bnd_el h eμ6
      refine p4_12 cx hI rfl rfl w_365 eμ6.symm dX4_grow_85 (fun H locs hI => ?_)
      obtain rfl := Option.some.inj h
      exact hret _ _ _ _ dX4_grow_88 hI
    · have h := it_n h c2
      refine lv_aload_n hx hb dX4_grow_19 rfl (lv_at hl 0 rfl) ?_
      refine lv_iload_n hx hb dX4_grow_20 rfl (lv_at hl 2 rfl) ?_
      refine lv_iload_n hx hb dX4_grow_21 rfl (lv_at hl 1 rfl) ?_
      obtain ⟨q7, hq7, h⟩ := bi_el h
      refine zcVi (As := [.int x2, .int x1]) cx hI (c_Se_nextGrown N hq7) mt_yX4_nextGrown mv_yX4_nextGrown w_393 (by omega) (k4_0 rfl) (zv4 rfl) rfl hl.1 rfl (Nat.le_of_ble_eq_true rfl) dX4_grow_22 (fun H locs hI => ?_)
      refine lv_istore_n (lv' := [(3, .int q7), (0, .ref (G.2.2.1 23 0)), (1, .int x1), (2, .int x2)]) hx hb dX4_grow_25 rfl hl (by decide) rfl (fun ls hl => ?_)
      refine lv_iload_n hx hb dX4_grow_26 rfl (lv_at hl 0 rfl) ?_
      refine lv_if_ge (tgt := 31) hx hb dX4_grow_27 (by decide) (fun c8 => ?_) (fun c8 => ?_)
      · have h := it_p h c8
        refine lv_aload_n hx hb dX4_grow_31 rfl (lv_at hl 1 rfl) ?_
        refine g4_0 cx hI rfl rfl w_91 dX4_grow_32 ?_
        refine lv_iload_n hx hb dX4_grow_35 rfl (lv_at hl 3 rfl) ?_
        refine lv_aload_n hx hb dX4_grow_36 rfl (lv_at hl 1 rfl) ?_
        refine g4_1 cx hI rfl rfl w_92 dX4_grow_37 ?_
        refine lv_iload_n hx hb dX4_grow_40 rfl (lv_at hl 0 rfl) ?_
        obtain ⟨g9, h⟩ := gd_el h
        refine zr_iald cx hI (k4_2 rfl) rfl (z4_2 rfl) rfl g9 dX4_grow_41 ?_
        obtain ⟨q10, hq10, h⟩ := bi_el h
        obtain ⟨μ11, eμ11⟩ : ∃ z : zM, z = zset μ 22 q10 := ⟨_, rfl⟩
        have h := bnd_el h eμ11
        refine zcVv (As := [.int x2, .int ((μ 23).1 2 q7.toNatClampNeg)]) cx hI (c_Rd_step N rfl rfl hq10 eμ11.symm) mt_yX3_step mv_yX3_step w_412 (by omega) (k3_0 rfl) (zv3 rfl) rfl hl.1 rfl (Nat.le_of_ble_eq_true rfl) dX4_grow_42 (fun H locs hI => ?_)
        refine lv_aload_n hx hb dX4_grow_45 rfl (lv_at hl 1 rfl) ?_
        refine g4_10 cx hI rfl rfl w_97 dX4_grow_46 ?_
        refine lv_iload_n hx hb dX4_grow_49 rfl (lv_at hl 3 rfl) ?_
        refine lv_iload_n hx hb dX4_grow_50 rfl (lv_at hl 0 rfl) ?_
        obtain ⟨g12, h⟩ := gd_el h
        obtain ⟨μ13, eμ13⟩ : ∃ z : zM, z = zset μ11 23 (zI (μ11 23) 11 x2.toNatClampNeg q7) := ⟨_, rfl⟩
        have h := bnd_el h eμ13
        refine zr_iast cx hI (k4_11 rfl) rfl (z4_11 rfl) rfl g12 eμ13.symm dX4_grow_51 (fun H locs hI => ?_)
        refine lv_iload_n hx hb dX4_grow_52 rfl (lv_at hl 2 rfl) ?_
        refine lv_iconst (v := (nI 1)) hx hb dX4_grow_53 (by decide) ?_
        refine lv_iload_n hx hb dX4_grow_54 rfl (lv_at hl 0 rfl) ?_
        refine lv_ishl hx hb dX4_grow_55 ?_
        refine lv_iconst (v := (-1 : Int32)) hx hb dX4_grow_56 (by decide) ?_
        refine lv_ixor hx hb dX4_grow_57 ?_
        refine lv_iand hx hb dX4_grow_58 ?_
        refine lv_topi (fun v14 ev14 => ?_)
        have h := bnd_el h ev14
        refine lv_istore_n (lv' := [(1, .int v14), (3, .int q7), (0, .ref (G.2.2.1 23 0)), (2, .int x2)]) hx hb dX4_grow_59 rfl hl (by decide) rfl (fun ls hl => ?_)
        obtain ⟨v15, ev15⟩ : ∃ z : Int32, z = x2 + (nI 1) := ⟨_, rfl⟩
        have h := bnd_el h ev15
        refine lv_iinc (v := v15) (lv' := [(2, .int v15), (1, .int v14), (3, .int q7), (0, .ref (G.2.2.1 23 0))]) hx hb dX4_grow_60 hl (k := 3) rfl (by rw [ev15]; rfl) (by decide) rfl (fun ls hl => ?_)
        refine lv_goto (tgt := 11) hx hb dX4_grow_63 (by decide) ?_
        exact ih μ13 v14 v15 h hI (lv_sub hl [3, 1, 0] rfl)
      · have h := it_n h c8
        obtain rfl := Option.some.inj h
        exact hret _ _ _ _ dX4_grow_30 hI
def f_Se_grow (N : Nat) (μ : zM) : Option zM :=
  bnd (((nI 1) <<< (((μ 23).1 0 6) &&& 31)) - (nI 1)) (fun v1 => f_Se_grow_11 N N μ v1 (nI 0))
set_option maxHeartbeats 4000000 in
set_option maxRecDepth 100000 in
theorem c_Se_grow (N : Nat) {l : Launch} {G : zG} {μ : zM}   {out : zM} (h : f_Se_grow N μ  = some out) : zMV l G yX4_grow cX4_grow 4 none 3 [.ref (G.2.2.1 23 0)] μ out := by
  refine zMV.of (by decide) (Nat.le_of_ble_eq_true rfl) (fun p e s m args below meth c Q ls cx hI hl hret => ?_)
  obtain ⟨hx, hb, hml, hown, hts, hK, hR⟩ := id cx
  have hl : lv_has ls 4 [(0, .ref (G.2.2.1 23 0))] := hl
  unfold f_Se_grow at h
  refine lv_iconst (v := (nI 1)) hx hb dX4_grow_0 (by decide) ?_
  refine lv_aload_n hx hb dX4_grow_1 rfl (lv_at hl 0 rfl) ?_
  refine g4_6 cx hI rfl rfl w_360 dX4_grow_2 ?_
  refine lv_ishl hx hb dX4_grow_5 ?_
  refine lv_iconst (v := (nI 1)) hx hb dX4_grow_6 (by decide) ?_
  refine lv_isub hx hb dX4_grow_7 ?_
  refine lv_topi (fun v1 ev1 => ?_)
  have h := bnd_el h ev1
  refine lv_istore_n (lv' := [(1, .int v1), (0, .ref (G.2.2.1 23 0))]) hx hb dX4_grow_8 rfl hl (by decide) rfl (fun ls hl => ?_)
  refine lv_iconst (v := (nI 0)) hx hb dX4_grow_9 (by decide) ?_
  refine lv_istore_n (lv' := [(2, .int (nI 0)), (1, .int v1), (0, .ref (G.2.2.1 23 0))]) hx hb dX4_grow_10 rfl hl (by decide) rfl (fun ls hl => ?_)
  exact t_Se_grow_11 N  cx hret N μ v1 (nI 0) h hI (lv_sub hl [2, 1, 0] rfl)
