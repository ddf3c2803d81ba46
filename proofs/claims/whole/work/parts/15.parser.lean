/-! Parser -/
def f_Pa_next_43 (N : Nat)  (μ : zM) : Option (Int32 × zM) :=
  (f_Le_at (zlen 19) (μ 19) ((μ 20).1 0 2)).bind (fun q2 => if (nI 0 ≤ q2 ∧ q2 < nI 65536) then some (q2, μ) else none)
set_option maxHeartbeats 4000000 in
set_option maxRecDepth 100000 in
theorem t_Pa_next_43 (N : Nat) {p : Program} {l : Launch} {e : Env} {s : State} {m : MethodId} {args : Array Value} {below : List Frame} {meth : Method} {c : Code} {Q : State → Prop} {G : zG}  {out : (Int32 × zM)} (cx : zCX p (zrm 1) s m args c RX1 cX1_next 1 1 G) (hret : zRi p l e (zrm 1) s m args below meth c cX1_next G .char Q out.1 out.2)   : ∀ (μ : zM), f_Pa_next_43 N μ = some out → ∀ {H : Heap} {locs : List Loc} {ls : Array Slot}, zIW G s μ H locs → lv_has ls 1 [(0, .ref (G.2.2.1 20 0))] → W p l e (zrm 1) s m args below meth c H locs 0 0 Q (F0 m 43 ls []) := by
  obtain ⟨hx, hb, hml, hown, hts, hK, hR⟩ := id cx
  intro μ  h H locs ls hI hl
  unfold f_Pa_next_43 at h
  refine lv_aload_n hx hb dX1_next_43 rfl (lv_at hl 0 rfl) ?_
  refine g1_0 cx hI rfl rfl w_65 dX1_next_44 ?_
  refine lv_aload_n hx hb dX1_next_47 rfl (lv_at hl 0 rfl) ?_
  refine g1_2 cx hI rfl rfl w_789 dX1_next_48 ?_
  obtain ⟨q2, hq2, h⟩ := bi_el h
  refine zcVi (As := [.int ((μ 20).1 0 2)]) cx hI (c_Le_at rfl rfl hq2) mt_yX0_at mv_yX0_at w_801 (by omega) (k0_0 rfl) (zv0 rfl) rfl hl.1 rfl (Nat.le_of_ble_eq_true rfl) dX1_next_51 (fun H locs hI => ?_)
  obtain ⟨g3, h⟩ := gd_el h
  obtain rfl := Option.some.inj h
  exact hret _ _ _ _ dX1_next_54 (zchar g3) hI
def f_Pa_next_0 (N : Nat)  : Nat → zM → Option (Int32 × zM)
  | 0, _ => none
  | n + 1, μ => (if ((μ 19).1 0 1) ≤ ((μ 20).1 0 2) then f_Pa_next_43 N μ else (f_Le_at (zlen 19) (μ 19) ((μ 20).1 0 2)).bind (fun q4 => (if q4 = (nI 32) then bnd (zset μ 20 (zI (μ 20) 0 2 (((μ 20).1 0 2) + (nI 1)))) (fun μ6 => f_Pa_next_0 N n μ6) else f_Pa_next_43 N μ)))
set_option maxHeartbeats 4000000 in
set_option maxRecDepth 100000 in
theorem t_Pa_next_0 (N : Nat) {p : Program} {l : Launch} {e : Env} {s : State} {m : MethodId} {args : Array Value} {below : List Frame} {meth : Method} {c : Code} {Q : State → Prop} {G : zG}  {out : (Int32 × zM)} (cx : zCX p (zrm 1) s m args c RX1 cX1_next 1 1 G) (hret : zRi p l e (zrm 1) s m args below meth c cX1_next G .char Q out.1 out.2)   : ∀ (n : Nat) (μ : zM), f_Pa_next_0 N n μ = some out → ∀ {H : Heap} {locs : List Loc} {ls : Array Slot}, zIW G s μ H locs → lv_has ls 1 [(0, .ref (G.2.2.1 20 0))] → W p l e (zrm 1) s m args below meth c H locs 0 0 Q (F0 m 0 ls []) := by
  obtain ⟨hx, hb, hml, hown, hts, hK, hR⟩ := id cx
  intro n
  induction n with
  | zero =>
    intro μ  h
    cases h
  | succ n ih =>
    intro μ  h H locs ls hI hl
    rw [f_Pa_next_0] at h
    refine lv_aload_n hx hb dX1_next_0 rfl (lv_at hl 0 rfl) ?_
    refine g1_2 cx hI rfl rfl w_789 dX1_next_1 ?_
    refine lv_aload_n hx hb dX1_next_4 rfl (lv_at hl 0 rfl) ?_
    refine g1_0 cx hI rfl rfl w_65 dX1_next_5 ?_
    refine g0_1 cx hI rfl rfl w_795 dX1_next_8 ?_
    refine lv_icmp_ge (tgt := 43) hx hb dX1_next_11 (by decide) (fun c1 => ?_) (fun c1 => ?_)
    · have h := it_p h c1
      exact t_Pa_next_43 N  cx hret μ h hI hl
    · have h := it_n h c1
      refine lv_aload_n hx hb dX1_next_14 rfl (lv_at hl 0 rfl) ?_
      refine g1_0 cx hI rfl rfl w_65 dX1_next_15 ?_
      refine lv_aload_n hx hb dX1_next_18 rfl (lv_at hl 0 rfl) ?_
      refine g1_2 cx hI rfl rfl w_789 dX1_next_19 ?_
      obtain ⟨q4, hq4, h⟩ := bi_el h
      refine zcVi (As := [.int ((μ 20).1 0 2)]) cx hI (c_Le_at rfl rfl hq4) mt_yX0_at mv_yX0_at w_801 (by omega) (k0_0 rfl) (zv0 rfl) rfl hl.1 rfl (Nat.le_of_ble_eq_true rfl) dX1_next_22 (fun H locs hI => ?_)
      refine lv_bipush (v := (nI 32)) hx hb dX1_next_25 (by decide) ?_
      refine lv_icmp_ne (tgt := 43) hx hb dX1_next_27 (by decide) (fun c5 => ?_) (fun c5 => ?_)
      · have h := it_n h c5
        exact t_Pa_next_43 N  cx hret μ h hI hl
      · have h := it_p h c5
        refine lv_aload_n hx hb dX1_next_30 rfl (lv_at hl 0 rfl) ?_
        refine lv_dup hx hb dX1_next_31 rfl ?_
        refine g1_2 cx hI rfl rfl w_789 dX1_next_32 ?_
        refine lv_iconst (v := (nI 1)) hx hb dX1_next_35 (by decide) ?_
        refine lv_iadd hx hb dX1_next_36 ?_
        obtain ⟨μ6, eμ6⟩ : ∃ z : zM, z = zset μ 20 (zI (μ 20) 0 2 (((μ 20).1 0 2) + (nI 1))) := ⟨_, rfl⟩
        have h := bnd_el h eμ6
        refine p1_2 cx hI rfl rfl w_789 eμ6.symm dX1_next_37 (fun H locs hI => ?_)
        refine lv_goto (tgt := 0) hx hb dX1_next_40 (by decide) ?_
        exact ih μ6 h hI hl
def f_Pa_next (N : Nat) (μ : zM) : Option (Int32 × zM) :=
  f_Pa_next_0 N N μ
set_option maxHeartbeats 4000000 in
set_option maxRecDepth 100000 in
theorem c_Pa_next (N : Nat) {l : Launch} {G : zG} {μ : zM}   {out : (Int32 × zM)} (h : f_Pa_next N μ  = some out) : zMI l G yX1_next cX1_next 1 (some .char) 1 [.ref (G.2.2.1 20 0)] μ out.1 out.2 := by
  refine zMI.of (by decide) (Nat.le_of_ble_eq_true rfl) (fun p e s m args below meth c Q ls cx hI hl hret => ?_)
  obtain ⟨hx, hb, hml, hown, hts, hK, hR⟩ := id cx
  have hl : lv_has ls 1 [(0, .ref (G.2.2.1 20 0))] := hl
  unfold f_Pa_next at h
  exact t_Pa_next_0 N  cx hret N μ h hI hl
def f_Pa_isAtEnd_24 (N : Nat)  (μ : zM) (s0 : Int32) : Option (Int32 × zM) :=
  if (s0 = nI 0 ∨ s0 = nI 1) then some (s0, μ) else none
set_option maxHeartbeats 4000000 in
set_option maxRecDepth 100000 in
theorem t_Pa_isAtEnd_24 (N : Nat) {p : Program} {l : Launch} {e : Env} {s : State} {m : MethodId} {args : Array Value} {below : List Frame} {meth : Method} {c : Code} {Q : State → Prop} {G : zG}  {out : (Int32 × zM)} (cx : zCX p (zrm 2) s m args c RX1 cX1_isAtEnd 1 2 G) (hret : zRi p l e (zrm 2) s m args below meth c cX1_isAtEnd G .boolean Q out.1 out.2)   : ∀ (μ : zM) (s0 : Int32), f_Pa_isAtEnd_24 N μ s0 = some out → ∀ {H : Heap} {locs : List Loc} {ls : Array Slot}, zIW G s μ H locs → lv_has ls 1 [] → W p l e (zrm 2) s m args below meth c H locs 0 0 Q (F0 m 24 ls [.int s0]) := by
  obtain ⟨hx, hb, hml, hown, hts, hK, hR⟩ := id cx
  intro μ s0  h H locs ls hI hl
  unfold f_Pa_isAtEnd_24 at h
  obtain ⟨g3, h⟩ := gd_el h
  obtain rfl := Option.some.inj h
  exact hret _ _ _ _ dX1_isAtEnd_24 (zbool g3) hI
def f_Pa_isAtEnd (N : Nat) (μ : zM) : Option (Int32 × zM) :=
  (f_Pa_next N μ).bind (fun q1 => (if ((q1.2 20).1 0 2) < ((q1.2 19).1 0 1) then f_Pa_isAtEnd_24 N q1.2 (nI 0) else f_Pa_isAtEnd_24 N q1.2 (nI 1)))
set_option maxHeartbeats 4000000 in
set_option maxRecDepth 100000 in
theorem c_Pa_isAtEnd (N : Nat) {l : Launch} {G : zG} {μ : zM}   {out : (Int32 × zM)} (h : f_Pa_isAtEnd N μ  = some out) : zMI l G yX1_isAtEnd cX1_isAtEnd 1 (some .boolean) 2 [.ref (G.2.2.1 20 0)] μ out.1 out.2 := by
  refine zMI.of (by decide) (Nat.le_of_ble_eq_true rfl) (fun p e s m args below meth c Q ls cx hI hl hret => ?_)
  obtain ⟨hx, hb, hml, hown, hts, hK, hR⟩ := id cx
  have hl : lv_has ls 1 [(0, .ref (G.2.2.1 20 0))] := hl
  unfold f_Pa_isAtEnd at h
  refine lv_aload_n hx hb dX1_isAtEnd_0 rfl (lv_at hl 0 rfl) ?_
  obtain ⟨q1, hq1, h⟩ := bi_el h
  refine zcVi (As := []) cx hI (c_Pa_next N hq1) mt_yX1_next mv_yX1_next w_797 (by omega) (k1_0 rfl) (zv1 rfl) rfl hl.1 rfl (Nat.le_of_ble_eq_true rfl) dX1_isAtEnd_1 (fun H locs hI => ?_)
  refine lv_pop hx hb dX1_isAtEnd_4 rfl ?_
  refine lv_aload_n hx hb dX1_isAtEnd_5 rfl (lv_at hl 0 rfl) ?_
  refine g1_2 cx hI rfl rfl w_789 dX1_isAtEnd_6 ?_
  refine lv_aload_n hx hb dX1_isAtEnd_9 rfl (lv_at hl 0 rfl) ?_
  refine g1_0 cx hI rfl rfl w_65 dX1_isAtEnd_10 ?_
  refine g0_1 cx hI rfl rfl w_795 dX1_isAtEnd_13 ?_
  refine lv_icmp_lt (tgt := 23) hx hb dX1_isAtEnd_16 (by decide) (fun c2 => ?_) (fun c2 => ?_)
  · have h := it_p h c2
    refine lv_iconst (v := (nI 0)) hx hb dX1_isAtEnd_23 (by decide) ?_
    exact t_Pa_isAtEnd_24 N  cx hret q1.2 (nI 0) h hI (lv_sub hl [] rfl)
  · have h := it_n h c2
    refine lv_iconst (v := (nI 1)) hx hb dX1_isAtEnd_19 (by decide) ?_
    refine lv_goto (tgt := 24) hx hb dX1_isAtEnd_20 (by decide) ?_
    exact t_Pa_isAtEnd_24 N  cx hret q1.2 (nI 1) h hI (lv_sub hl [] rfl)
def f_Pa_takesBook_101 (N : Nat)  (μ : zM) (s0 : Int32) : Option (Int32 × zM) :=
  if (s0 = nI 0 ∨ s0 = nI 1) then some (s0, μ) else none
set_option maxHeartbeats 4000000 in
set_option maxRecDepth 100000 in
theorem t_Pa_takesBook_101 (N : Nat) {p : Program} {l : Launch} {e : Env} {s : State} {m : MethodId} {args : Array Value} {below : List Frame} {meth : Method} {c : Code} {Q : State → Prop} {G : zG}  {out : (Int32 × zM)} (cx : zCX p (zrm 2) s m args c RX1 cX1_takesBook 2 2 G) (hret : zRi p l e (zrm 2) s m args below meth c cX1_takesBook G .boolean Q out.1 out.2)   : ∀ (μ : zM) (s0 : Int32), f_Pa_takesBook_101 N μ s0 = some out → ∀ {H : Heap} {locs : List Loc} {ls : Array Slot}, zIW G s μ H locs → lv_has ls 2 [] → W p l e (zrm 2) s m args below meth c H locs 0 0 Q (F0 m 101 ls [.int s0]) := by
  obtain ⟨hx, hb, hml, hown, hts, hK, hR⟩ := id cx
  intro μ s0  h H locs ls hI hl
  unfold f_Pa_takesBook_101 at h
  obtain ⟨g6, h⟩ := gd_el h
  obtain rfl := Option.some.inj h
  exact hret _ _ _ _ dX1_takesBook_101 (zbool g6) hI
def f_Pa_takesBook_85 (N : Nat)  (μ : zM) (x1 : Int32) : Option (Int32 × zM) :=
  (f_St_addBook (μ 3) x1).bind (fun q3 => bnd (zset μ 3 q3.2) (fun μ4 => (if q3.1 < nI 0 then f_Pa_takesBook_101 N μ4 (nI 0) else f_Pa_takesBook_101 N μ4 (nI 1))))
set_option maxHeartbeats 4000000 in
set_option maxRecDepth 100000 in
theorem t_Pa_takesBook_85 (N : Nat) {p : Program} {l : Launch} {e : Env} {s : State} {m : MethodId} {args : Array Value} {below : List Frame} {meth : Method} {c : Code} {Q : State → Prop} {G : zG}  {out : (Int32 × zM)} (cx : zCX p (zrm 2) s m args c RX1 cX1_takesBook 2 2 G) (hret : zRi p l e (zrm 2) s m args below meth c cX1_takesBook G .boolean Q out.1 out.2)   : ∀ (μ : zM) (x1 : Int32), f_Pa_takesBook_85 N μ x1 = some out → ∀ {H : Heap} {locs : List Loc} {ls : Array Slot}, zIW G s μ H locs → lv_has ls 2 [(0, .ref (G.2.2.1 20 0)), (1, .int x1)] → W p l e (zrm 2) s m args below meth c H locs 0 0 Q (F0 m 85 ls []) := by
  obtain ⟨hx, hb, hml, hown, hts, hK, hR⟩ := id cx
  intro μ x1  h H locs ls hI hl
  unfold f_Pa_takesBook_85 at h
  refine lv_aload_n hx hb dX1_takesBook_85 rfl (lv_at hl 0 rfl) ?_
  refine g1_1 cx hI rfl rfl w_67 dX1_takesBook_86 ?_
  refine lv_iload_n hx hb dX1_takesBook_89 rfl (lv_at hl 1 rfl) ?_
  obtain ⟨q3, hq3, h⟩ := bi_el h
  obtain ⟨μ4, eμ4⟩ : ∃ z : zM, z = zset μ 3 q3.2 := ⟨_, rfl⟩
  have h := bnd_el h eμ4
  refine zcVi (As := [.int x1]) cx hI (c_St_addBook rfl rfl hq3 eμ4.symm) mt_yX6_addBook mv_yX6_addBook w_832 (by omega) (k6_0 rfl) (zv6 rfl) rfl hl.1 rfl (Nat.le_of_ble_eq_true rfl) dX1_takesBook_90 (fun H locs hI => ?_)
  refine lv_if_lt (tgt := 100) hx hb dX1_takesBook_93 (by decide) (fun c5 => ?_) (fun c5 => ?_)
  · have h := it_p h c5
    refine lv_iconst (v := (nI 0)) hx hb dX1_takesBook_100 (by decide) ?_
    exact t_Pa_takesBook_101 N  cx hret μ4 (nI 0) h hI (lv_sub hl [] rfl)
  · have h := it_n h c5
    refine lv_iconst (v := (nI 1)) hx hb dX1_takesBook_96 (by decide) ?_
    refine lv_goto (tgt := 101) hx hb dX1_takesBook_97 (by decide) ?_
    exact t_Pa_takesBook_101 N  cx hret μ4 (nI 1) h hI (lv_sub hl [] rfl)
def f_Pa_takesBook_7 (N : Nat)  : Nat → zM → Int32 → Option (Int32 × zM)
  | 0, _, _ => none
  | n + 1, μ, x1 => (if ((μ 19).1 0 1) ≤ ((μ 20).1 0 2) then f_Pa_takesBook_85 N μ x1 else (f_Le_at (zlen 19) (μ 19) ((μ 20).1 0 2)).bind (fun q7 => (if q7 < (nI 97) then f_Pa_takesBook_85 N μ x1 else (f_Le_at (zlen 19) (μ 19) ((μ 20).1 0 2)).bind (fun q9 => (if (nI 117) ≤ q9 then f_Pa_takesBook_85 N μ x1 else (f_Le_at (zlen 19) (μ 19) ((μ 20).1 0 2)).bind (fun q11 => bnd (x1 ||| ((nI 1) <<< ((q11 - (nI 97)) &&& 31))) (fun v12 => bnd (zset μ 20 (zI (μ 20) 0 2 (((μ 20).1 0 2) + (nI 1)))) (fun μ13 => f_Pa_takesBook_7 N n μ13 v12))))))))
set_option maxHeartbeats 4000000 in
set_option maxRecDepth 100000 in
theorem t_Pa_takesBook_7 (N : Nat) {p : Program} {l : Launch} {e : Env} {s : State} {m : MethodId} {args : Array Value} {below : List Frame} {meth : Method} {c : Code} {Q : State → Prop} {G : zG}  {out : (Int32 × zM)} (cx : zCX p (zrm 2) s m args c RX1 cX1_takesBook 2 2 G) (hret : zRi p l e (zrm 2) s m args below meth c cX1_takesBook G .boolean Q out.1 out.2)   : ∀ (n : Nat) (μ : zM) (x1 : Int32), f_Pa_takesBook_7 N n μ x1 = some out → ∀ {H : Heap} {locs : List Loc} {ls : Array Slot}, zIW G s μ H locs → lv_has ls 2 [(0, .ref (G.2.2.1 20 0)), (1, .int x1)] → W p l e (zrm 2) s m args below meth c H locs 0 0 Q (F0 m 7 ls []) := by
  obtain ⟨hx, hb, hml, hown, hts, hK, hR⟩ := id cx
  intro n
  induction n with
  | zero =>
    intro μ x1  h
    cases h
  | succ n ih =>
    intro μ x1  h H locs ls hI hl
    rw [f_Pa_takesBook_7] at h
    refine lv_aload_n hx hb dX1_takesBook_7 rfl (lv_at hl 0 rfl) ?_
    refine g1_2 cx hI rfl rfl w_789 dX1_takesBook_8 ?_
    refine lv_aload_n hx hb dX1_takesBook_11 rfl (lv_at hl 0 rfl) ?_
    refine g1_0 cx hI rfl rfl w_65 dX1_takesBook_12 ?_
    refine g0_1 cx hI rfl rfl w_795 dX1_takesBook_15 ?_
    refine lv_icmp_ge (tgt := 85) hx hb dX1_takesBook_18 (by decide) (fun c2 => ?_) (fun c2 => ?_)
    · have h := it_p h c2
      exact t_Pa_takesBook_85 N  cx hret μ x1 h hI hl
    · have h := it_n h c2
      refine lv_aload_n hx hb dX1_takesBook_21 rfl (lv_at hl 0 rfl) ?_
      refine g1_0 cx hI rfl rfl w_65 dX1_takesBook_22 ?_
      refine lv_aload_n hx hb dX1_takesBook_25 rfl (lv_at hl 0 rfl) ?_
      refine g1_2 cx hI rfl rfl w_789 dX1_takesBook_26 ?_
      obtain ⟨q7, hq7, h⟩ := bi_el h
      refine zcVi (As := [.int ((μ 20).1 0 2)]) cx hI (c_Le_at rfl rfl hq7) mt_yX0_at mv_yX0_at w_801 (by omega) (k0_0 rfl) (zv0 rfl) rfl hl.1 rfl (Nat.le_of_ble_eq_true rfl) dX1_takesBook_29 (fun H locs hI => ?_)
      refine lv_bipush (v := (nI 97)) hx hb dX1_takesBook_32 (by decide) ?_
      refine lv_icmp_lt (tgt := 85) hx hb dX1_takesBook_34 (by decide) (fun c8 => ?_) (fun c8 => ?_)
      · have h := it_p h c8
        exact t_Pa_takesBook_85 N  cx hret μ x1 h hI hl
      · have h := it_n h c8
        refine lv_aload_n hx hb dX1_takesBook_37 rfl (lv_at hl 0 rfl) ?_
        refine g1_0 cx hI rfl rfl w_65 dX1_takesBook_38 ?_
        refine lv_aload_n hx hb dX1_takesBook_41 rfl (lv_at hl 0 rfl) ?_
        refine g1_2 cx hI rfl rfl w_789 dX1_takesBook_42 ?_
        obtain ⟨q9, hq9, h⟩ := bi_el h
        refine zcVi (As := [.int ((μ 20).1 0 2)]) cx hI (c_Le_at rfl rfl hq9) mt_yX0_at mv_yX0_at w_801 (by omega) (k0_0 rfl) (zv0 rfl) rfl hl.1 rfl (Nat.le_of_ble_eq_true rfl) dX1_takesBook_45 (fun H locs hI => ?_)
        refine lv_bipush (v := (nI 117)) hx hb dX1_takesBook_48 (by decide) ?_
        refine lv_icmp_ge (tgt := 85) hx hb dX1_takesBook_50 (by decide) (fun c10 => ?_) (fun c10 => ?_)
        · have h := it_p h c10
          exact t_Pa_takesBook_85 N  cx hret μ x1 h hI hl
        · have h := it_n h c10
          refine lv_iload_n hx hb dX1_takesBook_53 rfl (lv_at hl 1 rfl) ?_
          refine lv_iconst (v := (nI 1)) hx hb dX1_takesBook_54 (by decide) ?_
          refine lv_aload_n hx hb dX1_takesBook_55 rfl (lv_at hl 0 rfl) ?_
          refine g1_0 cx hI rfl rfl w_65 dX1_takesBook_56 ?_
          refine lv_aload_n hx hb dX1_takesBook_59 rfl (lv_at hl 0 rfl) ?_
          refine g1_2 cx hI rfl rfl w_789 dX1_takesBook_60 ?_
          obtain ⟨q11, hq11, h⟩ := bi_el h
          refine zcVi (As := [.int ((μ 20).1 0 2)]) cx hI (c_Le_at rfl rfl hq11) mt_yX0_at mv_yX0_at w_801 (by omega) (k0_0 rfl) (zv0 rfl) rfl hl.1 rfl (Nat.le_of_ble_eq_true rfl) dX1_takesBook_63 (fun H locs hI => ?_)
          refine lv_bipush (v := (nI 97)) hx hb dX1_takesBook_66 (by decide) ?_
          refine lv_isub hx hb dX1_takesBook_68 ?_
          refine lv_ishl hx hb dX1_takesBook_69 ?_
          refine lv_ior hx hb dX1_takesBook_70 ?_
          refine lv_topi (fun v12 ev12 => ?_)
          have h := bnd_el h ev12
          refine lv_istore_n (lv' := [(1, .int v12), (0, .ref (G.2.2.1 20 0))]) hx hb dX1_takesBook_71 rfl hl (by decide) rfl (fun ls hl => ?_)
          refine lv_aload_n hx hb dX1_takesBook_72 rfl (lv_at hl 1 rfl) ?_
          refine lv_dup hx hb dX1_takesBook_73 rfl ?_
          refine g1_2 cx hI rfl rfl w_789 dX1_takesBook_74 ?_
          refine lv_iconst (v := (nI 1)) hx hb dX1_takesBook_77 (by decide) ?_
          refine lv_iadd hx hb dX1_takesBook_78 ?_
          obtain ⟨μ13, eμ13⟩ : ∃ z : zM, z = zset μ 20 (zI (μ 20) 0 2 (((μ 20).1 0 2) + (nI 1))) := ⟨_, rfl⟩
          have h := bnd_el h eμ13
          refine p1_2 cx hI rfl rfl w_789 eμ13.symm dX1_takesBook_79 (fun H locs hI => ?_)
          refine lv_goto (tgt := 7) hx hb dX1_takesBook_82 (by decide) ?_
          exact ih μ13 v12 h hI (lv_sub hl [1, 0] rfl)
def f_Pa_takesBook (N : Nat) (μ : zM) : Option (Int32 × zM) :=
  (f_Pa_next N μ).bind (fun q1 => f_Pa_takesBook_7 N N q1.2 (nI 0))
set_option maxHeartbeats 4000000 in
set_option maxRecDepth 100000 in
theorem c_Pa_takesBook (N : Nat) {l : Launch} {G : zG} {μ : zM}   {out : (Int32 × zM)} (h : f_Pa_takesBook N μ  = some out) : zMI l G yX1_takesBook cX1_takesBook 2 (some .boolean) 2 [.ref (G.2.2.1 20 0)] μ out.1 out.2 := by
  refine zMI.of (by decide) (Nat.le_of_ble_eq_true rfl) (fun p e s m args below meth c Q ls cx hI hl hret => ?_)
  obtain ⟨hx, hb, hml, hown, hts, hK, hR⟩ := id cx
  have hl : lv_has ls 2 [(0, .ref (G.2.2.1 20 0))] := hl
  unfold f_Pa_takesBook at h
  refine lv_aload_n hx hb dX1_takesBook_0 rfl (lv_at hl 0 rfl) ?_
  obtain ⟨q1, hq1, h⟩ := bi_el h
  refine zcVi (As := []) cx hI (c_Pa_next N hq1) mt_yX1_next mv_yX1_next w_797 (by omega) (k1_0 rfl) (zv1 rfl) rfl hl.1 rfl (Nat.le_of_ble_eq_true rfl) dX1_takesBook_1 (fun H locs hI => ?_)
  refine lv_pop hx hb dX1_takesBook_4 rfl ?_
  refine lv_iconst (v := (nI 0)) hx hb dX1_takesBook_5 (by decide) ?_
  refine lv_istore_n (lv' := [(1, .int (nI 0)), (0, .ref (G.2.2.1 20 0))]) hx hb dX1_takesBook_6 rfl hl (by decide) rfl (fun ls hl => ?_)
  exact t_Pa_takesBook_7 N  cx hret N q1.2 (nI 0) h hI (lv_sub hl [1, 0] rfl)
def f_Pa_takesSign (N : Nat) (μ : zM) (a1 : Int32) : Option (Int32 × zM) :=
  (f_Pa_next N μ).bind (fun q1 => (if q1.1 = a1 then bnd (zset q1.2 20 (zI (q1.2 20) 0 2 (((q1.2 20).1 0 2) + (nI 1)))) (fun μ3 => some ((nI 1), μ3)) else some ((nI 0), q1.2)))
set_option maxHeartbeats 4000000 in
set_option maxRecDepth 100000 in
theorem c_Pa_takesSign (N : Nat) {l : Launch} {G : zG} {μ : zM}  {a1 : Int32} {out : (Int32 × zM)} (h : f_Pa_takesSign N μ a1 = some out) : zMI l G yX1_takesSign cX1_takesSign 2 (some .boolean) 2 [.ref (G.2.2.1 20 0), .int a1] μ out.1 out.2 := by
  refine zMI.of (by decide) (Nat.le_of_ble_eq_true rfl) (fun p e s m args below meth c Q ls cx hI hl hret => ?_)
  obtain ⟨hx, hb, hml, hown, hts, hK, hR⟩ := id cx
  have hl : lv_has ls 2 [(0, .ref (G.2.2.1 20 0)), (1, .int a1)] := hl
  unfold f_Pa_takesSign at h
  refine lv_aload_n hx hb dX1_takesSign_0 rfl (lv_at hl 0 rfl) ?_
  obtain ⟨q1, hq1, h⟩ := bi_el h
  refine zcVi (As := []) cx hI (c_Pa_next N hq1) mt_yX1_next mv_yX1_next w_797 (by omega) (k1_0 rfl) (zv1 rfl) rfl hl.1 rfl (Nat.le_of_ble_eq_true rfl) dX1_takesSign_1 (fun H locs hI => ?_)
  refine lv_iload_n hx hb dX1_takesSign_4 rfl (lv_at hl 1 rfl) ?_
  refine lv_icmp_eq (tgt := 10) hx hb dX1_takesSign_5 (by decide) (fun c2 => ?_) (fun c2 => ?_)
  · have h := it_p h c2
    refine lv_aload_n hx hb dX1_takesSign_10 rfl (lv_at hl 0 rfl) ?_
    refine lv_dup hx hb dX1_takesSign_11 rfl ?_
    refine g1_2 cx hI rfl rfl w_789 dX1_takesSign_12 ?_
    refine lv_iconst (v := (nI 1)) hx hb dX1_takesSign_15 (by decide) ?_
    refine lv_iadd hx hb dX1_takesSign_16 ?_
    obtain ⟨μ3, eμ3⟩ : ∃ z : zM, z = zset q1.2 20 (zI (q1.2 20) 0 2 (((q1.2 20).1 0 2) + (nI 1))) := ⟨_, rfl⟩
    have h := bnd_el h eμ3
    refine p1_2 cx hI rfl rfl w_789 eμ3.symm dX1_takesSign_17 (fun H locs hI => ?_)
    refine lv_iconst (v := (nI 1)) hx hb dX1_takesSign_20 (by decide) ?_
    obtain rfl := Option.some.inj h
    exact hret _ _ _ _ dX1_takesSign_21 (zbool (Or.inr rfl)) hI
  · have h := it_n h c2
    refine lv_iconst (v := (nI 0)) hx hb dX1_takesSign_8 (by decide) ?_
    obtain rfl := Option.some.inj h
    exact hret _ _ _ _ dX1_takesSign_9 (zbool (Or.inl rfl)) hI
def f_Pa_takesBooks_2 (N : Nat)  : Nat → zM → Int32 → Option (Int32 × zM)
  | 0, _, _ => none
  | n + 1, μ, x1 => (if (nI 7) ≤ x1 then (f_Pa_next N μ).bind (fun q2 => some ((nI 0), q2.2)) else (f_Pa_takesBook N μ).bind (fun q3 => (if q3.1 = nI 0 then some ((nI 0), q3.2) else (f_Pa_takesSign N q3.2 (nI 44)).bind (fun q5 => (if q5.1 = nI 0 then some ((nI 1), q5.2) else bnd (x1 + (nI 1)) (fun v7 => f_Pa_takesBooks_2 N n q5.2 v7))))))
set_option maxHeartbeats 4000000 in
set_option maxRecDepth 100000 in
theorem t_Pa_takesBooks_2 (N : Nat) {p : Program} {l : Launch} {e : Env} {s : State} {m : MethodId} {args : Array Value} {below : List Frame} {meth : Method} {c : Code} {Q : State → Prop} {G : zG}  {out : (Int32 × zM)} (cx : zCX p (zrm 3) s m args c RX1 cX1_takesBooks 2 3 G) (hret : zRi p l e (zrm 3) s m args below meth c cX1_takesBooks G .boolean Q out.1 out.2)   : ∀ (n : Nat) (μ : zM) (x1 : Int32), f_Pa_takesBooks_2 N n μ x1 = some out → ∀ {H : Heap} {locs : List Loc} {ls : Array Slot}, zIW G s μ H locs → lv_has ls 2 [(0, .ref (G.2.2.1 20 0)), (1, .int x1)] → W p l e (zrm 3) s m args below meth c H locs 0 0 Q (F0 m 2 ls []) := by
  obtain ⟨hx, hb, hml, hown, hts, hK, hR⟩ := id cx
  intro n
  induction n with
  | zero =>
    intro μ x1  h
    cases h
  | succ n ih =>
    intro μ x1  h H locs ls hI hl
    rw [f_Pa_takesBooks_2] at h
    refine lv_iload_n hx hb dX1_takesBooks_2 rfl (lv_at hl 1 rfl) ?_
    refine lv_bipush (v := (nI 7)) hx hb dX1_takesBooks_3 (by decide) ?_
    refine lv_icmp_ge (tgt := 34) hx hb dX1_takesBooks_5 (by decide) (fun c1 => ?_) (fun c1 => ?_)
    · have h := it_p h c1
      refine lv_aload_n hx hb dX1_takesBooks_34 rfl (lv_at hl 0 rfl) ?_
      obtain ⟨q2, hq2, h⟩ := bi_el h
      refine zcVi (As := []) cx hI (c_Pa_next N hq2) mt_yX1_next mv_yX1_next w_797 (by omega) (k1_0 rfl) (zv1 rfl) rfl hl.1 rfl (Nat.le_of_ble_eq_true rfl) dX1_takesBooks_35 (fun H locs hI => ?_)
      refine lv_pop hx hb dX1_takesBooks_38 rfl ?_
      refine lv_iconst (v := (nI 0)) hx hb dX1_takesBooks_39 (by decide) ?_
      obtain rfl := Option.some.inj h
      exact hret _ _ _ _ dX1_takesBooks_40 (zbool (Or.inl rfl)) hI
    · have h := it_n h c1
      refine lv_aload_n hx hb dX1_takesBooks_8 rfl (lv_at hl 0 rfl) ?_
      obtain ⟨q3, hq3, h⟩ := bi_el h
      refine zcVi (As := []) cx hI (c_Pa_takesBook N hq3) mt_yX1_takesBook mv_yX1_takesBook w_828 (by omega) (k1_0 rfl) (zv1 rfl) rfl hl.1 rfl (Nat.le_of_ble_eq_true rfl) dX1_takesBooks_9 (fun H locs hI => ?_)
      refine lv_if_ne (tgt := 17) hx hb dX1_takesBooks_12 (by decide) (fun c4 => ?_) (fun c4 => ?_)
      · have h := it_n h c4
        refine lv_aload_n hx hb dX1_takesBooks_17 rfl (lv_at hl 0 rfl) ?_
        refine lv_bipush (v := (nI 44)) hx hb dX1_takesBooks_18 (by decide) ?_
        obtain ⟨q5, hq5, h⟩ := bi_el h
        refine zcVi (As := [.int (nI 44)]) cx hI (c_Pa_takesSign N hq5) mt_yX1_takesSign mv_yX1_takesSign w_820 (by omega) (k1_0 rfl) (zv1 rfl) rfl hl.1 rfl (Nat.le_of_ble_eq_true rfl) dX1_takesBooks_20 (fun H locs hI => ?_)
        refine lv_if_ne (tgt := 28) hx hb dX1_takesBooks_23 (by decide) (fun c6 => ?_) (fun c6 => ?_)
        · have h := it_n h c6
          obtain ⟨v7, ev7⟩ : ∃ z : Int32, z = x1 + (nI 1) := ⟨_, rfl⟩
          have h := bnd_el h ev7
          refine lv_iinc (v := v7) (lv' := [(1, .int v7), (0, .ref (G.2.2.1 20 0))]) hx hb dX1_takesBooks_28 hl (k := 1) rfl (by rw [ev7]; rfl) (by decide) rfl (fun ls hl => ?_)
          refine lv_goto (tgt := 2) hx hb dX1_takesBooks_31 (by decide) ?_
          exact ih q5.2 v7 h hI (lv_sub hl [1, 0] rfl)
        · have h := it_p h c6
          refine lv_iconst (v := (nI 1)) hx hb dX1_takesBooks_26 (by decide) ?_
          obtain rfl := Option.some.inj h
          exact hret _ _ _ _ dX1_takesBooks_27 (zbool (Or.inr rfl)) hI
      · have h := it_p h c4
        refine lv_iconst (v := (nI 0)) hx hb dX1_takesBooks_15 (by decide) ?_
        obtain rfl := Option.some.inj h
        exact hret _ _ _ _ dX1_takesBooks_16 (zbool (Or.inl rfl)) hI
def f_Pa_takesBooks (N : Nat) (μ : zM) : Option (Int32 × zM) :=
  f_Pa_takesBooks_2 N N μ (nI 0)
set_option maxHeartbeats 4000000 in
set_option maxRecDepth 100000 in
theorem c_Pa_takesBooks (N : Nat) {l : Launch} {G : zG} {μ : zM}   {out : (Int32 × zM)} (h : f_Pa_takesBooks N μ  = some out) : zMI l G yX1_takesBooks cX1_takesBooks 2 (some .boolean) 3 [.ref (G.2.2.1 20 0)] μ out.1 out.2 := by
  refine zMI.of (by decide) (Nat.le_of_ble_eq_true rfl) (fun p e s m args below meth c Q ls cx hI hl hret => ?_)
  obtain ⟨hx, hb, hml, hown, hts, hK, hR⟩ := id cx
  have hl : lv_has ls 2 [(0, .ref (G.2.2.1 20 0))] := hl
  unfold f_Pa_takesBooks at h
  refine lv_iconst (v := (nI 0)) hx hb dX1_takesBooks_0 (by decide) ?_
  refine lv_istore_n (lv' := [(1, .int (nI 0)), (0, .ref (G.2.2.1 20 0))]) hx hb dX1_takesBooks_1 rfl hl (by decide) rfl (fun ls hl => ?_)
  exact t_Pa_takesBooks_2 N  cx hret N μ (nI 0) h hI (lv_sub hl [1, 0] rfl)
def f_Pa_nextFigure_26 (N : Nat)  (μ : zM) (s0 : Int32) : Option (Int32 × zM) :=
  some (s0, μ)
set_option maxHeartbeats 4000000 in
set_option maxRecDepth 100000 in
theorem t_Pa_nextFigure_26 (N : Nat) {p : Program} {l : Launch} {e : Env} {s : State} {m : MethodId} {args : Array Value} {below : List Frame} {meth : Method} {c : Code} {Q : State → Prop} {G : zG}  {out : (Int32 × zM)} (cx : zCX p (zrm 2) s m args c RX1 cX1_nextFigure 2 2 G) (hret : zRi p l e (zrm 2) s m args below meth c cX1_nextFigure G .int Q out.1 out.2)   : ∀ (μ : zM) (s0 : Int32), f_Pa_nextFigure_26 N μ s0 = some out → ∀ {H : Heap} {locs : List Loc} {ls : Array Slot}, zIW G s μ H locs → lv_has ls 2 [] → W p l e (zrm 2) s m args below meth c H locs 0 0 Q (F0 m 26 ls [.int s0]) := by
  obtain ⟨hx, hb, hml, hown, hts, hK, hR⟩ := id cx
  intro μ s0  h H locs ls hI hl
  unfold f_Pa_nextFigure_26 at h
  obtain rfl := Option.some.inj h
  exact hret _ _ _ _ dX1_nextFigure_26 rfl hI
def f_Pa_nextFigure_24 (N : Nat)  (μ : zM) : Option (Int32 × zM) :=
  f_Pa_nextFigure_26 N μ (-4 : Int32)
set_option maxHeartbeats 4000000 in
set_option maxRecDepth 100000 in
theorem t_Pa_nextFigure_24 (N : Nat) {p : Program} {l : Launch} {e : Env} {s : State} {m : MethodId} {args : Array Value} {below : List Frame} {meth : Method} {c : Code} {Q : State → Prop} {G : zG}  {out : (Int32 × zM)} (cx : zCX p (zrm 2) s m args c RX1 cX1_nextFigure 2 2 G) (hret : zRi p l e (zrm 2) s m args below meth c cX1_nextFigure G .int Q out.1 out.2)   : ∀ (μ : zM), f_Pa_nextFigure_24 N μ = some out → ∀ {H : Heap} {locs : List Loc} {ls : Array Slot}, zIW G s μ H locs → lv_has ls 2 [] → W p l e (zrm 2) s m args below meth c H locs 0 0 Q (F0 m 24 ls []) := by
  obtain ⟨hx, hb, hml, hown, hts, hK, hR⟩ := id cx
  intro μ  h H locs ls hI hl
  unfold f_Pa_nextFigure_24 at h
  refine lv_bipush (v := (-4 : Int32)) hx hb dX1_nextFigure_24 (by decide) ?_
  exact t_Pa_nextFigure_26 N  cx hret μ (-4 : Int32) h hI hl
def f_Pa_nextFigure (N : Nat) (μ : zM) : Option (Int32 × zM) :=
  (f_Pa_next N μ).bind (fun q1 => bnd q1.1 (fun v2 => (if v2 < (nI 48) then f_Pa_nextFigure_24 N q1.2 else (if (nI 57) < v2 then f_Pa_nextFigure_24 N q1.2 else f_Pa_nextFigure_26 N q1.2 (v2 - (nI 48))))))
set_option maxHeartbeats 4000000 in
set_option maxRecDepth 100000 in
theorem c_Pa_nextFigure (N : Nat) {l : Launch} {G : zG} {μ : zM}   {out : (Int32 × zM)} (h : f_Pa_nextFigure N μ  = some out) : zMI l G yX1_nextFigure cX1_nextFigure 2 (some .int) 2 [.ref (G.2.2.1 20 0)] μ out.1 out.2 := by
  refine zMI.of (by decide) (Nat.le_of_ble_eq_true rfl) (fun p e s m args below meth c Q ls cx hI hl hret => ?_)
  obtain ⟨hx, hb, hml, hown, hts, hK, hR⟩ := id cx
  have hl : lv_has ls 2 [(0, .ref (G.2.2.1 20 0))] := hl
  unfold f_Pa_nextFigure at h
  refine lv_aload_n hx hb dX1_nextFigure_0 rfl (lv_at hl 0 rfl) ?_
  obtain ⟨q1, hq1, h⟩ := bi_el h
  refine zcVi (As := []) cx hI (c_Pa_next N hq1) mt_yX1_next mv_yX1_next w_797 (by omega) (k1_0 rfl) (zv1 rfl) rfl hl.1 rfl (Nat.le_of_ble_eq_true rfl) dX1_nextFigure_1 (fun H locs hI => ?_)
  refine lv_topi (fun v2 ev2 => ?_)
  have h := bnd_el h ev2
  refine lv_istore_n (lv' := [(1, .int v2), (0, .ref (G.2.2.1 20 0))]) hx hb dX1_nextFigure_4 rfl hl (by decide) rfl (fun ls hl => ?_)
  refine lv_iload_n hx hb dX1_nextFigure_5 rfl (lv_at hl 0 rfl) ?_
  refine lv_bipush (v := (nI 48)) hx hb dX1_nextFigure_6 (by decide) ?_
  refine lv_icmp_lt (tgt := 24) hx hb dX1_nextFigure_8 (by decide) (fun c3 => ?_) (fun c3 => ?_)
  · have h := it_p h c3
    exact t_Pa_nextFigure_24 N  cx hret q1.2 h hI (lv_sub hl [] rfl)
  · have h := it_n h c3
    refine lv_iload_n hx hb dX1_nextFigure_11 rfl (lv_at hl 0 rfl) ?_
    refine lv_bipush (v := (nI 57)) hx hb dX1_nextFigure_12 (by decide) ?_
    refine lv_icmp_gt (tgt := 24) hx hb dX1_nextFigure_14 (by decide) (fun c4 => ?_) (fun c4 => ?_)
    · have h := it_p h c4
      exact t_Pa_nextFigure_24 N  cx hret q1.2 h hI (lv_sub hl [] rfl)
    · have h := it_n h c4
      refine lv_iload_n hx hb dX1_nextFigure_17 rfl (lv_at hl 0 rfl) ?_
      refine lv_bipush (v := (nI 48)) hx hb dX1_nextFigure_18 (by decide) ?_
      refine lv_isub hx hb dX1_nextFigure_20 ?_
      refine lv_goto (tgt := 26) hx hb dX1_nextFigure_21 (by decide) ?_
      exact t_Pa_nextFigure_26 N  cx hret q1.2 (v2 - (nI 48)) h hI (lv_sub hl [] rfl)
def f_Pa_takesPair_72 (N : Nat)  (μ : zM) : Option (Int32 × zM) :=
  some ((nI 0), μ)
set_option maxHeartbeats 4000000 in
set_option maxRecDepth 100000 in
theorem t_Pa_takesPair_72 (N : Nat) {p : Program} {l : Launch} {e : Env} {s : State} {m : MethodId} {args : Array Value} {below : List Frame} {meth : Method} {c : Code} {Q : State → Prop} {G : zG}  {out : (Int32 × zM)} (cx : zCX p (zrm 3) s m args c RX1 cX1_takesPair 3 3 G) (hret : zRi p l e (zrm 3) s m args below meth c cX1_takesPair G .boolean Q out.1 out.2)   : ∀ (μ : zM), f_Pa_takesPair_72 N μ = some out → ∀ {H : Heap} {locs : List Loc} {ls : Array Slot}, zIW G s μ H locs → lv_has ls 3 [] → W p l e (zrm 3) s m args below meth c H locs 0 0 Q (F0 m 72 ls []) := by
  obtain ⟨hx, hb, hml, hown, hts, hK, hR⟩ := id cx
  intro μ  h H locs ls hI hl
  unfold f_Pa_takesPair_72 at h
  refine lv_iconst (v := (nI 0)) hx hb dX1_takesPair_72 (by decide) ?_
  obtain rfl := Option.some.inj h
  exact hret _ _ _ _ dX1_takesPair_73 (zbool (Or.inl rfl)) hI
def f_Pa_takesPair (N : Nat) (μ : zM) : Option (Int32 × zM) :=
  (f_Pa_nextFigure N μ).bind (fun q1 => bnd q1.1 (fun v2 => (f_St_isBook (q1.2 3) v2).bind (fun q3 => (if q3 = nI 0 then some ((nI 0), q1.2) else bnd (zset q1.2 20 (zI (q1.2 20) 0 2 (((q1.2 20).1 0 2) + (nI 1)))) (fun μ5 => (f_Pa_nextFigure N μ5).bind (fun q6 => bnd q6.1 (fun v7 => (f_St_isBook (q6.2 3) v7).bind (fun q8 => (if q8 = nI 0 then f_Pa_takesPair_72 N q6.2 else if zin v2 7 then (f_RS_hasBit ((q6.2 3).1 2 v2.toNatClampNeg) v7).bind (fun q11 => (if q11 = nI 0 then (f_St_turnAhead N (q6.2 3) v2 v7).bind (fun q13 => bnd (zset q6.2 3 q13.2) (fun μ14 => (if nI 0 ≤ q13.1 then bnd (zset μ14 20 (zI (μ14 20) 0 2 (((μ14 20).1 0 2) + (nI 1)))) (fun μ16 => some ((nI 1), μ16)) else f_Pa_takesPair_72 N μ14))) else f_Pa_takesPair_72 N q6.2)) else none)))))))))
set_option maxHeartbeats 4000000 in
set_option maxRecDepth 100000 in
theorem c_Pa_takesPair (N : Nat) {l : Launch} {G : zG} {μ : zM}   {out : (Int32 × zM)} (h : f_Pa_takesPair N μ  = some out) : zMI l G yX1_takesPair cX1_takesPair 3 (some .boolean) 3 [.ref (G.2.2.1 20 0)] μ out.1 out.2 := by
  refine zMI.of (by decide) (Nat.le_of_ble_eq_true rfl) (fun p e s m args below meth c Q ls cx hI hl hret => ?_)
  obtain ⟨hx, hb, hml, hown, hts, hK, hR⟩ := id cx
  have hl : lv_has ls 3 [(0, .ref (G.2.2.1 20 0))] := hl
  unfold f_Pa_takesPair at h
  refine lv_aload_n hx hb dX1_takesPair_0 rfl (lv_at hl 0 rfl) ?_
  obtain ⟨q1, hq1, h⟩ := bi_el h
  refine zcVi (As := []) cx hI (c_Pa_nextFigure N hq1) mt_yX1_nextFigure mv_yX1_nextFigure w_816 (by omega) (k1_0 rfl) (zv1 rfl) rfl hl.1 rfl (Nat.le_of_ble_eq_true rfl) dX1_takesPair_1 (fun H locs hI => ?_)
  refine lv_topi (fun v2 ev2 => ?_)
  have h := bnd_el h ev2
  refine lv_istore_n (lv' := [(1, .int v2), (0, .ref (G.2.2.1 20 0))]) hx hb dX1_takesPair_4 rfl hl (by decide) rfl (fun ls hl => ?_)
  refine lv_aload_n hx hb dX1_takesPair_5 rfl (lv_at hl 1 rfl) ?_
  refine g1_1 cx hI rfl rfl w_67 dX1_takesPair_6 ?_
  refine lv_iload_n hx hb dX1_takesPair_9 rfl (lv_at hl 0 rfl) ?_
  obtain ⟨q3, hq3, h⟩ := bi_el h
  refine zcVi (As := [.int v2]) cx hI (c_St_isBook rfl rfl hq3) mt_yX6_isBook mv_yX6_isBook w_846 (by omega) (k6_0 rfl) (zv6 rfl) rfl hl.1 rfl (Nat.le_of_ble_eq_true rfl) dX1_takesPair_10 (fun H locs hI => ?_)
  refine lv_if_ne (tgt := 18) hx hb dX1_takesPair_13 (by decide) (fun c4 => ?_) (fun c4 => ?_)
  · have h := it_n h c4
    refine lv_aload_n hx hb dX1_takesPair_18 rfl (lv_at hl 1 rfl) ?_
    refine lv_dup hx hb dX1_takesPair_19 rfl ?_
    refine g1_2 cx hI rfl rfl w_789 dX1_takesPair_20 ?_
    refine lv_iconst (v := (nI 1)) hx hb dX1_takesPair_23 (by decide) ?_
    refine lv_iadd hx hb dX1_takesPair_24 ?_
    obtain ⟨μ5, eμ5⟩ : ∃ z : zM, z = zset q1.2 20 (zI (q1.2 20) 0 2 (((q1.2 20).1 0 2) + (nI 1))) := ⟨_, rfl⟩
    have h := bnd_el h eμ5
    refine p1_2 cx hI rfl rfl w_789 eμ5.symm dX1_takesPair_25 (fun H locs hI => ?_)
    refine lv_aload_n hx hb dX1_takesPair_28 rfl (lv_at hl 1 rfl) ?_
    obtain ⟨q6, hq6, h⟩ := bi_el h
    refine zcVi (As := []) cx hI (c_Pa_nextFigure N hq6) mt_yX1_nextFigure mv_yX1_nextFigure w_816 (by omega) (k1_0 rfl) (zv1 rfl) rfl hl.1 rfl (Nat.le_of_ble_eq_true rfl) dX1_takesPair_29 (fun H locs hI => ?_)
    refine lv_topi (fun v7 ev7 => ?_)
    have h := bnd_el h ev7
    refine lv_istore_n (lv' := [(2, .int v7), (1, .int v2), (0, .ref (G.2.2.1 20 0))]) hx hb dX1_takesPair_32 rfl hl (by decide) rfl (fun ls hl => ?_)
    refine lv_aload_n hx hb dX1_takesPair_33 rfl (lv_at hl 2 rfl) ?_
    refine g1_1 cx hI rfl rfl w_67 dX1_takesPair_34 ?_
    refine lv_iload_n hx hb dX1_takesPair_37 rfl (lv_at hl 0 rfl) ?_
    obtain ⟨q8, hq8, h⟩ := bi_el h
    refine zcVi (As := [.int v7]) cx hI (c_St_isBook rfl rfl hq8) mt_yX6_isBook mv_yX6_isBook w_846 (by omega) (k6_0 rfl) (zv6 rfl) rfl hl.1 rfl (Nat.le_of_ble_eq_true rfl) dX1_takesPair_38 (fun H locs hI => ?_)
    refine lv_if_eq (tgt := 72) hx hb dX1_takesPair_41 (by decide) (fun c9 => ?_) (fun c9 => ?_)
    · have h := it_p h c9
      exact t_Pa_takesPair_72 N  cx hret q6.2 h hI (lv_sub hl [] rfl)
    · have h := it_n h c9
      refine lv_aload_n hx hb dX1_takesPair_44 rfl (lv_at hl 2 rfl) ?_
      refine g1_1 cx hI rfl rfl w_67 dX1_takesPair_45 ?_
      refine g6_1 cx hI rfl rfl w_845 dX1_takesPair_48 ?_
      refine lv_iload_n hx hb dX1_takesPair_51 rfl (lv_at hl 1 rfl) ?_
      obtain ⟨g10, h⟩ := gd_el h
      refine zr_iald cx hI (k6_2 rfl) rfl (z6_2 rfl) rfl g10 dX1_takesPair_52 ?_
      refine lv_iload_n hx hb dX1_takesPair_53 rfl (lv_at hl 0 rfl) ?_
      obtain ⟨q11, hq11, h⟩ := bi_el h
      refine zcNi (As := [.int ((q6.2 3).1 2 v2.toNatClampNeg), .int v7]) cx hI (c_RS_hasBit  hq11) mt_yX7_hasBit ms_yX7_hasBit hK.2.1.2.2 (by omega) rfl hl.1 rfl (Nat.le_of_ble_eq_true rfl) dX1_takesPair_54 (fun H locs hI => ?_)
      refine lv_if_ne (tgt := 72) hx hb dX1_takesPair_57 (by decide) (fun c12 => ?_) (fun c12 => ?_)
      · have h := it_n h c12
        exact t_Pa_takesPair_72 N  cx hret q6.2 h hI (lv_sub hl [] rfl)
      · have h := it_p h c12
        refine lv_aload_n hx hb dX1_takesPair_60 rfl (lv_at hl 2 rfl) ?_
        refine g1_1 cx hI rfl rfl w_67 dX1_takesPair_61 ?_
        refine lv_iload_n hx hb dX1_takesPair_64 rfl (lv_at hl 1 rfl) ?_
        refine lv_iload_n hx hb dX1_takesPair_65 rfl (lv_at hl 0 rfl) ?_
        obtain ⟨q13, hq13, h⟩ := bi_el h
        obtain ⟨μ14, eμ14⟩ : ∃ z : zM, z = zset q6.2 3 q13.2 := ⟨_, rfl⟩
        have h := bnd_el h eμ14
        refine zcVi (As := [.int v2, .int v7]) cx hI (c_St_turnAhead N rfl rfl hq13 eμ14.symm) mt_yX6_turnAhead mv_yX6_turnAhead w_847 (by omega) (k6_0 rfl) (zv6 rfl) rfl hl.1 rfl (Nat.le_of_ble_eq_true rfl) dX1_takesPair_66 (fun H locs hI => ?_)
        refine lv_if_ge (tgt := 74) hx hb dX1_takesPair_69 (by decide) (fun c15 => ?_) (fun c15 => ?_)
        · have h := it_p h c15
          refine lv_aload_n hx hb dX1_takesPair_74 rfl (lv_at hl 2 rfl) ?_
          refine lv_dup hx hb dX1_takesPair_75 rfl ?_
          refine g1_2 cx hI rfl rfl w_789 dX1_takesPair_76 ?_
          refine lv_iconst (v := (nI 1)) hx hb dX1_takesPair_79 (by decide) ?_
          refine lv_iadd hx hb dX1_takesPair_80 ?_
          obtain ⟨μ16, eμ16⟩ : ∃ z : zM, z = zset μ14 20 (zI (μ14 20) 0 2 (((μ14 20).1 0 2) + (nI 1))) := ⟨_, rfl⟩
          have h := bnd_el h eμ16
          refine p1_2 cx hI rfl rfl w_789 eμ16.symm dX1_takesPair_81 (fun H locs hI => ?_)
          refine lv_iconst (v := (nI 1)) hx hb dX1_takesPair_84 (by decide) ?_
          obtain rfl := Option.some.inj h
          exact hret _ _ _ _ dX1_takesPair_85 (zbool (Or.inr rfl)) hI
        · have h := it_n h c15
          exact t_Pa_takesPair_72 N  cx hret μ14 h hI (lv_sub hl [] rfl)
  · have h := it_p h c4
    refine lv_iconst (v := (nI 0)) hx hb dX1_takesPair_16 (by decide) ?_
    obtain rfl := Option.some.inj h
    exact hret _ _ _ _ dX1_takesPair_17 (zbool (Or.inl rfl)) hI
def f_Pa_takesPairs_2 (N : Nat)  : Nat → zM → Int32 → Option (Int32 × zM)
  | 0, _, _ => none
  | n + 1, μ, x1 => (if (nI 90) ≤ x1 then some ((nI 0), μ) else (f_Pa_takesPair N μ).bind (fun q2 => (if q2.1 = nI 0 then some ((nI 0), q2.2) else (f_Pa_isAtEnd N q2.2).bind (fun q4 => (if q4.1 = nI 0 then (f_Pa_takesSign N q4.2 (nI 44)).bind (fun q6 => (if q6.1 = nI 0 then some ((nI 0), q6.2) else bnd (x1 + (nI 1)) (fun v8 => f_Pa_takesPairs_2 N n q6.2 v8))) else some ((nI 1), q4.2))))))
set_option maxHeartbeats 4000000 in
set_option maxRecDepth 100000 in
theorem t_Pa_takesPairs_2 (N : Nat) {p : Program} {l : Launch} {e : Env} {s : State} {m : MethodId} {args : Array Value} {below : List Frame} {meth : Method} {c : Code} {Q : State → Prop} {G : zG}  {out : (Int32 × zM)} (cx : zCX p (zrm 4) s m args c RX1 cX1_takesPairs 2 4 G) (hret : zRi p l e (zrm 4) s m args below meth c cX1_takesPairs G .boolean Q out.1 out.2)   : ∀ (n : Nat) (μ : zM) (x1 : Int32), f_Pa_takesPairs_2 N n μ x1 = some out → ∀ {H : Heap} {locs : List Loc} {ls : Array Slot}, zIW G s μ H locs → lv_has ls 2 [(0, .ref (G.2.2.1 20 0)), (1, .int x1)] → W p l e (zrm 4) s m args below meth c H locs 0 0 Q (F0 m 2 ls []) := by
  obtain ⟨hx, hb, hml, hown, hts, hK, hR⟩ := id cx
  intro n
  induction n with
  | zero =>
    intro μ x1  h
    cases h
  | succ n ih =>
    intro μ x1  h H locs ls hI hl
    rw [f_Pa_takesPairs_2] at h
    refine lv_iload_n hx hb dX1_takesPairs_2 rfl (lv_at hl 1 rfl) ?_
    refine lv_bipush (v := (nI 90)) hx hb dX1_takesPairs_3 (by decide) ?_
    refine lv_icmp_ge (tgt := 43) hx hb dX1_takesPairs_5 (by decide) (fun c1 => ?_) (fun c1 => ?_)
    · have h := it_p h c1
      refine lv_iconst (v := (nI 0)) hx hb dX1_takesPairs_43 (by decide) ?_
      obtain rfl := Option.some.inj h
      exact hret _ _ _ _ dX1_takesPairs_44 (zbool (Or.inl rfl)) hI
    · have h := it_n h c1
      refine lv_aload_n hx hb dX1_takesPairs_8 rfl (lv_at hl 0 rfl) ?_
      obtain ⟨q2, hq2, h⟩ := bi_el h
      refine zcVi (As := []) cx hI (c_Pa_takesPair N hq2) mt_yX1_takesPair mv_yX1_takesPair w_841 (by omega) (k1_0 rfl) (zv1 rfl) rfl hl.1 rfl (Nat.le_of_ble_eq_true rfl) dX1_takesPairs_9 (fun H locs hI => ?_)
      refine lv_if_ne (tgt := 17) hx hb dX1_takesPairs_12 (by decide) (fun c3 => ?_) (fun c3 => ?_)
      · have h := it_n h c3
        refine lv_aload_n hx hb dX1_takesPairs_17 rfl (lv_at hl 0 rfl) ?_
        obtain ⟨q4, hq4, h⟩ := bi_el h
        refine zcVi (As := []) cx hI (c_Pa_isAtEnd N hq4) mt_yX1_isAtEnd mv_yX1_isAtEnd w_833 (by omega) (k1_0 rfl) (zv1 rfl) rfl hl.1 rfl (Nat.le_of_ble_eq_true rfl) dX1_takesPairs_18 (fun H locs hI => ?_)
        refine lv_if_eq (tgt := 26) hx hb dX1_takesPairs_21 (by decide) (fun c5 => ?_) (fun c5 => ?_)
        · have h := it_p h c5
          refine lv_aload_n hx hb dX1_takesPairs_26 rfl (lv_at hl 0 rfl) ?_
          refine lv_bipush (v := (nI 44)) hx hb dX1_takesPairs_27 (by decide) ?_
          obtain ⟨q6, hq6, h⟩ := bi_el h
          refine zcVi (As := [.int (nI 44)]) cx hI (c_Pa_takesSign N hq6) mt_yX1_takesSign mv_yX1_takesSign w_820 (by omega) (k1_0 rfl) (zv1 rfl) rfl hl.1 rfl (Nat.le_of_ble_eq_true rfl) dX1_takesPairs_29 (fun H locs hI => ?_)
          refine lv_if_ne (tgt := 37) hx hb dX1_takesPairs_32 (by decide) (fun c7 => ?_) (fun c7 => ?_)
          · have h := it_n h c7
            obtain ⟨v8, ev8⟩ : ∃ z : Int32, z = x1 + (nI 1) := ⟨_, rfl⟩
            have h := bnd_el h ev8
            refine lv_iinc (v := v8) (lv' := [(1, .int v8), (0, .ref (G.2.2.1 20 0))]) hx hb dX1_takesPairs_37 hl (k := 1) rfl (by rw [ev8]; rfl) (by decide) rfl (fun ls hl => ?_)
            refine lv_goto (tgt := 2) hx hb dX1_takesPairs_40 (by decide) ?_
            exact ih q6.2 v8 h hI (lv_sub hl [1, 0] rfl)
          · have h := it_p h c7
            refine lv_iconst (v := (nI 0)) hx hb dX1_takesPairs_35 (by decide) ?_
            obtain rfl := Option.some.inj h
            exact hret _ _ _ _ dX1_takesPairs_36 (zbool (Or.inl rfl)) hI
        · have h := it_n h c5
          refine lv_iconst (v := (nI 1)) hx hb dX1_takesPairs_24 (by decide) ?_
          obtain rfl := Option.some.inj h
          exact hret _ _ _ _ dX1_takesPairs_25 (zbool (Or.inr rfl)) hI
      · have h := it_p h c3
        refine lv_iconst (v := (nI 0)) hx hb dX1_takesPairs_15 (by decide) ?_
        obtain rfl := Option.some.inj h
        exact hret _ _ _ _ dX1_takesPairs_16 (zbool (Or.inl rfl)) hI
def f_Pa_takesPairs (N : Nat) (μ : zM) : Option (Int32 × zM) :=
  f_Pa_takesPairs_2 N N μ (nI 0)
set_option maxHeartbeats 4000000 in
set_option maxRecDepth 100000 in
theorem c_Pa_takesPairs (N : Nat) {l : Launch} {G : zG} {μ : zM}   {out : (Int32 × zM)} (h : f_Pa_takesPairs N μ  = some out) : zMI l G yX1_takesPairs cX1_takesPairs 2 (some .boolean) 4 [.ref (G.2.2.1 20 0)] μ out.1 out.2 := by
  refine zMI.of (by decide) (Nat.le_of_ble_eq_true rfl) (fun p e s m args below meth c Q ls cx hI hl hret => ?_)
  obtain ⟨hx, hb, hml, hown, hts, hK, hR⟩ := id cx
  have hl : lv_has ls 2 [(0, .ref (G.2.2.1 20 0))] := hl
  unfold f_Pa_takesPairs at h
  refine lv_iconst (v := (nI 0)) hx hb dX1_takesPairs_0 (by decide) ?_
  refine lv_istore_n (lv' := [(1, .int (nI 0)), (0, .ref (G.2.2.1 20 0))]) hx hb dX1_takesPairs_1 rfl hl (by decide) rfl (fun ls hl => ?_)
  exact t_Pa_takesPairs_2 N  cx hret N μ (nI 0) h hI (lv_sub hl [1, 0] rfl)
def f_Pa_isName_15 (N : Nat) (μ : zM) (k : Nat)  : Nat → Int32 → Int32 → Option Int32
  | 0, _, _ => none
  | n + 1, x2, x4 => (if (zsl k) ≤ x4 then some (nI 1) else (f_Le_at (zlen 19) (μ 19) (x2 + x4)).bind (fun q3 => if zin x4 (zlenS.getD k 0) then (if q3 = (zch k x4.toNatClampNeg) then bnd (x4 + (nI 1)) (fun v6 => f_Pa_isName_15 N μ k n x2 v6) else some (nI 0)) else none))
set_option maxHeartbeats 4000000 in
set_option maxRecDepth 100000 in
theorem t_Pa_isName_15 (N : Nat) {p : Program} {l : Launch} {e : Env} {s : State} {m : MethodId} {args : Array Value} {below : List Frame} {meth : Method} {c : Code} {Q : State → Prop} {G : zG} {μ : zM} {k : Nat} (hk : k < 4) {out : Int32} (cx : zCX p (zrm 4) s m args c RX1 cX1_isName 5 4 G) (hret : zRi p l e (zrm 4) s m args below meth c cX1_isName G .boolean Q out μ)   : ∀ (n : Nat) (x2 : Int32) (x4 : Int32), f_Pa_isName_15 N μ k n x2 x4 = some out → ∀ {H : Heap} {locs : List Loc} {ls : Array Slot}, zIW G s μ H locs → lv_has ls 5 [(0, .ref (G.2.2.1 20 0)), (1, .ref (G.2.2.2.1 k)), (2, .int x2), (4, .int x4)] → W p l e (zrm 4) s m args below meth c H locs 0 0 Q (F0 m 15 ls []) := by
  obtain ⟨hx, hb, hml, hown, hts, hK, hR⟩ := id cx
  intro n
  induction n with
  | zero =>
    intro x2 x4  h
    cases h
  | succ n ih =>
    intro x2 x4  h H locs ls hI hl
    rw [f_Pa_isName_15] at h
    refine lv_iload hx hb dX1_isName_15 (lv_at hl 3 rfl) ?_
    refine lv_aload_n hx hb dX1_isName_17 rfl (lv_at hl 1 rfl) ?_
    refine zcVs (As := []) cx hI hk (c_J_length hk) mt_J_length mv_J_length w_809 (by omega) rfl hl.1 rfl (Nat.le_of_ble_eq_true rfl) dX1_isName_18 (fun H locs hI => ?_)
    refine lv_icmp_ge (tgt := 52) hx hb dX1_isName_21 (by decide) (fun c2 => ?_) (fun c2 => ?_)
    · have h := it_p h c2
      refine lv_iconst (v := (nI 1)) hx hb dX1_isName_52 (by decide) ?_
      obtain rfl := Option.some.inj h
      exact hret _ _ _ _ dX1_isName_53 (zbool (Or.inr rfl)) hI
    · have h := it_n h c2
      refine lv_aload_n hx hb dX1_isName_24 rfl (lv_at hl 0 rfl) ?_
      refine g1_0 cx hI rfl rfl w_65 dX1_isName_25 ?_
      refine lv_iload_n hx hb dX1_isName_28 rfl (lv_at hl 2 rfl) ?_
      refine lv_iload hx hb dX1_isName_29 (lv_at hl 3 rfl) ?_
      refine lv_iadd hx hb dX1_isName_31 ?_
      obtain ⟨q3, hq3, h⟩ := bi_el h
      refine zcVi (As := [.int (x2 + x4)]) cx hI (c_Le_at rfl rfl hq3) mt_yX0_at mv_yX0_at w_801 (by omega) (k0_0 rfl) (zv0 rfl) rfl hl.1 rfl (Nat.le_of_ble_eq_true rfl) dX1_isName_32 (fun H locs hI => ?_)
      refine lv_aload_n hx hb dX1_isName_35 rfl (lv_at hl 1 rfl) ?_
      refine lv_iload hx hb dX1_isName_36 (lv_at hl 3 rfl) ?_
      obtain ⟨g4, h⟩ := gd_el h
      refine zcVs (As := [.int x4]) cx hI hk (c_J_charAt hk g4) mt_J_charAt mv_J_charAt w_810 (by omega) rfl hl.1 rfl (Nat.le_of_ble_eq_true rfl) dX1_isName_38 (fun H locs hI => ?_)
      refine lv_icmp_eq (tgt := 46) hx hb dX1_isName_41 (by decide) (fun c5 => ?_) (fun c5 => ?_)
      · have h := it_p h c5
        obtain ⟨v6, ev6⟩ : ∃ z : Int32, z = x4 + (nI 1) := ⟨_, rfl⟩
        have h := bnd_el h ev6
        refine lv_iinc (v := v6) (lv' := [(4, .int v6), (0, .ref (G.2.2.1 20 0)), (1, .ref (G.2.2.2.1 k)), (2, .int x2)]) hx hb dX1_isName_46 hl (k := 3) rfl (by rw [ev6]; rfl) (by decide) rfl (fun ls hl => ?_)
        refine lv_goto (tgt := 15) hx hb dX1_isName_49 (by decide) ?_
        exact ih x2 v6 h hI (lv_sub hl [1, 2, 3, 0] rfl)
      · have h := it_n h c5
        refine lv_iconst (v := (nI 0)) hx hb dX1_isName_44 (by decide) ?_
        obtain rfl := Option.some.inj h
        exact hret _ _ _ _ dX1_isName_45 (zbool (Or.inl rfl)) hI
def f_Pa_isName (N : Nat) (μ : zM) (k : Nat) (a2 : Int32) (a3 : Int32) : Option Int32 :=
  (if (a3 - a2) = (zsl k) then f_Pa_isName_15 N μ k N a2 (nI 0) else some (nI 0))
set_option maxHeartbeats 4000000 in
set_option maxRecDepth 100000 in
theorem c_Pa_isName (N : Nat) {l : Launch} {G : zG} {μ : zM} {k : Nat} (hk : k < 4) {a2 : Int32} {a3 : Int32} {out : Int32} (h : f_Pa_isName N μ k a2 a3 = some out) : zMI l G yX1_isName cX1_isName 5 (some .boolean) 4 [.ref (G.2.2.1 20 0), .ref (G.2.2.2.1 k), .int a2, .int a3] μ out μ := by
  refine zMI.of (by decide) (Nat.le_of_ble_eq_true rfl) (fun p e s m args below meth c Q ls cx hI hl hret => ?_)
  obtain ⟨hx, hb, hml, hown, hts, hK, hR⟩ := id cx
  have hl : lv_has ls 5 [(0, .ref (G.2.2.1 20 0)), (1, .ref (G.2.2.2.1 k)), (2, .int a2), (3, .int a3)] := hl
  unfold f_Pa_isName at h
  refine lv_iload_n hx hb dX1_isName_0 rfl (lv_at hl 3 rfl) ?_
  refine lv_iload_n hx hb dX1_isName_1 rfl (lv_at hl 2 rfl) ?_
  refine lv_isub hx hb dX1_isName_2 ?_
  refine lv_aload_n hx hb dX1_isName_3 rfl (lv_at hl 1 rfl) ?_
  refine zcVs (As := []) cx hI hk (c_J_length hk) mt_J_length mv_J_length w_809 (by omega) rfl hl.1 rfl (Nat.le_of_ble_eq_true rfl) dX1_isName_4 (fun H locs hI => ?_)
  refine lv_icmp_eq (tgt := 12) hx hb dX1_isName_7 (by decide) (fun c1 => ?_) (fun c1 => ?_)
  · have h := it_p h c1
    refine lv_iconst (v := (nI 0)) hx hb dX1_isName_12 (by decide) ?_
    refine lv_istore (lv' := [(4, .int (nI 0)), (0, .ref (G.2.2.1 20 0)), (1, .ref (G.2.2.2.1 k)), (2, .int a2), (3, .int a3)]) hx hb dX1_isName_13 hl (by decide) rfl (fun ls hl => ?_)
    exact t_Pa_isName_15 N hk cx hret N a2 (nI 0) h hI (lv_sub hl [1, 2, 3, 0] rfl)
  · have h := it_n h c1
    refine lv_iconst (v := (nI 0)) hx hb dX1_isName_10 (by decide) ?_
    obtain rfl := Option.some.inj h
    exact hret _ _ _ _ dX1_isName_11 (zbool (Or.inl rfl)) hI
def f_Pa_nameOf (a0 : Int32) : Option Nat :=
  (if a0 = (nI 0) then some 1 else if a0 = (nI 1) then some 2 else some 3)
set_option maxHeartbeats 4000000 in
set_option maxRecDepth 100000 in
theorem c_Pa_nameOf {l : Launch} {G : zG} {μ : zM}  {a0 : Int32} {out : Nat} (h : f_Pa_nameOf a0 = some out) : zMS l G yX1_nameOf cX1_nameOf 1 (some (.object "java/lang/String")) 0 [.int a0] μ out := by
  refine zMS.of (by decide) (Nat.le_of_ble_eq_true rfl) (fun p e s m args below meth c Q ls cx hI hl hret => ?_)
  obtain ⟨hx, hb, hml, hown, hts, hK, hR⟩ := id cx
  have hl : lv_has ls 1 [(0, .int a0)] := hl
  unfold f_Pa_nameOf at h
  refine lv_iload_n hx hb dX1_nameOf_0 rfl (lv_at hl 0 rfl) ?_
  by_cases c1 : a0 = (nI 0)
  · have h := it_p h c1
    refine lv_lookup (off := 27) (tgt := 28) hx hb dX1_nameOf_1 (by decide) (by rw [c1]; rfl) (by decide) ?_
    refine va_ldcS hx hb hown hK.2.2.1.2.1 dX1_nameOf_28 ?_
    obtain rfl := Option.some.inj h
    exact hret _ _ _ _ dX1_nameOf_30 hI
  · have h := it_n h c1
    by_cases c2 : a0 = (nI 1)
    · have h := it_p h c2
      refine lv_lookup (off := 30) (tgt := 31) hx hb dX1_nameOf_1 (by decide) (by rw [c2]; rfl) (by decide) ?_
      refine va_ldcS hx hb hown hK.2.2.1.2.2.1 dX1_nameOf_31 ?_
      obtain rfl := Option.some.inj h
      exact hret _ _ _ _ dX1_nameOf_33 hI
    · have h := it_n h c2
      refine lv_lookup (off := 33) (tgt := 34) hx hb dX1_nameOf_1 (by decide) (by have tc1 := tn c1 (i := 0) rfl; have tc2 := tn c2 (i := 1) rfl; generalize (a0).toInt = z at tc1 tc2 ⊢; simp [Op.lookupswitch.offset, tc1, Ne.symm tc1, tc2, Ne.symm tc2]) (by decide) ?_
      refine va_ldcS hx hb hown hK.2.2.1.2.2.2 dX1_nameOf_34 ?_
      obtain rfl := Option.some.inj h
      exact hret _ _ _ _ dX1_nameOf_36 hI
def f_Pa_takesRule_71 (N : Nat)  : Nat → zM → Int32 → Int32 → Option (Int32 × zM)
  | 0, _, _, _ => none
  | n + 1, μ, x1, x2 => (if (nI 3) ≤ x2 then bnd (zset μ 20 (zI (μ 20) 0 2 x1)) (fun μ5 => some ((nI 0), μ5)) else (f_Pa_nameOf x2).bind (fun q6 => if q6 < 4 then (f_Pa_isName N μ q6 x1 ((μ 20).1 0 2)).bind (fun q8 => (if q8 = nI 0 then bnd (x2 + (nI 1)) (fun v10 => f_Pa_takesRule_71 N n μ x1 v10) else bnd (zset μ 3 (zI (μ 3) 0 7 x2)) (fun μ11 => some ((nI 1), μ11)))) else none))
set_option maxHeartbeats 4000000 in
set_option maxRecDepth 100000 in
theorem t_Pa_takesRule_71 (N : Nat) {p : Program} {l : Launch} {e : Env} {s : State} {m : MethodId} {args : Array Value} {below : List Frame} {meth : Method} {c : Code} {Q : State → Prop} {G : zG}  {out : (Int32 × zM)} (cx : zCX p (zrm 5) s m args c RX1 cX1_takesRule 3 5 G) (hret : zRi p l e (zrm 5) s m args below meth c cX1_takesRule G .boolean Q out.1 out.2)   : ∀ (n : Nat) (μ : zM) (x1 : Int32) (x2 : Int32), f_Pa_takesRule_71 N n μ x1 x2 = some out → ∀ {H : Heap} {locs : List Loc} {ls : Array Slot}, zIW G s μ H locs → lv_has ls 3 [(0, .ref (G.2.2.1 20 0)), (1, .int x1), (2, .int x2)] → W p l e (zrm 5) s m args below meth c H locs 0 0 Q (F0 m 71 ls []) := by
  obtain ⟨hx, hb, hml, hown, hts, hK, hR⟩ := id cx
  intro n
  induction n with
  | zero =>
    intro μ x1 x2  h
    cases h
  | succ n ih =>
    intro μ x1 x2  h H locs ls hI hl
    rw [f_Pa_takesRule_71] at h
    refine lv_iload_n hx hb dX1_takesRule_71 rfl (lv_at hl 2 rfl) ?_
    refine lv_iconst (v := (nI 3)) hx hb dX1_takesRule_72 (by decide) ?_
    refine lv_icmp_ge (tgt := 108) hx hb dX1_takesRule_73 (by decide) (fun c4 => ?_) (fun c4 => ?_)
    · have h := it_p h c4
      refine lv_aload_n hx hb dX1_takesRule_108 rfl (lv_at hl 0 rfl) ?_
      refine lv_iload_n hx hb dX1_takesRule_109 rfl (lv_at hl 1 rfl) ?_
      obtain ⟨μ5, eμ5⟩ : ∃ z : zM, z = zset μ 20 (zI (μ 20) 0 2 x1) := ⟨_, rfl⟩
      have h := bnd_el h eμ5
      refine p1_2 cx hI rfl rfl w_789 eμ5.symm dX1_takesRule_110 (fun H locs hI => ?_)
      refine lv_iconst (v := (nI 0)) hx hb dX1_takesRule_113 (by decide) ?_
      obtain rfl := Option.some.inj h
      exact hret _ _ _ _ dX1_takesRule_114 (zbool (Or.inl rfl)) hI
    · have h := it_n h c4
      refine lv_aload_n hx hb dX1_takesRule_76 rfl (lv_at hl 0 rfl) ?_
      refine lv_iload_n hx hb dX1_takesRule_77 rfl (lv_at hl 2 rfl) ?_
      obtain ⟨q6, hq6, h⟩ := bi_el h
      obtain ⟨g7, h⟩ := gd_el h
      refine zcSs (As := [.int x2]) cx hI (c_Pa_nameOf  hq6) mt_yX1_nameOf ms_yX1_nameOf w_802 (by omega) rfl hl.1 rfl (Nat.le_of_ble_eq_true rfl) dX1_takesRule_78 (fun H locs hI => ?_)
      refine lv_iload_n hx hb dX1_takesRule_81 rfl (lv_at hl 1 rfl) ?_
      refine lv_aload_n hx hb dX1_takesRule_82 rfl (lv_at hl 0 rfl) ?_
      refine g1_2 cx hI rfl rfl w_789 dX1_takesRule_83 ?_
      obtain ⟨q8, hq8, h⟩ := bi_el h
      refine zcVi (As := [.ref (G.2.2.2.1 q6), .int x1, .int ((μ 20).1 0 2)]) cx hI (c_Pa_isName N g7 hq8) mt_yX1_isName mv_yX1_isName w_805 (by omega) (k1_0 rfl) (zv1 rfl) rfl hl.1 rfl (Nat.le_of_ble_eq_true rfl) dX1_takesRule_86 (fun H locs hI => ?_)
      refine lv_if_eq (tgt := 102) hx hb dX1_takesRule_89 (by decide) (fun c9 => ?_) (fun c9 => ?_)
      · have h := it_p h c9
        obtain ⟨v10, ev10⟩ : ∃ z : Int32, z = x2 + (nI 1) := ⟨_, rfl⟩
        have h := bnd_el h ev10
        refine lv_iinc (v := v10) (lv' := [(2, .int v10), (0, .ref (G.2.2.1 20 0)), (1, .int x1)]) hx hb dX1_takesRule_102 hl (k := 2) rfl (by rw [ev10]; rfl) (by decide) rfl (fun ls hl => ?_)
        refine lv_goto (tgt := 71) hx hb dX1_takesRule_105 (by decide) ?_
        exact ih μ x1 v10 h hI (lv_sub hl [1, 2, 0] rfl)
      · have h := it_n h c9
        refine lv_aload_n hx hb dX1_takesRule_92 rfl (lv_at hl 0 rfl) ?_
        refine g1_1 cx hI rfl rfl w_67 dX1_takesRule_93 ?_
        refine lv_iload_n hx hb dX1_takesRule_96 rfl (lv_at hl 2 rfl) ?_
        obtain ⟨μ11, eμ11⟩ : ∃ z : zM, z = zset μ 3 (zI (μ 3) 0 7 x2) := ⟨_, rfl⟩
        have h := bnd_el h eμ11
        refine p6_7 cx hI rfl rfl w_796 eμ11.symm dX1_takesRule_97 (fun H locs hI => ?_)
        refine lv_iconst (v := (nI 1)) hx hb dX1_takesRule_100 (by decide) ?_
        obtain rfl := Option.some.inj h
        exact hret _ _ _ _ dX1_takesRule_101 (zbool (Or.inr rfl)) hI
def f_Pa_takesRule_69 (N : Nat)  (μ : zM) (x1 : Int32) : Option (Int32 × zM) :=
  f_Pa_takesRule_71 N N μ x1 (nI 0)
set_option maxHeartbeats 4000000 in
set_option maxRecDepth 100000 in
theorem t_Pa_takesRule_69 (N : Nat) {p : Program} {l : Launch} {e : Env} {s : State} {m : MethodId} {args : Array Value} {below : List Frame} {meth : Method} {c : Code} {Q : State → Prop} {G : zG}  {out : (Int32 × zM)} (cx : zCX p (zrm 5) s m args c RX1 cX1_takesRule 3 5 G) (hret : zRi p l e (zrm 5) s m args below meth c cX1_takesRule G .boolean Q out.1 out.2)   : ∀ (μ : zM) (x1 : Int32), f_Pa_takesRule_69 N μ x1 = some out → ∀ {H : Heap} {locs : List Loc} {ls : Array Slot}, zIW G s μ H locs → lv_has ls 3 [(0, .ref (G.2.2.1 20 0)), (1, .int x1)] → W p l e (zrm 5) s m args below meth c H locs 0 0 Q (F0 m 69 ls []) := by
  obtain ⟨hx, hb, hml, hown, hts, hK, hR⟩ := id cx
  intro μ x1  h H locs ls hI hl
  unfold f_Pa_takesRule_69 at h
  refine lv_iconst (v := (nI 0)) hx hb dX1_takesRule_69 (by decide) ?_
  refine lv_istore_n (lv' := [(2, .int (nI 0)), (0, .ref (G.2.2.1 20 0)), (1, .int x1)]) hx hb dX1_takesRule_70 rfl hl (by decide) rfl (fun ls hl => ?_)
  exact t_Pa_takesRule_71 N  cx hret N μ x1 (nI 0) h hI (lv_sub hl [1, 2, 0] rfl)
def f_Pa_takesRule_10 (N : Nat)  : Nat → zM → Int32 → Option (Int32 × zM)
  | 0, _, _ => none
  | n + 1, μ, x1 => (if ((μ 19).1 0 1) ≤ ((μ 20).1 0 2) then f_Pa_takesRule_69 N μ x1 else (f_Le_at (zlen 19) (μ 19) ((μ 20).1 0 2)).bind (fun q12 => (if q12 < (nI 97) then f_Pa_takesRule_69 N μ x1 else (f_Le_at (zlen 19) (μ 19) ((μ 20).1 0 2)).bind (fun q14 => (if (nI 122) < q14 then f_Pa_takesRule_69 N μ x1 else bnd (zset μ 20 (zI (μ 20) 0 2 (((μ 20).1 0 2) + (nI 1)))) (fun μ16 => f_Pa_takesRule_10 N n μ16 x1))))))
set_option maxHeartbeats 4000000 in
set_option maxRecDepth 100000 in
theorem t_Pa_takesRule_10 (N : Nat) {p : Program} {l : Launch} {e : Env} {s : State} {m : MethodId} {args : Array Value} {below : List Frame} {meth : Method} {c : Code} {Q : State → Prop} {G : zG}  {out : (Int32 × zM)} (cx : zCX p (zrm 5) s m args c RX1 cX1_takesRule 3 5 G) (hret : zRi p l e (zrm 5) s m args below meth c cX1_takesRule G .boolean Q out.1 out.2)   : ∀ (n : Nat) (μ : zM) (x1 : Int32), f_Pa_takesRule_10 N n μ x1 = some out → ∀ {H : Heap} {locs : List Loc} {ls : Array Slot}, zIW G s μ H locs → lv_has ls 3 [(0, .ref (G.2.2.1 20 0)), (1, .int x1)] → W p l e (zrm 5) s m args below meth c H locs 0 0 Q (F0 m 10 ls []) := by
  obtain ⟨hx, hb, hml, hown, hts, hK, hR⟩ := id cx
  intro n
  induction n with
  | zero =>
    intro μ x1  h
    cases h
  | succ n ih =>
    intro μ x1  h H locs ls hI hl
    rw [f_Pa_takesRule_10] at h
    refine lv_aload_n hx hb dX1_takesRule_10 rfl (lv_at hl 0 rfl) ?_
    refine g1_2 cx hI rfl rfl w_789 dX1_takesRule_11 ?_
    refine lv_aload_n hx hb dX1_takesRule_14 rfl (lv_at hl 0 rfl) ?_
    refine g1_0 cx hI rfl rfl w_65 dX1_takesRule_15 ?_
    refine g0_1 cx hI rfl rfl w_795 dX1_takesRule_18 ?_
    refine lv_icmp_ge (tgt := 69) hx hb dX1_takesRule_21 (by decide) (fun c3 => ?_) (fun c3 => ?_)
    · have h := it_p h c3
      exact t_Pa_takesRule_69 N  cx hret μ x1 h hI hl
    · have h := it_n h c3
      refine lv_aload_n hx hb dX1_takesRule_24 rfl (lv_at hl 0 rfl) ?_
      refine g1_0 cx hI rfl rfl w_65 dX1_takesRule_25 ?_
      refine lv_aload_n hx hb dX1_takesRule_28 rfl (lv_at hl 0 rfl) ?_
      refine g1_2 cx hI rfl rfl w_789 dX1_takesRule_29 ?_
      obtain ⟨q12, hq12, h⟩ := bi_el h
      refine zcVi (As := [.int ((μ 20).1 0 2)]) cx hI (c_Le_at rfl rfl hq12) mt_yX0_at mv_yX0_at w_801 (by omega) (k0_0 rfl) (zv0 rfl) rfl hl.1 rfl (Nat.le_of_ble_eq_true rfl) dX1_takesRule_32 (fun H locs hI => ?_)
      refine lv_bipush (v := (nI 97)) hx hb dX1_takesRule_35 (by decide) ?_
      refine lv_icmp_lt (tgt := 69) hx hb dX1_takesRule_37 (by decide) (fun c13 => ?_) (fun c13 => ?_)
      · have h := it_p h c13
        exact t_Pa_takesRule_69 N  cx hret μ x1 h hI hl
      · have h := it_n h c13
        refine lv_aload_n hx hb dX1_takesRule_40 rfl (lv_at hl 0 rfl) ?_
        refine g1_0 cx hI rfl rfl w_65 dX1_takesRule_41 ?_
        refine lv_aload_n hx hb dX1_takesRule_44 rfl (lv_at hl 0 rfl) ?_
        refine g1_2 cx hI rfl rfl w_789 dX1_takesRule_45 ?_
        obtain ⟨q14, hq14, h⟩ := bi_el h
        refine zcVi (As := [.int ((μ 20).1 0 2)]) cx hI (c_Le_at rfl rfl hq14) mt_yX0_at mv_yX0_at w_801 (by omega) (k0_0 rfl) (zv0 rfl) rfl hl.1 rfl (Nat.le_of_ble_eq_true rfl) dX1_takesRule_48 (fun H locs hI => ?_)
        refine lv_bipush (v := (nI 122)) hx hb dX1_takesRule_51 (by decide) ?_
        refine lv_icmp_gt (tgt := 69) hx hb dX1_takesRule_53 (by decide) (fun c15 => ?_) (fun c15 => ?_)
        · have h := it_p h c15
          exact t_Pa_takesRule_69 N  cx hret μ x1 h hI hl
        · have h := it_n h c15
          refine lv_aload_n hx hb dX1_takesRule_56 rfl (lv_at hl 0 rfl) ?_
          refine lv_dup hx hb dX1_takesRule_57 rfl ?_
          refine g1_2 cx hI rfl rfl w_789 dX1_takesRule_58 ?_
          refine lv_iconst (v := (nI 1)) hx hb dX1_takesRule_61 (by decide) ?_
          refine lv_iadd hx hb dX1_takesRule_62 ?_
          obtain ⟨μ16, eμ16⟩ : ∃ z : zM, z = zset μ 20 (zI (μ 20) 0 2 (((μ 20).1 0 2) + (nI 1))) := ⟨_, rfl⟩
          have h := bnd_el h eμ16
          refine p1_2 cx hI rfl rfl w_789 eμ16.symm dX1_takesRule_63 (fun H locs hI => ?_)
          refine lv_goto (tgt := 10) hx hb dX1_takesRule_66 (by decide) ?_
          exact ih μ16 x1 h hI hl
def f_Pa_takesRule (N : Nat) (μ : zM) : Option (Int32 × zM) :=
  (f_Pa_next N μ).bind (fun q1 => bnd ((q1.2 20).1 0 2) (fun v2 => f_Pa_takesRule_10 N N q1.2 v2))
set_option maxHeartbeats 4000000 in
set_option maxRecDepth 100000 in
theorem c_Pa_takesRule (N : Nat) {l : Launch} {G : zG} {μ : zM}   {out : (Int32 × zM)} (h : f_Pa_takesRule N μ  = some out) : zMI l G yX1_takesRule cX1_takesRule 3 (some .boolean) 5 [.ref (G.2.2.1 20 0)] μ out.1 out.2 := by
  refine zMI.of (by decide) (Nat.le_of_ble_eq_true rfl) (fun p e s m args below meth c Q ls cx hI hl hret => ?_)
  obtain ⟨hx, hb, hml, hown, hts, hK, hR⟩ := id cx
  have hl : lv_has ls 3 [(0, .ref (G.2.2.1 20 0))] := hl
  unfold f_Pa_takesRule at h
  refine lv_aload_n hx hb dX1_takesRule_0 rfl (lv_at hl 0 rfl) ?_
  obtain ⟨q1, hq1, h⟩ := bi_el h
  refine zcVi (As := []) cx hI (c_Pa_next N hq1) mt_yX1_next mv_yX1_next w_797 (by omega) (k1_0 rfl) (zv1 rfl) rfl hl.1 rfl (Nat.le_of_ble_eq_true rfl) dX1_takesRule_1 (fun H locs hI => ?_)
  refine lv_pop hx hb dX1_takesRule_4 rfl ?_
  refine lv_aload_n hx hb dX1_takesRule_5 rfl (lv_at hl 0 rfl) ?_
  refine g1_2 cx hI rfl rfl w_789 dX1_takesRule_6 ?_
  refine lv_topi (fun v2 ev2 => ?_)
  have h := bnd_el h ev2
  refine lv_istore_n (lv' := [(1, .int v2), (0, .ref (G.2.2.1 20 0))]) hx hb dX1_takesRule_9 rfl hl (by decide) rfl (fun ls hl => ?_)
  exact t_Pa_takesRule_10 N  cx hret N q1.2 v2 h hI (lv_sub hl [1, 0] rfl)
def f_Pa_takesSpan_15 (N : Nat)  (μ : zM) : Option (Int32 × zM) :=
  some ((nI 0), μ)
set_option maxHeartbeats 4000000 in
set_option maxRecDepth 100000 in
theorem t_Pa_takesSpan_15 (N : Nat) {p : Program} {l : Launch} {e : Env} {s : State} {m : MethodId} {args : Array Value} {below : List Frame} {meth : Method} {c : Code} {Q : State → Prop} {G : zG}  {out : (Int32 × zM)} (cx : zCX p (zrm 3) s m args c RX1 cX1_takesSpan 2 3 G) (hret : zRi p l e (zrm 3) s m args below meth c cX1_takesSpan G .boolean Q out.1 out.2)   : ∀ (μ : zM), f_Pa_takesSpan_15 N μ = some out → ∀ {H : Heap} {locs : List Loc} {ls : Array Slot}, zIW G s μ H locs → lv_has ls 2 [] → W p l e (zrm 3) s m args below meth c H locs 0 0 Q (F0 m 15 ls []) := by
  obtain ⟨hx, hb, hml, hown, hts, hK, hR⟩ := id cx
  intro μ  h H locs ls hI hl
  unfold f_Pa_takesSpan_15 at h
  refine lv_iconst (v := (nI 0)) hx hb dX1_takesSpan_15 (by decide) ?_
  obtain rfl := Option.some.inj h
  exact hret _ _ _ _ dX1_takesSpan_16 (zbool (Or.inl rfl)) hI
def f_Pa_takesSpan (N : Nat) (μ : zM) : Option (Int32 × zM) :=
  (f_Pa_nextFigure N μ).bind (fun q1 => bnd q1.1 (fun v2 => (if v2 < (nI 1) then f_Pa_takesSpan_15 N q1.2 else (if v2 ≤ (nI 4) then bnd (zset q1.2 3 (zI (q1.2 3) 0 5 v2)) (fun μ5 => bnd (zset μ5 20 (zI (μ5 20) 0 2 (((μ5 20).1 0 2) + (nI 1)))) (fun μ6 => some ((nI 1), μ6))) else f_Pa_takesSpan_15 N q1.2))))
set_option maxHeartbeats 4000000 in
set_option maxRecDepth 100000 in
theorem c_Pa_takesSpan (N : Nat) {l : Launch} {G : zG} {μ : zM}   {out : (Int32 × zM)} (h : f_Pa_takesSpan N μ  = some out) : zMI l G yX1_takesSpan cX1_takesSpan 2 (some .boolean) 3 [.ref (G.2.2.1 20 0)] μ out.1 out.2 := by
  refine zMI.of (by decide) (Nat.le_of_ble_eq_true rfl) (fun p e s m args below meth c Q ls cx hI hl hret => ?_)
  obtain ⟨hx, hb, hml, hown, hts, hK, hR⟩ := id cx
  have hl : lv_has ls 2 [(0, .ref (G.2.2.1 20 0))] := hl
  unfold f_Pa_takesSpan at h
  refine lv_aload_n hx hb dX1_takesSpan_0 rfl (lv_at hl 0 rfl) ?_
  obtain ⟨q1, hq1, h⟩ := bi_el h
  refine zcVi (As := []) cx hI (c_Pa_nextFigure N hq1) mt_yX1_nextFigure mv_yX1_nextFigure w_816 (by omega) (k1_0 rfl) (zv1 rfl) rfl hl.1 rfl (Nat.le_of_ble_eq_true rfl) dX1_takesSpan_1 (fun H locs hI => ?_)
  refine lv_topi (fun v2 ev2 => ?_)
  have h := bnd_el h ev2
  refine lv_istore_n (lv' := [(1, .int v2), (0, .ref (G.2.2.1 20 0))]) hx hb dX1_takesSpan_4 rfl hl (by decide) rfl (fun ls hl => ?_)
  refine lv_iload_n hx hb dX1_takesSpan_5 rfl (lv_at hl 0 rfl) ?_
  refine lv_iconst (v := (nI 1)) hx hb dX1_takesSpan_6 (by decide) ?_
  refine lv_icmp_lt (tgt := 15) hx hb dX1_takesSpan_7 (by decide) (fun c3 => ?_) (fun c3 => ?_)
  · have h := it_p h c3
    exact t_Pa_takesSpan_15 N  cx hret q1.2 h hI (lv_sub hl [] rfl)
  · have h := it_n h c3
    refine lv_iload_n hx hb dX1_takesSpan_10 rfl (lv_at hl 0 rfl) ?_
    refine lv_iconst (v := (nI 4)) hx hb dX1_takesSpan_11 (by decide) ?_
    refine lv_icmp_le (tgt := 17) hx hb dX1_takesSpan_12 (by decide) (fun c4 => ?_) (fun c4 => ?_)
    · have h := it_p h c4
      refine lv_aload_n hx hb dX1_takesSpan_17 rfl (lv_at hl 1 rfl) ?_
      refine g1_1 cx hI rfl rfl w_67 dX1_takesSpan_18 ?_
      refine lv_iload_n hx hb dX1_takesSpan_21 rfl (lv_at hl 0 rfl) ?_
      obtain ⟨μ5, eμ5⟩ : ∃ z : zM, z = zset q1.2 3 (zI (q1.2 3) 0 5 v2) := ⟨_, rfl⟩
      have h := bnd_el h eμ5
      refine p6_5 cx hI rfl rfl w_815 eμ5.symm dX1_takesSpan_22 (fun H locs hI => ?_)
      refine lv_aload_n hx hb dX1_takesSpan_25 rfl (lv_at hl 1 rfl) ?_
      refine lv_dup hx hb dX1_takesSpan_26 rfl ?_
      refine g1_2 cx hI rfl rfl w_789 dX1_takesSpan_27 ?_
      refine lv_iconst (v := (nI 1)) hx hb dX1_takesSpan_30 (by decide) ?_
      refine lv_iadd hx hb dX1_takesSpan_31 ?_
      obtain ⟨μ6, eμ6⟩ : ∃ z : zM, z = zset μ5 20 (zI (μ5 20) 0 2 (((μ5 20).1 0 2) + (nI 1))) := ⟨_, rfl⟩
      have h := bnd_el h eμ6
      refine p1_2 cx hI rfl rfl w_789 eμ6.symm dX1_takesSpan_32 (fun H locs hI => ?_)
      refine lv_iconst (v := (nI 1)) hx hb dX1_takesSpan_35 (by decide) ?_
      obtain rfl := Option.some.inj h
      exact hret _ _ _ _ dX1_takesSpan_36 (zbool (Or.inr rfl)) hI
    · have h := it_n h c4
      exact t_Pa_takesSpan_15 N  cx hret q1.2 h hI (lv_sub hl [] rfl)
def f_Pa_parses_89 (N : Nat)  (μ : zM) (s0 : Int32) : Option (Int32 × zM) :=
  if (s0 = nI 0 ∨ s0 = nI 1) then some (s0, μ) else none
set_option maxHeartbeats 4000000 in
set_option maxRecDepth 100000 in
theorem t_Pa_parses_89 (N : Nat) {p : Program} {l : Launch} {e : Env} {s : State} {m : MethodId} {args : Array Value} {below : List Frame} {meth : Method} {c : Code} {Q : State → Prop} {G : zG}  {out : (Int32 × zM)} (cx : zCX p (zrm 6) s m args c RX1 cX1_parses 3 6 G) (hret : zRi p l e (zrm 6) s m args below meth c cX1_parses G .boolean Q out.1 out.2)   : ∀ (μ : zM) (s0 : Int32), f_Pa_parses_89 N μ s0 = some out → ∀ {H : Heap} {locs : List Loc} {ls : Array Slot}, zIW G s μ H locs → lv_has ls 3 [] → W p l e (zrm 6) s m args below meth c H locs 0 0 Q (F0 m 89 ls [.int s0]) := by
  obtain ⟨hx, hb, hml, hown, hts, hK, hR⟩ := id cx
  intro μ s0  h H locs ls hI hl
  unfold f_Pa_parses_89 at h
  obtain ⟨g8, h⟩ := gd_el h
  obtain rfl := Option.some.inj h
  exact hret _ _ _ _ dX1_parses_89 (zbool g8) hI
def f_Pa_parses_88 (N : Nat)  (μ : zM) : Option (Int32 × zM) :=
  f_Pa_parses_89 N μ (nI 0)
set_option maxHeartbeats 4000000 in
set_option maxRecDepth 100000 in
theorem t_Pa_parses_88 (N : Nat) {p : Program} {l : Launch} {e : Env} {s : State} {m : MethodId} {args : Array Value} {below : List Frame} {meth : Method} {c : Code} {Q : State → Prop} {G : zG}  {out : (Int32 × zM)} (cx : zCX p (zrm 6) s m args c RX1 cX1_parses 3 6 G) (hret : zRi p l e (zrm 6) s m args below meth c cX1_parses G .boolean Q out.1 out.2)   : ∀ (μ : zM), f_Pa_parses_88 N μ = some out → ∀ {H : Heap} {locs : List Loc} {ls : Array Slot}, zIW G s μ H locs → lv_has ls 3 [] → W p l e (zrm 6) s m args below meth c H locs 0 0 Q (F0 m 88 ls []) := by
  obtain ⟨hx, hb, hml, hown, hts, hK, hR⟩ := id cx
  intro μ  h H locs ls hI hl
  unfold f_Pa_parses_88 at h
  refine lv_iconst (v := (nI 0)) hx hb dX1_parses_88 (by decide) ?_
  exact t_Pa_parses_89 N  cx hret μ (nI 0) h hI hl
def f_Pa_parses_84 (N : Nat)  (μ : zM) : Option (Int32 × zM) :=
  f_Pa_parses_89 N μ (nI 1)
set_option maxHeartbeats 4000000 in
set_option maxRecDepth 100000 in
theorem t_Pa_parses_84 (N : Nat) {p : Program} {l : Launch} {e : Env} {s : State} {m : MethodId} {args : Array Value} {below : List Frame} {meth : Method} {c : Code} {Q : State → Prop} {G : zG}  {out : (Int32 × zM)} (cx : zCX p (zrm 6) s m args c RX1 cX1_parses 3 6 G) (hret : zRi p l e (zrm 6) s m args below meth c cX1_parses G .boolean Q out.1 out.2)   : ∀ (μ : zM), f_Pa_parses_84 N μ = some out → ∀ {H : Heap} {locs : List Loc} {ls : Array Slot}, zIW G s μ H locs → lv_has ls 3 [] → W p l e (zrm 6) s m args below meth c H locs 0 0 Q (F0 m 84 ls []) := by
  obtain ⟨hx, hb, hml, hown, hts, hK, hR⟩ := id cx
  intro μ  h H locs ls hI hl
  unfold f_Pa_parses_84 at h
  refine lv_iconst (v := (nI 1)) hx hb dX1_parses_84 (by decide) ?_
  refine lv_goto (tgt := 89) hx hb dX1_parses_85 (by decide) ?_
  exact t_Pa_parses_89 N  cx hret μ (nI 1) h hI hl
def f_Pa_parses_56 (N : Nat)  (μ : zM) (s0 : Int32) : Option (Int32 × zM) :=
  (if s0 = nI 0 then f_Pa_parses_88 N μ else (f_Pa_isAtEnd N μ).bind (fun q9 => (if q9.1 = nI 0 then (f_Pa_takesSign N q9.2 (nI 59)).bind (fun q11 => (if q11.1 = nI 0 then f_Pa_parses_88 N q11.2 else (f_Pa_takesPairs N q11.2).bind (fun q13 => (if q13.1 = nI 0 then f_Pa_parses_88 N q13.2 else f_Pa_parses_84 N q13.2)))) else f_Pa_parses_84 N q9.2)))
set_option maxHeartbeats 4000000 in
set_option maxRecDepth 100000 in
theorem t_Pa_parses_56 (N : Nat) {p : Program} {l : Launch} {e : Env} {s : State} {m : MethodId} {args : Array Value} {below : List Frame} {meth : Method} {c : Code} {Q : State → Prop} {G : zG}  {out : (Int32 × zM)} (cx : zCX p (zrm 6) s m args c RX1 cX1_parses 3 6 G) (hret : zRi p l e (zrm 6) s m args below meth c cX1_parses G .boolean Q out.1 out.2)   : ∀ (μ : zM) (s0 : Int32), f_Pa_parses_56 N μ s0 = some out → ∀ {H : Heap} {locs : List Loc} {ls : Array Slot}, zIW G s μ H locs → lv_has ls 3 [(0, .ref (G.2.2.1 20 0))] → W p l e (zrm 6) s m args below meth c H locs 0 0 Q (F0 m 56 ls [.int s0]) := by
  obtain ⟨hx, hb, hml, hown, hts, hK, hR⟩ := id cx
  intro μ s0  h H locs ls hI hl
  unfold f_Pa_parses_56 at h
  refine lv_istore_n (lv' := [(2, .int s0), (0, .ref (G.2.2.1 20 0))]) hx hb dX1_parses_56 rfl hl (by decide) rfl (fun ls hl => ?_)
  refine lv_iload_n hx hb dX1_parses_57 rfl (lv_at hl 0 rfl) ?_
  refine lv_if_eq (tgt := 88) hx hb dX1_parses_58 (by decide) (fun c7 => ?_) (fun c7 => ?_)
  · have h := it_p h c7
    exact t_Pa_parses_88 N  cx hret μ h hI (lv_sub hl [] rfl)
  · have h := it_n h c7
    refine lv_aload_n hx hb dX1_parses_61 rfl (lv_at hl 1 rfl) ?_
    obtain ⟨q9, hq9, h⟩ := bi_el h
    refine zcVi (As := []) cx hI (c_Pa_isAtEnd N hq9) mt_yX1_isAtEnd mv_yX1_isAtEnd w_833 (by omega) (k1_0 rfl) (zv1 rfl) rfl hl.1 rfl (Nat.le_of_ble_eq_true rfl) dX1_parses_62 (fun H locs hI => ?_)
    refine lv_if_ne (tgt := 84) hx hb dX1_parses_65 (by decide) (fun c10 => ?_) (fun c10 => ?_)
    · have h := it_n h c10
      exact t_Pa_parses_84 N  cx hret q9.2 h hI (lv_sub hl [] rfl)
    · have h := it_p h c10
      refine lv_aload_n hx hb dX1_parses_68 rfl (lv_at hl 1 rfl) ?_
      refine lv_bipush (v := (nI 59)) hx hb dX1_parses_69 (by decide) ?_
      obtain ⟨q11, hq11, h⟩ := bi_el h
      refine zcVi (As := [.int (nI 59)]) cx hI (c_Pa_takesSign N hq11) mt_yX1_takesSign mv_yX1_takesSign w_820 (by omega) (k1_0 rfl) (zv1 rfl) rfl hl.1 rfl (Nat.le_of_ble_eq_true rfl) dX1_parses_71 (fun H locs hI => ?_)
      refine lv_if_eq (tgt := 88) hx hb dX1_parses_74 (by decide) (fun c12 => ?_) (fun c12 => ?_)
      · have h := it_p h c12
        exact t_Pa_parses_88 N  cx hret q11.2 h hI (lv_sub hl [] rfl)
      · have h := it_n h c12
        refine lv_aload_n hx hb dX1_parses_77 rfl (lv_at hl 1 rfl) ?_
        obtain ⟨q13, hq13, h⟩ := bi_el h
        refine zcVi (As := []) cx hI (c_Pa_takesPairs N hq13) mt_yX1_takesPairs mv_yX1_takesPairs w_837 (by omega) (k1_0 rfl) (zv1 rfl) rfl hl.1 rfl (Nat.le_of_ble_eq_true rfl) dX1_parses_78 (fun H locs hI => ?_)
        refine lv_if_eq (tgt := 88) hx hb dX1_parses_81 (by decide) (fun c14 => ?_) (fun c14 => ?_)
        · have h := it_p h c14
          exact t_Pa_parses_88 N  cx hret q13.2 h hI (lv_sub hl [] rfl)
        · have h := it_n h c14
          exact t_Pa_parses_84 N  cx hret q13.2 h hI (lv_sub hl [] rfl)
def f_Pa_parses_55 (N : Nat)  (μ : zM) : Option (Int32 × zM) :=
  f_Pa_parses_56 N μ (nI 0)
set_option maxHeartbeats 4000000 in
set_option maxRecDepth 100000 in
theorem t_Pa_parses_55 (N : Nat) {p : Program} {l : Launch} {e : Env} {s : State} {m : MethodId} {args : Array Value} {below : List Frame} {meth : Method} {c : Code} {Q : State → Prop} {G : zG}  {out : (Int32 × zM)} (cx : zCX p (zrm 6) s m args c RX1 cX1_parses 3 6 G) (hret : zRi p l e (zrm 6) s m args below meth c cX1_parses G .boolean Q out.1 out.2)   : ∀ (μ : zM), f_Pa_parses_55 N μ = some out → ∀ {H : Heap} {locs : List Loc} {ls : Array Slot}, zIW G s μ H locs → lv_has ls 3 [(0, .ref (G.2.2.1 20 0))] → W p l e (zrm 6) s m args below meth c H locs 0 0 Q (F0 m 55 ls []) := by
  obtain ⟨hx, hb, hml, hown, hts, hK, hR⟩ := id cx
  intro μ  h H locs ls hI hl
  unfold f_Pa_parses_55 at h
  refine lv_iconst (v := (nI 0)) hx hb dX1_parses_55 (by decide) ?_
  exact t_Pa_parses_56 N  cx hret μ (nI 0) h hI hl
def f_Pa_parses (N : Nat) (μ : zM) : Option (Int32 × zM) :=
  (f_St_takeFrom (μ 3) (μ 0)).bind (fun q1 => bnd (zset μ 3 q1) (fun μ2 => bnd (zset μ2 3 (zI (μ2 3) 0 3 (nI 0))) (fun μ3 => bnd (zset μ3 20 (zI (μ3 20) 0 2 (nI 0))) (fun μ4 => (f_Pa_takesRule N μ4).bind (fun q5 => (if q5.1 = nI 0 then f_Pa_parses_55 N q5.2 else (f_Pa_takesSpan N q5.2).bind (fun q15 => (if q15.1 = nI 0 then f_Pa_parses_55 N q15.2 else (f_Pa_takesSign N q15.2 (nI 58)).bind (fun q17 => (if q17.1 = nI 0 then f_Pa_parses_55 N q17.2 else (f_Pa_takesBooks N q17.2).bind (fun q19 => (if q19.1 = nI 0 then f_Pa_parses_55 N q19.2 else f_Pa_parses_56 N q19.2 (nI 1)))))))))))))
set_option maxHeartbeats 4000000 in
set_option maxRecDepth 100000 in
theorem c_Pa_parses (N : Nat) {l : Launch} {G : zG} {μ : zM}   {out : (Int32 × zM)} (h : f_Pa_parses N μ  = some out) : zMI l G yX1_parses cX1_parses 3 (some .boolean) 6 [.ref (G.2.2.1 20 0), .ref (G.2.2.1 0 0)] μ out.1 out.2 := by
  refine zMI.of (by decide) (Nat.le_of_ble_eq_true rfl) (fun p e s m args below meth c Q ls cx hI hl hret => ?_)
  obtain ⟨hx, hb, hml, hown, hts, hK, hR⟩ := id cx
  have hl : lv_has ls 3 [(0, .ref (G.2.2.1 20 0)), (1, .ref (G.2.2.1 0 0))] := hl
  unfold f_Pa_parses at h
  refine lv_aload_n hx hb dX1_parses_0 rfl (lv_at hl 0 rfl) ?_
  refine g1_1 cx hI rfl rfl w_67 dX1_parses_1 ?_
  refine lv_aload_n hx hb dX1_parses_4 rfl (lv_at hl 1 rfl) ?_
  obtain ⟨q1, hq1, h⟩ := bi_el h
  obtain ⟨μ2, eμ2⟩ : ∃ z : zM, z = zset μ 3 q1 := ⟨_, rfl⟩
  have h := bnd_el h eμ2
  refine zcVv (As := [.ref (G.2.2.1 0 0)]) cx hI (c_St_takeFrom rfl rfl rfl rfl (by decide) hq1 eμ2.symm) mt_yX6_takeFrom mv_yX6_takeFrom w_790 (by omega) (k6_0 rfl) (zv6 rfl) rfl hl.1 rfl (Nat.le_of_ble_eq_true rfl) dX1_parses_5 (fun H locs hI => ?_)
  refine lv_aload_n hx hb dX1_parses_8 rfl (lv_at hl 0 rfl) ?_
  refine g1_1 cx hI rfl rfl w_67 dX1_parses_9 ?_
  refine lv_iconst (v := (nI 0)) hx hb dX1_parses_12 (by decide) ?_
  obtain ⟨μ3, eμ3⟩ : ∃ z : zM, z = zset μ2 3 (zI (μ2 3) 0 3 (nI 0)) := ⟨_, rfl⟩
  have h := bnd_el h eμ3
  refine p6_3 cx hI rfl rfl w_788 eμ3.symm dX1_parses_13 (fun H locs hI => ?_)
  refine lv_aload_n hx hb dX1_parses_16 rfl (lv_at hl 0 rfl) ?_
  refine lv_iconst (v := (nI 0)) hx hb dX1_parses_17 (by decide) ?_
  obtain ⟨μ4, eμ4⟩ : ∃ z : zM, z = zset μ3 20 (zI (μ3 20) 0 2 (nI 0)) := ⟨_, rfl⟩
  have h := bnd_el h eμ4
  refine p1_2 cx hI rfl rfl w_789 eμ4.symm dX1_parses_18 (fun H locs hI => ?_)
  refine lv_aload_n hx hb dX1_parses_21 rfl (lv_at hl 0 rfl) ?_
  obtain ⟨q5, hq5, h⟩ := bi_el h
  refine zcVi (As := []) cx hI (c_Pa_takesRule N hq5) mt_yX1_takesRule mv_yX1_takesRule w_791 (by omega) (k1_0 rfl) (zv1 rfl) rfl hl.1 rfl (Nat.le_of_ble_eq_true rfl) dX1_parses_22 (fun H locs hI => ?_)
  refine lv_if_eq (tgt := 55) hx hb dX1_parses_25 (by decide) (fun c6 => ?_) (fun c6 => ?_)
  · have h := it_p h c6
    exact t_Pa_parses_55 N  cx hret q5.2 h hI (lv_sub hl [0] rfl)
  · have h := it_n h c6
    refine lv_aload_n hx hb dX1_parses_28 rfl (lv_at hl 0 rfl) ?_
    obtain ⟨q15, hq15, h⟩ := bi_el h
    refine zcVi (As := []) cx hI (c_Pa_takesSpan N hq15) mt_yX1_takesSpan mv_yX1_takesSpan w_811 (by omega) (k1_0 rfl) (zv1 rfl) rfl hl.1 rfl (Nat.le_of_ble_eq_true rfl) dX1_parses_29 (fun H locs hI => ?_)
    refine lv_if_eq (tgt := 55) hx hb dX1_parses_32 (by decide) (fun c16 => ?_) (fun c16 => ?_)
    · have h := it_p h c16
      exact t_Pa_parses_55 N  cx hret q15.2 h hI (lv_sub hl [0] rfl)
    · have h := it_n h c16
      refine lv_aload_n hx hb dX1_parses_35 rfl (lv_at hl 0 rfl) ?_
      refine lv_bipush (v := (nI 58)) hx hb dX1_parses_36 (by decide) ?_
      obtain ⟨q17, hq17, h⟩ := bi_el h
      refine zcVi (As := [.int (nI 58)]) cx hI (c_Pa_takesSign N hq17) mt_yX1_takesSign mv_yX1_takesSign w_820 (by omega) (k1_0 rfl) (zv1 rfl) rfl hl.1 rfl (Nat.le_of_ble_eq_true rfl) dX1_parses_38 (fun H locs hI => ?_)
      refine lv_if_eq (tgt := 55) hx hb dX1_parses_41 (by decide) (fun c18 => ?_) (fun c18 => ?_)
      · have h := it_p h c18
        exact t_Pa_parses_55 N  cx hret q17.2 h hI (lv_sub hl [0] rfl)
      · have h := it_n h c18
        refine lv_aload_n hx hb dX1_parses_44 rfl (lv_at hl 0 rfl) ?_
        obtain ⟨q19, hq19, h⟩ := bi_el h
        refine zcVi (As := []) cx hI (c_Pa_takesBooks N hq19) mt_yX1_takesBooks mv_yX1_takesBooks w_824 (by omega) (k1_0 rfl) (zv1 rfl) rfl hl.1 rfl (Nat.le_of_ble_eq_true rfl) dX1_parses_45 (fun H locs hI => ?_)
        refine lv_if_eq (tgt := 55) hx hb dX1_parses_48 (by decide) (fun c20 => ?_) (fun c20 => ?_)
        · have h := it_p h c20
          exact t_Pa_parses_55 N  cx hret q19.2 h hI (lv_sub hl [0] rfl)
        · have h := it_n h c20
          refine lv_iconst (v := (nI 1)) hx hb dX1_parses_51 (by decide) ?_
          refine lv_goto (tgt := 56) hx hb dX1_parses_52 (by decide) ?_
          exact t_Pa_parses_56 N  cx hret q19.2 (nI 1) h hI (lv_sub hl [0] rfl)
