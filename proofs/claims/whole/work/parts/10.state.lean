/-! pure functions and contracts: small statics, State -/
def f_J_bitCount (a0 : Int32) : Option Int32 :=
  bnd (a0 - (((a0.toUInt32 >>> ((nI 1).toUInt32 &&& Int32.toUInt32 31)).toInt32) &&& (nI 1431655765))) (fun v1 => bnd ((v1 &&& (nI 858993459)) + (((v1.toUInt32 >>> ((nI 2).toUInt32 &&& Int32.toUInt32 31)).toInt32) &&& (nI 858993459))) (fun v2 => bnd ((v2 + ((v2.toUInt32 >>> ((nI 4).toUInt32 &&& Int32.toUInt32 31)).toInt32)) &&& (nI 252645135)) (fun v3 => bnd (v3 + ((v3.toUInt32 >>> ((nI 8).toUInt32 &&& Int32.toUInt32 31)).toInt32)) (fun v4 => bnd (v4 + ((v4.toUInt32 >>> ((nI 16).toUInt32 &&& Int32.toUInt32 31)).toInt32)) (fun v5 => some (v5 &&& (nI 63)))))))
set_option maxHeartbeats 4000000 in
set_option maxRecDepth 100000 in
theorem c_J_bitCount {l : Launch} {G : zG} {μ : zM}  {a0 : Int32} {out : Int32} (h : f_J_bitCount a0 = some out) : zMI l G yJ6_bitCount_0f7a4 cJ6_bitCount_0f7a4 1 (some .int) 0 [.int a0] μ out μ := by
  refine zMI.of (by decide) (Nat.le_of_ble_eq_true rfl) (fun p e s m args below meth c Q ls cx hI hl hret => ?_)
  obtain ⟨hx, hb, hml, hown, hts, hK, hR⟩ := id cx
  have hl : lv_has ls 1 [(0, .int a0)] := hl
  unfold f_J_bitCount at h
  refine lv_iload_n hx hb dJ6_bitCount_0f7a4_0 rfl (lv_at hl 0 rfl) ?_
  refine lv_iload_n hx hb dJ6_bitCount_0f7a4_1 rfl (lv_at hl 0 rfl) ?_
  refine lv_iconst (v := (nI 1)) hx hb dJ6_bitCount_0f7a4_2 (by decide) ?_
  refine lv_iushr hx hb dJ6_bitCount_0f7a4_3 rfl ?_
  refine lv_ldcw (v := (nI 1431655765)) hx hb hown (hts _ w_405) dJ6_bitCount_0f7a4_4 ?_
  refine lv_iand hx hb dJ6_bitCount_0f7a4_7 ?_
  refine lv_isub hx hb dJ6_bitCount_0f7a4_8 ?_
  refine lv_topi (fun v1 ev1 => ?_)
  have h := bnd_el h ev1
  refine lv_istore_n (lv' := [(0, .int v1)]) hx hb dJ6_bitCount_0f7a4_9 rfl hl (by decide) rfl (fun ls hl => ?_)
  refine lv_iload_n hx hb dJ6_bitCount_0f7a4_10 rfl (lv_at hl 0 rfl) ?_
  refine lv_ldcw (v := (nI 858993459)) hx hb hown (hts _ w_406) dJ6_bitCount_0f7a4_11 ?_
  refine lv_iand hx hb dJ6_bitCount_0f7a4_14 ?_
  refine lv_iload_n hx hb dJ6_bitCount_0f7a4_15 rfl (lv_at hl 0 rfl) ?_
  refine lv_iconst (v := (nI 2)) hx hb dJ6_bitCount_0f7a4_16 (by decide) ?_
  refine lv_iushr hx hb dJ6_bitCount_0f7a4_17 rfl ?_
  refine lv_ldcw (v := (nI 858993459)) hx hb hown (hts _ w_406) dJ6_bitCount_0f7a4_18 ?_
  refine lv_iand hx hb dJ6_bitCount_0f7a4_21 ?_
  refine lv_iadd hx hb dJ6_bitCount_0f7a4_22 ?_
  refine lv_topi (fun v2 ev2 => ?_)
  have h := bnd_el h ev2
  refine lv_istore_n (lv' := [(0, .int v2)]) hx hb dJ6_bitCount_0f7a4_23 rfl hl (by decide) rfl (fun ls hl => ?_)
  refine lv_iload_n hx hb dJ6_bitCount_0f7a4_24 rfl (lv_at hl 0 rfl) ?_
  refine lv_iload_n hx hb dJ6_bitCount_0f7a4_25 rfl (lv_at hl 0 rfl) ?_
  refine lv_iconst (v := (nI 4)) hx hb dJ6_bitCount_0f7a4_26 (by decide) ?_
  refine lv_iushr hx hb dJ6_bitCount_0f7a4_27 rfl ?_
  refine lv_iadd hx hb dJ6_bitCount_0f7a4_28 ?_
  refine lv_ldcw (v := (nI 252645135)) hx hb hown (hts _ w_407) dJ6_bitCount_0f7a4_29 ?_
  refine lv_iand hx hb dJ6_bitCount_0f7a4_32 ?_
  refine lv_topi (fun v3 ev3 => ?_)
  have h := bnd_el h ev3
  refine lv_istore_n (lv' := [(0, .int v3)]) hx hb dJ6_bitCount_0f7a4_33 rfl hl (by decide) rfl (fun ls hl => ?_)
  refine lv_iload_n hx hb dJ6_bitCount_0f7a4_34 rfl (lv_at hl 0 rfl) ?_
  refine lv_iload_n hx hb dJ6_bitCount_0f7a4_35 rfl (lv_at hl 0 rfl) ?_
  refine lv_bipush (v := (nI 8)) hx hb dJ6_bitCount_0f7a4_36 (by decide) ?_
  refine lv_iushr hx hb dJ6_bitCount_0f7a4_38 rfl ?_
  refine lv_iadd hx hb dJ6_bitCount_0f7a4_39 ?_
  refine lv_topi (fun v4 ev4 => ?_)
  have h := bnd_el h ev4
  refine lv_istore_n (lv' := [(0, .int v4)]) hx hb dJ6_bitCount_0f7a4_40 rfl hl (by decide) rfl (fun ls hl => ?_)
  refine lv_iload_n hx hb dJ6_bitCount_0f7a4_41 rfl (lv_at hl 0 rfl) ?_
  refine lv_iload_n hx hb dJ6_bitCount_0f7a4_42 rfl (lv_at hl 0 rfl) ?_
  refine lv_bipush (v := (nI 16)) hx hb dJ6_bitCount_0f7a4_43 (by decide) ?_
  refine lv_iushr hx hb dJ6_bitCount_0f7a4_45 rfl ?_
  refine lv_iadd hx hb dJ6_bitCount_0f7a4_46 ?_
  refine lv_topi (fun v5 ev5 => ?_)
  have h := bnd_el h ev5
  refine lv_istore_n (lv' := [(0, .int v5)]) hx hb dJ6_bitCount_0f7a4_47 rfl hl (by decide) rfl (fun ls hl => ?_)
  refine lv_iload_n hx hb dJ6_bitCount_0f7a4_48 rfl (lv_at hl 0 rfl) ?_
  refine lv_bipush (v := (nI 63)) hx hb dJ6_bitCount_0f7a4_49 (by decide) ?_
  refine lv_iand hx hb dJ6_bitCount_0f7a4_51 ?_
  obtain rfl := Option.some.inj h
  exact hret _ _ _ _ dJ6_bitCount_0f7a4_52 rfl hI
def f_RS_hasBit_13  (s0 : Int32) : Option Int32 :=
  if (s0 = nI 0 ∨ s0 = nI 1) then some s0 else none
set_option maxHeartbeats 4000000 in
set_option maxRecDepth 100000 in
theorem t_RS_hasBit_13  {p : Program} {l : Launch} {e : Env} {s : State} {m : MethodId} {args : Array Value} {below : List Frame} {meth : Method} {c : Code} {Q : State → Prop} {G : zG} {μ : zM}  {out : Int32} (cx : zCX p (zrm 0) s m args c RX7 cX7_hasBit 2 0 G) (hret : zRi p l e (zrm 0) s m args below meth c cX7_hasBit G .boolean Q out μ)   : ∀ (s0 : Int32), f_RS_hasBit_13 s0 = some out → ∀ {H : Heap} {locs : List Loc} {ls : Array Slot}, zIW G s μ H locs → lv_has ls 2 [] → W p l e (zrm 0) s m args below meth c H locs 0 0 Q (F0 m 13 ls [.int s0]) := by
  obtain ⟨hx, hb, hml, hown, hts, hK, hR⟩ := id cx
  intro s0  h H locs ls hI hl
  unfold f_RS_hasBit_13 at h
  obtain ⟨g2, h⟩ := gd_el h
  obtain rfl := Option.some.inj h
  exact hret _ _ _ _ dX7_hasBit_13 (zbool g2) hI
def f_RS_hasBit (a0 : Int32) (a1 : Int32) : Option Int32 :=
  (if ((a0 >>> (a1 &&& 31)) &&& (nI 1)) = nI 0 then f_RS_hasBit_13 (nI 0) else f_RS_hasBit_13 (nI 1))
set_option maxHeartbeats 4000000 in
set_option maxRecDepth 100000 in
theorem c_RS_hasBit {l : Launch} {G : zG} {μ : zM}  {a0 : Int32} {a1 : Int32} {out : Int32} (h : f_RS_hasBit a0 a1 = some out) : zMI l G yX7_hasBit cX7_hasBit 2 (some .boolean) 0 [.int a0, .int a1] μ out μ := by
  refine zMI.of (by decide) (Nat.le_of_ble_eq_true rfl) (fun p e s m args below meth c Q ls cx hI hl hret => ?_)
  obtain ⟨hx, hb, hml, hown, hts, hK, hR⟩ := id cx
  have hl : lv_has ls 2 [(0, .int a0), (1, .int a1)] := hl
  unfold f_RS_hasBit at h
  refine lv_iload_n hx hb dX7_hasBit_0 rfl (lv_at hl 0 rfl) ?_
  refine lv_iload_n hx hb dX7_hasBit_1 rfl (lv_at hl 1 rfl) ?_
  refine lv_ishr hx hb dX7_hasBit_2 ?_
  refine lv_iconst (v := (nI 1)) hx hb dX7_hasBit_3 (by decide) ?_
  refine lv_iand hx hb dX7_hasBit_4 ?_
  refine lv_if_eq (tgt := 12) hx hb dX7_hasBit_5 (by decide) (fun c1 => ?_) (fun c1 => ?_)
  · have h := it_p h c1
    refine lv_iconst (v := (nI 0)) hx hb dX7_hasBit_12 (by decide) ?_
    exact t_RS_hasBit_13  cx hret (nI 0) h hI (lv_sub hl [] rfl)
  · have h := it_n h c1
    refine lv_iconst (v := (nI 1)) hx hb dX7_hasBit_8 (by decide) ?_
    refine lv_goto (tgt := 13) hx hb dX7_hasBit_9 (by decide) ?_
    exact t_RS_hasBit_13  cx hret (nI 1) h hI (lv_sub hl [] rfl)
def f_RS_power_4 (N : Nat)  : Nat → Int32 → Int32 → Int32 → Int32 → Option Int32
  | 0, _, _, _, _ => none
  | n + 1, x0, x1, x2, x3 => (if x1 ≤ x3 then some x2 else bnd (x2 * x0) (fun v2 => bnd (x3 + (nI 1)) (fun v3 => f_RS_power_4 N n x0 x1 v2 v3)))
set_option maxHeartbeats 4000000 in
set_option maxRecDepth 100000 in
theorem t_RS_power_4 (N : Nat) {p : Program} {l : Launch} {e : Env} {s : State} {m : MethodId} {args : Array Value} {below : List Frame} {meth : Method} {c : Code} {Q : State → Prop} {G : zG} {μ : zM}  {out : Int32} (cx : zCX p (zrm 0) s m args c RX7 cX7_power 4 0 G) (hret : zRi p l e (zrm 0) s m args below meth c cX7_power G .int Q out μ)   : ∀ (n : Nat) (x0 : Int32) (x1 : Int32) (x2 : Int32) (x3 : Int32), f_RS_power_4 N n x0 x1 x2 x3 = some out → ∀ {H : Heap} {locs : List Loc} {ls : Array Slot}, zIW G s μ H locs → lv_has ls 4 [(0, .int x0), (1, .int x1), (2, .int x2), (3, .int x3)] → W p l e (zrm 0) s m args below meth c H locs 0 0 Q (F0 m 4 ls []) := by
  obtain ⟨hx, hb, hml, hown, hts, hK, hR⟩ := id cx
  intro n
  induction n with
  | zero =>
    intro x0 x1 x2 x3  h
    cases h
  | succ n ih =>
    intro x0 x1 x2 x3  h H locs ls hI hl
    rw [f_RS_power_4] at h
    refine lv_iload_n hx hb dX7_power_4 rfl (lv_at hl 3 rfl) ?_
    refine lv_iload_n hx hb dX7_power_5 rfl (lv_at hl 1 rfl) ?_
    refine lv_icmp_ge (tgt := 19) hx hb dX7_power_6 (by decide) (fun c1 => ?_) (fun c1 => ?_)
    · have h := it_p h c1
      refine lv_iload_n hx hb dX7_power_19 rfl (lv_at hl 2 rfl) ?_
      obtain rfl := Option.some.inj h
      exact hret _ _ _ _ dX7_power_20 rfl hI
    · have h := it_n h c1
      refine lv_iload_n hx hb dX7_power_9 rfl (lv_at hl 2 rfl) ?_
      refine lv_iload_n hx hb dX7_power_10 rfl (lv_at hl 0 rfl) ?_
      refine lv_imul hx hb dX7_power_11 ?_
      refine lv_topi (fun v2 ev2 => ?_)
      have h := bnd_el h ev2
      refine lv_istore_n (lv' := [(2, .int v2), (0, .int x0), (1, .int x1), (3, .int x3)]) hx hb dX7_power_12 rfl hl (by decide) rfl (fun ls hl => ?_)
      obtain ⟨v3, ev3⟩ : ∃ z : Int32, z = x3 + (nI 1) := ⟨_, rfl⟩
      have h := bnd_el h ev3
      refine lv_iinc (v := v3) (lv' := [(3, .int v3), (2, .int v2), (0, .int x0), (1, .int x1)]) hx hb dX7_power_13 hl (k := 3) rfl (by rw [ev3]; rfl) (by decide) rfl (fun ls hl => ?_)
      refine lv_goto (tgt := 4) hx hb dX7_power_16 (by decide) ?_
      exact ih x0 x1 v2 v3 h hI (lv_sub hl [2, 3, 1, 0] rfl)
def f_RS_power (N : Nat) (a0 : Int32) (a1 : Int32) : Option Int32 :=
  f_RS_power_4 N N a0 a1 (nI 1) (nI 0)
set_option maxHeartbeats 4000000 in
set_option maxRecDepth 100000 in
theorem c_RS_power (N : Nat) {l : Launch} {G : zG} {μ : zM}  {a0 : Int32} {a1 : Int32} {out : Int32} (h : f_RS_power N a0 a1 = some out) : zMI l G yX7_power cX7_power 4 (some .int) 0 [.int a0, .int a1] μ out μ := by
  refine zMI.of (by decide) (Nat.le_of_ble_eq_true rfl) (fun p e s m args below meth c Q ls cx hI hl hret => ?_)
  obtain ⟨hx, hb, hml, hown, hts, hK, hR⟩ := id cx
  have hl : lv_has ls 4 [(0, .int a0), (1, .int a1)] := hl
  unfold f_RS_power at h
  refine lv_iconst (v := (nI 1)) hx hb dX7_power_0 (by decide) ?_
  refine lv_istore_n (lv' := [(2, .int (nI 1)), (0, .int a0), (1, .int a1)]) hx hb dX7_power_1 rfl hl (by decide) rfl (fun ls hl => ?_)
  refine lv_iconst (v := (nI 0)) hx hb dX7_power_2 (by decide) ?_
  refine lv_istore_n (lv' := [(3, .int (nI 0)), (2, .int (nI 1)), (0, .int a0), (1, .int a1)]) hx hb dX7_power_3 rfl hl (by decide) rfl (fun ls hl => ?_)
  exact t_RS_power_4 N  cx hret N a0 a1 (nI 1) (nI 0) h hI (lv_sub hl [2, 3, 1, 0] rfl)
def f_RS_greatestDivisor_34 (N : Nat)  (x2 : Int32) : Option Int32 :=
  some x2
set_option maxHeartbeats 4000000 in
set_option maxRecDepth 100000 in
theorem t_RS_greatestDivisor_34 (N : Nat) {p : Program} {l : Launch} {e : Env} {s : State} {m : MethodId} {args : Array Value} {below : List Frame} {meth : Method} {c : Code} {Q : State → Prop} {G : zG} {μ : zM}  {out : Int32} (cx : zCX p (zrm 0) s m args c RX7 cX7_greatestDivisor 6 0 G) (hret : zRi p l e (zrm 0) s m args below meth c cX7_greatestDivisor G .int Q out μ)   : ∀ (x2 : Int32), f_RS_greatestDivisor_34 N x2 = some out → ∀ {H : Heap} {locs : List Loc} {ls : Array Slot}, zIW G s μ H locs → lv_has ls 6 [(2, .int x2)] → W p l e (zrm 0) s m args below meth c H locs 0 0 Q (F0 m 34 ls []) := by
  obtain ⟨hx, hb, hml, hown, hts, hK, hR⟩ := id cx
  intro x2  h H locs ls hI hl
  unfold f_RS_greatestDivisor_34 at h
  refine lv_iload_n hx hb dX7_greatestDivisor_34 rfl (lv_at hl 0 rfl) ?_
  obtain rfl := Option.some.inj h
  exact hret _ _ _ _ dX7_greatestDivisor_35 rfl hI
def f_RS_greatestDivisor_7 (N : Nat)  : Nat → Int32 → Int32 → Int32 → Option Int32
  | 0, _, _, _ => none
  | n + 1, x2, x3, x4 => (if (nI 64) ≤ x4 then f_RS_greatestDivisor_34 N x2 else (if x3 = nI 0 then f_RS_greatestDivisor_34 N x2 else if ¬ x3 = nI 0 then bnd (x2 - x2 / x3 * x3) (fun v4 => bnd (x4 + (nI 1)) (fun v5 => f_RS_greatestDivisor_7 N n x3 v4 v5)) else none))
set_option maxHeartbeats 4000000 in
set_option maxRecDepth 100000 in
theorem t_RS_greatestDivisor_7 (N : Nat) {p : Program} {l : Launch} {e : Env} {s : State} {m : MethodId} {args : Array Value} {below : List Frame} {meth : Method} {c : Code} {Q : State → Prop} {G : zG} {μ : zM}  {out : Int32} (cx : zCX p (zrm 0) s m args c RX7 cX7_greatestDivisor 6 0 G) (hret : zRi p l e (zrm 0) s m args below meth c cX7_greatestDivisor G .int Q out μ)   : ∀ (n : Nat) (x2 : Int32) (x3 : Int32) (x4 : Int32), f_RS_greatestDivisor_7 N n x2 x3 x4 = some out → ∀ {H : Heap} {locs : List Loc} {ls : Array Slot}, zIW G s μ H locs → lv_has ls 6 [(2, .int x2), (3, .int x3), (4, .int x4)] → W p l e (zrm 0) s m args below meth c H locs 0 0 Q (F0 m 7 ls []) := by
  obtain ⟨hx, hb, hml, hown, hts, hK, hR⟩ := id cx
  intro n
  induction n with
  | zero =>
    intro x2 x3 x4  h
    cases h
  | succ n ih =>
    intro x2 x3 x4  h H locs ls hI hl
    rw [f_RS_greatestDivisor_7] at h
    refine lv_iload hx hb dX7_greatestDivisor_7 (lv_at hl 2 rfl) ?_
    refine lv_bipush (v := (nI 64)) hx hb dX7_greatestDivisor_9 (by decide) ?_
    refine lv_icmp_ge (tgt := 34) hx hb dX7_greatestDivisor_11 (by decide) (fun c1 => ?_) (fun c1 => ?_)
    · have h := it_p h c1
      exact t_RS_greatestDivisor_34 N  cx hret x2 h hI (lv_sub hl [0] rfl)
    · have h := it_n h c1
      refine lv_iload_n hx hb dX7_greatestDivisor_14 rfl (lv_at hl 1 rfl) ?_
      refine lv_if_eq (tgt := 34) hx hb dX7_greatestDivisor_15 (by decide) (fun c2 => ?_) (fun c2 => ?_)
      · have h := it_p h c2
        exact t_RS_greatestDivisor_34 N  cx hret x2 h hI (lv_sub hl [0] rfl)
      · have h := it_n h c2
        refine lv_iload_n hx hb dX7_greatestDivisor_18 rfl (lv_at hl 0 rfl) ?_
        refine lv_iload_n hx hb dX7_greatestDivisor_19 rfl (lv_at hl 1 rfl) ?_
        obtain ⟨g3, h⟩ := gd_el h
        refine lv_irem hx hb dX7_greatestDivisor_20 g3 ?_
        refine lv_topi (fun v4 ev4 => ?_)
        have h := bnd_el h ev4
        refine lv_istore (lv' := [(5, .int v4), (2, .int x2), (3, .int x3), (4, .int x4)]) hx hb dX7_greatestDivisor_21 hl (by decide) rfl (fun ls hl => ?_)
        refine lv_iload_n hx hb dX7_greatestDivisor_23 rfl (lv_at hl 2 rfl) ?_
        refine lv_istore_n (lv' := [(2, .int x3), (5, .int v4), (3, .int x3), (4, .int x4)]) hx hb dX7_greatestDivisor_24 rfl hl (by decide) rfl (fun ls hl => ?_)
        refine lv_iload hx hb dX7_greatestDivisor_25 (lv_at hl 1 rfl) ?_
        refine lv_istore_n (lv' := [(3, .int v4), (2, .int x3), (5, .int v4), (4, .int x4)]) hx hb dX7_greatestDivisor_27 rfl hl (by decide) rfl (fun ls hl => ?_)
        obtain ⟨v5, ev5⟩ : ∃ z : Int32, z = x4 + (nI 1) := ⟨_, rfl⟩
        have h := bnd_el h ev5
        refine lv_iinc (v := v5) (lv' := [(4, .int v5), (3, .int v4), (2, .int x3), (5, .int v4)]) hx hb dX7_greatestDivisor_28 hl (k := 3) rfl (by rw [ev5]; rfl) (by decide) rfl (fun ls hl => ?_)
        refine lv_goto (tgt := 7) hx hb dX7_greatestDivisor_31 (by decide) ?_
        exact ih x3 v4 v5 h hI (lv_sub hl [2, 1, 0] rfl)
def f_RS_greatestDivisor (N : Nat) (a0 : Int32) (a1 : Int32) : Option Int32 :=
  f_RS_greatestDivisor_7 N N a0 a1 (nI 0)
set_option maxHeartbeats 4000000 in
set_option maxRecDepth 100000 in
theorem c_RS_greatestDivisor (N : Nat) {l : Launch} {G : zG} {μ : zM}  {a0 : Int32} {a1 : Int32} {out : Int32} (h : f_RS_greatestDivisor N a0 a1 = some out) : zMI l G yX7_greatestDivisor cX7_greatestDivisor 6 (some .int) 0 [.int a0, .int a1] μ out μ := by
  refine zMI.of (by decide) (Nat.le_of_ble_eq_true rfl) (fun p e s m args below meth c Q ls cx hI hl hret => ?_)
  obtain ⟨hx, hb, hml, hown, hts, hK, hR⟩ := id cx
  have hl : lv_has ls 6 [(0, .int a0), (1, .int a1)] := hl
  unfold f_RS_greatestDivisor at h
  refine lv_iload_n hx hb dX7_greatestDivisor_0 rfl (lv_at hl 0 rfl) ?_
  refine lv_istore_n (lv' := [(2, .int a0), (0, .int a0), (1, .int a1)]) hx hb dX7_greatestDivisor_1 rfl hl (by decide) rfl (fun ls hl => ?_)
  refine lv_iload_n hx hb dX7_greatestDivisor_2 rfl (lv_at hl 2 rfl) ?_
  refine lv_istore_n (lv' := [(3, .int a1), (2, .int a0), (0, .int a0), (1, .int a1)]) hx hb dX7_greatestDivisor_3 rfl hl (by decide) rfl (fun ls hl => ?_)
  refine lv_iconst (v := (nI 0)) hx hb dX7_greatestDivisor_4 (by decide) ?_
  refine lv_istore (lv' := [(4, .int (nI 0)), (3, .int a1), (2, .int a0), (0, .int a0), (1, .int a1)]) hx hb dX7_greatestDivisor_5 hl (by decide) rfl (fun ls hl => ?_)
  exact t_RS_greatestDivisor_7 N  cx hret N a0 a1 (nI 0) h hI (lv_sub hl [2, 1, 0] rfl)
def f_RS_isSheet_14  (s0 : Int32) : Option Int32 :=
  if (s0 = nI 0 ∨ s0 = nI 1) then some s0 else none
set_option maxHeartbeats 4000000 in
set_option maxRecDepth 100000 in
theorem t_RS_isSheet_14  {p : Program} {l : Launch} {e : Env} {s : State} {m : MethodId} {args : Array Value} {below : List Frame} {meth : Method} {c : Code} {Q : State → Prop} {G : zG} {μ : zM}  {out : Int32} (cx : zCX p (zrm 0) s m args c RX7 cX7_isSheet 1 0 G) (hret : zRi p l e (zrm 0) s m args below meth c cX7_isSheet G .boolean Q out μ)   : ∀ (s0 : Int32), f_RS_isSheet_14 s0 = some out → ∀ {H : Heap} {locs : List Loc} {ls : Array Slot}, zIW G s μ H locs → lv_has ls 1 [] → W p l e (zrm 0) s m args below meth c H locs 0 0 Q (F0 m 14 ls [.int s0]) := by
  obtain ⟨hx, hb, hml, hown, hts, hK, hR⟩ := id cx
  intro s0  h H locs ls hI hl
  unfold f_RS_isSheet_14 at h
  obtain ⟨g2, h⟩ := gd_el h
  obtain rfl := Option.some.inj h
  exact hret _ _ _ _ dX7_isSheet_14 (zbool g2) hI
def f_RS_isSheet_13   : Option Int32 :=
  f_RS_isSheet_14 (nI 0)
set_option maxHeartbeats 4000000 in
set_option maxRecDepth 100000 in
theorem t_RS_isSheet_13  {p : Program} {l : Launch} {e : Env} {s : State} {m : MethodId} {args : Array Value} {below : List Frame} {meth : Method} {c : Code} {Q : State → Prop} {G : zG} {μ : zM}  {out : Int32} (cx : zCX p (zrm 0) s m args c RX7 cX7_isSheet 1 0 G) (hret : zRi p l e (zrm 0) s m args below meth c cX7_isSheet G .boolean Q out μ)   : f_RS_isSheet_13  = some out → ∀ {H : Heap} {locs : List Loc} {ls : Array Slot}, zIW G s μ H locs → lv_has ls 1 [] → W p l e (zrm 0) s m args below meth c H locs 0 0 Q (F0 m 13 ls []) := by
  obtain ⟨hx, hb, hml, hown, hts, hK, hR⟩ := id cx
  intro   h H locs ls hI hl
  unfold f_RS_isSheet_13 at h
  refine lv_iconst (v := (nI 0)) hx hb dX7_isSheet_13 (by decide) ?_
  exact t_RS_isSheet_14  cx hret (nI 0) h hI hl
def f_RS_isSheet (a0 : Int32) : Option Int32 :=
  (if a0 < nI 0 then f_RS_isSheet_13 else (if (nI 4) ≤ a0 then f_RS_isSheet_13 else f_RS_isSheet_14 (nI 1)))
set_option maxHeartbeats 4000000 in
set_option maxRecDepth 100000 in
theorem c_RS_isSheet {l : Launch} {G : zG} {μ : zM}  {a0 : Int32} {out : Int32} (h : f_RS_isSheet a0 = some out) : zMI l G yX7_isSheet cX7_isSheet 1 (some .boolean) 0 [.int a0] μ out μ := by
  refine zMI.of (by decide) (Nat.le_of_ble_eq_true rfl) (fun p e s m args below meth c Q ls cx hI hl hret => ?_)
  obtain ⟨hx, hb, hml, hown, hts, hK, hR⟩ := id cx
  have hl : lv_has ls 1 [(0, .int a0)] := hl
  unfold f_RS_isSheet at h
  refine lv_iload_n hx hb dX7_isSheet_0 rfl (lv_at hl 0 rfl) ?_
  refine lv_if_lt (tgt := 13) hx hb dX7_isSheet_1 (by decide) (fun c1 => ?_) (fun c1 => ?_)
  · have h := it_p h c1
    exact t_RS_isSheet_13  cx hret  h hI (lv_sub hl [] rfl)
  · have h := it_n h c1
    refine lv_iload_n hx hb dX7_isSheet_4 rfl (lv_at hl 0 rfl) ?_
    refine lv_iconst (v := (nI 4)) hx hb dX7_isSheet_5 (by decide) ?_
    refine lv_icmp_ge (tgt := 13) hx hb dX7_isSheet_6 (by decide) (fun c3 => ?_) (fun c3 => ?_)
    · have h := it_p h c3
      exact t_RS_isSheet_13  cx hret  h hI (lv_sub hl [] rfl)
    · have h := it_n h c3
      refine lv_iconst (v := (nI 1)) hx hb dX7_isSheet_9 (by decide) ?_
      refine lv_goto (tgt := 14) hx hb dX7_isSheet_10 (by decide) ?_
      exact t_RS_isSheet_14  cx hret (nI 1) h hI (lv_sub hl [] rfl)
def f_RS_isLane_14  (s0 : Int32) : Option Int32 :=
  if (s0 = nI 0 ∨ s0 = nI 1) then some s0 else none
set_option maxHeartbeats 4000000 in
set_option maxRecDepth 100000 in
theorem t_RS_isLane_14  {p : Program} {l : Launch} {e : Env} {s : State} {m : MethodId} {args : Array Value} {below : List Frame} {meth : Method} {c : Code} {Q : State → Prop} {G : zG} {μ : zM}  {out : Int32} (cx : zCX p (zrm 0) s m args c RX7 cX7_isLane 1 0 G) (hret : zRi p l e (zrm 0) s m args below meth c cX7_isLane G .boolean Q out μ)   : ∀ (s0 : Int32), f_RS_isLane_14 s0 = some out → ∀ {H : Heap} {locs : List Loc} {ls : Array Slot}, zIW G s μ H locs → lv_has ls 1 [] → W p l e (zrm 0) s m args below meth c H locs 0 0 Q (F0 m 14 ls [.int s0]) := by
  obtain ⟨hx, hb, hml, hown, hts, hK, hR⟩ := id cx
  intro s0  h H locs ls hI hl
  unfold f_RS_isLane_14 at h
  obtain ⟨g2, h⟩ := gd_el h
  obtain rfl := Option.some.inj h
  exact hret _ _ _ _ dX7_isLane_14 (zbool g2) hI
def f_RS_isLane_13   : Option Int32 :=
  f_RS_isLane_14 (nI 0)
set_option maxHeartbeats 4000000 in
set_option maxRecDepth 100000 in
theorem t_RS_isLane_13  {p : Program} {l : Launch} {e : Env} {s : State} {m : MethodId} {args : Array Value} {below : List Frame} {meth : Method} {c : Code} {Q : State → Prop} {G : zG} {μ : zM}  {out : Int32} (cx : zCX p (zrm 0) s m args c RX7 cX7_isLane 1 0 G) (hret : zRi p l e (zrm 0) s m args below meth c cX7_isLane G .boolean Q out μ)   : f_RS_isLane_13  = some out → ∀ {H : Heap} {locs : List Loc} {ls : Array Slot}, zIW G s μ H locs → lv_has ls 1 [] → W p l e (zrm 0) s m args below meth c H locs 0 0 Q (F0 m 13 ls []) := by
  obtain ⟨hx, hb, hml, hown, hts, hK, hR⟩ := id cx
  intro   h H locs ls hI hl
  unfold f_RS_isLane_13 at h
  refine lv_iconst (v := (nI 0)) hx hb dX7_isLane_13 (by decide) ?_
  exact t_RS_isLane_14  cx hret (nI 0) h hI hl
def f_RS_isLane (a0 : Int32) : Option Int32 :=
  (if a0 < nI 0 then f_RS_isLane_13 else (if (nI 4) ≤ a0 then f_RS_isLane_13 else f_RS_isLane_14 (nI 1)))
set_option maxHeartbeats 4000000 in
set_option maxRecDepth 100000 in
theorem c_RS_isLane {l : Launch} {G : zG} {μ : zM}  {a0 : Int32} {out : Int32} (h : f_RS_isLane a0 = some out) : zMI l G yX7_isLane cX7_isLane 1 (some .boolean) 0 [.int a0] μ out μ := by
  refine zMI.of (by decide) (Nat.le_of_ble_eq_true rfl) (fun p e s m args below meth c Q ls cx hI hl hret => ?_)
  obtain ⟨hx, hb, hml, hown, hts, hK, hR⟩ := id cx
  have hl : lv_has ls 1 [(0, .int a0)] := hl
  unfold f_RS_isLane at h
  refine lv_iload_n hx hb dX7_isLane_0 rfl (lv_at hl 0 rfl) ?_
  refine lv_if_lt (tgt := 13) hx hb dX7_isLane_1 (by decide) (fun c1 => ?_) (fun c1 => ?_)
  · have h := it_p h c1
    exact t_RS_isLane_13  cx hret  h hI (lv_sub hl [] rfl)
  · have h := it_n h c1
    refine lv_iload_n hx hb dX7_isLane_4 rfl (lv_at hl 0 rfl) ?_
    refine lv_iconst (v := (nI 4)) hx hb dX7_isLane_5 (by decide) ?_
    refine lv_icmp_ge (tgt := 13) hx hb dX7_isLane_6 (by decide) (fun c3 => ?_) (fun c3 => ?_)
    · have h := it_p h c3
      exact t_RS_isLane_13  cx hret  h hI (lv_sub hl [] rfl)
    · have h := it_n h c3
      refine lv_iconst (v := (nI 1)) hx hb dX7_isLane_9 (by decide) ?_
      refine lv_goto (tgt := 14) hx hb dX7_isLane_10 (by decide) ?_
      exact t_RS_isLane_14  cx hret (nI 1) h hI (lv_sub hl [] rfl)
def f_St_takeFrom (S : zOb) (S2 : zOb) : Option zOb :=
  bnd (zIr S 1 (va_cpy (S2.1 1) (S.1 1) 0 0 7)) (fun Z1 => bnd (zIr Z1 2 (va_cpy (S2.1 2) (Z1.1 2) 0 0 7)) (fun Z2 => bnd (zIr Z2 3 (va_cpy (S2.1 3) (Z2.1 3) 0 0 7)) (fun Z3 => bnd (zI Z3 0 3 (S2.1 0 3)) (fun Z4 => bnd (zI Z4 0 4 (S2.1 0 4)) (fun Z5 => bnd (zI Z5 0 5 (S2.1 0 5)) (fun Z6 => bnd (zI Z6 0 6 (S2.1 0 6)) (fun Z7 => bnd (zI Z7 0 7 (S2.1 0 7)) (fun Z8 => bnd (zI Z8 0 8 (S2.1 0 8)) (fun Z9 => some Z9)))))))))
set_option maxHeartbeats 4000000 in
set_option maxRecDepth 100000 in
theorem c_St_takeFrom {l : Launch} {G : zG} {μ : zM} {o : Nat} (hc : zc o = 6) {S : zOb} (hS : μ o = S) {o2 : Nat} {S2 : zOb} (hc2 : zc o2 = 6) (hS2 : μ o2 = S2) (hne2 : o2 ≠ o)  {out : zOb} (h : f_St_takeFrom S S2  = some out) {μ' : zM} (hμ : zset μ o out = μ') : zMV l G yX6_takeFrom cX6_takeFrom 2 none 1 [.ref (G.2.2.1 o 0), .ref (G.2.2.1 o2 0)] μ μ' := by
  subst hμ
  refine zMV.of (by decide) (Nat.le_of_ble_eq_true rfl) (fun p e s m args below meth c Q ls cx hI hl hret => ?_)
  obtain ⟨hx, hb, hml, hown, hts, hK, hR⟩ := id cx
  have hl : lv_has ls 2 [(0, .ref (G.2.2.1 o 0)), (1, .ref (G.2.2.1 o2 0))] := hl
  rw [← zset_idS hS] at hI
  unfold f_St_takeFrom at h
  refine lv_aload_n hx hb dX6_takeFrom_0 rfl (lv_at hl 1 rfl) ?_
  refine g6_0 cx hI hc2 ((zset_n _ _ hne2).trans hS2) w_48 dX6_takeFrom_1 ?_
  refine lv_iconst (v := (nI 0)) hx hb dX6_takeFrom_4 (by decide) ?_
  refine lv_aload_n hx hb dX6_takeFrom_5 rfl (lv_at hl 0 rfl) ?_
  refine g6_0 cx hI hc (zset_s _ _ _) w_48 dX6_takeFrom_6 ?_
  refine lv_iconst (v := (nI 0)) hx hb dX6_takeFrom_9 (by decide) ?_
  refine lv_bipush (v := (nI 7)) hx hb dX6_takeFrom_10 (by decide) ?_
  obtain ⟨Z1, eZ1⟩ : ∃ z : zOb, z = zIr S 1 (va_cpy (S2.1 1) (S.1 1) 0 0 7) := ⟨_, rfl⟩
  have h := bnd_el h eZ1
  refine zr_cpi cx hI hl.1 (k6_1 hc2) ((zset_n _ _ hne2).trans hS2) (z6_1 hc2) (k6_1 hc) (zset_s _ _ _) (z6_1 hc) w_135 (by omega) (by decide) (by decide) (by decide) (by decide) (by decide) (Nat.le_of_ble_eq_true rfl) (zss eZ1) dX6_takeFrom_12 (fun H locs hI => ?_)
  refine lv_aload_n hx hb dX6_takeFrom_15 rfl (lv_at hl 1 rfl) ?_
  refine g6_1 cx hI hc2 ((zset_n _ _ hne2).trans hS2) w_49 dX6_takeFrom_16 ?_
  refine lv_iconst (v := (nI 0)) hx hb dX6_takeFrom_19 (by decide) ?_
  refine lv_aload_n hx hb dX6_takeFrom_20 rfl (lv_at hl 0 rfl) ?_
  refine g6_1 cx hI hc (zset_s _ _ _) w_49 dX6_takeFrom_21 ?_
  refine lv_iconst (v := (nI 0)) hx hb dX6_takeFrom_24 (by decide) ?_
  refine lv_bipush (v := (nI 7)) hx hb dX6_takeFrom_25 (by decide) ?_
  obtain ⟨Z2, eZ2⟩ : ∃ z : zOb, z = zIr Z1 2 (va_cpy (S2.1 2) (Z1.1 2) 0 0 7) := ⟨_, rfl⟩
  have h := bnd_el h eZ2
  refine zr_cpi cx hI hl.1 (k6_2 hc2) ((zset_n _ _ hne2).trans hS2) (z6_2 hc2) (k6_2 hc) (zset_s _ _ _) (z6_2 hc) w_135 (by omega) (by decide) (by decide) (by decide) (by decide) (by decide) (Nat.le_of_ble_eq_true rfl) (zss eZ2) dX6_takeFrom_27 (fun H locs hI => ?_)
  refine lv_aload_n hx hb dX6_takeFrom_30 rfl (lv_at hl 1 rfl) ?_
  refine g6_2 cx hI hc2 ((zset_n _ _ hne2).trans hS2) w_50 dX6_takeFrom_31 ?_
  refine lv_iconst (v := (nI 0)) hx hb dX6_takeFrom_34 (by decide) ?_
  refine lv_aload_n hx hb dX6_takeFrom_35 rfl (lv_at hl 0 rfl) ?_
  refine g6_2 cx hI hc (zset_s _ _ _) w_50 dX6_takeFrom_36 ?_
  refine lv_iconst (v := (nI 0)) hx hb dX6_takeFrom_39 (by decide) ?_
  refine lv_bipush (v := (nI 7)) hx hb dX6_takeFrom_40 (by decide) ?_
  obtain ⟨Z3, eZ3⟩ : ∃ z : zOb, z = zIr Z2 3 (va_cpy (S2.1 3) (Z2.1 3) 0 0 7) := ⟨_, rfl⟩
  have h := bnd_el h eZ3
  refine zr_cpi cx hI hl.1 (k6_3 hc2) ((zset_n _ _ hne2).trans hS2) (z6_3 hc2) (k6_3 hc) (zset_s _ _ _) (z6_3 hc) w_135 (by omega) (by decide) (by decide) (by decide) (by decide) (by decide) (Nat.le_of_ble_eq_true rfl) (zss eZ3) dX6_takeFrom_42 (fun H locs hI => ?_)
  refine lv_aload_n hx hb dX6_takeFrom_45 rfl (lv_at hl 0 rfl) ?_
  refine lv_aload_n hx hb dX6_takeFrom_46 rfl (lv_at hl 1 rfl) ?_
  refine g6_3 cx hI hc2 ((zset_n _ _ hne2).trans hS2) w_139 dX6_takeFrom_47 ?_
  obtain ⟨Z4, eZ4⟩ : ∃ z : zOb, z = zI Z3 0 3 (S2.1 0 3) := ⟨_, rfl⟩
  have h := bnd_el h eZ4
  refine p6_3 cx hI hc (zset_s _ _ _) w_139 (zss eZ4) dX6_takeFrom_50 (fun H locs hI => ?_)
  refine lv_aload_n hx hb dX6_takeFrom_53 rfl (lv_at hl 0 rfl) ?_
  refine lv_aload_n hx hb dX6_takeFrom_54 rfl (lv_at hl 1 rfl) ?_
  refine g6_4 cx hI hc2 ((zset_n _ _ hne2).trans hS2) w_140 dX6_takeFrom_55 ?_
  obtain ⟨Z5, eZ5⟩ : ∃ z : zOb, z = zI Z4 0 4 (S2.1 0 4) := ⟨_, rfl⟩
  have h := bnd_el h eZ5
  refine p6_4 cx hI hc (zset_s _ _ _) w_140 (zss eZ5) dX6_takeFrom_58 (fun H locs hI => ?_)
  refine lv_aload_n hx hb dX6_takeFrom_61 rfl (lv_at hl 0 rfl) ?_
  refine lv_aload_n hx hb dX6_takeFrom_62 rfl (lv_at hl 1 rfl) ?_
  refine g6_5 cx hI hc2 ((zset_n _ _ hne2).trans hS2) w_51 dX6_takeFrom_63 ?_
  obtain ⟨Z6, eZ6⟩ : ∃ z : zOb, z = zI Z5 0 5 (S2.1 0 5) := ⟨_, rfl⟩
  have h := bnd_el h eZ6
  refine p6_5 cx hI hc (zset_s _ _ _) w_51 (zss eZ6) dX6_takeFrom_66 (fun H locs hI => ?_)
  refine lv_aload_n hx hb dX6_takeFrom_69 rfl (lv_at hl 0 rfl) ?_
  refine lv_aload_n hx hb dX6_takeFrom_70 rfl (lv_at hl 1 rfl) ?_
  refine g6_6 cx hI hc2 ((zset_n _ _ hne2).trans hS2) w_52 dX6_takeFrom_71 ?_
  obtain ⟨Z7, eZ7⟩ : ∃ z : zOb, z = zI Z6 0 6 (S2.1 0 6) := ⟨_, rfl⟩
  have h := bnd_el h eZ7
  refine p6_6 cx hI hc (zset_s _ _ _) w_52 (zss eZ7) dX6_takeFrom_74 (fun H locs hI => ?_)
  refine lv_aload_n hx hb dX6_takeFrom_77 rfl (lv_at hl 0 rfl) ?_
  refine lv_aload_n hx hb dX6_takeFrom_78 rfl (lv_at hl 1 rfl) ?_
  refine g6_7 cx hI hc2 ((zset_n _ _ hne2).trans hS2) w_53 dX6_takeFrom_79 ?_
  obtain ⟨Z8, eZ8⟩ : ∃ z : zOb, z = zI Z7 0 7 (S2.1 0 7) := ⟨_, rfl⟩
  have h := bnd_el h eZ8
  refine p6_7 cx hI hc (zset_s _ _ _) w_53 (zss eZ8) dX6_takeFrom_82 (fun H locs hI => ?_)
  refine lv_aload_n hx hb dX6_takeFrom_85 rfl (lv_at hl 0 rfl) ?_
  refine lv_aload_n hx hb dX6_takeFrom_86 rfl (lv_at hl 1 rfl) ?_
  refine g6_8 cx hI hc2 ((zset_n _ _ hne2).trans hS2) w_54 dX6_takeFrom_87 ?_
  obtain ⟨Z9, eZ9⟩ : ∃ z : zOb, z = zI Z8 0 8 (S2.1 0 8) := ⟨_, rfl⟩
  have h := bnd_el h eZ9
  refine p6_8 cx hI hc (zset_s _ _ _) w_54 (zss eZ9) dX6_takeFrom_90 (fun H locs hI => ?_)
  obtain rfl := Option.some.inj h
  exact hret _ _ _ _ dX6_takeFrom_93 hI
def f_St_goOn (S : zOb) : Option zOb :=
  bnd (zI S 0 8 ((((S.1 0 8) * (nI 1103515245)) + (nI 12345)) &&& (nI 2147483647))) (fun Z1 => some Z1)
set_option maxHeartbeats 4000000 in
set_option maxRecDepth 100000 in
theorem c_St_goOn {l : Launch} {G : zG} {μ : zM} {o : Nat} (hc : zc o = 6) {S : zOb} (hS : μ o = S)  {out : zOb} (h : f_St_goOn S  = some out) {μ' : zM} (hμ : zset μ o out = μ') : zMV l G yX6_goOn cX6_goOn 1 none 0 [.ref (G.2.2.1 o 0)] μ μ' := by
  subst hμ
  refine zMV.of (by decide) (Nat.le_of_ble_eq_true rfl) (fun p e s m args below meth c Q ls cx hI hl hret => ?_)
  obtain ⟨hx, hb, hml, hown, hts, hK, hR⟩ := id cx
  have hl : lv_has ls 1 [(0, .ref (G.2.2.1 o 0))] := hl
  rw [← zset_idS hS] at hI
  unfold f_St_goOn at h
  refine lv_aload_n hx hb dX6_goOn_0 rfl (lv_at hl 0 rfl) ?_
  refine lv_aload_n hx hb dX6_goOn_1 rfl (lv_at hl 0 rfl) ?_
  refine g6_8 cx hI hc (zset_s _ _ _) w_54 dX6_goOn_2 ?_
  refine lv_ldc (v := (nI 1103515245)) hx hb hown (hts _ w_910) dX6_goOn_5 ?_
  refine lv_imul hx hb dX6_goOn_7 ?_
  refine lv_sipush (v := (nI 12345)) hx hb dX6_goOn_8 (by decide) ?_
  refine lv_iadd hx hb dX6_goOn_11 ?_
  refine lv_ldc (v := (nI 2147483647)) hx hb hown (hts _ w_911) dX6_goOn_12 ?_
  refine lv_iand hx hb dX6_goOn_14 ?_
  obtain ⟨Z1, eZ1⟩ : ∃ z : zOb, z = zI S 0 8 ((((S.1 0 8) * (nI 1103515245)) + (nI 12345)) &&& (nI 2147483647)) := ⟨_, rfl⟩
  have h := bnd_el h eZ1
  refine p6_8 cx hI hc (zset_s _ _ _) w_54 (zss eZ1) dX6_goOn_15 (fun H locs hI => ?_)
  obtain rfl := Option.some.inj h
  exact hret _ _ _ _ dX6_goOn_18 hI
def f_St_isBook_17 (S : zOb)  (s0 : Int32) : Option Int32 :=
  if (s0 = nI 0 ∨ s0 = nI 1) then some s0 else none
set_option maxHeartbeats 4000000 in
set_option maxRecDepth 100000 in
theorem t_St_isBook_17  {p : Program} {l : Launch} {e : Env} {s : State} {m : MethodId} {args : Array Value} {below : List Frame} {meth : Method} {c : Code} {Q : State → Prop} {G : zG} {μ : zM} {o : Nat} (hc : zc o = 6) {S : zOb} (hS : μ o = S) {out : Int32} (cx : zCX p (zrm 0) s m args c RX6 cX6_isBook 2 0 G) (hret : zRi p l e (zrm 0) s m args below meth c cX6_isBook G .boolean Q out μ)   : ∀ (s0 : Int32), f_St_isBook_17 S s0 = some out → ∀ {H : Heap} {locs : List Loc} {ls : Array Slot}, zIW G s μ H locs → lv_has ls 2 [] → W p l e (zrm 0) s m args below meth c H locs 0 0 Q (F0 m 17 ls [.int s0]) := by
  obtain ⟨hx, hb, hml, hown, hts, hK, hR⟩ := id cx
  intro s0  h H locs ls hI hl
  unfold f_St_isBook_17 at h
  obtain ⟨g2, h⟩ := gd_el h
  obtain rfl := Option.some.inj h
  exact hret _ _ _ _ dX6_isBook_17 (zbool g2) hI
def f_St_isBook_16 (S : zOb)   : Option Int32 :=
  f_St_isBook_17 S (nI 0)
set_option maxHeartbeats 4000000 in
set_option maxRecDepth 100000 in
theorem t_St_isBook_16  {p : Program} {l : Launch} {e : Env} {s : State} {m : MethodId} {args : Array Value} {below : List Frame} {meth : Method} {c : Code} {Q : State → Prop} {G : zG} {μ : zM} {o : Nat} (hc : zc o = 6) {S : zOb} (hS : μ o = S) {out : Int32} (cx : zCX p (zrm 0) s m args c RX6 cX6_isBook 2 0 G) (hret : zRi p l e (zrm 0) s m args below meth c cX6_isBook G .boolean Q out μ)   : f_St_isBook_16 S  = some out → ∀ {H : Heap} {locs : List Loc} {ls : Array Slot}, zIW G s μ H locs → lv_has ls 2 [] → W p l e (zrm 0) s m args below meth c H locs 0 0 Q (F0 m 16 ls []) := by
  obtain ⟨hx, hb, hml, hown, hts, hK, hR⟩ := id cx
  intro   h H locs ls hI hl
  unfold f_St_isBook_16 at h
  refine lv_iconst (v := (nI 0)) hx hb dX6_isBook_16 (by decide) ?_
  exact t_St_isBook_17 hc hS cx hret (nI 0) h hI hl
def f_St_isBook (S : zOb) (a1 : Int32) : Option Int32 :=
  (if a1 < nI 0 then f_St_isBook_16 S else (if (S.1 0 3) ≤ a1 then f_St_isBook_16 S else f_St_isBook_17 S (nI 1)))
set_option maxHeartbeats 4000000 in
set_option maxRecDepth 100000 in
theorem c_St_isBook {l : Launch} {G : zG} {μ : zM} {o : Nat} (hc : zc o = 6) {S : zOb} (hS : μ o = S) {a1 : Int32} {out : Int32} (h : f_St_isBook S a1 = some out) : zMI l G yX6_isBook cX6_isBook 2 (some .boolean) 0 [.ref (G.2.2.1 o 0), .int a1] μ out μ := by
  refine zMI.of (by decide) (Nat.le_of_ble_eq_true rfl) (fun p e s m args below meth c Q ls cx hI hl hret => ?_)
  obtain ⟨hx, hb, hml, hown, hts, hK, hR⟩ := id cx
  have hl : lv_has ls 2 [(0, .ref (G.2.2.1 o 0)), (1, .int a1)] := hl
  unfold f_St_isBook at h
  refine lv_iload_n hx hb dX6_isBook_0 rfl (lv_at hl 1 rfl) ?_
  refine lv_if_lt (tgt := 16) hx hb dX6_isBook_1 (by decide) (fun c1 => ?_) (fun c1 => ?_)
  · have h := it_p h c1
    exact t_St_isBook_16 hc hS cx hret  h hI (lv_sub hl [] rfl)
  · have h := it_n h c1
    refine lv_iload_n hx hb dX6_isBook_4 rfl (lv_at hl 1 rfl) ?_
    refine lv_aload_n hx hb dX6_isBook_5 rfl (lv_at hl 0 rfl) ?_
    refine g6_3 cx hI hc hS w_139 dX6_isBook_6 ?_
    refine lv_icmp_ge (tgt := 16) hx hb dX6_isBook_9 (by decide) (fun c3 => ?_) (fun c3 => ?_)
    · have h := it_p h c3
      exact t_St_isBook_16 hc hS cx hret  h hI (lv_sub hl [] rfl)
    · have h := it_n h c3
      refine lv_iconst (v := (nI 1)) hx hb dX6_isBook_12 (by decide) ?_
      refine lv_goto (tgt := 17) hx hb dX6_isBook_13 (by decide) ?_
      exact t_St_isBook_17 hc hS cx hret (nI 1) h hI (lv_sub hl [] rfl)
def f_St_isSetOfBook_15  (s0 : Int32) : Option Int32 :=
  if (s0 = nI 0 ∨ s0 = nI 1) then some s0 else none
set_option maxHeartbeats 4000000 in
set_option maxRecDepth 100000 in
theorem t_St_isSetOfBook_15  {p : Program} {l : Launch} {e : Env} {s : State} {m : MethodId} {args : Array Value} {below : List Frame} {meth : Method} {c : Code} {Q : State → Prop} {G : zG} {μ : zM}  {out : Int32} (cx : zCX p (zrm 0) s m args c RX6 cX6_isSetOfBook 1 0 G) (hret : zRi p l e (zrm 0) s m args below meth c cX6_isSetOfBook G .boolean Q out μ)   : ∀ (s0 : Int32), f_St_isSetOfBook_15 s0 = some out → ∀ {H : Heap} {locs : List Loc} {ls : Array Slot}, zIW G s μ H locs → lv_has ls 1 [] → W p l e (zrm 0) s m args below meth c H locs 0 0 Q (F0 m 15 ls [.int s0]) := by
  obtain ⟨hx, hb, hml, hown, hts, hK, hR⟩ := id cx
  intro s0  h H locs ls hI hl
  unfold f_St_isSetOfBook_15 at h
  obtain ⟨g2, h⟩ := gd_el h
  obtain rfl := Option.some.inj h
  exact hret _ _ _ _ dX6_isSetOfBook_15 (zbool g2) hI
def f_St_isSetOfBook_14   : Option Int32 :=
  f_St_isSetOfBook_15 (nI 0)
set_option maxHeartbeats 4000000 in
set_option maxRecDepth 100000 in
theorem t_St_isSetOfBook_14  {p : Program} {l : Launch} {e : Env} {s : State} {m : MethodId} {args : Array Value} {below : List Frame} {meth : Method} {c : Code} {Q : State → Prop} {G : zG} {μ : zM}  {out : Int32} (cx : zCX p (zrm 0) s m args c RX6 cX6_isSetOfBook 1 0 G) (hret : zRi p l e (zrm 0) s m args below meth c cX6_isSetOfBook G .boolean Q out μ)   : f_St_isSetOfBook_14  = some out → ∀ {H : Heap} {locs : List Loc} {ls : Array Slot}, zIW G s μ H locs → lv_has ls 1 [] → W p l e (zrm 0) s m args below meth c H locs 0 0 Q (F0 m 14 ls []) := by
  obtain ⟨hx, hb, hml, hown, hts, hK, hR⟩ := id cx
  intro   h H locs ls hI hl
  unfold f_St_isSetOfBook_14 at h
  refine lv_iconst (v := (nI 0)) hx hb dX6_isSetOfBook_14 (by decide) ?_
  exact t_St_isSetOfBook_15  cx hret (nI 0) h hI hl
def f_St_isSetOfBook (a0 : Int32) : Option Int32 :=
  (if a0 ≤ nI 0 then f_St_isSetOfBook_14 else (if (nI 1048575) < a0 then f_St_isSetOfBook_14 else f_St_isSetOfBook_15 (nI 1)))
set_option maxHeartbeats 4000000 in
set_option maxRecDepth 100000 in
theorem c_St_isSetOfBook {l : Launch} {G : zG} {μ : zM}  {a0 : Int32} {out : Int32} (h : f_St_isSetOfBook a0 = some out) : zMI l G yX6_isSetOfBook cX6_isSetOfBook 1 (some .boolean) 0 [.int a0] μ out μ := by
  refine zMI.of (by decide) (Nat.le_of_ble_eq_true rfl) (fun p e s m args below meth c Q ls cx hI hl hret => ?_)
  obtain ⟨hx, hb, hml, hown, hts, hK, hR⟩ := id cx
  have hl : lv_has ls 1 [(0, .int a0)] := hl
  unfold f_St_isSetOfBook at h
  refine lv_iload_n hx hb dX6_isSetOfBook_0 rfl (lv_at hl 0 rfl) ?_
  refine lv_if_le (tgt := 14) hx hb dX6_isSetOfBook_1 (by decide) (fun c1 => ?_) (fun c1 => ?_)
  · have h := it_p h c1
    exact t_St_isSetOfBook_14  cx hret  h hI (lv_sub hl [] rfl)
  · have h := it_n h c1
    refine lv_iload_n hx hb dX6_isSetOfBook_4 rfl (lv_at hl 0 rfl) ?_
    refine lv_ldc (v := (nI 1048575)) hx hb hown (hts _ w_148) dX6_isSetOfBook_5 ?_
    refine lv_icmp_gt (tgt := 14) hx hb dX6_isSetOfBook_7 (by decide) (fun c3 => ?_) (fun c3 => ?_)
    · have h := it_p h c3
      exact t_St_isSetOfBook_14  cx hret  h hI (lv_sub hl [] rfl)
    · have h := it_n h c3
      refine lv_iconst (v := (nI 1)) hx hb dX6_isSetOfBook_10 (by decide) ?_
      refine lv_goto (tgt := 15) hx hb dX6_isSetOfBook_11 (by decide) ?_
      exact t_St_isSetOfBook_15  cx hret (nI 1) h hI (lv_sub hl [] rfl)
def f_St_addBook (S : zOb) (a1 : Int32) : Option (Int32 × zOb) :=
  (f_St_isSetOfBook a1).bind (fun q1 => (if q1 = nI 0 then some ((-1 : Int32), S) else (if (S.1 0 3) < (nI 7) then if zin (S.1 0 3) 7 then bnd (zI S 1 ((S.1 0 3).toNatClampNeg) a1) (fun Z5 => if zin (Z5.1 0 3) 7 then bnd (zI Z5 2 ((Z5.1 0 3).toNatClampNeg) (nI 0)) (fun Z7 => if zin (Z7.1 0 3) 7 then bnd (zI Z7 3 ((Z7.1 0 3).toNatClampNeg) (Z7.1 0 3)) (fun Z9 => bnd (zI Z9 0 3 ((Z9.1 0 3) + (nI 1))) (fun Z10 => some ((Z10.1 0 3) - (nI 1), Z10))) else none) else none) else none else some ((-3 : Int32), S))))
set_option maxHeartbeats 4000000 in
set_option maxRecDepth 100000 in
theorem c_St_addBook {l : Launch} {G : zG} {μ : zM} {o : Nat} (hc : zc o = 6) {S : zOb} (hS : μ o = S) {a1 : Int32} {out : (Int32 × zOb)} (h : f_St_addBook S a1 = some out) {μ' : zM} (hμ : zset μ o out.2 = μ') : zMI l G yX6_addBook cX6_addBook 2 (some .int) 1 [.ref (G.2.2.1 o 0), .int a1] μ out.1 μ' := by
  subst hμ
  refine zMI.of (by decide) (Nat.le_of_ble_eq_true rfl) (fun p e s m args below meth c Q ls cx hI hl hret => ?_)
  obtain ⟨hx, hb, hml, hown, hts, hK, hR⟩ := id cx
  have hl : lv_has ls 2 [(0, .ref (G.2.2.1 o 0)), (1, .int a1)] := hl
  rw [← zset_idS hS] at hI
  unfold f_St_addBook at h
  refine lv_iload_n hx hb dX6_addBook_0 rfl (lv_at hl 1 rfl) ?_
  obtain ⟨q1, hq1, h⟩ := bi_el h
  refine zcSi (As := [.int a1]) cx hI (c_St_isSetOfBook  hq1) mt_yX6_isSetOfBook ms_yX6_isSetOfBook w_145 (by omega) rfl hl.1 rfl (Nat.le_of_ble_eq_true rfl) dX6_addBook_1 (fun H locs hI => ?_)
  refine lv_if_ne (tgt := 9) hx hb dX6_addBook_4 (by decide) (fun c2 => ?_) (fun c2 => ?_)
  · have h := it_n h c2
    refine lv_aload_n hx hb dX6_addBook_9 rfl (lv_at hl 0 rfl) ?_
    refine g6_3 cx hI hc (zset_s _ _ _) w_139 dX6_addBook_10 ?_
    refine lv_bipush (v := (nI 7)) hx hb dX6_addBook_13 (by decide) ?_
    refine lv_icmp_lt (tgt := 21) hx hb dX6_addBook_15 (by decide) (fun c3 => ?_) (fun c3 => ?_)
    · have h := it_p h c3
      refine lv_aload_n hx hb dX6_addBook_21 rfl (lv_at hl 0 rfl) ?_
      refine g6_0 cx hI hc (zset_s _ _ _) w_48 dX6_addBook_22 ?_
      refine lv_aload_n hx hb dX6_addBook_25 rfl (lv_at hl 0 rfl) ?_
      refine g6_3 cx hI hc (zset_s _ _ _) w_139 dX6_addBook_26 ?_
      refine lv_iload_n hx hb dX6_addBook_29 rfl (lv_at hl 1 rfl) ?_
      obtain ⟨g4, h⟩ := gd_el h
      obtain ⟨Z5, eZ5⟩ : ∃ z : zOb, z = zI S 1 ((S.1 0 3).toNatClampNeg) a1 := ⟨_, rfl⟩
      have h := bnd_el h eZ5
      refine zr_iast cx hI (k6_1 hc) (zset_s _ _ _) (z6_1 hc) rfl g4 (zss eZ5) dX6_addBook_30 (fun H locs hI => ?_)
      refine lv_aload_n hx hb dX6_addBook_31 rfl (lv_at hl 0 rfl) ?_
      refine g6_1 cx hI hc (zset_s _ _ _) w_49 dX6_addBook_32 ?_
      refine lv_aload_n hx hb dX6_addBook_35 rfl (lv_at hl 0 rfl) ?_
      refine g6_3 cx hI hc (zset_s _ _ _) w_139 dX6_addBook_36 ?_
      refine lv_iconst (v := (nI 0)) hx hb dX6_addBook_39 (by decide) ?_
      obtain ⟨g6, h⟩ := gd_el h
      obtain ⟨Z7, eZ7⟩ : ∃ z : zOb, z = zI Z5 2 ((Z5.1 0 3).toNatClampNeg) (nI 0) := ⟨_, rfl⟩
      have h := bnd_el h eZ7
      refine zr_iast cx hI (k6_2 hc) (zset_s _ _ _) (z6_2 hc) rfl g6 (zss eZ7) dX6_addBook_40 (fun H locs hI => ?_)
      refine lv_aload_n hx hb dX6_addBook_41 rfl (lv_at hl 0 rfl) ?_
      refine g6_2 cx hI hc (zset_s _ _ _) w_50 dX6_addBook_42 ?_
      refine lv_aload_n hx hb dX6_addBook_45 rfl (lv_at hl 0 rfl) ?_
      refine g6_3 cx hI hc (zset_s _ _ _) w_139 dX6_addBook_46 ?_
      refine lv_aload_n hx hb dX6_addBook_49 rfl (lv_at hl 0 rfl) ?_
      refine g6_3 cx hI hc (zset_s _ _ _) w_139 dX6_addBook_50 ?_
      obtain ⟨g8, h⟩ := gd_el h
      obtain ⟨Z9, eZ9⟩ : ∃ z : zOb, z = zI Z7 3 ((Z7.1 0 3).toNatClampNeg) (Z7.1 0 3) := ⟨_, rfl⟩
      have h := bnd_el h eZ9
      refine zr_iast cx hI (k6_3 hc) (zset_s _ _ _) (z6_3 hc) rfl g8 (zss eZ9) dX6_addBook_53 (fun H locs hI => ?_)
      refine lv_aload_n hx hb dX6_addBook_54 rfl (lv_at hl 0 rfl) ?_
      refine lv_dup hx hb dX6_addBook_55 rfl ?_
      refine g6_3 cx hI hc (zset_s _ _ _) w_139 dX6_addBook_56 ?_
      refine lv_iconst (v := (nI 1)) hx hb dX6_addBook_59 (by decide) ?_
      refine lv_iadd hx hb dX6_addBook_60 ?_
      obtain ⟨Z10, eZ10⟩ : ∃ z : zOb, z = zI Z9 0 3 ((Z9.1 0 3) + (nI 1)) := ⟨_, rfl⟩
      have h := bnd_el h eZ10
      refine p6_3 cx hI hc (zset_s _ _ _) w_139 (zss eZ10) dX6_addBook_61 (fun H locs hI => ?_)
      refine lv_aload_n hx hb dX6_addBook_64 rfl (lv_at hl 0 rfl) ?_
      refine g6_3 cx hI hc (zset_s _ _ _) w_139 dX6_addBook_65 ?_
      refine lv_iconst (v := (nI 1)) hx hb dX6_addBook_68 (by decide) ?_
      refine lv_isub hx hb dX6_addBook_69 ?_
      obtain rfl := Option.some.inj h
      exact hret _ _ _ _ dX6_addBook_70 rfl hI
    · have h := it_n h c3
      refine lv_bipush (v := (-3 : Int32)) hx hb dX6_addBook_18 (by decide) ?_
      obtain rfl := Option.some.inj h
      exact hret _ _ _ _ dX6_addBook_20 rfl hI
  · have h := it_p h c2
    refine lv_iconst (v := (-1 : Int32)) hx hb dX6_addBook_7 (by decide) ?_
    obtain rfl := Option.some.inj h
    exact hret _ _ _ _ dX6_addBook_8 rfl hI
def f_St_changeWords_15  (S : zOb) : Option (Int32 × zOb) :=
  some ((-1 : Int32), S)
set_option maxHeartbeats 4000000 in
set_option maxRecDepth 100000 in
theorem t_St_changeWords_15  {p : Program} {l : Launch} {e : Env} {s : State} {m : MethodId} {args : Array Value} {below : List Frame} {meth : Method} {c : Code} {Q : State → Prop} {G : zG} {μ : zM} {o : Nat} (hc : zc o = 6) {out : (Int32 × zOb)} (cx : zCX p (zrm 1) s m args c RX6 cX6_changeWords 4 1 G) (hret : zRi p l e (zrm 1) s m args below meth c cX6_changeWords G .int Q out.1 (zset μ o out.2))   : ∀ (S : zOb), f_St_changeWords_15 S = some out → ∀ {H : Heap} {locs : List Loc} {ls : Array Slot}, zIW G s (zset μ o S) H locs → lv_has ls 4 [] → W p l e (zrm 1) s m args below meth c H locs 0 0 Q (F0 m 15 ls []) := by
  obtain ⟨hx, hb, hml, hown, hts, hK, hR⟩ := id cx
  intro S  h H locs ls hI hl
  unfold f_St_changeWords_15 at h
  refine lv_iconst (v := (-1 : Int32)) hx hb dX6_changeWords_15 (by decide) ?_
  obtain rfl := Option.some.inj h
  exact hret _ _ _ _ dX6_changeWords_16 rfl hI
def f_St_changeWords (S : zOb) (a1 : Int32) (a2 : Int32) : Option (Int32 × zOb) :=
  (f_St_isBook S a1).bind (fun q1 => (if q1 = nI 0 then f_St_changeWords_15 S else (f_St_isSetOfBook a2).bind (fun q3 => (if q3 = nI 0 then f_St_changeWords_15 S else if zin a1 7 then bnd (S.1 1 a1.toNatClampNeg) (fun v6 => (if v6 = a2 then some ((-2 : Int32), S) else if zin a1 7 then bnd (zI S 1 a1.toNatClampNeg a2) (fun Z9 => some (v6, Z9)) else none)) else none))))
set_option maxHeartbeats 4000000 in
set_option maxRecDepth 100000 in
theorem c_St_changeWords {l : Launch} {G : zG} {μ : zM} {o : Nat} (hc : zc o = 6) {S : zOb} (hS : μ o = S) {a1 : Int32} {a2 : Int32} {out : (Int32 × zOb)} (h : f_St_changeWords S a1 a2 = some out) {μ' : zM} (hμ : zset μ o out.2 = μ') : zMI l G yX6_changeWords cX6_changeWords 4 (some .int) 1 [.ref (G.2.2.1 o 0), .int a1, .int a2] μ out.1 μ' := by
  subst hμ
  refine zMI.of (by decide) (Nat.le_of_ble_eq_true rfl) (fun p e s m args below meth c Q ls cx hI hl hret => ?_)
  obtain ⟨hx, hb, hml, hown, hts, hK, hR⟩ := id cx
  have hl : lv_has ls 4 [(0, .ref (G.2.2.1 o 0)), (1, .int a1), (2, .int a2)] := hl
  rw [← zset_idS hS] at hI
  unfold f_St_changeWords at h
  refine lv_aload_n hx hb dX6_changeWords_0 rfl (lv_at hl 0 rfl) ?_
  refine lv_iload_n hx hb dX6_changeWords_1 rfl (lv_at hl 1 rfl) ?_
  obtain ⟨q1, hq1, h⟩ := bi_el h
  refine zcVi (As := [.int a1]) cx hI (c_St_isBook hc (zset_s _ _ _) hq1) mt_yX6_isBook mv_yX6_isBook w_199 (by omega) (k6_0 hc) (zv6 hc) rfl hl.1 rfl (Nat.le_of_ble_eq_true rfl) dX6_changeWords_2 (fun H locs hI => ?_)
  refine lv_if_eq (tgt := 15) hx hb dX6_changeWords_5 (by decide) (fun c2 => ?_) (fun c2 => ?_)
  · have h := it_p h c2
    exact t_St_changeWords_15 hc cx hret S h hI (lv_sub hl [] rfl)
  · have h := it_n h c2
    refine lv_iload_n hx hb dX6_changeWords_8 rfl (lv_at hl 2 rfl) ?_
    obtain ⟨q3, hq3, h⟩ := bi_el h
    refine zcSi (As := [.int a2]) cx hI (c_St_isSetOfBook  hq3) mt_yX6_isSetOfBook ms_yX6_isSetOfBook w_145 (by omega) rfl hl.1 rfl (Nat.le_of_ble_eq_true rfl) dX6_changeWords_9 (fun H locs hI => ?_)
    refine lv_if_ne (tgt := 17) hx hb dX6_changeWords_12 (by decide) (fun c4 => ?_) (fun c4 => ?_)
    · have h := it_n h c4
      refine lv_aload_n hx hb dX6_changeWords_17 rfl (lv_at hl 0 rfl) ?_
      refine g6_0 cx hI hc (zset_s _ _ _) w_48 dX6_changeWords_18 ?_
      refine lv_iload_n hx hb dX6_changeWords_21 rfl (lv_at hl 1 rfl) ?_
      obtain ⟨g5, h⟩ := gd_el h
      refine zr_iald cx hI (k6_1 hc) (zset_s _ _ _) (z6_1 hc) rfl g5 dX6_changeWords_22 ?_
      refine lv_topi (fun v6 ev6 => ?_)
      have h := bnd_el h ev6
      refine lv_istore_n (lv' := [(3, .int v6), (0, .ref (G.2.2.1 o 0)), (1, .int a1), (2, .int a2)]) hx hb dX6_changeWords_23 rfl hl (by decide) rfl (fun ls hl => ?_)
      refine lv_iload_n hx hb dX6_changeWords_24 rfl (lv_at hl 0 rfl) ?_
      refine lv_iload_n hx hb dX6_changeWords_25 rfl (lv_at hl 3 rfl) ?_
      refine lv_icmp_ne (tgt := 32) hx hb dX6_changeWords_26 (by decide) (fun c7 => ?_) (fun c7 => ?_)
      · have h := it_n h c7
        refine lv_aload_n hx hb dX6_changeWords_32 rfl (lv_at hl 1 rfl) ?_
        refine g6_0 cx hI hc (zset_s _ _ _) w_48 dX6_changeWords_33 ?_
        refine lv_iload_n hx hb dX6_changeWords_36 rfl (lv_at hl 2 rfl) ?_
        refine lv_iload_n hx hb dX6_changeWords_37 rfl (lv_at hl 3 rfl) ?_
        obtain ⟨g8, h⟩ := gd_el h
        obtain ⟨Z9, eZ9⟩ : ∃ z : zOb, z = zI S 1 a1.toNatClampNeg a2 := ⟨_, rfl⟩
        have h := bnd_el h eZ9
        refine zr_iast cx hI (k6_1 hc) (zset_s _ _ _) (z6_1 hc) rfl g8 (zss eZ9) dX6_changeWords_38 (fun H locs hI => ?_)
        refine lv_iload_n hx hb dX6_changeWords_39 rfl (lv_at hl 0 rfl) ?_
        obtain rfl := Option.some.inj h
        exact hret _ _ _ _ dX6_changeWords_40 rfl hI
      · have h := it_p h c7
        refine lv_bipush (v := (-2 : Int32)) hx hb dX6_changeWords_29 (by decide) ?_
        obtain rfl := Option.some.inj h
        exact hret _ _ _ _ dX6_changeWords_31 rfl hI
    · have h := it_p h c4
      exact t_St_changeWords_15 hc cx hret S h hI (lv_sub hl [] rfl)
def f_St_closeGap_6 (N : Nat) (j : Nat)  : Nat → zOb → Int32 → Option zOb
  | 0, _, _ => none
  | n + 1, S, x3 => (if (S.1 0 3) ≤ (x3 + (nI 1)) then some S else if zin (x3 + (nI 1)) 7 then if zin x3 7 then bnd (zI S j x3.toNatClampNeg (S.1 j ((x3 + (nI 1)).toNatClampNeg))) (fun Z5 => bnd (x3 + (nI 1)) (fun v6 => f_St_closeGap_6 N j n Z5 v6)) else none else none)
set_option maxHeartbeats 4000000 in
set_option maxRecDepth 100000 in
theorem t_St_closeGap_6 (N : Nat) {p : Program} {l : Launch} {e : Env} {s : State} {m : MethodId} {args : Array Value} {below : List Frame} {meth : Method} {c : Code} {Q : State → Prop} {G : zG} {μ : zM} {o : Nat} (hc : zc o = 6) {j : Nat} (hj : 0 < j ∧ j < 4) {out : zOb} (cx : zCX p (zrm 1) s m args c RX6 cX6_closeGap 4 1 G) (hret : zRv p l e (zrm 1) s m args below meth c cX6_closeGap G Q (zset μ o out))   : ∀ (n : Nat) (S : zOb) (x3 : Int32), f_St_closeGap_6 N j n S x3 = some out → ∀ {H : Heap} {locs : List Loc} {ls : Array Slot}, zIW G s (zset μ o S) H locs → lv_has ls 4 [(0, .ref (G.2.2.1 o 0)), (1, .ref (G.2.2.1 o j)), (3, .int x3)] → W p l e (zrm 1) s m args below meth c H locs 0 0 Q (F0 m 6 ls []) := by
  obtain ⟨hx, hb, hml, hown, hts, hK, hR⟩ := id cx
  intro n
  induction n with
  | zero =>
    intro S x3  h
    cases h
  | succ n ih =>
    intro S x3  h H locs ls hI hl
    rw [f_St_closeGap_6] at h
    refine lv_iload_n hx hb dX6_closeGap_6 rfl (lv_at hl 2 rfl) ?_
    refine lv_iconst (v := (nI 1)) hx hb dX6_closeGap_7 (by decide) ?_
    refine lv_iadd hx hb dX6_closeGap_8 ?_
    refine lv_aload_n hx hb dX6_closeGap_9 rfl (lv_at hl 0 rfl) ?_
    refine g6_3 cx hI hc (zset_s _ _ _) w_139 dX6_closeGap_10 ?_
    refine lv_icmp_ge (tgt := 30) hx hb dX6_closeGap_13 (by decide) (fun c2 => ?_) (fun c2 => ?_)
    · have h := it_p h c2
      obtain rfl := Option.some.inj h
      exact hret _ _ _ _ dX6_closeGap_30 hI
    · have h := it_n h c2
      refine lv_aload_n hx hb dX6_closeGap_16 rfl (lv_at hl 1 rfl) ?_
      refine lv_iload_n hx hb dX6_closeGap_17 rfl (lv_at hl 2 rfl) ?_
      refine lv_aload_n hx hb dX6_closeGap_18 rfl (lv_at hl 1 rfl) ?_
      refine lv_iload_n hx hb dX6_closeGap_19 rfl (lv_at hl 2 rfl) ?_
      refine lv_iconst (v := (nI 1)) hx hb dX6_closeGap_20 (by decide) ?_
      refine lv_iadd hx hb dX6_closeGap_21 ?_
      obtain ⟨g3, h⟩ := gd_el h
      refine zr_iald cx hI (k6_r hc hj) (zset_s _ _ _) (z6_r hc hj) rfl g3 dX6_closeGap_22 ?_
      obtain ⟨g4, h⟩ := gd_el h
      obtain ⟨Z5, eZ5⟩ : ∃ z : zOb, z = zI S j x3.toNatClampNeg (S.1 j ((x3 + (nI 1)).toNatClampNeg)) := ⟨_, rfl⟩
      have h := bnd_el h eZ5
      refine zr_iast cx hI (k6_r hc hj) (zset_s _ _ _) (z6_r hc hj) rfl g4 (zss eZ5) dX6_closeGap_23 (fun H locs hI => ?_)
      obtain ⟨v6, ev6⟩ : ∃ z : Int32, z = x3 + (nI 1) := ⟨_, rfl⟩
      have h := bnd_el h ev6
      refine lv_iinc (v := v6) (lv' := [(3, .int v6), (0, .ref (G.2.2.1 o 0)), (1, .ref (G.2.2.1 o j))]) hx hb dX6_closeGap_24 hl (k := 2) rfl (by rw [ev6]; rfl) (by decide) rfl (fun ls hl => ?_)
      refine lv_goto (tgt := 6) hx hb dX6_closeGap_27 (by decide) ?_
      exact ih Z5 v6 h hI (lv_sub hl [1, 2, 0] rfl)
def f_St_closeGap (N : Nat) (S : zOb) (j : Nat) (a2 : Int32) : Option zOb :=
  bnd (if (nI 0) < a2 then a2 else (nI 0)) (fun v1 => f_St_closeGap_6 N j N S v1)
set_option maxHeartbeats 4000000 in
set_option maxRecDepth 100000 in
theorem c_St_closeGap (N : Nat) {l : Launch} {G : zG} {μ : zM} {o : Nat} (hc : zc o = 6) {S : zOb} (hS : μ o = S) {j : Nat} (hj : 0 < j ∧ j < 4) {a2 : Int32} {out : zOb} (h : f_St_closeGap N S j a2 = some out) {μ' : zM} (hμ : zset μ o out = μ') : zMV l G yX6_closeGap cX6_closeGap 4 none 1 [.ref (G.2.2.1 o 0), .ref (G.2.2.1 o j), .int a2] μ μ' := by
  subst hμ
  refine zMV.of (by decide) (Nat.le_of_ble_eq_true rfl) (fun p e s m args below meth c Q ls cx hI hl hret => ?_)
  obtain ⟨hx, hb, hml, hown, hts, hK, hR⟩ := id cx
  have hl : lv_has ls 4 [(0, .ref (G.2.2.1 o 0)), (1, .ref (G.2.2.1 o j)), (2, .int a2)] := hl
  rw [← zset_idS hS] at hI
  unfold f_St_closeGap at h
  refine lv_iconst (v := (nI 0)) hx hb dX6_closeGap_0 (by decide) ?_
  refine lv_iload_n hx hb dX6_closeGap_1 rfl (lv_at hl 2 rfl) ?_
  refine zcmax cx hl.1 w_231 (by omega) (Nat.le_of_ble_eq_true rfl) dX6_closeGap_2 ?_
  refine lv_topi (fun v1 ev1 => ?_)
  have h := bnd_el h ev1
  refine lv_istore_n (lv' := [(3, .int v1), (0, .ref (G.2.2.1 o 0)), (1, .ref (G.2.2.1 o j)), (2, .int a2)]) hx hb dX6_closeGap_5 rfl hl (by decide) rfl (fun ls hl => ?_)
  exact t_St_closeGap_6 N hc hj cx hret N S v1 h hI (lv_sub hl [1, 2, 0] rfl)
def f_St_placeOf_2 (N : Nat) (S : zOb)  : Nat → Int32 → Int32 → Option Int32
  | 0, _, _ => none
  | n + 1, x1, x2 => (if (S.1 0 3) ≤ x2 then some (-4 : Int32) else if zin x2 7 then (if (S.1 3 x2.toNatClampNeg) = x1 then some x2 else bnd (x2 + (nI 1)) (fun v4 => f_St_placeOf_2 N S n x1 v4)) else none)
set_option maxHeartbeats 4000000 in
set_option maxRecDepth 100000 in
theorem t_St_placeOf_2 (N : Nat) {p : Program} {l : Launch} {e : Env} {s : State} {m : MethodId} {args : Array Value} {below : List Frame} {meth : Method} {c : Code} {Q : State → Prop} {G : zG} {μ : zM} {o : Nat} (hc : zc o = 6) {S : zOb} (hS : μ o = S) {out : Int32} (cx : zCX p (zrm 0) s m args c RX6 cX6_placeOf 3 0 G) (hret : zRi p l e (zrm 0) s m args below meth c cX6_placeOf G .int Q out μ)   : ∀ (n : Nat) (x1 : Int32) (x2 : Int32), f_St_placeOf_2 N S n x1 x2 = some out → ∀ {H : Heap} {locs : List Loc} {ls : Array Slot}, zIW G s μ H locs → lv_has ls 3 [(0, .ref (G.2.2.1 o 0)), (1, .int x1), (2, .int x2)] → W p l e (zrm 0) s m args below meth c H locs 0 0 Q (F0 m 2 ls []) := by
  obtain ⟨hx, hb, hml, hown, hts, hK, hR⟩ := id cx
  intro n
  induction n with
  | zero =>
    intro x1 x2  h
    cases h
  | succ n ih =>
    intro x1 x2  h H locs ls hI hl
    rw [f_St_placeOf_2] at h
    refine lv_iload_n hx hb dX6_placeOf_2 rfl (lv_at hl 2 rfl) ?_
    refine lv_aload_n hx hb dX6_placeOf_3 rfl (lv_at hl 0 rfl) ?_
    refine g6_3 cx hI hc hS w_139 dX6_placeOf_4 ?_
    refine lv_icmp_ge (tgt := 28) hx hb dX6_placeOf_7 (by decide) (fun c1 => ?_) (fun c1 => ?_)
    · have h := it_p h c1
      refine lv_bipush (v := (-4 : Int32)) hx hb dX6_placeOf_28 (by decide) ?_
      obtain rfl := Option.some.inj h
      exact hret _ _ _ _ dX6_placeOf_30 rfl hI
    · have h := it_n h c1
      refine lv_aload_n hx hb dX6_placeOf_10 rfl (lv_at hl 0 rfl) ?_
      refine g6_2 cx hI hc hS w_50 dX6_placeOf_11 ?_
      refine lv_iload_n hx hb dX6_placeOf_14 rfl (lv_at hl 2 rfl) ?_
      obtain ⟨g2, h⟩ := gd_el h
      refine zr_iald cx hI (k6_3 hc) hS (z6_3 hc) rfl g2 dX6_placeOf_15 ?_
      refine lv_iload_n hx hb dX6_placeOf_16 rfl (lv_at hl 1 rfl) ?_
      refine lv_icmp_ne (tgt := 22) hx hb dX6_placeOf_17 (by decide) (fun c3 => ?_) (fun c3 => ?_)
      · have h := it_n h c3
        obtain ⟨v4, ev4⟩ : ∃ z : Int32, z = x2 + (nI 1) := ⟨_, rfl⟩
        have h := bnd_el h ev4
        refine lv_iinc (v := v4) (lv' := [(2, .int v4), (0, .ref (G.2.2.1 o 0)), (1, .int x1)]) hx hb dX6_placeOf_22 hl (k := 2) rfl (by rw [ev4]; rfl) (by decide) rfl (fun ls hl => ?_)
        refine lv_goto (tgt := 2) hx hb dX6_placeOf_25 (by decide) ?_
        exact ih x1 v4 h hI (lv_sub hl [1, 2, 0] rfl)
      · have h := it_p h c3
        refine lv_iload_n hx hb dX6_placeOf_20 rfl (lv_at hl 2 rfl) ?_
        obtain rfl := Option.some.inj h
        exact hret _ _ _ _ dX6_placeOf_21 rfl hI
def f_St_placeOf (N : Nat) (S : zOb) (a1 : Int32) : Option Int32 :=
  f_St_placeOf_2 N S N a1 (nI 0)
set_option maxHeartbeats 4000000 in
set_option maxRecDepth 100000 in
theorem c_St_placeOf (N : Nat) {l : Launch} {G : zG} {μ : zM} {o : Nat} (hc : zc o = 6) {S : zOb} (hS : μ o = S) {a1 : Int32} {out : Int32} (h : f_St_placeOf N S a1 = some out) : zMI l G yX6_placeOf cX6_placeOf 3 (some .int) 0 [.ref (G.2.2.1 o 0), .int a1] μ out μ := by
  refine zMI.of (by decide) (Nat.le_of_ble_eq_true rfl) (fun p e s m args below meth c Q ls cx hI hl hret => ?_)
  obtain ⟨hx, hb, hml, hown, hts, hK, hR⟩ := id cx
  have hl : lv_has ls 3 [(0, .ref (G.2.2.1 o 0)), (1, .int a1)] := hl
  unfold f_St_placeOf at h
  refine lv_iconst (v := (nI 0)) hx hb dX6_placeOf_0 (by decide) ?_
  refine lv_istore_n (lv' := [(2, .int (nI 0)), (0, .ref (G.2.2.1 o 0)), (1, .int a1)]) hx hb dX6_placeOf_1 rfl hl (by decide) rfl (fun ls hl => ?_)
  exact t_St_placeOf_2 N hc hS cx hret N a1 (nI 0) h hI (lv_sub hl [1, 2, 0] rfl)
def f_St_withoutBit (a0 : Int32) (a1 : Int32) : Option Int32 :=
  bnd (a0 &&& (((nI 1) <<< (a1 &&& 31)) - (nI 1))) (fun v1 => bnd (a0 >>> ((a1 + (nI 1)) &&& 31)) (fun v2 => some (v1 ||| (v2 <<< (a1 &&& 31)))))
set_option maxHeartbeats 4000000 in
set_option maxRecDepth 100000 in
theorem c_St_withoutBit {l : Launch} {G : zG} {μ : zM}  {a0 : Int32} {a1 : Int32} {out : Int32} (h : f_St_withoutBit a0 a1 = some out) : zMI l G yX6_withoutBit cX6_withoutBit 4 (some .int) 0 [.int a0, .int a1] μ out μ := by
  refine zMI.of (by decide) (Nat.le_of_ble_eq_true rfl) (fun p e s m args below meth c Q ls cx hI hl hret => ?_)
  obtain ⟨hx, hb, hml, hown, hts, hK, hR⟩ := id cx
  have hl : lv_has ls 4 [(0, .int a0), (1, .int a1)] := hl
  unfold f_St_withoutBit at h
  refine lv_iload_n hx hb dX6_withoutBit_0 rfl (lv_at hl 0 rfl) ?_
  refine lv_iconst (v := (nI 1)) hx hb dX6_withoutBit_1 (by decide) ?_
  refine lv_iload_n hx hb dX6_withoutBit_2 rfl (lv_at hl 1 rfl) ?_
  refine lv_ishl hx hb dX6_withoutBit_3 ?_
  refine lv_iconst (v := (nI 1)) hx hb dX6_withoutBit_4 (by decide) ?_
  refine lv_isub hx hb dX6_withoutBit_5 ?_
  refine lv_iand hx hb dX6_withoutBit_6 ?_
  refine lv_topi (fun v1 ev1 => ?_)
  have h := bnd_el h ev1
  refine lv_istore_n (lv' := [(2, .int v1), (0, .int a0), (1, .int a1)]) hx hb dX6_withoutBit_7 rfl hl (by decide) rfl (fun ls hl => ?_)
  refine lv_iload_n hx hb dX6_withoutBit_8 rfl (lv_at hl 1 rfl) ?_
  refine lv_iload_n hx hb dX6_withoutBit_9 rfl (lv_at hl 2 rfl) ?_
  refine lv_iconst (v := (nI 1)) hx hb dX6_withoutBit_10 (by decide) ?_
  refine lv_iadd hx hb dX6_withoutBit_11 ?_
  refine lv_ishr hx hb dX6_withoutBit_12 ?_
  refine lv_topi (fun v2 ev2 => ?_)
  have h := bnd_el h ev2
  refine lv_istore_n (lv' := [(3, .int v2), (2, .int v1), (0, .int a0), (1, .int a1)]) hx hb dX6_withoutBit_13 rfl hl (by decide) rfl (fun ls hl => ?_)
  refine lv_iload_n hx hb dX6_withoutBit_14 rfl (lv_at hl 1 rfl) ?_
  refine lv_iload_n hx hb dX6_withoutBit_15 rfl (lv_at hl 0 rfl) ?_
  refine lv_iload_n hx hb dX6_withoutBit_16 rfl (lv_at hl 3 rfl) ?_
  refine lv_ishl hx hb dX6_withoutBit_17 ?_
  refine lv_ior hx hb dX6_withoutBit_18 ?_
  obtain rfl := Option.some.inj h
  exact hret _ _ _ _ dX6_withoutBit_19 rfl hI
def f_St_removeBook_97 (N : Nat) (k53 : zOb → Int32 → Int32 → Option (Int32 × zOb)) (S : zOb) (x1 : Int32) (x2 : Int32) : Option (Int32 × zOb) :=
  bnd (x2 + (nI 1)) (fun v15 => k53 S x1 v15)
set_option maxHeartbeats 4000000 in
set_option maxRecDepth 100000 in
theorem t_St_removeBook_97 (N : Nat) {p : Program} {l : Launch} {e : Env} {s : State} {m : MethodId} {args : Array Value} {below : List Frame} {meth : Method} {c : Code} {Q : State → Prop} {G : zG} {μ : zM} {o : Nat} (hc : zc o = 6) {out : (Int32 × zOb)} (cx : zCX p (zrm 2) s m args c RX6 cX6_removeBook 3 2 G) (hret : zRi p l e (zrm 2) s m args below meth c cX6_removeBook G .int Q out.1 (zset μ o out.2)) {k53 : zOb → Int32 → Int32 → Option (Int32 × zOb)} (hk53 : ∀ (S : zOb) (x1 : Int32) (x2 : Int32), k53 S x1 x2 = some out → ∀ {H : Heap} {locs : List Loc} {ls : Array Slot}, zIW G s (zset μ o S) H locs → lv_has ls 3 [(0, .ref (G.2.2.1 o 0)), (1, .int x1), (2, .int x2)] → W p l e (zrm 2) s m args below meth c H locs 0 0 Q (F0 m 53 ls [])) : ∀ (S : zOb) (x1 : Int32) (x2 : Int32), f_St_removeBook_97 N k53 S x1 x2 = some out → ∀ {H : Heap} {locs : List Loc} {ls : Array Slot}, zIW G s (zset μ o S) H locs → lv_has ls 3 [(0, .ref (G.2.2.1 o 0)), (1, .int x1), (2, .int x2)] → W p l e (zrm 2) s m args below meth c H locs 0 0 Q (F0 m 97 ls []) := by
  obtain ⟨hx, hb, hml, hown, hts, hK, hR⟩ := id cx
  intro S x1 x2  h H locs ls hI hl
  unfold f_St_removeBook_97 at h
  obtain ⟨v15, ev15⟩ : ∃ z : Int32, z = x2 + (nI 1) := ⟨_, rfl⟩
  have h := bnd_el h ev15
  refine lv_iinc (v := v15) (lv' := [(2, .int v15), (0, .ref (G.2.2.1 o 0)), (1, .int x1)]) hx hb dX6_removeBook_97 hl (k := 2) rfl (by rw [ev15]; rfl) (by decide) rfl (fun ls hl => ?_)
  refine lv_goto (tgt := 53) hx hb dX6_removeBook_100 (by decide) ?_
  exact hk53 S x1 v15 h hI (lv_sub hl [1, 2, 0] rfl)
def f_St_removeBook_53 (N : Nat)  : Nat → zOb → Int32 → Int32 → Option (Int32 × zOb)
  | 0, _, _, _ => none
  | n + 1, S, x1, x2 => (if (S.1 0 3) ≤ x2 then some (S.1 0 3, S) else if zin x2 7 then (f_St_withoutBit (S.1 2 x2.toNatClampNeg) x1).bind (fun q10 => if zin x2 7 then bnd (zI S 2 x2.toNatClampNeg q10) (fun Z12 => if zin x2 7 then (if (Z12.1 3 x2.toNatClampNeg) ≤ x1 then f_St_removeBook_97 N (f_St_removeBook_53 N n) Z12 x1 x2 else if zin x2 7 then if zin x2 7 then bnd (zI Z12 3 x2.toNatClampNeg ((Z12.1 3 x2.toNatClampNeg) - (nI 1))) (fun Z18 => f_St_removeBook_97 N (f_St_removeBook_53 N n) Z18 x1 x2) else none else none) else none) else none) else none)
set_option maxHeartbeats 4000000 in
set_option maxRecDepth 100000 in
theorem t_St_removeBook_53 (N : Nat) {p : Program} {l : Launch} {e : Env} {s : State} {m : MethodId} {args : Array Value} {below : List Frame} {meth : Method} {c : Code} {Q : State → Prop} {G : zG} {μ : zM} {o : Nat} (hc : zc o = 6) {out : (Int32 × zOb)} (cx : zCX p (zrm 2) s m args c RX6 cX6_removeBook 3 2 G) (hret : zRi p l e (zrm 2) s m args below meth c cX6_removeBook G .int Q out.1 (zset μ o out.2))   : ∀ (n : Nat) (S : zOb) (x1 : Int32) (x2 : Int32), f_St_removeBook_53 N n S x1 x2 = some out → ∀ {H : Heap} {locs : List Loc} {ls : Array Slot}, zIW G s (zset μ o S) H locs → lv_has ls 3 [(0, .ref (G.2.2.1 o 0)), (1, .int x1), (2, .int x2)] → W p l e (zrm 2) s m args below meth c H locs 0 0 Q (F0 m 53 ls []) := by
  obtain ⟨hx, hb, hml, hown, hts, hK, hR⟩ := id cx
  intro n
  induction n with
  | zero =>
    intro S x1 x2  h
    cases h
  | succ n ih =>
    intro S x1 x2  h H locs ls hI hl
    rw [f_St_removeBook_53] at h
    refine lv_iload_n hx hb dX6_removeBook_53 rfl (lv_at hl 2 rfl) ?_
    refine lv_aload_n hx hb dX6_removeBook_54 rfl (lv_at hl 0 rfl) ?_
    refine g6_3 cx hI hc (zset_s _ _ _) w_139 dX6_removeBook_55 ?_
    refine lv_icmp_ge (tgt := 103) hx hb dX6_removeBook_58 (by decide) (fun c8 => ?_) (fun c8 => ?_)
    · have h := it_p h c8
      refine lv_aload_n hx hb dX6_removeBook_103 rfl (lv_at hl 0 rfl) ?_
      refine g6_3 cx hI hc (zset_s _ _ _) w_139 dX6_removeBook_104 ?_
      obtain rfl := Option.some.inj h
      exact hret _ _ _ _ dX6_removeBook_107 rfl hI
    · have h := it_n h c8
      refine lv_aload_n hx hb dX6_removeBook_61 rfl (lv_at hl 0 rfl) ?_
      refine g6_1 cx hI hc (zset_s _ _ _) w_49 dX6_removeBook_62 ?_
      refine lv_iload_n hx hb dX6_removeBook_65 rfl (lv_at hl 2 rfl) ?_
      refine lv_aload_n hx hb dX6_removeBook_66 rfl (lv_at hl 0 rfl) ?_
      refine g6_1 cx hI hc (zset_s _ _ _) w_49 dX6_removeBook_67 ?_
      refine lv_iload_n hx hb dX6_removeBook_70 rfl (lv_at hl 2 rfl) ?_
      obtain ⟨g9, h⟩ := gd_el h
      refine zr_iald cx hI (k6_2 hc) (zset_s _ _ _) (z6_2 hc) rfl g9 dX6_removeBook_71 ?_
      refine lv_iload_n hx hb dX6_removeBook_72 rfl (lv_at hl 1 rfl) ?_
      obtain ⟨q10, hq10, h⟩ := bi_el h
      refine zcSi (As := [.int (S.1 2 x2.toNatClampNeg), .int x1]) cx hI (c_St_withoutBit  hq10) mt_yX6_withoutBit ms_yX6_withoutBit w_235 (by omega) rfl hl.1 rfl (Nat.le_of_ble_eq_true rfl) dX6_removeBook_73 (fun H locs hI => ?_)
      obtain ⟨g11, h⟩ := gd_el h
      obtain ⟨Z12, eZ12⟩ : ∃ z : zOb, z = zI S 2 x2.toNatClampNeg q10 := ⟨_, rfl⟩
      have h := bnd_el h eZ12
      refine zr_iast cx hI (k6_2 hc) (zset_s _ _ _) (z6_2 hc) rfl g11 (zss eZ12) dX6_removeBook_76 (fun H locs hI => ?_)
      refine lv_aload_n hx hb dX6_removeBook_77 rfl (lv_at hl 0 rfl) ?_
      refine g6_2 cx hI hc (zset_s _ _ _) w_50 dX6_removeBook_78 ?_
      refine lv_iload_n hx hb dX6_removeBook_81 rfl (lv_at hl 2 rfl) ?_
      obtain ⟨g13, h⟩ := gd_el h
      refine zr_iald cx hI (k6_3 hc) (zset_s _ _ _) (z6_3 hc) rfl g13 dX6_removeBook_82 ?_
      refine lv_iload_n hx hb dX6_removeBook_83 rfl (lv_at hl 1 rfl) ?_
      refine lv_icmp_le (tgt := 97) hx hb dX6_removeBook_84 (by decide) (fun c14 => ?_) (fun c14 => ?_)
      · have h := it_p h c14
        exact t_St_removeBook_97 N hc cx hret ih Z12 x1 x2 h hI hl
      · have h := it_n h c14
        refine lv_aload_n hx hb dX6_removeBook_87 rfl (lv_at hl 0 rfl) ?_
        refine g6_2 cx hI hc (zset_s _ _ _) w_50 dX6_removeBook_88 ?_
        refine lv_iload_n hx hb dX6_removeBook_91 rfl (lv_at hl 2 rfl) ?_
        refine lv_dup2_11 hx hb dX6_removeBook_92 rfl rfl ?_
        obtain ⟨g16, h⟩ := gd_el h
        refine zr_iald cx hI (k6_3 hc) (zset_s _ _ _) (z6_3 hc) rfl g16 dX6_removeBook_93 ?_
        refine lv_iconst (v := (nI 1)) hx hb dX6_removeBook_94 (by decide) ?_
        refine lv_isub hx hb dX6_removeBook_95 ?_
        obtain ⟨g17, h⟩ := gd_el h
        obtain ⟨Z18, eZ18⟩ : ∃ z : zOb, z = zI Z12 3 x2.toNatClampNeg ((Z12.1 3 x2.toNatClampNeg) - (nI 1)) := ⟨_, rfl⟩
        have h := bnd_el h eZ18
        refine zr_iast cx hI (k6_3 hc) (zset_s _ _ _) (z6_3 hc) rfl g17 (zss eZ18) dX6_removeBook_96 (fun H locs hI => ?_)
        exact t_St_removeBook_97 N hc cx hret ih Z18 x1 x2 h hI hl
def f_St_removeBook (N : Nat) (S : zOb) (a1 : Int32) : Option (Int32 × zOb) :=
  (f_St_isBook S a1).bind (fun q1 => (if q1 = nI 0 then some ((-1 : Int32), S) else (f_St_placeOf N S a1).bind (fun q3 => (f_St_closeGap N S 3 q3).bind (fun q4 => (f_St_closeGap N q4 1 a1).bind (fun q5 => (f_St_closeGap N q5 2 a1).bind (fun q6 => bnd (zI q6 0 3 ((q6.1 0 3) - (nI 1))) (fun Z7 => f_St_removeBook_53 N N Z7 a1 (nI 0))))))))
set_option maxHeartbeats 4000000 in
set_option maxRecDepth 100000 in
theorem c_St_removeBook (N : Nat) {l : Launch} {G : zG} {μ : zM} {o : Nat} (hc : zc o = 6) {S : zOb} (hS : μ o = S) {a1 : Int32} {out : (Int32 × zOb)} (h : f_St_removeBook N S a1 = some out) {μ' : zM} (hμ : zset μ o out.2 = μ') : zMI l G yX6_removeBook cX6_removeBook 3 (some .int) 2 [.ref (G.2.2.1 o 0), .int a1] μ out.1 μ' := by
  subst hμ
  refine zMI.of (by decide) (Nat.le_of_ble_eq_true rfl) (fun p e s m args below meth c Q ls cx hI hl hret => ?_)
  obtain ⟨hx, hb, hml, hown, hts, hK, hR⟩ := id cx
  have hl : lv_has ls 3 [(0, .ref (G.2.2.1 o 0)), (1, .int a1)] := hl
  rw [← zset_idS hS] at hI
  unfold f_St_removeBook at h
  refine lv_aload_n hx hb dX6_removeBook_0 rfl (lv_at hl 0 rfl) ?_
  refine lv_iload_n hx hb dX6_removeBook_1 rfl (lv_at hl 1 rfl) ?_
  obtain ⟨q1, hq1, h⟩ := bi_el h
  refine zcVi (As := [.int a1]) cx hI (c_St_isBook hc (zset_s _ _ _) hq1) mt_yX6_isBook mv_yX6_isBook w_199 (by omega) (k6_0 hc) (zv6 hc) rfl hl.1 rfl (Nat.le_of_ble_eq_true rfl) dX6_removeBook_2 (fun H locs hI => ?_)
  refine lv_if_ne (tgt := 10) hx hb dX6_removeBook_5 (by decide) (fun c2 => ?_) (fun c2 => ?_)
  · have h := it_n h c2
    refine lv_aload_n hx hb dX6_removeBook_10 rfl (lv_at hl 0 rfl) ?_
    refine lv_aload_n hx hb dX6_removeBook_11 rfl (lv_at hl 0 rfl) ?_
    refine g6_2 cx hI hc (zset_s _ _ _) w_50 dX6_removeBook_12 ?_
    refine lv_aload_n hx hb dX6_removeBook_15 rfl (lv_at hl 0 rfl) ?_
    refine lv_iload_n hx hb dX6_removeBook_16 rfl (lv_at hl 1 rfl) ?_
    obtain ⟨q3, hq3, h⟩ := bi_el h
    refine zcVi (As := [.int a1]) cx hI (c_St_placeOf N hc (zset_s _ _ _) hq3) mt_yX6_placeOf mv_yX6_placeOf w_223 (by omega) (k6_0 hc) (zv6 hc) rfl hl.1 rfl (Nat.le_of_ble_eq_true rfl) dX6_removeBook_17 (fun H locs hI => ?_)
    obtain ⟨q4, hq4, h⟩ := bi_el h
    refine zcVv (As := [.ref (G.2.2.1 o 3), .int q3]) cx hI (c_St_closeGap N hc (zset_s _ _ _) (j := 3) (by decide) hq4 (zset_ss _ _ _ _)) mt_yX6_closeGap mv_yX6_closeGap w_227 (by omega) (k6_0 hc) (zv6 hc) rfl hl.1 rfl (Nat.le_of_ble_eq_true rfl) dX6_removeBook_20 (fun H locs hI => ?_)
    refine lv_aload_n hx hb dX6_removeBook_23 rfl (lv_at hl 0 rfl) ?_
    refine lv_aload_n hx hb dX6_removeBook_24 rfl (lv_at hl 0 rfl) ?_
    refine g6_0 cx hI hc (zset_s _ _ _) w_48 dX6_removeBook_25 ?_
    refine lv_iload_n hx hb dX6_removeBook_28 rfl (lv_at hl 1 rfl) ?_
    obtain ⟨q5, hq5, h⟩ := bi_el h
    refine zcVv (As := [.ref (G.2.2.1 o 1), .int a1]) cx hI (c_St_closeGap N hc (zset_s _ _ _) (j := 1) (by decide) hq5 (zset_ss _ _ _ _)) mt_yX6_closeGap mv_yX6_closeGap w_227 (by omega) (k6_0 hc) (zv6 hc) rfl hl.1 rfl (Nat.le_of_ble_eq_true rfl) dX6_removeBook_29 (fun H locs hI => ?_)
    refine lv_aload_n hx hb dX6_removeBook_32 rfl (lv_at hl 0 rfl) ?_
    refine lv_aload_n hx hb dX6_removeBook_33 rfl (lv_at hl 0 rfl) ?_
    refine g6_1 cx hI hc (zset_s _ _ _) w_49 dX6_removeBook_34 ?_
    refine lv_iload_n hx hb dX6_removeBook_37 rfl (lv_at hl 1 rfl) ?_
    obtain ⟨q6, hq6, h⟩ := bi_el h
    refine zcVv (As := [.ref (G.2.2.1 o 2), .int a1]) cx hI (c_St_closeGap N hc (zset_s _ _ _) (j := 2) (by decide) hq6 (zset_ss _ _ _ _)) mt_yX6_closeGap mv_yX6_closeGap w_227 (by omega) (k6_0 hc) (zv6 hc) rfl hl.1 rfl (Nat.le_of_ble_eq_true rfl) dX6_removeBook_38 (fun H locs hI => ?_)
    refine lv_aload_n hx hb dX6_removeBook_41 rfl (lv_at hl 0 rfl) ?_
    refine lv_dup hx hb dX6_removeBook_42 rfl ?_
    refine g6_3 cx hI hc (zset_s _ _ _) w_139 dX6_removeBook_43 ?_
    refine lv_iconst (v := (nI 1)) hx hb dX6_removeBook_46 (by decide) ?_
    refine lv_isub hx hb dX6_removeBook_47 ?_
    obtain ⟨Z7, eZ7⟩ : ∃ z : zOb, z = zI q6 0 3 ((q6.1 0 3) - (nI 1)) := ⟨_, rfl⟩
    have h := bnd_el h eZ7
    refine p6_3 cx hI hc (zset_s _ _ _) w_139 (zss eZ7) dX6_removeBook_48 (fun H locs hI => ?_)
    refine lv_iconst (v := (nI 0)) hx hb dX6_removeBook_51 (by decide) ?_
    refine lv_istore_n (lv' := [(2, .int (nI 0)), (0, .ref (G.2.2.1 o 0)), (1, .int a1)]) hx hb dX6_removeBook_52 rfl hl (by decide) rfl (fun ls hl => ?_)
    exact t_St_removeBook_53 N hc cx hret N Z7 a1 (nI 0) h hI (lv_sub hl [1, 2, 0] rfl)
  · have h := it_p h c2
    refine lv_iconst (v := (-1 : Int32)) hx hb dX6_removeBook_8 (by decide) ?_
    obtain rfl := Option.some.inj h
    exact hret _ _ _ _ dX6_removeBook_9 rfl hI
def f_St_allBehind_48 (N : Nat) (S : zOb) (k9 : Int32 → Int32 → Option Int32) (k20 : Int32 → Int32 → Int32 → Option Int32) (x2 : Int32) (x3 : Int32) (x4 : Int32) : Option Int32 :=
  bnd (x4 + (nI 1)) (fun v8 => k20 x2 x3 v8)
set_option maxHeartbeats 4000000 in
set_option maxRecDepth 100000 in
theorem t_St_allBehind_48 (N : Nat) {p : Program} {l : Launch} {e : Env} {s : State} {m : MethodId} {args : Array Value} {below : List Frame} {meth : Method} {c : Code} {Q : State → Prop} {G : zG} {μ : zM} {o : Nat} (hc : zc o = 6) {S : zOb} (hS : μ o = S) {out : Int32} (cx : zCX p (zrm 1) s m args c RX6 cX6_allBehind 5 1 G) (hret : zRi p l e (zrm 1) s m args below meth c cX6_allBehind G .int Q out μ) {k9 : Int32 → Int32 → Option Int32} {k20 : Int32 → Int32 → Int32 → Option Int32} (hk9 : ∀ (x2 : Int32) (x3 : Int32), k9 x2 x3 = some out → ∀ {H : Heap} {locs : List Loc} {ls : Array Slot}, zIW G s μ H locs → lv_has ls 5 [(0, .ref (G.2.2.1 o 0)), (2, .int x2), (3, .int x3)] → W p l e (zrm 1) s m args below meth c H locs 0 0 Q (F0 m 9 ls [])) (hk20 : ∀ (x2 : Int32) (x3 : Int32) (x4 : Int32), k20 x2 x3 x4 = some out → ∀ {H : Heap} {locs : List Loc} {ls : Array Slot}, zIW G s μ H locs → lv_has ls 5 [(0, .ref (G.2.2.1 o 0)), (2, .int x2), (3, .int x3), (4, .int x4)] → W p l e (zrm 1) s m args below meth c H locs 0 0 Q (F0 m 20 ls [])) : ∀ (x2 : Int32) (x3 : Int32) (x4 : Int32), f_St_allBehind_48 N S k9 k20 x2 x3 x4 = some out → ∀ {H : Heap} {locs : List Loc} {ls : Array Slot}, zIW G s μ H locs → lv_has ls 5 [(0, .ref (G.2.2.1 o 0)), (2, .int x2), (3, .int x3), (4, .int x4)] → W p l e (zrm 1) s m args below meth c H locs 0 0 Q (F0 m 48 ls []) := by
  obtain ⟨hx, hb, hml, hown, hts, hK, hR⟩ := id cx
  intro x2 x3 x4  h H locs ls hI hl
  unfold f_St_allBehind_48 at h
  obtain ⟨v8, ev8⟩ : ∃ z : Int32, z = x4 + (nI 1) := ⟨_, rfl⟩
  have h := bnd_el h ev8
  refine lv_iinc (v := v8) (lv' := [(4, .int v8), (0, .ref (G.2.2.1 o 0)), (2, .int x2), (3, .int x3)]) hx hb dX6_allBehind_48 hl (k := 3) rfl (by rw [ev8]; rfl) (by decide) rfl (fun ls hl => ?_)
  refine lv_goto (tgt := 20) hx hb dX6_allBehind_51 (by decide) ?_
  exact hk20 x2 x3 v8 h hI (lv_sub hl [1, 2, 3, 0] rfl)
def f_St_allBehind_20 (N : Nat) (S : zOb) (k9 : Int32 → Int32 → Option Int32) : Nat → Int32 → Int32 → Int32 → Option Int32
  | 0, _, _, _ => none
  | n + 1, x2, x3, x4 => (if (S.1 0 3) ≤ x4 then bnd (x3 + (nI 1)) (fun v5 => k9 x2 v5) else (f_RS_hasBit x2 x4).bind (fun q6 => (if q6 = nI 0 then f_St_allBehind_48 N S k9 (f_St_allBehind_20 N S k9 n) x2 x3 x4 else if zin x4 7 then bnd (x2 ||| (S.1 2 x4.toNatClampNeg)) (fun v10 => f_St_allBehind_48 N S k9 (f_St_allBehind_20 N S k9 n) v10 x3 x4) else none)))
set_option maxHeartbeats 4000000 in
set_option maxRecDepth 100000 in
theorem t_St_allBehind_20 (N : Nat) {p : Program} {l : Launch} {e : Env} {s : State} {m : MethodId} {args : Array Value} {below : List Frame} {meth : Method} {c : Code} {Q : State → Prop} {G : zG} {μ : zM} {o : Nat} (hc : zc o = 6) {S : zOb} (hS : μ o = S) {out : Int32} (cx : zCX p (zrm 1) s m args c RX6 cX6_allBehind 5 1 G) (hret : zRi p l e (zrm 1) s m args below meth c cX6_allBehind G .int Q out μ) {k9 : Int32 → Int32 → Option Int32} (hk9 : ∀ (x2 : Int32) (x3 : Int32), k9 x2 x3 = some out → ∀ {H : Heap} {locs : List Loc} {ls : Array Slot}, zIW G s μ H locs → lv_has ls 5 [(0, .ref (G.2.2.1 o 0)), (2, .int x2), (3, .int x3)] → W p l e (zrm 1) s m args below meth c H locs 0 0 Q (F0 m 9 ls [])) : ∀ (n : Nat) (x2 : Int32) (x3 : Int32) (x4 : Int32), f_St_allBehind_20 N S k9 n x2 x3 x4 = some out → ∀ {H : Heap} {locs : List Loc} {ls : Array Slot}, zIW G s μ H locs → lv_has ls 5 [(0, .ref (G.2.2.1 o 0)), (2, .int x2), (3, .int x3), (4, .int x4)] → W p l e (zrm 1) s m args below meth c H locs 0 0 Q (F0 m 20 ls []) := by
  obtain ⟨hx, hb, hml, hown, hts, hK, hR⟩ := id cx
  intro n
  induction n with
  | zero =>
    intro x2 x3 x4  h
    cases h
  | succ n ih =>
    intro x2 x3 x4  h H locs ls hI hl
    rw [f_St_allBehind_20] at h
    refine lv_iload hx hb dX6_allBehind_20 (lv_at hl 3 rfl) ?_
    refine lv_aload_n hx hb dX6_allBehind_22 rfl (lv_at hl 0 rfl) ?_
    refine g6_3 cx hI hc hS w_139 dX6_allBehind_23 ?_
    refine lv_icmp_ge (tgt := 54) hx hb dX6_allBehind_26 (by decide) (fun c4 => ?_) (fun c4 => ?_)
    · have h := it_p h c4
      obtain ⟨v5, ev5⟩ : ∃ z : Int32, z = x3 + (nI 1) := ⟨_, rfl⟩
      have h := bnd_el h ev5
      refine lv_iinc (v := v5) (lv' := [(3, .int v5), (0, .ref (G.2.2.1 o 0)), (2, .int x2), (4, .int x4)]) hx hb dX6_allBehind_54 hl (k := 2) rfl (by rw [ev5]; rfl) (by decide) rfl (fun ls hl => ?_)
      refine lv_goto (tgt := 9) hx hb dX6_allBehind_57 (by decide) ?_
      exact hk9 x2 v5 h hI (lv_sub hl [1, 2, 0] rfl)
    · have h := it_n h c4
      refine lv_iload_n hx hb dX6_allBehind_29 rfl (lv_at hl 1 rfl) ?_
      refine lv_iload hx hb dX6_allBehind_30 (lv_at hl 3 rfl) ?_
      obtain ⟨q6, hq6, h⟩ := bi_el h
      refine zcNi (As := [.int x2, .int x4]) cx hI (c_RS_hasBit  hq6) mt_yX7_hasBit ms_yX7_hasBit hK.2.1.1 (by omega) rfl hl.1 rfl (Nat.le_of_ble_eq_true rfl) dX6_allBehind_32 (fun H locs hI => ?_)
      refine lv_if_eq (tgt := 48) hx hb dX6_allBehind_35 (by decide) (fun c7 => ?_) (fun c7 => ?_)
      · have h := it_p h c7
        exact t_St_allBehind_48 N hc hS cx hret hk9 ih x2 x3 x4 h hI hl
      · have h := it_n h c7
        refine lv_iload_n hx hb dX6_allBehind_38 rfl (lv_at hl 1 rfl) ?_
        refine lv_aload_n hx hb dX6_allBehind_39 rfl (lv_at hl 0 rfl) ?_
        refine g6_1 cx hI hc hS w_49 dX6_allBehind_40 ?_
        refine lv_iload hx hb dX6_allBehind_43 (lv_at hl 3 rfl) ?_
        obtain ⟨g9, h⟩ := gd_el h
        refine zr_iald cx hI (k6_2 hc) hS (z6_2 hc) rfl g9 dX6_allBehind_45 ?_
        refine lv_ior hx hb dX6_allBehind_46 ?_
        refine lv_topi (fun v10 ev10 => ?_)
        have h := bnd_el h ev10
        refine lv_istore_n (lv' := [(2, .int v10), (0, .ref (G.2.2.1 o 0)), (3, .int x3), (4, .int x4)]) hx hb dX6_allBehind_47 rfl hl (by decide) rfl (fun ls hl => ?_)
        exact t_St_allBehind_48 N hc hS cx hret hk9 ih v10 x3 x4 h hI (lv_sub hl [1, 0, 2, 3] rfl)
def f_St_allBehind_9 (N : Nat) (S : zOb)  : Nat → Int32 → Int32 → Option Int32
  | 0, _, _ => none
  | n + 1, x2, x3 => (if (S.1 0 3) ≤ x3 then some x2 else f_St_allBehind_20 N S (f_St_allBehind_9 N S n) N x2 x3 (nI 0))
set_option maxHeartbeats 4000000 in
set_option maxRecDepth 100000 in
theorem t_St_allBehind_9 (N : Nat) {p : Program} {l : Launch} {e : Env} {s : State} {m : MethodId} {args : Array Value} {below : List Frame} {meth : Method} {c : Code} {Q : State → Prop} {G : zG} {μ : zM} {o : Nat} (hc : zc o = 6) {S : zOb} (hS : μ o = S) {out : Int32} (cx : zCX p (zrm 1) s m args c RX6 cX6_allBehind 5 1 G) (hret : zRi p l e (zrm 1) s m args below meth c cX6_allBehind G .int Q out μ)   : ∀ (n : Nat) (x2 : Int32) (x3 : Int32), f_St_allBehind_9 N S n x2 x3 = some out → ∀ {H : Heap} {locs : List Loc} {ls : Array Slot}, zIW G s μ H locs → lv_has ls 5 [(0, .ref (G.2.2.1 o 0)), (2, .int x2), (3, .int x3)] → W p l e (zrm 1) s m args below meth c H locs 0 0 Q (F0 m 9 ls []) := by
  obtain ⟨hx, hb, hml, hown, hts, hK, hR⟩ := id cx
  intro n
  induction n with
  | zero =>
    intro x2 x3  h
    cases h
  | succ n ih =>
    intro x2 x3  h H locs ls hI hl
    rw [f_St_allBehind_9] at h
    refine lv_iload_n hx hb dX6_allBehind_9 rfl (lv_at hl 2 rfl) ?_
    refine lv_aload_n hx hb dX6_allBehind_10 rfl (lv_at hl 0 rfl) ?_
    refine g6_3 cx hI hc hS w_139 dX6_allBehind_11 ?_
    refine lv_icmp_ge (tgt := 60) hx hb dX6_allBehind_14 (by decide) (fun c3 => ?_) (fun c3 => ?_)
    · have h := it_p h c3
      refine lv_iload_n hx hb dX6_allBehind_60 rfl (lv_at hl 1 rfl) ?_
      obtain rfl := Option.some.inj h
      exact hret _ _ _ _ dX6_allBehind_61 rfl hI
    · have h := it_n h c3
      refine lv_iconst (v := (nI 0)) hx hb dX6_allBehind_17 (by decide) ?_
      refine lv_istore (lv' := [(4, .int (nI 0)), (0, .ref (G.2.2.1 o 0)), (2, .int x2), (3, .int x3)]) hx hb dX6_allBehind_18 hl (by decide) rfl (fun ls hl => ?_)
      exact t_St_allBehind_20 N hc hS cx hret ih N x2 x3 (nI 0) h hI (lv_sub hl [1, 2, 3, 0] rfl)
def f_St_allBehind (N : Nat) (S : zOb) (a1 : Int32) : Option Int32 :=
  if zin a1 7 then bnd (S.1 2 a1.toNatClampNeg) (fun v2 => f_St_allBehind_9 N S N v2 (nI 0)) else none
set_option maxHeartbeats 4000000 in
set_option maxRecDepth 100000 in
theorem c_St_allBehind (N : Nat) {l : Launch} {G : zG} {μ : zM} {o : Nat} (hc : zc o = 6) {S : zOb} (hS : μ o = S) {a1 : Int32} {out : Int32} (h : f_St_allBehind N S a1 = some out) : zMI l G yX6_allBehind cX6_allBehind 5 (some .int) 1 [.ref (G.2.2.1 o 0), .int a1] μ out μ := by
  refine zMI.of (by decide) (Nat.le_of_ble_eq_true rfl) (fun p e s m args below meth c Q ls cx hI hl hret => ?_)
  obtain ⟨hx, hb, hml, hown, hts, hK, hR⟩ := id cx
  have hl : lv_has ls 5 [(0, .ref (G.2.2.1 o 0)), (1, .int a1)] := hl
  unfold f_St_allBehind at h
  refine lv_aload_n hx hb dX6_allBehind_0 rfl (lv_at hl 0 rfl) ?_
  refine g6_1 cx hI hc hS w_49 dX6_allBehind_1 ?_
  refine lv_iload_n hx hb dX6_allBehind_4 rfl (lv_at hl 1 rfl) ?_
  obtain ⟨g1, h⟩ := gd_el h
  refine zr_iald cx hI (k6_2 hc) hS (z6_2 hc) rfl g1 dX6_allBehind_5 ?_
  refine lv_topi (fun v2 ev2 => ?_)
  have h := bnd_el h ev2
  refine lv_istore_n (lv' := [(2, .int v2), (0, .ref (G.2.2.1 o 0)), (1, .int a1)]) hx hb dX6_allBehind_6 rfl hl (by decide) rfl (fun ls hl => ?_)
  refine lv_iconst (v := (nI 0)) hx hb dX6_allBehind_7 (by decide) ?_
  refine lv_istore_n (lv' := [(3, .int (nI 0)), (2, .int v2), (0, .ref (G.2.2.1 o 0)), (1, .int a1)]) hx hb dX6_allBehind_8 rfl hl (by decide) rfl (fun ls hl => ?_)
  exact t_St_allBehind_9 N hc hS cx hret N v2 (nI 0) h hI (lv_sub hl [2, 1, 0] rfl)
def f_St_turnAhead_21 (N : Nat)  (S : zOb) : Option (Int32 × zOb) :=
  some ((-1 : Int32), S)
set_option maxHeartbeats 4000000 in
set_option maxRecDepth 100000 in
theorem t_St_turnAhead_21 (N : Nat) {p : Program} {l : Launch} {e : Env} {s : State} {m : MethodId} {args : Array Value} {below : List Frame} {meth : Method} {c : Code} {Q : State → Prop} {G : zG} {μ : zM} {o : Nat} (hc : zc o = 6) {out : (Int32 × zOb)} (cx : zCX p (zrm 2) s m args c RX6 cX6_turnAhead 3 2 G) (hret : zRi p l e (zrm 2) s m args below meth c cX6_turnAhead G .int Q out.1 (zset μ o out.2))   : ∀ (S : zOb), f_St_turnAhead_21 N S = some out → ∀ {H : Heap} {locs : List Loc} {ls : Array Slot}, zIW G s (zset μ o S) H locs → lv_has ls 3 [] → W p l e (zrm 2) s m args below meth c H locs 0 0 Q (F0 m 21 ls []) := by
  obtain ⟨hx, hb, hml, hown, hts, hK, hR⟩ := id cx
  intro S  h H locs ls hI hl
  unfold f_St_turnAhead_21 at h
  refine lv_iconst (v := (-1 : Int32)) hx hb dX6_turnAhead_21 (by decide) ?_
  obtain rfl := Option.some.inj h
  exact hret _ _ _ _ dX6_turnAhead_22 rfl hI
def f_St_turnAhead (N : Nat) (S : zOb) (a1 : Int32) (a2 : Int32) : Option (Int32 × zOb) :=
  (f_St_isBook S a1).bind (fun q1 => (if q1 = nI 0 then f_St_turnAhead_21 N S else (f_St_isBook S a2).bind (fun q3 => (if q3 = nI 0 then f_St_turnAhead_21 N S else (if a1 = a2 then f_St_turnAhead_21 N S else if zin a1 7 then (f_RS_hasBit (S.1 2 a1.toNatClampNeg) a2).bind (fun q7 => (if q7 = nI 0 then (f_St_allBehind N S a2).bind (fun q9 => (f_RS_hasBit q9 a1).bind (fun q10 => (if q10 = nI 0 then if zin a1 7 then if zin a1 7 then bnd (zI S 2 a1.toNatClampNeg ((S.1 2 a1.toNatClampNeg) ||| ((nI 1) <<< (a2 &&& 31)))) (fun Z14 => some ((nI 1), Z14)) else none else none else some ((-2 : Int32), S)))) else if zin a1 7 then if zin a1 7 then bnd (zI S 2 a1.toNatClampNeg ((S.1 2 a1.toNatClampNeg) &&& (((nI 1) <<< (a2 &&& 31)) ^^^ (-1 : Int32)))) (fun Z17 => some ((nI 0), Z17)) else none else none)) else none)))))
set_option maxHeartbeats 4000000 in
set_option maxRecDepth 100000 in
theorem c_St_turnAhead (N : Nat) {l : Launch} {G : zG} {μ : zM} {o : Nat} (hc : zc o = 6) {S : zOb} (hS : μ o = S) {a1 : Int32} {a2 : Int32} {out : (Int32 × zOb)} (h : f_St_turnAhead N S a1 a2 = some out) {μ' : zM} (hμ : zset μ o out.2 = μ') : zMI l G yX6_turnAhead cX6_turnAhead 3 (some .int) 2 [.ref (G.2.2.1 o 0), .int a1, .int a2] μ out.1 μ' := by
  subst hμ
  refine zMI.of (by decide) (Nat.le_of_ble_eq_true rfl) (fun p e s m args below meth c Q ls cx hI hl hret => ?_)
  obtain ⟨hx, hb, hml, hown, hts, hK, hR⟩ := id cx
  have hl : lv_has ls 3 [(0, .ref (G.2.2.1 o 0)), (1, .int a1), (2, .int a2)] := hl
  rw [← zset_idS hS] at hI
  unfold f_St_turnAhead at h
  refine lv_aload_n hx hb dX6_turnAhead_0 rfl (lv_at hl 0 rfl) ?_
  refine lv_iload_n hx hb dX6_turnAhead_1 rfl (lv_at hl 1 rfl) ?_
  obtain ⟨q1, hq1, h⟩ := bi_el h
  refine zcVi (As := [.int a1]) cx hI (c_St_isBook hc (zset_s _ _ _) hq1) mt_yX6_isBook mv_yX6_isBook w_199 (by omega) (k6_0 hc) (zv6 hc) rfl hl.1 rfl (Nat.le_of_ble_eq_true rfl) dX6_turnAhead_2 (fun H locs hI => ?_)
  refine lv_if_eq (tgt := 21) hx hb dX6_turnAhead_5 (by decide) (fun c2 => ?_) (fun c2 => ?_)
  · have h := it_p h c2
    exact t_St_turnAhead_21 N hc cx hret S h hI (lv_sub hl [] rfl)
  · have h := it_n h c2
    refine lv_aload_n hx hb dX6_turnAhead_8 rfl (lv_at hl 0 rfl) ?_
    refine lv_iload_n hx hb dX6_turnAhead_9 rfl (lv_at hl 2 rfl) ?_
    obtain ⟨q3, hq3, h⟩ := bi_el h
    refine zcVi (As := [.int a2]) cx hI (c_St_isBook hc (zset_s _ _ _) hq3) mt_yX6_isBook mv_yX6_isBook w_199 (by omega) (k6_0 hc) (zv6 hc) rfl hl.1 rfl (Nat.le_of_ble_eq_true rfl) dX6_turnAhead_10 (fun H locs hI => ?_)
    refine lv_if_eq (tgt := 21) hx hb dX6_turnAhead_13 (by decide) (fun c4 => ?_) (fun c4 => ?_)
    · have h := it_p h c4
      exact t_St_turnAhead_21 N hc cx hret S h hI (lv_sub hl [] rfl)
    · have h := it_n h c4
      refine lv_iload_n hx hb dX6_turnAhead_16 rfl (lv_at hl 1 rfl) ?_
      refine lv_iload_n hx hb dX6_turnAhead_17 rfl (lv_at hl 2 rfl) ?_
      refine lv_icmp_ne (tgt := 23) hx hb dX6_turnAhead_18 (by decide) (fun c5 => ?_) (fun c5 => ?_)
      · have h := it_n h c5
        refine lv_aload_n hx hb dX6_turnAhead_23 rfl (lv_at hl 0 rfl) ?_
        refine g6_1 cx hI hc (zset_s _ _ _) w_49 dX6_turnAhead_24 ?_
        refine lv_iload_n hx hb dX6_turnAhead_27 rfl (lv_at hl 1 rfl) ?_
        obtain ⟨g6, h⟩ := gd_el h
        refine zr_iald cx hI (k6_2 hc) (zset_s _ _ _) (z6_2 hc) rfl g6 dX6_turnAhead_28 ?_
        refine lv_iload_n hx hb dX6_turnAhead_29 rfl (lv_at hl 2 rfl) ?_
        obtain ⟨q7, hq7, h⟩ := bi_el h
        refine zcNi (As := [.int (S.1 2 a1.toNatClampNeg), .int a2]) cx hI (c_RS_hasBit  hq7) mt_yX7_hasBit ms_yX7_hasBit hK.2.1.1 (by omega) rfl hl.1 rfl (Nat.le_of_ble_eq_true rfl) dX6_turnAhead_30 (fun H locs hI => ?_)
        refine lv_if_eq (tgt := 52) hx hb dX6_turnAhead_33 (by decide) (fun c8 => ?_) (fun c8 => ?_)
        · have h := it_p h c8
          refine lv_aload_n hx hb dX6_turnAhead_52 rfl (lv_at hl 0 rfl) ?_
          refine lv_iload_n hx hb dX6_turnAhead_53 rfl (lv_at hl 2 rfl) ?_
          obtain ⟨q9, hq9, h⟩ := bi_el h
          refine zcVi (As := [.int a2]) cx hI (c_St_allBehind N hc (zset_s _ _ _) hq9) mt_yX6_allBehind mv_yX6_allBehind w_263 (by omega) (k6_0 hc) (zv6 hc) rfl hl.1 rfl (Nat.le_of_ble_eq_true rfl) dX6_turnAhead_54 (fun H locs hI => ?_)
          refine lv_iload_n hx hb dX6_turnAhead_57 rfl (lv_at hl 1 rfl) ?_
          obtain ⟨q10, hq10, h⟩ := bi_el h
          refine zcNi (As := [.int q9, .int a1]) cx hI (c_RS_hasBit  hq10) mt_yX7_hasBit ms_yX7_hasBit hK.2.1.1 (by omega) rfl hl.1 rfl (Nat.le_of_ble_eq_true rfl) dX6_turnAhead_58 (fun H locs hI => ?_)
          refine lv_if_eq (tgt := 67) hx hb dX6_turnAhead_61 (by decide) (fun c11 => ?_) (fun c11 => ?_)
          · have h := it_p h c11
            refine lv_aload_n hx hb dX6_turnAhead_67 rfl (lv_at hl 0 rfl) ?_
            refine g6_1 cx hI hc (zset_s _ _ _) w_49 dX6_turnAhead_68 ?_
            refine lv_iload_n hx hb dX6_turnAhead_71 rfl (lv_at hl 1 rfl) ?_
            refine lv_dup2_11 hx hb dX6_turnAhead_72 rfl rfl ?_
            obtain ⟨g12, h⟩ := gd_el h
            refine zr_iald cx hI (k6_2 hc) (zset_s _ _ _) (z6_2 hc) rfl g12 dX6_turnAhead_73 ?_
            refine lv_iconst (v := (nI 1)) hx hb dX6_turnAhead_74 (by decide) ?_
            refine lv_iload_n hx hb dX6_turnAhead_75 rfl (lv_at hl 2 rfl) ?_
            refine lv_ishl hx hb dX6_turnAhead_76 ?_
            refine lv_ior hx hb dX6_turnAhead_77 ?_
            obtain ⟨g13, h⟩ := gd_el h
            obtain ⟨Z14, eZ14⟩ : ∃ z : zOb, z = zI S 2 a1.toNatClampNeg ((S.1 2 a1.toNatClampNeg) ||| ((nI 1) <<< (a2 &&& 31))) := ⟨_, rfl⟩
            have h := bnd_el h eZ14
            refine zr_iast cx hI (k6_2 hc) (zset_s _ _ _) (z6_2 hc) rfl g13 (zss eZ14) dX6_turnAhead_78 (fun H locs hI => ?_)
            refine lv_iconst (v := (nI 1)) hx hb dX6_turnAhead_79 (by decide) ?_
            obtain rfl := Option.some.inj h
            exact hret _ _ _ _ dX6_turnAhead_80 rfl hI
          · have h := it_n h c11
            refine lv_bipush (v := (-2 : Int32)) hx hb dX6_turnAhead_64 (by decide) ?_
            obtain rfl := Option.some.inj h
            exact hret _ _ _ _ dX6_turnAhead_66 rfl hI
        · have h := it_n h c8
          refine lv_aload_n hx hb dX6_turnAhead_36 rfl (lv_at hl 0 rfl) ?_
          refine g6_1 cx hI hc (zset_s _ _ _) w_49 dX6_turnAhead_37 ?_
          refine lv_iload_n hx hb dX6_turnAhead_40 rfl (lv_at hl 1 rfl) ?_
          refine lv_dup2_11 hx hb dX6_turnAhead_41 rfl rfl ?_
          obtain ⟨g15, h⟩ := gd_el h
          refine zr_iald cx hI (k6_2 hc) (zset_s _ _ _) (z6_2 hc) rfl g15 dX6_turnAhead_42 ?_
          refine lv_iconst (v := (nI 1)) hx hb dX6_turnAhead_43 (by decide) ?_
          refine lv_iload_n hx hb dX6_turnAhead_44 rfl (lv_at hl 2 rfl) ?_
          refine lv_ishl hx hb dX6_turnAhead_45 ?_
          refine lv_iconst (v := (-1 : Int32)) hx hb dX6_turnAhead_46 (by decide) ?_
          refine lv_ixor hx hb dX6_turnAhead_47 ?_
          refine lv_iand hx hb dX6_turnAhead_48 ?_
          obtain ⟨g16, h⟩ := gd_el h
          obtain ⟨Z17, eZ17⟩ : ∃ z : zOb, z = zI S 2 a1.toNatClampNeg ((S.1 2 a1.toNatClampNeg) &&& (((nI 1) <<< (a2 &&& 31)) ^^^ (-1 : Int32))) := ⟨_, rfl⟩
          have h := bnd_el h eZ17
          refine zr_iast cx hI (k6_2 hc) (zset_s _ _ _) (z6_2 hc) rfl g16 (zss eZ17) dX6_turnAhead_49 (fun H locs hI => ?_)
          refine lv_iconst (v := (nI 0)) hx hb dX6_turnAhead_50 (by decide) ?_
          obtain rfl := Option.some.inj h
          exact hret _ _ _ _ dX6_turnAhead_51 rfl hI
      · have h := it_p h c5
        exact t_St_turnAhead_21 N hc cx hret S h hI (lv_sub hl [] rfl)
def f_St_leaders_31 (N : Nat) (S : zOb) (k4 : Int32 → Int32 → Int32 → Option Int32) (x1 : Int32) (x2 : Int32) (x3 : Int32) : Option Int32 :=
  bnd (x3 + (nI 1)) (fun v5 => k4 x1 x2 v5)
set_option maxHeartbeats 4000000 in
set_option maxRecDepth 100000 in
theorem t_St_leaders_31 (N : Nat) {p : Program} {l : Launch} {e : Env} {s : State} {m : MethodId} {args : Array Value} {below : List Frame} {meth : Method} {c : Code} {Q : State → Prop} {G : zG} {μ : zM} {o : Nat} (hc : zc o = 6) {S : zOb} (hS : μ o = S) {out : Int32} (cx : zCX p (zrm 1) s m args c RX6 cX6_leaders 4 1 G) (hret : zRi p l e (zrm 1) s m args below meth c cX6_leaders G .int Q out μ) {k4 : Int32 → Int32 → Int32 → Option Int32} (hk4 : ∀ (x1 : Int32) (x2 : Int32) (x3 : Int32), k4 x1 x2 x3 = some out → ∀ {H : Heap} {locs : List Loc} {ls : Array Slot}, zIW G s μ H locs → lv_has ls 4 [(0, .ref (G.2.2.1 o 0)), (1, .int x1), (2, .int x2), (3, .int x3)] → W p l e (zrm 1) s m args below meth c H locs 0 0 Q (F0 m 4 ls [])) : ∀ (x1 : Int32) (x2 : Int32) (x3 : Int32), f_St_leaders_31 N S k4 x1 x2 x3 = some out → ∀ {H : Heap} {locs : List Loc} {ls : Array Slot}, zIW G s μ H locs → lv_has ls 4 [(0, .ref (G.2.2.1 o 0)), (1, .int x1), (2, .int x2), (3, .int x3)] → W p l e (zrm 1) s m args below meth c H locs 0 0 Q (F0 m 31 ls []) := by
  obtain ⟨hx, hb, hml, hown, hts, hK, hR⟩ := id cx
  intro x1 x2 x3  h H locs ls hI hl
  unfold f_St_leaders_31 at h
  obtain ⟨v5, ev5⟩ : ∃ z : Int32, z = x3 + (nI 1) := ⟨_, rfl⟩
  have h := bnd_el h ev5
  refine lv_iinc (v := v5) (lv' := [(3, .int v5), (0, .ref (G.2.2.1 o 0)), (1, .int x1), (2, .int x2)]) hx hb dX6_leaders_31 hl (k := 3) rfl (by rw [ev5]; rfl) (by decide) rfl (fun ls hl => ?_)
  refine lv_goto (tgt := 4) hx hb dX6_leaders_34 (by decide) ?_
  exact hk4 x1 x2 v5 h hI (lv_sub hl [1, 2, 3, 0] rfl)
def f_St_leaders_4 (N : Nat) (S : zOb)  : Nat → Int32 → Int32 → Int32 → Option Int32
  | 0, _, _, _ => none
  | n + 1, x1, x2, x3 => (if (S.1 0 3) ≤ x3 then some x2 else if zin x3 7 then (f_RS_hasBit (S.1 2 x3.toNatClampNeg) x1).bind (fun q3 => (if q3 = nI 0 then f_St_leaders_31 N S (f_St_leaders_4 N S n) x1 x2 x3 else bnd (x2 ||| ((nI 1) <<< (x3 &&& 31))) (fun v6 => f_St_leaders_31 N S (f_St_leaders_4 N S n) x1 v6 x3))) else none)
set_option maxHeartbeats 4000000 in
set_option maxRecDepth 100000 in
theorem t_St_leaders_4 (N : Nat) {p : Program} {l : Launch} {e : Env} {s : State} {m : MethodId} {args : Array Value} {below : List Frame} {meth : Method} {c : Code} {Q : State → Prop} {G : zG} {μ : zM} {o : Nat} (hc : zc o = 6) {S : zOb} (hS : μ o = S) {out : Int32} (cx : zCX p (zrm 1) s m args c RX6 cX6_leaders 4 1 G) (hret : zRi p l e (zrm 1) s m args below meth c cX6_leaders G .int Q out μ)   : ∀ (n : Nat) (x1 : Int32) (x2 : Int32) (x3 : Int32), f_St_leaders_4 N S n x1 x2 x3 = some out → ∀ {H : Heap} {locs : List Loc} {ls : Array Slot}, zIW G s μ H locs → lv_has ls 4 [(0, .ref (G.2.2.1 o 0)), (1, .int x1), (2, .int x2), (3, .int x3)] → W p l e (zrm 1) s m args below meth c H locs 0 0 Q (F0 m 4 ls []) := by
  obtain ⟨hx, hb, hml, hown, hts, hK, hR⟩ := id cx
  intro n
  induction n with
  | zero =>
    intro x1 x2 x3  h
    cases h
  | succ n ih =>
    intro x1 x2 x3  h H locs ls hI hl
    rw [f_St_leaders_4] at h
    refine lv_iload_n hx hb dX6_leaders_4 rfl (lv_at hl 3 rfl) ?_
    refine lv_aload_n hx hb dX6_leaders_5 rfl (lv_at hl 0 rfl) ?_
    refine g6_3 cx hI hc hS w_139 dX6_leaders_6 ?_
    refine lv_icmp_ge (tgt := 37) hx hb dX6_leaders_9 (by decide) (fun c1 => ?_) (fun c1 => ?_)
    · have h := it_p h c1
      refine lv_iload_n hx hb dX6_leaders_37 rfl (lv_at hl 2 rfl) ?_
      obtain rfl := Option.some.inj h
      exact hret _ _ _ _ dX6_leaders_38 rfl hI
    · have h := it_n h c1
      refine lv_aload_n hx hb dX6_leaders_12 rfl (lv_at hl 0 rfl) ?_
      refine g6_1 cx hI hc hS w_49 dX6_leaders_13 ?_
      refine lv_iload_n hx hb dX6_leaders_16 rfl (lv_at hl 3 rfl) ?_
      obtain ⟨g2, h⟩ := gd_el h
      refine zr_iald cx hI (k6_2 hc) hS (z6_2 hc) rfl g2 dX6_leaders_17 ?_
      refine lv_iload_n hx hb dX6_leaders_18 rfl (lv_at hl 1 rfl) ?_
      obtain ⟨q3, hq3, h⟩ := bi_el h
      refine zcNi (As := [.int (S.1 2 x3.toNatClampNeg), .int x1]) cx hI (c_RS_hasBit  hq3) mt_yX7_hasBit ms_yX7_hasBit hK.2.1.1 (by omega) rfl hl.1 rfl (Nat.le_of_ble_eq_true rfl) dX6_leaders_19 (fun H locs hI => ?_)
      refine lv_if_eq (tgt := 31) hx hb dX6_leaders_22 (by decide) (fun c4 => ?_) (fun c4 => ?_)
      · have h := it_p h c4
        exact t_St_leaders_31 N hc hS cx hret ih x1 x2 x3 h hI hl
      · have h := it_n h c4
        refine lv_iload_n hx hb dX6_leaders_25 rfl (lv_at hl 2 rfl) ?_
        refine lv_iconst (v := (nI 1)) hx hb dX6_leaders_26 (by decide) ?_
        refine lv_iload_n hx hb dX6_leaders_27 rfl (lv_at hl 3 rfl) ?_
        refine lv_ishl hx hb dX6_leaders_28 ?_
        refine lv_ior hx hb dX6_leaders_29 ?_
        refine lv_topi (fun v6 ev6 => ?_)
        have h := bnd_el h ev6
        refine lv_istore_n (lv' := [(2, .int v6), (0, .ref (G.2.2.1 o 0)), (1, .int x1), (3, .int x3)]) hx hb dX6_leaders_30 rfl hl (by decide) rfl (fun ls hl => ?_)
        exact t_St_leaders_31 N hc hS cx hret ih x1 v6 x3 h hI (lv_sub hl [1, 2, 0, 3] rfl)
def f_St_leaders (N : Nat) (S : zOb) (a1 : Int32) : Option Int32 :=
  f_St_leaders_4 N S N a1 (nI 0) (nI 0)
set_option maxHeartbeats 4000000 in
set_option maxRecDepth 100000 in
theorem c_St_leaders (N : Nat) {l : Launch} {G : zG} {μ : zM} {o : Nat} (hc : zc o = 6) {S : zOb} (hS : μ o = S) {a1 : Int32} {out : Int32} (h : f_St_leaders N S a1 = some out) : zMI l G yX6_leaders cX6_leaders 4 (some .int) 1 [.ref (G.2.2.1 o 0), .int a1] μ out μ := by
  refine zMI.of (by decide) (Nat.le_of_ble_eq_true rfl) (fun p e s m args below meth c Q ls cx hI hl hret => ?_)
  obtain ⟨hx, hb, hml, hown, hts, hK, hR⟩ := id cx
  have hl : lv_has ls 4 [(0, .ref (G.2.2.1 o 0)), (1, .int a1)] := hl
  unfold f_St_leaders at h
  refine lv_iconst (v := (nI 0)) hx hb dX6_leaders_0 (by decide) ?_
  refine lv_istore_n (lv' := [(2, .int (nI 0)), (0, .ref (G.2.2.1 o 0)), (1, .int a1)]) hx hb dX6_leaders_1 rfl hl (by decide) rfl (fun ls hl => ?_)
  refine lv_iconst (v := (nI 0)) hx hb dX6_leaders_2 (by decide) ?_
  refine lv_istore_n (lv' := [(3, .int (nI 0)), (2, .int (nI 0)), (0, .ref (G.2.2.1 o 0)), (1, .int a1)]) hx hb dX6_leaders_3 rfl hl (by decide) rfl (fun ls hl => ?_)
  exact t_St_leaders_4 N hc hS cx hret N a1 (nI 0) (nI 0) h hI (lv_sub hl [2, 3, 1, 0] rfl)
def f_St_changePrior_10  (S : zOb) : Option (Int32 × zOb) :=
  some ((-1 : Int32), S)
set_option maxHeartbeats 4000000 in
set_option maxRecDepth 100000 in
theorem t_St_changePrior_10  {p : Program} {l : Launch} {e : Env} {s : State} {m : MethodId} {args : Array Value} {below : List Frame} {meth : Method} {c : Code} {Q : State → Prop} {G : zG} {μ : zM} {o : Nat} (hc : zc o = 6) {out : (Int32 × zOb)} (cx : zCX p (zrm 0) s m args c RX6 cX6_changePrior 3 0 G) (hret : zRi p l e (zrm 0) s m args below meth c cX6_changePrior G .int Q out.1 (zset μ o out.2))   : ∀ (S : zOb), f_St_changePrior_10 S = some out → ∀ {H : Heap} {locs : List Loc} {ls : Array Slot}, zIW G s (zset μ o S) H locs → lv_has ls 3 [] → W p l e (zrm 0) s m args below meth c H locs 0 0 Q (F0 m 10 ls []) := by
  obtain ⟨hx, hb, hml, hown, hts, hK, hR⟩ := id cx
  intro S  h H locs ls hI hl
  unfold f_St_changePrior_10 at h
  refine lv_iconst (v := (-1 : Int32)) hx hb dX6_changePrior_10 (by decide) ?_
  obtain rfl := Option.some.inj h
  exact hret _ _ _ _ dX6_changePrior_11 rfl hI
def f_St_changePrior (S : zOb) (a1 : Int32) : Option (Int32 × zOb) :=
  (if a1 < nI 0 then f_St_changePrior_10 S else (if a1 ≤ (nI 1048575) then bnd (S.1 0 4) (fun v3 => (if v3 = a1 then some ((-2 : Int32), S) else bnd (zI S 0 4 a1) (fun Z5 => some (v3, Z5)))) else f_St_changePrior_10 S))
set_option maxHeartbeats 4000000 in
set_option maxRecDepth 100000 in
theorem c_St_changePrior {l : Launch} {G : zG} {μ : zM} {o : Nat} (hc : zc o = 6) {S : zOb} (hS : μ o = S) {a1 : Int32} {out : (Int32 × zOb)} (h : f_St_changePrior S a1 = some out) {μ' : zM} (hμ : zset μ o out.2 = μ') : zMI l G yX6_changePrior cX6_changePrior 3 (some .int) 0 [.ref (G.2.2.1 o 0), .int a1] μ out.1 μ' := by
  subst hμ
  refine zMI.of (by decide) (Nat.le_of_ble_eq_true rfl) (fun p e s m args below meth c Q ls cx hI hl hret => ?_)
  obtain ⟨hx, hb, hml, hown, hts, hK, hR⟩ := id cx
  have hl : lv_has ls 3 [(0, .ref (G.2.2.1 o 0)), (1, .int a1)] := hl
  rw [← zset_idS hS] at hI
  unfold f_St_changePrior at h
  refine lv_iload_n hx hb dX6_changePrior_0 rfl (lv_at hl 1 rfl) ?_
  refine lv_if_lt (tgt := 10) hx hb dX6_changePrior_1 (by decide) (fun c1 => ?_) (fun c1 => ?_)
  · have h := it_p h c1
    exact t_St_changePrior_10 hc cx hret S h hI (lv_sub hl [] rfl)
  · have h := it_n h c1
    refine lv_iload_n hx hb dX6_changePrior_4 rfl (lv_at hl 1 rfl) ?_
    refine lv_ldc (v := (nI 1048575)) hx hb hown (hts _ w_148) dX6_changePrior_5 ?_
    refine lv_icmp_le (tgt := 12) hx hb dX6_changePrior_7 (by decide) (fun c2 => ?_) (fun c2 => ?_)
    · have h := it_p h c2
      refine lv_aload_n hx hb dX6_changePrior_12 rfl (lv_at hl 0 rfl) ?_
      refine g6_4 cx hI hc (zset_s _ _ _) w_140 dX6_changePrior_13 ?_
      refine lv_topi (fun v3 ev3 => ?_)
      have h := bnd_el h ev3
      refine lv_istore_n (lv' := [(2, .int v3), (0, .ref (G.2.2.1 o 0)), (1, .int a1)]) hx hb dX6_changePrior_16 rfl hl (by decide) rfl (fun ls hl => ?_)
      refine lv_iload_n hx hb dX6_changePrior_17 rfl (lv_at hl 0 rfl) ?_
      refine lv_iload_n hx hb dX6_changePrior_18 rfl (lv_at hl 2 rfl) ?_
      refine lv_icmp_ne (tgt := 25) hx hb dX6_changePrior_19 (by decide) (fun c4 => ?_) (fun c4 => ?_)
      · have h := it_n h c4
        refine lv_aload_n hx hb dX6_changePrior_25 rfl (lv_at hl 1 rfl) ?_
        refine lv_iload_n hx hb dX6_changePrior_26 rfl (lv_at hl 2 rfl) ?_
        obtain ⟨Z5, eZ5⟩ : ∃ z : zOb, z = zI S 0 4 a1 := ⟨_, rfl⟩
        have h := bnd_el h eZ5
        refine p6_4 cx hI hc (zset_s _ _ _) w_140 (zss eZ5) dX6_changePrior_27 (fun H locs hI => ?_)
        refine lv_iload_n hx hb dX6_changePrior_30 rfl (lv_at hl 0 rfl) ?_
        obtain rfl := Option.some.inj h
        exact hret _ _ _ _ dX6_changePrior_31 rfl hI
      · have h := it_p h c4
        refine lv_bipush (v := (-2 : Int32)) hx hb dX6_changePrior_22 (by decide) ?_
        obtain rfl := Option.some.inj h
        exact hret _ _ _ _ dX6_changePrior_24 rfl hI
    · have h := it_n h c2
      exact t_St_changePrior_10 hc cx hret S h hI (lv_sub hl [] rfl)
def f_St_changeBound_10  (S : zOb) : Option (Int32 × zOb) :=
  some ((-1 : Int32), S)
set_option maxHeartbeats 4000000 in
set_option maxRecDepth 100000 in
theorem t_St_changeBound_10  {p : Program} {l : Launch} {e : Env} {s : State} {m : MethodId} {args : Array Value} {below : List Frame} {meth : Method} {c : Code} {Q : State → Prop} {G : zG} {μ : zM} {o : Nat} (hc : zc o = 6) {out : (Int32 × zOb)} (cx : zCX p (zrm 0) s m args c RX6 cX6_changeBound 3 0 G) (hret : zRi p l e (zrm 0) s m args below meth c cX6_changeBound G .int Q out.1 (zset μ o out.2))   : ∀ (S : zOb), f_St_changeBound_10 S = some out → ∀ {H : Heap} {locs : List Loc} {ls : Array Slot}, zIW G s (zset μ o S) H locs → lv_has ls 3 [] → W p l e (zrm 0) s m args below meth c H locs 0 0 Q (F0 m 10 ls []) := by
  obtain ⟨hx, hb, hml, hown, hts, hK, hR⟩ := id cx
  intro S  h H locs ls hI hl
  unfold f_St_changeBound_10 at h
  refine lv_iconst (v := (-1 : Int32)) hx hb dX6_changeBound_10 (by decide) ?_
  obtain rfl := Option.some.inj h
  exact hret _ _ _ _ dX6_changeBound_11 rfl hI
def f_St_changeBound_33  (S : zOb) (s0 : Int32) : Option (Int32 × zOb) :=
  some (s0, S)
set_option maxHeartbeats 4000000 in
set_option maxRecDepth 100000 in
theorem t_St_changeBound_33  {p : Program} {l : Launch} {e : Env} {s : State} {m : MethodId} {args : Array Value} {below : List Frame} {meth : Method} {c : Code} {Q : State → Prop} {G : zG} {μ : zM} {o : Nat} (hc : zc o = 6) {out : (Int32 × zOb)} (cx : zCX p (zrm 0) s m args c RX6 cX6_changeBound 3 0 G) (hret : zRi p l e (zrm 0) s m args below meth c cX6_changeBound G .int Q out.1 (zset μ o out.2))   : ∀ (S : zOb) (s0 : Int32), f_St_changeBound_33 S s0 = some out → ∀ {H : Heap} {locs : List Loc} {ls : Array Slot}, zIW G s (zset μ o S) H locs → lv_has ls 3 [] → W p l e (zrm 0) s m args below meth c H locs 0 0 Q (F0 m 33 ls [.int s0]) := by
  obtain ⟨hx, hb, hml, hown, hts, hK, hR⟩ := id cx
  intro S s0  h H locs ls hI hl
  unfold f_St_changeBound_33 at h
  obtain rfl := Option.some.inj h
  exact hret _ _ _ _ dX6_changeBound_33 rfl hI
def f_St_changeBound (S : zOb) (a1 : Int32) : Option (Int32 × zOb) :=
  (if a1 < nI 0 then f_St_changeBound_10 S else (if a1 ≤ (nI 20) then bnd (S.1 0 6) (fun v3 => bnd (zI S 0 6 a1) (fun Z4 => (if v3 = a1 then f_St_changeBound_33 Z4 (-2 : Int32) else f_St_changeBound_33 Z4 v3))) else f_St_changeBound_10 S))
set_option maxHeartbeats 4000000 in
set_option maxRecDepth 100000 in
theorem c_St_changeBound {l : Launch} {G : zG} {μ : zM} {o : Nat} (hc : zc o = 6) {S : zOb} (hS : μ o = S) {a1 : Int32} {out : (Int32 × zOb)} (h : f_St_changeBound S a1 = some out) {μ' : zM} (hμ : zset μ o out.2 = μ') : zMI l G yX6_changeBound cX6_changeBound 3 (some .int) 0 [.ref (G.2.2.1 o 0), .int a1] μ out.1 μ' := by
  subst hμ
  refine zMI.of (by decide) (Nat.le_of_ble_eq_true rfl) (fun p e s m args below meth c Q ls cx hI hl hret => ?_)
  obtain ⟨hx, hb, hml, hown, hts, hK, hR⟩ := id cx
  have hl : lv_has ls 3 [(0, .ref (G.2.2.1 o 0)), (1, .int a1)] := hl
  rw [← zset_idS hS] at hI
  unfold f_St_changeBound at h
  refine lv_iload_n hx hb dX6_changeBound_0 rfl (lv_at hl 1 rfl) ?_
  refine lv_if_lt (tgt := 10) hx hb dX6_changeBound_1 (by decide) (fun c1 => ?_) (fun c1 => ?_)
  · have h := it_p h c1
    exact t_St_changeBound_10 hc cx hret S h hI (lv_sub hl [] rfl)
  · have h := it_n h c1
    refine lv_iload_n hx hb dX6_changeBound_4 rfl (lv_at hl 1 rfl) ?_
    refine lv_bipush (v := (nI 20)) hx hb dX6_changeBound_5 (by decide) ?_
    refine lv_icmp_le (tgt := 12) hx hb dX6_changeBound_7 (by decide) (fun c2 => ?_) (fun c2 => ?_)
    · have h := it_p h c2
      refine lv_aload_n hx hb dX6_changeBound_12 rfl (lv_at hl 0 rfl) ?_
      refine g6_6 cx hI hc (zset_s _ _ _) w_52 dX6_changeBound_13 ?_
      refine lv_topi (fun v3 ev3 => ?_)
      have h := bnd_el h ev3
      refine lv_istore_n (lv' := [(2, .int v3), (0, .ref (G.2.2.1 o 0)), (1, .int a1)]) hx hb dX6_changeBound_16 rfl hl (by decide) rfl (fun ls hl => ?_)
      refine lv_aload_n hx hb dX6_changeBound_17 rfl (lv_at hl 1 rfl) ?_
      refine lv_iload_n hx hb dX6_changeBound_18 rfl (lv_at hl 2 rfl) ?_
      obtain ⟨Z4, eZ4⟩ : ∃ z : zOb, z = zI S 0 6 a1 := ⟨_, rfl⟩
      have h := bnd_el h eZ4
      refine p6_6 cx hI hc (zset_s _ _ _) w_52 (zss eZ4) dX6_changeBound_19 (fun H locs hI => ?_)
      refine lv_iload_n hx hb dX6_changeBound_22 rfl (lv_at hl 0 rfl) ?_
      refine lv_iload_n hx hb dX6_changeBound_23 rfl (lv_at hl 2 rfl) ?_
      refine lv_icmp_ne (tgt := 32) hx hb dX6_changeBound_24 (by decide) (fun c5 => ?_) (fun c5 => ?_)
      · have h := it_n h c5
        refine lv_iload_n hx hb dX6_changeBound_32 rfl (lv_at hl 0 rfl) ?_
        exact t_St_changeBound_33 hc cx hret Z4 v3 h hI (lv_sub hl [] rfl)
      · have h := it_p h c5
        refine lv_bipush (v := (-2 : Int32)) hx hb dX6_changeBound_27 (by decide) ?_
        refine lv_goto (tgt := 33) hx hb dX6_changeBound_29 (by decide) ?_
        exact t_St_changeBound_33 hc cx hret Z4 (-2 : Int32) h hI (lv_sub hl [] rfl)
    · have h := it_n h c2
      exact t_St_changeBound_10 hc cx hret S h hI (lv_sub hl [] rfl)
def f_St_changeRule_9  (S : zOb) : Option (Int32 × zOb) :=
  some ((-1 : Int32), S)
set_option maxHeartbeats 4000000 in
set_option maxRecDepth 100000 in
theorem t_St_changeRule_9  {p : Program} {l : Launch} {e : Env} {s : State} {m : MethodId} {args : Array Value} {below : List Frame} {meth : Method} {c : Code} {Q : State → Prop} {G : zG} {μ : zM} {o : Nat} (hc : zc o = 6) {out : (Int32 × zOb)} (cx : zCX p (zrm 0) s m args c RX6 cX6_changeRule 3 0 G) (hret : zRi p l e (zrm 0) s m args below meth c cX6_changeRule G .int Q out.1 (zset μ o out.2))   : ∀ (S : zOb), f_St_changeRule_9 S = some out → ∀ {H : Heap} {locs : List Loc} {ls : Array Slot}, zIW G s (zset μ o S) H locs → lv_has ls 3 [] → W p l e (zrm 0) s m args below meth c H locs 0 0 Q (F0 m 9 ls []) := by
  obtain ⟨hx, hb, hml, hown, hts, hK, hR⟩ := id cx
  intro S  h H locs ls hI hl
  unfold f_St_changeRule_9 at h
  refine lv_iconst (v := (-1 : Int32)) hx hb dX6_changeRule_9 (by decide) ?_
  obtain rfl := Option.some.inj h
  exact hret _ _ _ _ dX6_changeRule_10 rfl hI
def f_St_changeRule_32  (S : zOb) (s0 : Int32) : Option (Int32 × zOb) :=
  some (s0, S)
set_option maxHeartbeats 4000000 in
set_option maxRecDepth 100000 in
theorem t_St_changeRule_32  {p : Program} {l : Launch} {e : Env} {s : State} {m : MethodId} {args : Array Value} {below : List Frame} {meth : Method} {c : Code} {Q : State → Prop} {G : zG} {μ : zM} {o : Nat} (hc : zc o = 6) {out : (Int32 × zOb)} (cx : zCX p (zrm 0) s m args c RX6 cX6_changeRule 3 0 G) (hret : zRi p l e (zrm 0) s m args below meth c cX6_changeRule G .int Q out.1 (zset μ o out.2))   : ∀ (S : zOb) (s0 : Int32), f_St_changeRule_32 S s0 = some out → ∀ {H : Heap} {locs : List Loc} {ls : Array Slot}, zIW G s (zset μ o S) H locs → lv_has ls 3 [] → W p l e (zrm 0) s m args below meth c H locs 0 0 Q (F0 m 32 ls [.int s0]) := by
  obtain ⟨hx, hb, hml, hown, hts, hK, hR⟩ := id cx
  intro S s0  h H locs ls hI hl
  unfold f_St_changeRule_32 at h
  obtain rfl := Option.some.inj h
  exact hret _ _ _ _ dX6_changeRule_32 rfl hI
def f_St_changeRule (S : zOb) (a1 : Int32) : Option (Int32 × zOb) :=
  (if a1 < nI 0 then f_St_changeRule_9 S else (if a1 < (nI 3) then bnd (S.1 0 7) (fun v3 => bnd (zI S 0 7 a1) (fun Z4 => (if v3 = a1 then f_St_changeRule_32 Z4 (-2 : Int32) else f_St_changeRule_32 Z4 v3))) else f_St_changeRule_9 S))
set_option maxHeartbeats 4000000 in
set_option maxRecDepth 100000 in
theorem c_St_changeRule {l : Launch} {G : zG} {μ : zM} {o : Nat} (hc : zc o = 6) {S : zOb} (hS : μ o = S) {a1 : Int32} {out : (Int32 × zOb)} (h : f_St_changeRule S a1 = some out) {μ' : zM} (hμ : zset μ o out.2 = μ') : zMI l G yX6_changeRule cX6_changeRule 3 (some .int) 0 [.ref (G.2.2.1 o 0), .int a1] μ out.1 μ' := by
  subst hμ
  refine zMI.of (by decide) (Nat.le_of_ble_eq_true rfl) (fun p e s m args below meth c Q ls cx hI hl hret => ?_)
  obtain ⟨hx, hb, hml, hown, hts, hK, hR⟩ := id cx
  have hl : lv_has ls 3 [(0, .ref (G.2.2.1 o 0)), (1, .int a1)] := hl
  rw [← zset_idS hS] at hI
  unfold f_St_changeRule at h
  refine lv_iload_n hx hb dX6_changeRule_0 rfl (lv_at hl 1 rfl) ?_
  refine lv_if_lt (tgt := 9) hx hb dX6_changeRule_1 (by decide) (fun c1 => ?_) (fun c1 => ?_)
  · have h := it_p h c1
    exact t_St_changeRule_9 hc cx hret S h hI (lv_sub hl [] rfl)
  · have h := it_n h c1
    refine lv_iload_n hx hb dX6_changeRule_4 rfl (lv_at hl 1 rfl) ?_
    refine lv_iconst (v := (nI 3)) hx hb dX6_changeRule_5 (by decide) ?_
    refine lv_icmp_lt (tgt := 11) hx hb dX6_changeRule_6 (by decide) (fun c2 => ?_) (fun c2 => ?_)
    · have h := it_p h c2
      refine lv_aload_n hx hb dX6_changeRule_11 rfl (lv_at hl 0 rfl) ?_
      refine g6_7 cx hI hc (zset_s _ _ _) w_53 dX6_changeRule_12 ?_
      refine lv_topi (fun v3 ev3 => ?_)
      have h := bnd_el h ev3
      refine lv_istore_n (lv' := [(2, .int v3), (0, .ref (G.2.2.1 o 0)), (1, .int a1)]) hx hb dX6_changeRule_15 rfl hl (by decide) rfl (fun ls hl => ?_)
      refine lv_aload_n hx hb dX6_changeRule_16 rfl (lv_at hl 1 rfl) ?_
      refine lv_iload_n hx hb dX6_changeRule_17 rfl (lv_at hl 2 rfl) ?_
      obtain ⟨Z4, eZ4⟩ : ∃ z : zOb, z = zI S 0 7 a1 := ⟨_, rfl⟩
      have h := bnd_el h eZ4
      refine p6_7 cx hI hc (zset_s _ _ _) w_53 (zss eZ4) dX6_changeRule_18 (fun H locs hI => ?_)
      refine lv_iload_n hx hb dX6_changeRule_21 rfl (lv_at hl 0 rfl) ?_
      refine lv_iload_n hx hb dX6_changeRule_22 rfl (lv_at hl 2 rfl) ?_
      refine lv_icmp_ne (tgt := 31) hx hb dX6_changeRule_23 (by decide) (fun c5 => ?_) (fun c5 => ?_)
      · have h := it_n h c5
        refine lv_iload_n hx hb dX6_changeRule_31 rfl (lv_at hl 0 rfl) ?_
        exact t_St_changeRule_32 hc cx hret Z4 v3 h hI (lv_sub hl [] rfl)
      · have h := it_p h c5
        refine lv_bipush (v := (-2 : Int32)) hx hb dX6_changeRule_26 (by decide) ?_
        refine lv_goto (tgt := 32) hx hb dX6_changeRule_28 (by decide) ?_
        exact t_St_changeRule_32 hc cx hret Z4 (-2 : Int32) h hI (lv_sub hl [] rfl)
    · have h := it_n h c2
      exact t_St_changeRule_9 hc cx hret S h hI (lv_sub hl [] rfl)
def f_St_changeSpan_10  (S : zOb) : Option (Int32 × zOb) :=
  some ((-1 : Int32), S)
set_option maxHeartbeats 4000000 in
set_option maxRecDepth 100000 in
theorem t_St_changeSpan_10  {p : Program} {l : Launch} {e : Env} {s : State} {m : MethodId} {args : Array Value} {below : List Frame} {meth : Method} {c : Code} {Q : State → Prop} {G : zG} {μ : zM} {o : Nat} (hc : zc o = 6) {out : (Int32 × zOb)} (cx : zCX p (zrm 0) s m args c RX6 cX6_changeSpan 3 0 G) (hret : zRi p l e (zrm 0) s m args below meth c cX6_changeSpan G .int Q out.1 (zset μ o out.2))   : ∀ (S : zOb), f_St_changeSpan_10 S = some out → ∀ {H : Heap} {locs : List Loc} {ls : Array Slot}, zIW G s (zset μ o S) H locs → lv_has ls 3 [] → W p l e (zrm 0) s m args below meth c H locs 0 0 Q (F0 m 10 ls []) := by
  obtain ⟨hx, hb, hml, hown, hts, hK, hR⟩ := id cx
  intro S  h H locs ls hI hl
  unfold f_St_changeSpan_10 at h
  refine lv_iconst (v := (-1 : Int32)) hx hb dX6_changeSpan_10 (by decide) ?_
  obtain rfl := Option.some.inj h
  exact hret _ _ _ _ dX6_changeSpan_11 rfl hI
def f_St_changeSpan_33  (S : zOb) (s0 : Int32) : Option (Int32 × zOb) :=
  some (s0, S)
set_option maxHeartbeats 4000000 in
set_option maxRecDepth 100000 in
theorem t_St_changeSpan_33  {p : Program} {l : Launch} {e : Env} {s : State} {m : MethodId} {args : Array Value} {below : List Frame} {meth : Method} {c : Code} {Q : State → Prop} {G : zG} {μ : zM} {o : Nat} (hc : zc o = 6) {out : (Int32 × zOb)} (cx : zCX p (zrm 0) s m args c RX6 cX6_changeSpan 3 0 G) (hret : zRi p l e (zrm 0) s m args below meth c cX6_changeSpan G .int Q out.1 (zset μ o out.2))   : ∀ (S : zOb) (s0 : Int32), f_St_changeSpan_33 S s0 = some out → ∀ {H : Heap} {locs : List Loc} {ls : Array Slot}, zIW G s (zset μ o S) H locs → lv_has ls 3 [] → W p l e (zrm 0) s m args below meth c H locs 0 0 Q (F0 m 33 ls [.int s0]) := by
  obtain ⟨hx, hb, hml, hown, hts, hK, hR⟩ := id cx
  intro S s0  h H locs ls hI hl
  unfold f_St_changeSpan_33 at h
  obtain rfl := Option.some.inj h
  exact hret _ _ _ _ dX6_changeSpan_33 rfl hI
def f_St_changeSpan (S : zOb) (a1 : Int32) : Option (Int32 × zOb) :=
  (if a1 < (nI 1) then f_St_changeSpan_10 S else (if a1 ≤ (nI 4) then bnd (S.1 0 5) (fun v3 => bnd (zI S 0 5 a1) (fun Z4 => (if v3 = a1 then f_St_changeSpan_33 Z4 (-2 : Int32) else f_St_changeSpan_33 Z4 v3))) else f_St_changeSpan_10 S))
set_option maxHeartbeats 4000000 in
set_option maxRecDepth 100000 in
theorem c_St_changeSpan {l : Launch} {G : zG} {μ : zM} {o : Nat} (hc : zc o = 6) {S : zOb} (hS : μ o = S) {a1 : Int32} {out : (Int32 × zOb)} (h : f_St_changeSpan S a1 = some out) {μ' : zM} (hμ : zset μ o out.2 = μ') : zMI l G yX6_changeSpan cX6_changeSpan 3 (some .int) 0 [.ref (G.2.2.1 o 0), .int a1] μ out.1 μ' := by
  subst hμ
  refine zMI.of (by decide) (Nat.le_of_ble_eq_true rfl) (fun p e s m args below meth c Q ls cx hI hl hret => ?_)
  obtain ⟨hx, hb, hml, hown, hts, hK, hR⟩ := id cx
  have hl : lv_has ls 3 [(0, .ref (G.2.2.1 o 0)), (1, .int a1)] := hl
  rw [← zset_idS hS] at hI
  unfold f_St_changeSpan at h
  refine lv_iload_n hx hb dX6_changeSpan_0 rfl (lv_at hl 1 rfl) ?_
  refine lv_iconst (v := (nI 1)) hx hb dX6_changeSpan_1 (by decide) ?_
  refine lv_icmp_lt (tgt := 10) hx hb dX6_changeSpan_2 (by decide) (fun c1 => ?_) (fun c1 => ?_)
  · have h := it_p h c1
    exact t_St_changeSpan_10 hc cx hret S h hI (lv_sub hl [] rfl)
  · have h := it_n h c1
    refine lv_iload_n hx hb dX6_changeSpan_5 rfl (lv_at hl 1 rfl) ?_
    refine lv_iconst (v := (nI 4)) hx hb dX6_changeSpan_6 (by decide) ?_
    refine lv_icmp_le (tgt := 12) hx hb dX6_changeSpan_7 (by decide) (fun c2 => ?_) (fun c2 => ?_)
    · have h := it_p h c2
      refine lv_aload_n hx hb dX6_changeSpan_12 rfl (lv_at hl 0 rfl) ?_
      refine g6_5 cx hI hc (zset_s _ _ _) w_51 dX6_changeSpan_13 ?_
      refine lv_topi (fun v3 ev3 => ?_)
      have h := bnd_el h ev3
      refine lv_istore_n (lv' := [(2, .int v3), (0, .ref (G.2.2.1 o 0)), (1, .int a1)]) hx hb dX6_changeSpan_16 rfl hl (by decide) rfl (fun ls hl => ?_)
      refine lv_aload_n hx hb dX6_changeSpan_17 rfl (lv_at hl 1 rfl) ?_
      refine lv_iload_n hx hb dX6_changeSpan_18 rfl (lv_at hl 2 rfl) ?_
      obtain ⟨Z4, eZ4⟩ : ∃ z : zOb, z = zI S 0 5 a1 := ⟨_, rfl⟩
      have h := bnd_el h eZ4
      refine p6_5 cx hI hc (zset_s _ _ _) w_51 (zss eZ4) dX6_changeSpan_19 (fun H locs hI => ?_)
      refine lv_iload_n hx hb dX6_changeSpan_22 rfl (lv_at hl 0 rfl) ?_
      refine lv_iload_n hx hb dX6_changeSpan_23 rfl (lv_at hl 2 rfl) ?_
      refine lv_icmp_ne (tgt := 32) hx hb dX6_changeSpan_24 (by decide) (fun c5 => ?_) (fun c5 => ?_)
      · have h := it_n h c5
        refine lv_iload_n hx hb dX6_changeSpan_32 rfl (lv_at hl 0 rfl) ?_
        exact t_St_changeSpan_33 hc cx hret Z4 v3 h hI (lv_sub hl [] rfl)
      · have h := it_p h c5
        refine lv_bipush (v := (-2 : Int32)) hx hb dX6_changeSpan_27 (by decide) ?_
        refine lv_goto (tgt := 33) hx hb dX6_changeSpan_29 (by decide) ?_
        exact t_St_changeSpan_33 hc cx hret Z4 (-2 : Int32) h hI (lv_sub hl [] rfl)
    · have h := it_n h c2
      exact t_St_changeSpan_10 hc cx hret S h hI (lv_sub hl [] rfl)
def f_St_changeRules (S : zOb) (a1 : Int32) (a2 : Int32) : Option (Int32 × zOb) :=
  (if a1 = (nI 0) then (f_St_changeSpan S a2).bind (fun q2 => some (q2.1, q2.2)) else if a1 = (nI 1) then (f_St_changeBound S a2).bind (fun q4 => some (q4.1, q4.2)) else if a1 = (nI 2) then (f_St_changeRule S a2).bind (fun q6 => some (q6.1, q6.2)) else some ((-1 : Int32), S))
set_option maxHeartbeats 4000000 in
set_option maxRecDepth 100000 in
theorem c_St_changeRules {l : Launch} {G : zG} {μ : zM} {o : Nat} (hc : zc o = 6) {S : zOb} (hS : μ o = S) {a1 : Int32} {a2 : Int32} {out : (Int32 × zOb)} (h : f_St_changeRules S a1 a2 = some out) {μ' : zM} (hμ : zset μ o out.2 = μ') : zMI l G yX6_changeRules cX6_changeRules 3 (some .int) 1 [.ref (G.2.2.1 o 0), .int a1, .int a2] μ out.1 μ' := by
  subst hμ
  refine zMI.of (by decide) (Nat.le_of_ble_eq_true rfl) (fun p e s m args below meth c Q ls cx hI hl hret => ?_)
  obtain ⟨hx, hb, hml, hown, hts, hK, hR⟩ := id cx
  have hl : lv_has ls 3 [(0, .ref (G.2.2.1 o 0)), (1, .int a1), (2, .int a2)] := hl
  rw [← zset_idS hS] at hI
  unfold f_St_changeRules at h
  refine lv_iload_n hx hb dX6_changeRules_0 rfl (lv_at hl 1 rfl) ?_
  by_cases c1 : a1 = (nI 0)
  · have h := it_p h c1
    refine lv_tableIn (off := 27) (tgt := 28) hx hb dX6_changeRules_1 (by rw [c1]; decide) (by rw [c1]; decide) (by rw [c1]; rfl) (by decide) ?_
    refine lv_aload_n hx hb dX6_changeRules_28 rfl (lv_at hl 0 rfl) ?_
    refine lv_iload_n hx hb dX6_changeRules_29 rfl (lv_at hl 2 rfl) ?_
    obtain ⟨q2, hq2, h⟩ := bi_el h
    refine zcVi (As := [.int a2]) cx hI (c_St_changeSpan hc (zset_s _ _ _) hq2 (zset_ss _ _ _ _)) mt_yX6_changeSpan mv_yX6_changeSpan w_306 (by omega) (k6_0 hc) (zv6 hc) rfl hl.1 rfl (Nat.le_of_ble_eq_true rfl) dX6_changeRules_30 (fun H locs hI => ?_)
    obtain rfl := Option.some.inj h
    exact hret _ _ _ _ dX6_changeRules_33 rfl hI
  · have h := it_n h c1
    by_cases c3 : a1 = (nI 1)
    · have h := it_p h c3
      refine lv_tableIn (off := 33) (tgt := 34) hx hb dX6_changeRules_1 (by rw [c3]; decide) (by rw [c3]; decide) (by rw [c3]; rfl) (by decide) ?_
      refine lv_aload_n hx hb dX6_changeRules_34 rfl (lv_at hl 0 rfl) ?_
      refine lv_iload_n hx hb dX6_changeRules_35 rfl (lv_at hl 2 rfl) ?_
      obtain ⟨q4, hq4, h⟩ := bi_el h
      refine zcVi (As := [.int a2]) cx hI (c_St_changeBound hc (zset_s _ _ _) hq4 (zset_ss _ _ _ _)) mt_yX6_changeBound mv_yX6_changeBound w_310 (by omega) (k6_0 hc) (zv6 hc) rfl hl.1 rfl (Nat.le_of_ble_eq_true rfl) dX6_changeRules_36 (fun H locs hI => ?_)
      obtain rfl := Option.some.inj h
      exact hret _ _ _ _ dX6_changeRules_39 rfl hI
    · have h := it_n h c3
      by_cases c5 : a1 = (nI 2)
      · have h := it_p h c5
        refine lv_tableIn (off := 39) (tgt := 40) hx hb dX6_changeRules_1 (by rw [c5]; decide) (by rw [c5]; decide) (by rw [c5]; rfl) (by decide) ?_
        refine lv_aload_n hx hb dX6_changeRules_40 rfl (lv_at hl 0 rfl) ?_
        refine lv_iload_n hx hb dX6_changeRules_41 rfl (lv_at hl 2 rfl) ?_
        obtain ⟨q6, hq6, h⟩ := bi_el h
        refine zcVi (As := [.int a2]) cx hI (c_St_changeRule hc (zset_s _ _ _) hq6 (zset_ss _ _ _ _)) mt_yX6_changeRule mv_yX6_changeRule w_314 (by omega) (k6_0 hc) (zv6 hc) rfl hl.1 rfl (Nat.le_of_ble_eq_true rfl) dX6_changeRules_42 (fun H locs hI => ?_)
        obtain rfl := Option.some.inj h
        exact hret _ _ _ _ dX6_changeRules_45 rfl hI
      · have h := it_n h c5
        refine lv_tableOut (tgt := 46) hx hb dX6_changeRules_1 (by have tc1 := tn c1 (i := 0) rfl; have tc3 := tn c3 (i := 1) rfl; have tc5 := tn c5 (i := 2) rfl; omega) (by decide) ?_
        refine lv_iconst (v := (-1 : Int32)) hx hb dX6_changeRules_46 (by decide) ?_
        obtain rfl := Option.some.inj h
        exact hret _ _ _ _ dX6_changeRules_47 rfl hI
def f_St_moveBook_16 (N : Nat)  (S : zOb) : Option (Int32 × zOb) :=
  some ((-1 : Int32), S)
set_option maxHeartbeats 4000000 in
set_option maxRecDepth 100000 in
theorem t_St_moveBook_16 (N : Nat) {p : Program} {l : Launch} {e : Env} {s : State} {m : MethodId} {args : Array Value} {below : List Frame} {meth : Method} {c : Code} {Q : State → Prop} {G : zG} {μ : zM} {o : Nat} (hc : zc o = 6) {out : (Int32 × zOb)} (cx : zCX p (zrm 1) s m args c RX6 cX6_moveBook 5 1 G) (hret : zRi p l e (zrm 1) s m args below meth c cX6_moveBook G .int Q out.1 (zset μ o out.2))   : ∀ (S : zOb), f_St_moveBook_16 N S = some out → ∀ {H : Heap} {locs : List Loc} {ls : Array Slot}, zIW G s (zset μ o S) H locs → lv_has ls 5 [] → W p l e (zrm 1) s m args below meth c H locs 0 0 Q (F0 m 16 ls []) := by
  obtain ⟨hx, hb, hml, hown, hts, hK, hR⟩ := id cx
  intro S  h H locs ls hI hl
  unfold f_St_moveBook_16 at h
  refine lv_iconst (v := (-1 : Int32)) hx hb dX6_moveBook_16 (by decide) ?_
  obtain rfl := Option.some.inj h
  exact hret _ _ _ _ dX6_moveBook_17 rfl hI
def f_St_moveBook_67 (N : Nat)  : Nat → zOb → Int32 → Int32 → Int32 → Option (Int32 × zOb)
  | 0, _, _, _, _ => none
  | n + 1, S, x2, x3, x4 => (if x4 ≤ x2 then if zin x2 7 then bnd (zI S 3 x2.toNatClampNeg x3) (fun Z11 => some (x3, Z11)) else none else if zin (x4 - (nI 1)) 7 then if zin x4 7 then bnd (zI S 3 x4.toNatClampNeg (S.1 3 ((x4 - (nI 1)).toNatClampNeg))) (fun Z14 => bnd (x4 + (-1 : Int32)) (fun v15 => f_St_moveBook_67 N n Z14 x2 x3 v15)) else none else none)
set_option maxHeartbeats 4000000 in
set_option maxRecDepth 100000 in
theorem t_St_moveBook_67 (N : Nat) {p : Program} {l : Launch} {e : Env} {s : State} {m : MethodId} {args : Array Value} {below : List Frame} {meth : Method} {c : Code} {Q : State → Prop} {G : zG} {μ : zM} {o : Nat} (hc : zc o = 6) {out : (Int32 × zOb)} (cx : zCX p (zrm 1) s m args c RX6 cX6_moveBook 5 1 G) (hret : zRi p l e (zrm 1) s m args below meth c cX6_moveBook G .int Q out.1 (zset μ o out.2))   : ∀ (n : Nat) (S : zOb) (x2 : Int32) (x3 : Int32) (x4 : Int32), f_St_moveBook_67 N n S x2 x3 x4 = some out → ∀ {H : Heap} {locs : List Loc} {ls : Array Slot}, zIW G s (zset μ o S) H locs → lv_has ls 5 [(0, .ref (G.2.2.1 o 0)), (2, .int x2), (3, .int x3), (4, .int x4)] → W p l e (zrm 1) s m args below meth c H locs 0 0 Q (F0 m 67 ls []) := by
  obtain ⟨hx, hb, hml, hown, hts, hK, hR⟩ := id cx
  intro n
  induction n with
  | zero =>
    intro S x2 x3 x4  h
    cases h
  | succ n ih =>
    intro S x2 x3 x4  h H locs ls hI hl
    rw [f_St_moveBook_67] at h
    refine lv_iload hx hb dX6_moveBook_67 (lv_at hl 3 rfl) ?_
    refine lv_iload_n hx hb dX6_moveBook_69 rfl (lv_at hl 1 rfl) ?_
    refine lv_icmp_le (tgt := 95) hx hb dX6_moveBook_70 (by decide) (fun c9 => ?_) (fun c9 => ?_)
    · have h := it_p h c9
      refine lv_aload_n hx hb dX6_moveBook_95 rfl (lv_at hl 0 rfl) ?_
      refine g6_2 cx hI hc (zset_s _ _ _) w_50 dX6_moveBook_96 ?_
      refine lv_iload_n hx hb dX6_moveBook_99 rfl (lv_at hl 1 rfl) ?_
      refine lv_iload_n hx hb dX6_moveBook_100 rfl (lv_at hl 2 rfl) ?_
      obtain ⟨g10, h⟩ := gd_el h
      obtain ⟨Z11, eZ11⟩ : ∃ z : zOb, z = zI S 3 x2.toNatClampNeg x3 := ⟨_, rfl⟩
      have h := bnd_el h eZ11
      refine zr_iast cx hI (k6_3 hc) (zset_s _ _ _) (z6_3 hc) rfl g10 (zss eZ11) dX6_moveBook_101 (fun H locs hI => ?_)
      refine lv_iload_n hx hb dX6_moveBook_102 rfl (lv_at hl 2 rfl) ?_
      obtain rfl := Option.some.inj h
      exact hret _ _ _ _ dX6_moveBook_103 rfl hI
    · have h := it_n h c9
      refine lv_aload_n hx hb dX6_moveBook_73 rfl (lv_at hl 0 rfl) ?_
      refine g6_2 cx hI hc (zset_s _ _ _) w_50 dX6_moveBook_74 ?_
      refine lv_iload hx hb dX6_moveBook_77 (lv_at hl 3 rfl) ?_
      refine lv_aload_n hx hb dX6_moveBook_79 rfl (lv_at hl 0 rfl) ?_
      refine g6_2 cx hI hc (zset_s _ _ _) w_50 dX6_moveBook_80 ?_
      refine lv_iload hx hb dX6_moveBook_83 (lv_at hl 3 rfl) ?_
      refine lv_iconst (v := (nI 1)) hx hb dX6_moveBook_85 (by decide) ?_
      refine lv_isub hx hb dX6_moveBook_86 ?_
      obtain ⟨g12, h⟩ := gd_el h
      refine zr_iald cx hI (k6_3 hc) (zset_s _ _ _) (z6_3 hc) rfl g12 dX6_moveBook_87 ?_
      obtain ⟨g13, h⟩ := gd_el h
      obtain ⟨Z14, eZ14⟩ : ∃ z : zOb, z = zI S 3 x4.toNatClampNeg (S.1 3 ((x4 - (nI 1)).toNatClampNeg)) := ⟨_, rfl⟩
      have h := bnd_el h eZ14
      refine zr_iast cx hI (k6_3 hc) (zset_s _ _ _) (z6_3 hc) rfl g13 (zss eZ14) dX6_moveBook_88 (fun H locs hI => ?_)
      obtain ⟨v15, ev15⟩ : ∃ z : Int32, z = x4 + (-1 : Int32) := ⟨_, rfl⟩
      have h := bnd_el h ev15
      refine lv_iinc (v := v15) (lv' := [(4, .int v15), (0, .ref (G.2.2.1 o 0)), (2, .int x2), (3, .int x3)]) hx hb dX6_moveBook_89 hl (k := 3) rfl (by rw [ev15]; rfl) (by decide) rfl (fun ls hl => ?_)
      refine lv_goto (tgt := 67) hx hb dX6_moveBook_92 (by decide) ?_
      exact ih Z14 x2 x3 v15 h hI (lv_sub hl [1, 2, 3, 0] rfl)
def f_St_moveBook_36 (N : Nat)  : Nat → zOb → Int32 → Int32 → Int32 → Int32 → Option (Int32 × zOb)
  | 0, _, _, _, _, _ => none
  | n + 1, S, x1, x2, x3, x4 => (if x2 ≤ x4 then f_St_moveBook_67 N N S x2 x3 x1 else if zin (x4 + (nI 1)) 7 then if zin x4 7 then bnd (zI S 3 x4.toNatClampNeg (S.1 3 ((x4 + (nI 1)).toNatClampNeg))) (fun Z18 => bnd (x4 + (nI 1)) (fun v19 => f_St_moveBook_36 N n Z18 x1 x2 x3 v19)) else none else none)
set_option maxHeartbeats 4000000 in
set_option maxRecDepth 100000 in
theorem t_St_moveBook_36 (N : Nat) {p : Program} {l : Launch} {e : Env} {s : State} {m : MethodId} {args : Array Value} {below : List Frame} {meth : Method} {c : Code} {Q : State → Prop} {G : zG} {μ : zM} {o : Nat} (hc : zc o = 6) {out : (Int32 × zOb)} (cx : zCX p (zrm 1) s m args c RX6 cX6_moveBook 5 1 G) (hret : zRi p l e (zrm 1) s m args below meth c cX6_moveBook G .int Q out.1 (zset μ o out.2))   : ∀ (n : Nat) (S : zOb) (x1 : Int32) (x2 : Int32) (x3 : Int32) (x4 : Int32), f_St_moveBook_36 N n S x1 x2 x3 x4 = some out → ∀ {H : Heap} {locs : List Loc} {ls : Array Slot}, zIW G s (zset μ o S) H locs → lv_has ls 5 [(0, .ref (G.2.2.1 o 0)), (1, .int x1), (2, .int x2), (3, .int x3), (4, .int x4)] → W p l e (zrm 1) s m args below meth c H locs 0 0 Q (F0 m 36 ls []) := by
  obtain ⟨hx, hb, hml, hown, hts, hK, hR⟩ := id cx
  intro n
  induction n with
  | zero =>
    intro S x1 x2 x3 x4  h
    cases h
  | succ n ih =>
    intro S x1 x2 x3 x4  h H locs ls hI hl
    rw [f_St_moveBook_36] at h
    refine lv_iload hx hb dX6_moveBook_36 (lv_at hl 4 rfl) ?_
    refine lv_iload_n hx hb dX6_moveBook_38 rfl (lv_at hl 2 rfl) ?_
    refine lv_icmp_ge (tgt := 64) hx hb dX6_moveBook_39 (by decide) (fun c8 => ?_) (fun c8 => ?_)
    · have h := it_p h c8
      refine lv_iload_n hx hb dX6_moveBook_64 rfl (lv_at hl 1 rfl) ?_
      refine lv_istore (lv' := [(4, .int x1), (0, .ref (G.2.2.1 o 0)), (1, .int x1), (2, .int x2), (3, .int x3)]) hx hb dX6_moveBook_65 hl (by decide) rfl (fun ls hl => ?_)
      exact t_St_moveBook_67 N hc cx hret N S x2 x3 x1 h hI (lv_sub hl [1, 3, 4, 0] rfl)
    · have h := it_n h c8
      refine lv_aload_n hx hb dX6_moveBook_42 rfl (lv_at hl 0 rfl) ?_
      refine g6_2 cx hI hc (zset_s _ _ _) w_50 dX6_moveBook_43 ?_
      refine lv_iload hx hb dX6_moveBook_46 (lv_at hl 4 rfl) ?_
      refine lv_aload_n hx hb dX6_moveBook_48 rfl (lv_at hl 0 rfl) ?_
      refine g6_2 cx hI hc (zset_s _ _ _) w_50 dX6_moveBook_49 ?_
      refine lv_iload hx hb dX6_moveBook_52 (lv_at hl 4 rfl) ?_
      refine lv_iconst (v := (nI 1)) hx hb dX6_moveBook_54 (by decide) ?_
      refine lv_iadd hx hb dX6_moveBook_55 ?_
      obtain ⟨g16, h⟩ := gd_el h
      refine zr_iald cx hI (k6_3 hc) (zset_s _ _ _) (z6_3 hc) rfl g16 dX6_moveBook_56 ?_
      obtain ⟨g17, h⟩ := gd_el h
      obtain ⟨Z18, eZ18⟩ : ∃ z : zOb, z = zI S 3 x4.toNatClampNeg (S.1 3 ((x4 + (nI 1)).toNatClampNeg)) := ⟨_, rfl⟩
      have h := bnd_el h eZ18
      refine zr_iast cx hI (k6_3 hc) (zset_s _ _ _) (z6_3 hc) rfl g17 (zss eZ18) dX6_moveBook_57 (fun H locs hI => ?_)
      obtain ⟨v19, ev19⟩ : ∃ z : Int32, z = x4 + (nI 1) := ⟨_, rfl⟩
      have h := bnd_el h ev19
      refine lv_iinc (v := v19) (lv' := [(4, .int v19), (0, .ref (G.2.2.1 o 0)), (1, .int x1), (2, .int x2), (3, .int x3)]) hx hb dX6_moveBook_58 hl (k := 4) rfl (by rw [ev19]; rfl) (by decide) rfl (fun ls hl => ?_)
      refine lv_goto (tgt := 36) hx hb dX6_moveBook_61 (by decide) ?_
      exact ih Z18 x1 x2 x3 v19 h hI (lv_sub hl [1, 2, 3, 4, 0] rfl)
def f_St_moveBook (N : Nat) (S : zOb) (a1 : Int32) (a2 : Int32) : Option (Int32 × zOb) :=
  (f_St_isBook S a1).bind (fun q1 => (if q1 = nI 0 then f_St_moveBook_16 N S else (f_St_isBook S a2).bind (fun q3 => (if q3 = nI 0 then f_St_moveBook_16 N S else (if a1 = a2 then some ((-2 : Int32), S) else if zin a1 7 then bnd (S.1 3 a1.toNatClampNeg) (fun v7 => f_St_moveBook_36 N N S a1 a2 v7 a1) else none)))))
set_option maxHeartbeats 4000000 in
set_option maxRecDepth 100000 in
theorem c_St_moveBook (N : Nat) {l : Launch} {G : zG} {μ : zM} {o : Nat} (hc : zc o = 6) {S : zOb} (hS : μ o = S) {a1 : Int32} {a2 : Int32} {out : (Int32 × zOb)} (h : f_St_moveBook N S a1 a2 = some out) {μ' : zM} (hμ : zset μ o out.2 = μ') : zMI l G yX6_moveBook cX6_moveBook 5 (some .int) 1 [.ref (G.2.2.1 o 0), .int a1, .int a2] μ out.1 μ' := by
  subst hμ
  refine zMI.of (by decide) (Nat.le_of_ble_eq_true rfl) (fun p e s m args below meth c Q ls cx hI hl hret => ?_)
  obtain ⟨hx, hb, hml, hown, hts, hK, hR⟩ := id cx
  have hl : lv_has ls 5 [(0, .ref (G.2.2.1 o 0)), (1, .int a1), (2, .int a2)] := hl
  rw [← zset_idS hS] at hI
  unfold f_St_moveBook at h
  refine lv_aload_n hx hb dX6_moveBook_0 rfl (lv_at hl 0 rfl) ?_
  refine lv_iload_n hx hb dX6_moveBook_1 rfl (lv_at hl 1 rfl) ?_
  obtain ⟨q1, hq1, h⟩ := bi_el h
  refine zcVi (As := [.int a1]) cx hI (c_St_isBook hc (zset_s _ _ _) hq1) mt_yX6_isBook mv_yX6_isBook w_199 (by omega) (k6_0 hc) (zv6 hc) rfl hl.1 rfl (Nat.le_of_ble_eq_true rfl) dX6_moveBook_2 (fun H locs hI => ?_)
  refine lv_if_eq (tgt := 16) hx hb dX6_moveBook_5 (by decide) (fun c2 => ?_) (fun c2 => ?_)
  · have h := it_p h c2
    exact t_St_moveBook_16 N hc cx hret S h hI (lv_sub hl [] rfl)
  · have h := it_n h c2
    refine lv_aload_n hx hb dX6_moveBook_8 rfl (lv_at hl 0 rfl) ?_
    refine lv_iload_n hx hb dX6_moveBook_9 rfl (lv_at hl 2 rfl) ?_
    obtain ⟨q3, hq3, h⟩ := bi_el h
    refine zcVi (As := [.int a2]) cx hI (c_St_isBook hc (zset_s _ _ _) hq3) mt_yX6_isBook mv_yX6_isBook w_199 (by omega) (k6_0 hc) (zv6 hc) rfl hl.1 rfl (Nat.le_of_ble_eq_true rfl) dX6_moveBook_10 (fun H locs hI => ?_)
    refine lv_if_ne (tgt := 18) hx hb dX6_moveBook_13 (by decide) (fun c4 => ?_) (fun c4 => ?_)
    · have h := it_n h c4
      refine lv_iload_n hx hb dX6_moveBook_18 rfl (lv_at hl 1 rfl) ?_
      refine lv_iload_n hx hb dX6_moveBook_19 rfl (lv_at hl 2 rfl) ?_
      refine lv_icmp_ne (tgt := 26) hx hb dX6_moveBook_20 (by decide) (fun c5 => ?_) (fun c5 => ?_)
      · have h := it_n h c5
        refine lv_aload_n hx hb dX6_moveBook_26 rfl (lv_at hl 0 rfl) ?_
        refine g6_2 cx hI hc (zset_s _ _ _) w_50 dX6_moveBook_27 ?_
        refine lv_iload_n hx hb dX6_moveBook_30 rfl (lv_at hl 1 rfl) ?_
        obtain ⟨g6, h⟩ := gd_el h
        refine zr_iald cx hI (k6_3 hc) (zset_s _ _ _) (z6_3 hc) rfl g6 dX6_moveBook_31 ?_
        refine lv_topi (fun v7 ev7 => ?_)
        have h := bnd_el h ev7
        refine lv_istore_n (lv' := [(3, .int v7), (0, .ref (G.2.2.1 o 0)), (1, .int a1), (2, .int a2)]) hx hb dX6_moveBook_32 rfl hl (by decide) rfl (fun ls hl => ?_)
        refine lv_iload_n hx hb dX6_moveBook_33 rfl (lv_at hl 2 rfl) ?_
        refine lv_istore (lv' := [(4, .int a1), (3, .int v7), (0, .ref (G.2.2.1 o 0)), (1, .int a1), (2, .int a2)]) hx hb dX6_moveBook_34 hl (by decide) rfl (fun ls hl => ?_)
        exact t_St_moveBook_36 N hc cx hret N S a1 a2 v7 a1 h hI (lv_sub hl [2, 3, 4, 1, 0] rfl)
      · have h := it_p h c5
        refine lv_bipush (v := (-2 : Int32)) hx hb dX6_moveBook_23 (by decide) ?_
        obtain rfl := Option.some.inj h
        exact hret _ _ _ _ dX6_moveBook_25 rfl hI
    · have h := it_p h c4
      exact t_St_moveBook_16 N hc cx hret S h hI (lv_sub hl [] rfl)
def f_St_number_4 (N : Nat) (S : zOb) (rw : (Nat → Int32))  : Nat → Int32 → Int32 → Option Int32
  | 0, _, _ => none
  | n + 1, x2, x3 => (if (S.1 0 3) ≤ x3 then some x2 else if zin x3 7 then bnd ((x2 * (nI 10)) + (rw x3.toNatClampNeg)) (fun v3 => bnd (x3 + (nI 1)) (fun v4 => f_St_number_4 N S rw n v3 v4)) else none)
set_option maxHeartbeats 4000000 in
set_option maxRecDepth 100000 in
theorem t_St_number_4 (N : Nat) {p : Program} {l : Launch} {e : Env} {s : State} {m : MethodId} {args : Array Value} {below : List Frame} {meth : Method} {c : Code} {Q : State → Prop} {G : zG} {μ : zM} {o : Nat} (hc : zc o = 6) {S : zOb} (hS : μ o = S) {oa ja : Nat} {rw : Nat → Int32} (hka : (oa, ja) ∈ zK) (hea : ∀ S : zOb, zcell G oa ja S = .inl (G.2.1 0, 7, .inl (S.1 ja))) (hra : (μ oa).1 ja = rw) {out : Int32} (cx : zCX p (zrm 0) s m args c RX6 cX6_number 4 0 G) (hret : zRi p l e (zrm 0) s m args below meth c cX6_number G .int Q out μ)   : ∀ (n : Nat) (x2 : Int32) (x3 : Int32), f_St_number_4 N S rw n x2 x3 = some out → ∀ {H : Heap} {locs : List Loc} {ls : Array Slot}, zIW G s μ H locs → lv_has ls 4 [(0, .ref (G.2.2.1 o 0)), (1, .ref (G.2.2.1 oa ja)), (2, .int x2), (3, .int x3)] → W p l e (zrm 0) s m args below meth c H locs 0 0 Q (F0 m 4 ls []) := by
  obtain ⟨hx, hb, hml, hown, hts, hK, hR⟩ := id cx
  intro n
  induction n with
  | zero =>
    intro x2 x3  h
    cases h
  | succ n ih =>
    intro x2 x3  h H locs ls hI hl
    rw [f_St_number_4] at h
    refine lv_iload_n hx hb dX6_number_4 rfl (lv_at hl 3 rfl) ?_
    refine lv_aload_n hx hb dX6_number_5 rfl (lv_at hl 0 rfl) ?_
    refine g6_3 cx hI hc hS w_139 dX6_number_6 ?_
    refine lv_icmp_ge (tgt := 27) hx hb dX6_number_9 (by decide) (fun c1 => ?_) (fun c1 => ?_)
    · have h := it_p h c1
      refine lv_iload_n hx hb dX6_number_27 rfl (lv_at hl 2 rfl) ?_
      obtain rfl := Option.some.inj h
      exact hret _ _ _ _ dX6_number_28 rfl hI
    · have h := it_n h c1
      refine lv_iload_n hx hb dX6_number_12 rfl (lv_at hl 2 rfl) ?_
      refine lv_bipush (v := (nI 10)) hx hb dX6_number_13 (by decide) ?_
      refine lv_imul hx hb dX6_number_15 ?_
      refine lv_aload_n hx hb dX6_number_16 rfl (lv_at hl 1 rfl) ?_
      refine lv_iload_n hx hb dX6_number_17 rfl (lv_at hl 3 rfl) ?_
      obtain ⟨g2, h⟩ := gd_el h
      refine zr_iaA cx hI hka hra hea rfl g2 dX6_number_18 ?_
      refine lv_iadd hx hb dX6_number_19 ?_
      refine lv_topi (fun v3 ev3 => ?_)
      have h := bnd_el h ev3
      refine lv_istore_n (lv' := [(2, .int v3), (0, .ref (G.2.2.1 o 0)), (1, .ref (G.2.2.1 oa ja)), (3, .int x3)]) hx hb dX6_number_20 rfl hl (by decide) rfl (fun ls hl => ?_)
      obtain ⟨v4, ev4⟩ : ∃ z : Int32, z = x3 + (nI 1) := ⟨_, rfl⟩
      have h := bnd_el h ev4
      refine lv_iinc (v := v4) (lv' := [(3, .int v4), (2, .int v3), (0, .ref (G.2.2.1 o 0)), (1, .ref (G.2.2.1 oa ja))]) hx hb dX6_number_21 hl (k := 3) rfl (by rw [ev4]; rfl) (by decide) rfl (fun ls hl => ?_)
      refine lv_goto (tgt := 4) hx hb dX6_number_24 (by decide) ?_
      exact ih v3 v4 h hI (lv_sub hl [2, 3, 1, 0] rfl)
def f_St_number (N : Nat) (S : zOb) (rw : (Nat → Int32)) : Option Int32 :=
  f_St_number_4 N S rw N (nI 0) (nI 0)
set_option maxHeartbeats 4000000 in
set_option maxRecDepth 100000 in
theorem c_St_number (N : Nat) {l : Launch} {G : zG} {μ : zM} {o : Nat} (hc : zc o = 6) {S : zOb} (hS : μ o = S) {oa ja : Nat} {rw : Nat → Int32} (hka : (oa, ja) ∈ zK) (hea : ∀ S : zOb, zcell G oa ja S = .inl (G.2.1 0, 7, .inl (S.1 ja))) (hra : (μ oa).1 ja = rw)  {out : Int32} (h : f_St_number N S rw  = some out) : zMI l G yX6_number cX6_number 4 (some .int) 0 [.ref (G.2.2.1 o 0), .ref (G.2.2.1 oa ja)] μ out μ := by
  refine zMI.of (by decide) (Nat.le_of_ble_eq_true rfl) (fun p e s m args below meth c Q ls cx hI hl hret => ?_)
  obtain ⟨hx, hb, hml, hown, hts, hK, hR⟩ := id cx
  have hl : lv_has ls 4 [(0, .ref (G.2.2.1 o 0)), (1, .ref (G.2.2.1 oa ja))] := hl
  unfold f_St_number at h
  refine lv_iconst (v := (nI 0)) hx hb dX6_number_0 (by decide) ?_
  refine lv_istore_n (lv' := [(2, .int (nI 0)), (0, .ref (G.2.2.1 o 0)), (1, .ref (G.2.2.1 oa ja))]) hx hb dX6_number_1 rfl hl (by decide) rfl (fun ls hl => ?_)
  refine lv_iconst (v := (nI 0)) hx hb dX6_number_2 (by decide) ?_
  refine lv_istore_n (lv' := [(3, .int (nI 0)), (2, .int (nI 0)), (0, .ref (G.2.2.1 o 0)), (1, .ref (G.2.2.1 oa ja))]) hx hb dX6_number_3 rfl hl (by decide) rfl (fun ls hl => ?_)
  exact t_St_number_4 N hc hS hka hea hra cx hret N (nI 0) (nI 0) h hI (lv_sub hl [2, 3, 1, 0] rfl)
def f_St_changeOrder (N : Nat) (S : zOb) (rw : (Nat → Int32)) : Option (Int32 × zOb) :=
  (f_St_number N S rw).bind (fun q1 => (f_St_number N S (S.1 3)).bind (fun q2 => (if q1 = q2 then some ((-2 : Int32), S) else bnd (zIr S 3 (va_cpy rw (S.1 3) 0 0 7)) (fun Z4 => some (q1, Z4)))))
set_option maxHeartbeats 4000000 in
set_option maxRecDepth 100000 in
theorem c_St_changeOrder (N : Nat) {l : Launch} {G : zG} {μ : zM} {o : Nat} (hc : zc o = 6) {S : zOb} (hS : μ o = S) {oa ja : Nat} {rw : Nat → Int32} (hka : (oa, ja) ∈ zK) (hea : ∀ S : zOb, zcell G oa ja S = .inl (G.2.1 0, 7, .inl (S.1 ja))) (hra : (μ oa).1 ja = rw) (hna : oa ≠ o)  {out : (Int32 × zOb)} (h : f_St_changeOrder N S rw  = some out) {μ' : zM} (hμ : zset μ o out.2 = μ') : zMI l G yX6_changeOrder cX6_changeOrder 3 (some .int) 1 [.ref (G.2.2.1 o 0), .ref (G.2.2.1 oa ja)] μ out.1 μ' := by
  subst hμ
  refine zMI.of (by decide) (Nat.le_of_ble_eq_true rfl) (fun p e s m args below meth c Q ls cx hI hl hret => ?_)
  obtain ⟨hx, hb, hml, hown, hts, hK, hR⟩ := id cx
  have hl : lv_has ls 3 [(0, .ref (G.2.2.1 o 0)), (1, .ref (G.2.2.1 oa ja))] := hl
  rw [← zset_idS hS] at hI
  unfold f_St_changeOrder at h
  refine lv_aload_n hx hb dX6_changeOrder_0 rfl (lv_at hl 0 rfl) ?_
  refine lv_aload_n hx hb dX6_changeOrder_1 rfl (lv_at hl 1 rfl) ?_
  obtain ⟨q1, hq1, h⟩ := bi_el h
  refine zcVi (As := [.ref (G.2.2.1 oa ja)]) cx hI (c_St_number N hc (zset_s _ _ _) hka hea (by rw [zset_n _ _ hna]; exact hra) hq1) mt_yX6_number mv_yX6_number w_457 (by omega) (k6_0 hc) (zv6 hc) rfl hl.1 rfl (Nat.le_of_ble_eq_true rfl) dX6_changeOrder_2 (fun H locs hI => ?_)
  refine lv_istore_n (lv' := [(2, .int q1), (0, .ref (G.2.2.1 o 0)), (1, .ref (G.2.2.1 oa ja))]) hx hb dX6_changeOrder_5 rfl hl (by decide) rfl (fun ls hl => ?_)
  refine lv_iload_n hx hb dX6_changeOrder_6 rfl (lv_at hl 0 rfl) ?_
  refine lv_aload_n hx hb dX6_changeOrder_7 rfl (lv_at hl 1 rfl) ?_
  refine lv_aload_n hx hb dX6_changeOrder_8 rfl (lv_at hl 1 rfl) ?_
  refine g6_2 cx hI hc (zset_s _ _ _) w_50 dX6_changeOrder_9 ?_
  obtain ⟨q2, hq2, h⟩ := bi_el h
  refine zcVi (As := [.ref (G.2.2.1 o 3)]) cx hI (c_St_number N hc (zset_s _ _ _) (k6_3 hc) (z6_3 hc) (by rw [(zset_s _ _ _)]) hq2) mt_yX6_number mv_yX6_number w_457 (by omega) (k6_0 hc) (zv6 hc) rfl hl.1 rfl (Nat.le_of_ble_eq_true rfl) dX6_changeOrder_12 (fun H locs hI => ?_)
  refine lv_icmp_ne (tgt := 21) hx hb dX6_changeOrder_15 (by decide) (fun c3 => ?_) (fun c3 => ?_)
  · have h := it_n h c3
    refine lv_aload_n hx hb dX6_changeOrder_21 rfl (lv_at hl 2 rfl) ?_
    refine lv_iconst (v := (nI 0)) hx hb dX6_changeOrder_22 (by decide) ?_
    refine lv_aload_n hx hb dX6_changeOrder_23 rfl (lv_at hl 1 rfl) ?_
    refine g6_2 cx hI hc (zset_s _ _ _) w_50 dX6_changeOrder_24 ?_
    refine lv_iconst (v := (nI 0)) hx hb dX6_changeOrder_27 (by decide) ?_
    refine lv_bipush (v := (nI 7)) hx hb dX6_changeOrder_28 (by decide) ?_
    obtain ⟨Z4, eZ4⟩ : ∃ z : zOb, z = zIr S 3 (va_cpy rw (S.1 3) 0 0 7) := ⟨_, rfl⟩
    have h := bnd_el h eZ4
    refine zr_cpiA cx hI hl.1 hka hra hea hna (k6_3 hc) (z6_3 hc) w_135 (by omega) (by decide) (by decide) (by decide) (by decide) (by decide) (Nat.le_of_ble_eq_true rfl) (zss eZ4) dX6_changeOrder_30 (fun H locs hI => ?_)
    refine lv_iload_n hx hb dX6_changeOrder_33 rfl (lv_at hl 0 rfl) ?_
    obtain rfl := Option.some.inj h
    exact hret _ _ _ _ dX6_changeOrder_34 rfl hI
  · have h := it_p h c3
    refine lv_bipush (v := (-2 : Int32)) hx hb dX6_changeOrder_18 (by decide) ?_
    obtain rfl := Option.some.inj h
    exact hret _ _ _ _ dX6_changeOrder_20 rfl hI
def f_St_wordsThatCount_25 (S : zOb)  (s0 : Int32) : Option Int32 :=
  some s0
set_option maxHeartbeats 4000000 in
set_option maxRecDepth 100000 in
theorem t_St_wordsThatCount_25  {p : Program} {l : Launch} {e : Env} {s : State} {m : MethodId} {args : Array Value} {below : List Frame} {meth : Method} {c : Code} {Q : State → Prop} {G : zG} {μ : zM} {o : Nat} (hc : zc o = 6) {S : zOb} (hS : μ o = S) {out : Int32} (cx : zCX p (zrm 1) s m args c RX6 cX6_wordsThatCount 2 1 G) (hret : zRi p l e (zrm 1) s m args below meth c cX6_wordsThatCount G .int Q out μ)   : ∀ (s0 : Int32), f_St_wordsThatCount_25 S s0 = some out → ∀ {H : Heap} {locs : List Loc} {ls : Array Slot}, zIW G s μ H locs → lv_has ls 2 [] → W p l e (zrm 1) s m args below meth c H locs 0 0 Q (F0 m 25 ls [.int s0]) := by
  obtain ⟨hx, hb, hml, hown, hts, hK, hR⟩ := id cx
  intro s0  h H locs ls hI hl
  unfold f_St_wordsThatCount_25 at h
  obtain rfl := Option.some.inj h
  exact hret _ _ _ _ dX6_wordsThatCount_25 rfl hI
def f_St_wordsThatCount (S : zOb) (a1 : Int32) : Option Int32 :=
  (f_St_isBook S a1).bind (fun q1 => (if q1 = nI 0 then f_St_wordsThatCount_25 S (nI 0) else if zin a1 7 then f_St_wordsThatCount_25 S ((S.1 1 a1.toNatClampNeg) &&& ((S.1 0 4) ^^^ (-1 : Int32))) else none))
set_option maxHeartbeats 4000000 in
set_option maxRecDepth 100000 in
theorem c_St_wordsThatCount {l : Launch} {G : zG} {μ : zM} {o : Nat} (hc : zc o = 6) {S : zOb} (hS : μ o = S) {a1 : Int32} {out : Int32} (h : f_St_wordsThatCount S a1 = some out) : zMI l G yX6_wordsThatCount cX6_wordsThatCount 2 (some .int) 1 [.ref (G.2.2.1 o 0), .int a1] μ out μ := by
  refine zMI.of (by decide) (Nat.le_of_ble_eq_true rfl) (fun p e s m args below meth c Q ls cx hI hl hret => ?_)
  obtain ⟨hx, hb, hml, hown, hts, hK, hR⟩ := id cx
  have hl : lv_has ls 2 [(0, .ref (G.2.2.1 o 0)), (1, .int a1)] := hl
  unfold f_St_wordsThatCount at h
  refine lv_aload_n hx hb dX6_wordsThatCount_0 rfl (lv_at hl 0 rfl) ?_
  refine lv_iload_n hx hb dX6_wordsThatCount_1 rfl (lv_at hl 1 rfl) ?_
  obtain ⟨q1, hq1, h⟩ := bi_el h
  refine zcVi (As := [.int a1]) cx hI (c_St_isBook hc hS hq1) mt_yX6_isBook mv_yX6_isBook w_199 (by omega) (k6_0 hc) (zv6 hc) rfl hl.1 rfl (Nat.le_of_ble_eq_true rfl) dX6_wordsThatCount_2 (fun H locs hI => ?_)
  refine lv_if_eq (tgt := 24) hx hb dX6_wordsThatCount_5 (by decide) (fun c2 => ?_) (fun c2 => ?_)
  · have h := it_p h c2
    refine lv_iconst (v := (nI 0)) hx hb dX6_wordsThatCount_24 (by decide) ?_
    exact t_St_wordsThatCount_25 hc hS cx hret (nI 0) h hI (lv_sub hl [] rfl)
  · have h := it_n h c2
    refine lv_aload_n hx hb dX6_wordsThatCount_8 rfl (lv_at hl 0 rfl) ?_
    refine g6_0 cx hI hc hS w_48 dX6_wordsThatCount_9 ?_
    refine lv_iload_n hx hb dX6_wordsThatCount_12 rfl (lv_at hl 1 rfl) ?_
    obtain ⟨g3, h⟩ := gd_el h
    refine zr_iald cx hI (k6_1 hc) hS (z6_1 hc) rfl g3 dX6_wordsThatCount_13 ?_
    refine lv_aload_n hx hb dX6_wordsThatCount_14 rfl (lv_at hl 0 rfl) ?_
    refine g6_4 cx hI hc hS w_140 dX6_wordsThatCount_15 ?_
    refine lv_iconst (v := (-1 : Int32)) hx hb dX6_wordsThatCount_18 (by decide) ?_
    refine lv_ixor hx hb dX6_wordsThatCount_19 ?_
    refine lv_iand hx hb dX6_wordsThatCount_20 ?_
    refine lv_goto (tgt := 25) hx hb dX6_wordsThatCount_21 (by decide) ?_
    exact t_St_wordsThatCount_25 hc hS cx hret ((S.1 1 a1.toNatClampNeg) &&& ((S.1 0 4) ^^^ (-1 : Int32))) h hI (lv_sub hl [] rfl)
def f_St_holds_11 (N : Nat) (S : zOb)  : Nat → Int32 → Int32 → Option Int32
  | 0, _, _ => none
  | n + 1, x1, x2 => (if (S.1 0 3) ≤ x2 then some (nI 1) else if zin x2 7 then (f_St_leaders N S (S.1 3 x2.toNatClampNeg)).bind (fun q4 => (if (q4 &&& x1) = nI 0 then if zin x2 7 then bnd (x1 &&& (((nI 1) <<< ((S.1 3 x2.toNatClampNeg) &&& 31)) ^^^ (-1 : Int32))) (fun v7 => bnd (x2 + (nI 1)) (fun v8 => f_St_holds_11 N S n v7 v8)) else none else some (nI 0))) else none)
set_option maxHeartbeats 4000000 in
set_option maxRecDepth 100000 in
theorem t_St_holds_11 (N : Nat) {p : Program} {l : Launch} {e : Env} {s : State} {m : MethodId} {args : Array Value} {below : List Frame} {meth : Method} {c : Code} {Q : State → Prop} {G : zG} {μ : zM} {o : Nat} (hc : zc o = 6) {S : zOb} (hS : μ o = S) {out : Int32} (cx : zCX p (zrm 2) s m args c RX6 cX6_holds 3 2 G) (hret : zRi p l e (zrm 2) s m args below meth c cX6_holds G .boolean Q out μ)   : ∀ (n : Nat) (x1 : Int32) (x2 : Int32), f_St_holds_11 N S n x1 x2 = some out → ∀ {H : Heap} {locs : List Loc} {ls : Array Slot}, zIW G s μ H locs → lv_has ls 3 [(0, .ref (G.2.2.1 o 0)), (1, .int x1), (2, .int x2)] → W p l e (zrm 2) s m args below meth c H locs 0 0 Q (F0 m 11 ls []) := by
  obtain ⟨hx, hb, hml, hown, hts, hK, hR⟩ := id cx
  intro n
  induction n with
  | zero =>
    intro x1 x2  h
    cases h
  | succ n ih =>
    intro x1 x2  h H locs ls hI hl
    rw [f_St_holds_11] at h
    refine lv_iload_n hx hb dX6_holds_11 rfl (lv_at hl 2 rfl) ?_
    refine lv_aload_n hx hb dX6_holds_12 rfl (lv_at hl 0 rfl) ?_
    refine g6_3 cx hI hc hS w_139 dX6_holds_13 ?_
    refine lv_icmp_ge (tgt := 55) hx hb dX6_holds_16 (by decide) (fun c2 => ?_) (fun c2 => ?_)
    · have h := it_p h c2
      refine lv_iconst (v := (nI 1)) hx hb dX6_holds_55 (by decide) ?_
      obtain rfl := Option.some.inj h
      exact hret _ _ _ _ dX6_holds_56 (zbool (Or.inr rfl)) hI
    · have h := it_n h c2
      refine lv_aload_n hx hb dX6_holds_19 rfl (lv_at hl 0 rfl) ?_
      refine lv_aload_n hx hb dX6_holds_20 rfl (lv_at hl 0 rfl) ?_
      refine g6_2 cx hI hc hS w_50 dX6_holds_21 ?_
      refine lv_iload_n hx hb dX6_holds_24 rfl (lv_at hl 2 rfl) ?_
      obtain ⟨g3, h⟩ := gd_el h
      refine zr_iald cx hI (k6_3 hc) hS (z6_3 hc) rfl g3 dX6_holds_25 ?_
      obtain ⟨q4, hq4, h⟩ := bi_el h
      refine zcVi (As := [.int (S.1 3 x2.toNatClampNeg)]) cx hI (c_St_leaders N hc hS hq4) mt_yX6_leaders mv_yX6_leaders w_610 (by omega) (k6_0 hc) (zv6 hc) rfl hl.1 rfl (Nat.le_of_ble_eq_true rfl) dX6_holds_26 (fun H locs hI => ?_)
      refine lv_iload_n hx hb dX6_holds_29 rfl (lv_at hl 1 rfl) ?_
      refine lv_iand hx hb dX6_holds_30 ?_
      refine lv_if_eq (tgt := 36) hx hb dX6_holds_31 (by decide) (fun c5 => ?_) (fun c5 => ?_)
      · have h := it_p h c5
        refine lv_iload_n hx hb dX6_holds_36 rfl (lv_at hl 1 rfl) ?_
        refine lv_iconst (v := (nI 1)) hx hb dX6_holds_37 (by decide) ?_
        refine lv_aload_n hx hb dX6_holds_38 rfl (lv_at hl 0 rfl) ?_
        refine g6_2 cx hI hc hS w_50 dX6_holds_39 ?_
        refine lv_iload_n hx hb dX6_holds_42 rfl (lv_at hl 2 rfl) ?_
        obtain ⟨g6, h⟩ := gd_el h
        refine zr_iald cx hI (k6_3 hc) hS (z6_3 hc) rfl g6 dX6_holds_43 ?_
        refine lv_ishl hx hb dX6_holds_44 ?_
        refine lv_iconst (v := (-1 : Int32)) hx hb dX6_holds_45 (by decide) ?_
        refine lv_ixor hx hb dX6_holds_46 ?_
        refine lv_iand hx hb dX6_holds_47 ?_
        refine lv_topi (fun v7 ev7 => ?_)
        have h := bnd_el h ev7
        refine lv_istore_n (lv' := [(1, .int v7), (0, .ref (G.2.2.1 o 0)), (2, .int x2)]) hx hb dX6_holds_48 rfl hl (by decide) rfl (fun ls hl => ?_)
        obtain ⟨v8, ev8⟩ : ∃ z : Int32, z = x2 + (nI 1) := ⟨_, rfl⟩
        have h := bnd_el h ev8
        refine lv_iinc (v := v8) (lv' := [(2, .int v8), (1, .int v7), (0, .ref (G.2.2.1 o 0))]) hx hb dX6_holds_49 hl (k := 2) rfl (by rw [ev8]; rfl) (by decide) rfl (fun ls hl => ?_)
        refine lv_goto (tgt := 11) hx hb dX6_holds_52 (by decide) ?_
        exact ih v7 v8 h hI (lv_sub hl [2, 1, 0] rfl)
      · have h := it_n h c5
        refine lv_iconst (v := (nI 0)) hx hb dX6_holds_34 (by decide) ?_
        obtain rfl := Option.some.inj h
        exact hret _ _ _ _ dX6_holds_35 (zbool (Or.inl rfl)) hI
def f_St_holds (N : Nat) (S : zOb) : Option Int32 :=
  bnd (((nI 1) <<< ((S.1 0 3) &&& 31)) - (nI 1)) (fun v1 => f_St_holds_11 N S N v1 (nI 0))
set_option maxHeartbeats 4000000 in
set_option maxRecDepth 100000 in
theorem c_St_holds (N : Nat) {l : Launch} {G : zG} {μ : zM} {o : Nat} (hc : zc o = 6) {S : zOb} (hS : μ o = S)  {out : Int32} (h : f_St_holds N S  = some out) : zMI l G yX6_holds cX6_holds 3 (some .boolean) 2 [.ref (G.2.2.1 o 0)] μ out μ := by
  refine zMI.of (by decide) (Nat.le_of_ble_eq_true rfl) (fun p e s m args below meth c Q ls cx hI hl hret => ?_)
  obtain ⟨hx, hb, hml, hown, hts, hK, hR⟩ := id cx
  have hl : lv_has ls 3 [(0, .ref (G.2.2.1 o 0))] := hl
  unfold f_St_holds at h
  refine lv_iconst (v := (nI 1)) hx hb dX6_holds_0 (by decide) ?_
  refine lv_aload_n hx hb dX6_holds_1 rfl (lv_at hl 0 rfl) ?_
  refine g6_3 cx hI hc hS w_139 dX6_holds_2 ?_
  refine lv_ishl hx hb dX6_holds_5 ?_
  refine lv_iconst (v := (nI 1)) hx hb dX6_holds_6 (by decide) ?_
  refine lv_isub hx hb dX6_holds_7 ?_
  refine lv_topi (fun v1 ev1 => ?_)
  have h := bnd_el h ev1
  refine lv_istore_n (lv' := [(1, .int v1), (0, .ref (G.2.2.1 o 0))]) hx hb dX6_holds_8 rfl hl (by decide) rfl (fun ls hl => ?_)
  refine lv_iconst (v := (nI 0)) hx hb dX6_holds_9 (by decide) ?_
  refine lv_istore_n (lv' := [(2, .int (nI 0)), (1, .int v1), (0, .ref (G.2.2.1 o 0))]) hx hb dX6_holds_10 rfl hl (by decide) rfl (fun ls hl => ?_)
  exact t_St_holds_11 N hc hS cx hret N v1 (nI 0) h hI (lv_sub hl [2, 1, 0] rfl)
