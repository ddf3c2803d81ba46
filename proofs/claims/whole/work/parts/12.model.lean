/-! the reference -/
def f_Mo_in_18  (s0 : Int32) : Option Int32 :=
  if (s0 = nI 0 ∨ s0 = nI 1) then some s0 else none
set_option maxHeartbeats 4000000 in
set_option maxRecDepth 100000 in
theorem t_Mo_in_18  {p : Program} {l : Launch} {e : Env} {s : State} {m : MethodId} {args : Array Value} {below : List Frame} {meth : Method} {c : Code} {Q : State → Prop} {G : zG} {μ : zM}  {out : Int32} (cx : zCX p (zrm 0) s m args c RX8 cX8_in 6 0 G) (hret : zRi p l e (zrm 0) s m args below meth c cX8_in G .boolean Q out μ)   : ∀ (s0 : Int32), f_Mo_in_18 s0 = some out → ∀ {H : Heap} {locs : List Loc} {ls : Array Slot}, zIW G s μ H locs → lv_has ls 6 [] → W p l e (zrm 0) s m args below meth c H locs 0 0 Q (F0 m 18 ls [.int s0]) := by
  obtain ⟨hx, hb, hml, hown, hts, hK, hR⟩ := id cx
  intro s0  h H locs ls hI hl
  unfold f_Mo_in_18 at h
  obtain ⟨g2, h⟩ := gd_el h
  obtain rfl := Option.some.inj h
  exact hret _ _ _ _ dX8_in_18 (zbool g2) hI
def f_Mo_in_17   : Option Int32 :=
  f_Mo_in_18 (nI 0)
set_option maxHeartbeats 4000000 in
set_option maxRecDepth 100000 in
theorem t_Mo_in_17  {p : Program} {l : Launch} {e : Env} {s : State} {m : MethodId} {args : Array Value} {below : List Frame} {meth : Method} {c : Code} {Q : State → Prop} {G : zG} {μ : zM}  {out : Int32} (cx : zCX p (zrm 0) s m args c RX8 cX8_in 6 0 G) (hret : zRi p l e (zrm 0) s m args below meth c cX8_in G .boolean Q out μ)   : f_Mo_in_17  = some out → ∀ {H : Heap} {locs : List Loc} {ls : Array Slot}, zIW G s μ H locs → lv_has ls 6 [] → W p l e (zrm 0) s m args below meth c H locs 0 0 Q (F0 m 17 ls []) := by
  obtain ⟨hx, hb, hml, hown, hts, hK, hR⟩ := id cx
  intro   h H locs ls hI hl
  unfold f_Mo_in_17 at h
  refine lv_iconst (v := (nI 0)) hx hb dX8_in_17 (by decide) ?_
  exact t_Mo_in_18  cx hret (nI 0) h hI hl
def f_Mo_in (a0 : Int64) (a2 : Int64) (a4 : Int64) : Option Int32 :=
  (if (lg_cmp a0 a2) < nI 0 then f_Mo_in_17 else (if nI 0 < (lg_cmp a0 a4) then f_Mo_in_17 else f_Mo_in_18 (nI 1)))
set_option maxHeartbeats 4000000 in
set_option maxRecDepth 100000 in
theorem c_Mo_in {l : Launch} {G : zG} {μ : zM}  {a0 : Int64} {a2 : Int64} {a4 : Int64} {out : Int32} (h : f_Mo_in a0 a2 a4 = some out) : zMI l G yX8_in cX8_in 6 (some .boolean) 0 [.long a0, .long a2, .long a4] μ out μ := by
  refine zMI.of (by decide) (Nat.le_of_ble_eq_true rfl) (fun p e s m args below meth c Q ls cx hI hl hret => ?_)
  obtain ⟨hx, hb, hml, hown, hts, hK, hR⟩ := id cx
  have hl : lv_has ls 6 [(0, .long a0), (2, .long a2), (4, .long a4)] := hl
  unfold f_Mo_in at h
  refine lv_lload_n hx hb dX8_in_0 rfl (lv_at hl 0 rfl) ?_
  refine lv_lload_n hx hb dX8_in_1 rfl (lv_at hl 1 rfl) ?_
  refine W.lcmp hx hb dX8_in_2 ?_
  refine lv_if_lt (tgt := 17) hx hb dX8_in_3 (by decide) (fun c1 => ?_) (fun c1 => ?_)
  · have h := it_p h c1
    exact t_Mo_in_17  cx hret  h hI (lv_sub hl [] rfl)
  · have h := it_n h c1
    refine lv_lload_n hx hb dX8_in_6 rfl (lv_at hl 0 rfl) ?_
    refine lv_lload hx hb dX8_in_7 (lv_at hl 2 rfl) ?_
    refine W.lcmp hx hb dX8_in_9 ?_
    refine lv_if_gt (tgt := 17) hx hb dX8_in_10 (by decide) (fun c3 => ?_) (fun c3 => ?_)
    · have h := it_p h c3
      exact t_Mo_in_17  cx hret  h hI (lv_sub hl [] rfl)
    · have h := it_n h c3
      refine lv_iconst (v := (nI 1)) hx hb dX8_in_13 (by decide) ?_
      refine lv_goto (tgt := 18) hx hb dX8_in_14 (by decide) ?_
      exact t_Mo_in_18  cx hret (nI 1) h hI (lv_sub hl [] rfl)
def f_Mo_has_14  (s0 : Int32) : Option Int32 :=
  if (s0 = nI 0 ∨ s0 = nI 1) then some s0 else none
set_option maxHeartbeats 4000000 in
set_option maxRecDepth 100000 in
theorem t_Mo_has_14  {p : Program} {l : Launch} {e : Env} {s : State} {m : MethodId} {args : Array Value} {below : List Frame} {meth : Method} {c : Code} {Q : State → Prop} {G : zG} {μ : zM}  {out : Int32} (cx : zCX p (zrm 0) s m args c RX8 cX8_has 2 0 G) (hret : zRi p l e (zrm 0) s m args below meth c cX8_has G .boolean Q out μ)   : ∀ (s0 : Int32), f_Mo_has_14 s0 = some out → ∀ {H : Heap} {locs : List Loc} {ls : Array Slot}, zIW G s μ H locs → lv_has ls 2 [] → W p l e (zrm 0) s m args below meth c H locs 0 0 Q (F0 m 14 ls [.int s0]) := by
  obtain ⟨hx, hb, hml, hown, hts, hK, hR⟩ := id cx
  intro s0  h H locs ls hI hl
  unfold f_Mo_has_14 at h
  obtain ⟨g2, h⟩ := gd_el h
  obtain rfl := Option.some.inj h
  exact hret _ _ _ _ dX8_has_14 (zbool g2) hI
def f_Mo_has (a0 : Int32) (a1 : Int32) : Option Int32 :=
  (if ((a0 >>> (a1 &&& 31)) &&& (nI 1)) = (nI 1) then f_Mo_has_14 (nI 1) else f_Mo_has_14 (nI 0))
set_option maxHeartbeats 4000000 in
set_option maxRecDepth 100000 in
theorem c_Mo_has {l : Launch} {G : zG} {μ : zM}  {a0 : Int32} {a1 : Int32} {out : Int32} (h : f_Mo_has a0 a1 = some out) : zMI l G yX8_has cX8_has 2 (some .boolean) 0 [.int a0, .int a1] μ out μ := by
  refine zMI.of (by decide) (Nat.le_of_ble_eq_true rfl) (fun p e s m args below meth c Q ls cx hI hl hret => ?_)
  obtain ⟨hx, hb, hml, hown, hts, hK, hR⟩ := id cx
  have hl : lv_has ls 2 [(0, .int a0), (1, .int a1)] := hl
  unfold f_Mo_has at h
  refine lv_iload_n hx hb dX8_has_0 rfl (lv_at hl 0 rfl) ?_
  refine lv_iload_n hx hb dX8_has_1 rfl (lv_at hl 1 rfl) ?_
  refine lv_ishr hx hb dX8_has_2 ?_
  refine lv_iconst (v := (nI 1)) hx hb dX8_has_3 (by decide) ?_
  refine lv_iand hx hb dX8_has_4 ?_
  refine lv_iconst (v := (nI 1)) hx hb dX8_has_5 (by decide) ?_
  refine lv_icmp_ne (tgt := 13) hx hb dX8_has_6 (by decide) (fun c1 => ?_) (fun c1 => ?_)
  · have h := it_n h c1
    refine lv_iconst (v := (nI 0)) hx hb dX8_has_13 (by decide) ?_
    exact t_Mo_has_14  cx hret (nI 0) h hI (lv_sub hl [] rfl)
  · have h := it_p h c1
    refine lv_iconst (v := (nI 1)) hx hb dX8_has_9 (by decide) ?_
    refine lv_goto (tgt := 14) hx hb dX8_has_10 (by decide) ?_
    exact t_Mo_has_14  cx hret (nI 1) h hI (lv_sub hl [] rfl)
def f_Mo_sizeOf_4 (N : Nat)  : Nat → Int32 → Int32 → Option Int32
  | 0, _, _ => none
  | n + 1, x1, x2 => (if x2 = nI 0 then some x1 else bnd (x1 + (nI 1)) (fun v2 => bnd (x2 &&& (x2 - (nI 1))) (fun v3 => f_Mo_sizeOf_4 N n v2 v3)))
set_option maxHeartbeats 4000000 in
set_option maxRecDepth 100000 in
theorem t_Mo_sizeOf_4 (N : Nat) {p : Program} {l : Launch} {e : Env} {s : State} {m : MethodId} {args : Array Value} {below : List Frame} {meth : Method} {c : Code} {Q : State → Prop} {G : zG} {μ : zM}  {out : Int32} (cx : zCX p (zrm 0) s m args c RX8 cX8_sizeOf 3 0 G) (hret : zRi p l e (zrm 0) s m args below meth c cX8_sizeOf G .int Q out μ)   : ∀ (n : Nat) (x1 : Int32) (x2 : Int32), f_Mo_sizeOf_4 N n x1 x2 = some out → ∀ {H : Heap} {locs : List Loc} {ls : Array Slot}, zIW G s μ H locs → lv_has ls 3 [(1, .int x1), (2, .int x2)] → W p l e (zrm 0) s m args below meth c H locs 0 0 Q (F0 m 4 ls []) := by
  obtain ⟨hx, hb, hml, hown, hts, hK, hR⟩ := id cx
  intro n
  induction n with
  | zero =>
    intro x1 x2  h
    cases h
  | succ n ih =>
    intro x1 x2  h H locs ls hI hl
    rw [f_Mo_sizeOf_4] at h
    refine lv_iload_n hx hb dX8_sizeOf_4 rfl (lv_at hl 1 rfl) ?_
    refine lv_if_eq (tgt := 20) hx hb dX8_sizeOf_5 (by decide) (fun c1 => ?_) (fun c1 => ?_)
    · have h := it_p h c1
      refine lv_iload_n hx hb dX8_sizeOf_20 rfl (lv_at hl 0 rfl) ?_
      obtain rfl := Option.some.inj h
      exact hret _ _ _ _ dX8_sizeOf_21 rfl hI
    · have h := it_n h c1
      obtain ⟨v2, ev2⟩ : ∃ z : Int32, z = x1 + (nI 1) := ⟨_, rfl⟩
      have h := bnd_el h ev2
      refine lv_iinc (v := v2) (lv' := [(1, .int v2), (2, .int x2)]) hx hb dX8_sizeOf_8 hl (k := 0) rfl (by rw [ev2]; rfl) (by decide) rfl (fun ls hl => ?_)
      refine lv_iload_n hx hb dX8_sizeOf_11 rfl (lv_at hl 1 rfl) ?_
      refine lv_iload_n hx hb dX8_sizeOf_12 rfl (lv_at hl 1 rfl) ?_
      refine lv_iconst (v := (nI 1)) hx hb dX8_sizeOf_13 (by decide) ?_
      refine lv_isub hx hb dX8_sizeOf_14 ?_
      refine lv_iand hx hb dX8_sizeOf_15 ?_
      refine lv_topi (fun v3 ev3 => ?_)
      have h := bnd_el h ev3
      refine lv_istore_n (lv' := [(2, .int v3), (1, .int v2)]) hx hb dX8_sizeOf_16 rfl hl (by decide) rfl (fun ls hl => ?_)
      refine lv_goto (tgt := 4) hx hb dX8_sizeOf_17 (by decide) ?_
      exact ih v2 v3 h hI (lv_sub hl [1, 0] rfl)
def f_Mo_sizeOf (N : Nat) (a0 : Int32) : Option Int32 :=
  f_Mo_sizeOf_4 N N (nI 0) a0
set_option maxHeartbeats 4000000 in
set_option maxRecDepth 100000 in
theorem c_Mo_sizeOf (N : Nat) {l : Launch} {G : zG} {μ : zM}  {a0 : Int32} {out : Int32} (h : f_Mo_sizeOf N a0 = some out) : zMI l G yX8_sizeOf cX8_sizeOf 3 (some .int) 0 [.int a0] μ out μ := by
  refine zMI.of (by decide) (Nat.le_of_ble_eq_true rfl) (fun p e s m args below meth c Q ls cx hI hl hret => ?_)
  obtain ⟨hx, hb, hml, hown, hts, hK, hR⟩ := id cx
  have hl : lv_has ls 3 [(0, .int a0)] := hl
  unfold f_Mo_sizeOf at h
  refine lv_iconst (v := (nI 0)) hx hb dX8_sizeOf_0 (by decide) ?_
  refine lv_istore_n (lv' := [(1, .int (nI 0)), (0, .int a0)]) hx hb dX8_sizeOf_1 rfl hl (by decide) rfl (fun ls hl => ?_)
  refine lv_iload_n hx hb dX8_sizeOf_2 rfl (lv_at hl 1 rfl) ?_
  refine lv_istore_n (lv' := [(2, .int a0), (1, .int (nI 0)), (0, .int a0)]) hx hb dX8_sizeOf_3 rfl hl (by decide) rfl (fun ls hl => ?_)
  exact t_Mo_sizeOf_4 N  cx hret N (nI 0) a0 h hI (lv_sub hl [1, 0] rfl)
def f_Mo_isSet (a0 : Int32) : Option Int32 :=
  (f_Mo_in a0.toInt64 (0 : Int64) (1048575 : Int64)).bind (fun q1 => if (q1 = nI 0 ∨ q1 = nI 1) then some q1 else none)
set_option maxHeartbeats 4000000 in
set_option maxRecDepth 100000 in
theorem c_Mo_isSet {l : Launch} {G : zG} {μ : zM}  {a0 : Int32} {out : Int32} (h : f_Mo_isSet a0 = some out) : zMI l G yX8_isSet cX8_isSet 1 (some .boolean) 1 [.int a0] μ out μ := by
  refine zMI.of (by decide) (Nat.le_of_ble_eq_true rfl) (fun p e s m args below meth c Q ls cx hI hl hret => ?_)
  obtain ⟨hx, hb, hml, hown, hts, hK, hR⟩ := id cx
  have hl : lv_has ls 1 [(0, .int a0)] := hl
  unfold f_Mo_isSet at h
  refine lv_iload_n hx hb dX8_isSet_0 rfl (lv_at hl 0 rfl) ?_
  refine lv_i2l hx hb dX8_isSet_1 rfl ?_
  refine lv_lconst (v := (0 : Int64)) hx hb dX8_isSet_2 (by decide) ?_
  refine lv_ldc2 (v := (1048575 : Int64)) hx hb hown (hts _ w_178) dX8_isSet_3 ?_
  obtain ⟨q1, hq1, h⟩ := bi_el h
  refine zcSi (As := [.long a0.toInt64, .long (0 : Int64), .long (1048575 : Int64)]) cx hI (c_Mo_in  hq1) mt_yX8_in ms_yX8_in w_179 (by omega) rfl hl.1 rfl (Nat.le_of_ble_eq_true rfl) dX8_isSet_6 (fun H locs hI => ?_)
  obtain ⟨g2, h⟩ := gd_el h
  obtain rfl := Option.some.inj h
  exact hret _ _ _ _ dX8_isSet_9 (zbool g2) hI
def f_Mo_isBook (S : zOb) (a1 : Int32) : Option Int32 :=
  (f_Mo_in a1.toInt64 (0 : Int64) (((S.1 1 0) - (nI 1)).toInt64)).bind (fun q1 => if (q1 = nI 0 ∨ q1 = nI 1) then some q1 else none)
set_option maxHeartbeats 4000000 in
set_option maxRecDepth 100000 in
theorem c_Mo_isBook {l : Launch} {G : zG} {μ : zM} {o : Nat} (hc : o = 29) {S : zOb} (hS : μ o = S) {a1 : Int32} {out : Int32} (h : f_Mo_isBook S a1 = some out) : zMI l G yX8_isBook cX8_isBook 2 (some .boolean) 1 [.ref (G.2.2.1 o 0), .int a1] μ out μ := by
  refine zMI.of (by decide) (Nat.le_of_ble_eq_true rfl) (fun p e s m args below meth c Q ls cx hI hl hret => ?_)
  obtain ⟨hx, hb, hml, hown, hts, hK, hR⟩ := id cx
  have hl : lv_has ls 2 [(0, .ref (G.2.2.1 o 0)), (1, .int a1)] := hl
  unfold f_Mo_isBook at h
  refine lv_iload_n hx hb dX8_isBook_0 rfl (lv_at hl 1 rfl) ?_
  refine lv_i2l hx hb dX8_isBook_1 rfl ?_
  refine lv_lconst (v := (0 : Int64)) hx hb dX8_isBook_2 (by decide) ?_
  refine lv_aload_n hx hb dX8_isBook_3 rfl (lv_at hl 0 rfl) ?_
  refine g8_0 cx hI hc hS w_108 dX8_isBook_4 ?_
  refine lv_iconst (v := (nI 0)) hx hb dX8_isBook_7 (by decide) ?_
  refine zr_iald cx hI (k8_1 hc) hS (z8_1 hc) rfl (by decide) dX8_isBook_8 ?_
  refine lv_iconst (v := (nI 1)) hx hb dX8_isBook_9 (by decide) ?_
  refine lv_isub hx hb dX8_isBook_10 ?_
  refine lv_i2l hx hb dX8_isBook_11 rfl ?_
  obtain ⟨q1, hq1, h⟩ := bi_el h
  refine zcSi (As := [.long a1.toInt64, .long (0 : Int64), .long (((S.1 1 0) - (nI 1)).toInt64)]) cx hI (c_Mo_in  hq1) mt_yX8_in ms_yX8_in w_179 (by omega) rfl hl.1 rfl (Nat.le_of_ble_eq_true rfl) dX8_isBook_12 (fun H locs hI => ?_)
  obtain ⟨g2, h⟩ := gd_el h
  obtain rfl := Option.some.inj h
  exact hret _ _ _ _ dX8_isBook_15 (zbool g2) hI
def f_Mo_lasts_48 (N : Nat) (S : zOb)  (x2 : Int32) : Option Int32 :=
  some x2
set_option maxHeartbeats 4000000 in
set_option maxRecDepth 100000 in
theorem t_Mo_lasts_48 (N : Nat) {p : Program} {l : Launch} {e : Env} {s : State} {m : MethodId} {args : Array Value} {below : List Frame} {meth : Method} {c : Code} {Q : State → Prop} {G : zG} {μ : zM} {o : Nat} (hc : o = 29) {S : zOb} (hS : μ o = S) {out : Int32} (cx : zCX p (zrm 0) s m args c RX8 cX8_lasts 4 0 G) (hret : zRi p l e (zrm 0) s m args below meth c cX8_lasts G .int Q out μ)   : ∀ (x2 : Int32), f_Mo_lasts_48 N S x2 = some out → ∀ {H : Heap} {locs : List Loc} {ls : Array Slot}, zIW G s μ H locs → lv_has ls 4 [(2, .int x2)] → W p l e (zrm 0) s m args below meth c H locs 0 0 Q (F0 m 48 ls []) := by
  obtain ⟨hx, hb, hml, hown, hts, hK, hR⟩ := id cx
  intro x2  h H locs ls hI hl
  unfold f_Mo_lasts_48 at h
  refine lv_iload_n hx hb dX8_lasts_48 rfl (lv_at hl 0 rfl) ?_
  obtain rfl := Option.some.inj h
  exact hret _ _ _ _ dX8_lasts_49 rfl hI
def f_Mo_lasts_23 (N : Nat) (S : zOb)  : Nat → Int32 → Int32 → Int32 → Option Int32
  | 0, _, _, _ => none
  | n + 1, x1, x2, x3 => (if x1 ≤ x3 then f_Mo_lasts_48 N S x2 else (if (S.1 1 4) = (nI 2) then bnd (x2 * (nI 2)) (fun v5 => bnd (x3 + (nI 1)) (fun v6 => f_Mo_lasts_23 N S n x1 v5 v6)) else f_Mo_lasts_48 N S x2))
set_option maxHeartbeats 4000000 in
set_option maxRecDepth 100000 in
theorem t_Mo_lasts_23 (N : Nat) {p : Program} {l : Launch} {e : Env} {s : State} {m : MethodId} {args : Array Value} {below : List Frame} {meth : Method} {c : Code} {Q : State → Prop} {G : zG} {μ : zM} {o : Nat} (hc : o = 29) {S : zOb} (hS : μ o = S) {out : Int32} (cx : zCX p (zrm 0) s m args c RX8 cX8_lasts 4 0 G) (hret : zRi p l e (zrm 0) s m args below meth c cX8_lasts G .int Q out μ)   : ∀ (n : Nat) (x1 : Int32) (x2 : Int32) (x3 : Int32), f_Mo_lasts_23 N S n x1 x2 x3 = some out → ∀ {H : Heap} {locs : List Loc} {ls : Array Slot}, zIW G s μ H locs → lv_has ls 4 [(0, .ref (G.2.2.1 o 0)), (1, .int x1), (2, .int x2), (3, .int x3)] → W p l e (zrm 0) s m args below meth c H locs 0 0 Q (F0 m 23 ls []) := by
  obtain ⟨hx, hb, hml, hown, hts, hK, hR⟩ := id cx
  intro n
  induction n with
  | zero =>
    intro x1 x2 x3  h
    cases h
  | succ n ih =>
    intro x1 x2 x3  h H locs ls hI hl
    rw [f_Mo_lasts_23] at h
    refine lv_iload_n hx hb dX8_lasts_23 rfl (lv_at hl 3 rfl) ?_
    refine lv_iload_n hx hb dX8_lasts_24 rfl (lv_at hl 1 rfl) ?_
    refine lv_icmp_ge (tgt := 48) hx hb dX8_lasts_25 (by decide) (fun c3 => ?_) (fun c3 => ?_)
    · have h := it_p h c3
      exact t_Mo_lasts_48 N hc hS cx hret x2 h hI (lv_sub hl [2] rfl)
    · have h := it_n h c3
      refine lv_aload_n hx hb dX8_lasts_28 rfl (lv_at hl 0 rfl) ?_
      refine g8_0 cx hI hc hS w_108 dX8_lasts_29 ?_
      refine lv_iconst (v := (nI 4)) hx hb dX8_lasts_32 (by decide) ?_
      refine zr_iald cx hI (k8_1 hc) hS (z8_1 hc) rfl (by decide) dX8_lasts_33 ?_
      refine lv_iconst (v := (nI 2)) hx hb dX8_lasts_34 (by decide) ?_
      refine lv_icmp_ne (tgt := 48) hx hb dX8_lasts_35 (by decide) (fun c4 => ?_) (fun c4 => ?_)
      · have h := it_n h c4
        exact t_Mo_lasts_48 N hc hS cx hret x2 h hI (lv_sub hl [2] rfl)
      · have h := it_p h c4
        refine lv_iload_n hx hb dX8_lasts_38 rfl (lv_at hl 2 rfl) ?_
        refine lv_iconst (v := (nI 2)) hx hb dX8_lasts_39 (by decide) ?_
        refine lv_imul hx hb dX8_lasts_40 ?_
        refine lv_topi (fun v5 ev5 => ?_)
        have h := bnd_el h ev5
        refine lv_istore_n (lv' := [(2, .int v5), (0, .ref (G.2.2.1 o 0)), (1, .int x1), (3, .int x3)]) hx hb dX8_lasts_41 rfl hl (by decide) rfl (fun ls hl => ?_)
        obtain ⟨v6, ev6⟩ : ∃ z : Int32, z = x3 + (nI 1) := ⟨_, rfl⟩
        have h := bnd_el h ev6
        refine lv_iinc (v := v6) (lv' := [(3, .int v6), (2, .int v5), (0, .ref (G.2.2.1 o 0)), (1, .int x1)]) hx hb dX8_lasts_42 hl (k := 3) rfl (by rw [ev6]; rfl) (by decide) rfl (fun ls hl => ?_)
        refine lv_goto (tgt := 23) hx hb dX8_lasts_45 (by decide) ?_
        exact ih x1 v5 v6 h hI (lv_sub hl [2, 3, 1, 0] rfl)
def f_Mo_lasts_21 (N : Nat) (S : zOb)  (x1 : Int32) (x2 : Int32) : Option Int32 :=
  f_Mo_lasts_23 N S N x1 x2 (nI 1)
set_option maxHeartbeats 4000000 in
set_option maxRecDepth 100000 in
theorem t_Mo_lasts_21 (N : Nat) {p : Program} {l : Launch} {e : Env} {s : State} {m : MethodId} {args : Array Value} {below : List Frame} {meth : Method} {c : Code} {Q : State → Prop} {G : zG} {μ : zM} {o : Nat} (hc : o = 29) {S : zOb} (hS : μ o = S) {out : Int32} (cx : zCX p (zrm 0) s m args c RX8 cX8_lasts 4 0 G) (hret : zRi p l e (zrm 0) s m args below meth c cX8_lasts G .int Q out μ)   : ∀ (x1 : Int32) (x2 : Int32), f_Mo_lasts_21 N S x1 x2 = some out → ∀ {H : Heap} {locs : List Loc} {ls : Array Slot}, zIW G s μ H locs → lv_has ls 4 [(0, .ref (G.2.2.1 o 0)), (1, .int x1), (2, .int x2)] → W p l e (zrm 0) s m args below meth c H locs 0 0 Q (F0 m 21 ls []) := by
  obtain ⟨hx, hb, hml, hown, hts, hK, hR⟩ := id cx
  intro x1 x2  h H locs ls hI hl
  unfold f_Mo_lasts_21 at h
  refine lv_iconst (v := (nI 1)) hx hb dX8_lasts_21 (by decide) ?_
  refine lv_istore_n (lv' := [(3, .int (nI 1)), (0, .ref (G.2.2.1 o 0)), (1, .int x1), (2, .int x2)]) hx hb dX8_lasts_22 rfl hl (by decide) rfl (fun ls hl => ?_)
  exact t_Mo_lasts_23 N hc hS cx hret N x1 x2 (nI 1) h hI (lv_sub hl [1, 2, 3, 0] rfl)
def f_Mo_lasts (N : Nat) (S : zOb) (a1 : Int32) : Option Int32 :=
  bnd (S.1 1 2) (fun v1 => (if (S.1 1 4) = (nI 1) then bnd (v1 * a1) (fun v7 => f_Mo_lasts_21 N S a1 v7) else f_Mo_lasts_21 N S a1 v1))
set_option maxHeartbeats 4000000 in
set_option maxRecDepth 100000 in
theorem c_Mo_lasts (N : Nat) {l : Launch} {G : zG} {μ : zM} {o : Nat} (hc : o = 29) {S : zOb} (hS : μ o = S) {a1 : Int32} {out : Int32} (h : f_Mo_lasts N S a1 = some out) : zMI l G yX8_lasts cX8_lasts 4 (some .int) 0 [.ref (G.2.2.1 o 0), .int a1] μ out μ := by
  refine zMI.of (by decide) (Nat.le_of_ble_eq_true rfl) (fun p e s m args below meth c Q ls cx hI hl hret => ?_)
  obtain ⟨hx, hb, hml, hown, hts, hK, hR⟩ := id cx
  have hl : lv_has ls 4 [(0, .ref (G.2.2.1 o 0)), (1, .int a1)] := hl
  unfold f_Mo_lasts at h
  refine lv_aload_n hx hb dX8_lasts_0 rfl (lv_at hl 0 rfl) ?_
  refine g8_0 cx hI hc hS w_108 dX8_lasts_1 ?_
  refine lv_iconst (v := (nI 2)) hx hb dX8_lasts_4 (by decide) ?_
  refine zr_iald cx hI (k8_1 hc) hS (z8_1 hc) rfl (by decide) dX8_lasts_5 ?_
  refine lv_topi (fun v1 ev1 => ?_)
  have h := bnd_el h ev1
  refine lv_istore_n (lv' := [(2, .int v1), (0, .ref (G.2.2.1 o 0)), (1, .int a1)]) hx hb dX8_lasts_6 rfl hl (by decide) rfl (fun ls hl => ?_)
  refine lv_aload_n hx hb dX8_lasts_7 rfl (lv_at hl 1 rfl) ?_
  refine g8_0 cx hI hc hS w_108 dX8_lasts_8 ?_
  refine lv_iconst (v := (nI 4)) hx hb dX8_lasts_11 (by decide) ?_
  refine zr_iald cx hI (k8_1 hc) hS (z8_1 hc) rfl (by decide) dX8_lasts_12 ?_
  refine lv_iconst (v := (nI 1)) hx hb dX8_lasts_13 (by decide) ?_
  refine lv_icmp_ne (tgt := 21) hx hb dX8_lasts_14 (by decide) (fun c2 => ?_) (fun c2 => ?_)
  · have h := it_n h c2
    exact t_Mo_lasts_21 N hc hS cx hret a1 v1 h hI (lv_sub hl [1, 2, 0] rfl)
  · have h := it_p h c2
    refine lv_iload_n hx hb dX8_lasts_17 rfl (lv_at hl 0 rfl) ?_
    refine lv_iload_n hx hb dX8_lasts_18 rfl (lv_at hl 2 rfl) ?_
    refine lv_imul hx hb dX8_lasts_19 ?_
    refine lv_topi (fun v7 ev7 => ?_)
    have h := bnd_el h ev7
    refine lv_istore_n (lv' := [(2, .int v7), (0, .ref (G.2.2.1 o 0)), (1, .int a1)]) hx hb dX8_lasts_20 rfl hl (by decide) rfl (fun ls hl => ?_)
    exact t_Mo_lasts_21 N hc hS cx hret a1 v7 h hI (lv_sub hl [1, 2, 0] rfl)
def f_Mo_begins_2 (N : Nat)  : Nat → zOb → Int32 → Option zOb
  | 0, _, _ => none
  | n + 1, S, x1 => (if (nI 20) ≤ x1 then some S else if zin x1 20 then bnd (zI S 14 x1.toNatClampNeg (nI 0)) (fun Z3 => bnd (x1 + (nI 1)) (fun v4 => f_Mo_begins_2 N n Z3 v4)) else none)
set_option maxHeartbeats 4000000 in
set_option maxRecDepth 100000 in
theorem t_Mo_begins_2 (N : Nat) {p : Program} {l : Launch} {e : Env} {s : State} {m : MethodId} {args : Array Value} {below : List Frame} {meth : Method} {c : Code} {Q : State → Prop} {G : zG} {μ : zM} {o : Nat} (hc : o = 29) {out : zOb} (cx : zCX p (zrm 0) s m args c RX8 cX8_begins 2 0 G) (hret : zRv p l e (zrm 0) s m args below meth c cX8_begins G Q (zset μ o out))   : ∀ (n : Nat) (S : zOb) (x1 : Int32), f_Mo_begins_2 N n S x1 = some out → ∀ {H : Heap} {locs : List Loc} {ls : Array Slot}, zIW G s (zset μ o S) H locs → lv_has ls 2 [(0, .ref (G.2.2.1 o 0)), (1, .int x1)] → W p l e (zrm 0) s m args below meth c H locs 0 0 Q (F0 m 2 ls []) := by
  obtain ⟨hx, hb, hml, hown, hts, hK, hR⟩ := id cx
  intro n
  induction n with
  | zero =>
    intro S x1  h
    cases h
  | succ n ih =>
    intro S x1  h H locs ls hI hl
    rw [f_Mo_begins_2] at h
    refine lv_iload_n hx hb dX8_begins_2 rfl (lv_at hl 1 rfl) ?_
    refine lv_bipush (v := (nI 20)) hx hb dX8_begins_3 (by decide) ?_
    refine lv_icmp_ge (tgt := 21) hx hb dX8_begins_5 (by decide) (fun c1 => ?_) (fun c1 => ?_)
    · have h := it_p h c1
      obtain rfl := Option.some.inj h
      exact hret _ _ _ _ dX8_begins_21 hI
    · have h := it_n h c1
      refine lv_aload_n hx hb dX8_begins_8 rfl (lv_at hl 0 rfl) ?_
      refine g8_13 cx hI hc (zset_s _ _ _) w_119 dX8_begins_9 ?_
      refine lv_iload_n hx hb dX8_begins_12 rfl (lv_at hl 1 rfl) ?_
      refine lv_iconst (v := (nI 0)) hx hb dX8_begins_13 (by decide) ?_
      obtain ⟨g2, h⟩ := gd_el h
      obtain ⟨Z3, eZ3⟩ : ∃ z : zOb, z = zI S 14 x1.toNatClampNeg (nI 0) := ⟨_, rfl⟩
      have h := bnd_el h eZ3
      refine zr_iast cx hI (k8_14 hc) (zset_s _ _ _) (z8_14 hc) rfl g2 (zss eZ3) dX8_begins_14 (fun H locs hI => ?_)
      obtain ⟨v4, ev4⟩ : ∃ z : Int32, z = x1 + (nI 1) := ⟨_, rfl⟩
      have h := bnd_el h ev4
      refine lv_iinc (v := v4) (lv' := [(1, .int v4), (0, .ref (G.2.2.1 o 0))]) hx hb dX8_begins_15 hl (k := 1) rfl (by rw [ev4]; rfl) (by decide) rfl (fun ls hl => ?_)
      refine lv_goto (tgt := 2) hx hb dX8_begins_18 (by decide) ?_
      exact ih Z3 v4 h hI (lv_sub hl [1, 0] rfl)
def f_Mo_begins (N : Nat) (S : zOb) : Option zOb :=
  f_Mo_begins_2 N N S (nI 0)
set_option maxHeartbeats 4000000 in
set_option maxRecDepth 100000 in
theorem c_Mo_begins (N : Nat) {l : Launch} {G : zG} {μ : zM} {o : Nat} (hc : o = 29) {S : zOb} (hS : μ o = S)  {out : zOb} (h : f_Mo_begins N S  = some out) {μ' : zM} (hμ : zset μ o out = μ') : zMV l G yX8_begins cX8_begins 2 none 0 [.ref (G.2.2.1 o 0)] μ μ' := by
  subst hμ
  refine zMV.of (by decide) (Nat.le_of_ble_eq_true rfl) (fun p e s m args below meth c Q ls cx hI hl hret => ?_)
  obtain ⟨hx, hb, hml, hown, hts, hK, hR⟩ := id cx
  have hl : lv_has ls 2 [(0, .ref (G.2.2.1 o 0))] := hl
  rw [← zset_idS hS] at hI
  unfold f_Mo_begins at h
  refine lv_iconst (v := (nI 0)) hx hb dX8_begins_0 (by decide) ?_
  refine lv_istore_n (lv' := [(1, .int (nI 0)), (0, .ref (G.2.2.1 o 0))]) hx hb dX8_begins_1 rfl hl (by decide) rfl (fun ls hl => ?_)
  exact t_Mo_begins_2 N hc cx hret N S (nI 0) h hI (lv_sub hl [1, 0] rfl)
def f_Mo_reads_212 (N : Nat) (k30 : zOb → Int32 → Int32 → Int32 → Option zOb) (S : zOb) (x1 : Int32) (x2 : Int32) (x3 : Int32) (s0 : Int32) (s1 : Int32) (s2 : Int32) : Option zOb :=
  if zin s2 7 then bnd (zI S 19 s2.toNatClampNeg (s1 ||| s0)) (fun Z18 => bnd (x3 + (nI 1)) (fun v19 => k30 Z18 x1 x2 v19)) else none
set_option maxHeartbeats 4000000 in
set_option maxRecDepth 100000 in
theorem t_Mo_reads_212 (N : Nat) {p : Program} {l : Launch} {e : Env} {s : State} {m : MethodId} {args : Array Value} {below : List Frame} {meth : Method} {c : Code} {Q : State → Prop} {G : zG} {μ : zM} {o : Nat} (hc : o = 29) {out : zOb} (cx : zCX p (zrm 1) s m args c RX8 cX8_reads 4 1 G) (hret : zRv p l e (zrm 1) s m args below meth c cX8_reads G Q (zset μ o out)) {k30 : zOb → Int32 → Int32 → Int32 → Option zOb} (hk30 : ∀ (S : zOb) (x1 : Int32) (x2 : Int32) (x3 : Int32), k30 S x1 x2 x3 = some out → ∀ {H : Heap} {locs : List Loc} {ls : Array Slot}, zIW G s (zset μ o S) H locs → lv_has ls 4 [(0, .ref (G.2.2.1 o 0)), (1, .int x1), (2, .int x2), (3, .int x3)] → W p l e (zrm 1) s m args below meth c H locs 0 0 Q (F0 m 30 ls [])) : ∀ (S : zOb) (x1 : Int32) (x2 : Int32) (x3 : Int32) (s0 : Int32) (s1 : Int32) (s2 : Int32), f_Mo_reads_212 N k30 S x1 x2 x3 s0 s1 s2 = some out → ∀ {H : Heap} {locs : List Loc} {ls : Array Slot}, zIW G s (zset μ o S) H locs → lv_has ls 4 [(0, .ref (G.2.2.1 o 0)), (1, .int x1), (2, .int x2), (3, .int x3)] → W p l e (zrm 1) s m args below meth c H locs 0 0 Q (F0 m 212 ls [.int s0, .int s1, .int s2, .ref (G.2.2.1 o 19)]) := by
  obtain ⟨hx, hb, hml, hown, hts, hK, hR⟩ := id cx
  intro S x1 x2 x3 s0 s1 s2  h H locs ls hI hl
  unfold f_Mo_reads_212 at h
  refine lv_ior hx hb dX8_reads_212 ?_
  obtain ⟨g17, h⟩ := gd_el h
  obtain ⟨Z18, eZ18⟩ : ∃ z : zOb, z = zI S 19 s2.toNatClampNeg (s1 ||| s0) := ⟨_, rfl⟩
  have h := bnd_el h eZ18
  refine zr_iast cx hI (k8_19 hc) (zset_s _ _ _) (z8_19 hc) rfl g17 (zss eZ18) dX8_reads_213 (fun H locs hI => ?_)
  obtain ⟨v19, ev19⟩ : ∃ z : Int32, z = x3 + (nI 1) := ⟨_, rfl⟩
  have h := bnd_el h ev19
  refine lv_iinc (v := v19) (lv' := [(3, .int v19), (0, .ref (G.2.2.1 o 0)), (1, .int x1), (2, .int x2)]) hx hb dX8_reads_214 hl (k := 3) rfl (by rw [ev19]; rfl) (by decide) rfl (fun ls hl => ?_)
  refine lv_goto (tgt := 30) hx hb dX8_reads_217 (by decide) ?_
  exact hk30 Z18 x1 x2 v19 h hI (lv_sub hl [1, 2, 3, 0] rfl)
def f_Mo_reads_189 (N : Nat) (k30 : zOb → Int32 → Int32 → Int32 → Option zOb) (S : zOb) (x1 : Int32) (x2 : Int32) (x3 : Int32) : Option zOb :=
  if zin x1 7 then if zin x3 20 then (if (S.1 14 x3.toNatClampNeg) ≤ nI 0 then f_Mo_reads_212 N k30 S x1 x2 x3 (nI 0) (S.1 19 x1.toNatClampNeg) x1 else f_Mo_reads_212 N k30 S x1 x2 x3 ((nI 1) <<< (x3 &&& 31)) (S.1 19 x1.toNatClampNeg) x1) else none else none
set_option maxHeartbeats 4000000 in
set_option maxRecDepth 100000 in
theorem t_Mo_reads_189 (N : Nat) {p : Program} {l : Launch} {e : Env} {s : State} {m : MethodId} {args : Array Value} {below : List Frame} {meth : Method} {c : Code} {Q : State → Prop} {G : zG} {μ : zM} {o : Nat} (hc : o = 29) {out : zOb} (cx : zCX p (zrm 1) s m args c RX8 cX8_reads 4 1 G) (hret : zRv p l e (zrm 1) s m args below meth c cX8_reads G Q (zset μ o out)) {k30 : zOb → Int32 → Int32 → Int32 → Option zOb} (hk30 : ∀ (S : zOb) (x1 : Int32) (x2 : Int32) (x3 : Int32), k30 S x1 x2 x3 = some out → ∀ {H : Heap} {locs : List Loc} {ls : Array Slot}, zIW G s (zset μ o S) H locs → lv_has ls 4 [(0, .ref (G.2.2.1 o 0)), (1, .int x1), (2, .int x2), (3, .int x3)] → W p l e (zrm 1) s m args below meth c H locs 0 0 Q (F0 m 30 ls [])) : ∀ (S : zOb) (x1 : Int32) (x2 : Int32) (x3 : Int32), f_Mo_reads_189 N k30 S x1 x2 x3 = some out → ∀ {H : Heap} {locs : List Loc} {ls : Array Slot}, zIW G s (zset μ o S) H locs → lv_has ls 4 [(0, .ref (G.2.2.1 o 0)), (1, .int x1), (2, .int x2), (3, .int x3)] → W p l e (zrm 1) s m args below meth c H locs 0 0 Q (F0 m 189 ls []) := by
  obtain ⟨hx, hb, hml, hown, hts, hK, hR⟩ := id cx
  intro S x1 x2 x3  h H locs ls hI hl
  unfold f_Mo_reads_189 at h
  refine lv_aload_n hx hb dX8_reads_189 rfl (lv_at hl 0 rfl) ?_
  refine g8_18 cx hI hc (zset_s _ _ _) w_124 dX8_reads_190 ?_
  refine lv_iload_n hx hb dX8_reads_193 rfl (lv_at hl 1 rfl) ?_
  refine lv_dup2_11 hx hb dX8_reads_194 rfl rfl ?_
  obtain ⟨g14, h⟩ := gd_el h
  refine zr_iald cx hI (k8_19 hc) (zset_s _ _ _) (z8_19 hc) rfl g14 dX8_reads_195 ?_
  refine lv_aload_n hx hb dX8_reads_196 rfl (lv_at hl 0 rfl) ?_
  refine g8_13 cx hI hc (zset_s _ _ _) w_119 dX8_reads_197 ?_
  refine lv_iload_n hx hb dX8_reads_200 rfl (lv_at hl 3 rfl) ?_
  obtain ⟨g15, h⟩ := gd_el h
  refine zr_iald cx hI (k8_14 hc) (zset_s _ _ _) (z8_14 hc) rfl g15 dX8_reads_201 ?_
  refine lv_if_le (tgt := 211) hx hb dX8_reads_202 (by decide) (fun c16 => ?_) (fun c16 => ?_)
  · have h := it_p h c16
    refine lv_iconst (v := (nI 0)) hx hb dX8_reads_211 (by decide) ?_
    exact t_Mo_reads_212 N hc cx hret hk30 S x1 x2 x3 (nI 0) (S.1 19 x1.toNatClampNeg) x1 h hI hl
  · have h := it_n h c16
    refine lv_iconst (v := (nI 1)) hx hb dX8_reads_205 (by decide) ?_
    refine lv_iload_n hx hb dX8_reads_206 rfl (lv_at hl 3 rfl) ?_
    refine lv_ishl hx hb dX8_reads_207 ?_
    refine lv_goto (tgt := 212) hx hb dX8_reads_208 (by decide) ?_
    exact t_Mo_reads_212 N hc cx hret hk30 S x1 x2 x3 ((nI 1) <<< (x3 &&& 31)) (S.1 19 x1.toNatClampNeg) x1 h hI hl
def f_Mo_reads_140 (N : Nat) (k30 : zOb → Int32 → Int32 → Int32 → Option zOb) (S : zOb) (x1 : Int32) (x2 : Int32) (x3 : Int32) : Option zOb :=
  if zin x3 20 then (if (S.1 14 x3.toNatClampNeg) ≤ nI 0 then f_Mo_reads_189 N k30 S x1 x2 x3 else if zin x3 20 then if zin x3 20 then (f_Mo_lasts N S (S.1 14 x3.toNatClampNeg)).bind (fun q22 => (if (x1 - (S.1 15 x3.toNatClampNeg)) < q22 then f_Mo_reads_189 N k30 S x1 x2 x3 else if zin x1 7 then if zin x1 7 then bnd (zI S 18 x1.toNatClampNeg ((S.1 18 x1.toNatClampNeg) ||| ((nI 1) <<< (x3 &&& 31)))) (fun Z26 => if zin x3 20 then bnd (zI Z26 14 x3.toNatClampNeg (nI 0)) (fun Z28 => f_Mo_reads_189 N k30 Z28 x1 x2 x3) else none) else none else none)) else none else none) else none
set_option maxHeartbeats 4000000 in
set_option maxRecDepth 100000 in
theorem t_Mo_reads_140 (N : Nat) {p : Program} {l : Launch} {e : Env} {s : State} {m : MethodId} {args : Array Value} {below : List Frame} {meth : Method} {c : Code} {Q : State → Prop} {G : zG} {μ : zM} {o : Nat} (hc : o = 29) {out : zOb} (cx : zCX p (zrm 1) s m args c RX8 cX8_reads 4 1 G) (hret : zRv p l e (zrm 1) s m args below meth c cX8_reads G Q (zset μ o out)) {k30 : zOb → Int32 → Int32 → Int32 → Option zOb} (hk30 : ∀ (S : zOb) (x1 : Int32) (x2 : Int32) (x3 : Int32), k30 S x1 x2 x3 = some out → ∀ {H : Heap} {locs : List Loc} {ls : Array Slot}, zIW G s (zset μ o S) H locs → lv_has ls 4 [(0, .ref (G.2.2.1 o 0)), (1, .int x1), (2, .int x2), (3, .int x3)] → W p l e (zrm 1) s m args below meth c H locs 0 0 Q (F0 m 30 ls [])) : ∀ (S : zOb) (x1 : Int32) (x2 : Int32) (x3 : Int32), f_Mo_reads_140 N k30 S x1 x2 x3 = some out → ∀ {H : Heap} {locs : List Loc} {ls : Array Slot}, zIW G s (zset μ o S) H locs → lv_has ls 4 [(0, .ref (G.2.2.1 o 0)), (1, .int x1), (2, .int x2), (3, .int x3)] → W p l e (zrm 1) s m args below meth c H locs 0 0 Q (F0 m 140 ls []) := by
  obtain ⟨hx, hb, hml, hown, hts, hK, hR⟩ := id cx
  intro S x1 x2 x3  h H locs ls hI hl
  unfold f_Mo_reads_140 at h
  refine lv_aload_n hx hb dX8_reads_140 rfl (lv_at hl 0 rfl) ?_
  refine g8_13 cx hI hc (zset_s _ _ _) w_119 dX8_reads_141 ?_
  refine lv_iload_n hx hb dX8_reads_144 rfl (lv_at hl 3 rfl) ?_
  obtain ⟨g12, h⟩ := gd_el h
  refine zr_iald cx hI (k8_14 hc) (zset_s _ _ _) (z8_14 hc) rfl g12 dX8_reads_145 ?_
  refine lv_if_le (tgt := 189) hx hb dX8_reads_146 (by decide) (fun c13 => ?_) (fun c13 => ?_)
  · have h := it_p h c13
    exact t_Mo_reads_189 N hc cx hret hk30 S x1 x2 x3 h hI hl
  · have h := it_n h c13
    refine lv_iload_n hx hb dX8_reads_149 rfl (lv_at hl 1 rfl) ?_
    refine lv_aload_n hx hb dX8_reads_150 rfl (lv_at hl 0 rfl) ?_
    refine g8_14 cx hI hc (zset_s _ _ _) w_120 dX8_reads_151 ?_
    refine lv_iload_n hx hb dX8_reads_154 rfl (lv_at hl 3 rfl) ?_
    obtain ⟨g20, h⟩ := gd_el h
    refine zr_iald cx hI (k8_15 hc) (zset_s _ _ _) (z8_15 hc) rfl g20 dX8_reads_155 ?_
    refine lv_isub hx hb dX8_reads_156 ?_
    refine lv_aload_n hx hb dX8_reads_157 rfl (lv_at hl 0 rfl) ?_
    refine lv_aload_n hx hb dX8_reads_158 rfl (lv_at hl 0 rfl) ?_
    refine g8_13 cx hI hc (zset_s _ _ _) w_119 dX8_reads_159 ?_
    refine lv_iload_n hx hb dX8_reads_162 rfl (lv_at hl 3 rfl) ?_
    obtain ⟨g21, h⟩ := gd_el h
    refine zr_iald cx hI (k8_14 hc) (zset_s _ _ _) (z8_14 hc) rfl g21 dX8_reads_163 ?_
    obtain ⟨q22, hq22, h⟩ := bi_el h
    refine zcVi (As := [.int (S.1 14 x3.toNatClampNeg)]) cx hI (c_Mo_lasts N hc (zset_s _ _ _) hq22) mt_yX8_lasts mv_yX8_lasts w_508 (by omega) (k8_0 hc) (zv8 hc) rfl hl.1 rfl (Nat.le_of_ble_eq_true rfl) dX8_reads_164 (fun H locs hI => ?_)
    refine lv_icmp_lt (tgt := 189) hx hb dX8_reads_167 (by decide) (fun c23 => ?_) (fun c23 => ?_)
    · have h := it_p h c23
      exact t_Mo_reads_189 N hc cx hret hk30 S x1 x2 x3 h hI hl
    · have h := it_n h c23
      refine lv_aload_n hx hb dX8_reads_170 rfl (lv_at hl 0 rfl) ?_
      refine g8_17 cx hI hc (zset_s _ _ _) w_123 dX8_reads_171 ?_
      refine lv_iload_n hx hb dX8_reads_174 rfl (lv_at hl 1 rfl) ?_
      refine lv_dup2_11 hx hb dX8_reads_175 rfl rfl ?_
      obtain ⟨g24, h⟩ := gd_el h
      refine zr_iald cx hI (k8_18 hc) (zset_s _ _ _) (z8_18 hc) rfl g24 dX8_reads_176 ?_
      refine lv_iconst (v := (nI 1)) hx hb dX8_reads_177 (by decide) ?_
      refine lv_iload_n hx hb dX8_reads_178 rfl (lv_at hl 3 rfl) ?_
      refine lv_ishl hx hb dX8_reads_179 ?_
      refine lv_ior hx hb dX8_reads_180 ?_
      obtain ⟨g25, h⟩ := gd_el h
      obtain ⟨Z26, eZ26⟩ : ∃ z : zOb, z = zI S 18 x1.toNatClampNeg ((S.1 18 x1.toNatClampNeg) ||| ((nI 1) <<< (x3 &&& 31))) := ⟨_, rfl⟩
      have h := bnd_el h eZ26
      refine zr_iast cx hI (k8_18 hc) (zset_s _ _ _) (z8_18 hc) rfl g25 (zss eZ26) dX8_reads_181 (fun H locs hI => ?_)
      refine lv_aload_n hx hb dX8_reads_182 rfl (lv_at hl 0 rfl) ?_
      refine g8_13 cx hI hc (zset_s _ _ _) w_119 dX8_reads_183 ?_
      refine lv_iload_n hx hb dX8_reads_186 rfl (lv_at hl 3 rfl) ?_
      refine lv_iconst (v := (nI 0)) hx hb dX8_reads_187 (by decide) ?_
      obtain ⟨g27, h⟩ := gd_el h
      obtain ⟨Z28, eZ28⟩ : ∃ z : zOb, z = zI Z26 14 x3.toNatClampNeg (nI 0) := ⟨_, rfl⟩
      have h := bnd_el h eZ28
      refine zr_iast cx hI (k8_14 hc) (zset_s _ _ _) (z8_14 hc) rfl g27 (zss eZ28) dX8_reads_188 (fun H locs hI => ?_)
      exact t_Mo_reads_189 N hc cx hret hk30 Z28 x1 x2 x3 h hI hl
def f_Mo_reads_132 (N : Nat) (k30 : zOb → Int32 → Int32 → Int32 → Option zOb) (S : zOb) (x1 : Int32) (x2 : Int32) (x3 : Int32) (s0 : Int32) (s1 : Int32) : Option zOb :=
  if zin s1 20 then bnd (zI S 14 s1.toNatClampNeg s0) (fun Z43 => if zin x3 20 then bnd (zI Z43 15 x3.toNatClampNeg x1) (fun Z45 => f_Mo_reads_140 N k30 Z45 x1 x2 x3) else none) else none
set_option maxHeartbeats 4000000 in
set_option maxRecDepth 100000 in
theorem t_Mo_reads_132 (N : Nat) {p : Program} {l : Launch} {e : Env} {s : State} {m : MethodId} {args : Array Value} {below : List Frame} {meth : Method} {c : Code} {Q : State → Prop} {G : zG} {μ : zM} {o : Nat} (hc : o = 29) {out : zOb} (cx : zCX p (zrm 1) s m args c RX8 cX8_reads 4 1 G) (hret : zRv p l e (zrm 1) s m args below meth c cX8_reads G Q (zset μ o out)) {k30 : zOb → Int32 → Int32 → Int32 → Option zOb} (hk30 : ∀ (S : zOb) (x1 : Int32) (x2 : Int32) (x3 : Int32), k30 S x1 x2 x3 = some out → ∀ {H : Heap} {locs : List Loc} {ls : Array Slot}, zIW G s (zset μ o S) H locs → lv_has ls 4 [(0, .ref (G.2.2.1 o 0)), (1, .int x1), (2, .int x2), (3, .int x3)] → W p l e (zrm 1) s m args below meth c H locs 0 0 Q (F0 m 30 ls [])) : ∀ (S : zOb) (x1 : Int32) (x2 : Int32) (x3 : Int32) (s0 : Int32) (s1 : Int32), f_Mo_reads_132 N k30 S x1 x2 x3 s0 s1 = some out → ∀ {H : Heap} {locs : List Loc} {ls : Array Slot}, zIW G s (zset μ o S) H locs → lv_has ls 4 [(0, .ref (G.2.2.1 o 0)), (1, .int x1), (2, .int x2), (3, .int x3)] → W p l e (zrm 1) s m args below meth c H locs 0 0 Q (F0 m 132 ls [.int s0, .int s1, .ref (G.2.2.1 o 14)]) := by
  obtain ⟨hx, hb, hml, hown, hts, hK, hR⟩ := id cx
  intro S x1 x2 x3 s0 s1  h H locs ls hI hl
  unfold f_Mo_reads_132 at h
  obtain ⟨g42, h⟩ := gd_el h
  obtain ⟨Z43, eZ43⟩ : ∃ z : zOb, z = zI S 14 s1.toNatClampNeg s0 := ⟨_, rfl⟩
  have h := bnd_el h eZ43
  refine zr_iast cx hI (k8_14 hc) (zset_s _ _ _) (z8_14 hc) rfl g42 (zss eZ43) dX8_reads_132 (fun H locs hI => ?_)
  refine lv_aload_n hx hb dX8_reads_133 rfl (lv_at hl 0 rfl) ?_
  refine g8_14 cx hI hc (zset_s _ _ _) w_120 dX8_reads_134 ?_
  refine lv_iload_n hx hb dX8_reads_137 rfl (lv_at hl 3 rfl) ?_
  refine lv_iload_n hx hb dX8_reads_138 rfl (lv_at hl 1 rfl) ?_
  obtain ⟨g44, h⟩ := gd_el h
  obtain ⟨Z45, eZ45⟩ : ∃ z : zOb, z = zI Z43 15 x3.toNatClampNeg x1 := ⟨_, rfl⟩
  have h := bnd_el h eZ45
  refine zr_iast cx hI (k8_15 hc) (zset_s _ _ _) (z8_15 hc) rfl g44 (zss eZ45) dX8_reads_139 (fun H locs hI => ?_)
  exact t_Mo_reads_140 N hc cx hret hk30 Z45 x1 x2 x3 h hI hl
def f_Mo_reads_101 (N : Nat) (k30 : zOb → Int32 → Int32 → Int32 → Option zOb) (S : zOb) (x1 : Int32) (x2 : Int32) (x3 : Int32) (s0 : Int32) (s1 : Int32) (s2 : Int32) : Option zOb :=
  if zin s2 7 then bnd (zI S 17 s2.toNatClampNeg (s1 ||| s0)) (fun Z38 => if zin x3 20 then (if (Z38.1 14 x3.toNatClampNeg) = (nI 9) then f_Mo_reads_132 N k30 Z38 x1 x2 x3 (nI 9) x3 else if zin x3 20 then f_Mo_reads_132 N k30 Z38 x1 x2 x3 ((Z38.1 14 x3.toNatClampNeg) + (nI 1)) x3 else none) else none) else none
set_option maxHeartbeats 4000000 in
set_option maxRecDepth 100000 in
theorem t_Mo_reads_101 (N : Nat) {p : Program} {l : Launch} {e : Env} {s : State} {m : MethodId} {args : Array Value} {below : List Frame} {meth : Method} {c : Code} {Q : State → Prop} {G : zG} {μ : zM} {o : Nat} (hc : o = 29) {out : zOb} (cx : zCX p (zrm 1) s m args c RX8 cX8_reads 4 1 G) (hret : zRv p l e (zrm 1) s m args below meth c cX8_reads G Q (zset μ o out)) {k30 : zOb → Int32 → Int32 → Int32 → Option zOb} (hk30 : ∀ (S : zOb) (x1 : Int32) (x2 : Int32) (x3 : Int32), k30 S x1 x2 x3 = some out → ∀ {H : Heap} {locs : List Loc} {ls : Array Slot}, zIW G s (zset μ o S) H locs → lv_has ls 4 [(0, .ref (G.2.2.1 o 0)), (1, .int x1), (2, .int x2), (3, .int x3)] → W p l e (zrm 1) s m args below meth c H locs 0 0 Q (F0 m 30 ls [])) : ∀ (S : zOb) (x1 : Int32) (x2 : Int32) (x3 : Int32) (s0 : Int32) (s1 : Int32) (s2 : Int32), f_Mo_reads_101 N k30 S x1 x2 x3 s0 s1 s2 = some out → ∀ {H : Heap} {locs : List Loc} {ls : Array Slot}, zIW G s (zset μ o S) H locs → lv_has ls 4 [(0, .ref (G.2.2.1 o 0)), (1, .int x1), (2, .int x2), (3, .int x3)] → W p l e (zrm 1) s m args below meth c H locs 0 0 Q (F0 m 101 ls [.int s0, .int s1, .int s2, .ref (G.2.2.1 o 17)]) := by
  obtain ⟨hx, hb, hml, hown, hts, hK, hR⟩ := id cx
  intro S x1 x2 x3 s0 s1 s2  h H locs ls hI hl
  unfold f_Mo_reads_101 at h
  refine lv_ior hx hb dX8_reads_101 ?_
  obtain ⟨g37, h⟩ := gd_el h
  obtain ⟨Z38, eZ38⟩ : ∃ z : zOb, z = zI S 17 s2.toNatClampNeg (s1 ||| s0) := ⟨_, rfl⟩
  have h := bnd_el h eZ38
  refine zr_iast cx hI (k8_17 hc) (zset_s _ _ _) (z8_17 hc) rfl g37 (zss eZ38) dX8_reads_102 (fun H locs hI => ?_)
  refine lv_aload_n hx hb dX8_reads_103 rfl (lv_at hl 0 rfl) ?_
  refine g8_13 cx hI hc (zset_s _ _ _) w_119 dX8_reads_104 ?_
  refine lv_iload_n hx hb dX8_reads_107 rfl (lv_at hl 3 rfl) ?_
  refine lv_aload_n hx hb dX8_reads_108 rfl (lv_at hl 0 rfl) ?_
  refine g8_13 cx hI hc (zset_s _ _ _) w_119 dX8_reads_109 ?_
  refine lv_iload_n hx hb dX8_reads_112 rfl (lv_at hl 3 rfl) ?_
  obtain ⟨g39, h⟩ := gd_el h
  refine zr_iald cx hI (k8_14 hc) (zset_s _ _ _) (z8_14 hc) rfl g39 dX8_reads_113 ?_
  refine lv_bipush (v := (nI 9)) hx hb dX8_reads_114 (by decide) ?_
  refine lv_icmp_ne (tgt := 124) hx hb dX8_reads_116 (by decide) (fun c40 => ?_) (fun c40 => ?_)
  · have h := it_n h c40
    refine lv_aload_n hx hb dX8_reads_124 rfl (lv_at hl 0 rfl) ?_
    refine g8_13 cx hI hc (zset_s _ _ _) w_119 dX8_reads_125 ?_
    refine lv_iload_n hx hb dX8_reads_128 rfl (lv_at hl 3 rfl) ?_
    obtain ⟨g41, h⟩ := gd_el h
    refine zr_iald cx hI (k8_14 hc) (zset_s _ _ _) (z8_14 hc) rfl g41 dX8_reads_129 ?_
    refine lv_iconst (v := (nI 1)) hx hb dX8_reads_130 (by decide) ?_
    refine lv_iadd hx hb dX8_reads_131 ?_
    exact t_Mo_reads_132 N hc cx hret hk30 Z38 x1 x2 x3 ((Z38.1 14 x3.toNatClampNeg) + (nI 1)) x3 h hI hl
  · have h := it_p h c40
    refine lv_bipush (v := (nI 9)) hx hb dX8_reads_119 (by decide) ?_
    refine lv_goto (tgt := 132) hx hb dX8_reads_121 (by decide) ?_
    exact t_Mo_reads_132 N hc cx hret hk30 Z38 x1 x2 x3 (nI 9) x3 h hI hl
def f_Mo_reads_76 (N : Nat) (k30 : zOb → Int32 → Int32 → Int32 → Option zOb) (S : zOb) (x1 : Int32) (x2 : Int32) (x3 : Int32) (s0 : Int32) (s1 : Int32) (s2 : Int32) : Option zOb :=
  if zin s2 7 then bnd (zI S 16 s2.toNatClampNeg (s1 ||| s0)) (fun Z33 => if zin x1 7 then if zin x3 20 then (if (Z33.1 14 x3.toNatClampNeg) ≤ nI 0 then f_Mo_reads_101 N k30 Z33 x1 x2 x3 (nI 0) (Z33.1 17 x1.toNatClampNeg) x1 else f_Mo_reads_101 N k30 Z33 x1 x2 x3 ((nI 1) <<< (x3 &&& 31)) (Z33.1 17 x1.toNatClampNeg) x1) else none else none) else none
set_option maxHeartbeats 4000000 in
set_option maxRecDepth 100000 in
theorem t_Mo_reads_76 (N : Nat) {p : Program} {l : Launch} {e : Env} {s : State} {m : MethodId} {args : Array Value} {below : List Frame} {meth : Method} {c : Code} {Q : State → Prop} {G : zG} {μ : zM} {o : Nat} (hc : o = 29) {out : zOb} (cx : zCX p (zrm 1) s m args c RX8 cX8_reads 4 1 G) (hret : zRv p l e (zrm 1) s m args below meth c cX8_reads G Q (zset μ o out)) {k30 : zOb → Int32 → Int32 → Int32 → Option zOb} (hk30 : ∀ (S : zOb) (x1 : Int32) (x2 : Int32) (x3 : Int32), k30 S x1 x2 x3 = some out → ∀ {H : Heap} {locs : List Loc} {ls : Array Slot}, zIW G s (zset μ o S) H locs → lv_has ls 4 [(0, .ref (G.2.2.1 o 0)), (1, .int x1), (2, .int x2), (3, .int x3)] → W p l e (zrm 1) s m args below meth c H locs 0 0 Q (F0 m 30 ls [])) : ∀ (S : zOb) (x1 : Int32) (x2 : Int32) (x3 : Int32) (s0 : Int32) (s1 : Int32) (s2 : Int32), f_Mo_reads_76 N k30 S x1 x2 x3 s0 s1 s2 = some out → ∀ {H : Heap} {locs : List Loc} {ls : Array Slot}, zIW G s (zset μ o S) H locs → lv_has ls 4 [(0, .ref (G.2.2.1 o 0)), (1, .int x1), (2, .int x2), (3, .int x3)] → W p l e (zrm 1) s m args below meth c H locs 0 0 Q (F0 m 76 ls [.int s0, .int s1, .int s2, .ref (G.2.2.1 o 16)]) := by
  obtain ⟨hx, hb, hml, hown, hts, hK, hR⟩ := id cx
  intro S x1 x2 x3 s0 s1 s2  h H locs ls hI hl
  unfold f_Mo_reads_76 at h
  refine lv_ior hx hb dX8_reads_76 ?_
  obtain ⟨g32, h⟩ := gd_el h
  obtain ⟨Z33, eZ33⟩ : ∃ z : zOb, z = zI S 16 s2.toNatClampNeg (s1 ||| s0) := ⟨_, rfl⟩
  have h := bnd_el h eZ33
  refine zr_iast cx hI (k8_16 hc) (zset_s _ _ _) (z8_16 hc) rfl g32 (zss eZ33) dX8_reads_77 (fun H locs hI => ?_)
  refine lv_aload_n hx hb dX8_reads_78 rfl (lv_at hl 0 rfl) ?_
  refine g8_16 cx hI hc (zset_s _ _ _) w_122 dX8_reads_79 ?_
  refine lv_iload_n hx hb dX8_reads_82 rfl (lv_at hl 1 rfl) ?_
  refine lv_dup2_11 hx hb dX8_reads_83 rfl rfl ?_
  obtain ⟨g34, h⟩ := gd_el h
  refine zr_iald cx hI (k8_17 hc) (zset_s _ _ _) (z8_17 hc) rfl g34 dX8_reads_84 ?_
  refine lv_aload_n hx hb dX8_reads_85 rfl (lv_at hl 0 rfl) ?_
  refine g8_13 cx hI hc (zset_s _ _ _) w_119 dX8_reads_86 ?_
  refine lv_iload_n hx hb dX8_reads_89 rfl (lv_at hl 3 rfl) ?_
  obtain ⟨g35, h⟩ := gd_el h
  refine zr_iald cx hI (k8_14 hc) (zset_s _ _ _) (z8_14 hc) rfl g35 dX8_reads_90 ?_
  refine lv_if_le (tgt := 100) hx hb dX8_reads_91 (by decide) (fun c36 => ?_) (fun c36 => ?_)
  · have h := it_p h c36
    refine lv_iconst (v := (nI 0)) hx hb dX8_reads_100 (by decide) ?_
    exact t_Mo_reads_101 N hc cx hret hk30 Z33 x1 x2 x3 (nI 0) (Z33.1 17 x1.toNatClampNeg) x1 h hI hl
  · have h := it_n h c36
    refine lv_iconst (v := (nI 1)) hx hb dX8_reads_94 (by decide) ?_
    refine lv_iload_n hx hb dX8_reads_95 rfl (lv_at hl 3 rfl) ?_
    refine lv_ishl hx hb dX8_reads_96 ?_
    refine lv_goto (tgt := 101) hx hb dX8_reads_97 (by decide) ?_
    exact t_Mo_reads_101 N hc cx hret hk30 Z33 x1 x2 x3 ((nI 1) <<< (x3 &&& 31)) (Z33.1 17 x1.toNatClampNeg) x1 h hI hl
def f_Mo_reads_30 (N : Nat)  : Nat → zOb → Int32 → Int32 → Int32 → Option zOb
  | 0, _, _, _, _ => none
  | n + 1, S, x1, x2, x3 => (if (nI 20) ≤ x3 then some S else (f_Mo_has (x2 &&& ((S.1 1 1) ^^^ (-1 : Int32))) x3).bind (fun q10 => (if q10 = nI 0 then f_Mo_reads_140 N (f_Mo_reads_30 N n) S x1 x2 x3 else if zin x1 7 then if zin x3 20 then (if (S.1 14 x3.toNatClampNeg) = nI 0 then f_Mo_reads_76 N (f_Mo_reads_30 N n) S x1 x2 x3 ((nI 1) <<< (x3 &&& 31)) (S.1 16 x1.toNatClampNeg) x1 else f_Mo_reads_76 N (f_Mo_reads_30 N n) S x1 x2 x3 (nI 0) (S.1 16 x1.toNatClampNeg) x1) else none else none)))
set_option maxHeartbeats 4000000 in
set_option maxRecDepth 100000 in
theorem t_Mo_reads_30 (N : Nat) {p : Program} {l : Launch} {e : Env} {s : State} {m : MethodId} {args : Array Value} {below : List Frame} {meth : Method} {c : Code} {Q : State → Prop} {G : zG} {μ : zM} {o : Nat} (hc : o = 29) {out : zOb} (cx : zCX p (zrm 1) s m args c RX8 cX8_reads 4 1 G) (hret : zRv p l e (zrm 1) s m args below meth c cX8_reads G Q (zset μ o out))   : ∀ (n : Nat) (S : zOb) (x1 : Int32) (x2 : Int32) (x3 : Int32), f_Mo_reads_30 N n S x1 x2 x3 = some out → ∀ {H : Heap} {locs : List Loc} {ls : Array Slot}, zIW G s (zset μ o S) H locs → lv_has ls 4 [(0, .ref (G.2.2.1 o 0)), (1, .int x1), (2, .int x2), (3, .int x3)] → W p l e (zrm 1) s m args below meth c H locs 0 0 Q (F0 m 30 ls []) := by
  obtain ⟨hx, hb, hml, hown, hts, hK, hR⟩ := id cx
  intro n
  induction n with
  | zero =>
    intro S x1 x2 x3  h
    cases h
  | succ n ih =>
    intro S x1 x2 x3  h H locs ls hI hl
    rw [f_Mo_reads_30] at h
    refine lv_iload_n hx hb dX8_reads_30 rfl (lv_at hl 3 rfl) ?_
    refine lv_bipush (v := (nI 20)) hx hb dX8_reads_31 (by decide) ?_
    refine lv_icmp_ge (tgt := 220) hx hb dX8_reads_33 (by decide) (fun c9 => ?_) (fun c9 => ?_)
    · have h := it_p h c9
      obtain rfl := Option.some.inj h
      exact hret _ _ _ _ dX8_reads_220 hI
    · have h := it_n h c9
      refine lv_iload_n hx hb dX8_reads_36 rfl (lv_at hl 2 rfl) ?_
      refine lv_aload_n hx hb dX8_reads_37 rfl (lv_at hl 0 rfl) ?_
      refine g8_0 cx hI hc (zset_s _ _ _) w_108 dX8_reads_38 ?_
      refine lv_iconst (v := (nI 1)) hx hb dX8_reads_41 (by decide) ?_
      refine zr_iald cx hI (k8_1 hc) (zset_s _ _ _) (z8_1 hc) rfl (by decide) dX8_reads_42 ?_
      refine lv_iconst (v := (-1 : Int32)) hx hb dX8_reads_43 (by decide) ?_
      refine lv_ixor hx hb dX8_reads_44 ?_
      refine lv_iand hx hb dX8_reads_45 ?_
      refine lv_iload_n hx hb dX8_reads_46 rfl (lv_at hl 3 rfl) ?_
      obtain ⟨q10, hq10, h⟩ := bi_el h
      refine zcSi (As := [.int (x2 &&& ((S.1 1 1) ^^^ (-1 : Int32))), .int x3]) cx hI (c_Mo_has  hq10) mt_yX8_has ms_yX8_has w_275 (by omega) rfl hl.1 rfl (Nat.le_of_ble_eq_true rfl) dX8_reads_47 (fun H locs hI => ?_)
      refine lv_if_eq (tgt := 140) hx hb dX8_reads_50 (by decide) (fun c11 => ?_) (fun c11 => ?_)
      · have h := it_p h c11
        exact t_Mo_reads_140 N hc cx hret ih S x1 x2 x3 h hI hl
      · have h := it_n h c11
        refine lv_aload_n hx hb dX8_reads_53 rfl (lv_at hl 0 rfl) ?_
        refine g8_15 cx hI hc (zset_s _ _ _) w_121 dX8_reads_54 ?_
        refine lv_iload_n hx hb dX8_reads_57 rfl (lv_at hl 1 rfl) ?_
        refine lv_dup2_11 hx hb dX8_reads_58 rfl rfl ?_
        obtain ⟨g29, h⟩ := gd_el h
        refine zr_iald cx hI (k8_16 hc) (zset_s _ _ _) (z8_16 hc) rfl g29 dX8_reads_59 ?_
        refine lv_aload_n hx hb dX8_reads_60 rfl (lv_at hl 0 rfl) ?_
        refine g8_13 cx hI hc (zset_s _ _ _) w_119 dX8_reads_61 ?_
        refine lv_iload_n hx hb dX8_reads_64 rfl (lv_at hl 3 rfl) ?_
        obtain ⟨g30, h⟩ := gd_el h
        refine zr_iald cx hI (k8_14 hc) (zset_s _ _ _) (z8_14 hc) rfl g30 dX8_reads_65 ?_
        refine lv_if_ne (tgt := 75) hx hb dX8_reads_66 (by decide) (fun c31 => ?_) (fun c31 => ?_)
        · have h := it_n h c31
          refine lv_iconst (v := (nI 0)) hx hb dX8_reads_75 (by decide) ?_
          exact t_Mo_reads_76 N hc cx hret ih S x1 x2 x3 (nI 0) (S.1 16 x1.toNatClampNeg) x1 h hI hl
        · have h := it_p h c31
          refine lv_iconst (v := (nI 1)) hx hb dX8_reads_69 (by decide) ?_
          refine lv_iload_n hx hb dX8_reads_70 rfl (lv_at hl 3 rfl) ?_
          refine lv_ishl hx hb dX8_reads_71 ?_
          refine lv_goto (tgt := 76) hx hb dX8_reads_72 (by decide) ?_
          exact t_Mo_reads_76 N hc cx hret ih S x1 x2 x3 ((nI 1) <<< (x3 &&& 31)) (S.1 16 x1.toNatClampNeg) x1 h hI hl
def f_Mo_reads (N : Nat) (S : zOb) (a1 : Int32) (a2 : Int32) : Option zOb :=
  if zin a1 7 then bnd (zI S 16 a1.toNatClampNeg (nI 0)) (fun Z2 => if zin a1 7 then bnd (zI Z2 17 a1.toNatClampNeg (nI 0)) (fun Z4 => if zin a1 7 then bnd (zI Z4 18 a1.toNatClampNeg (nI 0)) (fun Z6 => if zin a1 7 then bnd (zI Z6 19 a1.toNatClampNeg (nI 0)) (fun Z8 => f_Mo_reads_30 N N Z8 a1 a2 (nI 0)) else none) else none) else none) else none
set_option maxHeartbeats 4000000 in
set_option maxRecDepth 100000 in
theorem c_Mo_reads (N : Nat) {l : Launch} {G : zG} {μ : zM} {o : Nat} (hc : o = 29) {S : zOb} (hS : μ o = S) {a1 : Int32} {a2 : Int32} {out : zOb} (h : f_Mo_reads N S a1 a2 = some out) {μ' : zM} (hμ : zset μ o out = μ') : zMV l G yX8_reads cX8_reads 4 none 1 [.ref (G.2.2.1 o 0), .int a1, .int a2] μ μ' := by
  subst hμ
  refine zMV.of (by decide) (Nat.le_of_ble_eq_true rfl) (fun p e s m args below meth c Q ls cx hI hl hret => ?_)
  obtain ⟨hx, hb, hml, hown, hts, hK, hR⟩ := id cx
  have hl : lv_has ls 4 [(0, .ref (G.2.2.1 o 0)), (1, .int a1), (2, .int a2)] := hl
  rw [← zset_idS hS] at hI
  unfold f_Mo_reads at h
  refine lv_aload_n hx hb dX8_reads_0 rfl (lv_at hl 0 rfl) ?_
  refine g8_15 cx hI hc (zset_s _ _ _) w_121 dX8_reads_1 ?_
  refine lv_iload_n hx hb dX8_reads_4 rfl (lv_at hl 1 rfl) ?_
  refine lv_iconst (v := (nI 0)) hx hb dX8_reads_5 (by decide) ?_
  obtain ⟨g1, h⟩ := gd_el h
  obtain ⟨Z2, eZ2⟩ : ∃ z : zOb, z = zI S 16 a1.toNatClampNeg (nI 0) := ⟨_, rfl⟩
  have h := bnd_el h eZ2
  refine zr_iast cx hI (k8_16 hc) (zset_s _ _ _) (z8_16 hc) rfl g1 (zss eZ2) dX8_reads_6 (fun H locs hI => ?_)
  refine lv_aload_n hx hb dX8_reads_7 rfl (lv_at hl 0 rfl) ?_
  refine g8_16 cx hI hc (zset_s _ _ _) w_122 dX8_reads_8 ?_
  refine lv_iload_n hx hb dX8_reads_11 rfl (lv_at hl 1 rfl) ?_
  refine lv_iconst (v := (nI 0)) hx hb dX8_reads_12 (by decide) ?_
  obtain ⟨g3, h⟩ := gd_el h
  obtain ⟨Z4, eZ4⟩ : ∃ z : zOb, z = zI Z2 17 a1.toNatClampNeg (nI 0) := ⟨_, rfl⟩
  have h := bnd_el h eZ4
  refine zr_iast cx hI (k8_17 hc) (zset_s _ _ _) (z8_17 hc) rfl g3 (zss eZ4) dX8_reads_13 (fun H locs hI => ?_)
  refine lv_aload_n hx hb dX8_reads_14 rfl (lv_at hl 0 rfl) ?_
  refine g8_17 cx hI hc (zset_s _ _ _) w_123 dX8_reads_15 ?_
  refine lv_iload_n hx hb dX8_reads_18 rfl (lv_at hl 1 rfl) ?_
  refine lv_iconst (v := (nI 0)) hx hb dX8_reads_19 (by decide) ?_
  obtain ⟨g5, h⟩ := gd_el h
  obtain ⟨Z6, eZ6⟩ : ∃ z : zOb, z = zI Z4 18 a1.toNatClampNeg (nI 0) := ⟨_, rfl⟩
  have h := bnd_el h eZ6
  refine zr_iast cx hI (k8_18 hc) (zset_s _ _ _) (z8_18 hc) rfl g5 (zss eZ6) dX8_reads_20 (fun H locs hI => ?_)
  refine lv_aload_n hx hb dX8_reads_21 rfl (lv_at hl 0 rfl) ?_
  refine g8_18 cx hI hc (zset_s _ _ _) w_124 dX8_reads_22 ?_
  refine lv_iload_n hx hb dX8_reads_25 rfl (lv_at hl 1 rfl) ?_
  refine lv_iconst (v := (nI 0)) hx hb dX8_reads_26 (by decide) ?_
  obtain ⟨g7, h⟩ := gd_el h
  obtain ⟨Z8, eZ8⟩ : ∃ z : zOb, z = zI Z6 19 a1.toNatClampNeg (nI 0) := ⟨_, rfl⟩
  have h := bnd_el h eZ8
  refine zr_iast cx hI (k8_19 hc) (zset_s _ _ _) (z8_19 hc) rfl g7 (zss eZ8) dX8_reads_27 (fun H locs hI => ?_)
  refine lv_iconst (v := (nI 0)) hx hb dX8_reads_28 (by decide) ?_
  refine lv_istore_n (lv' := [(3, .int (nI 0)), (0, .ref (G.2.2.1 o 0)), (1, .int a1), (2, .int a2)]) hx hb dX8_reads_29 rfl hl (by decide) rfl (fun ls hl => ?_)
  exact t_Mo_reads_30 N hc cx hret N Z8 a1 a2 (nI 0) h hI (lv_sub hl [1, 2, 3, 0] rfl)
def f_Mo_wordsAt (S : zOb) (a1 : Int32) : Option Int32 :=
  if zin a1 7 then if zin ((nI 13) + (S.1 13 a1.toNatClampNeg)) 27 then some (S.1 1 (((nI 13) + (S.1 13 a1.toNatClampNeg)).toNatClampNeg)) else none else none
set_option maxHeartbeats 4000000 in
set_option maxRecDepth 100000 in
theorem c_Mo_wordsAt {l : Launch} {G : zG} {μ : zM} {o : Nat} (hc : o = 29) {S : zOb} (hS : μ o = S) {a1 : Int32} {out : Int32} (h : f_Mo_wordsAt S a1 = some out) : zMI l G yX8_wordsAt cX8_wordsAt 2 (some .int) 0 [.ref (G.2.2.1 o 0), .int a1] μ out μ := by
  refine zMI.of (by decide) (Nat.le_of_ble_eq_true rfl) (fun p e s m args below meth c Q ls cx hI hl hret => ?_)
  obtain ⟨hx, hb, hml, hown, hts, hK, hR⟩ := id cx
  have hl : lv_has ls 2 [(0, .ref (G.2.2.1 o 0)), (1, .int a1)] := hl
  unfold f_Mo_wordsAt at h
  refine lv_aload_n hx hb dX8_wordsAt_0 rfl (lv_at hl 0 rfl) ?_
  refine g8_0 cx hI hc hS w_108 dX8_wordsAt_1 ?_
  refine lv_bipush (v := (nI 13)) hx hb dX8_wordsAt_4 (by decide) ?_
  refine lv_aload_n hx hb dX8_wordsAt_6 rfl (lv_at hl 0 rfl) ?_
  refine g8_12 cx hI hc hS w_118 dX8_wordsAt_7 ?_
  refine lv_iload_n hx hb dX8_wordsAt_10 rfl (lv_at hl 1 rfl) ?_
  obtain ⟨g1, h⟩ := gd_el h
  refine zr_iald cx hI (k8_13 hc) hS (z8_13 hc) rfl g1 dX8_wordsAt_11 ?_
  refine lv_iadd hx hb dX8_wordsAt_12 ?_
  obtain ⟨g2, h⟩ := gd_el h
  refine zr_iald cx hI (k8_1 hc) hS (z8_1 hc) rfl g2 dX8_wordsAt_13 ?_
  obtain rfl := Option.some.inj h
  exact hret _ _ _ _ dX8_wordsAt_14 rfl hI
def f_Mo_readsOrder_6 (N : Nat)  : Nat → zOb → Int32 → Option zOb
  | 0, _, _ => none
  | n + 1, S, x1 => (if (S.1 1 0) ≤ x1 then some S else (f_Mo_wordsAt S x1).bind (fun q3 => (f_Mo_reads N S x1 q3).bind (fun q4 => bnd (x1 + (nI 1)) (fun v5 => f_Mo_readsOrder_6 N n q4 v5))))
set_option maxHeartbeats 4000000 in
set_option maxRecDepth 100000 in
theorem t_Mo_readsOrder_6 (N : Nat) {p : Program} {l : Launch} {e : Env} {s : State} {m : MethodId} {args : Array Value} {below : List Frame} {meth : Method} {c : Code} {Q : State → Prop} {G : zG} {μ : zM} {o : Nat} (hc : o = 29) {out : zOb} (cx : zCX p (zrm 2) s m args c RX8 cX8_readsOrder 2 2 G) (hret : zRv p l e (zrm 2) s m args below meth c cX8_readsOrder G Q (zset μ o out))   : ∀ (n : Nat) (S : zOb) (x1 : Int32), f_Mo_readsOrder_6 N n S x1 = some out → ∀ {H : Heap} {locs : List Loc} {ls : Array Slot}, zIW G s (zset μ o S) H locs → lv_has ls 2 [(0, .ref (G.2.2.1 o 0)), (1, .int x1)] → W p l e (zrm 2) s m args below meth c H locs 0 0 Q (F0 m 6 ls []) := by
  obtain ⟨hx, hb, hml, hown, hts, hK, hR⟩ := id cx
  intro n
  induction n with
  | zero =>
    intro S x1  h
    cases h
  | succ n ih =>
    intro S x1  h H locs ls hI hl
    rw [f_Mo_readsOrder_6] at h
    refine lv_iload_n hx hb dX8_readsOrder_6 rfl (lv_at hl 1 rfl) ?_
    refine lv_aload_n hx hb dX8_readsOrder_7 rfl (lv_at hl 0 rfl) ?_
    refine g8_0 cx hI hc (zset_s _ _ _) w_108 dX8_readsOrder_8 ?_
    refine lv_iconst (v := (nI 0)) hx hb dX8_readsOrder_11 (by decide) ?_
    refine zr_iald cx hI (k8_1 hc) (zset_s _ _ _) (z8_1 hc) rfl (by decide) dX8_readsOrder_12 ?_
    refine lv_icmp_ge (tgt := 32) hx hb dX8_readsOrder_13 (by decide) (fun c2 => ?_) (fun c2 => ?_)
    · have h := it_p h c2
      obtain rfl := Option.some.inj h
      exact hret _ _ _ _ dX8_readsOrder_32 hI
    · have h := it_n h c2
      refine lv_aload_n hx hb dX8_readsOrder_16 rfl (lv_at hl 0 rfl) ?_
      refine lv_iload_n hx hb dX8_readsOrder_17 rfl (lv_at hl 1 rfl) ?_
      refine lv_aload_n hx hb dX8_readsOrder_18 rfl (lv_at hl 0 rfl) ?_
      refine lv_iload_n hx hb dX8_readsOrder_19 rfl (lv_at hl 1 rfl) ?_
      obtain ⟨q3, hq3, h⟩ := bi_el h
      refine zcVi (As := [.int x1]) cx hI (c_Mo_wordsAt hc (zset_s _ _ _) hq3) mt_yX8_wordsAt mv_yX8_wordsAt w_500 (by omega) (k8_0 hc) (zv8 hc) rfl hl.1 rfl (Nat.le_of_ble_eq_true rfl) dX8_readsOrder_20 (fun H locs hI => ?_)
      obtain ⟨q4, hq4, h⟩ := bi_el h
      refine zcVv (As := [.int x1, .int q3]) cx hI (c_Mo_reads N hc (zset_s _ _ _) hq4 (zset_ss _ _ _ _)) mt_yX8_reads mv_yX8_reads w_504 (by omega) (k8_0 hc) (zv8 hc) rfl hl.1 rfl (Nat.le_of_ble_eq_true rfl) dX8_readsOrder_23 (fun H locs hI => ?_)
      obtain ⟨v5, ev5⟩ : ∃ z : Int32, z = x1 + (nI 1) := ⟨_, rfl⟩
      have h := bnd_el h ev5
      refine lv_iinc (v := v5) (lv' := [(1, .int v5), (0, .ref (G.2.2.1 o 0))]) hx hb dX8_readsOrder_26 hl (k := 1) rfl (by rw [ev5]; rfl) (by decide) rfl (fun ls hl => ?_)
      refine lv_goto (tgt := 6) hx hb dX8_readsOrder_29 (by decide) ?_
      exact ih q4 v5 h hI (lv_sub hl [1, 0] rfl)
def f_Mo_readsOrder (N : Nat) (S : zOb) : Option zOb :=
  (f_Mo_begins N S).bind (fun q1 => f_Mo_readsOrder_6 N N q1 (nI 0))
set_option maxHeartbeats 4000000 in
set_option maxRecDepth 100000 in
theorem c_Mo_readsOrder (N : Nat) {l : Launch} {G : zG} {μ : zM} {o : Nat} (hc : o = 29) {S : zOb} (hS : μ o = S)  {out : zOb} (h : f_Mo_readsOrder N S  = some out) {μ' : zM} (hμ : zset μ o out = μ') : zMV l G yX8_readsOrder cX8_readsOrder 2 none 2 [.ref (G.2.2.1 o 0)] μ μ' := by
  subst hμ
  refine zMV.of (by decide) (Nat.le_of_ble_eq_true rfl) (fun p e s m args below meth c Q ls cx hI hl hret => ?_)
  obtain ⟨hx, hb, hml, hown, hts, hK, hR⟩ := id cx
  have hl : lv_has ls 2 [(0, .ref (G.2.2.1 o 0))] := hl
  rw [← zset_idS hS] at hI
  unfold f_Mo_readsOrder at h
  refine lv_aload_n hx hb dX8_readsOrder_0 rfl (lv_at hl 0 rfl) ?_
  obtain ⟨q1, hq1, h⟩ := bi_el h
  refine zcVv (As := []) cx hI (c_Mo_begins N hc (zset_s _ _ _) hq1 (zset_ss _ _ _ _)) mt_yX8_begins mv_yX8_begins w_496 (by omega) (k8_0 hc) (zv8 hc) rfl hl.1 rfl (Nat.le_of_ble_eq_true rfl) dX8_readsOrder_1 (fun H locs hI => ?_)
  refine lv_iconst (v := (nI 0)) hx hb dX8_readsOrder_4 (by decide) ?_
  refine lv_istore_n (lv' := [(1, .int (nI 0)), (0, .ref (G.2.2.1 o 0))]) hx hb dX8_readsOrder_5 rfl hl (by decide) rfl (fun ls hl => ?_)
  exact t_Mo_readsOrder_6 N hc cx hret N q1 (nI 0) h hI (lv_sub hl [1, 0] rfl)
def f_Mo_peak_40 (N : Nat) (S : zOb) (k4 : Int32 → Int32 → Option Int32) (x2 : Int32) (s0 : Int32) : Option Int32 :=
  bnd (x2 + (nI 1)) (fun v5 => k4 s0 v5)
set_option maxHeartbeats 4000000 in
set_option maxRecDepth 100000 in
theorem t_Mo_peak_40 (N : Nat) {p : Program} {l : Launch} {e : Env} {s : State} {m : MethodId} {args : Array Value} {below : List Frame} {meth : Method} {c : Code} {Q : State → Prop} {G : zG} {μ : zM} {o : Nat} (hc : o = 29) {S : zOb} (hS : μ o = S) {out : Int32} (cx : zCX p (zrm 1) s m args c RX8 cX8_peak 3 1 G) (hret : zRi p l e (zrm 1) s m args below meth c cX8_peak G .int Q out μ) {k4 : Int32 → Int32 → Option Int32} (hk4 : ∀ (x1 : Int32) (x2 : Int32), k4 x1 x2 = some out → ∀ {H : Heap} {locs : List Loc} {ls : Array Slot}, zIW G s μ H locs → lv_has ls 3 [(0, .ref (G.2.2.1 o 0)), (1, .int x1), (2, .int x2)] → W p l e (zrm 1) s m args below meth c H locs 0 0 Q (F0 m 4 ls [])) : ∀ (x2 : Int32) (s0 : Int32), f_Mo_peak_40 N S k4 x2 s0 = some out → ∀ {H : Heap} {locs : List Loc} {ls : Array Slot}, zIW G s μ H locs → lv_has ls 3 [(0, .ref (G.2.2.1 o 0)), (2, .int x2)] → W p l e (zrm 1) s m args below meth c H locs 0 0 Q (F0 m 40 ls [.int s0]) := by
  obtain ⟨hx, hb, hml, hown, hts, hK, hR⟩ := id cx
  intro x2 s0  h H locs ls hI hl
  unfold f_Mo_peak_40 at h
  refine lv_istore_n (lv' := [(1, .int s0), (0, .ref (G.2.2.1 o 0)), (2, .int x2)]) hx hb dX8_peak_40 rfl hl (by decide) rfl (fun ls hl => ?_)
  obtain ⟨v5, ev5⟩ : ∃ z : Int32, z = x2 + (nI 1) := ⟨_, rfl⟩
  have h := bnd_el h ev5
  refine lv_iinc (v := v5) (lv' := [(2, .int v5), (1, .int s0), (0, .ref (G.2.2.1 o 0))]) hx hb dX8_peak_41 hl (k := 2) rfl (by rw [ev5]; rfl) (by decide) rfl (fun ls hl => ?_)
  refine lv_goto (tgt := 4) hx hb dX8_peak_44 (by decide) ?_
  exact hk4 s0 v5 h hI (lv_sub hl [2, 1, 0] rfl)
def f_Mo_peak_4 (N : Nat) (S : zOb)  : Nat → Int32 → Int32 → Option Int32
  | 0, _, _ => none
  | n + 1, x1, x2 => (if (S.1 1 0) ≤ x2 then some x1 else if zin x2 7 then (f_Mo_sizeOf N (S.1 16 x2.toNatClampNeg)).bind (fun q3 => (if q3 ≤ x1 then f_Mo_peak_40 N S (f_Mo_peak_4 N S n) x2 x1 else if zin x2 7 then (f_Mo_sizeOf N (S.1 16 x2.toNatClampNeg)).bind (fun q7 => f_Mo_peak_40 N S (f_Mo_peak_4 N S n) x2 q7) else none)) else none)
set_option maxHeartbeats 4000000 in
set_option maxRecDepth 100000 in
theorem t_Mo_peak_4 (N : Nat) {p : Program} {l : Launch} {e : Env} {s : State} {m : MethodId} {args : Array Value} {below : List Frame} {meth : Method} {c : Code} {Q : State → Prop} {G : zG} {μ : zM} {o : Nat} (hc : o = 29) {S : zOb} (hS : μ o = S) {out : Int32} (cx : zCX p (zrm 1) s m args c RX8 cX8_peak 3 1 G) (hret : zRi p l e (zrm 1) s m args below meth c cX8_peak G .int Q out μ)   : ∀ (n : Nat) (x1 : Int32) (x2 : Int32), f_Mo_peak_4 N S n x1 x2 = some out → ∀ {H : Heap} {locs : List Loc} {ls : Array Slot}, zIW G s μ H locs → lv_has ls 3 [(0, .ref (G.2.2.1 o 0)), (1, .int x1), (2, .int x2)] → W p l e (zrm 1) s m args below meth c H locs 0 0 Q (F0 m 4 ls []) := by
  obtain ⟨hx, hb, hml, hown, hts, hK, hR⟩ := id cx
  intro n
  induction n with
  | zero =>
    intro x1 x2  h
    cases h
  | succ n ih =>
    intro x1 x2  h H locs ls hI hl
    rw [f_Mo_peak_4] at h
    refine lv_iload_n hx hb dX8_peak_4 rfl (lv_at hl 2 rfl) ?_
    refine lv_aload_n hx hb dX8_peak_5 rfl (lv_at hl 0 rfl) ?_
    refine g8_0 cx hI hc hS w_108 dX8_peak_6 ?_
    refine lv_iconst (v := (nI 0)) hx hb dX8_peak_9 (by decide) ?_
    refine zr_iald cx hI (k8_1 hc) hS (z8_1 hc) rfl (by decide) dX8_peak_10 ?_
    refine lv_icmp_ge (tgt := 47) hx hb dX8_peak_11 (by decide) (fun c1 => ?_) (fun c1 => ?_)
    · have h := it_p h c1
      refine lv_iload_n hx hb dX8_peak_47 rfl (lv_at hl 1 rfl) ?_
      obtain rfl := Option.some.inj h
      exact hret _ _ _ _ dX8_peak_48 rfl hI
    · have h := it_n h c1
      refine lv_aload_n hx hb dX8_peak_14 rfl (lv_at hl 0 rfl) ?_
      refine g8_15 cx hI hc hS w_121 dX8_peak_15 ?_
      refine lv_iload_n hx hb dX8_peak_18 rfl (lv_at hl 2 rfl) ?_
      obtain ⟨g2, h⟩ := gd_el h
      refine zr_iald cx hI (k8_16 hc) hS (z8_16 hc) rfl g2 dX8_peak_19 ?_
      obtain ⟨q3, hq3, h⟩ := bi_el h
      refine zcSi (As := [.int (S.1 16 x2.toNatClampNeg)]) cx hI (c_Mo_sizeOf N hq3) mt_yX8_sizeOf ms_yX8_sizeOf w_516 (by omega) rfl hl.1 rfl (Nat.le_of_ble_eq_true rfl) dX8_peak_20 (fun H locs hI => ?_)
      refine lv_iload_n hx hb dX8_peak_23 rfl (lv_at hl 1 rfl) ?_
      refine lv_icmp_le (tgt := 39) hx hb dX8_peak_24 (by decide) (fun c4 => ?_) (fun c4 => ?_)
      · have h := it_p h c4
        refine lv_iload_n hx hb dX8_peak_39 rfl (lv_at hl 1 rfl) ?_
        exact t_Mo_peak_40 N hc hS cx hret ih x2 x1 h hI (lv_sub hl [0, 2] rfl)
      · have h := it_n h c4
        refine lv_aload_n hx hb dX8_peak_27 rfl (lv_at hl 0 rfl) ?_
        refine g8_15 cx hI hc hS w_121 dX8_peak_28 ?_
        refine lv_iload_n hx hb dX8_peak_31 rfl (lv_at hl 2 rfl) ?_
        obtain ⟨g6, h⟩ := gd_el h
        refine zr_iald cx hI (k8_16 hc) hS (z8_16 hc) rfl g6 dX8_peak_32 ?_
        obtain ⟨q7, hq7, h⟩ := bi_el h
        refine zcSi (As := [.int (S.1 16 x2.toNatClampNeg)]) cx hI (c_Mo_sizeOf N hq7) mt_yX8_sizeOf ms_yX8_sizeOf w_516 (by omega) rfl hl.1 rfl (Nat.le_of_ble_eq_true rfl) dX8_peak_33 (fun H locs hI => ?_)
        refine lv_goto (tgt := 40) hx hb dX8_peak_36 (by decide) ?_
        exact t_Mo_peak_40 N hc hS cx hret ih x2 q7 h hI (lv_sub hl [0, 2] rfl)
def f_Mo_peak (N : Nat) (S : zOb) : Option Int32 :=
  f_Mo_peak_4 N S N (nI 0) (nI 0)
set_option maxHeartbeats 4000000 in
set_option maxRecDepth 100000 in
theorem c_Mo_peak (N : Nat) {l : Launch} {G : zG} {μ : zM} {o : Nat} (hc : o = 29) {S : zOb} (hS : μ o = S)  {out : Int32} (h : f_Mo_peak N S  = some out) : zMI l G yX8_peak cX8_peak 3 (some .int) 1 [.ref (G.2.2.1 o 0)] μ out μ := by
  refine zMI.of (by decide) (Nat.le_of_ble_eq_true rfl) (fun p e s m args below meth c Q ls cx hI hl hret => ?_)
  obtain ⟨hx, hb, hml, hown, hts, hK, hR⟩ := id cx
  have hl : lv_has ls 3 [(0, .ref (G.2.2.1 o 0))] := hl
  unfold f_Mo_peak at h
  refine lv_iconst (v := (nI 0)) hx hb dX8_peak_0 (by decide) ?_
  refine lv_istore_n (lv' := [(1, .int (nI 0)), (0, .ref (G.2.2.1 o 0))]) hx hb dX8_peak_1 rfl hl (by decide) rfl (fun ls hl => ?_)
  refine lv_iconst (v := (nI 0)) hx hb dX8_peak_2 (by decide) ?_
  refine lv_istore_n (lv' := [(2, .int (nI 0)), (1, .int (nI 0)), (0, .ref (G.2.2.1 o 0))]) hx hb dX8_peak_3 rfl hl (by decide) rfl (fun ls hl => ?_)
  exact t_Mo_peak_4 N hc hS cx hret N (nI 0) (nI 0) h hI (lv_sub hl [2, 1, 0] rfl)
def f_Mo_loss_4 (N : Nat) (S : zOb)  : Nat → Int32 → Int32 → Option Int32
  | 0, _, _ => none
  | n + 1, x1, x2 => (if (S.1 1 0) ≤ x2 then some x1 else if zin x2 7 then (f_Mo_sizeOf N (S.1 18 x2.toNatClampNeg)).bind (fun q3 => bnd (x1 + q3) (fun v4 => bnd (x2 + (nI 1)) (fun v5 => f_Mo_loss_4 N S n v4 v5))) else none)
set_option maxHeartbeats 4000000 in
set_option maxRecDepth 100000 in
theorem t_Mo_loss_4 (N : Nat) {p : Program} {l : Launch} {e : Env} {s : State} {m : MethodId} {args : Array Value} {below : List Frame} {meth : Method} {c : Code} {Q : State → Prop} {G : zG} {μ : zM} {o : Nat} (hc : o = 29) {S : zOb} (hS : μ o = S) {out : Int32} (cx : zCX p (zrm 1) s m args c RX8 cX8_loss 3 1 G) (hret : zRi p l e (zrm 1) s m args below meth c cX8_loss G .int Q out μ)   : ∀ (n : Nat) (x1 : Int32) (x2 : Int32), f_Mo_loss_4 N S n x1 x2 = some out → ∀ {H : Heap} {locs : List Loc} {ls : Array Slot}, zIW G s μ H locs → lv_has ls 3 [(0, .ref (G.2.2.1 o 0)), (1, .int x1), (2, .int x2)] → W p l e (zrm 1) s m args below meth c H locs 0 0 Q (F0 m 4 ls []) := by
  obtain ⟨hx, hb, hml, hown, hts, hK, hR⟩ := id cx
  intro n
  induction n with
  | zero =>
    intro x1 x2  h
    cases h
  | succ n ih =>
    intro x1 x2  h H locs ls hI hl
    rw [f_Mo_loss_4] at h
    refine lv_iload_n hx hb dX8_loss_4 rfl (lv_at hl 2 rfl) ?_
    refine lv_aload_n hx hb dX8_loss_5 rfl (lv_at hl 0 rfl) ?_
    refine g8_0 cx hI hc hS w_108 dX8_loss_6 ?_
    refine lv_iconst (v := (nI 0)) hx hb dX8_loss_9 (by decide) ?_
    refine zr_iald cx hI (k8_1 hc) hS (z8_1 hc) rfl (by decide) dX8_loss_10 ?_
    refine lv_icmp_ge (tgt := 32) hx hb dX8_loss_11 (by decide) (fun c1 => ?_) (fun c1 => ?_)
    · have h := it_p h c1
      refine lv_iload_n hx hb dX8_loss_32 rfl (lv_at hl 1 rfl) ?_
      obtain rfl := Option.some.inj h
      exact hret _ _ _ _ dX8_loss_33 rfl hI
    · have h := it_n h c1
      refine lv_iload_n hx hb dX8_loss_14 rfl (lv_at hl 1 rfl) ?_
      refine lv_aload_n hx hb dX8_loss_15 rfl (lv_at hl 0 rfl) ?_
      refine g8_17 cx hI hc hS w_123 dX8_loss_16 ?_
      refine lv_iload_n hx hb dX8_loss_19 rfl (lv_at hl 2 rfl) ?_
      obtain ⟨g2, h⟩ := gd_el h
      refine zr_iald cx hI (k8_18 hc) hS (z8_18 hc) rfl g2 dX8_loss_20 ?_
      obtain ⟨q3, hq3, h⟩ := bi_el h
      refine zcSi (As := [.int (S.1 18 x2.toNatClampNeg)]) cx hI (c_Mo_sizeOf N hq3) mt_yX8_sizeOf ms_yX8_sizeOf w_516 (by omega) rfl hl.1 rfl (Nat.le_of_ble_eq_true rfl) dX8_loss_21 (fun H locs hI => ?_)
      refine lv_iadd hx hb dX8_loss_24 ?_
      refine lv_topi (fun v4 ev4 => ?_)
      have h := bnd_el h ev4
      refine lv_istore_n (lv' := [(1, .int v4), (0, .ref (G.2.2.1 o 0)), (2, .int x2)]) hx hb dX8_loss_25 rfl hl (by decide) rfl (fun ls hl => ?_)
      obtain ⟨v5, ev5⟩ : ∃ z : Int32, z = x2 + (nI 1) := ⟨_, rfl⟩
      have h := bnd_el h ev5
      refine lv_iinc (v := v5) (lv' := [(2, .int v5), (1, .int v4), (0, .ref (G.2.2.1 o 0))]) hx hb dX8_loss_26 hl (k := 2) rfl (by rw [ev5]; rfl) (by decide) rfl (fun ls hl => ?_)
      refine lv_goto (tgt := 4) hx hb dX8_loss_29 (by decide) ?_
      exact ih v4 v5 h hI (lv_sub hl [2, 1, 0] rfl)
def f_Mo_loss (N : Nat) (S : zOb) : Option Int32 :=
  f_Mo_loss_4 N S N (nI 0) (nI 0)
set_option maxHeartbeats 4000000 in
set_option maxRecDepth 100000 in
theorem c_Mo_loss (N : Nat) {l : Launch} {G : zG} {μ : zM} {o : Nat} (hc : o = 29) {S : zOb} (hS : μ o = S)  {out : Int32} (h : f_Mo_loss N S  = some out) : zMI l G yX8_loss cX8_loss 3 (some .int) 1 [.ref (G.2.2.1 o 0)] μ out μ := by
  refine zMI.of (by decide) (Nat.le_of_ble_eq_true rfl) (fun p e s m args below meth c Q ls cx hI hl hret => ?_)
  obtain ⟨hx, hb, hml, hown, hts, hK, hR⟩ := id cx
  have hl : lv_has ls 3 [(0, .ref (G.2.2.1 o 0))] := hl
  unfold f_Mo_loss at h
  refine lv_iconst (v := (nI 0)) hx hb dX8_loss_0 (by decide) ?_
  refine lv_istore_n (lv' := [(1, .int (nI 0)), (0, .ref (G.2.2.1 o 0))]) hx hb dX8_loss_1 rfl hl (by decide) rfl (fun ls hl => ?_)
  refine lv_iconst (v := (nI 0)) hx hb dX8_loss_2 (by decide) ?_
  refine lv_istore_n (lv' := [(2, .int (nI 0)), (1, .int (nI 0)), (0, .ref (G.2.2.1 o 0))]) hx hb dX8_loss_3 rfl hl (by decide) rfl (fun ls hl => ?_)
  exact t_Mo_loss_4 N hc hS cx hret N (nI 0) (nI 0) h hI (lv_sub hl [2, 1, 0] rfl)
def f_Mo_isHolding_44 (N : Nat) (S : zOb) (k6 : Int32 → Int32 → Int32 → Option Int32) (x1 : Int32) (x3 : Int32) (s0 : Int32) : Option Int32 :=
  if zin x3 7 then bnd (x1 ||| ((nI 1) <<< ((S.1 13 x3.toNatClampNeg) &&& 31))) (fun v5 => bnd (x3 + (nI 1)) (fun v6 => k6 v5 s0 v6)) else none
set_option maxHeartbeats 4000000 in
set_option maxRecDepth 100000 in
theorem t_Mo_isHolding_44 (N : Nat) {p : Program} {l : Launch} {e : Env} {s : State} {m : MethodId} {args : Array Value} {below : List Frame} {meth : Method} {c : Code} {Q : State → Prop} {G : zG} {μ : zM} {o : Nat} (hc : o = 29) {S : zOb} (hS : μ o = S) {out : Int32} (cx : zCX p (zrm 0) s m args c RX8 cX8_isHolding 4 0 G) (hret : zRi p l e (zrm 0) s m args below meth c cX8_isHolding G .boolean Q out μ) {k6 : Int32 → Int32 → Int32 → Option Int32} (hk6 : ∀ (x1 : Int32) (x2 : Int32) (x3 : Int32), k6 x1 x2 x3 = some out → ∀ {H : Heap} {locs : List Loc} {ls : Array Slot}, zIW G s μ H locs → lv_has ls 4 [(0, .ref (G.2.2.1 o 0)), (1, .int x1), (2, .int x2), (3, .int x3)] → W p l e (zrm 0) s m args below meth c H locs 0 0 Q (F0 m 6 ls [])) : ∀ (x1 : Int32) (x3 : Int32) (s0 : Int32), f_Mo_isHolding_44 N S k6 x1 x3 s0 = some out → ∀ {H : Heap} {locs : List Loc} {ls : Array Slot}, zIW G s μ H locs → lv_has ls 4 [(0, .ref (G.2.2.1 o 0)), (1, .int x1), (3, .int x3)] → W p l e (zrm 0) s m args below meth c H locs 0 0 Q (F0 m 44 ls [.int s0]) := by
  obtain ⟨hx, hb, hml, hown, hts, hK, hR⟩ := id cx
  intro x1 x3 s0  h H locs ls hI hl
  unfold f_Mo_isHolding_44 at h
  refine lv_istore_n (lv' := [(2, .int s0), (0, .ref (G.2.2.1 o 0)), (1, .int x1), (3, .int x3)]) hx hb dX8_isHolding_44 rfl hl (by decide) rfl (fun ls hl => ?_)
  refine lv_iload_n hx hb dX8_isHolding_45 rfl (lv_at hl 2 rfl) ?_
  refine lv_iconst (v := (nI 1)) hx hb dX8_isHolding_46 (by decide) ?_
  refine lv_aload_n hx hb dX8_isHolding_47 rfl (lv_at hl 1 rfl) ?_
  refine g8_12 cx hI hc hS w_118 dX8_isHolding_48 ?_
  refine lv_iload_n hx hb dX8_isHolding_51 rfl (lv_at hl 3 rfl) ?_
  obtain ⟨g4, h⟩ := gd_el h
  refine zr_iald cx hI (k8_13 hc) hS (z8_13 hc) rfl g4 dX8_isHolding_52 ?_
  refine lv_ishl hx hb dX8_isHolding_53 ?_
  refine lv_ior hx hb dX8_isHolding_54 ?_
  refine lv_topi (fun v5 ev5 => ?_)
  have h := bnd_el h ev5
  refine lv_istore_n (lv' := [(1, .int v5), (2, .int s0), (0, .ref (G.2.2.1 o 0)), (3, .int x3)]) hx hb dX8_isHolding_55 rfl hl (by decide) rfl (fun ls hl => ?_)
  obtain ⟨v6, ev6⟩ : ∃ z : Int32, z = x3 + (nI 1) := ⟨_, rfl⟩
  have h := bnd_el h ev6
  refine lv_iinc (v := v6) (lv' := [(3, .int v6), (1, .int v5), (2, .int s0), (0, .ref (G.2.2.1 o 0))]) hx hb dX8_isHolding_56 hl (k := 3) rfl (by rw [ev6]; rfl) (by decide) rfl (fun ls hl => ?_)
  refine lv_goto (tgt := 6) hx hb dX8_isHolding_59 (by decide) ?_
  exact hk6 v5 s0 v6 h hI (lv_sub hl [3, 1, 2, 0] rfl)
def f_Mo_isHolding_43 (N : Nat) (S : zOb) (k6 : Int32 → Int32 → Int32 → Option Int32) (x1 : Int32) (x3 : Int32) : Option Int32 :=
  f_Mo_isHolding_44 N S k6 x1 x3 (nI 0)
set_option maxHeartbeats 4000000 in
set_option maxRecDepth 100000 in
theorem t_Mo_isHolding_43 (N : Nat) {p : Program} {l : Launch} {e : Env} {s : State} {m : MethodId} {args : Array Value} {below : List Frame} {meth : Method} {c : Code} {Q : State → Prop} {G : zG} {μ : zM} {o : Nat} (hc : o = 29) {S : zOb} (hS : μ o = S) {out : Int32} (cx : zCX p (zrm 0) s m args c RX8 cX8_isHolding 4 0 G) (hret : zRi p l e (zrm 0) s m args below meth c cX8_isHolding G .boolean Q out μ) {k6 : Int32 → Int32 → Int32 → Option Int32} (hk6 : ∀ (x1 : Int32) (x2 : Int32) (x3 : Int32), k6 x1 x2 x3 = some out → ∀ {H : Heap} {locs : List Loc} {ls : Array Slot}, zIW G s μ H locs → lv_has ls 4 [(0, .ref (G.2.2.1 o 0)), (1, .int x1), (2, .int x2), (3, .int x3)] → W p l e (zrm 0) s m args below meth c H locs 0 0 Q (F0 m 6 ls [])) : ∀ (x1 : Int32) (x3 : Int32), f_Mo_isHolding_43 N S k6 x1 x3 = some out → ∀ {H : Heap} {locs : List Loc} {ls : Array Slot}, zIW G s μ H locs → lv_has ls 4 [(0, .ref (G.2.2.1 o 0)), (1, .int x1), (3, .int x3)] → W p l e (zrm 0) s m args below meth c H locs 0 0 Q (F0 m 43 ls []) := by
  obtain ⟨hx, hb, hml, hown, hts, hK, hR⟩ := id cx
  intro x1 x3  h H locs ls hI hl
  unfold f_Mo_isHolding_43 at h
  refine lv_iconst (v := (nI 0)) hx hb dX8_isHolding_43 (by decide) ?_
  exact t_Mo_isHolding_44 N hc hS cx hret hk6 x1 x3 (nI 0) h hI hl
def f_Mo_isHolding_6 (N : Nat) (S : zOb)  : Nat → Int32 → Int32 → Int32 → Option Int32
  | 0, _, _, _ => none
  | n + 1, x1, x2, x3 => (if (S.1 1 0) ≤ x3 then if (x2 = nI 0 ∨ x2 = nI 1) then some x2 else none else (if x2 = nI 0 then f_Mo_isHolding_43 N S (f_Mo_isHolding_6 N S n) x1 x3 else if zin x3 7 then if zin ((nI 20) + (S.1 13 x3.toNatClampNeg)) 27 then (if ((S.1 1 (((nI 20) + (S.1 13 x3.toNatClampNeg)).toNatClampNeg)) &&& x1) = nI 0 then f_Mo_isHolding_44 N S (f_Mo_isHolding_6 N S n) x1 x3 (nI 1) else f_Mo_isHolding_43 N S (f_Mo_isHolding_6 N S n) x1 x3) else none else none))
set_option maxHeartbeats 4000000 in
set_option maxRecDepth 100000 in
theorem t_Mo_isHolding_6 (N : Nat) {p : Program} {l : Launch} {e : Env} {s : State} {m : MethodId} {args : Array Value} {below : List Frame} {meth : Method} {c : Code} {Q : State → Prop} {G : zG} {μ : zM} {o : Nat} (hc : o = 29) {S : zOb} (hS : μ o = S) {out : Int32} (cx : zCX p (zrm 0) s m args c RX8 cX8_isHolding 4 0 G) (hret : zRi p l e (zrm 0) s m args below meth c cX8_isHolding G .boolean Q out μ)   : ∀ (n : Nat) (x1 : Int32) (x2 : Int32) (x3 : Int32), f_Mo_isHolding_6 N S n x1 x2 x3 = some out → ∀ {H : Heap} {locs : List Loc} {ls : Array Slot}, zIW G s μ H locs → lv_has ls 4 [(0, .ref (G.2.2.1 o 0)), (1, .int x1), (2, .int x2), (3, .int x3)] → W p l e (zrm 0) s m args below meth c H locs 0 0 Q (F0 m 6 ls []) := by
  obtain ⟨hx, hb, hml, hown, hts, hK, hR⟩ := id cx
  intro n
  induction n with
  | zero =>
    intro x1 x2 x3  h
    cases h
  | succ n ih =>
    intro x1 x2 x3  h H locs ls hI hl
    rw [f_Mo_isHolding_6] at h
    refine lv_iload_n hx hb dX8_isHolding_6 rfl (lv_at hl 3 rfl) ?_
    refine lv_aload_n hx hb dX8_isHolding_7 rfl (lv_at hl 0 rfl) ?_
    refine g8_0 cx hI hc hS w_108 dX8_isHolding_8 ?_
    refine lv_iconst (v := (nI 0)) hx hb dX8_isHolding_11 (by decide) ?_
    refine zr_iald cx hI (k8_1 hc) hS (z8_1 hc) rfl (by decide) dX8_isHolding_12 ?_
    refine lv_icmp_ge (tgt := 62) hx hb dX8_isHolding_13 (by decide) (fun c1 => ?_) (fun c1 => ?_)
    · have h := it_p h c1
      refine lv_iload_n hx hb dX8_isHolding_62 rfl (lv_at hl 2 rfl) ?_
      obtain ⟨g2, h⟩ := gd_el h
      obtain rfl := Option.some.inj h
      exact hret _ _ _ _ dX8_isHolding_63 (zbool g2) hI
    · have h := it_n h c1
      refine lv_iload_n hx hb dX8_isHolding_16 rfl (lv_at hl 2 rfl) ?_
      refine lv_if_eq (tgt := 43) hx hb dX8_isHolding_17 (by decide) (fun c3 => ?_) (fun c3 => ?_)
      · have h := it_p h c3
        exact t_Mo_isHolding_43 N hc hS cx hret ih x1 x3 h hI (lv_sub hl [0, 1, 3] rfl)
      · have h := it_n h c3
        refine lv_aload_n hx hb dX8_isHolding_20 rfl (lv_at hl 0 rfl) ?_
        refine g8_0 cx hI hc hS w_108 dX8_isHolding_21 ?_
        refine lv_bipush (v := (nI 20)) hx hb dX8_isHolding_24 (by decide) ?_
        refine lv_aload_n hx hb dX8_isHolding_26 rfl (lv_at hl 0 rfl) ?_
        refine g8_12 cx hI hc hS w_118 dX8_isHolding_27 ?_
        refine lv_iload_n hx hb dX8_isHolding_30 rfl (lv_at hl 3 rfl) ?_
        obtain ⟨g7, h⟩ := gd_el h
        refine zr_iald cx hI (k8_13 hc) hS (z8_13 hc) rfl g7 dX8_isHolding_31 ?_
        refine lv_iadd hx hb dX8_isHolding_32 ?_
        obtain ⟨g8, h⟩ := gd_el h
        refine zr_iald cx hI (k8_1 hc) hS (z8_1 hc) rfl g8 dX8_isHolding_33 ?_
        refine lv_iload_n hx hb dX8_isHolding_34 rfl (lv_at hl 1 rfl) ?_
        refine lv_iand hx hb dX8_isHolding_35 ?_
        refine lv_if_ne (tgt := 43) hx hb dX8_isHolding_36 (by decide) (fun c9 => ?_) (fun c9 => ?_)
        · have h := it_n h c9
          exact t_Mo_isHolding_43 N hc hS cx hret ih x1 x3 h hI (lv_sub hl [0, 1, 3] rfl)
        · have h := it_p h c9
          refine lv_iconst (v := (nI 1)) hx hb dX8_isHolding_39 (by decide) ?_
          refine lv_goto (tgt := 44) hx hb dX8_isHolding_40 (by decide) ?_
          exact t_Mo_isHolding_44 N hc hS cx hret ih x1 x3 (nI 1) h hI (lv_sub hl [0, 1, 3] rfl)
def f_Mo_isHolding (N : Nat) (S : zOb) : Option Int32 :=
  f_Mo_isHolding_6 N S N (nI 0) (nI 1) (nI 0)
set_option maxHeartbeats 4000000 in
set_option maxRecDepth 100000 in
theorem c_Mo_isHolding (N : Nat) {l : Launch} {G : zG} {μ : zM} {o : Nat} (hc : o = 29) {S : zOb} (hS : μ o = S)  {out : Int32} (h : f_Mo_isHolding N S  = some out) : zMI l G yX8_isHolding cX8_isHolding 4 (some .boolean) 0 [.ref (G.2.2.1 o 0)] μ out μ := by
  refine zMI.of (by decide) (Nat.le_of_ble_eq_true rfl) (fun p e s m args below meth c Q ls cx hI hl hret => ?_)
  obtain ⟨hx, hb, hml, hown, hts, hK, hR⟩ := id cx
  have hl : lv_has ls 4 [(0, .ref (G.2.2.1 o 0))] := hl
  unfold f_Mo_isHolding at h
  refine lv_iconst (v := (nI 0)) hx hb dX8_isHolding_0 (by decide) ?_
  refine lv_istore_n (lv' := [(1, .int (nI 0)), (0, .ref (G.2.2.1 o 0))]) hx hb dX8_isHolding_1 rfl hl (by decide) rfl (fun ls hl => ?_)
  refine lv_iconst (v := (nI 1)) hx hb dX8_isHolding_2 (by decide) ?_
  refine lv_istore_n (lv' := [(2, .int (nI 1)), (1, .int (nI 0)), (0, .ref (G.2.2.1 o 0))]) hx hb dX8_isHolding_3 rfl hl (by decide) rfl (fun ls hl => ?_)
  refine lv_iconst (v := (nI 0)) hx hb dX8_isHolding_4 (by decide) ?_
  refine lv_istore_n (lv' := [(3, .int (nI 0)), (2, .int (nI 1)), (1, .int (nI 0)), (0, .ref (G.2.2.1 o 0))]) hx hb dX8_isHolding_5 rfl hl (by decide) rfl (fun ls hl => ?_)
  exact t_Mo_isHolding_6 N hc hS cx hret N (nI 0) (nI 1) (nI 0) h hI (lv_sub hl [3, 2, 1, 0] rfl)
def f_Mo_number_4 (N : Nat) (S : zOb)  : Nat → Int32 → Int32 → Option Int32
  | 0, _, _ => none
  | n + 1, x1, x2 => (if (S.1 1 0) ≤ x2 then some x1 else if zin x2 7 then bnd (((nI 10) * x1) + (S.1 13 x2.toNatClampNeg)) (fun v3 => bnd (x2 + (nI 1)) (fun v4 => f_Mo_number_4 N S n v3 v4)) else none)
set_option maxHeartbeats 4000000 in
set_option maxRecDepth 100000 in
theorem t_Mo_number_4 (N : Nat) {p : Program} {l : Launch} {e : Env} {s : State} {m : MethodId} {args : Array Value} {below : List Frame} {meth : Method} {c : Code} {Q : State → Prop} {G : zG} {μ : zM} {o : Nat} (hc : o = 29) {S : zOb} (hS : μ o = S) {out : Int32} (cx : zCX p (zrm 0) s m args c RX8 cX8_number 3 0 G) (hret : zRi p l e (zrm 0) s m args below meth c cX8_number G .int Q out μ)   : ∀ (n : Nat) (x1 : Int32) (x2 : Int32), f_Mo_number_4 N S n x1 x2 = some out → ∀ {H : Heap} {locs : List Loc} {ls : Array Slot}, zIW G s μ H locs → lv_has ls 3 [(0, .ref (G.2.2.1 o 0)), (1, .int x1), (2, .int x2)] → W p l e (zrm 0) s m args below meth c H locs 0 0 Q (F0 m 4 ls []) := by
  obtain ⟨hx, hb, hml, hown, hts, hK, hR⟩ := id cx
  intro n
  induction n with
  | zero =>
    intro x1 x2  h
    cases h
  | succ n ih =>
    intro x1 x2  h H locs ls hI hl
    rw [f_Mo_number_4] at h
    refine lv_iload_n hx hb dX8_number_4 rfl (lv_at hl 2 rfl) ?_
    refine lv_aload_n hx hb dX8_number_5 rfl (lv_at hl 0 rfl) ?_
    refine g8_0 cx hI hc hS w_108 dX8_number_6 ?_
    refine lv_iconst (v := (nI 0)) hx hb dX8_number_9 (by decide) ?_
    refine zr_iald cx hI (k8_1 hc) hS (z8_1 hc) rfl (by decide) dX8_number_10 ?_
    refine lv_icmp_ge (tgt := 32) hx hb dX8_number_11 (by decide) (fun c1 => ?_) (fun c1 => ?_)
    · have h := it_p h c1
      refine lv_iload_n hx hb dX8_number_32 rfl (lv_at hl 1 rfl) ?_
      obtain rfl := Option.some.inj h
      exact hret _ _ _ _ dX8_number_33 rfl hI
    · have h := it_n h c1
      refine lv_bipush (v := (nI 10)) hx hb dX8_number_14 (by decide) ?_
      refine lv_iload_n hx hb dX8_number_16 rfl (lv_at hl 1 rfl) ?_
      refine lv_imul hx hb dX8_number_17 ?_
      refine lv_aload_n hx hb dX8_number_18 rfl (lv_at hl 0 rfl) ?_
      refine g8_12 cx hI hc hS w_118 dX8_number_19 ?_
      refine lv_iload_n hx hb dX8_number_22 rfl (lv_at hl 2 rfl) ?_
      obtain ⟨g2, h⟩ := gd_el h
      refine zr_iald cx hI (k8_13 hc) hS (z8_13 hc) rfl g2 dX8_number_23 ?_
      refine lv_iadd hx hb dX8_number_24 ?_
      refine lv_topi (fun v3 ev3 => ?_)
      have h := bnd_el h ev3
      refine lv_istore_n (lv' := [(1, .int v3), (0, .ref (G.2.2.1 o 0)), (2, .int x2)]) hx hb dX8_number_25 rfl hl (by decide) rfl (fun ls hl => ?_)
      obtain ⟨v4, ev4⟩ : ∃ z : Int32, z = x2 + (nI 1) := ⟨_, rfl⟩
      have h := bnd_el h ev4
      refine lv_iinc (v := v4) (lv' := [(2, .int v4), (1, .int v3), (0, .ref (G.2.2.1 o 0))]) hx hb dX8_number_26 hl (k := 2) rfl (by rw [ev4]; rfl) (by decide) rfl (fun ls hl => ?_)
      refine lv_goto (tgt := 4) hx hb dX8_number_29 (by decide) ?_
      exact ih v3 v4 h hI (lv_sub hl [2, 1, 0] rfl)
def f_Mo_number (N : Nat) (S : zOb) : Option Int32 :=
  f_Mo_number_4 N S N (nI 0) (nI 0)
set_option maxHeartbeats 4000000 in
set_option maxRecDepth 100000 in
theorem c_Mo_number (N : Nat) {l : Launch} {G : zG} {μ : zM} {o : Nat} (hc : o = 29) {S : zOb} (hS : μ o = S)  {out : Int32} (h : f_Mo_number N S  = some out) : zMI l G yX8_number cX8_number 3 (some .int) 0 [.ref (G.2.2.1 o 0)] μ out μ := by
  refine zMI.of (by decide) (Nat.le_of_ble_eq_true rfl) (fun p e s m args below meth c Q ls cx hI hl hret => ?_)
  obtain ⟨hx, hb, hml, hown, hts, hK, hR⟩ := id cx
  have hl : lv_has ls 3 [(0, .ref (G.2.2.1 o 0))] := hl
  unfold f_Mo_number at h
  refine lv_iconst (v := (nI 0)) hx hb dX8_number_0 (by decide) ?_
  refine lv_istore_n (lv' := [(1, .int (nI 0)), (0, .ref (G.2.2.1 o 0))]) hx hb dX8_number_1 rfl hl (by decide) rfl (fun ls hl => ?_)
  refine lv_iconst (v := (nI 0)) hx hb dX8_number_2 (by decide) ?_
  refine lv_istore_n (lv' := [(2, .int (nI 0)), (1, .int (nI 0)), (0, .ref (G.2.2.1 o 0))]) hx hb dX8_number_3 rfl hl (by decide) rfl (fun ls hl => ?_)
  exact t_Mo_number_4 N hc hS cx hret N (nI 0) (nI 0) h hI (lv_sub hl [2, 1, 0] rfl)
def f_Mo_takesOrder_2 (N : Nat)  : Nat → zOb → Int32 → Option zOb
  | 0, _, _ => none
  | n + 1, S, x1 => (if (nI 7) ≤ x1 then some S else if zin ((nI 6) + x1) 27 then if zin x1 7 then bnd (zI S 13 x1.toNatClampNeg (S.1 1 (((nI 6) + x1).toNatClampNeg))) (fun Z4 => bnd (x1 + (nI 1)) (fun v5 => f_Mo_takesOrder_2 N n Z4 v5)) else none else none)
set_option maxHeartbeats 4000000 in
set_option maxRecDepth 100000 in
theorem t_Mo_takesOrder_2 (N : Nat) {p : Program} {l : Launch} {e : Env} {s : State} {m : MethodId} {args : Array Value} {below : List Frame} {meth : Method} {c : Code} {Q : State → Prop} {G : zG} {μ : zM} {o : Nat} (hc : o = 29) {out : zOb} (cx : zCX p (zrm 0) s m args c RX8 cX8_takesOrder 2 0 G) (hret : zRv p l e (zrm 0) s m args below meth c cX8_takesOrder G Q (zset μ o out))   : ∀ (n : Nat) (S : zOb) (x1 : Int32), f_Mo_takesOrder_2 N n S x1 = some out → ∀ {H : Heap} {locs : List Loc} {ls : Array Slot}, zIW G s (zset μ o S) H locs → lv_has ls 2 [(0, .ref (G.2.2.1 o 0)), (1, .int x1)] → W p l e (zrm 0) s m args below meth c H locs 0 0 Q (F0 m 2 ls []) := by
  obtain ⟨hx, hb, hml, hown, hts, hK, hR⟩ := id cx
  intro n
  induction n with
  | zero =>
    intro S x1  h
    cases h
  | succ n ih =>
    intro S x1  h H locs ls hI hl
    rw [f_Mo_takesOrder_2] at h
    refine lv_iload_n hx hb dX8_takesOrder_2 rfl (lv_at hl 1 rfl) ?_
    refine lv_bipush (v := (nI 7)) hx hb dX8_takesOrder_3 (by decide) ?_
    refine lv_icmp_ge (tgt := 29) hx hb dX8_takesOrder_5 (by decide) (fun c1 => ?_) (fun c1 => ?_)
    · have h := it_p h c1
      obtain rfl := Option.some.inj h
      exact hret _ _ _ _ dX8_takesOrder_29 hI
    · have h := it_n h c1
      refine lv_aload_n hx hb dX8_takesOrder_8 rfl (lv_at hl 0 rfl) ?_
      refine g8_12 cx hI hc (zset_s _ _ _) w_118 dX8_takesOrder_9 ?_
      refine lv_iload_n hx hb dX8_takesOrder_12 rfl (lv_at hl 1 rfl) ?_
      refine lv_aload_n hx hb dX8_takesOrder_13 rfl (lv_at hl 0 rfl) ?_
      refine g8_0 cx hI hc (zset_s _ _ _) w_108 dX8_takesOrder_14 ?_
      refine lv_bipush (v := (nI 6)) hx hb dX8_takesOrder_17 (by decide) ?_
      refine lv_iload_n hx hb dX8_takesOrder_19 rfl (lv_at hl 1 rfl) ?_
      refine lv_iadd hx hb dX8_takesOrder_20 ?_
      obtain ⟨g2, h⟩ := gd_el h
      refine zr_iald cx hI (k8_1 hc) (zset_s _ _ _) (z8_1 hc) rfl g2 dX8_takesOrder_21 ?_
      obtain ⟨g3, h⟩ := gd_el h
      obtain ⟨Z4, eZ4⟩ : ∃ z : zOb, z = zI S 13 x1.toNatClampNeg (S.1 1 (((nI 6) + x1).toNatClampNeg)) := ⟨_, rfl⟩
      have h := bnd_el h eZ4
      refine zr_iast cx hI (k8_13 hc) (zset_s _ _ _) (z8_13 hc) rfl g3 (zss eZ4) dX8_takesOrder_22 (fun H locs hI => ?_)
      obtain ⟨v5, ev5⟩ : ∃ z : Int32, z = x1 + (nI 1) := ⟨_, rfl⟩
      have h := bnd_el h ev5
      refine lv_iinc (v := v5) (lv' := [(1, .int v5), (0, .ref (G.2.2.1 o 0))]) hx hb dX8_takesOrder_23 hl (k := 1) rfl (by rw [ev5]; rfl) (by decide) rfl (fun ls hl => ?_)
      refine lv_goto (tgt := 2) hx hb dX8_takesOrder_26 (by decide) ?_
      exact ih Z4 v5 h hI (lv_sub hl [1, 0] rfl)
def f_Mo_takesOrder (N : Nat) (S : zOb) : Option zOb :=
  f_Mo_takesOrder_2 N N S (nI 0)
set_option maxHeartbeats 4000000 in
set_option maxRecDepth 100000 in
theorem c_Mo_takesOrder (N : Nat) {l : Launch} {G : zG} {μ : zM} {o : Nat} (hc : o = 29) {S : zOb} (hS : μ o = S)  {out : zOb} (h : f_Mo_takesOrder N S  = some out) {μ' : zM} (hμ : zset μ o out = μ') : zMV l G yX8_takesOrder cX8_takesOrder 2 none 0 [.ref (G.2.2.1 o 0)] μ μ' := by
  subst hμ
  refine zMV.of (by decide) (Nat.le_of_ble_eq_true rfl) (fun p e s m args below meth c Q ls cx hI hl hret => ?_)
  obtain ⟨hx, hb, hml, hown, hts, hK, hR⟩ := id cx
  have hl : lv_has ls 2 [(0, .ref (G.2.2.1 o 0))] := hl
  rw [← zset_idS hS] at hI
  unfold f_Mo_takesOrder at h
  refine lv_iconst (v := (nI 0)) hx hb dX8_takesOrder_0 (by decide) ?_
  refine lv_istore_n (lv' := [(1, .int (nI 0)), (0, .ref (G.2.2.1 o 0))]) hx hb dX8_takesOrder_1 rfl hl (by decide) rfl (fun ls hl => ?_)
  exact t_Mo_takesOrder_2 N hc cx hret N S (nI 0) h hI (lv_sub hl [1, 0] rfl)
def f_Mo_firstOrder_2 (N : Nat)  : Nat → zOb → Int32 → Option zOb
  | 0, _, _ => none
  | n + 1, S, x1 => (if (nI 7) ≤ x1 then some S else if zin x1 7 then bnd (zI S 13 x1.toNatClampNeg x1) (fun Z3 => bnd (x1 + (nI 1)) (fun v4 => f_Mo_firstOrder_2 N n Z3 v4)) else none)
set_option maxHeartbeats 4000000 in
set_option maxRecDepth 100000 in
theorem t_Mo_firstOrder_2 (N : Nat) {p : Program} {l : Launch} {e : Env} {s : State} {m : MethodId} {args : Array Value} {below : List Frame} {meth : Method} {c : Code} {Q : State → Prop} {G : zG} {μ : zM} {o : Nat} (hc : o = 29) {out : zOb} (cx : zCX p (zrm 0) s m args c RX8 cX8_firstOrder 2 0 G) (hret : zRv p l e (zrm 0) s m args below meth c cX8_firstOrder G Q (zset μ o out))   : ∀ (n : Nat) (S : zOb) (x1 : Int32), f_Mo_firstOrder_2 N n S x1 = some out → ∀ {H : Heap} {locs : List Loc} {ls : Array Slot}, zIW G s (zset μ o S) H locs → lv_has ls 2 [(0, .ref (G.2.2.1 o 0)), (1, .int x1)] → W p l e (zrm 0) s m args below meth c H locs 0 0 Q (F0 m 2 ls []) := by
  obtain ⟨hx, hb, hml, hown, hts, hK, hR⟩ := id cx
  intro n
  induction n with
  | zero =>
    intro S x1  h
    cases h
  | succ n ih =>
    intro S x1  h H locs ls hI hl
    rw [f_Mo_firstOrder_2] at h
    refine lv_iload_n hx hb dX8_firstOrder_2 rfl (lv_at hl 1 rfl) ?_
    refine lv_bipush (v := (nI 7)) hx hb dX8_firstOrder_3 (by decide) ?_
    refine lv_icmp_ge (tgt := 21) hx hb dX8_firstOrder_5 (by decide) (fun c1 => ?_) (fun c1 => ?_)
    · have h := it_p h c1
      obtain rfl := Option.some.inj h
      exact hret _ _ _ _ dX8_firstOrder_21 hI
    · have h := it_n h c1
      refine lv_aload_n hx hb dX8_firstOrder_8 rfl (lv_at hl 0 rfl) ?_
      refine g8_12 cx hI hc (zset_s _ _ _) w_118 dX8_firstOrder_9 ?_
      refine lv_iload_n hx hb dX8_firstOrder_12 rfl (lv_at hl 1 rfl) ?_
      refine lv_iload_n hx hb dX8_firstOrder_13 rfl (lv_at hl 1 rfl) ?_
      obtain ⟨g2, h⟩ := gd_el h
      obtain ⟨Z3, eZ3⟩ : ∃ z : zOb, z = zI S 13 x1.toNatClampNeg x1 := ⟨_, rfl⟩
      have h := bnd_el h eZ3
      refine zr_iast cx hI (k8_13 hc) (zset_s _ _ _) (z8_13 hc) rfl g2 (zss eZ3) dX8_firstOrder_14 (fun H locs hI => ?_)
      obtain ⟨v4, ev4⟩ : ∃ z : Int32, z = x1 + (nI 1) := ⟨_, rfl⟩
      have h := bnd_el h ev4
      refine lv_iinc (v := v4) (lv' := [(1, .int v4), (0, .ref (G.2.2.1 o 0))]) hx hb dX8_firstOrder_15 hl (k := 1) rfl (by rw [ev4]; rfl) (by decide) rfl (fun ls hl => ?_)
      refine lv_goto (tgt := 2) hx hb dX8_firstOrder_18 (by decide) ?_
      exact ih Z3 v4 h hI (lv_sub hl [1, 0] rfl)
def f_Mo_firstOrder (N : Nat) (S : zOb) : Option zOb :=
  f_Mo_firstOrder_2 N N S (nI 0)
set_option maxHeartbeats 4000000 in
set_option maxRecDepth 100000 in
theorem c_Mo_firstOrder (N : Nat) {l : Launch} {G : zG} {μ : zM} {o : Nat} (hc : o = 29) {S : zOb} (hS : μ o = S)  {out : zOb} (h : f_Mo_firstOrder N S  = some out) {μ' : zM} (hμ : zset μ o out = μ') : zMV l G yX8_firstOrder cX8_firstOrder 2 none 0 [.ref (G.2.2.1 o 0)] μ μ' := by
  subst hμ
  refine zMV.of (by decide) (Nat.le_of_ble_eq_true rfl) (fun p e s m args below meth c Q ls cx hI hl hret => ?_)
  obtain ⟨hx, hb, hml, hown, hts, hK, hR⟩ := id cx
  have hl : lv_has ls 2 [(0, .ref (G.2.2.1 o 0))] := hl
  rw [← zset_idS hS] at hI
  unfold f_Mo_firstOrder at h
  refine lv_iconst (v := (nI 0)) hx hb dX8_firstOrder_0 (by decide) ?_
  refine lv_istore_n (lv' := [(1, .int (nI 0)), (0, .ref (G.2.2.1 o 0))]) hx hb dX8_firstOrder_1 rfl hl (by decide) rfl (fun ls hl => ?_)
  exact t_Mo_firstOrder_2 N hc cx hret N S (nI 0) h hI (lv_sub hl [1, 0] rfl)
def f_Mo_nextOrder_113 (N : Nat)  : Nat → zOb → Int32 → Int32 → Option (Int32 × zOb)
  | 0, _, _, _ => none
  | n + 1, S, x4, x5 => (if x5 ≤ x4 then some ((nI 1), S) else if zin x4 7 then bnd (S.1 13 x4.toNatClampNeg) (fun v19 => if zin x5 7 then if zin x4 7 then bnd (zI S 13 x4.toNatClampNeg (S.1 13 x5.toNatClampNeg)) (fun Z22 => if zin x5 7 then bnd (zI Z22 13 x5.toNatClampNeg v19) (fun Z24 => bnd (x4 + (nI 1)) (fun v25 => bnd (x5 + (-1 : Int32)) (fun v26 => f_Mo_nextOrder_113 N n Z24 v25 v26))) else none) else none else none) else none)
set_option maxHeartbeats 4000000 in
set_option maxRecDepth 100000 in
theorem t_Mo_nextOrder_113 (N : Nat) {p : Program} {l : Launch} {e : Env} {s : State} {m : MethodId} {args : Array Value} {below : List Frame} {meth : Method} {c : Code} {Q : State → Prop} {G : zG} {μ : zM} {o : Nat} (hc : o = 29) {out : (Int32 × zOb)} (cx : zCX p (zrm 0) s m args c RX8 cX8_nextOrder 7 0 G) (hret : zRi p l e (zrm 0) s m args below meth c cX8_nextOrder G .boolean Q out.1 (zset μ o out.2))   : ∀ (n : Nat) (S : zOb) (x4 : Int32) (x5 : Int32), f_Mo_nextOrder_113 N n S x4 x5 = some out → ∀ {H : Heap} {locs : List Loc} {ls : Array Slot}, zIW G s (zset μ o S) H locs → lv_has ls 7 [(0, .ref (G.2.2.1 o 0)), (4, .int x4), (5, .int x5)] → W p l e (zrm 0) s m args below meth c H locs 0 0 Q (F0 m 113 ls []) := by
  obtain ⟨hx, hb, hml, hown, hts, hK, hR⟩ := id cx
  intro n
  induction n with
  | zero =>
    intro S x4 x5  h
    cases h
  | succ n ih =>
    intro S x4 x5  h H locs ls hI hl
    rw [f_Mo_nextOrder_113] at h
    refine lv_iload hx hb dX8_nextOrder_113 (lv_at hl 1 rfl) ?_
    refine lv_iload hx hb dX8_nextOrder_115 (lv_at hl 2 rfl) ?_
    refine lv_icmp_ge (tgt := 161) hx hb dX8_nextOrder_117 (by decide) (fun c17 => ?_) (fun c17 => ?_)
    · have h := it_p h c17
      refine lv_iconst (v := (nI 1)) hx hb dX8_nextOrder_161 (by decide) ?_
      obtain rfl := Option.some.inj h
      exact hret _ _ _ _ dX8_nextOrder_162 (zbool (Or.inr rfl)) hI
    · have h := it_n h c17
      refine lv_aload_n hx hb dX8_nextOrder_120 rfl (lv_at hl 0 rfl) ?_
      refine g8_12 cx hI hc (zset_s _ _ _) w_118 dX8_nextOrder_121 ?_
      refine lv_iload hx hb dX8_nextOrder_124 (lv_at hl 1 rfl) ?_
      obtain ⟨g18, h⟩ := gd_el h
      refine zr_iald cx hI (k8_13 hc) (zset_s _ _ _) (z8_13 hc) rfl g18 dX8_nextOrder_126 ?_
      refine lv_topi (fun v19 ev19 => ?_)
      have h := bnd_el h ev19
      refine lv_istore (lv' := [(6, .int v19), (0, .ref (G.2.2.1 o 0)), (4, .int x4), (5, .int x5)]) hx hb dX8_nextOrder_127 hl (by decide) rfl (fun ls hl => ?_)
      refine lv_aload_n hx hb dX8_nextOrder_129 rfl (lv_at hl 1 rfl) ?_
      refine g8_12 cx hI hc (zset_s _ _ _) w_118 dX8_nextOrder_130 ?_
      refine lv_iload hx hb dX8_nextOrder_133 (lv_at hl 2 rfl) ?_
      refine lv_aload_n hx hb dX8_nextOrder_135 rfl (lv_at hl 1 rfl) ?_
      refine g8_12 cx hI hc (zset_s _ _ _) w_118 dX8_nextOrder_136 ?_
      refine lv_iload hx hb dX8_nextOrder_139 (lv_at hl 3 rfl) ?_
      obtain ⟨g20, h⟩ := gd_el h
      refine zr_iald cx hI (k8_13 hc) (zset_s _ _ _) (z8_13 hc) rfl g20 dX8_nextOrder_141 ?_
      obtain ⟨g21, h⟩ := gd_el h
      obtain ⟨Z22, eZ22⟩ : ∃ z : zOb, z = zI S 13 x4.toNatClampNeg (S.1 13 x5.toNatClampNeg) := ⟨_, rfl⟩
      have h := bnd_el h eZ22
      refine zr_iast cx hI (k8_13 hc) (zset_s _ _ _) (z8_13 hc) rfl g21 (zss eZ22) dX8_nextOrder_142 (fun H locs hI => ?_)
      refine lv_aload_n hx hb dX8_nextOrder_143 rfl (lv_at hl 1 rfl) ?_
      refine g8_12 cx hI hc (zset_s _ _ _) w_118 dX8_nextOrder_144 ?_
      refine lv_iload hx hb dX8_nextOrder_147 (lv_at hl 3 rfl) ?_
      refine lv_iload hx hb dX8_nextOrder_149 (lv_at hl 0 rfl) ?_
      obtain ⟨g23, h⟩ := gd_el h
      obtain ⟨Z24, eZ24⟩ : ∃ z : zOb, z = zI Z22 13 x5.toNatClampNeg v19 := ⟨_, rfl⟩
      have h := bnd_el h eZ24
      refine zr_iast cx hI (k8_13 hc) (zset_s _ _ _) (z8_13 hc) rfl g23 (zss eZ24) dX8_nextOrder_151 (fun H locs hI => ?_)
      obtain ⟨v25, ev25⟩ : ∃ z : Int32, z = x4 + (nI 1) := ⟨_, rfl⟩
      have h := bnd_el h ev25
      refine lv_iinc (v := v25) (lv' := [(4, .int v25), (6, .int v19), (0, .ref (G.2.2.1 o 0)), (5, .int x5)]) hx hb dX8_nextOrder_152 hl (k := 2) rfl (by rw [ev25]; rfl) (by decide) rfl (fun ls hl => ?_)
      obtain ⟨v26, ev26⟩ : ∃ z : Int32, z = x5 + (-1 : Int32) := ⟨_, rfl⟩
      have h := bnd_el h ev26
      refine lv_iinc (v := v26) (lv' := [(5, .int v26), (4, .int v25), (6, .int v19), (0, .ref (G.2.2.1 o 0))]) hx hb dX8_nextOrder_155 hl (k := 3) rfl (by rw [ev26]; rfl) (by decide) rfl (fun ls hl => ?_)
      refine lv_goto (tgt := 113) hx hb dX8_nextOrder_158 (by decide) ?_
      exact ih Z24 v25 v26 h hI (lv_sub hl [3, 1, 0] rfl)
def f_Mo_nextOrder_51 (N : Nat)  : Nat → zOb → Int32 → Int32 → Option (Int32 × zOb)
  | 0, _, _, _ => none
  | n + 1, S, x1, x2 => if zin x2 7 then if zin x1 7 then (if (S.1 13 x1.toNatClampNeg) ≤ (S.1 13 x2.toNatClampNeg) then if zin x1 7 then bnd (S.1 13 x1.toNatClampNeg) (fun v9 => if zin x2 7 then if zin x1 7 then bnd (zI S 13 x1.toNatClampNeg (S.1 13 x2.toNatClampNeg)) (fun Z12 => if zin x2 7 then bnd (zI Z12 13 x2.toNatClampNeg v9) (fun Z14 => bnd (x1 + (nI 1)) (fun v15 => bnd ((Z14.1 1 0) - (nI 1)) (fun v16 => f_Mo_nextOrder_113 N N Z14 v15 v16))) else none) else none else none) else none else bnd (x2 + (-1 : Int32)) (fun v27 => f_Mo_nextOrder_51 N n S x1 v27)) else none else none
set_option maxHeartbeats 4000000 in
set_option maxRecDepth 100000 in
theorem t_Mo_nextOrder_51 (N : Nat) {p : Program} {l : Launch} {e : Env} {s : State} {m : MethodId} {args : Array Value} {below : List Frame} {meth : Method} {c : Code} {Q : State → Prop} {G : zG} {μ : zM} {o : Nat} (hc : o = 29) {out : (Int32 × zOb)} (cx : zCX p (zrm 0) s m args c RX8 cX8_nextOrder 7 0 G) (hret : zRi p l e (zrm 0) s m args below meth c cX8_nextOrder G .boolean Q out.1 (zset μ o out.2))   : ∀ (n : Nat) (S : zOb) (x1 : Int32) (x2 : Int32), f_Mo_nextOrder_51 N n S x1 x2 = some out → ∀ {H : Heap} {locs : List Loc} {ls : Array Slot}, zIW G s (zset μ o S) H locs → lv_has ls 7 [(0, .ref (G.2.2.1 o 0)), (1, .int x1), (2, .int x2)] → W p l e (zrm 0) s m args below meth c H locs 0 0 Q (F0 m 51 ls []) := by
  obtain ⟨hx, hb, hml, hown, hts, hK, hR⟩ := id cx
  intro n
  induction n with
  | zero =>
    intro S x1 x2  h
    cases h
  | succ n ih =>
    intro S x1 x2  h H locs ls hI hl
    rw [f_Mo_nextOrder_51] at h
    refine lv_aload_n hx hb dX8_nextOrder_51 rfl (lv_at hl 0 rfl) ?_
    refine g8_12 cx hI hc (zset_s _ _ _) w_118 dX8_nextOrder_52 ?_
    refine lv_iload_n hx hb dX8_nextOrder_55 rfl (lv_at hl 2 rfl) ?_
    obtain ⟨g5, h⟩ := gd_el h
    refine zr_iald cx hI (k8_13 hc) (zset_s _ _ _) (z8_13 hc) rfl g5 dX8_nextOrder_56 ?_
    refine lv_aload_n hx hb dX8_nextOrder_57 rfl (lv_at hl 0 rfl) ?_
    refine g8_12 cx hI hc (zset_s _ _ _) w_118 dX8_nextOrder_58 ?_
    refine lv_iload_n hx hb dX8_nextOrder_61 rfl (lv_at hl 1 rfl) ?_
    obtain ⟨g6, h⟩ := gd_el h
    refine zr_iald cx hI (k8_13 hc) (zset_s _ _ _) (z8_13 hc) rfl g6 dX8_nextOrder_62 ?_
    refine lv_icmp_ge (tgt := 72) hx hb dX8_nextOrder_63 (by decide) (fun c7 => ?_) (fun c7 => ?_)
    · have h := it_p h c7
      refine lv_aload_n hx hb dX8_nextOrder_72 rfl (lv_at hl 0 rfl) ?_
      refine g8_12 cx hI hc (zset_s _ _ _) w_118 dX8_nextOrder_73 ?_
      refine lv_iload_n hx hb dX8_nextOrder_76 rfl (lv_at hl 1 rfl) ?_
      obtain ⟨g8, h⟩ := gd_el h
      refine zr_iald cx hI (k8_13 hc) (zset_s _ _ _) (z8_13 hc) rfl g8 dX8_nextOrder_77 ?_
      refine lv_topi (fun v9 ev9 => ?_)
      have h := bnd_el h ev9
      refine lv_istore_n (lv' := [(3, .int v9), (0, .ref (G.2.2.1 o 0)), (1, .int x1), (2, .int x2)]) hx hb dX8_nextOrder_78 rfl hl (by decide) rfl (fun ls hl => ?_)
      refine lv_aload_n hx hb dX8_nextOrder_79 rfl (lv_at hl 1 rfl) ?_
      refine g8_12 cx hI hc (zset_s _ _ _) w_118 dX8_nextOrder_80 ?_
      refine lv_iload_n hx hb dX8_nextOrder_83 rfl (lv_at hl 2 rfl) ?_
      refine lv_aload_n hx hb dX8_nextOrder_84 rfl (lv_at hl 1 rfl) ?_
      refine g8_12 cx hI hc (zset_s _ _ _) w_118 dX8_nextOrder_85 ?_
      refine lv_iload_n hx hb dX8_nextOrder_88 rfl (lv_at hl 3 rfl) ?_
      obtain ⟨g10, h⟩ := gd_el h
      refine zr_iald cx hI (k8_13 hc) (zset_s _ _ _) (z8_13 hc) rfl g10 dX8_nextOrder_89 ?_
      obtain ⟨g11, h⟩ := gd_el h
      obtain ⟨Z12, eZ12⟩ : ∃ z : zOb, z = zI S 13 x1.toNatClampNeg (S.1 13 x2.toNatClampNeg) := ⟨_, rfl⟩
      have h := bnd_el h eZ12
      refine zr_iast cx hI (k8_13 hc) (zset_s _ _ _) (z8_13 hc) rfl g11 (zss eZ12) dX8_nextOrder_90 (fun H locs hI => ?_)
      refine lv_aload_n hx hb dX8_nextOrder_91 rfl (lv_at hl 1 rfl) ?_
      refine g8_12 cx hI hc (zset_s _ _ _) w_118 dX8_nextOrder_92 ?_
      refine lv_iload_n hx hb dX8_nextOrder_95 rfl (lv_at hl 3 rfl) ?_
      refine lv_iload_n hx hb dX8_nextOrder_96 rfl (lv_at hl 0 rfl) ?_
      obtain ⟨g13, h⟩ := gd_el h
      obtain ⟨Z14, eZ14⟩ : ∃ z : zOb, z = zI Z12 13 x2.toNatClampNeg v9 := ⟨_, rfl⟩
      have h := bnd_el h eZ14
      refine zr_iast cx hI (k8_13 hc) (zset_s _ _ _) (z8_13 hc) rfl g13 (zss eZ14) dX8_nextOrder_97 (fun H locs hI => ?_)
      refine lv_iload_n hx hb dX8_nextOrder_98 rfl (lv_at hl 2 rfl) ?_
      refine lv_iconst (v := (nI 1)) hx hb dX8_nextOrder_99 (by decide) ?_
      refine lv_iadd hx hb dX8_nextOrder_100 ?_
      refine lv_topi (fun v15 ev15 => ?_)
      have h := bnd_el h ev15
      refine lv_istore (lv' := [(4, .int v15), (3, .int v9), (0, .ref (G.2.2.1 o 0)), (1, .int x1), (2, .int x2)]) hx hb dX8_nextOrder_101 hl (by decide) rfl (fun ls hl => ?_)
      refine lv_aload_n hx hb dX8_nextOrder_103 rfl (lv_at hl 2 rfl) ?_
      refine g8_0 cx hI hc (zset_s _ _ _) w_108 dX8_nextOrder_104 ?_
      refine lv_iconst (v := (nI 0)) hx hb dX8_nextOrder_107 (by decide) ?_
      refine zr_iald cx hI (k8_1 hc) (zset_s _ _ _) (z8_1 hc) rfl (by decide) dX8_nextOrder_108 ?_
      refine lv_iconst (v := (nI 1)) hx hb dX8_nextOrder_109 (by decide) ?_
      refine lv_isub hx hb dX8_nextOrder_110 ?_
      refine lv_topi (fun v16 ev16 => ?_)
      have h := bnd_el h ev16
      refine lv_istore (lv' := [(5, .int v16), (4, .int v15), (3, .int v9), (0, .ref (G.2.2.1 o 0)), (1, .int x1), (2, .int x2)]) hx hb dX8_nextOrder_111 hl (by decide) rfl (fun ls hl => ?_)
      exact t_Mo_nextOrder_113 N hc cx hret N Z14 v15 v16 h hI (lv_sub hl [3, 1, 0] rfl)
    · have h := it_n h c7
      obtain ⟨v27, ev27⟩ : ∃ z : Int32, z = x2 + (-1 : Int32) := ⟨_, rfl⟩
      have h := bnd_el h ev27
      refine lv_iinc (v := v27) (lv' := [(2, .int v27), (0, .ref (G.2.2.1 o 0)), (1, .int x1)]) hx hb dX8_nextOrder_66 hl (k := 2) rfl (by rw [ev27]; rfl) (by decide) rfl (fun ls hl => ?_)
      refine lv_goto (tgt := 51) hx hb dX8_nextOrder_69 (by decide) ?_
      exact ih S x1 v27 h hI (lv_sub hl [1, 2, 0] rfl)
def f_Mo_nextOrder_36 (N : Nat)  (S : zOb) (x1 : Int32) : Option (Int32 × zOb) :=
  (if nI 0 ≤ x1 then bnd ((S.1 1 0) - (nI 1)) (fun v4 => f_Mo_nextOrder_51 N N S x1 v4) else some ((nI 0), S))
set_option maxHeartbeats 4000000 in
set_option maxRecDepth 100000 in
theorem t_Mo_nextOrder_36 (N : Nat) {p : Program} {l : Launch} {e : Env} {s : State} {m : MethodId} {args : Array Value} {below : List Frame} {meth : Method} {c : Code} {Q : State → Prop} {G : zG} {μ : zM} {o : Nat} (hc : o = 29) {out : (Int32 × zOb)} (cx : zCX p (zrm 0) s m args c RX8 cX8_nextOrder 7 0 G) (hret : zRi p l e (zrm 0) s m args below meth c cX8_nextOrder G .boolean Q out.1 (zset μ o out.2))   : ∀ (S : zOb) (x1 : Int32), f_Mo_nextOrder_36 N S x1 = some out → ∀ {H : Heap} {locs : List Loc} {ls : Array Slot}, zIW G s (zset μ o S) H locs → lv_has ls 7 [(0, .ref (G.2.2.1 o 0)), (1, .int x1)] → W p l e (zrm 0) s m args below meth c H locs 0 0 Q (F0 m 36 ls []) := by
  obtain ⟨hx, hb, hml, hown, hts, hK, hR⟩ := id cx
  intro S x1  h H locs ls hI hl
  unfold f_Mo_nextOrder_36 at h
  refine lv_iload_n hx hb dX8_nextOrder_36 rfl (lv_at hl 1 rfl) ?_
  refine lv_if_ge (tgt := 42) hx hb dX8_nextOrder_37 (by decide) (fun c3 => ?_) (fun c3 => ?_)
  · have h := it_p h c3
    refine lv_aload_n hx hb dX8_nextOrder_42 rfl (lv_at hl 0 rfl) ?_
    refine g8_0 cx hI hc (zset_s _ _ _) w_108 dX8_nextOrder_43 ?_
    refine lv_iconst (v := (nI 0)) hx hb dX8_nextOrder_46 (by decide) ?_
    refine zr_iald cx hI (k8_1 hc) (zset_s _ _ _) (z8_1 hc) rfl (by decide) dX8_nextOrder_47 ?_
    refine lv_iconst (v := (nI 1)) hx hb dX8_nextOrder_48 (by decide) ?_
    refine lv_isub hx hb dX8_nextOrder_49 ?_
    refine lv_topi (fun v4 ev4 => ?_)
    have h := bnd_el h ev4
    refine lv_istore_n (lv' := [(2, .int v4), (0, .ref (G.2.2.1 o 0)), (1, .int x1)]) hx hb dX8_nextOrder_50 rfl hl (by decide) rfl (fun ls hl => ?_)
    exact t_Mo_nextOrder_51 N hc cx hret N S x1 v4 h hI (lv_sub hl [1, 2, 0] rfl)
  · have h := it_n h c3
    refine lv_iconst (v := (nI 0)) hx hb dX8_nextOrder_40 (by decide) ?_
    obtain rfl := Option.some.inj h
    exact hret _ _ _ _ dX8_nextOrder_41 (zbool (Or.inl rfl)) hI
def f_Mo_nextOrder_9 (N : Nat)  : Nat → zOb → Int32 → Option (Int32 × zOb)
  | 0, _, _ => none
  | n + 1, S, x1 => (if x1 < nI 0 then f_Mo_nextOrder_36 N S x1 else if zin x1 7 then if zin (x1 + (nI 1)) 7 then (if (S.1 13 x1.toNatClampNeg) ≤ (S.1 13 ((x1 + (nI 1)).toNatClampNeg)) then f_Mo_nextOrder_36 N S x1 else bnd (x1 + (-1 : Int32)) (fun v31 => f_Mo_nextOrder_9 N n S v31)) else none else none)
set_option maxHeartbeats 4000000 in
set_option maxRecDepth 100000 in
theorem t_Mo_nextOrder_9 (N : Nat) {p : Program} {l : Launch} {e : Env} {s : State} {m : MethodId} {args : Array Value} {below : List Frame} {meth : Method} {c : Code} {Q : State → Prop} {G : zG} {μ : zM} {o : Nat} (hc : o = 29) {out : (Int32 × zOb)} (cx : zCX p (zrm 0) s m args c RX8 cX8_nextOrder 7 0 G) (hret : zRi p l e (zrm 0) s m args below meth c cX8_nextOrder G .boolean Q out.1 (zset μ o out.2))   : ∀ (n : Nat) (S : zOb) (x1 : Int32), f_Mo_nextOrder_9 N n S x1 = some out → ∀ {H : Heap} {locs : List Loc} {ls : Array Slot}, zIW G s (zset μ o S) H locs → lv_has ls 7 [(0, .ref (G.2.2.1 o 0)), (1, .int x1)] → W p l e (zrm 0) s m args below meth c H locs 0 0 Q (F0 m 9 ls []) := by
  obtain ⟨hx, hb, hml, hown, hts, hK, hR⟩ := id cx
  intro n
  induction n with
  | zero =>
    intro S x1  h
    cases h
  | succ n ih =>
    intro S x1  h H locs ls hI hl
    rw [f_Mo_nextOrder_9] at h
    refine lv_iload_n hx hb dX8_nextOrder_9 rfl (lv_at hl 1 rfl) ?_
    refine lv_if_lt (tgt := 36) hx hb dX8_nextOrder_10 (by decide) (fun c2 => ?_) (fun c2 => ?_)
    · have h := it_p h c2
      exact t_Mo_nextOrder_36 N hc cx hret S x1 h hI hl
    · have h := it_n h c2
      refine lv_aload_n hx hb dX8_nextOrder_13 rfl (lv_at hl 0 rfl) ?_
      refine g8_12 cx hI hc (zset_s _ _ _) w_118 dX8_nextOrder_14 ?_
      refine lv_iload_n hx hb dX8_nextOrder_17 rfl (lv_at hl 1 rfl) ?_
      obtain ⟨g28, h⟩ := gd_el h
      refine zr_iald cx hI (k8_13 hc) (zset_s _ _ _) (z8_13 hc) rfl g28 dX8_nextOrder_18 ?_
      refine lv_aload_n hx hb dX8_nextOrder_19 rfl (lv_at hl 0 rfl) ?_
      refine g8_12 cx hI hc (zset_s _ _ _) w_118 dX8_nextOrder_20 ?_
      refine lv_iload_n hx hb dX8_nextOrder_23 rfl (lv_at hl 1 rfl) ?_
      refine lv_iconst (v := (nI 1)) hx hb dX8_nextOrder_24 (by decide) ?_
      refine lv_iadd hx hb dX8_nextOrder_25 ?_
      obtain ⟨g29, h⟩ := gd_el h
      refine zr_iald cx hI (k8_13 hc) (zset_s _ _ _) (z8_13 hc) rfl g29 dX8_nextOrder_26 ?_
      refine lv_icmp_le (tgt := 36) hx hb dX8_nextOrder_27 (by decide) (fun c30 => ?_) (fun c30 => ?_)
      · have h := it_p h c30
        exact t_Mo_nextOrder_36 N hc cx hret S x1 h hI hl
      · have h := it_n h c30
        obtain ⟨v31, ev31⟩ : ∃ z : Int32, z = x1 + (-1 : Int32) := ⟨_, rfl⟩
        have h := bnd_el h ev31
        refine lv_iinc (v := v31) (lv' := [(1, .int v31), (0, .ref (G.2.2.1 o 0))]) hx hb dX8_nextOrder_30 hl (k := 1) rfl (by rw [ev31]; rfl) (by decide) rfl (fun ls hl => ?_)
        refine lv_goto (tgt := 9) hx hb dX8_nextOrder_33 (by decide) ?_
        exact ih S v31 h hI (lv_sub hl [1, 0] rfl)
def f_Mo_nextOrder (N : Nat) (S : zOb) : Option (Int32 × zOb) :=
  bnd ((S.1 1 0) - (nI 2)) (fun v1 => f_Mo_nextOrder_9 N N S v1)
set_option maxHeartbeats 4000000 in
set_option maxRecDepth 100000 in
theorem c_Mo_nextOrder (N : Nat) {l : Launch} {G : zG} {μ : zM} {o : Nat} (hc : o = 29) {S : zOb} (hS : μ o = S)  {out : (Int32 × zOb)} (h : f_Mo_nextOrder N S  = some out) {μ' : zM} (hμ : zset μ o out.2 = μ') : zMI l G yX8_nextOrder cX8_nextOrder 7 (some .boolean) 0 [.ref (G.2.2.1 o 0)] μ out.1 μ' := by
  subst hμ
  refine zMI.of (by decide) (Nat.le_of_ble_eq_true rfl) (fun p e s m args below meth c Q ls cx hI hl hret => ?_)
  obtain ⟨hx, hb, hml, hown, hts, hK, hR⟩ := id cx
  have hl : lv_has ls 7 [(0, .ref (G.2.2.1 o 0))] := hl
  rw [← zset_idS hS] at hI
  unfold f_Mo_nextOrder at h
  refine lv_aload_n hx hb dX8_nextOrder_0 rfl (lv_at hl 0 rfl) ?_
  refine g8_0 cx hI hc (zset_s _ _ _) w_108 dX8_nextOrder_1 ?_
  refine lv_iconst (v := (nI 0)) hx hb dX8_nextOrder_4 (by decide) ?_
  refine zr_iald cx hI (k8_1 hc) (zset_s _ _ _) (z8_1 hc) rfl (by decide) dX8_nextOrder_5 ?_
  refine lv_iconst (v := (nI 2)) hx hb dX8_nextOrder_6 (by decide) ?_
  refine lv_isub hx hb dX8_nextOrder_7 ?_
  refine lv_topi (fun v1 ev1 => ?_)
  have h := bnd_el h ev1
  refine lv_istore_n (lv' := [(1, .int v1), (0, .ref (G.2.2.1 o 0))]) hx hb dX8_nextOrder_8 rfl hl (by decide) rfl (fun ls hl => ?_)
  exact t_Mo_nextOrder_9 N hc cx hret N S v1 h hI (lv_sub hl [1, 0] rfl)
def f_Mo_place (N : Nat) (S : zOb) (a1 : Int32) (a2 : Int32) : Option (Int32 × zOb) :=
  (f_Mo_in a1.toInt64 (0 : Int64) (((S.1 1 0) - (nI 1)).toInt64)).bind (fun q1 => (if q1 = nI 0 then some ((-1 : Int32), S) else (f_Mo_takesOrder N S).bind (fun q3 => (f_Mo_readsOrder N q3).bind (fun q4 => (if a2 = (nI 0) then if zin a1 7 then some (q4.1 13 a1.toNatClampNeg, q4) else none else if a2 = (nI 1) then if zin a1 7 then (f_Mo_sizeOf N (q4.1 16 a1.toNatClampNeg)).bind (fun q9 => some (q9, q4)) else none else if a2 = (nI 2) then if zin a1 7 then (f_Mo_sizeOf N (q4.1 17 a1.toNatClampNeg)).bind (fun q12 => some (q12, q4)) else none else if a2 = (nI 3) then if zin a1 7 then (f_Mo_sizeOf N (q4.1 18 a1.toNatClampNeg)).bind (fun q15 => some (q15, q4)) else none else if a2 = (nI 4) then if zin a1 7 then some (q4.1 16 a1.toNatClampNeg, q4) else none else if a2 = (nI 5) then if zin a1 7 then some (q4.1 18 a1.toNatClampNeg, q4) else none else if a2 = (nI 6) then if zin a1 7 then some (q4.1 19 a1.toNatClampNeg, q4) else none else some ((-1 : Int32), q4))))))
set_option maxHeartbeats 4000000 in
set_option maxRecDepth 100000 in
theorem c_Mo_place (N : Nat) {l : Launch} {G : zG} {μ : zM} {o : Nat} (hc : o = 29) {S : zOb} (hS : μ o = S) {a1 : Int32} {a2 : Int32} {out : (Int32 × zOb)} (h : f_Mo_place N S a1 a2 = some out) {μ' : zM} (hμ : zset μ o out.2 = μ') : zMI l G yX8_place cX8_place 3 (some .int) 3 [.ref (G.2.2.1 o 0), .int a1, .int a2] μ out.1 μ' := by
  subst hμ
  refine zMI.of (by decide) (Nat.le_of_ble_eq_true rfl) (fun p e s m args below meth c Q ls cx hI hl hret => ?_)
  obtain ⟨hx, hb, hml, hown, hts, hK, hR⟩ := id cx
  have hl : lv_has ls 3 [(0, .ref (G.2.2.1 o 0)), (1, .int a1), (2, .int a2)] := hl
  rw [← zset_idS hS] at hI
  unfold f_Mo_place at h
  refine lv_iload_n hx hb dX8_place_0 rfl (lv_at hl 1 rfl) ?_
  refine lv_i2l hx hb dX8_place_1 rfl ?_
  refine lv_lconst (v := (0 : Int64)) hx hb dX8_place_2 (by decide) ?_
  refine lv_aload_n hx hb dX8_place_3 rfl (lv_at hl 0 rfl) ?_
  refine g8_0 cx hI hc (zset_s _ _ _) w_108 dX8_place_4 ?_
  refine lv_iconst (v := (nI 0)) hx hb dX8_place_7 (by decide) ?_
  refine zr_iald cx hI (k8_1 hc) (zset_s _ _ _) (z8_1 hc) rfl (by decide) dX8_place_8 ?_
  refine lv_iconst (v := (nI 1)) hx hb dX8_place_9 (by decide) ?_
  refine lv_isub hx hb dX8_place_10 ?_
  refine lv_i2l hx hb dX8_place_11 rfl ?_
  obtain ⟨q1, hq1, h⟩ := bi_el h
  refine zcSi (As := [.long a1.toInt64, .long (0 : Int64), .long (((S.1 1 0) - (nI 1)).toInt64)]) cx hI (c_Mo_in  hq1) mt_yX8_in ms_yX8_in w_179 (by omega) rfl hl.1 rfl (Nat.le_of_ble_eq_true rfl) dX8_place_12 (fun H locs hI => ?_)
  refine lv_if_ne (tgt := 20) hx hb dX8_place_15 (by decide) (fun c2 => ?_) (fun c2 => ?_)
  · have h := it_n h c2
    refine lv_aload_n hx hb dX8_place_20 rfl (lv_at hl 0 rfl) ?_
    obtain ⟨q3, hq3, h⟩ := bi_el h
    refine zcVv (As := []) cx hI (c_Mo_takesOrder N hc (zset_s _ _ _) hq3 (zset_ss _ _ _ _)) mt_yX8_takesOrder mv_yX8_takesOrder w_470 (by omega) (k8_0 hc) (zv8 hc) rfl hl.1 rfl (Nat.le_of_ble_eq_true rfl) dX8_place_21 (fun H locs hI => ?_)
    refine lv_aload_n hx hb dX8_place_24 rfl (lv_at hl 0 rfl) ?_
    obtain ⟨q4, hq4, h⟩ := bi_el h
    refine zcVv (As := []) cx hI (c_Mo_readsOrder N hc (zset_s _ _ _) hq4 (zset_ss _ _ _ _)) mt_yX8_readsOrder mv_yX8_readsOrder w_492 (by omega) (k8_0 hc) (zv8 hc) rfl hl.1 rfl (Nat.le_of_ble_eq_true rfl) dX8_place_25 (fun H locs hI => ?_)
    refine lv_iload_n hx hb dX8_place_28 rfl (lv_at hl 2 rfl) ?_
    by_cases c5 : a2 = (nI 0)
    · have h := it_p h c5
      refine lv_tableIn (off := 43) (tgt := 72) hx hb dX8_place_29 (by rw [c5]; decide) (by rw [c5]; decide) (by rw [c5]; rfl) (by decide) ?_
      refine lv_aload_n hx hb dX8_place_72 rfl (lv_at hl 0 rfl) ?_
      refine g8_12 cx hI hc (zset_s _ _ _) w_118 dX8_place_73 ?_
      refine lv_iload_n hx hb dX8_place_76 rfl (lv_at hl 1 rfl) ?_
      obtain ⟨g6, h⟩ := gd_el h
      refine zr_iald cx hI (k8_13 hc) (zset_s _ _ _) (z8_13 hc) rfl g6 dX8_place_77 ?_
      obtain rfl := Option.some.inj h
      exact hret _ _ _ _ dX8_place_78 rfl hI
    · have h := it_n h c5
      by_cases c7 : a2 = (nI 1)
      · have h := it_p h c7
        refine lv_tableIn (off := 50) (tgt := 79) hx hb dX8_place_29 (by rw [c7]; decide) (by rw [c7]; decide) (by rw [c7]; rfl) (by decide) ?_
        refine lv_aload_n hx hb dX8_place_79 rfl (lv_at hl 0 rfl) ?_
        refine g8_15 cx hI hc (zset_s _ _ _) w_121 dX8_place_80 ?_
        refine lv_iload_n hx hb dX8_place_83 rfl (lv_at hl 1 rfl) ?_
        obtain ⟨g8, h⟩ := gd_el h
        refine zr_iald cx hI (k8_16 hc) (zset_s _ _ _) (z8_16 hc) rfl g8 dX8_place_84 ?_
        obtain ⟨q9, hq9, h⟩ := bi_el h
        refine zcSi (As := [.int (q4.1 16 a1.toNatClampNeg)]) cx hI (c_Mo_sizeOf N hq9) mt_yX8_sizeOf ms_yX8_sizeOf w_516 (by omega) rfl hl.1 rfl (Nat.le_of_ble_eq_true rfl) dX8_place_85 (fun H locs hI => ?_)
        obtain rfl := Option.some.inj h
        exact hret _ _ _ _ dX8_place_88 rfl hI
      · have h := it_n h c7
        by_cases c10 : a2 = (nI 2)
        · have h := it_p h c10
          refine lv_tableIn (off := 60) (tgt := 89) hx hb dX8_place_29 (by rw [c10]; decide) (by rw [c10]; decide) (by rw [c10]; rfl) (by decide) ?_
          refine lv_aload_n hx hb dX8_place_89 rfl (lv_at hl 0 rfl) ?_
          refine g8_16 cx hI hc (zset_s _ _ _) w_122 dX8_place_90 ?_
          refine lv_iload_n hx hb dX8_place_93 rfl (lv_at hl 1 rfl) ?_
          obtain ⟨g11, h⟩ := gd_el h
          refine zr_iald cx hI (k8_17 hc) (zset_s _ _ _) (z8_17 hc) rfl g11 dX8_place_94 ?_
          obtain ⟨q12, hq12, h⟩ := bi_el h
          refine zcSi (As := [.int (q4.1 17 a1.toNatClampNeg)]) cx hI (c_Mo_sizeOf N hq12) mt_yX8_sizeOf ms_yX8_sizeOf w_516 (by omega) rfl hl.1 rfl (Nat.le_of_ble_eq_true rfl) dX8_place_95 (fun H locs hI => ?_)
          obtain rfl := Option.some.inj h
          exact hret _ _ _ _ dX8_place_98 rfl hI
        · have h := it_n h c10
          by_cases c13 : a2 = (nI 3)
          · have h := it_p h c13
            refine lv_tableIn (off := 70) (tgt := 99) hx hb dX8_place_29 (by rw [c13]; decide) (by rw [c13]; decide) (by rw [c13]; rfl) (by decide) ?_
            refine lv_aload_n hx hb dX8_place_99 rfl (lv_at hl 0 rfl) ?_
            refine g8_17 cx hI hc (zset_s _ _ _) w_123 dX8_place_100 ?_
            refine lv_iload_n hx hb dX8_place_103 rfl (lv_at hl 1 rfl) ?_
            obtain ⟨g14, h⟩ := gd_el h
            refine zr_iald cx hI (k8_18 hc) (zset_s _ _ _) (z8_18 hc) rfl g14 dX8_place_104 ?_
            obtain ⟨q15, hq15, h⟩ := bi_el h
            refine zcSi (As := [.int (q4.1 18 a1.toNatClampNeg)]) cx hI (c_Mo_sizeOf N hq15) mt_yX8_sizeOf ms_yX8_sizeOf w_516 (by omega) rfl hl.1 rfl (Nat.le_of_ble_eq_true rfl) dX8_place_105 (fun H locs hI => ?_)
            obtain rfl := Option.some.inj h
            exact hret _ _ _ _ dX8_place_108 rfl hI
          · have h := it_n h c13
            by_cases c16 : a2 = (nI 4)
            · have h := it_p h c16
              refine lv_tableIn (off := 80) (tgt := 109) hx hb dX8_place_29 (by rw [c16]; decide) (by rw [c16]; decide) (by rw [c16]; rfl) (by decide) ?_
              refine lv_aload_n hx hb dX8_place_109 rfl (lv_at hl 0 rfl) ?_
              refine g8_15 cx hI hc (zset_s _ _ _) w_121 dX8_place_110 ?_
              refine lv_iload_n hx hb dX8_place_113 rfl (lv_at hl 1 rfl) ?_
              obtain ⟨g17, h⟩ := gd_el h
              refine zr_iald cx hI (k8_16 hc) (zset_s _ _ _) (z8_16 hc) rfl g17 dX8_place_114 ?_
              obtain rfl := Option.some.inj h
              exact hret _ _ _ _ dX8_place_115 rfl hI
            · have h := it_n h c16
              by_cases c18 : a2 = (nI 5)
              · have h := it_p h c18
                refine lv_tableIn (off := 87) (tgt := 116) hx hb dX8_place_29 (by rw [c18]; decide) (by rw [c18]; decide) (by rw [c18]; rfl) (by decide) ?_
                refine lv_aload_n hx hb dX8_place_116 rfl (lv_at hl 0 rfl) ?_
                refine g8_17 cx hI hc (zset_s _ _ _) w_123 dX8_place_117 ?_
                refine lv_iload_n hx hb dX8_place_120 rfl (lv_at hl 1 rfl) ?_
                obtain ⟨g19, h⟩ := gd_el h
                refine zr_iald cx hI (k8_18 hc) (zset_s _ _ _) (z8_18 hc) rfl g19 dX8_place_121 ?_
                obtain rfl := Option.some.inj h
                exact hret _ _ _ _ dX8_place_122 rfl hI
              · have h := it_n h c18
                by_cases c20 : a2 = (nI 6)
                · have h := it_p h c20
                  refine lv_tableIn (off := 94) (tgt := 123) hx hb dX8_place_29 (by rw [c20]; decide) (by rw [c20]; decide) (by rw [c20]; rfl) (by decide) ?_
                  refine lv_aload_n hx hb dX8_place_123 rfl (lv_at hl 0 rfl) ?_
                  refine g8_18 cx hI hc (zset_s _ _ _) w_124 dX8_place_124 ?_
                  refine lv_iload_n hx hb dX8_place_127 rfl (lv_at hl 1 rfl) ?_
                  obtain ⟨g21, h⟩ := gd_el h
                  refine zr_iald cx hI (k8_19 hc) (zset_s _ _ _) (z8_19 hc) rfl g21 dX8_place_128 ?_
                  obtain rfl := Option.some.inj h
                  exact hret _ _ _ _ dX8_place_129 rfl hI
                · have h := it_n h c20
                  refine lv_tableOut (tgt := 130) hx hb dX8_place_29 (by have tc5 := tn c5 (i := 0) rfl; have tc7 := tn c7 (i := 1) rfl; have tc10 := tn c10 (i := 2) rfl; have tc13 := tn c13 (i := 3) rfl; have tc16 := tn c16 (i := 4) rfl; have tc18 := tn c18 (i := 5) rfl; have tc20 := tn c20 (i := 6) rfl; omega) (by decide) ?_
                  refine lv_iconst (v := (-1 : Int32)) hx hb dX8_place_130 (by decide) ?_
                  obtain rfl := Option.some.inj h
                  exact hret _ _ _ _ dX8_place_131 rfl hI
  · have h := it_p h c2
    refine lv_iconst (v := (-1 : Int32)) hx hb dX8_place_18 (by decide) ?_
    obtain rfl := Option.some.inj h
    exact hret _ _ _ _ dX8_place_19 rfl hI
def f_Mo_word_142 (N : Nat) (k44 : zOb → Int32 → Int32 → Int32 → Int32 → Int32 → Int32 → Int32 → Option (Int32 × zOb)) (S : zOb) (x1 : Int32) (x2 : Int32) (x3 : Int32) (x4 : Int32) (x5 : Int32) (x7 : Int32) (s0 : Int32) (s1 : Int32) : Option (Int32 × zOb) :=
  bnd (s1 + s0) (fun v27 => bnd (x7 + (-1 : Int32)) (fun v28 => k44 S x1 x2 x3 x4 x5 v27 v28))
set_option maxHeartbeats 4000000 in
set_option maxRecDepth 100000 in
theorem t_Mo_word_142 (N : Nat) {p : Program} {l : Launch} {e : Env} {s : State} {m : MethodId} {args : Array Value} {below : List Frame} {meth : Method} {c : Code} {Q : State → Prop} {G : zG} {μ : zM} {o : Nat} (hc : o = 29) {out : (Int32 × zOb)} (cx : zCX p (zrm 3) s m args c RX8 cX8_word 8 3 G) (hret : zRi p l e (zrm 3) s m args below meth c cX8_word G .int Q out.1 (zset μ o out.2)) {k44 : zOb → Int32 → Int32 → Int32 → Int32 → Int32 → Int32 → Int32 → Option (Int32 × zOb)} (hk44 : ∀ (S : zOb) (x1 : Int32) (x2 : Int32) (x3 : Int32) (x4 : Int32) (x5 : Int32) (x6 : Int32) (x7 : Int32), k44 S x1 x2 x3 x4 x5 x6 x7 = some out → ∀ {H : Heap} {locs : List Loc} {ls : Array Slot}, zIW G s (zset μ o S) H locs → lv_has ls 8 [(0, .ref (G.2.2.1 o 0)), (1, .int x1), (2, .int x2), (3, .int x3), (4, .int x4), (5, .int x5), (6, .int x6), (7, .int x7)] → W p l e (zrm 3) s m args below meth c H locs 0 0 Q (F0 m 44 ls [])) : ∀ (S : zOb) (x1 : Int32) (x2 : Int32) (x3 : Int32) (x4 : Int32) (x5 : Int32) (x7 : Int32) (s0 : Int32) (s1 : Int32), f_Mo_word_142 N k44 S x1 x2 x3 x4 x5 x7 s0 s1 = some out → ∀ {H : Heap} {locs : List Loc} {ls : Array Slot}, zIW G s (zset μ o S) H locs → lv_has ls 8 [(0, .ref (G.2.2.1 o 0)), (1, .int x1), (2, .int x2), (3, .int x3), (4, .int x4), (5, .int x5), (7, .int x7)] → W p l e (zrm 3) s m args below meth c H locs 0 0 Q (F0 m 142 ls [.int s0, .int s1]) := by
  obtain ⟨hx, hb, hml, hown, hts, hK, hR⟩ := id cx
  intro S x1 x2 x3 x4 x5 x7 s0 s1  h H locs ls hI hl
  unfold f_Mo_word_142 at h
  refine lv_iadd hx hb dX8_word_142 ?_
  refine lv_topi (fun v27 ev27 => ?_)
  have h := bnd_el h ev27
  refine lv_istore (lv' := [(6, .int v27), (0, .ref (G.2.2.1 o 0)), (1, .int x1), (2, .int x2), (3, .int x3), (4, .int x4), (5, .int x5), (7, .int x7)]) hx hb dX8_word_143 hl (by decide) rfl (fun ls hl => ?_)
  obtain ⟨v28, ev28⟩ : ∃ z : Int32, z = x7 + (-1 : Int32) := ⟨_, rfl⟩
  have h := bnd_el h ev28
  refine lv_iinc (v := v28) (lv' := [(7, .int v28), (6, .int v27), (0, .ref (G.2.2.1 o 0)), (1, .int x1), (2, .int x2), (3, .int x3), (4, .int x4), (5, .int x5)]) hx hb dX8_word_145 hl (k := 7) rfl (by rw [ev28]; rfl) (by decide) rfl (fun ls hl => ?_)
  refine lv_goto (tgt := 44) hx hb dX8_word_148 (by decide) ?_
  exact hk44 S x1 x2 x3 x4 x5 v27 v28 h hI (lv_sub hl [2, 3, 4, 5, 6, 7, 1, 0] rfl)
def f_Mo_word_115 (N : Nat) (k44 : zOb → Int32 → Int32 → Int32 → Int32 → Int32 → Int32 → Int32 → Option (Int32 × zOb)) (S : zOb) (x1 : Int32) (x2 : Int32) (x3 : Int32) (x4 : Int32) (x6 : Int32) (x7 : Int32) (s0 : Int32) (s1 : Int32) : Option (Int32 × zOb) :=
  bnd (s1 + s0) (fun v23 => if zin ((nI 13) + x7) 27 then (f_Mo_has (S.1 1 (((nI 13) + x7).toNatClampNeg)) x1).bind (fun q25 => (if q25 = nI 0 then f_Mo_word_142 N k44 S x1 x2 x3 x4 v23 x7 (nI 0) x6 else f_Mo_word_142 N k44 S x1 x2 x3 x4 v23 x7 (nI 1) x6)) else none)
set_option maxHeartbeats 4000000 in
set_option maxRecDepth 100000 in
theorem t_Mo_word_115 (N : Nat) {p : Program} {l : Launch} {e : Env} {s : State} {m : MethodId} {args : Array Value} {below : List Frame} {meth : Method} {c : Code} {Q : State → Prop} {G : zG} {μ : zM} {o : Nat} (hc : o = 29) {out : (Int32 × zOb)} (cx : zCX p (zrm 3) s m args c RX8 cX8_word 8 3 G) (hret : zRi p l e (zrm 3) s m args below meth c cX8_word G .int Q out.1 (zset μ o out.2)) {k44 : zOb → Int32 → Int32 → Int32 → Int32 → Int32 → Int32 → Int32 → Option (Int32 × zOb)} (hk44 : ∀ (S : zOb) (x1 : Int32) (x2 : Int32) (x3 : Int32) (x4 : Int32) (x5 : Int32) (x6 : Int32) (x7 : Int32), k44 S x1 x2 x3 x4 x5 x6 x7 = some out → ∀ {H : Heap} {locs : List Loc} {ls : Array Slot}, zIW G s (zset μ o S) H locs → lv_has ls 8 [(0, .ref (G.2.2.1 o 0)), (1, .int x1), (2, .int x2), (3, .int x3), (4, .int x4), (5, .int x5), (6, .int x6), (7, .int x7)] → W p l e (zrm 3) s m args below meth c H locs 0 0 Q (F0 m 44 ls [])) : ∀ (S : zOb) (x1 : Int32) (x2 : Int32) (x3 : Int32) (x4 : Int32) (x6 : Int32) (x7 : Int32) (s0 : Int32) (s1 : Int32), f_Mo_word_115 N k44 S x1 x2 x3 x4 x6 x7 s0 s1 = some out → ∀ {H : Heap} {locs : List Loc} {ls : Array Slot}, zIW G s (zset μ o S) H locs → lv_has ls 8 [(0, .ref (G.2.2.1 o 0)), (1, .int x1), (2, .int x2), (3, .int x3), (4, .int x4), (6, .int x6), (7, .int x7)] → W p l e (zrm 3) s m args below meth c H locs 0 0 Q (F0 m 115 ls [.int s0, .int s1]) := by
  obtain ⟨hx, hb, hml, hown, hts, hK, hR⟩ := id cx
  intro S x1 x2 x3 x4 x6 x7 s0 s1  h H locs ls hI hl
  unfold f_Mo_word_115 at h
  refine lv_iadd hx hb dX8_word_115 ?_
  refine lv_topi (fun v23 ev23 => ?_)
  have h := bnd_el h ev23
  refine lv_istore (lv' := [(5, .int v23), (0, .ref (G.2.2.1 o 0)), (1, .int x1), (2, .int x2), (3, .int x3), (4, .int x4), (6, .int x6), (7, .int x7)]) hx hb dX8_word_116 hl (by decide) rfl (fun ls hl => ?_)
  refine lv_iload hx hb dX8_word_118 (lv_at hl 6 rfl) ?_
  refine lv_aload_n hx hb dX8_word_120 rfl (lv_at hl 1 rfl) ?_
  refine g8_0 cx hI hc (zset_s _ _ _) w_108 dX8_word_121 ?_
  refine lv_bipush (v := (nI 13)) hx hb dX8_word_124 (by decide) ?_
  refine lv_iload hx hb dX8_word_126 (lv_at hl 7 rfl) ?_
  refine lv_iadd hx hb dX8_word_128 ?_
  obtain ⟨g24, h⟩ := gd_el h
  refine zr_iald cx hI (k8_1 hc) (zset_s _ _ _) (z8_1 hc) rfl g24 dX8_word_129 ?_
  refine lv_iload_n hx hb dX8_word_130 rfl (lv_at hl 2 rfl) ?_
  obtain ⟨q25, hq25, h⟩ := bi_el h
  refine zcSi (As := [.int (S.1 1 (((nI 13) + x7).toNatClampNeg)), .int x1]) cx hI (c_Mo_has  hq25) mt_yX8_has ms_yX8_has w_275 (by omega) rfl hl.1 rfl (Nat.le_of_ble_eq_true rfl) dX8_word_131 (fun H locs hI => ?_)
  refine lv_if_eq (tgt := 141) hx hb dX8_word_134 (by decide) (fun c26 => ?_) (fun c26 => ?_)
  · have h := it_p h c26
    refine lv_iconst (v := (nI 0)) hx hb dX8_word_141 (by decide) ?_
    exact t_Mo_word_142 N hc cx hret hk44 S x1 x2 x3 x4 v23 x7 (nI 0) x6 h hI (lv_sub hl [1, 2, 3, 4, 5, 0, 7] rfl)
  · have h := it_n h c26
    refine lv_iconst (v := (nI 1)) hx hb dX8_word_137 (by decide) ?_
    refine lv_goto (tgt := 142) hx hb dX8_word_138 (by decide) ?_
    exact t_Mo_word_142 N hc cx hret hk44 S x1 x2 x3 x4 v23 x7 (nI 1) x6 h hI (lv_sub hl [1, 2, 3, 4, 5, 0, 7] rfl)
def f_Mo_word_91 (N : Nat) (k44 : zOb → Int32 → Int32 → Int32 → Int32 → Int32 → Int32 → Int32 → Option (Int32 × zOb)) (S : zOb) (x1 : Int32) (x2 : Int32) (x3 : Int32) (x5 : Int32) (x6 : Int32) (x7 : Int32) (s0 : Int32) (s1 : Int32) : Option (Int32 × zOb) :=
  bnd (s1 + s0) (fun v19 => if zin x7 7 then (f_Mo_has (S.1 18 x7.toNatClampNeg) x1).bind (fun q21 => (if q21 = nI 0 then f_Mo_word_115 N k44 S x1 x2 x3 v19 x6 x7 (nI 0) x5 else f_Mo_word_115 N k44 S x1 x2 x3 v19 x6 x7 (nI 1) x5)) else none)
set_option maxHeartbeats 4000000 in
set_option maxRecDepth 100000 in
theorem t_Mo_word_91 (N : Nat) {p : Program} {l : Launch} {e : Env} {s : State} {m : MethodId} {args : Array Value} {below : List Frame} {meth : Method} {c : Code} {Q : State → Prop} {G : zG} {μ : zM} {o : Nat} (hc : o = 29) {out : (Int32 × zOb)} (cx : zCX p (zrm 3) s m args c RX8 cX8_word 8 3 G) (hret : zRi p l e (zrm 3) s m args below meth c cX8_word G .int Q out.1 (zset μ o out.2)) {k44 : zOb → Int32 → Int32 → Int32 → Int32 → Int32 → Int32 → Int32 → Option (Int32 × zOb)} (hk44 : ∀ (S : zOb) (x1 : Int32) (x2 : Int32) (x3 : Int32) (x4 : Int32) (x5 : Int32) (x6 : Int32) (x7 : Int32), k44 S x1 x2 x3 x4 x5 x6 x7 = some out → ∀ {H : Heap} {locs : List Loc} {ls : Array Slot}, zIW G s (zset μ o S) H locs → lv_has ls 8 [(0, .ref (G.2.2.1 o 0)), (1, .int x1), (2, .int x2), (3, .int x3), (4, .int x4), (5, .int x5), (6, .int x6), (7, .int x7)] → W p l e (zrm 3) s m args below meth c H locs 0 0 Q (F0 m 44 ls [])) : ∀ (S : zOb) (x1 : Int32) (x2 : Int32) (x3 : Int32) (x5 : Int32) (x6 : Int32) (x7 : Int32) (s0 : Int32) (s1 : Int32), f_Mo_word_91 N k44 S x1 x2 x3 x5 x6 x7 s0 s1 = some out → ∀ {H : Heap} {locs : List Loc} {ls : Array Slot}, zIW G s (zset μ o S) H locs → lv_has ls 8 [(0, .ref (G.2.2.1 o 0)), (1, .int x1), (2, .int x2), (3, .int x3), (5, .int x5), (6, .int x6), (7, .int x7)] → W p l e (zrm 3) s m args below meth c H locs 0 0 Q (F0 m 91 ls [.int s0, .int s1]) := by
  obtain ⟨hx, hb, hml, hown, hts, hK, hR⟩ := id cx
  intro S x1 x2 x3 x5 x6 x7 s0 s1  h H locs ls hI hl
  unfold f_Mo_word_91 at h
  refine lv_iadd hx hb dX8_word_91 ?_
  refine lv_topi (fun v19 ev19 => ?_)
  have h := bnd_el h ev19
  refine lv_istore (lv' := [(4, .int v19), (0, .ref (G.2.2.1 o 0)), (1, .int x1), (2, .int x2), (3, .int x3), (5, .int x5), (6, .int x6), (7, .int x7)]) hx hb dX8_word_92 hl (by decide) rfl (fun ls hl => ?_)
  refine lv_iload hx hb dX8_word_94 (lv_at hl 5 rfl) ?_
  refine lv_aload_n hx hb dX8_word_96 rfl (lv_at hl 1 rfl) ?_
  refine g8_17 cx hI hc (zset_s _ _ _) w_123 dX8_word_97 ?_
  refine lv_iload hx hb dX8_word_100 (lv_at hl 7 rfl) ?_
  obtain ⟨g20, h⟩ := gd_el h
  refine zr_iald cx hI (k8_18 hc) (zset_s _ _ _) (z8_18 hc) rfl g20 dX8_word_102 ?_
  refine lv_iload_n hx hb dX8_word_103 rfl (lv_at hl 2 rfl) ?_
  obtain ⟨q21, hq21, h⟩ := bi_el h
  refine zcSi (As := [.int (S.1 18 x7.toNatClampNeg), .int x1]) cx hI (c_Mo_has  hq21) mt_yX8_has ms_yX8_has w_275 (by omega) rfl hl.1 rfl (Nat.le_of_ble_eq_true rfl) dX8_word_104 (fun H locs hI => ?_)
  refine lv_if_eq (tgt := 114) hx hb dX8_word_107 (by decide) (fun c22 => ?_) (fun c22 => ?_)
  · have h := it_p h c22
    refine lv_iconst (v := (nI 0)) hx hb dX8_word_114 (by decide) ?_
    exact t_Mo_word_115 N hc cx hret hk44 S x1 x2 x3 v19 x6 x7 (nI 0) x5 h hI (lv_sub hl [1, 2, 3, 4, 0, 6, 7] rfl)
  · have h := it_n h c22
    refine lv_iconst (v := (nI 1)) hx hb dX8_word_110 (by decide) ?_
    refine lv_goto (tgt := 115) hx hb dX8_word_111 (by decide) ?_
    exact t_Mo_word_115 N hc cx hret hk44 S x1 x2 x3 v19 x6 x7 (nI 1) x5 h hI (lv_sub hl [1, 2, 3, 4, 0, 6, 7] rfl)
def f_Mo_word_69 (N : Nat) (k44 : zOb → Int32 → Int32 → Int32 → Int32 → Int32 → Int32 → Int32 → Option (Int32 × zOb)) (S : zOb) (x1 : Int32) (x2 : Int32) (x4 : Int32) (x5 : Int32) (x6 : Int32) (x7 : Int32) (s0 : Int32) : Option (Int32 × zOb) :=
  if zin x7 7 then (f_Mo_has (S.1 16 x7.toNatClampNeg) x1).bind (fun q17 => (if q17 = nI 0 then f_Mo_word_91 N k44 S x1 x2 s0 x5 x6 x7 (nI 0) x4 else f_Mo_word_91 N k44 S x1 x2 s0 x5 x6 x7 (nI 1) x4)) else none
set_option maxHeartbeats 4000000 in
set_option maxRecDepth 100000 in
theorem t_Mo_word_69 (N : Nat) {p : Program} {l : Launch} {e : Env} {s : State} {m : MethodId} {args : Array Value} {below : List Frame} {meth : Method} {c : Code} {Q : State → Prop} {G : zG} {μ : zM} {o : Nat} (hc : o = 29) {out : (Int32 × zOb)} (cx : zCX p (zrm 3) s m args c RX8 cX8_word 8 3 G) (hret : zRi p l e (zrm 3) s m args below meth c cX8_word G .int Q out.1 (zset μ o out.2)) {k44 : zOb → Int32 → Int32 → Int32 → Int32 → Int32 → Int32 → Int32 → Option (Int32 × zOb)} (hk44 : ∀ (S : zOb) (x1 : Int32) (x2 : Int32) (x3 : Int32) (x4 : Int32) (x5 : Int32) (x6 : Int32) (x7 : Int32), k44 S x1 x2 x3 x4 x5 x6 x7 = some out → ∀ {H : Heap} {locs : List Loc} {ls : Array Slot}, zIW G s (zset μ o S) H locs → lv_has ls 8 [(0, .ref (G.2.2.1 o 0)), (1, .int x1), (2, .int x2), (3, .int x3), (4, .int x4), (5, .int x5), (6, .int x6), (7, .int x7)] → W p l e (zrm 3) s m args below meth c H locs 0 0 Q (F0 m 44 ls [])) : ∀ (S : zOb) (x1 : Int32) (x2 : Int32) (x4 : Int32) (x5 : Int32) (x6 : Int32) (x7 : Int32) (s0 : Int32), f_Mo_word_69 N k44 S x1 x2 x4 x5 x6 x7 s0 = some out → ∀ {H : Heap} {locs : List Loc} {ls : Array Slot}, zIW G s (zset μ o S) H locs → lv_has ls 8 [(0, .ref (G.2.2.1 o 0)), (1, .int x1), (2, .int x2), (4, .int x4), (5, .int x5), (6, .int x6), (7, .int x7)] → W p l e (zrm 3) s m args below meth c H locs 0 0 Q (F0 m 69 ls [.int s0]) := by
  obtain ⟨hx, hb, hml, hown, hts, hK, hR⟩ := id cx
  intro S x1 x2 x4 x5 x6 x7 s0  h H locs ls hI hl
  unfold f_Mo_word_69 at h
  refine lv_istore_n (lv' := [(3, .int s0), (0, .ref (G.2.2.1 o 0)), (1, .int x1), (2, .int x2), (4, .int x4), (5, .int x5), (6, .int x6), (7, .int x7)]) hx hb dX8_word_69 rfl hl (by decide) rfl (fun ls hl => ?_)
  refine lv_iload hx hb dX8_word_70 (lv_at hl 4 rfl) ?_
  refine lv_aload_n hx hb dX8_word_72 rfl (lv_at hl 1 rfl) ?_
  refine g8_15 cx hI hc (zset_s _ _ _) w_121 dX8_word_73 ?_
  refine lv_iload hx hb dX8_word_76 (lv_at hl 7 rfl) ?_
  obtain ⟨g16, h⟩ := gd_el h
  refine zr_iald cx hI (k8_16 hc) (zset_s _ _ _) (z8_16 hc) rfl g16 dX8_word_78 ?_
  refine lv_iload_n hx hb dX8_word_79 rfl (lv_at hl 2 rfl) ?_
  obtain ⟨q17, hq17, h⟩ := bi_el h
  refine zcSi (As := [.int (S.1 16 x7.toNatClampNeg), .int x1]) cx hI (c_Mo_has  hq17) mt_yX8_has ms_yX8_has w_275 (by omega) rfl hl.1 rfl (Nat.le_of_ble_eq_true rfl) dX8_word_80 (fun H locs hI => ?_)
  refine lv_if_eq (tgt := 90) hx hb dX8_word_83 (by decide) (fun c18 => ?_) (fun c18 => ?_)
  · have h := it_p h c18
    refine lv_iconst (v := (nI 0)) hx hb dX8_word_90 (by decide) ?_
    exact t_Mo_word_91 N hc cx hret hk44 S x1 x2 s0 x5 x6 x7 (nI 0) x4 h hI (lv_sub hl [1, 2, 3, 0, 5, 6, 7] rfl)
  · have h := it_n h c18
    refine lv_iconst (v := (nI 1)) hx hb dX8_word_86 (by decide) ?_
    refine lv_goto (tgt := 91) hx hb dX8_word_87 (by decide) ?_
    exact t_Mo_word_91 N hc cx hret hk44 S x1 x2 s0 x5 x6 x7 (nI 1) x4 h hI (lv_sub hl [1, 2, 3, 0, 5, 6, 7] rfl)
def f_Mo_word_44 (N : Nat)  : Nat → zOb → Int32 → Int32 → Int32 → Int32 → Int32 → Int32 → Int32 → Option (Int32 × zOb)
  | 0, _, _, _, _, _, _, _, _ => none
  | n + 1, S, x1, x2, x3, x4, x5, x6, x7 => (if x7 < nI 0 then (if x2 = (nI 0) then some (x3, S) else if x2 = (nI 1) then if zin x1 20 then some (S.1 14 x1.toNatClampNeg, S) else none else if x2 = (nI 2) then some (x4, S) else if x2 = (nI 3) then some (x5, S) else if x2 = (nI 4) then some (x6, S) else some ((-1 : Int32), S)) else if zin x7 7 then (f_Mo_has (S.1 16 x7.toNatClampNeg) x1).bind (fun q14 => (if q14 = nI 0 then f_Mo_word_69 N (f_Mo_word_44 N n) S x1 x2 x4 x5 x6 x7 x3 else f_Mo_word_69 N (f_Mo_word_44 N n) S x1 x2 x4 x5 x6 x7 x7)) else none)
set_option maxHeartbeats 4000000 in
set_option maxRecDepth 100000 in
theorem t_Mo_word_44 (N : Nat) {p : Program} {l : Launch} {e : Env} {s : State} {m : MethodId} {args : Array Value} {below : List Frame} {meth : Method} {c : Code} {Q : State → Prop} {G : zG} {μ : zM} {o : Nat} (hc : o = 29) {out : (Int32 × zOb)} (cx : zCX p (zrm 3) s m args c RX8 cX8_word 8 3 G) (hret : zRi p l e (zrm 3) s m args below meth c cX8_word G .int Q out.1 (zset μ o out.2))   : ∀ (n : Nat) (S : zOb) (x1 : Int32) (x2 : Int32) (x3 : Int32) (x4 : Int32) (x5 : Int32) (x6 : Int32) (x7 : Int32), f_Mo_word_44 N n S x1 x2 x3 x4 x5 x6 x7 = some out → ∀ {H : Heap} {locs : List Loc} {ls : Array Slot}, zIW G s (zset μ o S) H locs → lv_has ls 8 [(0, .ref (G.2.2.1 o 0)), (1, .int x1), (2, .int x2), (3, .int x3), (4, .int x4), (5, .int x5), (6, .int x6), (7, .int x7)] → W p l e (zrm 3) s m args below meth c H locs 0 0 Q (F0 m 44 ls []) := by
  obtain ⟨hx, hb, hml, hown, hts, hK, hR⟩ := id cx
  intro n
  induction n with
  | zero =>
    intro S x1 x2 x3 x4 x5 x6 x7  h
    cases h
  | succ n ih =>
    intro S x1 x2 x3 x4 x5 x6 x7  h H locs ls hI hl
    rw [f_Mo_word_44] at h
    refine lv_iload hx hb dX8_word_44 (lv_at hl 7 rfl) ?_
    refine lv_if_lt (tgt := 151) hx hb dX8_word_46 (by decide) (fun c6 => ?_) (fun c6 => ?_)
    · have h := it_p h c6
      refine lv_iload_n hx hb dX8_word_151 rfl (lv_at hl 2 rfl) ?_
      by_cases c7 : x2 = (nI 0)
      · have h := it_p h c7
        refine lv_tableIn (off := 36) (tgt := 188) hx hb dX8_word_152 (by rw [c7]; decide) (by rw [c7]; decide) (by rw [c7]; rfl) (by decide) ?_
        refine lv_iload_n hx hb dX8_word_188 rfl (lv_at hl 3 rfl) ?_
        obtain rfl := Option.some.inj h
        exact hret _ _ _ _ dX8_word_189 rfl hI
      · have h := it_n h c7
        by_cases c8 : x2 = (nI 1)
        · have h := it_p h c8
          refine lv_tableIn (off := 38) (tgt := 190) hx hb dX8_word_152 (by rw [c8]; decide) (by rw [c8]; decide) (by rw [c8]; rfl) (by decide) ?_
          refine lv_aload_n hx hb dX8_word_190 rfl (lv_at hl 0 rfl) ?_
          refine g8_13 cx hI hc (zset_s _ _ _) w_119 dX8_word_191 ?_
          refine lv_iload_n hx hb dX8_word_194 rfl (lv_at hl 1 rfl) ?_
          obtain ⟨g9, h⟩ := gd_el h
          refine zr_iald cx hI (k8_14 hc) (zset_s _ _ _) (z8_14 hc) rfl g9 dX8_word_195 ?_
          obtain rfl := Option.some.inj h
          exact hret _ _ _ _ dX8_word_196 rfl hI
        · have h := it_n h c8
          by_cases c10 : x2 = (nI 2)
          · have h := it_p h c10
            refine lv_tableIn (off := 45) (tgt := 197) hx hb dX8_word_152 (by rw [c10]; decide) (by rw [c10]; decide) (by rw [c10]; rfl) (by decide) ?_
            refine lv_iload hx hb dX8_word_197 (lv_at hl 4 rfl) ?_
            obtain rfl := Option.some.inj h
            exact hret _ _ _ _ dX8_word_199 rfl hI
          · have h := it_n h c10
            by_cases c11 : x2 = (nI 3)
            · have h := it_p h c11
              refine lv_tableIn (off := 48) (tgt := 200) hx hb dX8_word_152 (by rw [c11]; decide) (by rw [c11]; decide) (by rw [c11]; rfl) (by decide) ?_
              refine lv_iload hx hb dX8_word_200 (lv_at hl 5 rfl) ?_
              obtain rfl := Option.some.inj h
              exact hret _ _ _ _ dX8_word_202 rfl hI
            · have h := it_n h c11
              by_cases c12 : x2 = (nI 4)
              · have h := it_p h c12
                refine lv_tableIn (off := 51) (tgt := 203) hx hb dX8_word_152 (by rw [c12]; decide) (by rw [c12]; decide) (by rw [c12]; rfl) (by decide) ?_
                refine lv_iload hx hb dX8_word_203 (lv_at hl 6 rfl) ?_
                obtain rfl := Option.some.inj h
                exact hret _ _ _ _ dX8_word_205 rfl hI
              · have h := it_n h c12
                refine lv_tableOut (tgt := 206) hx hb dX8_word_152 (by have tc7 := tn c7 (i := 0) rfl; have tc8 := tn c8 (i := 1) rfl; have tc10 := tn c10 (i := 2) rfl; have tc11 := tn c11 (i := 3) rfl; have tc12 := tn c12 (i := 4) rfl; omega) (by decide) ?_
                refine lv_iconst (v := (-1 : Int32)) hx hb dX8_word_206 (by decide) ?_
                obtain rfl := Option.some.inj h
                exact hret _ _ _ _ dX8_word_207 rfl hI
    · have h := it_n h c6
      refine lv_aload_n hx hb dX8_word_49 rfl (lv_at hl 0 rfl) ?_
      refine g8_15 cx hI hc (zset_s _ _ _) w_121 dX8_word_50 ?_
      refine lv_iload hx hb dX8_word_53 (lv_at hl 7 rfl) ?_
      obtain ⟨g13, h⟩ := gd_el h
      refine zr_iald cx hI (k8_16 hc) (zset_s _ _ _) (z8_16 hc) rfl g13 dX8_word_55 ?_
      refine lv_iload_n hx hb dX8_word_56 rfl (lv_at hl 1 rfl) ?_
      obtain ⟨q14, hq14, h⟩ := bi_el h
      refine zcSi (As := [.int (S.1 16 x7.toNatClampNeg), .int x1]) cx hI (c_Mo_has  hq14) mt_yX8_has ms_yX8_has w_275 (by omega) rfl hl.1 rfl (Nat.le_of_ble_eq_true rfl) dX8_word_57 (fun H locs hI => ?_)
      refine lv_if_eq (tgt := 68) hx hb dX8_word_60 (by decide) (fun c15 => ?_) (fun c15 => ?_)
      · have h := it_p h c15
        refine lv_iload_n hx hb dX8_word_68 rfl (lv_at hl 3 rfl) ?_
        exact t_Mo_word_69 N hc cx hret ih S x1 x2 x4 x5 x6 x7 x3 h hI (lv_sub hl [0, 1, 2, 4, 5, 6, 7] rfl)
      · have h := it_n h c15
        refine lv_iload hx hb dX8_word_63 (lv_at hl 7 rfl) ?_
        refine lv_goto (tgt := 69) hx hb dX8_word_65 (by decide) ?_
        exact t_Mo_word_69 N hc cx hret ih S x1 x2 x4 x5 x6 x7 x7 h hI (lv_sub hl [0, 1, 2, 4, 5, 6, 7] rfl)
def f_Mo_word (N : Nat) (S : zOb) (a1 : Int32) (a2 : Int32) : Option (Int32 × zOb) :=
  (f_Mo_in a1.toInt64 (0 : Int64) (19 : Int64)).bind (fun q1 => (if q1 = nI 0 then some ((-1 : Int32), S) else (f_Mo_takesOrder N S).bind (fun q3 => (f_Mo_readsOrder N q3).bind (fun q4 => bnd ((q4.1 1 0) - (nI 1)) (fun v5 => f_Mo_word_44 N N q4 a1 a2 (-4 : Int32) (nI 0) (nI 0) (nI 0) v5)))))
set_option maxHeartbeats 4000000 in
set_option maxRecDepth 100000 in
theorem c_Mo_word (N : Nat) {l : Launch} {G : zG} {μ : zM} {o : Nat} (hc : o = 29) {S : zOb} (hS : μ o = S) {a1 : Int32} {a2 : Int32} {out : (Int32 × zOb)} (h : f_Mo_word N S a1 a2 = some out) {μ' : zM} (hμ : zset μ o out.2 = μ') : zMI l G yX8_word cX8_word 8 (some .int) 3 [.ref (G.2.2.1 o 0), .int a1, .int a2] μ out.1 μ' := by
  subst hμ
  refine zMI.of (by decide) (Nat.le_of_ble_eq_true rfl) (fun p e s m args below meth c Q ls cx hI hl hret => ?_)
  obtain ⟨hx, hb, hml, hown, hts, hK, hR⟩ := id cx
  have hl : lv_has ls 8 [(0, .ref (G.2.2.1 o 0)), (1, .int a1), (2, .int a2)] := hl
  rw [← zset_idS hS] at hI
  unfold f_Mo_word at h
  refine lv_iload_n hx hb dX8_word_0 rfl (lv_at hl 1 rfl) ?_
  refine lv_i2l hx hb dX8_word_1 rfl ?_
  refine lv_lconst (v := (0 : Int64)) hx hb dX8_word_2 (by decide) ?_
  refine lv_ldc2 (v := (19 : Int64)) hx hb hown (hts _ w_580) dX8_word_3 ?_
  obtain ⟨q1, hq1, h⟩ := bi_el h
  refine zcSi (As := [.long a1.toInt64, .long (0 : Int64), .long (19 : Int64)]) cx hI (c_Mo_in  hq1) mt_yX8_in ms_yX8_in w_179 (by omega) rfl hl.1 rfl (Nat.le_of_ble_eq_true rfl) dX8_word_6 (fun H locs hI => ?_)
  refine lv_if_ne (tgt := 14) hx hb dX8_word_9 (by decide) (fun c2 => ?_) (fun c2 => ?_)
  · have h := it_n h c2
    refine lv_aload_n hx hb dX8_word_14 rfl (lv_at hl 0 rfl) ?_
    obtain ⟨q3, hq3, h⟩ := bi_el h
    refine zcVv (As := []) cx hI (c_Mo_takesOrder N hc (zset_s _ _ _) hq3 (zset_ss _ _ _ _)) mt_yX8_takesOrder mv_yX8_takesOrder w_470 (by omega) (k8_0 hc) (zv8 hc) rfl hl.1 rfl (Nat.le_of_ble_eq_true rfl) dX8_word_15 (fun H locs hI => ?_)
    refine lv_aload_n hx hb dX8_word_18 rfl (lv_at hl 0 rfl) ?_
    obtain ⟨q4, hq4, h⟩ := bi_el h
    refine zcVv (As := []) cx hI (c_Mo_readsOrder N hc (zset_s _ _ _) hq4 (zset_ss _ _ _ _)) mt_yX8_readsOrder mv_yX8_readsOrder w_492 (by omega) (k8_0 hc) (zv8 hc) rfl hl.1 rfl (Nat.le_of_ble_eq_true rfl) dX8_word_19 (fun H locs hI => ?_)
    refine lv_bipush (v := (-4 : Int32)) hx hb dX8_word_22 (by decide) ?_
    refine lv_istore_n (lv' := [(3, .int (-4 : Int32)), (0, .ref (G.2.2.1 o 0)), (1, .int a1), (2, .int a2)]) hx hb dX8_word_24 rfl hl (by decide) rfl (fun ls hl => ?_)
    refine lv_iconst (v := (nI 0)) hx hb dX8_word_25 (by decide) ?_
    refine lv_istore (lv' := [(4, .int (nI 0)), (3, .int (-4 : Int32)), (0, .ref (G.2.2.1 o 0)), (1, .int a1), (2, .int a2)]) hx hb dX8_word_26 hl (by decide) rfl (fun ls hl => ?_)
    refine lv_iconst (v := (nI 0)) hx hb dX8_word_28 (by decide) ?_
    refine lv_istore (lv' := [(5, .int (nI 0)), (4, .int (nI 0)), (3, .int (-4 : Int32)), (0, .ref (G.2.2.1 o 0)), (1, .int a1), (2, .int a2)]) hx hb dX8_word_29 hl (by decide) rfl (fun ls hl => ?_)
    refine lv_iconst (v := (nI 0)) hx hb dX8_word_31 (by decide) ?_
    refine lv_istore (lv' := [(6, .int (nI 0)), (5, .int (nI 0)), (4, .int (nI 0)), (3, .int (-4 : Int32)), (0, .ref (G.2.2.1 o 0)), (1, .int a1), (2, .int a2)]) hx hb dX8_word_32 hl (by decide) rfl (fun ls hl => ?_)
    refine lv_aload_n hx hb dX8_word_34 rfl (lv_at hl 4 rfl) ?_
    refine g8_0 cx hI hc (zset_s _ _ _) w_108 dX8_word_35 ?_
    refine lv_iconst (v := (nI 0)) hx hb dX8_word_38 (by decide) ?_
    refine zr_iald cx hI (k8_1 hc) (zset_s _ _ _) (z8_1 hc) rfl (by decide) dX8_word_39 ?_
    refine lv_iconst (v := (nI 1)) hx hb dX8_word_40 (by decide) ?_
    refine lv_isub hx hb dX8_word_41 ?_
    refine lv_topi (fun v5 ev5 => ?_)
    have h := bnd_el h ev5
    refine lv_istore (lv' := [(7, .int v5), (6, .int (nI 0)), (5, .int (nI 0)), (4, .int (nI 0)), (3, .int (-4 : Int32)), (0, .ref (G.2.2.1 o 0)), (1, .int a1), (2, .int a2)]) hx hb dX8_word_42 hl (by decide) rfl (fun ls hl => ?_)
    exact t_Mo_word_44 N hc cx hret N q4 a1 a2 (-4 : Int32) (nI 0) (nI 0) (nI 0) v5 h hI (lv_sub hl [5, 6, 7, 4, 3, 2, 1, 0] rfl)
  · have h := it_p h c2
    refine lv_iconst (v := (-1 : Int32)) hx hb dX8_word_12 (by decide) ?_
    obtain rfl := Option.some.inj h
    exact hret _ _ _ _ dX8_word_13 rfl hI
def f_Mo_aheadOf_38 (N : Nat) (S : zOb) (k4 : Int32 → Int32 → Int32 → Option Int32) (x1 : Int32) (x3 : Int32) (s0 : Int32) (s1 : Int32) : Option Int32 :=
  bnd (s1 ||| s0) (fun v5 => bnd (x3 + (nI 1)) (fun v6 => k4 x1 v5 v6))
set_option maxHeartbeats 4000000 in
set_option maxRecDepth 100000 in
theorem t_Mo_aheadOf_38 (N : Nat) {p : Program} {l : Launch} {e : Env} {s : State} {m : MethodId} {args : Array Value} {below : List Frame} {meth : Method} {c : Code} {Q : State → Prop} {G : zG} {μ : zM} {o : Nat} (hc : o = 29) {S : zOb} (hS : μ o = S) {out : Int32} (cx : zCX p (zrm 1) s m args c RX8 cX8_aheadOf 4 1 G) (hret : zRi p l e (zrm 1) s m args below meth c cX8_aheadOf G .int Q out μ) {k4 : Int32 → Int32 → Int32 → Option Int32} (hk4 : ∀ (x1 : Int32) (x2 : Int32) (x3 : Int32), k4 x1 x2 x3 = some out → ∀ {H : Heap} {locs : List Loc} {ls : Array Slot}, zIW G s μ H locs → lv_has ls 4 [(0, .ref (G.2.2.1 o 0)), (1, .int x1), (2, .int x2), (3, .int x3)] → W p l e (zrm 1) s m args below meth c H locs 0 0 Q (F0 m 4 ls [])) : ∀ (x1 : Int32) (x3 : Int32) (s0 : Int32) (s1 : Int32), f_Mo_aheadOf_38 N S k4 x1 x3 s0 s1 = some out → ∀ {H : Heap} {locs : List Loc} {ls : Array Slot}, zIW G s μ H locs → lv_has ls 4 [(0, .ref (G.2.2.1 o 0)), (1, .int x1), (3, .int x3)] → W p l e (zrm 1) s m args below meth c H locs 0 0 Q (F0 m 38 ls [.int s0, .int s1]) := by
  obtain ⟨hx, hb, hml, hown, hts, hK, hR⟩ := id cx
  intro x1 x3 s0 s1  h H locs ls hI hl
  unfold f_Mo_aheadOf_38 at h
  refine lv_ior hx hb dX8_aheadOf_38 ?_
  refine lv_topi (fun v5 ev5 => ?_)
  have h := bnd_el h ev5
  refine lv_istore_n (lv' := [(2, .int v5), (0, .ref (G.2.2.1 o 0)), (1, .int x1), (3, .int x3)]) hx hb dX8_aheadOf_39 rfl hl (by decide) rfl (fun ls hl => ?_)
  obtain ⟨v6, ev6⟩ : ∃ z : Int32, z = x3 + (nI 1) := ⟨_, rfl⟩
  have h := bnd_el h ev6
  refine lv_iinc (v := v6) (lv' := [(3, .int v6), (2, .int v5), (0, .ref (G.2.2.1 o 0)), (1, .int x1)]) hx hb dX8_aheadOf_40 hl (k := 3) rfl (by rw [ev6]; rfl) (by decide) rfl (fun ls hl => ?_)
  refine lv_goto (tgt := 4) hx hb dX8_aheadOf_43 (by decide) ?_
  exact hk4 x1 v5 v6 h hI (lv_sub hl [2, 3, 1, 0] rfl)
def f_Mo_aheadOf_4 (N : Nat) (S : zOb)  : Nat → Int32 → Int32 → Int32 → Option Int32
  | 0, _, _, _ => none
  | n + 1, x1, x2, x3 => (if (S.1 1 0) ≤ x3 then some x2 else if zin ((nI 20) + x3) 27 then (f_Mo_has (S.1 1 (((nI 20) + x3).toNatClampNeg)) x1).bind (fun q3 => (if q3 = nI 0 then f_Mo_aheadOf_38 N S (f_Mo_aheadOf_4 N S n) x1 x3 (nI 0) x2 else f_Mo_aheadOf_38 N S (f_Mo_aheadOf_4 N S n) x1 x3 ((nI 1) <<< (x3 &&& 31)) x2)) else none)
set_option maxHeartbeats 4000000 in
set_option maxRecDepth 100000 in
theorem t_Mo_aheadOf_4 (N : Nat) {p : Program} {l : Launch} {e : Env} {s : State} {m : MethodId} {args : Array Value} {below : List Frame} {meth : Method} {c : Code} {Q : State → Prop} {G : zG} {μ : zM} {o : Nat} (hc : o = 29) {S : zOb} (hS : μ o = S) {out : Int32} (cx : zCX p (zrm 1) s m args c RX8 cX8_aheadOf 4 1 G) (hret : zRi p l e (zrm 1) s m args below meth c cX8_aheadOf G .int Q out μ)   : ∀ (n : Nat) (x1 : Int32) (x2 : Int32) (x3 : Int32), f_Mo_aheadOf_4 N S n x1 x2 x3 = some out → ∀ {H : Heap} {locs : List Loc} {ls : Array Slot}, zIW G s μ H locs → lv_has ls 4 [(0, .ref (G.2.2.1 o 0)), (1, .int x1), (2, .int x2), (3, .int x3)] → W p l e (zrm 1) s m args below meth c H locs 0 0 Q (F0 m 4 ls []) := by
  obtain ⟨hx, hb, hml, hown, hts, hK, hR⟩ := id cx
  intro n
  induction n with
  | zero =>
    intro x1 x2 x3  h
    cases h
  | succ n ih =>
    intro x1 x2 x3  h H locs ls hI hl
    rw [f_Mo_aheadOf_4] at h
    refine lv_iload_n hx hb dX8_aheadOf_4 rfl (lv_at hl 3 rfl) ?_
    refine lv_aload_n hx hb dX8_aheadOf_5 rfl (lv_at hl 0 rfl) ?_
    refine g8_0 cx hI hc hS w_108 dX8_aheadOf_6 ?_
    refine lv_iconst (v := (nI 0)) hx hb dX8_aheadOf_9 (by decide) ?_
    refine zr_iald cx hI (k8_1 hc) hS (z8_1 hc) rfl (by decide) dX8_aheadOf_10 ?_
    refine lv_icmp_ge (tgt := 46) hx hb dX8_aheadOf_11 (by decide) (fun c1 => ?_) (fun c1 => ?_)
    · have h := it_p h c1
      refine lv_iload_n hx hb dX8_aheadOf_46 rfl (lv_at hl 2 rfl) ?_
      obtain rfl := Option.some.inj h
      exact hret _ _ _ _ dX8_aheadOf_47 rfl hI
    · have h := it_n h c1
      refine lv_iload_n hx hb dX8_aheadOf_14 rfl (lv_at hl 2 rfl) ?_
      refine lv_aload_n hx hb dX8_aheadOf_15 rfl (lv_at hl 0 rfl) ?_
      refine g8_0 cx hI hc hS w_108 dX8_aheadOf_16 ?_
      refine lv_bipush (v := (nI 20)) hx hb dX8_aheadOf_19 (by decide) ?_
      refine lv_iload_n hx hb dX8_aheadOf_21 rfl (lv_at hl 3 rfl) ?_
      refine lv_iadd hx hb dX8_aheadOf_22 ?_
      obtain ⟨g2, h⟩ := gd_el h
      refine zr_iald cx hI (k8_1 hc) hS (z8_1 hc) rfl g2 dX8_aheadOf_23 ?_
      refine lv_iload_n hx hb dX8_aheadOf_24 rfl (lv_at hl 1 rfl) ?_
      obtain ⟨q3, hq3, h⟩ := bi_el h
      refine zcSi (As := [.int (S.1 1 (((nI 20) + x3).toNatClampNeg)), .int x1]) cx hI (c_Mo_has  hq3) mt_yX8_has ms_yX8_has w_275 (by omega) rfl hl.1 rfl (Nat.le_of_ble_eq_true rfl) dX8_aheadOf_25 (fun H locs hI => ?_)
      refine lv_if_eq (tgt := 37) hx hb dX8_aheadOf_28 (by decide) (fun c4 => ?_) (fun c4 => ?_)
      · have h := it_p h c4
        refine lv_iconst (v := (nI 0)) hx hb dX8_aheadOf_37 (by decide) ?_
        exact t_Mo_aheadOf_38 N hc hS cx hret ih x1 x3 (nI 0) x2 h hI (lv_sub hl [0, 1, 3] rfl)
      · have h := it_n h c4
        refine lv_iconst (v := (nI 1)) hx hb dX8_aheadOf_31 (by decide) ?_
        refine lv_iload_n hx hb dX8_aheadOf_32 rfl (lv_at hl 3 rfl) ?_
        refine lv_ishl hx hb dX8_aheadOf_33 ?_
        refine lv_goto (tgt := 38) hx hb dX8_aheadOf_34 (by decide) ?_
        exact t_Mo_aheadOf_38 N hc hS cx hret ih x1 x3 ((nI 1) <<< (x3 &&& 31)) x2 h hI (lv_sub hl [0, 1, 3] rfl)
def f_Mo_aheadOf (N : Nat) (S : zOb) (a1 : Int32) : Option Int32 :=
  f_Mo_aheadOf_4 N S N a1 (nI 0) (nI 0)
set_option maxHeartbeats 4000000 in
set_option maxRecDepth 100000 in
theorem c_Mo_aheadOf (N : Nat) {l : Launch} {G : zG} {μ : zM} {o : Nat} (hc : o = 29) {S : zOb} (hS : μ o = S) {a1 : Int32} {out : Int32} (h : f_Mo_aheadOf N S a1 = some out) : zMI l G yX8_aheadOf cX8_aheadOf 4 (some .int) 1 [.ref (G.2.2.1 o 0), .int a1] μ out μ := by
  refine zMI.of (by decide) (Nat.le_of_ble_eq_true rfl) (fun p e s m args below meth c Q ls cx hI hl hret => ?_)
  obtain ⟨hx, hb, hml, hown, hts, hK, hR⟩ := id cx
  have hl : lv_has ls 4 [(0, .ref (G.2.2.1 o 0)), (1, .int a1)] := hl
  unfold f_Mo_aheadOf at h
  refine lv_iconst (v := (nI 0)) hx hb dX8_aheadOf_0 (by decide) ?_
  refine lv_istore_n (lv' := [(2, .int (nI 0)), (0, .ref (G.2.2.1 o 0)), (1, .int a1)]) hx hb dX8_aheadOf_1 rfl hl (by decide) rfl (fun ls hl => ?_)
  refine lv_iconst (v := (nI 0)) hx hb dX8_aheadOf_2 (by decide) ?_
  refine lv_istore_n (lv' := [(3, .int (nI 0)), (2, .int (nI 0)), (0, .ref (G.2.2.1 o 0)), (1, .int a1)]) hx hb dX8_aheadOf_3 rfl hl (by decide) rfl (fun ls hl => ?_)
  exact t_Mo_aheadOf_4 N hc hS cx hret N a1 (nI 0) (nI 0) h hI (lv_sub hl [2, 3, 1, 0] rfl)
def f_Mo_placeOf_2 (N : Nat) (S : zOb)  : Nat → Int32 → Int32 → Option Int32
  | 0, _, _ => none
  | n + 1, x1, x2 => if zin ((nI 6) + x2) 27 then (if (S.1 1 (((nI 6) + x2).toNatClampNeg)) = x1 then some x2 else bnd (x2 + (nI 1)) (fun v3 => f_Mo_placeOf_2 N S n x1 v3)) else none
set_option maxHeartbeats 4000000 in
set_option maxRecDepth 100000 in
theorem t_Mo_placeOf_2 (N : Nat) {p : Program} {l : Launch} {e : Env} {s : State} {m : MethodId} {args : Array Value} {below : List Frame} {meth : Method} {c : Code} {Q : State → Prop} {G : zG} {μ : zM} {o : Nat} (hc : o = 29) {S : zOb} (hS : μ o = S) {out : Int32} (cx : zCX p (zrm 0) s m args c RX8 cX8_placeOf 3 0 G) (hret : zRi p l e (zrm 0) s m args below meth c cX8_placeOf G .int Q out μ)   : ∀ (n : Nat) (x1 : Int32) (x2 : Int32), f_Mo_placeOf_2 N S n x1 x2 = some out → ∀ {H : Heap} {locs : List Loc} {ls : Array Slot}, zIW G s μ H locs → lv_has ls 3 [(0, .ref (G.2.2.1 o 0)), (1, .int x1), (2, .int x2)] → W p l e (zrm 0) s m args below meth c H locs 0 0 Q (F0 m 2 ls []) := by
  obtain ⟨hx, hb, hml, hown, hts, hK, hR⟩ := id cx
  intro n
  induction n with
  | zero =>
    intro x1 x2  h
    cases h
  | succ n ih =>
    intro x1 x2  h H locs ls hI hl
    rw [f_Mo_placeOf_2] at h
    refine lv_aload_n hx hb dX8_placeOf_2 rfl (lv_at hl 0 rfl) ?_
    refine g8_0 cx hI hc hS w_108 dX8_placeOf_3 ?_
    refine lv_bipush (v := (nI 6)) hx hb dX8_placeOf_6 (by decide) ?_
    refine lv_iload_n hx hb dX8_placeOf_8 rfl (lv_at hl 2 rfl) ?_
    refine lv_iadd hx hb dX8_placeOf_9 ?_
    obtain ⟨g1, h⟩ := gd_el h
    refine zr_iald cx hI (k8_1 hc) hS (z8_1 hc) rfl g1 dX8_placeOf_10 ?_
    refine lv_iload_n hx hb dX8_placeOf_11 rfl (lv_at hl 1 rfl) ?_
    refine lv_icmp_eq (tgt := 21) hx hb dX8_placeOf_12 (by decide) (fun c2 => ?_) (fun c2 => ?_)
    · have h := it_p h c2
      refine lv_iload_n hx hb dX8_placeOf_21 rfl (lv_at hl 2 rfl) ?_
      obtain rfl := Option.some.inj h
      exact hret _ _ _ _ dX8_placeOf_22 rfl hI
    · have h := it_n h c2
      obtain ⟨v3, ev3⟩ : ∃ z : Int32, z = x2 + (nI 1) := ⟨_, rfl⟩
      have h := bnd_el h ev3
      refine lv_iinc (v := v3) (lv' := [(2, .int v3), (0, .ref (G.2.2.1 o 0)), (1, .int x1)]) hx hb dX8_placeOf_15 hl (k := 2) rfl (by rw [ev3]; rfl) (by decide) rfl (fun ls hl => ?_)
      refine lv_goto (tgt := 2) hx hb dX8_placeOf_18 (by decide) ?_
      exact ih x1 v3 h hI (lv_sub hl [1, 2, 0] rfl)
def f_Mo_placeOf (N : Nat) (S : zOb) (a1 : Int32) : Option Int32 :=
  f_Mo_placeOf_2 N S N a1 (nI 0)
set_option maxHeartbeats 4000000 in
set_option maxRecDepth 100000 in
theorem c_Mo_placeOf (N : Nat) {l : Launch} {G : zG} {μ : zM} {o : Nat} (hc : o = 29) {S : zOb} (hS : μ o = S) {a1 : Int32} {out : Int32} (h : f_Mo_placeOf N S a1 = some out) : zMI l G yX8_placeOf cX8_placeOf 3 (some .int) 0 [.ref (G.2.2.1 o 0), .int a1] μ out μ := by
  refine zMI.of (by decide) (Nat.le_of_ble_eq_true rfl) (fun p e s m args below meth c Q ls cx hI hl hret => ?_)
  obtain ⟨hx, hb, hml, hown, hts, hK, hR⟩ := id cx
  have hl : lv_has ls 3 [(0, .ref (G.2.2.1 o 0)), (1, .int a1)] := hl
  unfold f_Mo_placeOf at h
  refine lv_iconst (v := (nI 0)) hx hb dX8_placeOf_0 (by decide) ?_
  refine lv_istore_n (lv' := [(2, .int (nI 0)), (0, .ref (G.2.2.1 o 0)), (1, .int a1)]) hx hb dX8_placeOf_1 rfl hl (by decide) rfl (fun ls hl => ?_)
  exact t_Mo_placeOf_2 N hc hS cx hret N a1 (nI 0) h hI (lv_sub hl [1, 2, 0] rfl)
def f_Mo_told (N : Nat) (S : zOb) (a1 : Int32) (a2 : Int32) : Option Int32 :=
  (f_Mo_isBook S a1).bind (fun q1 => (if q1 = nI 0 then some (-1 : Int32) else (if a2 = (nI 0) then if zin ((nI 13) + a1) 27 then some (S.1 1 (((nI 13) + a1).toNatClampNeg)) else none else if a2 = (nI 1) then if zin ((nI 20) + a1) 27 then some (S.1 1 (((nI 20) + a1).toNatClampNeg)) else none else if a2 = (nI 2) then (f_Mo_aheadOf N S a1).bind (fun q8 => some q8) else if a2 = (nI 3) then (f_Mo_placeOf N S a1).bind (fun q10 => some q10) else some (-1 : Int32))))
set_option maxHeartbeats 4000000 in
set_option maxRecDepth 100000 in
theorem c_Mo_told (N : Nat) {l : Launch} {G : zG} {μ : zM} {o : Nat} (hc : o = 29) {S : zOb} (hS : μ o = S) {a1 : Int32} {a2 : Int32} {out : Int32} (h : f_Mo_told N S a1 a2 = some out) : zMI l G yX8_told cX8_told 3 (some .int) 2 [.ref (G.2.2.1 o 0), .int a1, .int a2] μ out μ := by
  refine zMI.of (by decide) (Nat.le_of_ble_eq_true rfl) (fun p e s m args below meth c Q ls cx hI hl hret => ?_)
  obtain ⟨hx, hb, hml, hown, hts, hK, hR⟩ := id cx
  have hl : lv_has ls 3 [(0, .ref (G.2.2.1 o 0)), (1, .int a1), (2, .int a2)] := hl
  unfold f_Mo_told at h
  refine lv_aload_n hx hb dX8_told_0 rfl (lv_at hl 0 rfl) ?_
  refine lv_iload_n hx hb dX8_told_1 rfl (lv_at hl 1 rfl) ?_
  obtain ⟨q1, hq1, h⟩ := bi_el h
  refine zcVi (As := [.int a1]) cx hI (c_Mo_isBook hc hS hq1) mt_yX8_isBook mv_yX8_isBook w_211 (by omega) (k8_0 hc) (zv8 hc) rfl hl.1 rfl (Nat.le_of_ble_eq_true rfl) dX8_told_2 (fun H locs hI => ?_)
  refine lv_if_ne (tgt := 10) hx hb dX8_told_5 (by decide) (fun c2 => ?_) (fun c2 => ?_)
  · have h := it_n h c2
    refine lv_iload_n hx hb dX8_told_10 rfl (lv_at hl 2 rfl) ?_
    by_cases c3 : a2 = (nI 0)
    · have h := it_p h c3
      refine lv_tableIn (off := 29) (tgt := 40) hx hb dX8_told_11 (by rw [c3]; decide) (by rw [c3]; decide) (by rw [c3]; rfl) (by decide) ?_
      refine lv_aload_n hx hb dX8_told_40 rfl (lv_at hl 0 rfl) ?_
      refine g8_0 cx hI hc hS w_108 dX8_told_41 ?_
      refine lv_bipush (v := (nI 13)) hx hb dX8_told_44 (by decide) ?_
      refine lv_iload_n hx hb dX8_told_46 rfl (lv_at hl 1 rfl) ?_
      refine lv_iadd hx hb dX8_told_47 ?_
      obtain ⟨g4, h⟩ := gd_el h
      refine zr_iald cx hI (k8_1 hc) hS (z8_1 hc) rfl g4 dX8_told_48 ?_
      obtain rfl := Option.some.inj h
      exact hret _ _ _ _ dX8_told_49 rfl hI
    · have h := it_n h c3
      by_cases c5 : a2 = (nI 1)
      · have h := it_p h c5
        refine lv_tableIn (off := 39) (tgt := 50) hx hb dX8_told_11 (by rw [c5]; decide) (by rw [c5]; decide) (by rw [c5]; rfl) (by decide) ?_
        refine lv_aload_n hx hb dX8_told_50 rfl (lv_at hl 0 rfl) ?_
        refine g8_0 cx hI hc hS w_108 dX8_told_51 ?_
        refine lv_bipush (v := (nI 20)) hx hb dX8_told_54 (by decide) ?_
        refine lv_iload_n hx hb dX8_told_56 rfl (lv_at hl 1 rfl) ?_
        refine lv_iadd hx hb dX8_told_57 ?_
        obtain ⟨g6, h⟩ := gd_el h
        refine zr_iald cx hI (k8_1 hc) hS (z8_1 hc) rfl g6 dX8_told_58 ?_
        obtain rfl := Option.some.inj h
        exact hret _ _ _ _ dX8_told_59 rfl hI
      · have h := it_n h c5
        by_cases c7 : a2 = (nI 2)
        · have h := it_p h c7
          refine lv_tableIn (off := 49) (tgt := 60) hx hb dX8_told_11 (by rw [c7]; decide) (by rw [c7]; decide) (by rw [c7]; rfl) (by decide) ?_
          refine lv_aload_n hx hb dX8_told_60 rfl (lv_at hl 0 rfl) ?_
          refine lv_iload_n hx hb dX8_told_61 rfl (lv_at hl 1 rfl) ?_
          obtain ⟨q8, hq8, h⟩ := bi_el h
          refine zcVi (As := [.int a1]) cx hI (c_Mo_aheadOf N hc hS hq8) mt_yX8_aheadOf mv_yX8_aheadOf w_531 (by omega) (k8_0 hc) (zv8 hc) rfl hl.1 rfl (Nat.le_of_ble_eq_true rfl) dX8_told_62 (fun H locs hI => ?_)
          obtain rfl := Option.some.inj h
          exact hret _ _ _ _ dX8_told_65 rfl hI
        · have h := it_n h c7
          by_cases c9 : a2 = (nI 3)
          · have h := it_p h c9
            refine lv_tableIn (off := 55) (tgt := 66) hx hb dX8_told_11 (by rw [c9]; decide) (by rw [c9]; decide) (by rw [c9]; rfl) (by decide) ?_
            refine lv_aload_n hx hb dX8_told_66 rfl (lv_at hl 0 rfl) ?_
            refine lv_iload_n hx hb dX8_told_67 rfl (lv_at hl 1 rfl) ?_
            obtain ⟨q10, hq10, h⟩ := bi_el h
            refine zcVi (As := [.int a1]) cx hI (c_Mo_placeOf N hc hS hq10) mt_yX8_placeOf mv_yX8_placeOf w_246 (by omega) (k8_0 hc) (zv8 hc) rfl hl.1 rfl (Nat.le_of_ble_eq_true rfl) dX8_told_68 (fun H locs hI => ?_)
            obtain rfl := Option.some.inj h
            exact hret _ _ _ _ dX8_told_71 rfl hI
          · have h := it_n h c9
            refine lv_tableOut (tgt := 72) hx hb dX8_told_11 (by have tc3 := tn c3 (i := 0) rfl; have tc5 := tn c5 (i := 1) rfl; have tc7 := tn c7 (i := 2) rfl; have tc9 := tn c9 (i := 3) rfl; omega) (by decide) ?_
            refine lv_iconst (v := (-1 : Int32)) hx hb dX8_told_72 (by decide) ?_
            obtain rfl := Option.some.inj h
            exact hret _ _ _ _ dX8_told_73 rfl hI
  · have h := it_p h c2
    refine lv_iconst (v := (-1 : Int32)) hx hb dX8_told_8 (by decide) ?_
    obtain rfl := Option.some.inj h
    exact hret _ _ _ _ dX8_told_9 rfl hI
def f_Mo_count_68 (N : Nat)  (S : zOb) (x1 : Int32) : Option (Int32 × zOb) :=
  if zin x1 27 then some (S.1 1 x1.toNatClampNeg, S) else none
set_option maxHeartbeats 4000000 in
set_option maxRecDepth 100000 in
theorem t_Mo_count_68 (N : Nat) {p : Program} {l : Launch} {e : Env} {s : State} {m : MethodId} {args : Array Value} {below : List Frame} {meth : Method} {c : Code} {Q : State → Prop} {G : zG} {μ : zM} {o : Nat} (hc : o = 29) {out : (Int32 × zOb)} (cx : zCX p (zrm 3) s m args c RX8 cX8_count 2 3 G) (hret : zRi p l e (zrm 3) s m args below meth c cX8_count G .int Q out.1 (zset μ o out.2))   : ∀ (S : zOb) (x1 : Int32), f_Mo_count_68 N S x1 = some out → ∀ {H : Heap} {locs : List Loc} {ls : Array Slot}, zIW G s (zset μ o S) H locs → lv_has ls 2 [(0, .ref (G.2.2.1 o 0)), (1, .int x1)] → W p l e (zrm 3) s m args below meth c H locs 0 0 Q (F0 m 68 ls []) := by
  obtain ⟨hx, hb, hml, hown, hts, hK, hR⟩ := id cx
  intro S x1  h H locs ls hI hl
  unfold f_Mo_count_68 at h
  refine lv_aload_n hx hb dX8_count_68 rfl (lv_at hl 0 rfl) ?_
  refine g8_0 cx hI hc (zset_s _ _ _) w_108 dX8_count_69 ?_
  refine lv_iload_n hx hb dX8_count_72 rfl (lv_at hl 1 rfl) ?_
  obtain ⟨g4, h⟩ := gd_el h
  refine zr_iald cx hI (k8_1 hc) (zset_s _ _ _) (z8_1 hc) rfl g4 dX8_count_73 ?_
  obtain rfl := Option.some.inj h
  exact hret _ _ _ _ dX8_count_74 rfl hI
def f_Mo_count_102 (N : Nat)  (S : zOb) (s0 : Int32) : Option (Int32 × zOb) :=
  some (s0, S)
set_option maxHeartbeats 4000000 in
set_option maxRecDepth 100000 in
theorem t_Mo_count_102 (N : Nat) {p : Program} {l : Launch} {e : Env} {s : State} {m : MethodId} {args : Array Value} {below : List Frame} {meth : Method} {c : Code} {Q : State → Prop} {G : zG} {μ : zM} {o : Nat} (hc : o = 29) {out : (Int32 × zOb)} (cx : zCX p (zrm 3) s m args c RX8 cX8_count 2 3 G) (hret : zRi p l e (zrm 3) s m args below meth c cX8_count G .int Q out.1 (zset μ o out.2))   : ∀ (S : zOb) (s0 : Int32), f_Mo_count_102 N S s0 = some out → ∀ {H : Heap} {locs : List Loc} {ls : Array Slot}, zIW G s (zset μ o S) H locs → lv_has ls 2 [] → W p l e (zrm 3) s m args below meth c H locs 0 0 Q (F0 m 102 ls [.int s0]) := by
  obtain ⟨hx, hb, hml, hown, hts, hK, hR⟩ := id cx
  intro S s0  h H locs ls hI hl
  unfold f_Mo_count_102 at h
  obtain rfl := Option.some.inj h
  exact hret _ _ _ _ dX8_count_102 rfl hI
def f_Mo_count_128 (N : Nat)  (S : zOb) (s0 : Int32) : Option (Int32 × zOb) :=
  some (s0, S)
set_option maxHeartbeats 4000000 in
set_option maxRecDepth 100000 in
theorem t_Mo_count_128 (N : Nat) {p : Program} {l : Launch} {e : Env} {s : State} {m : MethodId} {args : Array Value} {below : List Frame} {meth : Method} {c : Code} {Q : State → Prop} {G : zG} {μ : zM} {o : Nat} (hc : o = 29) {out : (Int32 × zOb)} (cx : zCX p (zrm 3) s m args c RX8 cX8_count 2 3 G) (hret : zRi p l e (zrm 3) s m args below meth c cX8_count G .int Q out.1 (zset μ o out.2))   : ∀ (S : zOb) (s0 : Int32), f_Mo_count_128 N S s0 = some out → ∀ {H : Heap} {locs : List Loc} {ls : Array Slot}, zIW G s (zset μ o S) H locs → lv_has ls 2 [] → W p l e (zrm 3) s m args below meth c H locs 0 0 Q (F0 m 128 ls [.int s0]) := by
  obtain ⟨hx, hb, hml, hown, hts, hK, hR⟩ := id cx
  intro S s0  h H locs ls hI hl
  unfold f_Mo_count_128 at h
  obtain rfl := Option.some.inj h
  exact hret _ _ _ _ dX8_count_128 rfl hI
def f_Mo_count_127 (N : Nat)  (S : zOb) : Option (Int32 × zOb) :=
  f_Mo_count_128 N S (nI 0)
set_option maxHeartbeats 4000000 in
set_option maxRecDepth 100000 in
theorem t_Mo_count_127 (N : Nat) {p : Program} {l : Launch} {e : Env} {s : State} {m : MethodId} {args : Array Value} {below : List Frame} {meth : Method} {c : Code} {Q : State → Prop} {G : zG} {μ : zM} {o : Nat} (hc : o = 29) {out : (Int32 × zOb)} (cx : zCX p (zrm 3) s m args c RX8 cX8_count 2 3 G) (hret : zRi p l e (zrm 3) s m args below meth c cX8_count G .int Q out.1 (zset μ o out.2))   : ∀ (S : zOb), f_Mo_count_127 N S = some out → ∀ {H : Heap} {locs : List Loc} {ls : Array Slot}, zIW G s (zset μ o S) H locs → lv_has ls 2 [] → W p l e (zrm 3) s m args below meth c H locs 0 0 Q (F0 m 127 ls []) := by
  obtain ⟨hx, hb, hml, hown, hts, hK, hR⟩ := id cx
  intro S  h H locs ls hI hl
  unfold f_Mo_count_127 at h
  refine lv_iconst (v := (nI 0)) hx hb dX8_count_127 (by decide) ?_
  exact t_Mo_count_128 N hc cx hret S (nI 0) h hI hl
def f_Mo_count (N : Nat) (S : zOb) (a1 : Int32) : Option (Int32 × zOb) :=
  (f_Mo_takesOrder N S).bind (fun q1 => (f_Mo_readsOrder N q1).bind (fun q2 => (if a1 = (nI 0) then f_Mo_count_68 N q2 a1 else if a1 = (nI 1) then f_Mo_count_68 N q2 a1 else if a1 = (nI 2) then f_Mo_count_68 N q2 a1 else if a1 = (nI 3) then f_Mo_count_68 N q2 a1 else if a1 = (nI 4) then f_Mo_count_68 N q2 a1 else if a1 = (nI 5) then (f_Mo_number N q2).bind (fun q10 => some (q10, q2)) else if a1 = (nI 6) then (f_Mo_peak N q2).bind (fun q12 => some (q12, q2)) else if a1 = (nI 7) then (f_Mo_loss N q2).bind (fun q14 => some (q14, q2)) else if a1 = (nI 8) then (f_Mo_isHolding N q2).bind (fun q16 => (if q16 = nI 0 then f_Mo_count_102 N q2 (nI 0) else f_Mo_count_102 N q2 (nI 1))) else if a1 = (nI 9) then (f_Mo_isHolding N q2).bind (fun q19 => (if q19 = nI 0 then f_Mo_count_127 N q2 else (f_Mo_peak N q2).bind (fun q21 => (if (q2.1 1 3) < q21 then f_Mo_count_127 N q2 else f_Mo_count_128 N q2 (nI 1))))) else if a1 = (nI 10) then some (q2.1 0 2, q2) else some ((-1 : Int32), q2))))
set_option maxHeartbeats 4000000 in
set_option maxRecDepth 100000 in
theorem c_Mo_count (N : Nat) {l : Launch} {G : zG} {μ : zM} {o : Nat} (hc : o = 29) {S : zOb} (hS : μ o = S) {a1 : Int32} {out : (Int32 × zOb)} (h : f_Mo_count N S a1 = some out) {μ' : zM} (hμ : zset μ o out.2 = μ') : zMI l G yX8_count cX8_count 2 (some .int) 3 [.ref (G.2.2.1 o 0), .int a1] μ out.1 μ' := by
  subst hμ
  refine zMI.of (by decide) (Nat.le_of_ble_eq_true rfl) (fun p e s m args below meth c Q ls cx hI hl hret => ?_)
  obtain ⟨hx, hb, hml, hown, hts, hK, hR⟩ := id cx
  have hl : lv_has ls 2 [(0, .ref (G.2.2.1 o 0)), (1, .int a1)] := hl
  rw [← zset_idS hS] at hI
  unfold f_Mo_count at h
  refine lv_aload_n hx hb dX8_count_0 rfl (lv_at hl 0 rfl) ?_
  obtain ⟨q1, hq1, h⟩ := bi_el h
  refine zcVv (As := []) cx hI (c_Mo_takesOrder N hc (zset_s _ _ _) hq1 (zset_ss _ _ _ _)) mt_yX8_takesOrder mv_yX8_takesOrder w_470 (by omega) (k8_0 hc) (zv8 hc) rfl hl.1 rfl (Nat.le_of_ble_eq_true rfl) dX8_count_1 (fun H locs hI => ?_)
  refine lv_aload_n hx hb dX8_count_4 rfl (lv_at hl 0 rfl) ?_
  obtain ⟨q2, hq2, h⟩ := bi_el h
  refine zcVv (As := []) cx hI (c_Mo_readsOrder N hc (zset_s _ _ _) hq2 (zset_ss _ _ _ _)) mt_yX8_readsOrder mv_yX8_readsOrder w_492 (by omega) (k8_0 hc) (zv8 hc) rfl hl.1 rfl (Nat.le_of_ble_eq_true rfl) dX8_count_5 (fun H locs hI => ?_)
  refine lv_iload_n hx hb dX8_count_8 rfl (lv_at hl 1 rfl) ?_
  by_cases c3 : a1 = (nI 0)
  · have h := it_p h c3
    refine lv_tableIn (off := 59) (tgt := 68) hx hb dX8_count_9 (by rw [c3]; decide) (by rw [c3]; decide) (by rw [c3]; rfl) (by decide) ?_
    exact t_Mo_count_68 N hc cx hret q2 a1 h hI hl
  · have h := it_n h c3
    by_cases c5 : a1 = (nI 1)
    · have h := it_p h c5
      refine lv_tableIn (off := 59) (tgt := 68) hx hb dX8_count_9 (by rw [c5]; decide) (by rw [c5]; decide) (by rw [c5]; rfl) (by decide) ?_
      exact t_Mo_count_68 N hc cx hret q2 a1 h hI hl
    · have h := it_n h c5
      by_cases c6 : a1 = (nI 2)
      · have h := it_p h c6
        refine lv_tableIn (off := 59) (tgt := 68) hx hb dX8_count_9 (by rw [c6]; decide) (by rw [c6]; decide) (by rw [c6]; rfl) (by decide) ?_
        exact t_Mo_count_68 N hc cx hret q2 a1 h hI hl
      · have h := it_n h c6
        by_cases c7 : a1 = (nI 3)
        · have h := it_p h c7
          refine lv_tableIn (off := 59) (tgt := 68) hx hb dX8_count_9 (by rw [c7]; decide) (by rw [c7]; decide) (by rw [c7]; rfl) (by decide) ?_
          exact t_Mo_count_68 N hc cx hret q2 a1 h hI hl
        · have h := it_n h c7
          by_cases c8 : a1 = (nI 4)
          · have h := it_p h c8
            refine lv_tableIn (off := 59) (tgt := 68) hx hb dX8_count_9 (by rw [c8]; decide) (by rw [c8]; decide) (by rw [c8]; rfl) (by decide) ?_
            exact t_Mo_count_68 N hc cx hret q2 a1 h hI hl
          · have h := it_n h c8
            by_cases c9 : a1 = (nI 5)
            · have h := it_p h c9
              refine lv_tableIn (off := 66) (tgt := 75) hx hb dX8_count_9 (by rw [c9]; decide) (by rw [c9]; decide) (by rw [c9]; rfl) (by decide) ?_
              refine lv_aload_n hx hb dX8_count_75 rfl (lv_at hl 0 rfl) ?_
              obtain ⟨q10, hq10, h⟩ := bi_el h
              refine zcVi (As := []) cx hI (c_Mo_number N hc (zset_s _ _ _) hq10) mt_yX8_number mv_yX8_number w_474 (by omega) (k8_0 hc) (zv8 hc) rfl hl.1 rfl (Nat.le_of_ble_eq_true rfl) dX8_count_76 (fun H locs hI => ?_)
              obtain rfl := Option.some.inj h
              exact hret _ _ _ _ dX8_count_79 rfl hI
            · have h := it_n h c9
              by_cases c11 : a1 = (nI 6)
              · have h := it_p h c11
                refine lv_tableIn (off := 71) (tgt := 80) hx hb dX8_count_9 (by rw [c11]; decide) (by rw [c11]; decide) (by rw [c11]; rfl) (by decide) ?_
                refine lv_aload_n hx hb dX8_count_80 rfl (lv_at hl 0 rfl) ?_
                obtain ⟨q12, hq12, h⟩ := bi_el h
                refine zcVi (As := []) cx hI (c_Mo_peak N hc (zset_s _ _ _) hq12) mt_yX8_peak mv_yX8_peak w_512 (by omega) (k8_0 hc) (zv8 hc) rfl hl.1 rfl (Nat.le_of_ble_eq_true rfl) dX8_count_81 (fun H locs hI => ?_)
                obtain rfl := Option.some.inj h
                exact hret _ _ _ _ dX8_count_84 rfl hI
              · have h := it_n h c11
                by_cases c13 : a1 = (nI 7)
                · have h := it_p h c13
                  refine lv_tableIn (off := 76) (tgt := 85) hx hb dX8_count_9 (by rw [c13]; decide) (by rw [c13]; decide) (by rw [c13]; rfl) (by decide) ?_
                  refine lv_aload_n hx hb dX8_count_85 rfl (lv_at hl 0 rfl) ?_
                  obtain ⟨q14, hq14, h⟩ := bi_el h
                  refine zcVi (As := []) cx hI (c_Mo_loss N hc (zset_s _ _ _) hq14) mt_yX8_loss mv_yX8_loss w_519 (by omega) (k8_0 hc) (zv8 hc) rfl hl.1 rfl (Nat.le_of_ble_eq_true rfl) dX8_count_86 (fun H locs hI => ?_)
                  obtain rfl := Option.some.inj h
                  exact hret _ _ _ _ dX8_count_89 rfl hI
                · have h := it_n h c13
                  by_cases c15 : a1 = (nI 8)
                  · have h := it_p h c15
                    refine lv_tableIn (off := 81) (tgt := 90) hx hb dX8_count_9 (by rw [c15]; decide) (by rw [c15]; decide) (by rw [c15]; rfl) (by decide) ?_
                    refine lv_aload_n hx hb dX8_count_90 rfl (lv_at hl 0 rfl) ?_
                    obtain ⟨q16, hq16, h⟩ := bi_el h
                    refine zcVi (As := []) cx hI (c_Mo_isHolding N hc (zset_s _ _ _) hq16) mt_yX8_isHolding mv_yX8_isHolding w_488 (by omega) (k8_0 hc) (zv8 hc) rfl hl.1 rfl (Nat.le_of_ble_eq_true rfl) dX8_count_91 (fun H locs hI => ?_)
                    refine lv_if_eq (tgt := 101) hx hb dX8_count_94 (by decide) (fun c17 => ?_) (fun c17 => ?_)
                    · have h := it_p h c17
                      refine lv_iconst (v := (nI 0)) hx hb dX8_count_101 (by decide) ?_
                      exact t_Mo_count_102 N hc cx hret q2 (nI 0) h hI (lv_sub hl [] rfl)
                    · have h := it_n h c17
                      refine lv_iconst (v := (nI 1)) hx hb dX8_count_97 (by decide) ?_
                      refine lv_goto (tgt := 102) hx hb dX8_count_98 (by decide) ?_
                      exact t_Mo_count_102 N hc cx hret q2 (nI 1) h hI (lv_sub hl [] rfl)
                  · have h := it_n h c15
                    by_cases c18 : a1 = (nI 9)
                    · have h := it_p h c18
                      refine lv_tableIn (off := 94) (tgt := 103) hx hb dX8_count_9 (by rw [c18]; decide) (by rw [c18]; decide) (by rw [c18]; rfl) (by decide) ?_
                      refine lv_aload_n hx hb dX8_count_103 rfl (lv_at hl 0 rfl) ?_
                      obtain ⟨q19, hq19, h⟩ := bi_el h
                      refine zcVi (As := []) cx hI (c_Mo_isHolding N hc (zset_s _ _ _) hq19) mt_yX8_isHolding mv_yX8_isHolding w_488 (by omega) (k8_0 hc) (zv8 hc) rfl hl.1 rfl (Nat.le_of_ble_eq_true rfl) dX8_count_104 (fun H locs hI => ?_)
                      refine lv_if_eq (tgt := 127) hx hb dX8_count_107 (by decide) (fun c20 => ?_) (fun c20 => ?_)
                      · have h := it_p h c20
                        exact t_Mo_count_127 N hc cx hret q2 h hI (lv_sub hl [] rfl)
                      · have h := it_n h c20
                        refine lv_aload_n hx hb dX8_count_110 rfl (lv_at hl 0 rfl) ?_
                        obtain ⟨q21, hq21, h⟩ := bi_el h
                        refine zcVi (As := []) cx hI (c_Mo_peak N hc (zset_s _ _ _) hq21) mt_yX8_peak mv_yX8_peak w_512 (by omega) (k8_0 hc) (zv8 hc) rfl hl.1 rfl (Nat.le_of_ble_eq_true rfl) dX8_count_111 (fun H locs hI => ?_)
                        refine lv_aload_n hx hb dX8_count_114 rfl (lv_at hl 0 rfl) ?_
                        refine g8_0 cx hI hc (zset_s _ _ _) w_108 dX8_count_115 ?_
                        refine lv_iconst (v := (nI 3)) hx hb dX8_count_118 (by decide) ?_
                        refine zr_iald cx hI (k8_1 hc) (zset_s _ _ _) (z8_1 hc) rfl (by decide) dX8_count_119 ?_
                        refine lv_icmp_gt (tgt := 127) hx hb dX8_count_120 (by decide) (fun c22 => ?_) (fun c22 => ?_)
                        · have h := it_p h c22
                          exact t_Mo_count_127 N hc cx hret q2 h hI (lv_sub hl [] rfl)
                        · have h := it_n h c22
                          refine lv_iconst (v := (nI 1)) hx hb dX8_count_123 (by decide) ?_
                          refine lv_goto (tgt := 128) hx hb dX8_count_124 (by decide) ?_
                          exact t_Mo_count_128 N hc cx hret q2 (nI 1) h hI (lv_sub hl [] rfl)
                    · have h := it_n h c18
                      by_cases c23 : a1 = (nI 10)
                      · have h := it_p h c23
                        refine lv_tableIn (off := 120) (tgt := 129) hx hb dX8_count_9 (by rw [c23]; decide) (by rw [c23]; decide) (by rw [c23]; rfl) (by decide) ?_
                        refine lv_aload_n hx hb dX8_count_129 rfl (lv_at hl 0 rfl) ?_
                        refine g8_2 cx hI hc (zset_s _ _ _) w_190 dX8_count_130 ?_
                        obtain rfl := Option.some.inj h
                        exact hret _ _ _ _ dX8_count_133 rfl hI
                      · have h := it_n h c23
                        refine lv_tableOut (tgt := 134) hx hb dX8_count_9 (by have tc3 := tn c3 (i := 0) rfl; have tc5 := tn c5 (i := 1) rfl; have tc6 := tn c6 (i := 2) rfl; have tc7 := tn c7 (i := 3) rfl; have tc8 := tn c8 (i := 4) rfl; have tc9 := tn c9 (i := 5) rfl; have tc11 := tn c11 (i := 6) rfl; have tc13 := tn c13 (i := 7) rfl; have tc15 := tn c15 (i := 8) rfl; have tc18 := tn c18 (i := 9) rfl; have tc23 := tn c23 (i := 10) rfl; omega) (by decide) ?_
                        refine lv_iconst (v := (-1 : Int32)) hx hb dX8_count_134 (by decide) ?_
                        obtain rfl := Option.some.inj h
                        exact hret _ _ _ _ dX8_count_135 rfl hI
def f_Mo_laysBest_86 (N : Nat) (k12 : zOb → Int32 → Option zOb) (S : zOb) : Option zOb :=
  (f_Mo_nextOrder N S).bind (fun q6 => bnd q6.1 (fun v7 => k12 q6.2 v7))
set_option maxHeartbeats 4000000 in
set_option maxRecDepth 100000 in
theorem t_Mo_laysBest_86 (N : Nat) {p : Program} {l : Launch} {e : Env} {s : State} {m : MethodId} {args : Array Value} {below : List Frame} {meth : Method} {c : Code} {Q : State → Prop} {G : zG} {μ : zM} {o : Nat} (hc : o = 29) {out : zOb} (cx : zCX p (zrm 3) s m args c RX8 cX8_laysBest 4 3 G) (hret : zRv p l e (zrm 3) s m args below meth c cX8_laysBest G Q (zset μ o out)) {k12 : zOb → Int32 → Option zOb} (hk12 : ∀ (S : zOb) (x1 : Int32), k12 S x1 = some out → ∀ {H : Heap} {locs : List Loc} {ls : Array Slot}, zIW G s (zset μ o S) H locs → lv_has ls 4 [(0, .ref (G.2.2.1 o 0)), (1, .int x1)] → W p l e (zrm 3) s m args below meth c H locs 0 0 Q (F0 m 12 ls [])) : ∀ (S : zOb), f_Mo_laysBest_86 N k12 S = some out → ∀ {H : Heap} {locs : List Loc} {ls : Array Slot}, zIW G s (zset μ o S) H locs → lv_has ls 4 [(0, .ref (G.2.2.1 o 0))] → W p l e (zrm 3) s m args below meth c H locs 0 0 Q (F0 m 86 ls []) := by
  obtain ⟨hx, hb, hml, hown, hts, hK, hR⟩ := id cx
  intro S  h H locs ls hI hl
  unfold f_Mo_laysBest_86 at h
  refine lv_aload_n hx hb dX8_laysBest_86 rfl (lv_at hl 0 rfl) ?_
  obtain ⟨q6, hq6, h⟩ := bi_el h
  refine zcVi (As := []) cx hI (c_Mo_nextOrder N hc (zset_s _ _ _) hq6 (zset_ss _ _ _ _)) mt_yX8_nextOrder mv_yX8_nextOrder w_523 (by omega) (k8_0 hc) (zv8 hc) rfl hl.1 rfl (Nat.le_of_ble_eq_true rfl) dX8_laysBest_87 (fun H locs hI => ?_)
  refine lv_topi (fun v7 ev7 => ?_)
  have h := bnd_el h ev7
  refine lv_istore_n (lv' := [(1, .int v7), (0, .ref (G.2.2.1 o 0))]) hx hb dX8_laysBest_90 rfl hl (by decide) rfl (fun ls hl => ?_)
  refine lv_goto (tgt := 12) hx hb dX8_laysBest_91 (by decide) ?_
  exact hk12 q6.2 v7 h hI (lv_sub hl [1, 0] rfl)
def f_Mo_laysBest_68 (N : Nat) (k12 : zOb → Int32 → Option zOb) (S : zOb) (x2 : Int32) (x3 : Int32) : Option zOb :=
  (f_Mo_number N S).bind (fun q12 => bnd (zI S 0 19 q12) (fun Z13 => bnd (zI Z13 0 20 x2) (fun Z14 => bnd (zI Z14 0 21 x3) (fun Z15 => f_Mo_laysBest_86 N k12 Z15))))
set_option maxHeartbeats 4000000 in
set_option maxRecDepth 100000 in
theorem t_Mo_laysBest_68 (N : Nat) {p : Program} {l : Launch} {e : Env} {s : State} {m : MethodId} {args : Array Value} {below : List Frame} {meth : Method} {c : Code} {Q : State → Prop} {G : zG} {μ : zM} {o : Nat} (hc : o = 29) {out : zOb} (cx : zCX p (zrm 3) s m args c RX8 cX8_laysBest 4 3 G) (hret : zRv p l e (zrm 3) s m args below meth c cX8_laysBest G Q (zset μ o out)) {k12 : zOb → Int32 → Option zOb} (hk12 : ∀ (S : zOb) (x1 : Int32), k12 S x1 = some out → ∀ {H : Heap} {locs : List Loc} {ls : Array Slot}, zIW G s (zset μ o S) H locs → lv_has ls 4 [(0, .ref (G.2.2.1 o 0)), (1, .int x1)] → W p l e (zrm 3) s m args below meth c H locs 0 0 Q (F0 m 12 ls [])) : ∀ (S : zOb) (x2 : Int32) (x3 : Int32), f_Mo_laysBest_68 N k12 S x2 x3 = some out → ∀ {H : Heap} {locs : List Loc} {ls : Array Slot}, zIW G s (zset μ o S) H locs → lv_has ls 4 [(0, .ref (G.2.2.1 o 0)), (2, .int x2), (3, .int x3)] → W p l e (zrm 3) s m args below meth c H locs 0 0 Q (F0 m 68 ls []) := by
  obtain ⟨hx, hb, hml, hown, hts, hK, hR⟩ := id cx
  intro S x2 x3  h H locs ls hI hl
  unfold f_Mo_laysBest_68 at h
  refine lv_aload_n hx hb dX8_laysBest_68 rfl (lv_at hl 0 rfl) ?_
  refine lv_aload_n hx hb dX8_laysBest_69 rfl (lv_at hl 0 rfl) ?_
  obtain ⟨q12, hq12, h⟩ := bi_el h
  refine zcVi (As := []) cx hI (c_Mo_number N hc (zset_s _ _ _) hq12) mt_yX8_number mv_yX8_number w_474 (by omega) (k8_0 hc) (zv8 hc) rfl hl.1 rfl (Nat.le_of_ble_eq_true rfl) dX8_laysBest_70 (fun H locs hI => ?_)
  obtain ⟨Z13, eZ13⟩ : ∃ z : zOb, z = zI S 0 19 q12 := ⟨_, rfl⟩
  have h := bnd_el h eZ13
  refine p8_19 cx hI hc (zset_s _ _ _) w_469 (zss eZ13) dX8_laysBest_73 (fun H locs hI => ?_)
  refine lv_aload_n hx hb dX8_laysBest_76 rfl (lv_at hl 0 rfl) ?_
  refine lv_iload_n hx hb dX8_laysBest_77 rfl (lv_at hl 1 rfl) ?_
  obtain ⟨Z14, eZ14⟩ : ∃ z : zOb, z = zI Z13 0 20 x2 := ⟨_, rfl⟩
  have h := bnd_el h eZ14
  refine p8_20 cx hI hc (zset_s _ _ _) w_482 (zss eZ14) dX8_laysBest_78 (fun H locs hI => ?_)
  refine lv_aload_n hx hb dX8_laysBest_81 rfl (lv_at hl 0 rfl) ?_
  refine lv_iload_n hx hb dX8_laysBest_82 rfl (lv_at hl 2 rfl) ?_
  obtain ⟨Z15, eZ15⟩ : ∃ z : zOb, z = zI Z14 0 21 x3 := ⟨_, rfl⟩
  have h := bnd_el h eZ15
  refine p8_21 cx hI hc (zset_s _ _ _) w_483 (zss eZ15) dX8_laysBest_83 (fun H locs hI => ?_)
  exact t_Mo_laysBest_86 N hc cx hret hk12 Z15 h hI (lv_sub hl [0] rfl)
def f_Mo_laysBest_12 (N : Nat)  : Nat → zOb → Int32 → Option zOb
  | 0, _, _ => none
  | n + 1, S, x1 => (if x1 = nI 0 then some S else (f_Mo_isHolding N S).bind (fun q4 => (if q4 = nI 0 then f_Mo_laysBest_86 N (f_Mo_laysBest_12 N n) S else (f_Mo_readsOrder N S).bind (fun q8 => (f_Mo_peak N q8).bind (fun q9 => (f_Mo_loss N q8).bind (fun q10 => (if (q8.1 0 19) < nI 0 then f_Mo_laysBest_68 N (f_Mo_laysBest_12 N n) q8 q9 q10 else (if q9 < (q8.1 0 20) then f_Mo_laysBest_68 N (f_Mo_laysBest_12 N n) q8 q9 q10 else (if q9 = (q8.1 0 20) then (if (q8.1 0 21) ≤ q10 then f_Mo_laysBest_86 N (f_Mo_laysBest_12 N n) q8 else f_Mo_laysBest_68 N (f_Mo_laysBest_12 N n) q8 q9 q10) else f_Mo_laysBest_86 N (f_Mo_laysBest_12 N n) q8)))))))))
set_option maxHeartbeats 4000000 in
set_option maxRecDepth 100000 in
theorem t_Mo_laysBest_12 (N : Nat) {p : Program} {l : Launch} {e : Env} {s : State} {m : MethodId} {args : Array Value} {below : List Frame} {meth : Method} {c : Code} {Q : State → Prop} {G : zG} {μ : zM} {o : Nat} (hc : o = 29) {out : zOb} (cx : zCX p (zrm 3) s m args c RX8 cX8_laysBest 4 3 G) (hret : zRv p l e (zrm 3) s m args below meth c cX8_laysBest G Q (zset μ o out))   : ∀ (n : Nat) (S : zOb) (x1 : Int32), f_Mo_laysBest_12 N n S x1 = some out → ∀ {H : Heap} {locs : List Loc} {ls : Array Slot}, zIW G s (zset μ o S) H locs → lv_has ls 4 [(0, .ref (G.2.2.1 o 0)), (1, .int x1)] → W p l e (zrm 3) s m args below meth c H locs 0 0 Q (F0 m 12 ls []) := by
  obtain ⟨hx, hb, hml, hown, hts, hK, hR⟩ := id cx
  intro n
  induction n with
  | zero =>
    intro S x1  h
    cases h
  | succ n ih =>
    intro S x1  h H locs ls hI hl
    rw [f_Mo_laysBest_12] at h
    refine lv_iload_n hx hb dX8_laysBest_12 rfl (lv_at hl 1 rfl) ?_
    refine lv_if_eq (tgt := 94) hx hb dX8_laysBest_13 (by decide) (fun c3 => ?_) (fun c3 => ?_)
    · have h := it_p h c3
      obtain rfl := Option.some.inj h
      exact hret _ _ _ _ dX8_laysBest_94 hI
    · have h := it_n h c3
      refine lv_aload_n hx hb dX8_laysBest_16 rfl (lv_at hl 0 rfl) ?_
      obtain ⟨q4, hq4, h⟩ := bi_el h
      refine zcVi (As := []) cx hI (c_Mo_isHolding N hc (zset_s _ _ _) hq4) mt_yX8_isHolding mv_yX8_isHolding w_488 (by omega) (k8_0 hc) (zv8 hc) rfl hl.1 rfl (Nat.le_of_ble_eq_true rfl) dX8_laysBest_17 (fun H locs hI => ?_)
      refine lv_if_eq (tgt := 86) hx hb dX8_laysBest_20 (by decide) (fun c5 => ?_) (fun c5 => ?_)
      · have h := it_p h c5
        exact t_Mo_laysBest_86 N hc cx hret ih S h hI (lv_sub hl [0] rfl)
      · have h := it_n h c5
        refine lv_aload_n hx hb dX8_laysBest_23 rfl (lv_at hl 0 rfl) ?_
        obtain ⟨q8, hq8, h⟩ := bi_el h
        refine zcVv (As := []) cx hI (c_Mo_readsOrder N hc (zset_s _ _ _) hq8 (zset_ss _ _ _ _)) mt_yX8_readsOrder mv_yX8_readsOrder w_492 (by omega) (k8_0 hc) (zv8 hc) rfl hl.1 rfl (Nat.le_of_ble_eq_true rfl) dX8_laysBest_24 (fun H locs hI => ?_)
        refine lv_aload_n hx hb dX8_laysBest_27 rfl (lv_at hl 0 rfl) ?_
        obtain ⟨q9, hq9, h⟩ := bi_el h
        refine zcVi (As := []) cx hI (c_Mo_peak N hc (zset_s _ _ _) hq9) mt_yX8_peak mv_yX8_peak w_512 (by omega) (k8_0 hc) (zv8 hc) rfl hl.1 rfl (Nat.le_of_ble_eq_true rfl) dX8_laysBest_28 (fun H locs hI => ?_)
        refine lv_istore_n (lv' := [(2, .int q9), (0, .ref (G.2.2.1 o 0)), (1, .int x1)]) hx hb dX8_laysBest_31 rfl hl (by decide) rfl (fun ls hl => ?_)
        refine lv_aload_n hx hb dX8_laysBest_32 rfl (lv_at hl 1 rfl) ?_
        obtain ⟨q10, hq10, h⟩ := bi_el h
        refine zcVi (As := []) cx hI (c_Mo_loss N hc (zset_s _ _ _) hq10) mt_yX8_loss mv_yX8_loss w_519 (by omega) (k8_0 hc) (zv8 hc) rfl hl.1 rfl (Nat.le_of_ble_eq_true rfl) dX8_laysBest_33 (fun H locs hI => ?_)
        refine lv_istore_n (lv' := [(3, .int q10), (2, .int q9), (0, .ref (G.2.2.1 o 0)), (1, .int x1)]) hx hb dX8_laysBest_36 rfl hl (by decide) rfl (fun ls hl => ?_)
        refine lv_aload_n hx hb dX8_laysBest_37 rfl (lv_at hl 2 rfl) ?_
        refine g8_19 cx hI hc (zset_s _ _ _) w_469 dX8_laysBest_38 ?_
        refine lv_if_lt (tgt := 68) hx hb dX8_laysBest_41 (by decide) (fun c11 => ?_) (fun c11 => ?_)
        · have h := it_p h c11
          exact t_Mo_laysBest_68 N hc cx hret ih q8 q9 q10 h hI (lv_sub hl [2, 1, 0] rfl)
        · have h := it_n h c11
          refine lv_iload_n hx hb dX8_laysBest_44 rfl (lv_at hl 1 rfl) ?_
          refine lv_aload_n hx hb dX8_laysBest_45 rfl (lv_at hl 2 rfl) ?_
          refine g8_20 cx hI hc (zset_s _ _ _) w_482 dX8_laysBest_46 ?_
          refine lv_icmp_lt (tgt := 68) hx hb dX8_laysBest_49 (by decide) (fun c16 => ?_) (fun c16 => ?_)
          · have h := it_p h c16
            exact t_Mo_laysBest_68 N hc cx hret ih q8 q9 q10 h hI (lv_sub hl [2, 1, 0] rfl)
          · have h := it_n h c16
            refine lv_iload_n hx hb dX8_laysBest_52 rfl (lv_at hl 1 rfl) ?_
            refine lv_aload_n hx hb dX8_laysBest_53 rfl (lv_at hl 2 rfl) ?_
            refine g8_20 cx hI hc (zset_s _ _ _) w_482 dX8_laysBest_54 ?_
            refine lv_icmp_ne (tgt := 86) hx hb dX8_laysBest_57 (by decide) (fun c17 => ?_) (fun c17 => ?_)
            · have h := it_n h c17
              exact t_Mo_laysBest_86 N hc cx hret ih q8 h hI (lv_sub hl [2] rfl)
            · have h := it_p h c17
              refine lv_iload_n hx hb dX8_laysBest_60 rfl (lv_at hl 0 rfl) ?_
              refine lv_aload_n hx hb dX8_laysBest_61 rfl (lv_at hl 2 rfl) ?_
              refine g8_21 cx hI hc (zset_s _ _ _) w_483 dX8_laysBest_62 ?_
              refine lv_icmp_ge (tgt := 86) hx hb dX8_laysBest_65 (by decide) (fun c18 => ?_) (fun c18 => ?_)
              · have h := it_p h c18
                exact t_Mo_laysBest_86 N hc cx hret ih q8 h hI (lv_sub hl [2] rfl)
              · have h := it_n h c18
                exact t_Mo_laysBest_68 N hc cx hret ih q8 q9 q10 h hI (lv_sub hl [2, 1, 0] rfl)
def f_Mo_laysBest (N : Nat) (S : zOb) : Option zOb :=
  bnd (zI S 0 19 (-4 : Int32)) (fun Z1 => (f_Mo_firstOrder N Z1).bind (fun q2 => f_Mo_laysBest_12 N N q2 (nI 1)))
set_option maxHeartbeats 4000000 in
set_option maxRecDepth 100000 in
theorem c_Mo_laysBest (N : Nat) {l : Launch} {G : zG} {μ : zM} {o : Nat} (hc : o = 29) {S : zOb} (hS : μ o = S)  {out : zOb} (h : f_Mo_laysBest N S  = some out) {μ' : zM} (hμ : zset μ o out = μ') : zMV l G yX8_laysBest cX8_laysBest 4 none 3 [.ref (G.2.2.1 o 0)] μ μ' := by
  subst hμ
  refine zMV.of (by decide) (Nat.le_of_ble_eq_true rfl) (fun p e s m args below meth c Q ls cx hI hl hret => ?_)
  obtain ⟨hx, hb, hml, hown, hts, hK, hR⟩ := id cx
  have hl : lv_has ls 4 [(0, .ref (G.2.2.1 o 0))] := hl
  rw [← zset_idS hS] at hI
  unfold f_Mo_laysBest at h
  refine lv_aload_n hx hb dX8_laysBest_0 rfl (lv_at hl 0 rfl) ?_
  refine lv_bipush (v := (-4 : Int32)) hx hb dX8_laysBest_1 (by decide) ?_
  obtain ⟨Z1, eZ1⟩ : ∃ z : zOb, z = zI S 0 19 (-4 : Int32) := ⟨_, rfl⟩
  have h := bnd_el h eZ1
  refine p8_19 cx hI hc (zset_s _ _ _) w_469 (zss eZ1) dX8_laysBest_3 (fun H locs hI => ?_)
  refine lv_aload_n hx hb dX8_laysBest_6 rfl (lv_at hl 0 rfl) ?_
  obtain ⟨q2, hq2, h⟩ := bi_el h
  refine zcVv (As := []) cx hI (c_Mo_firstOrder N hc (zset_s _ _ _) hq2 (zset_ss _ _ _ _)) mt_yX8_firstOrder mv_yX8_firstOrder w_484 (by omega) (k8_0 hc) (zv8 hc) rfl hl.1 rfl (Nat.le_of_ble_eq_true rfl) dX8_laysBest_7 (fun H locs hI => ?_)
  refine lv_iconst (v := (nI 1)) hx hb dX8_laysBest_10 (by decide) ?_
  refine lv_istore_n (lv' := [(1, .int (nI 1)), (0, .ref (G.2.2.1 o 0))]) hx hb dX8_laysBest_11 rfl hl (by decide) rfl (fun ls hl => ?_)
  exact t_Mo_laysBest_12 N hc cx hret N q2 (nI 1) h hI (lv_sub hl [1, 0] rfl)
def f_Mo_grows_204 (N : Nat) (k17 : zOb → Int32 → Int32 → Option zOb) (k39 : zOb → Int32 → Int32 → Int32 → Int32 → Int32 → Int32 → Option zOb) (S : zOb) (x1 : Int32) (x2 : Int32) (x3 : Int32) (x4 : Int32) (x5 : Int32) (x6 : Int32) : Option zOb :=
  bnd (x6 + (nI 1)) (fun v13 => k39 S x1 x2 x3 x4 x5 v13)
set_option maxHeartbeats 4000000 in
set_option maxRecDepth 100000 in
theorem t_Mo_grows_204 (N : Nat) {p : Program} {l : Launch} {e : Env} {s : State} {m : MethodId} {args : Array Value} {below : List Frame} {meth : Method} {c : Code} {Q : State → Prop} {G : zG} {μ : zM} {o : Nat} (hc : o = 29) {out : zOb} (cx : zCX p (zrm 2) s m args c RX8 cX8_grows 11 2 G) (hret : zRv p l e (zrm 2) s m args below meth c cX8_grows G Q (zset μ o out)) {k17 : zOb → Int32 → Int32 → Option zOb} {k39 : zOb → Int32 → Int32 → Int32 → Int32 → Int32 → Int32 → Option zOb} (hk17 : ∀ (S : zOb) (x1 : Int32) (x2 : Int32), k17 S x1 x2 = some out → ∀ {H : Heap} {locs : List Loc} {ls : Array Slot}, zIW G s (zset μ o S) H locs → lv_has ls 11 [(0, .ref (G.2.2.1 o 0)), (1, .int x1), (2, .int x2)] → W p l e (zrm 2) s m args below meth c H locs 0 0 Q (F0 m 17 ls [])) (hk39 : ∀ (S : zOb) (x1 : Int32) (x2 : Int32) (x3 : Int32) (x4 : Int32) (x5 : Int32) (x6 : Int32), k39 S x1 x2 x3 x4 x5 x6 = some out → ∀ {H : Heap} {locs : List Loc} {ls : Array Slot}, zIW G s (zset μ o S) H locs → lv_has ls 11 [(0, .ref (G.2.2.1 o 0)), (1, .int x1), (2, .int x2), (3, .int x3), (4, .int x4), (5, .int x5), (6, .int x6)] → W p l e (zrm 2) s m args below meth c H locs 0 0 Q (F0 m 39 ls [])) : ∀ (S : zOb) (x1 : Int32) (x2 : Int32) (x3 : Int32) (x4 : Int32) (x5 : Int32) (x6 : Int32), f_Mo_grows_204 N k17 k39 S x1 x2 x3 x4 x5 x6 = some out → ∀ {H : Heap} {locs : List Loc} {ls : Array Slot}, zIW G s (zset μ o S) H locs → lv_has ls 11 [(0, .ref (G.2.2.1 o 0)), (1, .int x1), (2, .int x2), (3, .int x3), (4, .int x4), (5, .int x5), (6, .int x6)] → W p l e (zrm 2) s m args below meth c H locs 0 0 Q (F0 m 204 ls []) := by
  obtain ⟨hx, hb, hml, hown, hts, hK, hR⟩ := id cx
  intro S x1 x2 x3 x4 x5 x6  h H locs ls hI hl
  unfold f_Mo_grows_204 at h
  obtain ⟨v13, ev13⟩ : ∃ z : Int32, z = x6 + (nI 1) := ⟨_, rfl⟩
  have h := bnd_el h ev13
  refine lv_iinc (v := v13) (lv' := [(6, .int v13), (0, .ref (G.2.2.1 o 0)), (1, .int x1), (2, .int x2), (3, .int x3), (4, .int x4), (5, .int x5)]) hx hb dX8_grows_204 hl (k := 6) rfl (by rw [ev13]; rfl) (by decide) rfl (fun ls hl => ?_)
  refine lv_goto (tgt := 39) hx hb dX8_grows_207 (by decide) ?_
  exact hk39 S x1 x2 x3 x4 x5 v13 h hI (lv_sub hl [1, 2, 3, 4, 5, 6, 0] rfl)
def f_Mo_grows_193 (N : Nat) (k17 : zOb → Int32 → Int32 → Option zOb) (k39 : zOb → Int32 → Int32 → Int32 → Int32 → Int32 → Int32 → Option zOb) (S : zOb) (x1 : Int32) (x2 : Int32) (x6 : Int32) (x7 : Int32) (x8 : Int32) : Option zOb :=
  f_Mo_grows_204 N k17 k39 S x1 x2 x6 x7 x8 x6
set_option maxHeartbeats 4000000 in
set_option maxRecDepth 100000 in
theorem t_Mo_grows_193 (N : Nat) {p : Program} {l : Launch} {e : Env} {s : State} {m : MethodId} {args : Array Value} {below : List Frame} {meth : Method} {c : Code} {Q : State → Prop} {G : zG} {μ : zM} {o : Nat} (hc : o = 29) {out : zOb} (cx : zCX p (zrm 2) s m args c RX8 cX8_grows 11 2 G) (hret : zRv p l e (zrm 2) s m args below meth c cX8_grows G Q (zset μ o out)) {k17 : zOb → Int32 → Int32 → Option zOb} {k39 : zOb → Int32 → Int32 → Int32 → Int32 → Int32 → Int32 → Option zOb} (hk17 : ∀ (S : zOb) (x1 : Int32) (x2 : Int32), k17 S x1 x2 = some out → ∀ {H : Heap} {locs : List Loc} {ls : Array Slot}, zIW G s (zset μ o S) H locs → lv_has ls 11 [(0, .ref (G.2.2.1 o 0)), (1, .int x1), (2, .int x2)] → W p l e (zrm 2) s m args below meth c H locs 0 0 Q (F0 m 17 ls [])) (hk39 : ∀ (S : zOb) (x1 : Int32) (x2 : Int32) (x3 : Int32) (x4 : Int32) (x5 : Int32) (x6 : Int32), k39 S x1 x2 x3 x4 x5 x6 = some out → ∀ {H : Heap} {locs : List Loc} {ls : Array Slot}, zIW G s (zset μ o S) H locs → lv_has ls 11 [(0, .ref (G.2.2.1 o 0)), (1, .int x1), (2, .int x2), (3, .int x3), (4, .int x4), (5, .int x5), (6, .int x6)] → W p l e (zrm 2) s m args below meth c H locs 0 0 Q (F0 m 39 ls [])) : ∀ (S : zOb) (x1 : Int32) (x2 : Int32) (x6 : Int32) (x7 : Int32) (x8 : Int32), f_Mo_grows_193 N k17 k39 S x1 x2 x6 x7 x8 = some out → ∀ {H : Heap} {locs : List Loc} {ls : Array Slot}, zIW G s (zset μ o S) H locs → lv_has ls 11 [(0, .ref (G.2.2.1 o 0)), (1, .int x1), (2, .int x2), (6, .int x6), (7, .int x7), (8, .int x8)] → W p l e (zrm 2) s m args below meth c H locs 0 0 Q (F0 m 193 ls []) := by
  obtain ⟨hx, hb, hml, hown, hts, hK, hR⟩ := id cx
  intro S x1 x2 x6 x7 x8  h H locs ls hI hl
  unfold f_Mo_grows_193 at h
  refine lv_iload hx hb dX8_grows_193 (lv_at hl 3 rfl) ?_
  refine lv_istore_n (lv' := [(3, .int x6), (0, .ref (G.2.2.1 o 0)), (1, .int x1), (2, .int x2), (6, .int x6), (7, .int x7), (8, .int x8)]) hx hb dX8_grows_195 rfl hl (by decide) rfl (fun ls hl => ?_)
  refine lv_iload hx hb dX8_grows_196 (lv_at hl 5 rfl) ?_
  refine lv_istore (lv' := [(4, .int x7), (3, .int x6), (0, .ref (G.2.2.1 o 0)), (1, .int x1), (2, .int x2), (6, .int x6), (7, .int x7), (8, .int x8)]) hx hb dX8_grows_198 hl (by decide) rfl (fun ls hl => ?_)
  refine lv_iload hx hb dX8_grows_200 (lv_at hl 7 rfl) ?_
  refine lv_istore (lv' := [(5, .int x8), (4, .int x7), (3, .int x6), (0, .ref (G.2.2.1 o 0)), (1, .int x1), (2, .int x2), (6, .int x6), (7, .int x7), (8, .int x8)]) hx hb dX8_grows_202 hl (by decide) rfl (fun ls hl => ?_)
  exact t_Mo_grows_204 N hc cx hret hk17 hk39 S x1 x2 x6 x7 x8 x6 h hI (lv_sub hl [3, 4, 5, 2, 1, 0, 6] rfl)
def f_Mo_grows_159 (N : Nat) (k17 : zOb → Int32 → Int32 → Option zOb) (k39 : zOb → Int32 → Int32 → Int32 → Int32 → Int32 → Int32 → Option zOb) (k79 : zOb → Int32 → Int32 → Int32 → Int32 → Int32 → Int32 → Int32 → Int32 → Int32 → Option zOb) (S : zOb) (x1 : Int32) (x2 : Int32) (x3 : Int32) (x4 : Int32) (x5 : Int32) (x6 : Int32) (x7 : Int32) (x9 : Int32) (s0 : Int32) (s1 : Int32) : Option zOb :=
  bnd (s1 + s0) (fun v26 => bnd (x9 + (nI 1)) (fun v27 => k79 S x1 x2 x3 x4 x5 x6 x7 v26 v27))
set_option maxHeartbeats 4000000 in
set_option maxRecDepth 100000 in
theorem t_Mo_grows_159 (N : Nat) {p : Program} {l : Launch} {e : Env} {s : State} {m : MethodId} {args : Array Value} {below : List Frame} {meth : Method} {c : Code} {Q : State → Prop} {G : zG} {μ : zM} {o : Nat} (hc : o = 29) {out : zOb} (cx : zCX p (zrm 2) s m args c RX8 cX8_grows 11 2 G) (hret : zRv p l e (zrm 2) s m args below meth c cX8_grows G Q (zset μ o out)) {k17 : zOb → Int32 → Int32 → Option zOb} {k39 : zOb → Int32 → Int32 → Int32 → Int32 → Int32 → Int32 → Option zOb} {k79 : zOb → Int32 → Int32 → Int32 → Int32 → Int32 → Int32 → Int32 → Int32 → Int32 → Option zOb} (hk17 : ∀ (S : zOb) (x1 : Int32) (x2 : Int32), k17 S x1 x2 = some out → ∀ {H : Heap} {locs : List Loc} {ls : Array Slot}, zIW G s (zset μ o S) H locs → lv_has ls 11 [(0, .ref (G.2.2.1 o 0)), (1, .int x1), (2, .int x2)] → W p l e (zrm 2) s m args below meth c H locs 0 0 Q (F0 m 17 ls [])) (hk39 : ∀ (S : zOb) (x1 : Int32) (x2 : Int32) (x3 : Int32) (x4 : Int32) (x5 : Int32) (x6 : Int32), k39 S x1 x2 x3 x4 x5 x6 = some out → ∀ {H : Heap} {locs : List Loc} {ls : Array Slot}, zIW G s (zset μ o S) H locs → lv_has ls 11 [(0, .ref (G.2.2.1 o 0)), (1, .int x1), (2, .int x2), (3, .int x3), (4, .int x4), (5, .int x5), (6, .int x6)] → W p l e (zrm 2) s m args below meth c H locs 0 0 Q (F0 m 39 ls [])) (hk79 : ∀ (S : zOb) (x1 : Int32) (x2 : Int32) (x3 : Int32) (x4 : Int32) (x5 : Int32) (x6 : Int32) (x7 : Int32) (x8 : Int32) (x9 : Int32), k79 S x1 x2 x3 x4 x5 x6 x7 x8 x9 = some out → ∀ {H : Heap} {locs : List Loc} {ls : Array Slot}, zIW G s (zset μ o S) H locs → lv_has ls 11 [(0, .ref (G.2.2.1 o 0)), (1, .int x1), (2, .int x2), (3, .int x3), (4, .int x4), (5, .int x5), (6, .int x6), (7, .int x7), (8, .int x8), (9, .int x9)] → W p l e (zrm 2) s m args below meth c H locs 0 0 Q (F0 m 79 ls [])) : ∀ (S : zOb) (x1 : Int32) (x2 : Int32) (x3 : Int32) (x4 : Int32) (x5 : Int32) (x6 : Int32) (x7 : Int32) (x9 : Int32) (s0 : Int32) (s1 : Int32), f_Mo_grows_159 N k17 k39 k79 S x1 x2 x3 x4 x5 x6 x7 x9 s0 s1 = some out → ∀ {H : Heap} {locs : List Loc} {ls : Array Slot}, zIW G s (zset μ o S) H locs → lv_has ls 11 [(0, .ref (G.2.2.1 o 0)), (1, .int x1), (2, .int x2), (3, .int x3), (4, .int x4), (5, .int x5), (6, .int x6), (7, .int x7), (9, .int x9)] → W p l e (zrm 2) s m args below meth c H locs 0 0 Q (F0 m 159 ls [.int s0, .int s1]) := by
  obtain ⟨hx, hb, hml, hown, hts, hK, hR⟩ := id cx
  intro S x1 x2 x3 x4 x5 x6 x7 x9 s0 s1  h H locs ls hI hl
  unfold f_Mo_grows_159 at h
  refine lv_iadd hx hb dX8_grows_159 ?_
  refine lv_topi (fun v26 ev26 => ?_)
  have h := bnd_el h ev26
  refine lv_istore (lv' := [(8, .int v26), (0, .ref (G.2.2.1 o 0)), (1, .int x1), (2, .int x2), (3, .int x3), (4, .int x4), (5, .int x5), (6, .int x6), (7, .int x7), (9, .int x9)]) hx hb dX8_grows_160 hl (by decide) rfl (fun ls hl => ?_)
  obtain ⟨v27, ev27⟩ : ∃ z : Int32, z = x9 + (nI 1) := ⟨_, rfl⟩
  have h := bnd_el h ev27
  refine lv_iinc (v := v27) (lv' := [(9, .int v27), (8, .int v26), (0, .ref (G.2.2.1 o 0)), (1, .int x1), (2, .int x2), (3, .int x3), (4, .int x4), (5, .int x5), (6, .int x6), (7, .int x7)]) hx hb dX8_grows_162 hl (k := 9) rfl (by rw [ev27]; rfl) (by decide) rfl (fun ls hl => ?_)
  refine lv_goto (tgt := 79) hx hb dX8_grows_165 (by decide) ?_
  exact hk79 S x1 x2 x3 x4 x5 x6 x7 v26 v27 h hI (lv_sub hl [2, 3, 4, 5, 6, 7, 8, 9, 1, 0] rfl)
def f_Mo_grows_158 (N : Nat) (k17 : zOb → Int32 → Int32 → Option zOb) (k39 : zOb → Int32 → Int32 → Int32 → Int32 → Int32 → Int32 → Option zOb) (k79 : zOb → Int32 → Int32 → Int32 → Int32 → Int32 → Int32 → Int32 → Int32 → Int32 → Option zOb) (S : zOb) (x1 : Int32) (x2 : Int32) (x3 : Int32) (x4 : Int32) (x5 : Int32) (x6 : Int32) (x7 : Int32) (x9 : Int32) (s0 : Int32) : Option zOb :=
  f_Mo_grows_159 N k17 k39 k79 S x1 x2 x3 x4 x5 x6 x7 x9 (nI 0) s0
set_option maxHeartbeats 4000000 in
set_option maxRecDepth 100000 in
theorem t_Mo_grows_158 (N : Nat) {p : Program} {l : Launch} {e : Env} {s : State} {m : MethodId} {args : Array Value} {below : List Frame} {meth : Method} {c : Code} {Q : State → Prop} {G : zG} {μ : zM} {o : Nat} (hc : o = 29) {out : zOb} (cx : zCX p (zrm 2) s m args c RX8 cX8_grows 11 2 G) (hret : zRv p l e (zrm 2) s m args below meth c cX8_grows G Q (zset μ o out)) {k17 : zOb → Int32 → Int32 → Option zOb} {k39 : zOb → Int32 → Int32 → Int32 → Int32 → Int32 → Int32 → Option zOb} {k79 : zOb → Int32 → Int32 → Int32 → Int32 → Int32 → Int32 → Int32 → Int32 → Int32 → Option zOb} (hk17 : ∀ (S : zOb) (x1 : Int32) (x2 : Int32), k17 S x1 x2 = some out → ∀ {H : Heap} {locs : List Loc} {ls : Array Slot}, zIW G s (zset μ o S) H locs → lv_has ls 11 [(0, .ref (G.2.2.1 o 0)), (1, .int x1), (2, .int x2)] → W p l e (zrm 2) s m args below meth c H locs 0 0 Q (F0 m 17 ls [])) (hk39 : ∀ (S : zOb) (x1 : Int32) (x2 : Int32) (x3 : Int32) (x4 : Int32) (x5 : Int32) (x6 : Int32), k39 S x1 x2 x3 x4 x5 x6 = some out → ∀ {H : Heap} {locs : List Loc} {ls : Array Slot}, zIW G s (zset μ o S) H locs → lv_has ls 11 [(0, .ref (G.2.2.1 o 0)), (1, .int x1), (2, .int x2), (3, .int x3), (4, .int x4), (5, .int x5), (6, .int x6)] → W p l e (zrm 2) s m args below meth c H locs 0 0 Q (F0 m 39 ls [])) (hk79 : ∀ (S : zOb) (x1 : Int32) (x2 : Int32) (x3 : Int32) (x4 : Int32) (x5 : Int32) (x6 : Int32) (x7 : Int32) (x8 : Int32) (x9 : Int32), k79 S x1 x2 x3 x4 x5 x6 x7 x8 x9 = some out → ∀ {H : Heap} {locs : List Loc} {ls : Array Slot}, zIW G s (zset μ o S) H locs → lv_has ls 11 [(0, .ref (G.2.2.1 o 0)), (1, .int x1), (2, .int x2), (3, .int x3), (4, .int x4), (5, .int x5), (6, .int x6), (7, .int x7), (8, .int x8), (9, .int x9)] → W p l e (zrm 2) s m args below meth c H locs 0 0 Q (F0 m 79 ls [])) : ∀ (S : zOb) (x1 : Int32) (x2 : Int32) (x3 : Int32) (x4 : Int32) (x5 : Int32) (x6 : Int32) (x7 : Int32) (x9 : Int32) (s0 : Int32), f_Mo_grows_158 N k17 k39 k79 S x1 x2 x3 x4 x5 x6 x7 x9 s0 = some out → ∀ {H : Heap} {locs : List Loc} {ls : Array Slot}, zIW G s (zset μ o S) H locs → lv_has ls 11 [(0, .ref (G.2.2.1 o 0)), (1, .int x1), (2, .int x2), (3, .int x3), (4, .int x4), (5, .int x5), (6, .int x6), (7, .int x7), (9, .int x9)] → W p l e (zrm 2) s m args below meth c H locs 0 0 Q (F0 m 158 ls [.int s0]) := by
  obtain ⟨hx, hb, hml, hown, hts, hK, hR⟩ := id cx
  intro S x1 x2 x3 x4 x5 x6 x7 x9 s0  h H locs ls hI hl
  unfold f_Mo_grows_158 at h
  refine lv_iconst (v := (nI 0)) hx hb dX8_grows_158 (by decide) ?_
  exact t_Mo_grows_159 N hc cx hret hk17 hk39 hk79 S x1 x2 x3 x4 x5 x6 x7 x9 (nI 0) s0 h hI hl
def f_Mo_grows_134 (N : Nat) (k17 : zOb → Int32 → Int32 → Option zOb) (k39 : zOb → Int32 → Int32 → Int32 → Int32 → Int32 → Int32 → Option zOb) (k79 : zOb → Int32 → Int32 → Int32 → Int32 → Int32 → Int32 → Int32 → Int32 → Int32 → Option zOb) (S : zOb) (x1 : Int32) (x2 : Int32) (x3 : Int32) (x4 : Int32) (x5 : Int32) (x6 : Int32) (x8 : Int32) (x9 : Int32) (x10 : Int32) (s0 : Int32) (s1 : Int32) : Option zOb :=
  bnd (s1 + s0) (fun v24 => (if x10 = nI 0 then f_Mo_grows_158 N k17 k39 k79 S x1 x2 x3 x4 x5 x6 v24 x9 x8 else if zin x9 20 then (if (S.1 14 x9.toNatClampNeg) ≤ nI 0 then f_Mo_grows_158 N k17 k39 k79 S x1 x2 x3 x4 x5 x6 v24 x9 x8 else f_Mo_grows_159 N k17 k39 k79 S x1 x2 x3 x4 x5 x6 v24 x9 (nI 1) x8) else none))
set_option maxHeartbeats 4000000 in
set_option maxRecDepth 100000 in
theorem t_Mo_grows_134 (N : Nat) {p : Program} {l : Launch} {e : Env} {s : State} {m : MethodId} {args : Array Value} {below : List Frame} {meth : Method} {c : Code} {Q : State → Prop} {G : zG} {μ : zM} {o : Nat} (hc : o = 29) {out : zOb} (cx : zCX p (zrm 2) s m args c RX8 cX8_grows 11 2 G) (hret : zRv p l e (zrm 2) s m args below meth c cX8_grows G Q (zset μ o out)) {k17 : zOb → Int32 → Int32 → Option zOb} {k39 : zOb → Int32 → Int32 → Int32 → Int32 → Int32 → Int32 → Option zOb} {k79 : zOb → Int32 → Int32 → Int32 → Int32 → Int32 → Int32 → Int32 → Int32 → Int32 → Option zOb} (hk17 : ∀ (S : zOb) (x1 : Int32) (x2 : Int32), k17 S x1 x2 = some out → ∀ {H : Heap} {locs : List Loc} {ls : Array Slot}, zIW G s (zset μ o S) H locs → lv_has ls 11 [(0, .ref (G.2.2.1 o 0)), (1, .int x1), (2, .int x2)] → W p l e (zrm 2) s m args below meth c H locs 0 0 Q (F0 m 17 ls [])) (hk39 : ∀ (S : zOb) (x1 : Int32) (x2 : Int32) (x3 : Int32) (x4 : Int32) (x5 : Int32) (x6 : Int32), k39 S x1 x2 x3 x4 x5 x6 = some out → ∀ {H : Heap} {locs : List Loc} {ls : Array Slot}, zIW G s (zset μ o S) H locs → lv_has ls 11 [(0, .ref (G.2.2.1 o 0)), (1, .int x1), (2, .int x2), (3, .int x3), (4, .int x4), (5, .int x5), (6, .int x6)] → W p l e (zrm 2) s m args below meth c H locs 0 0 Q (F0 m 39 ls [])) (hk79 : ∀ (S : zOb) (x1 : Int32) (x2 : Int32) (x3 : Int32) (x4 : Int32) (x5 : Int32) (x6 : Int32) (x7 : Int32) (x8 : Int32) (x9 : Int32), k79 S x1 x2 x3 x4 x5 x6 x7 x8 x9 = some out → ∀ {H : Heap} {locs : List Loc} {ls : Array Slot}, zIW G s (zset μ o S) H locs → lv_has ls 11 [(0, .ref (G.2.2.1 o 0)), (1, .int x1), (2, .int x2), (3, .int x3), (4, .int x4), (5, .int x5), (6, .int x6), (7, .int x7), (8, .int x8), (9, .int x9)] → W p l e (zrm 2) s m args below meth c H locs 0 0 Q (F0 m 79 ls [])) : ∀ (S : zOb) (x1 : Int32) (x2 : Int32) (x3 : Int32) (x4 : Int32) (x5 : Int32) (x6 : Int32) (x8 : Int32) (x9 : Int32) (x10 : Int32) (s0 : Int32) (s1 : Int32), f_Mo_grows_134 N k17 k39 k79 S x1 x2 x3 x4 x5 x6 x8 x9 x10 s0 s1 = some out → ∀ {H : Heap} {locs : List Loc} {ls : Array Slot}, zIW G s (zset μ o S) H locs → lv_has ls 11 [(0, .ref (G.2.2.1 o 0)), (1, .int x1), (2, .int x2), (3, .int x3), (4, .int x4), (5, .int x5), (6, .int x6), (8, .int x8), (9, .int x9), (10, .int x10)] → W p l e (zrm 2) s m args below meth c H locs 0 0 Q (F0 m 134 ls [.int s0, .int s1]) := by
  obtain ⟨hx, hb, hml, hown, hts, hK, hR⟩ := id cx
  intro S x1 x2 x3 x4 x5 x6 x8 x9 x10 s0 s1  h H locs ls hI hl
  unfold f_Mo_grows_134 at h
  refine lv_iadd hx hb dX8_grows_134 ?_
  refine lv_topi (fun v24 ev24 => ?_)
  have h := bnd_el h ev24
  refine lv_istore (lv' := [(7, .int v24), (0, .ref (G.2.2.1 o 0)), (1, .int x1), (2, .int x2), (3, .int x3), (4, .int x4), (5, .int x5), (6, .int x6), (8, .int x8), (9, .int x9), (10, .int x10)]) hx hb dX8_grows_135 hl (by decide) rfl (fun ls hl => ?_)
  refine lv_iload hx hb dX8_grows_137 (lv_at hl 8 rfl) ?_
  refine lv_iload hx hb dX8_grows_139 (lv_at hl 10 rfl) ?_
  refine lv_if_eq (tgt := 158) hx hb dX8_grows_141 (by decide) (fun c25 => ?_) (fun c25 => ?_)
  · have h := it_p h c25
    exact t_Mo_grows_158 N hc cx hret hk17 hk39 hk79 S x1 x2 x3 x4 x5 x6 v24 x9 x8 h hI (lv_sub hl [1, 2, 3, 4, 5, 6, 7, 0, 9] rfl)
  · have h := it_n h c25
    refine lv_aload_n hx hb dX8_grows_144 rfl (lv_at hl 1 rfl) ?_
    refine g8_13 cx hI hc (zset_s _ _ _) w_119 dX8_grows_145 ?_
    refine lv_iload hx hb dX8_grows_148 (lv_at hl 9 rfl) ?_
    obtain ⟨g28, h⟩ := gd_el h
    refine zr_iald cx hI (k8_14 hc) (zset_s _ _ _) (z8_14 hc) rfl g28 dX8_grows_150 ?_
    refine lv_if_le (tgt := 158) hx hb dX8_grows_151 (by decide) (fun c29 => ?_) (fun c29 => ?_)
    · have h := it_p h c29
      exact t_Mo_grows_158 N hc cx hret hk17 hk39 hk79 S x1 x2 x3 x4 x5 x6 v24 x9 x8 h hI (lv_sub hl [1, 2, 3, 4, 5, 6, 7, 0, 9] rfl)
    · have h := it_n h c29
      refine lv_iconst (v := (nI 1)) hx hb dX8_grows_154 (by decide) ?_
      refine lv_goto (tgt := 159) hx hb dX8_grows_155 (by decide) ?_
      exact t_Mo_grows_159 N hc cx hret hk17 hk39 hk79 S x1 x2 x3 x4 x5 x6 v24 x9 (nI 1) x8 h hI (lv_sub hl [1, 2, 3, 4, 5, 6, 7, 0, 9] rfl)
def f_Mo_grows_133 (N : Nat) (k17 : zOb → Int32 → Int32 → Option zOb) (k39 : zOb → Int32 → Int32 → Int32 → Int32 → Int32 → Int32 → Option zOb) (k79 : zOb → Int32 → Int32 → Int32 → Int32 → Int32 → Int32 → Int32 → Int32 → Int32 → Option zOb) (S : zOb) (x1 : Int32) (x2 : Int32) (x3 : Int32) (x4 : Int32) (x5 : Int32) (x6 : Int32) (x8 : Int32) (x9 : Int32) (x10 : Int32) (s0 : Int32) : Option zOb :=
  f_Mo_grows_134 N k17 k39 k79 S x1 x2 x3 x4 x5 x6 x8 x9 x10 (nI 0) s0
set_option maxHeartbeats 4000000 in
set_option maxRecDepth 100000 in
theorem t_Mo_grows_133 (N : Nat) {p : Program} {l : Launch} {e : Env} {s : State} {m : MethodId} {args : Array Value} {below : List Frame} {meth : Method} {c : Code} {Q : State → Prop} {G : zG} {μ : zM} {o : Nat} (hc : o = 29) {out : zOb} (cx : zCX p (zrm 2) s m args c RX8 cX8_grows 11 2 G) (hret : zRv p l e (zrm 2) s m args below meth c cX8_grows G Q (zset μ o out)) {k17 : zOb → Int32 → Int32 → Option zOb} {k39 : zOb → Int32 → Int32 → Int32 → Int32 → Int32 → Int32 → Option zOb} {k79 : zOb → Int32 → Int32 → Int32 → Int32 → Int32 → Int32 → Int32 → Int32 → Int32 → Option zOb} (hk17 : ∀ (S : zOb) (x1 : Int32) (x2 : Int32), k17 S x1 x2 = some out → ∀ {H : Heap} {locs : List Loc} {ls : Array Slot}, zIW G s (zset μ o S) H locs → lv_has ls 11 [(0, .ref (G.2.2.1 o 0)), (1, .int x1), (2, .int x2)] → W p l e (zrm 2) s m args below meth c H locs 0 0 Q (F0 m 17 ls [])) (hk39 : ∀ (S : zOb) (x1 : Int32) (x2 : Int32) (x3 : Int32) (x4 : Int32) (x5 : Int32) (x6 : Int32), k39 S x1 x2 x3 x4 x5 x6 = some out → ∀ {H : Heap} {locs : List Loc} {ls : Array Slot}, zIW G s (zset μ o S) H locs → lv_has ls 11 [(0, .ref (G.2.2.1 o 0)), (1, .int x1), (2, .int x2), (3, .int x3), (4, .int x4), (5, .int x5), (6, .int x6)] → W p l e (zrm 2) s m args below meth c H locs 0 0 Q (F0 m 39 ls [])) (hk79 : ∀ (S : zOb) (x1 : Int32) (x2 : Int32) (x3 : Int32) (x4 : Int32) (x5 : Int32) (x6 : Int32) (x7 : Int32) (x8 : Int32) (x9 : Int32), k79 S x1 x2 x3 x4 x5 x6 x7 x8 x9 = some out → ∀ {H : Heap} {locs : List Loc} {ls : Array Slot}, zIW G s (zset μ o S) H locs → lv_has ls 11 [(0, .ref (G.2.2.1 o 0)), (1, .int x1), (2, .int x2), (3, .int x3), (4, .int x4), (5, .int x5), (6, .int x6), (7, .int x7), (8, .int x8), (9, .int x9)] → W p l e (zrm 2) s m args below meth c H locs 0 0 Q (F0 m 79 ls [])) : ∀ (S : zOb) (x1 : Int32) (x2 : Int32) (x3 : Int32) (x4 : Int32) (x5 : Int32) (x6 : Int32) (x8 : Int32) (x9 : Int32) (x10 : Int32) (s0 : Int32), f_Mo_grows_133 N k17 k39 k79 S x1 x2 x3 x4 x5 x6 x8 x9 x10 s0 = some out → ∀ {H : Heap} {locs : List Loc} {ls : Array Slot}, zIW G s (zset μ o S) H locs → lv_has ls 11 [(0, .ref (G.2.2.1 o 0)), (1, .int x1), (2, .int x2), (3, .int x3), (4, .int x4), (5, .int x5), (6, .int x6), (8, .int x8), (9, .int x9), (10, .int x10)] → W p l e (zrm 2) s m args below meth c H locs 0 0 Q (F0 m 133 ls [.int s0]) := by
  obtain ⟨hx, hb, hml, hown, hts, hK, hR⟩ := id cx
  intro S x1 x2 x3 x4 x5 x6 x8 x9 x10 s0  h H locs ls hI hl
  unfold f_Mo_grows_133 at h
  refine lv_iconst (v := (nI 0)) hx hb dX8_grows_133 (by decide) ?_
  exact t_Mo_grows_134 N hc cx hret hk17 hk39 hk79 S x1 x2 x3 x4 x5 x6 x8 x9 x10 (nI 0) s0 h hI hl
def f_Mo_grows_79 (N : Nat) (k17 : zOb → Int32 → Int32 → Option zOb) (k39 : zOb → Int32 → Int32 → Int32 → Int32 → Int32 → Int32 → Option zOb) : Nat → zOb → Int32 → Int32 → Int32 → Int32 → Int32 → Int32 → Int32 → Int32 → Int32 → Option zOb
  | 0, _, _, _, _, _, _, _, _, _, _ => none
  | n + 1, S, x1, x2, x3, x4, x5, x6, x7, x8, x9 => (if (nI 20) ≤ x9 then (if x3 < nI 0 then f_Mo_grows_193 N k17 k39 S x1 x2 x6 x7 x8 else (if x7 < x4 then f_Mo_grows_193 N k17 k39 S x1 x2 x6 x7 x8 else (if x7 = x4 then (if x8 ≤ x5 then f_Mo_grows_204 N k17 k39 S x1 x2 x3 x4 x5 x6 else f_Mo_grows_193 N k17 k39 S x1 x2 x6 x7 x8) else f_Mo_grows_204 N k17 k39 S x1 x2 x3 x4 x5 x6))) else if zin ((nI 13) + x6) 27 then (f_Mo_has ((S.1 1 (((nI 13) + x6).toNatClampNeg)) &&& ((S.1 1 1) ^^^ (-1 : Int32))) x9).bind (fun q22 => (if q22 = nI 0 then f_Mo_grows_133 N k17 k39 (f_Mo_grows_79 N k17 k39 n) S x1 x2 x3 x4 x5 x6 x8 x9 q22 x7 else if zin x9 20 then (if (S.1 14 x9.toNatClampNeg) = nI 0 then f_Mo_grows_134 N k17 k39 (f_Mo_grows_79 N k17 k39 n) S x1 x2 x3 x4 x5 x6 x8 x9 q22 (nI 1) x7 else f_Mo_grows_133 N k17 k39 (f_Mo_grows_79 N k17 k39 n) S x1 x2 x3 x4 x5 x6 x8 x9 q22 x7) else none)) else none)
set_option maxHeartbeats 4000000 in
set_option maxRecDepth 100000 in
theorem t_Mo_grows_79 (N : Nat) {p : Program} {l : Launch} {e : Env} {s : State} {m : MethodId} {args : Array Value} {below : List Frame} {meth : Method} {c : Code} {Q : State → Prop} {G : zG} {μ : zM} {o : Nat} (hc : o = 29) {out : zOb} (cx : zCX p (zrm 2) s m args c RX8 cX8_grows 11 2 G) (hret : zRv p l e (zrm 2) s m args below meth c cX8_grows G Q (zset μ o out)) {k17 : zOb → Int32 → Int32 → Option zOb} {k39 : zOb → Int32 → Int32 → Int32 → Int32 → Int32 → Int32 → Option zOb} (hk17 : ∀ (S : zOb) (x1 : Int32) (x2 : Int32), k17 S x1 x2 = some out → ∀ {H : Heap} {locs : List Loc} {ls : Array Slot}, zIW G s (zset μ o S) H locs → lv_has ls 11 [(0, .ref (G.2.2.1 o 0)), (1, .int x1), (2, .int x2)] → W p l e (zrm 2) s m args below meth c H locs 0 0 Q (F0 m 17 ls [])) (hk39 : ∀ (S : zOb) (x1 : Int32) (x2 : Int32) (x3 : Int32) (x4 : Int32) (x5 : Int32) (x6 : Int32), k39 S x1 x2 x3 x4 x5 x6 = some out → ∀ {H : Heap} {locs : List Loc} {ls : Array Slot}, zIW G s (zset μ o S) H locs → lv_has ls 11 [(0, .ref (G.2.2.1 o 0)), (1, .int x1), (2, .int x2), (3, .int x3), (4, .int x4), (5, .int x5), (6, .int x6)] → W p l e (zrm 2) s m args below meth c H locs 0 0 Q (F0 m 39 ls [])) : ∀ (n : Nat) (S : zOb) (x1 : Int32) (x2 : Int32) (x3 : Int32) (x4 : Int32) (x5 : Int32) (x6 : Int32) (x7 : Int32) (x8 : Int32) (x9 : Int32), f_Mo_grows_79 N k17 k39 n S x1 x2 x3 x4 x5 x6 x7 x8 x9 = some out → ∀ {H : Heap} {locs : List Loc} {ls : Array Slot}, zIW G s (zset μ o S) H locs → lv_has ls 11 [(0, .ref (G.2.2.1 o 0)), (1, .int x1), (2, .int x2), (3, .int x3), (4, .int x4), (5, .int x5), (6, .int x6), (7, .int x7), (8, .int x8), (9, .int x9)] → W p l e (zrm 2) s m args below meth c H locs 0 0 Q (F0 m 79 ls []) := by
  obtain ⟨hx, hb, hml, hown, hts, hK, hR⟩ := id cx
  intro n
  induction n with
  | zero =>
    intro S x1 x2 x3 x4 x5 x6 x7 x8 x9  h
    cases h
  | succ n ih =>
    intro S x1 x2 x3 x4 x5 x6 x7 x8 x9  h H locs ls hI hl
    rw [f_Mo_grows_79] at h
    refine lv_iload hx hb dX8_grows_79 (lv_at hl 9 rfl) ?_
    refine lv_bipush (v := (nI 20)) hx hb dX8_grows_81 (by decide) ?_
    refine lv_icmp_ge (tgt := 168) hx hb dX8_grows_83 (by decide) (fun c16 => ?_) (fun c16 => ?_)
    · have h := it_p h c16
      refine lv_iload_n hx hb dX8_grows_168 rfl (lv_at hl 3 rfl) ?_
      refine lv_if_lt (tgt := 193) hx hb dX8_grows_169 (by decide) (fun c17 => ?_) (fun c17 => ?_)
      · have h := it_p h c17
        exact t_Mo_grows_193 N hc cx hret hk17 hk39 S x1 x2 x6 x7 x8 h hI (lv_sub hl [0, 1, 2, 6, 7, 8] rfl)
      · have h := it_n h c17
        refine lv_iload hx hb dX8_grows_172 (lv_at hl 7 rfl) ?_
        refine lv_iload hx hb dX8_grows_174 (lv_at hl 4 rfl) ?_
        refine lv_icmp_lt (tgt := 193) hx hb dX8_grows_176 (by decide) (fun c18 => ?_) (fun c18 => ?_)
        · have h := it_p h c18
          exact t_Mo_grows_193 N hc cx hret hk17 hk39 S x1 x2 x6 x7 x8 h hI (lv_sub hl [0, 1, 2, 6, 7, 8] rfl)
        · have h := it_n h c18
          refine lv_iload hx hb dX8_grows_179 (lv_at hl 7 rfl) ?_
          refine lv_iload hx hb dX8_grows_181 (lv_at hl 4 rfl) ?_
          refine lv_icmp_ne (tgt := 204) hx hb dX8_grows_183 (by decide) (fun c19 => ?_) (fun c19 => ?_)
          · have h := it_n h c19
            exact t_Mo_grows_204 N hc cx hret hk17 hk39 S x1 x2 x3 x4 x5 x6 h hI (lv_sub hl [0, 1, 2, 3, 4, 5, 6] rfl)
          · have h := it_p h c19
            refine lv_iload hx hb dX8_grows_186 (lv_at hl 8 rfl) ?_
            refine lv_iload hx hb dX8_grows_188 (lv_at hl 5 rfl) ?_
            refine lv_icmp_le (tgt := 204) hx hb dX8_grows_190 (by decide) (fun c20 => ?_) (fun c20 => ?_)
            · have h := it_p h c20
              exact t_Mo_grows_204 N hc cx hret hk17 hk39 S x1 x2 x3 x4 x5 x6 h hI (lv_sub hl [0, 1, 2, 3, 4, 5, 6] rfl)
            · have h := it_n h c20
              exact t_Mo_grows_193 N hc cx hret hk17 hk39 S x1 x2 x6 x7 x8 h hI (lv_sub hl [0, 1, 2, 6, 7, 8] rfl)
    · have h := it_n h c16
      refine lv_aload_n hx hb dX8_grows_86 rfl (lv_at hl 0 rfl) ?_
      refine g8_0 cx hI hc (zset_s _ _ _) w_108 dX8_grows_87 ?_
      refine lv_bipush (v := (nI 13)) hx hb dX8_grows_90 (by decide) ?_
      refine lv_iload hx hb dX8_grows_92 (lv_at hl 6 rfl) ?_
      refine lv_iadd hx hb dX8_grows_94 ?_
      obtain ⟨g21, h⟩ := gd_el h
      refine zr_iald cx hI (k8_1 hc) (zset_s _ _ _) (z8_1 hc) rfl g21 dX8_grows_95 ?_
      refine lv_aload_n hx hb dX8_grows_96 rfl (lv_at hl 0 rfl) ?_
      refine g8_0 cx hI hc (zset_s _ _ _) w_108 dX8_grows_97 ?_
      refine lv_iconst (v := (nI 1)) hx hb dX8_grows_100 (by decide) ?_
      refine zr_iald cx hI (k8_1 hc) (zset_s _ _ _) (z8_1 hc) rfl (by decide) dX8_grows_101 ?_
      refine lv_iconst (v := (-1 : Int32)) hx hb dX8_grows_102 (by decide) ?_
      refine lv_ixor hx hb dX8_grows_103 ?_
      refine lv_iand hx hb dX8_grows_104 ?_
      refine lv_iload hx hb dX8_grows_105 (lv_at hl 9 rfl) ?_
      obtain ⟨q22, hq22, h⟩ := bi_el h
      refine zcSi (As := [.int ((S.1 1 (((nI 13) + x6).toNatClampNeg)) &&& ((S.1 1 1) ^^^ (-1 : Int32))), .int x9]) cx hI (c_Mo_has  hq22) mt_yX8_has ms_yX8_has w_275 (by omega) rfl hl.1 rfl (Nat.le_of_ble_eq_true rfl) dX8_grows_107 (fun H locs hI => ?_)
      refine lv_istore (lv' := [(10, .int q22), (0, .ref (G.2.2.1 o 0)), (1, .int x1), (2, .int x2), (3, .int x3), (4, .int x4), (5, .int x5), (6, .int x6), (7, .int x7), (8, .int x8), (9, .int x9)]) hx hb dX8_grows_110 hl (by decide) rfl (fun ls hl => ?_)
      refine lv_iload hx hb dX8_grows_112 (lv_at hl 8 rfl) ?_
      refine lv_iload hx hb dX8_grows_114 (lv_at hl 0 rfl) ?_
      refine lv_if_eq (tgt := 133) hx hb dX8_grows_116 (by decide) (fun c23 => ?_) (fun c23 => ?_)
      · have h := it_p h c23
        exact t_Mo_grows_133 N hc cx hret hk17 hk39 ih S x1 x2 x3 x4 x5 x6 x8 x9 q22 x7 h hI (lv_sub hl [1, 2, 3, 4, 5, 6, 7, 9, 10, 0] rfl)
      · have h := it_n h c23
        refine lv_aload_n hx hb dX8_grows_119 rfl (lv_at hl 1 rfl) ?_
        refine g8_13 cx hI hc (zset_s _ _ _) w_119 dX8_grows_120 ?_
        refine lv_iload hx hb dX8_grows_123 (lv_at hl 10 rfl) ?_
        obtain ⟨g30, h⟩ := gd_el h
        refine zr_iald cx hI (k8_14 hc) (zset_s _ _ _) (z8_14 hc) rfl g30 dX8_grows_125 ?_
        refine lv_if_ne (tgt := 133) hx hb dX8_grows_126 (by decide) (fun c31 => ?_) (fun c31 => ?_)
        · have h := it_n h c31
          exact t_Mo_grows_133 N hc cx hret hk17 hk39 ih S x1 x2 x3 x4 x5 x6 x8 x9 q22 x7 h hI (lv_sub hl [1, 2, 3, 4, 5, 6, 7, 9, 10, 0] rfl)
        · have h := it_p h c31
          refine lv_iconst (v := (nI 1)) hx hb dX8_grows_129 (by decide) ?_
          refine lv_goto (tgt := 134) hx hb dX8_grows_130 (by decide) ?_
          exact t_Mo_grows_134 N hc cx hret hk17 hk39 ih S x1 x2 x3 x4 x5 x6 x8 x9 q22 (nI 1) x7 h hI (lv_sub hl [1, 2, 3, 4, 5, 6, 7, 9, 10, 0] rfl)
def f_Mo_grows_39 (N : Nat) (k17 : zOb → Int32 → Int32 → Option zOb) : Nat → zOb → Int32 → Int32 → Int32 → Int32 → Int32 → Int32 → Option zOb
  | 0, _, _, _, _, _, _, _ => none
  | n + 1, S, x1, x2, x3, x4, x5, x6 => (if (S.1 1 0) ≤ x6 then if zin x2 7 then bnd (zI S 13 x2.toNatClampNeg x3) (fun Z6 => bnd (x1 &&& (((nI 1) <<< (x3 &&& 31)) ^^^ (-1 : Int32))) (fun v7 => (f_Mo_wordsAt Z6 x2).bind (fun q8 => (f_Mo_reads N Z6 x2 q8).bind (fun q9 => bnd (x2 + (nI 1)) (fun v10 => k17 q9 v7 v10))))) else none else (f_Mo_has x1 x6).bind (fun q11 => (if q11 = nI 0 then f_Mo_grows_204 N k17 (f_Mo_grows_39 N k17 n) S x1 x2 x3 x4 x5 x6 else (f_Mo_aheadOf N S x6).bind (fun q14 => (if (q14 &&& x1) = nI 0 then f_Mo_grows_79 N k17 (f_Mo_grows_39 N k17 n) N S x1 x2 x3 x4 x5 x6 (nI 0) (nI 0) (nI 0) else f_Mo_grows_204 N k17 (f_Mo_grows_39 N k17 n) S x1 x2 x3 x4 x5 x6)))))
set_option maxHeartbeats 4000000 in
set_option maxRecDepth 100000 in
theorem t_Mo_grows_39 (N : Nat) {p : Program} {l : Launch} {e : Env} {s : State} {m : MethodId} {args : Array Value} {below : List Frame} {meth : Method} {c : Code} {Q : State → Prop} {G : zG} {μ : zM} {o : Nat} (hc : o = 29) {out : zOb} (cx : zCX p (zrm 2) s m args c RX8 cX8_grows 11 2 G) (hret : zRv p l e (zrm 2) s m args below meth c cX8_grows G Q (zset μ o out)) {k17 : zOb → Int32 → Int32 → Option zOb} (hk17 : ∀ (S : zOb) (x1 : Int32) (x2 : Int32), k17 S x1 x2 = some out → ∀ {H : Heap} {locs : List Loc} {ls : Array Slot}, zIW G s (zset μ o S) H locs → lv_has ls 11 [(0, .ref (G.2.2.1 o 0)), (1, .int x1), (2, .int x2)] → W p l e (zrm 2) s m args below meth c H locs 0 0 Q (F0 m 17 ls [])) : ∀ (n : Nat) (S : zOb) (x1 : Int32) (x2 : Int32) (x3 : Int32) (x4 : Int32) (x5 : Int32) (x6 : Int32), f_Mo_grows_39 N k17 n S x1 x2 x3 x4 x5 x6 = some out → ∀ {H : Heap} {locs : List Loc} {ls : Array Slot}, zIW G s (zset μ o S) H locs → lv_has ls 11 [(0, .ref (G.2.2.1 o 0)), (1, .int x1), (2, .int x2), (3, .int x3), (4, .int x4), (5, .int x5), (6, .int x6)] → W p l e (zrm 2) s m args below meth c H locs 0 0 Q (F0 m 39 ls []) := by
  obtain ⟨hx, hb, hml, hown, hts, hK, hR⟩ := id cx
  intro n
  induction n with
  | zero =>
    intro S x1 x2 x3 x4 x5 x6  h
    cases h
  | succ n ih =>
    intro S x1 x2 x3 x4 x5 x6  h H locs ls hI hl
    rw [f_Mo_grows_39] at h
    refine lv_iload hx hb dX8_grows_39 (lv_at hl 6 rfl) ?_
    refine lv_aload_n hx hb dX8_grows_41 rfl (lv_at hl 0 rfl) ?_
    refine g8_0 cx hI hc (zset_s _ _ _) w_108 dX8_grows_42 ?_
    refine lv_iconst (v := (nI 0)) hx hb dX8_grows_45 (by decide) ?_
    refine zr_iald cx hI (k8_1 hc) (zset_s _ _ _) (z8_1 hc) rfl (by decide) dX8_grows_46 ?_
    refine lv_icmp_ge (tgt := 210) hx hb dX8_grows_47 (by decide) (fun c4 => ?_) (fun c4 => ?_)
    · have h := it_p h c4
      refine lv_aload_n hx hb dX8_grows_210 rfl (lv_at hl 0 rfl) ?_
      refine g8_12 cx hI hc (zset_s _ _ _) w_118 dX8_grows_211 ?_
      refine lv_iload_n hx hb dX8_grows_214 rfl (lv_at hl 2 rfl) ?_
      refine lv_iload_n hx hb dX8_grows_215 rfl (lv_at hl 3 rfl) ?_
      obtain ⟨g5, h⟩ := gd_el h
      obtain ⟨Z6, eZ6⟩ : ∃ z : zOb, z = zI S 13 x2.toNatClampNeg x3 := ⟨_, rfl⟩
      have h := bnd_el h eZ6
      refine zr_iast cx hI (k8_13 hc) (zset_s _ _ _) (z8_13 hc) rfl g5 (zss eZ6) dX8_grows_216 (fun H locs hI => ?_)
      refine lv_iload_n hx hb dX8_grows_217 rfl (lv_at hl 1 rfl) ?_
      refine lv_iconst (v := (nI 1)) hx hb dX8_grows_218 (by decide) ?_
      refine lv_iload_n hx hb dX8_grows_219 rfl (lv_at hl 3 rfl) ?_
      refine lv_ishl hx hb dX8_grows_220 ?_
      refine lv_iconst (v := (-1 : Int32)) hx hb dX8_grows_221 (by decide) ?_
      refine lv_ixor hx hb dX8_grows_222 ?_
      refine lv_iand hx hb dX8_grows_223 ?_
      refine lv_topi (fun v7 ev7 => ?_)
      have h := bnd_el h ev7
      refine lv_istore_n (lv' := [(1, .int v7), (0, .ref (G.2.2.1 o 0)), (2, .int x2), (3, .int x3), (4, .int x4), (5, .int x5), (6, .int x6)]) hx hb dX8_grows_224 rfl hl (by decide) rfl (fun ls hl => ?_)
      refine lv_aload_n hx hb dX8_grows_225 rfl (lv_at hl 1 rfl) ?_
      refine lv_iload_n hx hb dX8_grows_226 rfl (lv_at hl 2 rfl) ?_
      refine lv_aload_n hx hb dX8_grows_227 rfl (lv_at hl 1 rfl) ?_
      refine lv_iload_n hx hb dX8_grows_228 rfl (lv_at hl 2 rfl) ?_
      obtain ⟨q8, hq8, h⟩ := bi_el h
      refine zcVi (As := [.int x2]) cx hI (c_Mo_wordsAt hc (zset_s _ _ _) hq8) mt_yX8_wordsAt mv_yX8_wordsAt w_500 (by omega) (k8_0 hc) (zv8 hc) rfl hl.1 rfl (Nat.le_of_ble_eq_true rfl) dX8_grows_229 (fun H locs hI => ?_)
      obtain ⟨q9, hq9, h⟩ := bi_el h
      refine zcVv (As := [.int x2, .int q8]) cx hI (c_Mo_reads N hc (zset_s _ _ _) hq9 (zset_ss _ _ _ _)) mt_yX8_reads mv_yX8_reads w_504 (by omega) (k8_0 hc) (zv8 hc) rfl hl.1 rfl (Nat.le_of_ble_eq_true rfl) dX8_grows_232 (fun H locs hI => ?_)
      obtain ⟨v10, ev10⟩ : ∃ z : Int32, z = x2 + (nI 1) := ⟨_, rfl⟩
      have h := bnd_el h ev10
      refine lv_iinc (v := v10) (lv' := [(2, .int v10), (1, .int v7), (0, .ref (G.2.2.1 o 0)), (3, .int x3), (4, .int x4), (5, .int x5), (6, .int x6)]) hx hb dX8_grows_235 hl (k := 2) rfl (by rw [ev10]; rfl) (by decide) rfl (fun ls hl => ?_)
      refine lv_goto (tgt := 17) hx hb dX8_grows_238 (by decide) ?_
      exact hk17 q9 v7 v10 h hI (lv_sub hl [2, 1, 0] rfl)
    · have h := it_n h c4
      refine lv_iload_n hx hb dX8_grows_50 rfl (lv_at hl 1 rfl) ?_
      refine lv_iload hx hb dX8_grows_51 (lv_at hl 6 rfl) ?_
      obtain ⟨q11, hq11, h⟩ := bi_el h
      refine zcSi (As := [.int x1, .int x6]) cx hI (c_Mo_has  hq11) mt_yX8_has ms_yX8_has w_275 (by omega) rfl hl.1 rfl (Nat.le_of_ble_eq_true rfl) dX8_grows_53 (fun H locs hI => ?_)
      refine lv_if_eq (tgt := 204) hx hb dX8_grows_56 (by decide) (fun c12 => ?_) (fun c12 => ?_)
      · have h := it_p h c12
        exact t_Mo_grows_204 N hc cx hret hk17 ih S x1 x2 x3 x4 x5 x6 h hI hl
      · have h := it_n h c12
        refine lv_aload_n hx hb dX8_grows_59 rfl (lv_at hl 0 rfl) ?_
        refine lv_iload hx hb dX8_grows_60 (lv_at hl 6 rfl) ?_
        obtain ⟨q14, hq14, h⟩ := bi_el h
        refine zcVi (As := [.int x6]) cx hI (c_Mo_aheadOf N hc (zset_s _ _ _) hq14) mt_yX8_aheadOf mv_yX8_aheadOf w_531 (by omega) (k8_0 hc) (zv8 hc) rfl hl.1 rfl (Nat.le_of_ble_eq_true rfl) dX8_grows_62 (fun H locs hI => ?_)
        refine lv_iload_n hx hb dX8_grows_65 rfl (lv_at hl 1 rfl) ?_
        refine lv_iand hx hb dX8_grows_66 ?_
        refine lv_if_ne (tgt := 204) hx hb dX8_grows_67 (by decide) (fun c15 => ?_) (fun c15 => ?_)
        · have h := it_n h c15
          exact t_Mo_grows_204 N hc cx hret hk17 ih S x1 x2 x3 x4 x5 x6 h hI hl
        · have h := it_p h c15
          refine lv_iconst (v := (nI 0)) hx hb dX8_grows_70 (by decide) ?_
          refine lv_istore (lv' := [(7, .int (nI 0)), (0, .ref (G.2.2.1 o 0)), (1, .int x1), (2, .int x2), (3, .int x3), (4, .int x4), (5, .int x5), (6, .int x6)]) hx hb dX8_grows_71 hl (by decide) rfl (fun ls hl => ?_)
          refine lv_iconst (v := (nI 0)) hx hb dX8_grows_73 (by decide) ?_
          refine lv_istore (lv' := [(8, .int (nI 0)), (7, .int (nI 0)), (0, .ref (G.2.2.1 o 0)), (1, .int x1), (2, .int x2), (3, .int x3), (4, .int x4), (5, .int x5), (6, .int x6)]) hx hb dX8_grows_74 hl (by decide) rfl (fun ls hl => ?_)
          refine lv_iconst (v := (nI 0)) hx hb dX8_grows_76 (by decide) ?_
          refine lv_istore (lv' := [(9, .int (nI 0)), (8, .int (nI 0)), (7, .int (nI 0)), (0, .ref (G.2.2.1 o 0)), (1, .int x1), (2, .int x2), (3, .int x3), (4, .int x4), (5, .int x5), (6, .int x6)]) hx hb dX8_grows_77 hl (by decide) rfl (fun ls hl => ?_)
          exact t_Mo_grows_79 N hc cx hret hk17 ih N S x1 x2 x3 x4 x5 x6 (nI 0) (nI 0) (nI 0) h hI (lv_sub hl [3, 4, 5, 6, 7, 8, 9, 2, 1, 0] rfl)
def f_Mo_grows_17 (N : Nat)  : Nat → zOb → Int32 → Int32 → Option zOb
  | 0, _, _, _ => none
  | n + 1, S, x1, x2 => (if (S.1 1 0) ≤ x2 then some S else f_Mo_grows_39 N (f_Mo_grows_17 N n) N S x1 x2 (-4 : Int32) (nI 0) (nI 0) (nI 0))
set_option maxHeartbeats 4000000 in
set_option maxRecDepth 100000 in
theorem t_Mo_grows_17 (N : Nat) {p : Program} {l : Launch} {e : Env} {s : State} {m : MethodId} {args : Array Value} {below : List Frame} {meth : Method} {c : Code} {Q : State → Prop} {G : zG} {μ : zM} {o : Nat} (hc : o = 29) {out : zOb} (cx : zCX p (zrm 2) s m args c RX8 cX8_grows 11 2 G) (hret : zRv p l e (zrm 2) s m args below meth c cX8_grows G Q (zset μ o out))   : ∀ (n : Nat) (S : zOb) (x1 : Int32) (x2 : Int32), f_Mo_grows_17 N n S x1 x2 = some out → ∀ {H : Heap} {locs : List Loc} {ls : Array Slot}, zIW G s (zset μ o S) H locs → lv_has ls 11 [(0, .ref (G.2.2.1 o 0)), (1, .int x1), (2, .int x2)] → W p l e (zrm 2) s m args below meth c H locs 0 0 Q (F0 m 17 ls []) := by
  obtain ⟨hx, hb, hml, hown, hts, hK, hR⟩ := id cx
  intro n
  induction n with
  | zero =>
    intro S x1 x2  h
    cases h
  | succ n ih =>
    intro S x1 x2  h H locs ls hI hl
    rw [f_Mo_grows_17] at h
    refine lv_iload_n hx hb dX8_grows_17 rfl (lv_at hl 2 rfl) ?_
    refine lv_aload_n hx hb dX8_grows_18 rfl (lv_at hl 0 rfl) ?_
    refine g8_0 cx hI hc (zset_s _ _ _) w_108 dX8_grows_19 ?_
    refine lv_iconst (v := (nI 0)) hx hb dX8_grows_22 (by decide) ?_
    refine zr_iald cx hI (k8_1 hc) (zset_s _ _ _) (z8_1 hc) rfl (by decide) dX8_grows_23 ?_
    refine lv_icmp_ge (tgt := 241) hx hb dX8_grows_24 (by decide) (fun c3 => ?_) (fun c3 => ?_)
    · have h := it_p h c3
      obtain rfl := Option.some.inj h
      exact hret _ _ _ _ dX8_grows_241 hI
    · have h := it_n h c3
      refine lv_bipush (v := (-4 : Int32)) hx hb dX8_grows_27 (by decide) ?_
      refine lv_istore_n (lv' := [(3, .int (-4 : Int32)), (0, .ref (G.2.2.1 o 0)), (1, .int x1), (2, .int x2)]) hx hb dX8_grows_29 rfl hl (by decide) rfl (fun ls hl => ?_)
      refine lv_iconst (v := (nI 0)) hx hb dX8_grows_30 (by decide) ?_
      refine lv_istore (lv' := [(4, .int (nI 0)), (3, .int (-4 : Int32)), (0, .ref (G.2.2.1 o 0)), (1, .int x1), (2, .int x2)]) hx hb dX8_grows_31 hl (by decide) rfl (fun ls hl => ?_)
      refine lv_iconst (v := (nI 0)) hx hb dX8_grows_33 (by decide) ?_
      refine lv_istore (lv' := [(5, .int (nI 0)), (4, .int (nI 0)), (3, .int (-4 : Int32)), (0, .ref (G.2.2.1 o 0)), (1, .int x1), (2, .int x2)]) hx hb dX8_grows_34 hl (by decide) rfl (fun ls hl => ?_)
      refine lv_iconst (v := (nI 0)) hx hb dX8_grows_36 (by decide) ?_
      refine lv_istore (lv' := [(6, .int (nI 0)), (5, .int (nI 0)), (4, .int (nI 0)), (3, .int (-4 : Int32)), (0, .ref (G.2.2.1 o 0)), (1, .int x1), (2, .int x2)]) hx hb dX8_grows_37 hl (by decide) rfl (fun ls hl => ?_)
      exact t_Mo_grows_39 N hc cx hret ih N S x1 x2 (-4 : Int32) (nI 0) (nI 0) (nI 0) h hI (lv_sub hl [4, 5, 6, 3, 2, 1, 0] rfl)
def f_Mo_grows (N : Nat) (S : zOb) : Option zOb :=
  bnd (((nI 1) <<< ((S.1 1 0) &&& 31)) - (nI 1)) (fun v1 => (f_Mo_begins N S).bind (fun q2 => f_Mo_grows_17 N N q2 v1 (nI 0)))
set_option maxHeartbeats 4000000 in
set_option maxRecDepth 100000 in
theorem c_Mo_grows (N : Nat) {l : Launch} {G : zG} {μ : zM} {o : Nat} (hc : o = 29) {S : zOb} (hS : μ o = S)  {out : zOb} (h : f_Mo_grows N S  = some out) {μ' : zM} (hμ : zset μ o out = μ') : zMV l G yX8_grows cX8_grows 11 none 2 [.ref (G.2.2.1 o 0)] μ μ' := by
  subst hμ
  refine zMV.of (by decide) (Nat.le_of_ble_eq_true rfl) (fun p e s m args below meth c Q ls cx hI hl hret => ?_)
  obtain ⟨hx, hb, hml, hown, hts, hK, hR⟩ := id cx
  have hl : lv_has ls 11 [(0, .ref (G.2.2.1 o 0))] := hl
  rw [← zset_idS hS] at hI
  unfold f_Mo_grows at h
  refine lv_iconst (v := (nI 1)) hx hb dX8_grows_0 (by decide) ?_
  refine lv_aload_n hx hb dX8_grows_1 rfl (lv_at hl 0 rfl) ?_
  refine g8_0 cx hI hc (zset_s _ _ _) w_108 dX8_grows_2 ?_
  refine lv_iconst (v := (nI 0)) hx hb dX8_grows_5 (by decide) ?_
  refine zr_iald cx hI (k8_1 hc) (zset_s _ _ _) (z8_1 hc) rfl (by decide) dX8_grows_6 ?_
  refine lv_ishl hx hb dX8_grows_7 ?_
  refine lv_iconst (v := (nI 1)) hx hb dX8_grows_8 (by decide) ?_
  refine lv_isub hx hb dX8_grows_9 ?_
  refine lv_topi (fun v1 ev1 => ?_)
  have h := bnd_el h ev1
  refine lv_istore_n (lv' := [(1, .int v1), (0, .ref (G.2.2.1 o 0))]) hx hb dX8_grows_10 rfl hl (by decide) rfl (fun ls hl => ?_)
  refine lv_aload_n hx hb dX8_grows_11 rfl (lv_at hl 1 rfl) ?_
  obtain ⟨q2, hq2, h⟩ := bi_el h
  refine zcVv (As := []) cx hI (c_Mo_begins N hc (zset_s _ _ _) hq2 (zset_ss _ _ _ _)) mt_yX8_begins mv_yX8_begins w_496 (by omega) (k8_0 hc) (zv8 hc) rfl hl.1 rfl (Nat.le_of_ble_eq_true rfl) dX8_grows_12 (fun H locs hI => ?_)
  refine lv_iconst (v := (nI 0)) hx hb dX8_grows_15 (by decide) ?_
  refine lv_istore_n (lv' := [(2, .int (nI 0)), (1, .int v1), (0, .ref (G.2.2.1 o 0))]) hx hb dX8_grows_16 rfl hl (by decide) rfl (fun ls hl => ?_)
  exact t_Mo_grows_17 N hc cx hret N q2 v1 (nI 0) h hI (lv_sub hl [2, 1, 0] rfl)
def f_Mo_best_83 (N : Nat)  (S : zOb) (s0 : Int32) : Option (Int32 × zOb) :=
  some (s0, S)
set_option maxHeartbeats 4000000 in
set_option maxRecDepth 100000 in
theorem t_Mo_best_83 (N : Nat) {p : Program} {l : Launch} {e : Env} {s : State} {m : MethodId} {args : Array Value} {below : List Frame} {meth : Method} {c : Code} {Q : State → Prop} {G : zG} {μ : zM} {o : Nat} (hc : o = 29) {out : (Int32 × zOb)} (cx : zCX p (zrm 4) s m args c RX8 cX8_best 2 4 G) (hret : zRi p l e (zrm 4) s m args below meth c cX8_best G .int Q out.1 (zset μ o out.2))   : ∀ (S : zOb) (s0 : Int32), f_Mo_best_83 N S s0 = some out → ∀ {H : Heap} {locs : List Loc} {ls : Array Slot}, zIW G s (zset μ o S) H locs → lv_has ls 2 [] → W p l e (zrm 4) s m args below meth c H locs 0 0 Q (F0 m 83 ls [.int s0]) := by
  obtain ⟨hx, hb, hml, hown, hts, hK, hR⟩ := id cx
  intro S s0  h H locs ls hI hl
  unfold f_Mo_best_83 at h
  obtain rfl := Option.some.inj h
  exact hret _ _ _ _ dX8_best_83 rfl hI
def f_Mo_best_50 (N : Nat)  (S : zOb) (s0 : Int32) : Option (Int32 × zOb) :=
  some (s0, S)
set_option maxHeartbeats 4000000 in
set_option maxRecDepth 100000 in
theorem t_Mo_best_50 (N : Nat) {p : Program} {l : Launch} {e : Env} {s : State} {m : MethodId} {args : Array Value} {below : List Frame} {meth : Method} {c : Code} {Q : State → Prop} {G : zG} {μ : zM} {o : Nat} (hc : o = 29) {out : (Int32 × zOb)} (cx : zCX p (zrm 4) s m args c RX8 cX8_best 2 4 G) (hret : zRi p l e (zrm 4) s m args below meth c cX8_best G .int Q out.1 (zset μ o out.2))   : ∀ (S : zOb) (s0 : Int32), f_Mo_best_50 N S s0 = some out → ∀ {H : Heap} {locs : List Loc} {ls : Array Slot}, zIW G s (zset μ o S) H locs → lv_has ls 2 [] → W p l e (zrm 4) s m args below meth c H locs 0 0 Q (F0 m 50 ls [.int s0]) := by
  obtain ⟨hx, hb, hml, hown, hts, hK, hR⟩ := id cx
  intro S s0  h H locs ls hI hl
  unfold f_Mo_best_50 at h
  obtain rfl := Option.some.inj h
  exact hret _ _ _ _ dX8_best_50 rfl hI
def f_Mo_best (N : Nat) (S : zOb) (a1 : Int32) : Option (Int32 × zOb) :=
  (f_Mo_in a1.toInt64 (0 : Int64) (5 : Int64)).bind (fun q1 => (if q1 = nI 0 then some ((-1 : Int32), S) else (if (nI 3) ≤ a1 then (f_Mo_grows N S).bind (fun q4 => (if a1 = (nI 3) then (f_Mo_number N q4).bind (fun q9 => f_Mo_best_83 N q4 q9) else (if a1 = (nI 4) then (f_Mo_peak N q4).bind (fun q8 => f_Mo_best_83 N q4 q8) else (f_Mo_loss N q4).bind (fun q7 => f_Mo_best_83 N q4 q7)))) else (f_Mo_laysBest N S).bind (fun q10 => (if a1 = nI 0 then f_Mo_best_50 N q10 (q10.1 0 19) else (if a1 = (nI 1) then f_Mo_best_50 N q10 (q10.1 0 20) else f_Mo_best_50 N q10 (q10.1 0 21)))))))
set_option maxHeartbeats 4000000 in
set_option maxRecDepth 100000 in
theorem c_Mo_best (N : Nat) {l : Launch} {G : zG} {μ : zM} {o : Nat} (hc : o = 29) {S : zOb} (hS : μ o = S) {a1 : Int32} {out : (Int32 × zOb)} (h : f_Mo_best N S a1 = some out) {μ' : zM} (hμ : zset μ o out.2 = μ') : zMI l G yX8_best cX8_best 2 (some .int) 4 [.ref (G.2.2.1 o 0), .int a1] μ out.1 μ' := by
  subst hμ
  refine zMI.of (by decide) (Nat.le_of_ble_eq_true rfl) (fun p e s m args below meth c Q ls cx hI hl hret => ?_)
  obtain ⟨hx, hb, hml, hown, hts, hK, hR⟩ := id cx
  have hl : lv_has ls 2 [(0, .ref (G.2.2.1 o 0)), (1, .int a1)] := hl
  rw [← zset_idS hS] at hI
  unfold f_Mo_best at h
  refine lv_iload_n hx hb dX8_best_0 rfl (lv_at hl 1 rfl) ?_
  refine lv_i2l hx hb dX8_best_1 rfl ?_
  refine lv_lconst (v := (0 : Int64)) hx hb dX8_best_2 (by decide) ?_
  refine lv_ldc2 (v := (5 : Int64)) hx hb hown (hts _ w_627) dX8_best_3 ?_
  obtain ⟨q1, hq1, h⟩ := bi_el h
  refine zcSi (As := [.long a1.toInt64, .long (0 : Int64), .long (5 : Int64)]) cx hI (c_Mo_in  hq1) mt_yX8_in ms_yX8_in w_179 (by omega) rfl hl.1 rfl (Nat.le_of_ble_eq_true rfl) dX8_best_6 (fun H locs hI => ?_)
  refine lv_if_ne (tgt := 14) hx hb dX8_best_9 (by decide) (fun c2 => ?_) (fun c2 => ?_)
  · have h := it_n h c2
    refine lv_iload_n hx hb dX8_best_14 rfl (lv_at hl 1 rfl) ?_
    refine lv_iconst (v := (nI 3)) hx hb dX8_best_15 (by decide) ?_
    refine lv_icmp_ge (tgt := 51) hx hb dX8_best_16 (by decide) (fun c3 => ?_) (fun c3 => ?_)
    · have h := it_p h c3
      refine lv_aload_n hx hb dX8_best_51 rfl (lv_at hl 0 rfl) ?_
      obtain ⟨q4, hq4, h⟩ := bi_el h
      refine zcVv (As := []) cx hI (c_Mo_grows N hc (zset_s _ _ _) hq4 (zset_ss _ _ _ _)) mt_yX8_grows mv_yX8_grows w_527 (by omega) (k8_0 hc) (zv8 hc) rfl hl.1 rfl (Nat.le_of_ble_eq_true rfl) dX8_best_52 (fun H locs hI => ?_)
      refine lv_iload_n hx hb dX8_best_55 rfl (lv_at hl 1 rfl) ?_
      refine lv_iconst (v := (nI 3)) hx hb dX8_best_56 (by decide) ?_
      refine lv_icmp_ne (tgt := 67) hx hb dX8_best_57 (by decide) (fun c5 => ?_) (fun c5 => ?_)
      · have h := it_n h c5
        refine lv_iload_n hx hb dX8_best_67 rfl (lv_at hl 1 rfl) ?_
        refine lv_iconst (v := (nI 4)) hx hb dX8_best_68 (by decide) ?_
        refine lv_icmp_ne (tgt := 79) hx hb dX8_best_69 (by decide) (fun c6 => ?_) (fun c6 => ?_)
        · have h := it_n h c6
          refine lv_aload_n hx hb dX8_best_79 rfl (lv_at hl 0 rfl) ?_
          obtain ⟨q7, hq7, h⟩ := bi_el h
          refine zcVi (As := []) cx hI (c_Mo_loss N hc (zset_s _ _ _) hq7) mt_yX8_loss mv_yX8_loss w_519 (by omega) (k8_0 hc) (zv8 hc) rfl hl.1 rfl (Nat.le_of_ble_eq_true rfl) dX8_best_80 (fun H locs hI => ?_)
          exact t_Mo_best_83 N hc cx hret q4 q7 h hI (lv_sub hl [] rfl)
        · have h := it_p h c6
          refine lv_aload_n hx hb dX8_best_72 rfl (lv_at hl 0 rfl) ?_
          obtain ⟨q8, hq8, h⟩ := bi_el h
          refine zcVi (As := []) cx hI (c_Mo_peak N hc (zset_s _ _ _) hq8) mt_yX8_peak mv_yX8_peak w_512 (by omega) (k8_0 hc) (zv8 hc) rfl hl.1 rfl (Nat.le_of_ble_eq_true rfl) dX8_best_73 (fun H locs hI => ?_)
          refine lv_goto (tgt := 83) hx hb dX8_best_76 (by decide) ?_
          exact t_Mo_best_83 N hc cx hret q4 q8 h hI (lv_sub hl [] rfl)
      · have h := it_p h c5
        refine lv_aload_n hx hb dX8_best_60 rfl (lv_at hl 0 rfl) ?_
        obtain ⟨q9, hq9, h⟩ := bi_el h
        refine zcVi (As := []) cx hI (c_Mo_number N hc (zset_s _ _ _) hq9) mt_yX8_number mv_yX8_number w_474 (by omega) (k8_0 hc) (zv8 hc) rfl hl.1 rfl (Nat.le_of_ble_eq_true rfl) dX8_best_61 (fun H locs hI => ?_)
        refine lv_goto (tgt := 83) hx hb dX8_best_64 (by decide) ?_
        exact t_Mo_best_83 N hc cx hret q4 q9 h hI (lv_sub hl [] rfl)
    · have h := it_n h c3
      refine lv_aload_n hx hb dX8_best_19 rfl (lv_at hl 0 rfl) ?_
      obtain ⟨q10, hq10, h⟩ := bi_el h
      refine zcVv (As := []) cx hI (c_Mo_laysBest N hc (zset_s _ _ _) hq10 (zset_ss _ _ _ _)) mt_yX8_laysBest mv_yX8_laysBest w_478 (by omega) (k8_0 hc) (zv8 hc) rfl hl.1 rfl (Nat.le_of_ble_eq_true rfl) dX8_best_20 (fun H locs hI => ?_)
      refine lv_iload_n hx hb dX8_best_23 rfl (lv_at hl 1 rfl) ?_
      refine lv_if_ne (tgt := 34) hx hb dX8_best_24 (by decide) (fun c11 => ?_) (fun c11 => ?_)
      · have h := it_n h c11
        refine lv_iload_n hx hb dX8_best_34 rfl (lv_at hl 1 rfl) ?_
        refine lv_iconst (v := (nI 1)) hx hb dX8_best_35 (by decide) ?_
        refine lv_icmp_ne (tgt := 46) hx hb dX8_best_36 (by decide) (fun c12 => ?_) (fun c12 => ?_)
        · have h := it_n h c12
          refine lv_aload_n hx hb dX8_best_46 rfl (lv_at hl 0 rfl) ?_
          refine g8_21 cx hI hc (zset_s _ _ _) w_483 dX8_best_47 ?_
          exact t_Mo_best_50 N hc cx hret q10 (q10.1 0 21) h hI (lv_sub hl [] rfl)
        · have h := it_p h c12
          refine lv_aload_n hx hb dX8_best_39 rfl (lv_at hl 0 rfl) ?_
          refine g8_20 cx hI hc (zset_s _ _ _) w_482 dX8_best_40 ?_
          refine lv_goto (tgt := 50) hx hb dX8_best_43 (by decide) ?_
          exact t_Mo_best_50 N hc cx hret q10 (q10.1 0 20) h hI (lv_sub hl [] rfl)
      · have h := it_p h c11
        refine lv_aload_n hx hb dX8_best_27 rfl (lv_at hl 0 rfl) ?_
        refine g8_19 cx hI hc (zset_s _ _ _) w_469 dX8_best_28 ?_
        refine lv_goto (tgt := 50) hx hb dX8_best_31 (by decide) ?_
        exact t_Mo_best_50 N hc cx hret q10 (q10.1 0 19) h hI (lv_sub hl [] rfl)
  · have h := it_p h c2
    refine lv_iconst (v := (-1 : Int32)) hx hb dX8_best_12 (by decide) ?_
    obtain rfl := Option.some.inj h
    exact hret _ _ _ _ dX8_best_13 rfl hI
def f_Mo_many_75 (N : Nat) (k20 : zOb → Int32 → Int32 → Int32 → Option (Int32 × zOb)) (S : zOb) (x1 : Int32) (s0 : Int32) (s1 : Int32) : Option (Int32 × zOb) :=
  bnd (s1 + s0) (fun v8 => (f_Mo_nextOrder N S).bind (fun q9 => bnd q9.1 (fun v10 => k20 q9.2 x1 v8 v10)))
set_option maxHeartbeats 4000000 in
set_option maxRecDepth 100000 in
theorem t_Mo_many_75 (N : Nat) {p : Program} {l : Launch} {e : Env} {s : State} {m : MethodId} {args : Array Value} {below : List Frame} {meth : Method} {c : Code} {Q : State → Prop} {G : zG} {μ : zM} {o : Nat} (hc : o = 29) {out : (Int32 × zOb)} (cx : zCX p (zrm 3) s m args c RX8 cX8_many 5 3 G) (hret : zRi p l e (zrm 3) s m args below meth c cX8_many G .int Q out.1 (zset μ o out.2)) {k20 : zOb → Int32 → Int32 → Int32 → Option (Int32 × zOb)} (hk20 : ∀ (S : zOb) (x1 : Int32) (x2 : Int32) (x3 : Int32), k20 S x1 x2 x3 = some out → ∀ {H : Heap} {locs : List Loc} {ls : Array Slot}, zIW G s (zset μ o S) H locs → lv_has ls 5 [(0, .ref (G.2.2.1 o 0)), (1, .int x1), (2, .int x2), (3, .int x3)] → W p l e (zrm 3) s m args below meth c H locs 0 0 Q (F0 m 20 ls [])) : ∀ (S : zOb) (x1 : Int32) (s0 : Int32) (s1 : Int32), f_Mo_many_75 N k20 S x1 s0 s1 = some out → ∀ {H : Heap} {locs : List Loc} {ls : Array Slot}, zIW G s (zset μ o S) H locs → lv_has ls 5 [(0, .ref (G.2.2.1 o 0)), (1, .int x1)] → W p l e (zrm 3) s m args below meth c H locs 0 0 Q (F0 m 75 ls [.int s0, .int s1]) := by
  obtain ⟨hx, hb, hml, hown, hts, hK, hR⟩ := id cx
  intro S x1 s0 s1  h H locs ls hI hl
  unfold f_Mo_many_75 at h
  refine lv_iadd hx hb dX8_many_75 ?_
  refine lv_topi (fun v8 ev8 => ?_)
  have h := bnd_el h ev8
  refine lv_istore_n (lv' := [(2, .int v8), (0, .ref (G.2.2.1 o 0)), (1, .int x1)]) hx hb dX8_many_76 rfl hl (by decide) rfl (fun ls hl => ?_)
  refine lv_aload_n hx hb dX8_many_77 rfl (lv_at hl 1 rfl) ?_
  obtain ⟨q9, hq9, h⟩ := bi_el h
  refine zcVi (As := []) cx hI (c_Mo_nextOrder N hc (zset_s _ _ _) hq9 (zset_ss _ _ _ _)) mt_yX8_nextOrder mv_yX8_nextOrder w_523 (by omega) (k8_0 hc) (zv8 hc) rfl hl.1 rfl (Nat.le_of_ble_eq_true rfl) dX8_many_78 (fun H locs hI => ?_)
  refine lv_topi (fun v10 ev10 => ?_)
  have h := bnd_el h ev10
  refine lv_istore_n (lv' := [(3, .int v10), (2, .int v8), (0, .ref (G.2.2.1 o 0)), (1, .int x1)]) hx hb dX8_many_81 rfl hl (by decide) rfl (fun ls hl => ?_)
  refine lv_goto (tgt := 20) hx hb dX8_many_82 (by decide) ?_
  exact hk20 q9.2 x1 v8 v10 h hI (lv_sub hl [2, 3, 1, 0] rfl)
def f_Mo_many_64 (N : Nat) (k20 : zOb → Int32 → Int32 → Int32 → Option (Int32 × zOb)) (S : zOb) (x1 : Int32) (x2 : Int32) (x4 : Int32) : Option (Int32 × zOb) :=
  (if x4 = nI 0 then f_Mo_many_75 N k20 S x1 (nI 0) x2 else f_Mo_many_75 N k20 S x1 (nI 1) x2)
set_option maxHeartbeats 4000000 in
set_option maxRecDepth 100000 in
theorem t_Mo_many_64 (N : Nat) {p : Program} {l : Launch} {e : Env} {s : State} {m : MethodId} {args : Array Value} {below : List Frame} {meth : Method} {c : Code} {Q : State → Prop} {G : zG} {μ : zM} {o : Nat} (hc : o = 29) {out : (Int32 × zOb)} (cx : zCX p (zrm 3) s m args c RX8 cX8_many 5 3 G) (hret : zRi p l e (zrm 3) s m args below meth c cX8_many G .int Q out.1 (zset μ o out.2)) {k20 : zOb → Int32 → Int32 → Int32 → Option (Int32 × zOb)} (hk20 : ∀ (S : zOb) (x1 : Int32) (x2 : Int32) (x3 : Int32), k20 S x1 x2 x3 = some out → ∀ {H : Heap} {locs : List Loc} {ls : Array Slot}, zIW G s (zset μ o S) H locs → lv_has ls 5 [(0, .ref (G.2.2.1 o 0)), (1, .int x1), (2, .int x2), (3, .int x3)] → W p l e (zrm 3) s m args below meth c H locs 0 0 Q (F0 m 20 ls [])) : ∀ (S : zOb) (x1 : Int32) (x2 : Int32) (x4 : Int32), f_Mo_many_64 N k20 S x1 x2 x4 = some out → ∀ {H : Heap} {locs : List Loc} {ls : Array Slot}, zIW G s (zset μ o S) H locs → lv_has ls 5 [(0, .ref (G.2.2.1 o 0)), (1, .int x1), (2, .int x2), (4, .int x4)] → W p l e (zrm 3) s m args below meth c H locs 0 0 Q (F0 m 64 ls []) := by
  obtain ⟨hx, hb, hml, hown, hts, hK, hR⟩ := id cx
  intro S x1 x2 x4  h H locs ls hI hl
  unfold f_Mo_many_64 at h
  refine lv_iload_n hx hb dX8_many_64 rfl (lv_at hl 2 rfl) ?_
  refine lv_iload hx hb dX8_many_65 (lv_at hl 3 rfl) ?_
  refine lv_if_eq (tgt := 74) hx hb dX8_many_67 (by decide) (fun c7 => ?_) (fun c7 => ?_)
  · have h := it_p h c7
    refine lv_iconst (v := (nI 0)) hx hb dX8_many_74 (by decide) ?_
    exact t_Mo_many_75 N hc cx hret hk20 S x1 (nI 0) x2 h hI (lv_sub hl [0, 1] rfl)
  · have h := it_n h c7
    refine lv_iconst (v := (nI 1)) hx hb dX8_many_70 (by decide) ?_
    refine lv_goto (tgt := 75) hx hb dX8_many_71 (by decide) ?_
    exact t_Mo_many_75 N hc cx hret hk20 S x1 (nI 1) x2 h hI (lv_sub hl [0, 1] rfl)
def f_Mo_many_62 (N : Nat) (k20 : zOb → Int32 → Int32 → Int32 → Option (Int32 × zOb)) (S : zOb) (x1 : Int32) (x2 : Int32) (s0 : Int32) : Option (Int32 × zOb) :=
  f_Mo_many_64 N k20 S x1 x2 s0
set_option maxHeartbeats 4000000 in
set_option maxRecDepth 100000 in
theorem t_Mo_many_62 (N : Nat) {p : Program} {l : Launch} {e : Env} {s : State} {m : MethodId} {args : Array Value} {below : List Frame} {meth : Method} {c : Code} {Q : State → Prop} {G : zG} {μ : zM} {o : Nat} (hc : o = 29) {out : (Int32 × zOb)} (cx : zCX p (zrm 3) s m args c RX8 cX8_many 5 3 G) (hret : zRi p l e (zrm 3) s m args below meth c cX8_many G .int Q out.1 (zset μ o out.2)) {k20 : zOb → Int32 → Int32 → Int32 → Option (Int32 × zOb)} (hk20 : ∀ (S : zOb) (x1 : Int32) (x2 : Int32) (x3 : Int32), k20 S x1 x2 x3 = some out → ∀ {H : Heap} {locs : List Loc} {ls : Array Slot}, zIW G s (zset μ o S) H locs → lv_has ls 5 [(0, .ref (G.2.2.1 o 0)), (1, .int x1), (2, .int x2), (3, .int x3)] → W p l e (zrm 3) s m args below meth c H locs 0 0 Q (F0 m 20 ls [])) : ∀ (S : zOb) (x1 : Int32) (x2 : Int32) (s0 : Int32), f_Mo_many_62 N k20 S x1 x2 s0 = some out → ∀ {H : Heap} {locs : List Loc} {ls : Array Slot}, zIW G s (zset μ o S) H locs → lv_has ls 5 [(0, .ref (G.2.2.1 o 0)), (1, .int x1), (2, .int x2)] → W p l e (zrm 3) s m args below meth c H locs 0 0 Q (F0 m 62 ls [.int s0]) := by
  obtain ⟨hx, hb, hml, hown, hts, hK, hR⟩ := id cx
  intro S x1 x2 s0  h H locs ls hI hl
  unfold f_Mo_many_62 at h
  refine lv_istore (lv' := [(4, .int s0), (0, .ref (G.2.2.1 o 0)), (1, .int x1), (2, .int x2)]) hx hb dX8_many_62 hl (by decide) rfl (fun ls hl => ?_)
  exact t_Mo_many_64 N hc cx hret hk20 S x1 x2 s0 h hI (lv_sub hl [1, 2, 3, 0] rfl)
def f_Mo_many_20 (N : Nat)  : Nat → zOb → Int32 → Int32 → Int32 → Option (Int32 × zOb)
  | 0, _, _, _, _ => none
  | n + 1, S, x1, x2, x3 => (if x3 = nI 0 then some (x2, S) else (f_Mo_isHolding N S).bind (fun q5 => (if q5 = nI 0 then f_Mo_many_64 N (f_Mo_many_20 N n) S x1 x2 q5 else (if x1 = (nI 1) then (f_Mo_readsOrder N S).bind (fun q12 => (f_Mo_peak N q12).bind (fun q13 => (if (q12.1 1 3) < q13 then f_Mo_many_62 N (f_Mo_many_20 N n) q12 x1 x2 (nI 0) else f_Mo_many_62 N (f_Mo_many_20 N n) q12 x1 x2 (nI 1)))) else f_Mo_many_64 N (f_Mo_many_20 N n) S x1 x2 q5))))
set_option maxHeartbeats 4000000 in
set_option maxRecDepth 100000 in
theorem t_Mo_many_20 (N : Nat) {p : Program} {l : Launch} {e : Env} {s : State} {m : MethodId} {args : Array Value} {below : List Frame} {meth : Method} {c : Code} {Q : State → Prop} {G : zG} {μ : zM} {o : Nat} (hc : o = 29) {out : (Int32 × zOb)} (cx : zCX p (zrm 3) s m args c RX8 cX8_many 5 3 G) (hret : zRi p l e (zrm 3) s m args below meth c cX8_many G .int Q out.1 (zset μ o out.2))   : ∀ (n : Nat) (S : zOb) (x1 : Int32) (x2 : Int32) (x3 : Int32), f_Mo_many_20 N n S x1 x2 x3 = some out → ∀ {H : Heap} {locs : List Loc} {ls : Array Slot}, zIW G s (zset μ o S) H locs → lv_has ls 5 [(0, .ref (G.2.2.1 o 0)), (1, .int x1), (2, .int x2), (3, .int x3)] → W p l e (zrm 3) s m args below meth c H locs 0 0 Q (F0 m 20 ls []) := by
  obtain ⟨hx, hb, hml, hown, hts, hK, hR⟩ := id cx
  intro n
  induction n with
  | zero =>
    intro S x1 x2 x3  h
    cases h
  | succ n ih =>
    intro S x1 x2 x3  h H locs ls hI hl
    rw [f_Mo_many_20] at h
    refine lv_iload_n hx hb dX8_many_20 rfl (lv_at hl 3 rfl) ?_
    refine lv_if_eq (tgt := 85) hx hb dX8_many_21 (by decide) (fun c4 => ?_) (fun c4 => ?_)
    · have h := it_p h c4
      refine lv_iload_n hx hb dX8_many_85 rfl (lv_at hl 2 rfl) ?_
      obtain rfl := Option.some.inj h
      exact hret _ _ _ _ dX8_many_86 rfl hI
    · have h := it_n h c4
      refine lv_aload_n hx hb dX8_many_24 rfl (lv_at hl 0 rfl) ?_
      obtain ⟨q5, hq5, h⟩ := bi_el h
      refine zcVi (As := []) cx hI (c_Mo_isHolding N hc (zset_s _ _ _) hq5) mt_yX8_isHolding mv_yX8_isHolding w_488 (by omega) (k8_0 hc) (zv8 hc) rfl hl.1 rfl (Nat.le_of_ble_eq_true rfl) dX8_many_25 (fun H locs hI => ?_)
      refine lv_istore (lv' := [(4, .int q5), (0, .ref (G.2.2.1 o 0)), (1, .int x1), (2, .int x2), (3, .int x3)]) hx hb dX8_many_28 hl (by decide) rfl (fun ls hl => ?_)
      refine lv_iload hx hb dX8_many_30 (lv_at hl 0 rfl) ?_
      refine lv_if_eq (tgt := 64) hx hb dX8_many_32 (by decide) (fun c6 => ?_) (fun c6 => ?_)
      · have h := it_p h c6
        exact t_Mo_many_64 N hc cx hret ih S x1 x2 q5 h hI (lv_sub hl [1, 2, 3, 0] rfl)
      · have h := it_n h c6
        refine lv_iload_n hx hb dX8_many_35 rfl (lv_at hl 2 rfl) ?_
        refine lv_iconst (v := (nI 1)) hx hb dX8_many_36 (by decide) ?_
        refine lv_icmp_ne (tgt := 64) hx hb dX8_many_37 (by decide) (fun c11 => ?_) (fun c11 => ?_)
        · have h := it_n h c11
          exact t_Mo_many_64 N hc cx hret ih S x1 x2 q5 h hI (lv_sub hl [1, 2, 3, 0] rfl)
        · have h := it_p h c11
          refine lv_aload_n hx hb dX8_many_40 rfl (lv_at hl 1 rfl) ?_
          obtain ⟨q12, hq12, h⟩ := bi_el h
          refine zcVv (As := []) cx hI (c_Mo_readsOrder N hc (zset_s _ _ _) hq12 (zset_ss _ _ _ _)) mt_yX8_readsOrder mv_yX8_readsOrder w_492 (by omega) (k8_0 hc) (zv8 hc) rfl hl.1 rfl (Nat.le_of_ble_eq_true rfl) dX8_many_41 (fun H locs hI => ?_)
          refine lv_aload_n hx hb dX8_many_44 rfl (lv_at hl 1 rfl) ?_
          obtain ⟨q13, hq13, h⟩ := bi_el h
          refine zcVi (As := []) cx hI (c_Mo_peak N hc (zset_s _ _ _) hq13) mt_yX8_peak mv_yX8_peak w_512 (by omega) (k8_0 hc) (zv8 hc) rfl hl.1 rfl (Nat.le_of_ble_eq_true rfl) dX8_many_45 (fun H locs hI => ?_)
          refine lv_aload_n hx hb dX8_many_48 rfl (lv_at hl 1 rfl) ?_
          refine g8_0 cx hI hc (zset_s _ _ _) w_108 dX8_many_49 ?_
          refine lv_iconst (v := (nI 3)) hx hb dX8_many_52 (by decide) ?_
          refine zr_iald cx hI (k8_1 hc) (zset_s _ _ _) (z8_1 hc) rfl (by decide) dX8_many_53 ?_
          refine lv_icmp_gt (tgt := 61) hx hb dX8_many_54 (by decide) (fun c14 => ?_) (fun c14 => ?_)
          · have h := it_p h c14
            refine lv_iconst (v := (nI 0)) hx hb dX8_many_61 (by decide) ?_
            exact t_Mo_many_62 N hc cx hret ih q12 x1 x2 (nI 0) h hI (lv_sub hl [1, 2, 3] rfl)
          · have h := it_n h c14
            refine lv_iconst (v := (nI 1)) hx hb dX8_many_57 (by decide) ?_
            refine lv_goto (tgt := 62) hx hb dX8_many_58 (by decide) ?_
            exact t_Mo_many_62 N hc cx hret ih q12 x1 x2 (nI 1) h hI (lv_sub hl [1, 2, 3] rfl)
def f_Mo_many (N : Nat) (S : zOb) (a1 : Int32) : Option (Int32 × zOb) :=
  (f_Mo_in a1.toInt64 (0 : Int64) (1 : Int64)).bind (fun q1 => (if q1 = nI 0 then some ((-1 : Int32), S) else (f_Mo_firstOrder N S).bind (fun q3 => f_Mo_many_20 N N q3 a1 (nI 0) (nI 1))))
set_option maxHeartbeats 4000000 in
set_option maxRecDepth 100000 in
theorem c_Mo_many (N : Nat) {l : Launch} {G : zG} {μ : zM} {o : Nat} (hc : o = 29) {S : zOb} (hS : μ o = S) {a1 : Int32} {out : (Int32 × zOb)} (h : f_Mo_many N S a1 = some out) {μ' : zM} (hμ : zset μ o out.2 = μ') : zMI l G yX8_many cX8_many 5 (some .int) 3 [.ref (G.2.2.1 o 0), .int a1] μ out.1 μ' := by
  subst hμ
  refine zMI.of (by decide) (Nat.le_of_ble_eq_true rfl) (fun p e s m args below meth c Q ls cx hI hl hret => ?_)
  obtain ⟨hx, hb, hml, hown, hts, hK, hR⟩ := id cx
  have hl : lv_has ls 5 [(0, .ref (G.2.2.1 o 0)), (1, .int a1)] := hl
  rw [← zset_idS hS] at hI
  unfold f_Mo_many at h
  refine lv_iload_n hx hb dX8_many_0 rfl (lv_at hl 1 rfl) ?_
  refine lv_i2l hx hb dX8_many_1 rfl ?_
  refine lv_lconst (v := (0 : Int64)) hx hb dX8_many_2 (by decide) ?_
  refine lv_lconst (v := (1 : Int64)) hx hb dX8_many_3 (by decide) ?_
  obtain ⟨q1, hq1, h⟩ := bi_el h
  refine zcSi (As := [.long a1.toInt64, .long (0 : Int64), .long (1 : Int64)]) cx hI (c_Mo_in  hq1) mt_yX8_in ms_yX8_in w_179 (by omega) rfl hl.1 rfl (Nat.le_of_ble_eq_true rfl) dX8_many_4 (fun H locs hI => ?_)
  refine lv_if_ne (tgt := 12) hx hb dX8_many_7 (by decide) (fun c2 => ?_) (fun c2 => ?_)
  · have h := it_n h c2
    refine lv_iconst (v := (nI 0)) hx hb dX8_many_12 (by decide) ?_
    refine lv_istore_n (lv' := [(2, .int (nI 0)), (0, .ref (G.2.2.1 o 0)), (1, .int a1)]) hx hb dX8_many_13 rfl hl (by decide) rfl (fun ls hl => ?_)
    refine lv_aload_n hx hb dX8_many_14 rfl (lv_at hl 1 rfl) ?_
    obtain ⟨q3, hq3, h⟩ := bi_el h
    refine zcVv (As := []) cx hI (c_Mo_firstOrder N hc (zset_s _ _ _) hq3 (zset_ss _ _ _ _)) mt_yX8_firstOrder mv_yX8_firstOrder w_484 (by omega) (k8_0 hc) (zv8 hc) rfl hl.1 rfl (Nat.le_of_ble_eq_true rfl) dX8_many_15 (fun H locs hI => ?_)
    refine lv_iconst (v := (nI 1)) hx hb dX8_many_18 (by decide) ?_
    refine lv_istore_n (lv' := [(3, .int (nI 1)), (2, .int (nI 0)), (0, .ref (G.2.2.1 o 0)), (1, .int a1)]) hx hb dX8_many_19 rfl hl (by decide) rfl (fun ls hl => ?_)
    exact t_Mo_many_20 N hc cx hret N q3 a1 (nI 0) (nI 1) h hI (lv_sub hl [2, 3, 1, 0] rfl)
  · have h := it_p h c2
    refine lv_iconst (v := (-1 : Int32)) hx hb dX8_many_10 (by decide) ?_
    obtain rfl := Option.some.inj h
    exact hret _ _ _ _ dX8_many_11 rfl hI
def f_Mo_fit_54 (N : Nat) (k14 : zOb → Int32 → Int32 → Option (Int32 × zOb)) (S : zOb) (x2 : Int32) : Option (Int32 × zOb) :=
  (f_Mo_nextOrder N S).bind (fun q6 => bnd q6.1 (fun v7 => k14 q6.2 x2 v7))
set_option maxHeartbeats 4000000 in
set_option maxRecDepth 100000 in
theorem t_Mo_fit_54 (N : Nat) {p : Program} {l : Launch} {e : Env} {s : State} {m : MethodId} {args : Array Value} {below : List Frame} {meth : Method} {c : Code} {Q : State → Prop} {G : zG} {μ : zM} {o : Nat} (hc : o = 29) {out : (Int32 × zOb)} (cx : zCX p (zrm 3) s m args c RX8 cX8_fit 4 3 G) (hret : zRi p l e (zrm 3) s m args below meth c cX8_fit G .int Q out.1 (zset μ o out.2)) {k14 : zOb → Int32 → Int32 → Option (Int32 × zOb)} (hk14 : ∀ (S : zOb) (x2 : Int32) (x3 : Int32), k14 S x2 x3 = some out → ∀ {H : Heap} {locs : List Loc} {ls : Array Slot}, zIW G s (zset μ o S) H locs → lv_has ls 4 [(0, .ref (G.2.2.1 o 0)), (2, .int x2), (3, .int x3)] → W p l e (zrm 3) s m args below meth c H locs 0 0 Q (F0 m 14 ls [])) : ∀ (S : zOb) (x2 : Int32), f_Mo_fit_54 N k14 S x2 = some out → ∀ {H : Heap} {locs : List Loc} {ls : Array Slot}, zIW G s (zset μ o S) H locs → lv_has ls 4 [(0, .ref (G.2.2.1 o 0)), (2, .int x2)] → W p l e (zrm 3) s m args below meth c H locs 0 0 Q (F0 m 54 ls []) := by
  obtain ⟨hx, hb, hml, hown, hts, hK, hR⟩ := id cx
  intro S x2  h H locs ls hI hl
  unfold f_Mo_fit_54 at h
  refine lv_aload_n hx hb dX8_fit_54 rfl (lv_at hl 0 rfl) ?_
  obtain ⟨q6, hq6, h⟩ := bi_el h
  refine zcVi (As := []) cx hI (c_Mo_nextOrder N hc (zset_s _ _ _) hq6 (zset_ss _ _ _ _)) mt_yX8_nextOrder mv_yX8_nextOrder w_523 (by omega) (k8_0 hc) (zv8 hc) rfl hl.1 rfl (Nat.le_of_ble_eq_true rfl) dX8_fit_55 (fun H locs hI => ?_)
  refine lv_topi (fun v7 ev7 => ?_)
  have h := bnd_el h ev7
  refine lv_istore_n (lv' := [(3, .int v7), (0, .ref (G.2.2.1 o 0)), (2, .int x2)]) hx hb dX8_fit_58 rfl hl (by decide) rfl (fun ls hl => ?_)
  refine lv_goto (tgt := 14) hx hb dX8_fit_59 (by decide) ?_
  exact hk14 q6.2 x2 v7 h hI (lv_sub hl [1, 2, 0] rfl)
def f_Mo_fit_14 (N : Nat)  : Nat → zOb → Int32 → Int32 → Option (Int32 × zOb)
  | 0, _, _, _ => none
  | n + 1, S, x2, x3 => (if x3 = nI 0 then some ((-4 : Int32), S) else (f_Mo_isHolding N S).bind (fun q4 => (if q4 = nI 0 then f_Mo_fit_54 N (f_Mo_fit_14 N n) S x2 else (f_Mo_readsOrder N S).bind (fun q8 => (f_Mo_peak N q8).bind (fun q9 => (if (q8.1 1 3) < q9 then f_Mo_fit_54 N (f_Mo_fit_14 N n) q8 x2 else (if x2 = nI 0 then (f_Mo_number N q8).bind (fun q13 => some (q13, q8)) else bnd (x2 + (-1 : Int32)) (fun v12 => f_Mo_fit_54 N (f_Mo_fit_14 N n) q8 v12))))))))
set_option maxHeartbeats 4000000 in
set_option maxRecDepth 100000 in
theorem t_Mo_fit_14 (N : Nat) {p : Program} {l : Launch} {e : Env} {s : State} {m : MethodId} {args : Array Value} {below : List Frame} {meth : Method} {c : Code} {Q : State → Prop} {G : zG} {μ : zM} {o : Nat} (hc : o = 29) {out : (Int32 × zOb)} (cx : zCX p (zrm 3) s m args c RX8 cX8_fit 4 3 G) (hret : zRi p l e (zrm 3) s m args below meth c cX8_fit G .int Q out.1 (zset μ o out.2))   : ∀ (n : Nat) (S : zOb) (x2 : Int32) (x3 : Int32), f_Mo_fit_14 N n S x2 x3 = some out → ∀ {H : Heap} {locs : List Loc} {ls : Array Slot}, zIW G s (zset μ o S) H locs → lv_has ls 4 [(0, .ref (G.2.2.1 o 0)), (2, .int x2), (3, .int x3)] → W p l e (zrm 3) s m args below meth c H locs 0 0 Q (F0 m 14 ls []) := by
  obtain ⟨hx, hb, hml, hown, hts, hK, hR⟩ := id cx
  intro n
  induction n with
  | zero =>
    intro S x2 x3  h
    cases h
  | succ n ih =>
    intro S x2 x3  h H locs ls hI hl
    rw [f_Mo_fit_14] at h
    refine lv_iload_n hx hb dX8_fit_14 rfl (lv_at hl 2 rfl) ?_
    refine lv_if_eq (tgt := 62) hx hb dX8_fit_15 (by decide) (fun c3 => ?_) (fun c3 => ?_)
    · have h := it_p h c3
      refine lv_bipush (v := (-4 : Int32)) hx hb dX8_fit_62 (by decide) ?_
      obtain rfl := Option.some.inj h
      exact hret _ _ _ _ dX8_fit_64 rfl hI
    · have h := it_n h c3
      refine lv_aload_n hx hb dX8_fit_18 rfl (lv_at hl 0 rfl) ?_
      obtain ⟨q4, hq4, h⟩ := bi_el h
      refine zcVi (As := []) cx hI (c_Mo_isHolding N hc (zset_s _ _ _) hq4) mt_yX8_isHolding mv_yX8_isHolding w_488 (by omega) (k8_0 hc) (zv8 hc) rfl hl.1 rfl (Nat.le_of_ble_eq_true rfl) dX8_fit_19 (fun H locs hI => ?_)
      refine lv_if_eq (tgt := 54) hx hb dX8_fit_22 (by decide) (fun c5 => ?_) (fun c5 => ?_)
      · have h := it_p h c5
        exact t_Mo_fit_54 N hc cx hret ih S x2 h hI (lv_sub hl [0, 1] rfl)
      · have h := it_n h c5
        refine lv_aload_n hx hb dX8_fit_25 rfl (lv_at hl 0 rfl) ?_
        obtain ⟨q8, hq8, h⟩ := bi_el h
        refine zcVv (As := []) cx hI (c_Mo_readsOrder N hc (zset_s _ _ _) hq8 (zset_ss _ _ _ _)) mt_yX8_readsOrder mv_yX8_readsOrder w_492 (by omega) (k8_0 hc) (zv8 hc) rfl hl.1 rfl (Nat.le_of_ble_eq_true rfl) dX8_fit_26 (fun H locs hI => ?_)
        refine lv_aload_n hx hb dX8_fit_29 rfl (lv_at hl 0 rfl) ?_
        obtain ⟨q9, hq9, h⟩ := bi_el h
        refine zcVi (As := []) cx hI (c_Mo_peak N hc (zset_s _ _ _) hq9) mt_yX8_peak mv_yX8_peak w_512 (by omega) (k8_0 hc) (zv8 hc) rfl hl.1 rfl (Nat.le_of_ble_eq_true rfl) dX8_fit_30 (fun H locs hI => ?_)
        refine lv_aload_n hx hb dX8_fit_33 rfl (lv_at hl 0 rfl) ?_
        refine g8_0 cx hI hc (zset_s _ _ _) w_108 dX8_fit_34 ?_
        refine lv_iconst (v := (nI 3)) hx hb dX8_fit_37 (by decide) ?_
        refine zr_iald cx hI (k8_1 hc) (zset_s _ _ _) (z8_1 hc) rfl (by decide) dX8_fit_38 ?_
        refine lv_icmp_gt (tgt := 54) hx hb dX8_fit_39 (by decide) (fun c10 => ?_) (fun c10 => ?_)
        · have h := it_p h c10
          exact t_Mo_fit_54 N hc cx hret ih q8 x2 h hI (lv_sub hl [0, 1] rfl)
        · have h := it_n h c10
          refine lv_iload_n hx hb dX8_fit_42 rfl (lv_at hl 1 rfl) ?_
          refine lv_if_ne (tgt := 51) hx hb dX8_fit_43 (by decide) (fun c11 => ?_) (fun c11 => ?_)
          · have h := it_n h c11
            obtain ⟨v12, ev12⟩ : ∃ z : Int32, z = x2 + (-1 : Int32) := ⟨_, rfl⟩
            have h := bnd_el h ev12
            refine lv_iinc (v := v12) (lv' := [(2, .int v12), (0, .ref (G.2.2.1 o 0)), (3, .int x3)]) hx hb dX8_fit_51 hl (k := 1) rfl (by rw [ev12]; rfl) (by decide) rfl (fun ls hl => ?_)
            exact t_Mo_fit_54 N hc cx hret ih q8 v12 h hI (lv_sub hl [1, 0] rfl)
          · have h := it_p h c11
            refine lv_aload_n hx hb dX8_fit_46 rfl (lv_at hl 0 rfl) ?_
            obtain ⟨q13, hq13, h⟩ := bi_el h
            refine zcVi (As := []) cx hI (c_Mo_number N hc (zset_s _ _ _) hq13) mt_yX8_number mv_yX8_number w_474 (by omega) (k8_0 hc) (zv8 hc) rfl hl.1 rfl (Nat.le_of_ble_eq_true rfl) dX8_fit_47 (fun H locs hI => ?_)
            obtain rfl := Option.some.inj h
            exact hret _ _ _ _ dX8_fit_50 rfl hI
def f_Mo_fit (N : Nat) (S : zOb) (a1 : Int32) : Option (Int32 × zOb) :=
  (if nI 0 ≤ a1 then (f_Mo_firstOrder N S).bind (fun q2 => f_Mo_fit_14 N N q2 a1 (nI 1)) else some ((-1 : Int32), S))
set_option maxHeartbeats 4000000 in
set_option maxRecDepth 100000 in
theorem c_Mo_fit (N : Nat) {l : Launch} {G : zG} {μ : zM} {o : Nat} (hc : o = 29) {S : zOb} (hS : μ o = S) {a1 : Int32} {out : (Int32 × zOb)} (h : f_Mo_fit N S a1 = some out) {μ' : zM} (hμ : zset μ o out.2 = μ') : zMI l G yX8_fit cX8_fit 4 (some .int) 3 [.ref (G.2.2.1 o 0), .int a1] μ out.1 μ' := by
  subst hμ
  refine zMI.of (by decide) (Nat.le_of_ble_eq_true rfl) (fun p e s m args below meth c Q ls cx hI hl hret => ?_)
  obtain ⟨hx, hb, hml, hown, hts, hK, hR⟩ := id cx
  have hl : lv_has ls 4 [(0, .ref (G.2.2.1 o 0)), (1, .int a1)] := hl
  rw [← zset_idS hS] at hI
  unfold f_Mo_fit at h
  refine lv_iload_n hx hb dX8_fit_0 rfl (lv_at hl 1 rfl) ?_
  refine lv_if_ge (tgt := 6) hx hb dX8_fit_1 (by decide) (fun c1 => ?_) (fun c1 => ?_)
  · have h := it_p h c1
    refine lv_iload_n hx hb dX8_fit_6 rfl (lv_at hl 1 rfl) ?_
    refine lv_istore_n (lv' := [(2, .int a1), (0, .ref (G.2.2.1 o 0)), (1, .int a1)]) hx hb dX8_fit_7 rfl hl (by decide) rfl (fun ls hl => ?_)
    refine lv_aload_n hx hb dX8_fit_8 rfl (lv_at hl 1 rfl) ?_
    obtain ⟨q2, hq2, h⟩ := bi_el h
    refine zcVv (As := []) cx hI (c_Mo_firstOrder N hc (zset_s _ _ _) hq2 (zset_ss _ _ _ _)) mt_yX8_firstOrder mv_yX8_firstOrder w_484 (by omega) (k8_0 hc) (zv8 hc) rfl hl.1 rfl (Nat.le_of_ble_eq_true rfl) dX8_fit_9 (fun H locs hI => ?_)
    refine lv_iconst (v := (nI 1)) hx hb dX8_fit_12 (by decide) ?_
    refine lv_istore_n (lv' := [(3, .int (nI 1)), (2, .int a1), (0, .ref (G.2.2.1 o 0)), (1, .int a1)]) hx hb dX8_fit_13 rfl hl (by decide) rfl (fun ls hl => ?_)
    exact t_Mo_fit_14 N hc cx hret N q2 a1 (nI 1) h hI (lv_sub hl [2, 1, 0] rfl)
  · have h := it_n h c1
    refine lv_iconst (v := (-1 : Int32)) hx hb dX8_fit_4 (by decide) ?_
    obtain rfl := Option.some.inj h
    exact hret _ _ _ _ dX8_fit_5 rfl hI
def f_Mo_kept_34 (N : Nat)  (S : zOb) : Option (Int32 × zOb) :=
  some ((-1 : Int32), S)
set_option maxHeartbeats 4000000 in
set_option maxRecDepth 100000 in
theorem t_Mo_kept_34 (N : Nat) {p : Program} {l : Launch} {e : Env} {s : State} {m : MethodId} {args : Array Value} {below : List Frame} {meth : Method} {c : Code} {Q : State → Prop} {G : zG} {μ : zM} {o : Nat} (hc : o = 29) {out : (Int32 × zOb)} (cx : zCX p (zrm 2) s m args c RX8 cX8_kept 9 2 G) (hret : zRi p l e (zrm 2) s m args below meth c cX8_kept G .int Q out.1 (zset μ o out.2))   : ∀ (S : zOb), f_Mo_kept_34 N S = some out → ∀ {H : Heap} {locs : List Loc} {ls : Array Slot}, zIW G s (zset μ o S) H locs → lv_has ls 9 [] → W p l e (zrm 2) s m args below meth c H locs 0 0 Q (F0 m 34 ls []) := by
  obtain ⟨hx, hb, hml, hown, hts, hK, hR⟩ := id cx
  intro S  h H locs ls hI hl
  unfold f_Mo_kept_34 at h
  refine lv_iconst (v := (-1 : Int32)) hx hb dX8_kept_34 (by decide) ?_
  obtain rfl := Option.some.inj h
  exact hret _ _ _ _ dX8_kept_35 rfl hI
def f_Mo_kept_243 (N : Nat)  (S : zOb) (s0 : Int32) : Option (Int32 × zOb) :=
  some (s0, S)
set_option maxHeartbeats 4000000 in
set_option maxRecDepth 100000 in
theorem t_Mo_kept_243 (N : Nat) {p : Program} {l : Launch} {e : Env} {s : State} {m : MethodId} {args : Array Value} {below : List Frame} {meth : Method} {c : Code} {Q : State → Prop} {G : zG} {μ : zM} {o : Nat} (hc : o = 29) {out : (Int32 × zOb)} (cx : zCX p (zrm 2) s m args c RX8 cX8_kept 9 2 G) (hret : zRi p l e (zrm 2) s m args below meth c cX8_kept G .int Q out.1 (zset μ o out.2))   : ∀ (S : zOb) (s0 : Int32), f_Mo_kept_243 N S s0 = some out → ∀ {H : Heap} {locs : List Loc} {ls : Array Slot}, zIW G s (zset μ o S) H locs → lv_has ls 9 [] → W p l e (zrm 2) s m args below meth c H locs 0 0 Q (F0 m 243 ls [.int s0]) := by
  obtain ⟨hx, hb, hml, hown, hts, hK, hR⟩ := id cx
  intro S s0  h H locs ls hI hl
  unfold f_Mo_kept_243 at h
  obtain rfl := Option.some.inj h
  exact hret _ _ _ _ dX8_kept_243 rfl hI
def f_Mo_kept_203 (N : Nat)  : Nat → zOb → Int32 → Int32 → Int32 → Int32 → Int32 → Option (Int32 × zOb)
  | 0, _, _, _, _, _, _ => none
  | n + 1, S, x3, x4, x5, x6, x7 => (if x7 = nI 0 then (if x3 = nI 0 then if ¬ x6 = nI 0 then f_Mo_kept_243 N S (x4 / x6) else none else if ¬ x6 = nI 0 then f_Mo_kept_243 N S (x5 / x6) else none) else if ¬ x7 = nI 0 then bnd (x6 - x6 / x7 * x7) (fun v15 => f_Mo_kept_203 N n S x3 x4 x5 x7 v15) else none)
set_option maxHeartbeats 4000000 in
set_option maxRecDepth 100000 in
theorem t_Mo_kept_203 (N : Nat) {p : Program} {l : Launch} {e : Env} {s : State} {m : MethodId} {args : Array Value} {below : List Frame} {meth : Method} {c : Code} {Q : State → Prop} {G : zG} {μ : zM} {o : Nat} (hc : o = 29) {out : (Int32 × zOb)} (cx : zCX p (zrm 2) s m args c RX8 cX8_kept 9 2 G) (hret : zRi p l e (zrm 2) s m args below meth c cX8_kept G .int Q out.1 (zset μ o out.2))   : ∀ (n : Nat) (S : zOb) (x3 : Int32) (x4 : Int32) (x5 : Int32) (x6 : Int32) (x7 : Int32), f_Mo_kept_203 N n S x3 x4 x5 x6 x7 = some out → ∀ {H : Heap} {locs : List Loc} {ls : Array Slot}, zIW G s (zset μ o S) H locs → lv_has ls 9 [(3, .int x3), (4, .int x4), (5, .int x5), (6, .int x6), (7, .int x7)] → W p l e (zrm 2) s m args below meth c H locs 0 0 Q (F0 m 203 ls []) := by
  obtain ⟨hx, hb, hml, hown, hts, hK, hR⟩ := id cx
  intro n
  induction n with
  | zero =>
    intro S x3 x4 x5 x6 x7  h
    cases h
  | succ n ih =>
    intro S x3 x4 x5 x6 x7  h H locs ls hI hl
    rw [f_Mo_kept_203] at h
    refine lv_iload hx hb dX8_kept_203 (lv_at hl 4 rfl) ?_
    refine lv_if_eq (tgt := 226) hx hb dX8_kept_205 (by decide) (fun c10 => ?_) (fun c10 => ?_)
    · have h := it_p h c10
      refine lv_iload_n hx hb dX8_kept_226 rfl (lv_at hl 0 rfl) ?_
      refine lv_if_ne (tgt := 238) hx hb dX8_kept_227 (by decide) (fun c11 => ?_) (fun c11 => ?_)
      · have h := it_n h c11
        refine lv_iload hx hb dX8_kept_238 (lv_at hl 2 rfl) ?_
        refine lv_iload hx hb dX8_kept_240 (lv_at hl 3 rfl) ?_
        obtain ⟨g12, h⟩ := gd_el h
        refine lv_idiv hx hb dX8_kept_242 g12 ?_
        exact t_Mo_kept_243 N hc cx hret S (x5 / x6) h hI (lv_sub hl [] rfl)
      · have h := it_p h c11
        refine lv_iload hx hb dX8_kept_230 (lv_at hl 1 rfl) ?_
        refine lv_iload hx hb dX8_kept_232 (lv_at hl 3 rfl) ?_
        obtain ⟨g13, h⟩ := gd_el h
        refine lv_idiv hx hb dX8_kept_234 g13 ?_
        refine lv_goto (tgt := 243) hx hb dX8_kept_235 (by decide) ?_
        exact t_Mo_kept_243 N hc cx hret S (x4 / x6) h hI (lv_sub hl [] rfl)
    · have h := it_n h c10
      refine lv_iload hx hb dX8_kept_208 (lv_at hl 3 rfl) ?_
      refine lv_iload hx hb dX8_kept_210 (lv_at hl 4 rfl) ?_
      obtain ⟨g14, h⟩ := gd_el h
      refine lv_irem hx hb dX8_kept_212 g14 ?_
      refine lv_topi (fun v15 ev15 => ?_)
      have h := bnd_el h ev15
      refine lv_istore (lv' := [(8, .int v15), (3, .int x3), (4, .int x4), (5, .int x5), (6, .int x6), (7, .int x7)]) hx hb dX8_kept_213 hl (by decide) rfl (fun ls hl => ?_)
      refine lv_iload hx hb dX8_kept_215 (lv_at hl 5 rfl) ?_
      refine lv_istore (lv' := [(6, .int x7), (8, .int v15), (3, .int x3), (4, .int x4), (5, .int x5), (7, .int x7)]) hx hb dX8_kept_217 hl (by decide) rfl (fun ls hl => ?_)
      refine lv_iload hx hb dX8_kept_219 (lv_at hl 1 rfl) ?_
      refine lv_istore (lv' := [(7, .int v15), (6, .int x7), (8, .int v15), (3, .int x3), (4, .int x4), (5, .int x5)]) hx hb dX8_kept_221 hl (by decide) rfl (fun ls hl => ?_)
      refine lv_goto (tgt := 203) hx hb dX8_kept_223 (by decide) ?_
      exact ih S x3 x4 x5 x7 v15 h hI (lv_sub hl [3, 4, 5, 1, 0] rfl)
def f_Mo_kept_186 (N : Nat) (k76 : zOb → Int32 → Int32 → Int32 → Int32 → Int32 → Int32 → Option (Int32 × zOb)) (S : zOb) (x1 : Int32) (x2 : Int32) (x3 : Int32) (x5 : Int32) (x6 : Int32) (s0 : Int32) (s1 : Int32) : Option (Int32 × zOb) :=
  bnd (s1 + s0) (fun v20 => bnd (x6 + (nI 1)) (fun v21 => k76 S x1 x2 x3 v20 x5 v21))
set_option maxHeartbeats 4000000 in
set_option maxRecDepth 100000 in
theorem t_Mo_kept_186 (N : Nat) {p : Program} {l : Launch} {e : Env} {s : State} {m : MethodId} {args : Array Value} {below : List Frame} {meth : Method} {c : Code} {Q : State → Prop} {G : zG} {μ : zM} {o : Nat} (hc : o = 29) {out : (Int32 × zOb)} (cx : zCX p (zrm 2) s m args c RX8 cX8_kept 9 2 G) (hret : zRi p l e (zrm 2) s m args below meth c cX8_kept G .int Q out.1 (zset μ o out.2)) {k76 : zOb → Int32 → Int32 → Int32 → Int32 → Int32 → Int32 → Option (Int32 × zOb)} (hk76 : ∀ (S : zOb) (x1 : Int32) (x2 : Int32) (x3 : Int32) (x4 : Int32) (x5 : Int32) (x6 : Int32), k76 S x1 x2 x3 x4 x5 x6 = some out → ∀ {H : Heap} {locs : List Loc} {ls : Array Slot}, zIW G s (zset μ o S) H locs → lv_has ls 9 [(0, .ref (G.2.2.1 o 0)), (1, .int x1), (2, .int x2), (3, .int x3), (4, .int x4), (5, .int x5), (6, .int x6)] → W p l e (zrm 2) s m args below meth c H locs 0 0 Q (F0 m 76 ls [])) : ∀ (S : zOb) (x1 : Int32) (x2 : Int32) (x3 : Int32) (x5 : Int32) (x6 : Int32) (s0 : Int32) (s1 : Int32), f_Mo_kept_186 N k76 S x1 x2 x3 x5 x6 s0 s1 = some out → ∀ {H : Heap} {locs : List Loc} {ls : Array Slot}, zIW G s (zset μ o S) H locs → lv_has ls 9 [(0, .ref (G.2.2.1 o 0)), (1, .int x1), (2, .int x2), (3, .int x3), (5, .int x5), (6, .int x6)] → W p l e (zrm 2) s m args below meth c H locs 0 0 Q (F0 m 186 ls [.int s0, .int s1]) := by
  obtain ⟨hx, hb, hml, hown, hts, hK, hR⟩ := id cx
  intro S x1 x2 x3 x5 x6 s0 s1  h H locs ls hI hl
  unfold f_Mo_kept_186 at h
  refine lv_iadd hx hb dX8_kept_186 ?_
  refine lv_topi (fun v20 ev20 => ?_)
  have h := bnd_el h ev20
  refine lv_istore (lv' := [(4, .int v20), (0, .ref (G.2.2.1 o 0)), (1, .int x1), (2, .int x2), (3, .int x3), (5, .int x5), (6, .int x6)]) hx hb dX8_kept_187 hl (by decide) rfl (fun ls hl => ?_)
  obtain ⟨v21, ev21⟩ : ∃ z : Int32, z = x6 + (nI 1) := ⟨_, rfl⟩
  have h := bnd_el h ev21
  refine lv_iinc (v := v21) (lv' := [(6, .int v21), (4, .int v20), (0, .ref (G.2.2.1 o 0)), (1, .int x1), (2, .int x2), (3, .int x3), (5, .int x5)]) hx hb dX8_kept_189 hl (k := 6) rfl (by rw [ev21]; rfl) (by decide) rfl (fun ls hl => ?_)
  refine lv_goto (tgt := 76) hx hb dX8_kept_192 (by decide) ?_
  exact hk76 S x1 x2 x3 v20 x5 v21 h hI (lv_sub hl [2, 3, 4, 5, 1, 6, 0] rfl)
def f_Mo_kept_160 (N : Nat) (k76 : zOb → Int32 → Int32 → Int32 → Int32 → Int32 → Int32 → Option (Int32 × zOb)) (k99 : zOb → Int32 → Int32 → Int32 → Int32 → Int32 → Int32 → Int32 → Int32 → Option (Int32 × zOb)) (S : zOb) (x1 : Int32) (x2 : Int32) (x3 : Int32) (x4 : Int32) (x5 : Int32) (x6 : Int32) (x7 : Int32) (x8 : Int32) (s0 : Int32) (s1 : Int32) : Option (Int32 × zOb) :=
  (f_Mo_reads N S s1 s0).bind (fun q27 => bnd (x8 + (nI 1)) (fun v28 => k99 q27 x1 x2 x3 x4 x5 x6 x7 v28))
set_option maxHeartbeats 4000000 in
set_option maxRecDepth 100000 in
theorem t_Mo_kept_160 (N : Nat) {p : Program} {l : Launch} {e : Env} {s : State} {m : MethodId} {args : Array Value} {below : List Frame} {meth : Method} {c : Code} {Q : State → Prop} {G : zG} {μ : zM} {o : Nat} (hc : o = 29) {out : (Int32 × zOb)} (cx : zCX p (zrm 2) s m args c RX8 cX8_kept 9 2 G) (hret : zRi p l e (zrm 2) s m args below meth c cX8_kept G .int Q out.1 (zset μ o out.2)) {k76 : zOb → Int32 → Int32 → Int32 → Int32 → Int32 → Int32 → Option (Int32 × zOb)} {k99 : zOb → Int32 → Int32 → Int32 → Int32 → Int32 → Int32 → Int32 → Int32 → Option (Int32 × zOb)} (hk76 : ∀ (S : zOb) (x1 : Int32) (x2 : Int32) (x3 : Int32) (x4 : Int32) (x5 : Int32) (x6 : Int32), k76 S x1 x2 x3 x4 x5 x6 = some out → ∀ {H : Heap} {locs : List Loc} {ls : Array Slot}, zIW G s (zset μ o S) H locs → lv_has ls 9 [(0, .ref (G.2.2.1 o 0)), (1, .int x1), (2, .int x2), (3, .int x3), (4, .int x4), (5, .int x5), (6, .int x6)] → W p l e (zrm 2) s m args below meth c H locs 0 0 Q (F0 m 76 ls [])) (hk99 : ∀ (S : zOb) (x1 : Int32) (x2 : Int32) (x3 : Int32) (x4 : Int32) (x5 : Int32) (x6 : Int32) (x7 : Int32) (x8 : Int32), k99 S x1 x2 x3 x4 x5 x6 x7 x8 = some out → ∀ {H : Heap} {locs : List Loc} {ls : Array Slot}, zIW G s (zset μ o S) H locs → lv_has ls 9 [(0, .ref (G.2.2.1 o 0)), (1, .int x1), (2, .int x2), (3, .int x3), (4, .int x4), (5, .int x5), (6, .int x6), (7, .int x7), (8, .int x8)] → W p l e (zrm 2) s m args below meth c H locs 0 0 Q (F0 m 99 ls [])) : ∀ (S : zOb) (x1 : Int32) (x2 : Int32) (x3 : Int32) (x4 : Int32) (x5 : Int32) (x6 : Int32) (x7 : Int32) (x8 : Int32) (s0 : Int32) (s1 : Int32), f_Mo_kept_160 N k76 k99 S x1 x2 x3 x4 x5 x6 x7 x8 s0 s1 = some out → ∀ {H : Heap} {locs : List Loc} {ls : Array Slot}, zIW G s (zset μ o S) H locs → lv_has ls 9 [(0, .ref (G.2.2.1 o 0)), (1, .int x1), (2, .int x2), (3, .int x3), (4, .int x4), (5, .int x5), (6, .int x6), (7, .int x7), (8, .int x8)] → W p l e (zrm 2) s m args below meth c H locs 0 0 Q (F0 m 160 ls [.int s0, .int s1, .ref (G.2.2.1 o 0)]) := by
  obtain ⟨hx, hb, hml, hown, hts, hK, hR⟩ := id cx
  intro S x1 x2 x3 x4 x5 x6 x7 x8 s0 s1  h H locs ls hI hl
  unfold f_Mo_kept_160 at h
  obtain ⟨q27, hq27, h⟩ := bi_el h
  refine zcVv (As := [.int s1, .int s0]) cx hI (c_Mo_reads N hc (zset_s _ _ _) hq27 (zset_ss _ _ _ _)) mt_yX8_reads mv_yX8_reads w_504 (by omega) (k8_0 hc) (zv8 hc) rfl hl.1 rfl (Nat.le_of_ble_eq_true rfl) dX8_kept_160 (fun H locs hI => ?_)
  obtain ⟨v28, ev28⟩ : ∃ z : Int32, z = x8 + (nI 1) := ⟨_, rfl⟩
  have h := bnd_el h ev28
  refine lv_iinc (v := v28) (lv' := [(8, .int v28), (0, .ref (G.2.2.1 o 0)), (1, .int x1), (2, .int x2), (3, .int x3), (4, .int x4), (5, .int x5), (6, .int x6), (7, .int x7)]) hx hb dX8_kept_163 hl (k := 8) rfl (by rw [ev28]; rfl) (by decide) rfl (fun ls hl => ?_)
  refine lv_goto (tgt := 99) hx hb dX8_kept_166 (by decide) ?_
  exact hk99 q27 x1 x2 x3 x4 x5 x6 x7 v28 h hI (lv_sub hl [1, 2, 3, 4, 5, 6, 7, 8, 0] rfl)
def f_Mo_kept_130 (N : Nat) (k76 : zOb → Int32 → Int32 → Int32 → Int32 → Int32 → Int32 → Option (Int32 × zOb)) (k99 : zOb → Int32 → Int32 → Int32 → Int32 → Int32 → Int32 → Int32 → Int32 → Option (Int32 × zOb)) (S : zOb) (x1 : Int32) (x2 : Int32) (x3 : Int32) (x4 : Int32) (x5 : Int32) (x6 : Int32) (x8 : Int32) (s0 : Int32) (s1 : Int32) : Option (Int32 × zOb) :=
  bnd (s1 * s0) (fun v24 => (f_Mo_has x6 x8).bind (fun q25 => (if q25 = nI 0 then f_Mo_kept_160 N k76 k99 S x1 x2 x3 x4 x5 x6 v24 x8 (nI 0) x8 else (f_Mo_wordsAt S x8).bind (fun q29 => f_Mo_kept_160 N k76 k99 S x1 x2 x3 x4 x5 x6 v24 x8 (q29 &&& ((nI 1) <<< (x1 &&& 31))) x8))))
set_option maxHeartbeats 4000000 in
set_option maxRecDepth 100000 in
theorem t_Mo_kept_130 (N : Nat) {p : Program} {l : Launch} {e : Env} {s : State} {m : MethodId} {args : Array Value} {below : List Frame} {meth : Method} {c : Code} {Q : State → Prop} {G : zG} {μ : zM} {o : Nat} (hc : o = 29) {out : (Int32 × zOb)} (cx : zCX p (zrm 2) s m args c RX8 cX8_kept 9 2 G) (hret : zRi p l e (zrm 2) s m args below meth c cX8_kept G .int Q out.1 (zset μ o out.2)) {k76 : zOb → Int32 → Int32 → Int32 → Int32 → Int32 → Int32 → Option (Int32 × zOb)} {k99 : zOb → Int32 → Int32 → Int32 → Int32 → Int32 → Int32 → Int32 → Int32 → Option (Int32 × zOb)} (hk76 : ∀ (S : zOb) (x1 : Int32) (x2 : Int32) (x3 : Int32) (x4 : Int32) (x5 : Int32) (x6 : Int32), k76 S x1 x2 x3 x4 x5 x6 = some out → ∀ {H : Heap} {locs : List Loc} {ls : Array Slot}, zIW G s (zset μ o S) H locs → lv_has ls 9 [(0, .ref (G.2.2.1 o 0)), (1, .int x1), (2, .int x2), (3, .int x3), (4, .int x4), (5, .int x5), (6, .int x6)] → W p l e (zrm 2) s m args below meth c H locs 0 0 Q (F0 m 76 ls [])) (hk99 : ∀ (S : zOb) (x1 : Int32) (x2 : Int32) (x3 : Int32) (x4 : Int32) (x5 : Int32) (x6 : Int32) (x7 : Int32) (x8 : Int32), k99 S x1 x2 x3 x4 x5 x6 x7 x8 = some out → ∀ {H : Heap} {locs : List Loc} {ls : Array Slot}, zIW G s (zset μ o S) H locs → lv_has ls 9 [(0, .ref (G.2.2.1 o 0)), (1, .int x1), (2, .int x2), (3, .int x3), (4, .int x4), (5, .int x5), (6, .int x6), (7, .int x7), (8, .int x8)] → W p l e (zrm 2) s m args below meth c H locs 0 0 Q (F0 m 99 ls [])) : ∀ (S : zOb) (x1 : Int32) (x2 : Int32) (x3 : Int32) (x4 : Int32) (x5 : Int32) (x6 : Int32) (x8 : Int32) (s0 : Int32) (s1 : Int32), f_Mo_kept_130 N k76 k99 S x1 x2 x3 x4 x5 x6 x8 s0 s1 = some out → ∀ {H : Heap} {locs : List Loc} {ls : Array Slot}, zIW G s (zset μ o S) H locs → lv_has ls 9 [(0, .ref (G.2.2.1 o 0)), (1, .int x1), (2, .int x2), (3, .int x3), (4, .int x4), (5, .int x5), (6, .int x6), (8, .int x8)] → W p l e (zrm 2) s m args below meth c H locs 0 0 Q (F0 m 130 ls [.int s0, .int s1]) := by
  obtain ⟨hx, hb, hml, hown, hts, hK, hR⟩ := id cx
  intro S x1 x2 x3 x4 x5 x6 x8 s0 s1  h H locs ls hI hl
  unfold f_Mo_kept_130 at h
  refine lv_imul hx hb dX8_kept_130 ?_
  refine lv_topi (fun v24 ev24 => ?_)
  have h := bnd_el h ev24
  refine lv_istore (lv' := [(7, .int v24), (0, .ref (G.2.2.1 o 0)), (1, .int x1), (2, .int x2), (3, .int x3), (4, .int x4), (5, .int x5), (6, .int x6), (8, .int x8)]) hx hb dX8_kept_131 hl (by decide) rfl (fun ls hl => ?_)
  refine lv_aload_n hx hb dX8_kept_133 rfl (lv_at hl 1 rfl) ?_
  refine lv_iload hx hb dX8_kept_134 (lv_at hl 8 rfl) ?_
  refine lv_iload hx hb dX8_kept_136 (lv_at hl 7 rfl) ?_
  refine lv_iload hx hb dX8_kept_138 (lv_at hl 8 rfl) ?_
  obtain ⟨q25, hq25, h⟩ := bi_el h
  refine zcSi (As := [.int x6, .int x8]) cx hI (c_Mo_has  hq25) mt_yX8_has ms_yX8_has w_275 (by omega) rfl hl.1 rfl (Nat.le_of_ble_eq_true rfl) dX8_kept_140 (fun H locs hI => ?_)
  refine lv_if_eq (tgt := 159) hx hb dX8_kept_143 (by decide) (fun c26 => ?_) (fun c26 => ?_)
  · have h := it_p h c26
    refine lv_iconst (v := (nI 0)) hx hb dX8_kept_159 (by decide) ?_
    exact t_Mo_kept_160 N hc cx hret hk76 hk99 S x1 x2 x3 x4 x5 x6 v24 x8 (nI 0) x8 h hI (lv_sub hl [1, 2, 3, 4, 5, 6, 7, 0, 8] rfl)
  · have h := it_n h c26
    refine lv_aload_n hx hb dX8_kept_146 rfl (lv_at hl 1 rfl) ?_
    refine lv_iload hx hb dX8_kept_147 (lv_at hl 8 rfl) ?_
    obtain ⟨q29, hq29, h⟩ := bi_el h
    refine zcVi (As := [.int x8]) cx hI (c_Mo_wordsAt hc (zset_s _ _ _) hq29) mt_yX8_wordsAt mv_yX8_wordsAt w_500 (by omega) (k8_0 hc) (zv8 hc) rfl hl.1 rfl (Nat.le_of_ble_eq_true rfl) dX8_kept_149 (fun H locs hI => ?_)
    refine lv_iconst (v := (nI 1)) hx hb dX8_kept_152 (by decide) ?_
    refine lv_iload_n hx hb dX8_kept_153 rfl (lv_at hl 2 rfl) ?_
    refine lv_ishl hx hb dX8_kept_154 ?_
    refine lv_iand hx hb dX8_kept_155 ?_
    refine lv_goto (tgt := 160) hx hb dX8_kept_156 (by decide) ?_
    exact t_Mo_kept_160 N hc cx hret hk76 hk99 S x1 x2 x3 x4 x5 x6 v24 x8 (q29 &&& ((nI 1) <<< (x1 &&& 31))) x8 h hI (lv_sub hl [1, 2, 3, 4, 5, 6, 7, 0, 8] rfl)
def f_Mo_kept_99 (N : Nat) (k76 : zOb → Int32 → Int32 → Int32 → Int32 → Int32 → Int32 → Option (Int32 × zOb)) : Nat → zOb → Int32 → Int32 → Int32 → Int32 → Int32 → Int32 → Int32 → Int32 → Option (Int32 × zOb)
  | 0, _, _, _, _, _, _, _, _, _ => none
  | n + 1, S, x1, x2, x3, x4, x5, x6, x7, x8 => (if (S.1 1 0) ≤ x8 then if zin x1 20 then (if (S.1 14 x1.toNatClampNeg) ≤ nI 0 then f_Mo_kept_186 N k76 S x1 x2 x3 x5 x6 (nI 0) x4 else f_Mo_kept_186 N k76 S x1 x2 x3 x5 x6 x7 x4) else none else (f_Mo_has x6 x8).bind (fun q22 => (if q22 = nI 0 then f_Mo_kept_130 N k76 (f_Mo_kept_99 N k76 n) S x1 x2 x3 x4 x5 x6 x8 x2 x7 else f_Mo_kept_130 N k76 (f_Mo_kept_99 N k76 n) S x1 x2 x3 x4 x5 x6 x8 ((nI 10) - x2) x7)))
set_option maxHeartbeats 4000000 in
set_option maxRecDepth 100000 in
theorem t_Mo_kept_99 (N : Nat) {p : Program} {l : Launch} {e : Env} {s : State} {m : MethodId} {args : Array Value} {below : List Frame} {meth : Method} {c : Code} {Q : State → Prop} {G : zG} {μ : zM} {o : Nat} (hc : o = 29) {out : (Int32 × zOb)} (cx : zCX p (zrm 2) s m args c RX8 cX8_kept 9 2 G) (hret : zRi p l e (zrm 2) s m args below meth c cX8_kept G .int Q out.1 (zset μ o out.2)) {k76 : zOb → Int32 → Int32 → Int32 → Int32 → Int32 → Int32 → Option (Int32 × zOb)} (hk76 : ∀ (S : zOb) (x1 : Int32) (x2 : Int32) (x3 : Int32) (x4 : Int32) (x5 : Int32) (x6 : Int32), k76 S x1 x2 x3 x4 x5 x6 = some out → ∀ {H : Heap} {locs : List Loc} {ls : Array Slot}, zIW G s (zset μ o S) H locs → lv_has ls 9 [(0, .ref (G.2.2.1 o 0)), (1, .int x1), (2, .int x2), (3, .int x3), (4, .int x4), (5, .int x5), (6, .int x6)] → W p l e (zrm 2) s m args below meth c H locs 0 0 Q (F0 m 76 ls [])) : ∀ (n : Nat) (S : zOb) (x1 : Int32) (x2 : Int32) (x3 : Int32) (x4 : Int32) (x5 : Int32) (x6 : Int32) (x7 : Int32) (x8 : Int32), f_Mo_kept_99 N k76 n S x1 x2 x3 x4 x5 x6 x7 x8 = some out → ∀ {H : Heap} {locs : List Loc} {ls : Array Slot}, zIW G s (zset μ o S) H locs → lv_has ls 9 [(0, .ref (G.2.2.1 o 0)), (1, .int x1), (2, .int x2), (3, .int x3), (4, .int x4), (5, .int x5), (6, .int x6), (7, .int x7), (8, .int x8)] → W p l e (zrm 2) s m args below meth c H locs 0 0 Q (F0 m 99 ls []) := by
  obtain ⟨hx, hb, hml, hown, hts, hK, hR⟩ := id cx
  intro n
  induction n with
  | zero =>
    intro S x1 x2 x3 x4 x5 x6 x7 x8  h
    cases h
  | succ n ih =>
    intro S x1 x2 x3 x4 x5 x6 x7 x8  h H locs ls hI hl
    rw [f_Mo_kept_99] at h
    refine lv_iload hx hb dX8_kept_99 (lv_at hl 8 rfl) ?_
    refine lv_aload_n hx hb dX8_kept_101 rfl (lv_at hl 0 rfl) ?_
    refine g8_0 cx hI hc (zset_s _ _ _) w_108 dX8_kept_102 ?_
    refine lv_iconst (v := (nI 0)) hx hb dX8_kept_105 (by decide) ?_
    refine zr_iald cx hI (k8_1 hc) (zset_s _ _ _) (z8_1 hc) rfl (by decide) dX8_kept_106 ?_
    refine lv_icmp_ge (tgt := 169) hx hb dX8_kept_107 (by decide) (fun c17 => ?_) (fun c17 => ?_)
    · have h := it_p h c17
      refine lv_iload hx hb dX8_kept_169 (lv_at hl 4 rfl) ?_
      refine lv_aload_n hx hb dX8_kept_171 rfl (lv_at hl 0 rfl) ?_
      refine g8_13 cx hI hc (zset_s _ _ _) w_119 dX8_kept_172 ?_
      refine lv_iload_n hx hb dX8_kept_175 rfl (lv_at hl 1 rfl) ?_
      obtain ⟨g18, h⟩ := gd_el h
      refine zr_iald cx hI (k8_14 hc) (zset_s _ _ _) (z8_14 hc) rfl g18 dX8_kept_176 ?_
      refine lv_if_le (tgt := 185) hx hb dX8_kept_177 (by decide) (fun c19 => ?_) (fun c19 => ?_)
      · have h := it_p h c19
        refine lv_iconst (v := (nI 0)) hx hb dX8_kept_185 (by decide) ?_
        exact t_Mo_kept_186 N hc cx hret hk76 S x1 x2 x3 x5 x6 (nI 0) x4 h hI (lv_sub hl [0, 1, 2, 3, 5, 6] rfl)
      · have h := it_n h c19
        refine lv_iload hx hb dX8_kept_180 (lv_at hl 7 rfl) ?_
        refine lv_goto (tgt := 186) hx hb dX8_kept_182 (by decide) ?_
        exact t_Mo_kept_186 N hc cx hret hk76 S x1 x2 x3 x5 x6 x7 x4 h hI (lv_sub hl [0, 1, 2, 3, 5, 6] rfl)
    · have h := it_n h c17
      refine lv_iload hx hb dX8_kept_110 (lv_at hl 7 rfl) ?_
      refine lv_iload hx hb dX8_kept_112 (lv_at hl 6 rfl) ?_
      refine lv_iload hx hb dX8_kept_114 (lv_at hl 8 rfl) ?_
      obtain ⟨q22, hq22, h⟩ := bi_el h
      refine zcSi (As := [.int x6, .int x8]) cx hI (c_Mo_has  hq22) mt_yX8_has ms_yX8_has w_275 (by omega) rfl hl.1 rfl (Nat.le_of_ble_eq_true rfl) dX8_kept_116 (fun H locs hI => ?_)
      refine lv_if_eq (tgt := 129) hx hb dX8_kept_119 (by decide) (fun c23 => ?_) (fun c23 => ?_)
      · have h := it_p h c23
        refine lv_iload_n hx hb dX8_kept_129 rfl (lv_at hl 2 rfl) ?_
        exact t_Mo_kept_130 N hc cx hret hk76 ih S x1 x2 x3 x4 x5 x6 x8 x2 x7 h hI (lv_sub hl [0, 1, 2, 3, 4, 5, 6, 8] rfl)
      · have h := it_n h c23
        refine lv_bipush (v := (nI 10)) hx hb dX8_kept_122 (by decide) ?_
        refine lv_iload_n hx hb dX8_kept_124 rfl (lv_at hl 2 rfl) ?_
        refine lv_isub hx hb dX8_kept_125 ?_
        refine lv_goto (tgt := 130) hx hb dX8_kept_126 (by decide) ?_
        exact t_Mo_kept_130 N hc cx hret hk76 ih S x1 x2 x3 x4 x5 x6 x8 ((nI 10) - x2) x7 h hI (lv_sub hl [0, 1, 2, 3, 4, 5, 6, 8] rfl)
def f_Mo_kept_76 (N : Nat)  : Nat → zOb → Int32 → Int32 → Int32 → Int32 → Int32 → Int32 → Option (Int32 × zOb)
  | 0, _, _, _, _, _, _, _ => none
  | n + 1, S, x1, x2, x3, x4, x5, x6 => (if ((nI 1) <<< ((S.1 1 0) &&& 31)) ≤ x6 then f_Mo_kept_203 N N S x3 x4 x5 x4 x5 else (f_Mo_begins N S).bind (fun q16 => f_Mo_kept_99 N (f_Mo_kept_76 N n) N q16 x1 x2 x3 x4 x5 x6 (nI 1) (nI 0)))
set_option maxHeartbeats 4000000 in
set_option maxRecDepth 100000 in
theorem t_Mo_kept_76 (N : Nat) {p : Program} {l : Launch} {e : Env} {s : State} {m : MethodId} {args : Array Value} {below : List Frame} {meth : Method} {c : Code} {Q : State → Prop} {G : zG} {μ : zM} {o : Nat} (hc : o = 29) {out : (Int32 × zOb)} (cx : zCX p (zrm 2) s m args c RX8 cX8_kept 9 2 G) (hret : zRi p l e (zrm 2) s m args below meth c cX8_kept G .int Q out.1 (zset μ o out.2))   : ∀ (n : Nat) (S : zOb) (x1 : Int32) (x2 : Int32) (x3 : Int32) (x4 : Int32) (x5 : Int32) (x6 : Int32), f_Mo_kept_76 N n S x1 x2 x3 x4 x5 x6 = some out → ∀ {H : Heap} {locs : List Loc} {ls : Array Slot}, zIW G s (zset μ o S) H locs → lv_has ls 9 [(0, .ref (G.2.2.1 o 0)), (1, .int x1), (2, .int x2), (3, .int x3), (4, .int x4), (5, .int x5), (6, .int x6)] → W p l e (zrm 2) s m args below meth c H locs 0 0 Q (F0 m 76 ls []) := by
  obtain ⟨hx, hb, hml, hown, hts, hK, hR⟩ := id cx
  intro n
  induction n with
  | zero =>
    intro S x1 x2 x3 x4 x5 x6  h
    cases h
  | succ n ih =>
    intro S x1 x2 x3 x4 x5 x6  h H locs ls hI hl
    rw [f_Mo_kept_76] at h
    refine lv_iload hx hb dX8_kept_76 (lv_at hl 6 rfl) ?_
    refine lv_iconst (v := (nI 1)) hx hb dX8_kept_78 (by decide) ?_
    refine lv_aload_n hx hb dX8_kept_79 rfl (lv_at hl 0 rfl) ?_
    refine g8_0 cx hI hc (zset_s _ _ _) w_108 dX8_kept_80 ?_
    refine lv_iconst (v := (nI 0)) hx hb dX8_kept_83 (by decide) ?_
    refine zr_iald cx hI (k8_1 hc) (zset_s _ _ _) (z8_1 hc) rfl (by decide) dX8_kept_84 ?_
    refine lv_ishl hx hb dX8_kept_85 ?_
    refine lv_icmp_ge (tgt := 195) hx hb dX8_kept_86 (by decide) (fun c9 => ?_) (fun c9 => ?_)
    · have h := it_p h c9
      refine lv_iload hx hb dX8_kept_195 (lv_at hl 4 rfl) ?_
      refine lv_istore (lv' := [(6, .int x4), (0, .ref (G.2.2.1 o 0)), (1, .int x1), (2, .int x2), (3, .int x3), (4, .int x4), (5, .int x5)]) hx hb dX8_kept_197 hl (by decide) rfl (fun ls hl => ?_)
      refine lv_iload hx hb dX8_kept_199 (lv_at hl 6 rfl) ?_
      refine lv_istore (lv' := [(7, .int x5), (6, .int x4), (0, .ref (G.2.2.1 o 0)), (1, .int x1), (2, .int x2), (3, .int x3), (4, .int x4), (5, .int x5)]) hx hb dX8_kept_201 hl (by decide) rfl (fun ls hl => ?_)
      exact t_Mo_kept_203 N hc cx hret N S x3 x4 x5 x4 x5 h hI (lv_sub hl [5, 6, 7, 1, 0] rfl)
    · have h := it_n h c9
      refine lv_iconst (v := (nI 1)) hx hb dX8_kept_89 (by decide) ?_
      refine lv_istore (lv' := [(7, .int (nI 1)), (0, .ref (G.2.2.1 o 0)), (1, .int x1), (2, .int x2), (3, .int x3), (4, .int x4), (5, .int x5), (6, .int x6)]) hx hb dX8_kept_90 hl (by decide) rfl (fun ls hl => ?_)
      refine lv_aload_n hx hb dX8_kept_92 rfl (lv_at hl 1 rfl) ?_
      obtain ⟨q16, hq16, h⟩ := bi_el h
      refine zcVv (As := []) cx hI (c_Mo_begins N hc (zset_s _ _ _) hq16 (zset_ss _ _ _ _)) mt_yX8_begins mv_yX8_begins w_496 (by omega) (k8_0 hc) (zv8 hc) rfl hl.1 rfl (Nat.le_of_ble_eq_true rfl) dX8_kept_93 (fun H locs hI => ?_)
      refine lv_iconst (v := (nI 0)) hx hb dX8_kept_96 (by decide) ?_
      refine lv_istore (lv' := [(8, .int (nI 0)), (7, .int (nI 1)), (0, .ref (G.2.2.1 o 0)), (1, .int x1), (2, .int x2), (3, .int x3), (4, .int x4), (5, .int x5), (6, .int x6)]) hx hb dX8_kept_97 hl (by decide) rfl (fun ls hl => ?_)
      exact t_Mo_kept_99 N hc cx hret ih N q16 x1 x2 x3 x4 x5 x6 (nI 1) (nI 0) h hI (lv_sub hl [2, 3, 4, 5, 6, 7, 8, 1, 0] rfl)
def f_Mo_kept_49 (N : Nat)  : Nat → zOb → Int32 → Int32 → Int32 → Int32 → Int32 → Int32 → Option (Int32 × zOb)
  | 0, _, _, _, _, _, _, _ => none
  | n + 1, S, x1, x2, x3, x4, x5, x6 => (if (S.1 1 0) ≤ x6 then f_Mo_kept_76 N N S x1 x2 x3 x4 x5 (nI 0) else bnd (x5 * (nI 10)) (fun v30 => bnd (x6 + (nI 1)) (fun v31 => f_Mo_kept_49 N n S x1 x2 x3 x4 v30 v31)))
set_option maxHeartbeats 4000000 in
set_option maxRecDepth 100000 in
theorem t_Mo_kept_49 (N : Nat) {p : Program} {l : Launch} {e : Env} {s : State} {m : MethodId} {args : Array Value} {below : List Frame} {meth : Method} {c : Code} {Q : State → Prop} {G : zG} {μ : zM} {o : Nat} (hc : o = 29) {out : (Int32 × zOb)} (cx : zCX p (zrm 2) s m args c RX8 cX8_kept 9 2 G) (hret : zRi p l e (zrm 2) s m args below meth c cX8_kept G .int Q out.1 (zset μ o out.2))   : ∀ (n : Nat) (S : zOb) (x1 : Int32) (x2 : Int32) (x3 : Int32) (x4 : Int32) (x5 : Int32) (x6 : Int32), f_Mo_kept_49 N n S x1 x2 x3 x4 x5 x6 = some out → ∀ {H : Heap} {locs : List Loc} {ls : Array Slot}, zIW G s (zset μ o S) H locs → lv_has ls 9 [(0, .ref (G.2.2.1 o 0)), (1, .int x1), (2, .int x2), (3, .int x3), (4, .int x4), (5, .int x5), (6, .int x6)] → W p l e (zrm 2) s m args below meth c H locs 0 0 Q (F0 m 49 ls []) := by
  obtain ⟨hx, hb, hml, hown, hts, hK, hR⟩ := id cx
  intro n
  induction n with
  | zero =>
    intro S x1 x2 x3 x4 x5 x6  h
    cases h
  | succ n ih =>
    intro S x1 x2 x3 x4 x5 x6  h H locs ls hI hl
    rw [f_Mo_kept_49] at h
    refine lv_iload hx hb dX8_kept_49 (lv_at hl 6 rfl) ?_
    refine lv_aload_n hx hb dX8_kept_51 rfl (lv_at hl 0 rfl) ?_
    refine g8_0 cx hI hc (zset_s _ _ _) w_108 dX8_kept_52 ?_
    refine lv_iconst (v := (nI 0)) hx hb dX8_kept_55 (by decide) ?_
    refine zr_iald cx hI (k8_1 hc) (zset_s _ _ _) (z8_1 hc) rfl (by decide) dX8_kept_56 ?_
    refine lv_icmp_ge (tgt := 73) hx hb dX8_kept_57 (by decide) (fun c8 => ?_) (fun c8 => ?_)
    · have h := it_p h c8
      refine lv_iconst (v := (nI 0)) hx hb dX8_kept_73 (by decide) ?_
      refine lv_istore (lv' := [(6, .int (nI 0)), (0, .ref (G.2.2.1 o 0)), (1, .int x1), (2, .int x2), (3, .int x3), (4, .int x4), (5, .int x5)]) hx hb dX8_kept_74 hl (by decide) rfl (fun ls hl => ?_)
      exact t_Mo_kept_76 N hc cx hret N S x1 x2 x3 x4 x5 (nI 0) h hI (lv_sub hl [1, 2, 3, 4, 5, 6, 0] rfl)
    · have h := it_n h c8
      refine lv_iload hx hb dX8_kept_60 (lv_at hl 5 rfl) ?_
      refine lv_bipush (v := (nI 10)) hx hb dX8_kept_62 (by decide) ?_
      refine lv_imul hx hb dX8_kept_64 ?_
      refine lv_topi (fun v30 ev30 => ?_)
      have h := bnd_el h ev30
      refine lv_istore (lv' := [(5, .int v30), (0, .ref (G.2.2.1 o 0)), (1, .int x1), (2, .int x2), (3, .int x3), (4, .int x4), (6, .int x6)]) hx hb dX8_kept_65 hl (by decide) rfl (fun ls hl => ?_)
      obtain ⟨v31, ev31⟩ : ∃ z : Int32, z = x6 + (nI 1) := ⟨_, rfl⟩
      have h := bnd_el h ev31
      refine lv_iinc (v := v31) (lv' := [(6, .int v31), (5, .int v30), (0, .ref (G.2.2.1 o 0)), (1, .int x1), (2, .int x2), (3, .int x3), (4, .int x4)]) hx hb dX8_kept_67 hl (k := 6) rfl (by rw [ev31]; rfl) (by decide) rfl (fun ls hl => ?_)
      refine lv_goto (tgt := 49) hx hb dX8_kept_70 (by decide) ?_
      exact ih S x1 x2 x3 x4 v30 v31 h hI (lv_sub hl [2, 3, 4, 5, 6, 1, 0] rfl)
def f_Mo_kept (N : Nat) (S : zOb) (a1 : Int32) (a2 : Int32) (a3 : Int32) : Option (Int32 × zOb) :=
  (f_Mo_in a1.toInt64 (0 : Int64) (19 : Int64)).bind (fun q1 => (if q1 = nI 0 then f_Mo_kept_34 N S else (f_Mo_in a2.toInt64 (0 : Int64) (10 : Int64)).bind (fun q3 => (if q3 = nI 0 then f_Mo_kept_34 N S else (f_Mo_in a3.toInt64 (0 : Int64) (1 : Int64)).bind (fun q5 => (if q5 = nI 0 then f_Mo_kept_34 N S else (f_Mo_takesOrder N S).bind (fun q7 => f_Mo_kept_49 N N q7 a1 a2 a3 (nI 0) (nI 1) (nI 0))))))))
set_option maxHeartbeats 4000000 in
set_option maxRecDepth 100000 in
theorem c_Mo_kept (N : Nat) {l : Launch} {G : zG} {μ : zM} {o : Nat} (hc : o = 29) {S : zOb} (hS : μ o = S) {a1 : Int32} {a2 : Int32} {a3 : Int32} {out : (Int32 × zOb)} (h : f_Mo_kept N S a1 a2 a3 = some out) {μ' : zM} (hμ : zset μ o out.2 = μ') : zMI l G yX8_kept cX8_kept 9 (some .int) 2 [.ref (G.2.2.1 o 0), .int a1, .int a2, .int a3] μ out.1 μ' := by
  subst hμ
  refine zMI.of (by decide) (Nat.le_of_ble_eq_true rfl) (fun p e s m args below meth c Q ls cx hI hl hret => ?_)
  obtain ⟨hx, hb, hml, hown, hts, hK, hR⟩ := id cx
  have hl : lv_has ls 9 [(0, .ref (G.2.2.1 o 0)), (1, .int a1), (2, .int a2), (3, .int a3)] := hl
  rw [← zset_idS hS] at hI
  unfold f_Mo_kept at h
  refine lv_iload_n hx hb dX8_kept_0 rfl (lv_at hl 1 rfl) ?_
  refine lv_i2l hx hb dX8_kept_1 rfl ?_
  refine lv_lconst (v := (0 : Int64)) hx hb dX8_kept_2 (by decide) ?_
  refine lv_ldc2 (v := (19 : Int64)) hx hb hown (hts _ w_580) dX8_kept_3 ?_
  obtain ⟨q1, hq1, h⟩ := bi_el h
  refine zcSi (As := [.long a1.toInt64, .long (0 : Int64), .long (19 : Int64)]) cx hI (c_Mo_in  hq1) mt_yX8_in ms_yX8_in w_179 (by omega) rfl hl.1 rfl (Nat.le_of_ble_eq_true rfl) dX8_kept_6 (fun H locs hI => ?_)
  refine lv_if_eq (tgt := 34) hx hb dX8_kept_9 (by decide) (fun c2 => ?_) (fun c2 => ?_)
  · have h := it_p h c2
    exact t_Mo_kept_34 N hc cx hret S h hI (lv_sub hl [] rfl)
  · have h := it_n h c2
    refine lv_iload_n hx hb dX8_kept_12 rfl (lv_at hl 2 rfl) ?_
    refine lv_i2l hx hb dX8_kept_13 rfl ?_
    refine lv_lconst (v := (0 : Int64)) hx hb dX8_kept_14 (by decide) ?_
    refine lv_ldc2 (v := (10 : Int64)) hx hb hown (hts _ w_676) dX8_kept_15 ?_
    obtain ⟨q3, hq3, h⟩ := bi_el h
    refine zcSi (As := [.long a2.toInt64, .long (0 : Int64), .long (10 : Int64)]) cx hI (c_Mo_in  hq3) mt_yX8_in ms_yX8_in w_179 (by omega) rfl hl.1 rfl (Nat.le_of_ble_eq_true rfl) dX8_kept_18 (fun H locs hI => ?_)
    refine lv_if_eq (tgt := 34) hx hb dX8_kept_21 (by decide) (fun c4 => ?_) (fun c4 => ?_)
    · have h := it_p h c4
      exact t_Mo_kept_34 N hc cx hret S h hI (lv_sub hl [] rfl)
    · have h := it_n h c4
      refine lv_iload_n hx hb dX8_kept_24 rfl (lv_at hl 3 rfl) ?_
      refine lv_i2l hx hb dX8_kept_25 rfl ?_
      refine lv_lconst (v := (0 : Int64)) hx hb dX8_kept_26 (by decide) ?_
      refine lv_lconst (v := (1 : Int64)) hx hb dX8_kept_27 (by decide) ?_
      obtain ⟨q5, hq5, h⟩ := bi_el h
      refine zcSi (As := [.long a3.toInt64, .long (0 : Int64), .long (1 : Int64)]) cx hI (c_Mo_in  hq5) mt_yX8_in ms_yX8_in w_179 (by omega) rfl hl.1 rfl (Nat.le_of_ble_eq_true rfl) dX8_kept_28 (fun H locs hI => ?_)
      refine lv_if_ne (tgt := 36) hx hb dX8_kept_31 (by decide) (fun c6 => ?_) (fun c6 => ?_)
      · have h := it_n h c6
        refine lv_aload_n hx hb dX8_kept_36 rfl (lv_at hl 0 rfl) ?_
        obtain ⟨q7, hq7, h⟩ := bi_el h
        refine zcVv (As := []) cx hI (c_Mo_takesOrder N hc (zset_s _ _ _) hq7 (zset_ss _ _ _ _)) mt_yX8_takesOrder mv_yX8_takesOrder w_470 (by omega) (k8_0 hc) (zv8 hc) rfl hl.1 rfl (Nat.le_of_ble_eq_true rfl) dX8_kept_37 (fun H locs hI => ?_)
        refine lv_iconst (v := (nI 0)) hx hb dX8_kept_40 (by decide) ?_
        refine lv_istore (lv' := [(4, .int (nI 0)), (0, .ref (G.2.2.1 o 0)), (1, .int a1), (2, .int a2), (3, .int a3)]) hx hb dX8_kept_41 hl (by decide) rfl (fun ls hl => ?_)
        refine lv_iconst (v := (nI 1)) hx hb dX8_kept_43 (by decide) ?_
        refine lv_istore (lv' := [(5, .int (nI 1)), (4, .int (nI 0)), (0, .ref (G.2.2.1 o 0)), (1, .int a1), (2, .int a2), (3, .int a3)]) hx hb dX8_kept_44 hl (by decide) rfl (fun ls hl => ?_)
        refine lv_iconst (v := (nI 0)) hx hb dX8_kept_46 (by decide) ?_
        refine lv_istore (lv' := [(6, .int (nI 0)), (5, .int (nI 1)), (4, .int (nI 0)), (0, .ref (G.2.2.1 o 0)), (1, .int a1), (2, .int a2), (3, .int a3)]) hx hb dX8_kept_47 hl (by decide) rfl (fun ls hl => ?_)
        exact t_Mo_kept_49 N hc cx hret N q7 a1 a2 a3 (nI 0) (nI 1) (nI 0) h hI (lv_sub hl [3, 4, 5, 6, 2, 1, 0] rfl)
      · have h := it_p h c6
        exact t_Mo_kept_34 N hc cx hret S h hI (lv_sub hl [] rfl)
def f_Mo_writes (S : zOb) (a1 : Int32) : Option zOb :=
  if zin (S.1 0 23) 64 then bnd (zI S 23 ((S.1 0 23).toNatClampNeg) a1) (fun Z2 => bnd (zI Z2 0 23 ((Z2.1 0 23) + (nI 1))) (fun Z3 => some Z3)) else none
set_option maxHeartbeats 4000000 in
set_option maxRecDepth 100000 in
theorem c_Mo_writes {l : Launch} {G : zG} {μ : zM} {o : Nat} (hc : o = 29) {S : zOb} (hS : μ o = S) {a1 : Int32} {out : zOb} (h : f_Mo_writes S a1 = some out) {μ' : zM} (hμ : zset μ o out = μ') : zMV l G yX8_writes cX8_writes 2 none 0 [.ref (G.2.2.1 o 0), .int a1] μ μ' := by
  subst hμ
  refine zMV.of (by decide) (Nat.le_of_ble_eq_true rfl) (fun p e s m args below meth c Q ls cx hI hl hret => ?_)
  obtain ⟨hx, hb, hml, hown, hts, hK, hR⟩ := id cx
  have hl : lv_has ls 2 [(0, .ref (G.2.2.1 o 0)), (1, .int a1)] := hl
  rw [← zset_idS hS] at hI
  unfold f_Mo_writes at h
  refine lv_aload_n hx hb dX8_writes_0 rfl (lv_at hl 0 rfl) ?_
  refine g8_22 cx hI hc (zset_s _ _ _) w_125 dX8_writes_1 ?_
  refine lv_aload_n hx hb dX8_writes_4 rfl (lv_at hl 0 rfl) ?_
  refine g8_23 cx hI hc (zset_s _ _ _) w_753 dX8_writes_5 ?_
  refine lv_iload_n hx hb dX8_writes_8 rfl (lv_at hl 1 rfl) ?_
  obtain ⟨g1, h⟩ := gd_el h
  obtain ⟨Z2, eZ2⟩ : ∃ z : zOb, z = zI S 23 ((S.1 0 23).toNatClampNeg) a1 := ⟨_, rfl⟩
  have h := bnd_el h eZ2
  refine zr_iast cx hI (k8_23 hc) (zset_s _ _ _) (z8_23 hc) rfl g1 (zss eZ2) dX8_writes_9 (fun H locs hI => ?_)
  refine lv_aload_n hx hb dX8_writes_10 rfl (lv_at hl 0 rfl) ?_
  refine lv_dup hx hb dX8_writes_11 rfl ?_
  refine g8_23 cx hI hc (zset_s _ _ _) w_753 dX8_writes_12 ?_
  refine lv_iconst (v := (nI 1)) hx hb dX8_writes_15 (by decide) ?_
  refine lv_iadd hx hb dX8_writes_16 ?_
  obtain ⟨Z3, eZ3⟩ : ∃ z : zOb, z = zI Z2 0 23 ((Z2.1 0 23) + (nI 1)) := ⟨_, rfl⟩
  have h := bnd_el h eZ3
  refine p8_23 cx hI hc (zset_s _ _ _) w_753 (zss eZ3) dX8_writes_17 (fun H locs hI => ?_)
  obtain rfl := Option.some.inj h
  exact hret _ _ _ _ dX8_writes_20 hI
def f_Mo_writesNumber_17  (S : zOb) (x1 : Int32) : Option zOb :=
  (f_Mo_writes S ((nI 48) + (x1 - x1 / (nI 10) * (nI 10)))).bind (fun q2 => some q2)
set_option maxHeartbeats 4000000 in
set_option maxRecDepth 100000 in
theorem t_Mo_writesNumber_17  {p : Program} {l : Launch} {e : Env} {s : State} {m : MethodId} {args : Array Value} {below : List Frame} {meth : Method} {c : Code} {Q : State → Prop} {G : zG} {μ : zM} {o : Nat} (hc : o = 29) {out : zOb} (cx : zCX p (zrm 1) s m args c RX8 cX8_writesNumber 2 1 G) (hret : zRv p l e (zrm 1) s m args below meth c cX8_writesNumber G Q (zset μ o out))   : ∀ (S : zOb) (x1 : Int32), f_Mo_writesNumber_17 S x1 = some out → ∀ {H : Heap} {locs : List Loc} {ls : Array Slot}, zIW G s (zset μ o S) H locs → lv_has ls 2 [(0, .ref (G.2.2.1 o 0)), (1, .int x1)] → W p l e (zrm 1) s m args below meth c H locs 0 0 Q (F0 m 17 ls []) := by
  obtain ⟨hx, hb, hml, hown, hts, hK, hR⟩ := id cx
  intro S x1  h H locs ls hI hl
  unfold f_Mo_writesNumber_17 at h
  refine lv_aload_n hx hb dX8_writesNumber_17 rfl (lv_at hl 0 rfl) ?_
  refine lv_bipush (v := (nI 48)) hx hb dX8_writesNumber_18 (by decide) ?_
  refine lv_iload_n hx hb dX8_writesNumber_20 rfl (lv_at hl 1 rfl) ?_
  refine lv_bipush (v := (nI 10)) hx hb dX8_writesNumber_21 (by decide) ?_
  refine lv_irem hx hb dX8_writesNumber_23 (by decide) ?_
  refine lv_iadd hx hb dX8_writesNumber_24 ?_
  obtain ⟨q2, hq2, h⟩ := bi_el h
  refine zcVv (As := [.int ((nI 48) + (x1 - x1 / (nI 10) * (nI 10)))]) cx hI (c_Mo_writes hc (zset_s _ _ _) hq2 (zset_ss _ _ _ _)) mt_yX8_writes mv_yX8_writes w_758 (by omega) (k8_0 hc) (zv8 hc) rfl hl.1 rfl (Nat.le_of_ble_eq_true rfl) dX8_writesNumber_25 (fun H locs hI => ?_)
  obtain rfl := Option.some.inj h
  exact hret _ _ _ _ dX8_writesNumber_28 hI
def f_Mo_writesNumber (S : zOb) (a1 : Int32) : Option zOb :=
  (if a1 ≤ (nI 9) then f_Mo_writesNumber_17 S a1 else (f_Mo_writes S ((nI 48) + (a1 / (nI 10)))).bind (fun q3 => f_Mo_writesNumber_17 q3 a1))
set_option maxHeartbeats 4000000 in
set_option maxRecDepth 100000 in
theorem c_Mo_writesNumber {l : Launch} {G : zG} {μ : zM} {o : Nat} (hc : o = 29) {S : zOb} (hS : μ o = S) {a1 : Int32} {out : zOb} (h : f_Mo_writesNumber S a1 = some out) {μ' : zM} (hμ : zset μ o out = μ') : zMV l G yX8_writesNumber cX8_writesNumber 2 none 1 [.ref (G.2.2.1 o 0), .int a1] μ μ' := by
  subst hμ
  refine zMV.of (by decide) (Nat.le_of_ble_eq_true rfl) (fun p e s m args below meth c Q ls cx hI hl hret => ?_)
  obtain ⟨hx, hb, hml, hown, hts, hK, hR⟩ := id cx
  have hl : lv_has ls 2 [(0, .ref (G.2.2.1 o 0)), (1, .int a1)] := hl
  rw [← zset_idS hS] at hI
  unfold f_Mo_writesNumber at h
  refine lv_iload_n hx hb dX8_writesNumber_0 rfl (lv_at hl 1 rfl) ?_
  refine lv_bipush (v := (nI 9)) hx hb dX8_writesNumber_1 (by decide) ?_
  refine lv_icmp_le (tgt := 17) hx hb dX8_writesNumber_3 (by decide) (fun c1 => ?_) (fun c1 => ?_)
  · have h := it_p h c1
    exact t_Mo_writesNumber_17 hc cx hret S a1 h hI hl
  · have h := it_n h c1
    refine lv_aload_n hx hb dX8_writesNumber_6 rfl (lv_at hl 0 rfl) ?_
    refine lv_bipush (v := (nI 48)) hx hb dX8_writesNumber_7 (by decide) ?_
    refine lv_iload_n hx hb dX8_writesNumber_9 rfl (lv_at hl 1 rfl) ?_
    refine lv_bipush (v := (nI 10)) hx hb dX8_writesNumber_10 (by decide) ?_
    refine lv_idiv hx hb dX8_writesNumber_12 (by decide) ?_
    refine lv_iadd hx hb dX8_writesNumber_13 ?_
    obtain ⟨q3, hq3, h⟩ := bi_el h
    refine zcVv (As := [.int ((nI 48) + (a1 / (nI 10)))]) cx hI (c_Mo_writes hc (zset_s _ _ _) hq3 (zset_ss _ _ _ _)) mt_yX8_writes mv_yX8_writes w_758 (by omega) (k8_0 hc) (zv8 hc) rfl hl.1 rfl (Nat.le_of_ble_eq_true rfl) dX8_writesNumber_14 (fun H locs hI => ?_)
    exact t_Mo_writesNumber_17 hc cx hret q3 a1 h hI hl
def f_Mo_writesNote_134 (N : Nat)  (S : zOb) : Option zOb :=
  some S
set_option maxHeartbeats 4000000 in
set_option maxRecDepth 100000 in
theorem t_Mo_writesNote_134 (N : Nat) {p : Program} {l : Launch} {e : Env} {s : State} {m : MethodId} {args : Array Value} {below : List Frame} {meth : Method} {c : Code} {Q : State → Prop} {G : zG} {μ : zM} {o : Nat} (hc : o = 29) {out : zOb} (cx : zCX p (zrm 3) s m args c RX8 cX8_writesNote 2 3 G) (hret : zRv p l e (zrm 3) s m args below meth c cX8_writesNote G Q (zset μ o out))   : ∀ (S : zOb), f_Mo_writesNote_134 N S = some out → ∀ {H : Heap} {locs : List Loc} {ls : Array Slot}, zIW G s (zset μ o S) H locs → lv_has ls 2 [] → W p l e (zrm 3) s m args below meth c H locs 0 0 Q (F0 m 134 ls []) := by
  obtain ⟨hx, hb, hml, hown, hts, hK, hR⟩ := id cx
  intro S  h H locs ls hI hl
  unfold f_Mo_writesNote_134 at h
  obtain rfl := Option.some.inj h
  exact hret _ _ _ _ dX8_writesNote_134 hI
def f_Mo_writesNote_95 (N : Nat) (k15 : zOb → Int32 → Option zOb) (S : zOb) (x1 : Int32) : Option zOb :=
  bnd (x1 + (nI 1)) (fun v19 => k15 S v19)
set_option maxHeartbeats 4000000 in
set_option maxRecDepth 100000 in
theorem t_Mo_writesNote_95 (N : Nat) {p : Program} {l : Launch} {e : Env} {s : State} {m : MethodId} {args : Array Value} {below : List Frame} {meth : Method} {c : Code} {Q : State → Prop} {G : zG} {μ : zM} {o : Nat} (hc : o = 29) {out : zOb} (cx : zCX p (zrm 3) s m args c RX8 cX8_writesNote 2 3 G) (hret : zRv p l e (zrm 3) s m args below meth c cX8_writesNote G Q (zset μ o out)) {k15 : zOb → Int32 → Option zOb} (hk15 : ∀ (S : zOb) (x1 : Int32), k15 S x1 = some out → ∀ {H : Heap} {locs : List Loc} {ls : Array Slot}, zIW G s (zset μ o S) H locs → lv_has ls 2 [(0, .ref (G.2.2.1 o 0)), (1, .int x1)] → W p l e (zrm 3) s m args below meth c H locs 0 0 Q (F0 m 15 ls [])) : ∀ (S : zOb) (x1 : Int32), f_Mo_writesNote_95 N k15 S x1 = some out → ∀ {H : Heap} {locs : List Loc} {ls : Array Slot}, zIW G s (zset μ o S) H locs → lv_has ls 2 [(0, .ref (G.2.2.1 o 0)), (1, .int x1)] → W p l e (zrm 3) s m args below meth c H locs 0 0 Q (F0 m 95 ls []) := by
  obtain ⟨hx, hb, hml, hown, hts, hK, hR⟩ := id cx
  intro S x1  h H locs ls hI hl
  unfold f_Mo_writesNote_95 at h
  obtain ⟨v19, ev19⟩ : ∃ z : Int32, z = x1 + (nI 1) := ⟨_, rfl⟩
  have h := bnd_el h ev19
  refine lv_iinc (v := v19) (lv' := [(1, .int v19), (0, .ref (G.2.2.1 o 0))]) hx hb dX8_writesNote_95 hl (k := 1) rfl (by rw [ev19]; rfl) (by decide) rfl (fun ls hl => ?_)
  refine lv_goto (tgt := 15) hx hb dX8_writesNote_98 (by decide) ?_
  exact hk15 S v19 h hI (lv_sub hl [1, 0] rfl)
def f_Mo_writesNote_35 (N : Nat) (k15 : zOb → Int32 → Option zOb) (S : zOb) (x1 : Int32) : Option zOb :=
  if zin x1 7 then (f_Mo_writes S ((nI 48) + (S.1 13 x1.toNatClampNeg))).bind (fun q12 => (f_Mo_writes q12 (nI 43)).bind (fun q13 => if zin x1 7 then (f_Mo_sizeOf N (q13.1 16 x1.toNatClampNeg)).bind (fun q15 => (f_Mo_writesNumber q13 q15).bind (fun q16 => if zin x1 7 then (if (q16.1 18 x1.toNatClampNeg) = nI 0 then f_Mo_writesNote_95 N k15 q16 x1 else (f_Mo_writes q16 (nI 45)).bind (fun q20 => if zin x1 7 then (f_Mo_sizeOf N (q20.1 18 x1.toNatClampNeg)).bind (fun q22 => (f_Mo_writesNumber q20 q22).bind (fun q23 => f_Mo_writesNote_95 N k15 q23 x1)) else none)) else none)) else none)) else none
set_option maxHeartbeats 4000000 in
set_option maxRecDepth 100000 in
theorem t_Mo_writesNote_35 (N : Nat) {p : Program} {l : Launch} {e : Env} {s : State} {m : MethodId} {args : Array Value} {below : List Frame} {meth : Method} {c : Code} {Q : State → Prop} {G : zG} {μ : zM} {o : Nat} (hc : o = 29) {out : zOb} (cx : zCX p (zrm 3) s m args c RX8 cX8_writesNote 2 3 G) (hret : zRv p l e (zrm 3) s m args below meth c cX8_writesNote G Q (zset μ o out)) {k15 : zOb → Int32 → Option zOb} (hk15 : ∀ (S : zOb) (x1 : Int32), k15 S x1 = some out → ∀ {H : Heap} {locs : List Loc} {ls : Array Slot}, zIW G s (zset μ o S) H locs → lv_has ls 2 [(0, .ref (G.2.2.1 o 0)), (1, .int x1)] → W p l e (zrm 3) s m args below meth c H locs 0 0 Q (F0 m 15 ls [])) : ∀ (S : zOb) (x1 : Int32), f_Mo_writesNote_35 N k15 S x1 = some out → ∀ {H : Heap} {locs : List Loc} {ls : Array Slot}, zIW G s (zset μ o S) H locs → lv_has ls 2 [(0, .ref (G.2.2.1 o 0)), (1, .int x1)] → W p l e (zrm 3) s m args below meth c H locs 0 0 Q (F0 m 35 ls []) := by
  obtain ⟨hx, hb, hml, hown, hts, hK, hR⟩ := id cx
  intro S x1  h H locs ls hI hl
  unfold f_Mo_writesNote_35 at h
  refine lv_aload_n hx hb dX8_writesNote_35 rfl (lv_at hl 0 rfl) ?_
  refine lv_bipush (v := (nI 48)) hx hb dX8_writesNote_36 (by decide) ?_
  refine lv_aload_n hx hb dX8_writesNote_38 rfl (lv_at hl 0 rfl) ?_
  refine g8_12 cx hI hc (zset_s _ _ _) w_118 dX8_writesNote_39 ?_
  refine lv_iload_n hx hb dX8_writesNote_42 rfl (lv_at hl 1 rfl) ?_
  obtain ⟨g11, h⟩ := gd_el h
  refine zr_iald cx hI (k8_13 hc) (zset_s _ _ _) (z8_13 hc) rfl g11 dX8_writesNote_43 ?_
  refine lv_iadd hx hb dX8_writesNote_44 ?_
  obtain ⟨q12, hq12, h⟩ := bi_el h
  refine zcVv (As := [.int ((nI 48) + (S.1 13 x1.toNatClampNeg))]) cx hI (c_Mo_writes hc (zset_s _ _ _) hq12 (zset_ss _ _ _ _)) mt_yX8_writes mv_yX8_writes w_758 (by omega) (k8_0 hc) (zv8 hc) rfl hl.1 rfl (Nat.le_of_ble_eq_true rfl) dX8_writesNote_45 (fun H locs hI => ?_)
  refine lv_aload_n hx hb dX8_writesNote_48 rfl (lv_at hl 0 rfl) ?_
  refine lv_bipush (v := (nI 43)) hx hb dX8_writesNote_49 (by decide) ?_
  obtain ⟨q13, hq13, h⟩ := bi_el h
  refine zcVv (As := [.int (nI 43)]) cx hI (c_Mo_writes hc (zset_s _ _ _) hq13 (zset_ss _ _ _ _)) mt_yX8_writes mv_yX8_writes w_758 (by omega) (k8_0 hc) (zv8 hc) rfl hl.1 rfl (Nat.le_of_ble_eq_true rfl) dX8_writesNote_51 (fun H locs hI => ?_)
  refine lv_aload_n hx hb dX8_writesNote_54 rfl (lv_at hl 0 rfl) ?_
  refine lv_aload_n hx hb dX8_writesNote_55 rfl (lv_at hl 0 rfl) ?_
  refine g8_15 cx hI hc (zset_s _ _ _) w_121 dX8_writesNote_56 ?_
  refine lv_iload_n hx hb dX8_writesNote_59 rfl (lv_at hl 1 rfl) ?_
  obtain ⟨g14, h⟩ := gd_el h
  refine zr_iald cx hI (k8_16 hc) (zset_s _ _ _) (z8_16 hc) rfl g14 dX8_writesNote_60 ?_
  obtain ⟨q15, hq15, h⟩ := bi_el h
  refine zcSi (As := [.int (q13.1 16 x1.toNatClampNeg)]) cx hI (c_Mo_sizeOf N hq15) mt_yX8_sizeOf ms_yX8_sizeOf w_516 (by omega) rfl hl.1 rfl (Nat.le_of_ble_eq_true rfl) dX8_writesNote_61 (fun H locs hI => ?_)
  obtain ⟨q16, hq16, h⟩ := bi_el h
  refine zcVv (As := [.int q15]) cx hI (c_Mo_writesNumber hc (zset_s _ _ _) hq16 (zset_ss _ _ _ _)) mt_yX8_writesNumber mv_yX8_writesNumber w_762 (by omega) (k8_0 hc) (zv8 hc) rfl hl.1 rfl (Nat.le_of_ble_eq_true rfl) dX8_writesNote_64 (fun H locs hI => ?_)
  refine lv_aload_n hx hb dX8_writesNote_67 rfl (lv_at hl 0 rfl) ?_
  refine g8_17 cx hI hc (zset_s _ _ _) w_123 dX8_writesNote_68 ?_
  refine lv_iload_n hx hb dX8_writesNote_71 rfl (lv_at hl 1 rfl) ?_
  obtain ⟨g17, h⟩ := gd_el h
  refine zr_iald cx hI (k8_18 hc) (zset_s _ _ _) (z8_18 hc) rfl g17 dX8_writesNote_72 ?_
  refine lv_if_eq (tgt := 95) hx hb dX8_writesNote_73 (by decide) (fun c18 => ?_) (fun c18 => ?_)
  · have h := it_p h c18
    exact t_Mo_writesNote_95 N hc cx hret hk15 q16 x1 h hI hl
  · have h := it_n h c18
    refine lv_aload_n hx hb dX8_writesNote_76 rfl (lv_at hl 0 rfl) ?_
    refine lv_bipush (v := (nI 45)) hx hb dX8_writesNote_77 (by decide) ?_
    obtain ⟨q20, hq20, h⟩ := bi_el h
    refine zcVv (As := [.int (nI 45)]) cx hI (c_Mo_writes hc (zset_s _ _ _) hq20 (zset_ss _ _ _ _)) mt_yX8_writes mv_yX8_writes w_758 (by omega) (k8_0 hc) (zv8 hc) rfl hl.1 rfl (Nat.le_of_ble_eq_true rfl) dX8_writesNote_79 (fun H locs hI => ?_)
    refine lv_aload_n hx hb dX8_writesNote_82 rfl (lv_at hl 0 rfl) ?_
    refine lv_aload_n hx hb dX8_writesNote_83 rfl (lv_at hl 0 rfl) ?_
    refine g8_17 cx hI hc (zset_s _ _ _) w_123 dX8_writesNote_84 ?_
    refine lv_iload_n hx hb dX8_writesNote_87 rfl (lv_at hl 1 rfl) ?_
    obtain ⟨g21, h⟩ := gd_el h
    refine zr_iald cx hI (k8_18 hc) (zset_s _ _ _) (z8_18 hc) rfl g21 dX8_writesNote_88 ?_
    obtain ⟨q22, hq22, h⟩ := bi_el h
    refine zcSi (As := [.int (q20.1 18 x1.toNatClampNeg)]) cx hI (c_Mo_sizeOf N hq22) mt_yX8_sizeOf ms_yX8_sizeOf w_516 (by omega) rfl hl.1 rfl (Nat.le_of_ble_eq_true rfl) dX8_writesNote_89 (fun H locs hI => ?_)
    obtain ⟨q23, hq23, h⟩ := bi_el h
    refine zcVv (As := [.int q22]) cx hI (c_Mo_writesNumber hc (zset_s _ _ _) hq23 (zset_ss _ _ _ _)) mt_yX8_writesNumber mv_yX8_writesNumber w_762 (by omega) (k8_0 hc) (zv8 hc) rfl hl.1 rfl (Nat.le_of_ble_eq_true rfl) dX8_writesNote_92 (fun H locs hI => ?_)
    exact t_Mo_writesNote_95 N hc cx hret hk15 q23 x1 h hI hl
def f_Mo_writesNote_15 (N : Nat)  : Nat → zOb → Int32 → Option zOb
  | 0, _, _ => none
  | n + 1, S, x1 => (if (S.1 1 0) ≤ x1 then (if (S.1 1 0) = nI 0 then (f_Mo_writes S (nI 110)).bind (fun q6 => (f_Mo_writes q6 (nI 111)).bind (fun q7 => (f_Mo_writes q7 (nI 110)).bind (fun q8 => (f_Mo_writes q8 (nI 101)).bind (fun q9 => f_Mo_writesNote_134 N q9)))) else f_Mo_writesNote_134 N S) else (if x1 ≤ nI 0 then f_Mo_writesNote_35 N (f_Mo_writesNote_15 N n) S x1 else (f_Mo_writes S (nI 32)).bind (fun q24 => f_Mo_writesNote_35 N (f_Mo_writesNote_15 N n) q24 x1)))
set_option maxHeartbeats 4000000 in
set_option maxRecDepth 100000 in
theorem t_Mo_writesNote_15 (N : Nat) {p : Program} {l : Launch} {e : Env} {s : State} {m : MethodId} {args : Array Value} {below : List Frame} {meth : Method} {c : Code} {Q : State → Prop} {G : zG} {μ : zM} {o : Nat} (hc : o = 29) {out : zOb} (cx : zCX p (zrm 3) s m args c RX8 cX8_writesNote 2 3 G) (hret : zRv p l e (zrm 3) s m args below meth c cX8_writesNote G Q (zset μ o out))   : ∀ (n : Nat) (S : zOb) (x1 : Int32), f_Mo_writesNote_15 N n S x1 = some out → ∀ {H : Heap} {locs : List Loc} {ls : Array Slot}, zIW G s (zset μ o S) H locs → lv_has ls 2 [(0, .ref (G.2.2.1 o 0)), (1, .int x1)] → W p l e (zrm 3) s m args below meth c H locs 0 0 Q (F0 m 15 ls []) := by
  obtain ⟨hx, hb, hml, hown, hts, hK, hR⟩ := id cx
  intro n
  induction n with
  | zero =>
    intro S x1  h
    cases h
  | succ n ih =>
    intro S x1  h H locs ls hI hl
    rw [f_Mo_writesNote_15] at h
    refine lv_iload_n hx hb dX8_writesNote_15 rfl (lv_at hl 1 rfl) ?_
    refine lv_aload_n hx hb dX8_writesNote_16 rfl (lv_at hl 0 rfl) ?_
    refine g8_0 cx hI hc (zset_s _ _ _) w_108 dX8_writesNote_17 ?_
    refine lv_iconst (v := (nI 0)) hx hb dX8_writesNote_20 (by decide) ?_
    refine zr_iald cx hI (k8_1 hc) (zset_s _ _ _) (z8_1 hc) rfl (by decide) dX8_writesNote_21 ?_
    refine lv_icmp_ge (tgt := 101) hx hb dX8_writesNote_22 (by decide) (fun c4 => ?_) (fun c4 => ?_)
    · have h := it_p h c4
      refine lv_aload_n hx hb dX8_writesNote_101 rfl (lv_at hl 0 rfl) ?_
      refine g8_0 cx hI hc (zset_s _ _ _) w_108 dX8_writesNote_102 ?_
      refine lv_iconst (v := (nI 0)) hx hb dX8_writesNote_105 (by decide) ?_
      refine zr_iald cx hI (k8_1 hc) (zset_s _ _ _) (z8_1 hc) rfl (by decide) dX8_writesNote_106 ?_
      refine lv_if_ne (tgt := 134) hx hb dX8_writesNote_107 (by decide) (fun c5 => ?_) (fun c5 => ?_)
      · have h := it_n h c5
        exact t_Mo_writesNote_134 N hc cx hret S h hI (lv_sub hl [] rfl)
      · have h := it_p h c5
        refine lv_aload_n hx hb dX8_writesNote_110 rfl (lv_at hl 0 rfl) ?_
        refine lv_bipush (v := (nI 110)) hx hb dX8_writesNote_111 (by decide) ?_
        obtain ⟨q6, hq6, h⟩ := bi_el h
        refine zcVv (As := [.int (nI 110)]) cx hI (c_Mo_writes hc (zset_s _ _ _) hq6 (zset_ss _ _ _ _)) mt_yX8_writes mv_yX8_writes w_758 (by omega) (k8_0 hc) (zv8 hc) rfl hl.1 rfl (Nat.le_of_ble_eq_true rfl) dX8_writesNote_113 (fun H locs hI => ?_)
        refine lv_aload_n hx hb dX8_writesNote_116 rfl (lv_at hl 0 rfl) ?_
        refine lv_bipush (v := (nI 111)) hx hb dX8_writesNote_117 (by decide) ?_
        obtain ⟨q7, hq7, h⟩ := bi_el h
        refine zcVv (As := [.int (nI 111)]) cx hI (c_Mo_writes hc (zset_s _ _ _) hq7 (zset_ss _ _ _ _)) mt_yX8_writes mv_yX8_writes w_758 (by omega) (k8_0 hc) (zv8 hc) rfl hl.1 rfl (Nat.le_of_ble_eq_true rfl) dX8_writesNote_119 (fun H locs hI => ?_)
        refine lv_aload_n hx hb dX8_writesNote_122 rfl (lv_at hl 0 rfl) ?_
        refine lv_bipush (v := (nI 110)) hx hb dX8_writesNote_123 (by decide) ?_
        obtain ⟨q8, hq8, h⟩ := bi_el h
        refine zcVv (As := [.int (nI 110)]) cx hI (c_Mo_writes hc (zset_s _ _ _) hq8 (zset_ss _ _ _ _)) mt_yX8_writes mv_yX8_writes w_758 (by omega) (k8_0 hc) (zv8 hc) rfl hl.1 rfl (Nat.le_of_ble_eq_true rfl) dX8_writesNote_125 (fun H locs hI => ?_)
        refine lv_aload_n hx hb dX8_writesNote_128 rfl (lv_at hl 0 rfl) ?_
        refine lv_bipush (v := (nI 101)) hx hb dX8_writesNote_129 (by decide) ?_
        obtain ⟨q9, hq9, h⟩ := bi_el h
        refine zcVv (As := [.int (nI 101)]) cx hI (c_Mo_writes hc (zset_s _ _ _) hq9 (zset_ss _ _ _ _)) mt_yX8_writes mv_yX8_writes w_758 (by omega) (k8_0 hc) (zv8 hc) rfl hl.1 rfl (Nat.le_of_ble_eq_true rfl) dX8_writesNote_131 (fun H locs hI => ?_)
        exact t_Mo_writesNote_134 N hc cx hret q9 h hI (lv_sub hl [] rfl)
    · have h := it_n h c4
      refine lv_iload_n hx hb dX8_writesNote_25 rfl (lv_at hl 1 rfl) ?_
      refine lv_if_le (tgt := 35) hx hb dX8_writesNote_26 (by decide) (fun c10 => ?_) (fun c10 => ?_)
      · have h := it_p h c10
        exact t_Mo_writesNote_35 N hc cx hret ih S x1 h hI hl
      · have h := it_n h c10
        refine lv_aload_n hx hb dX8_writesNote_29 rfl (lv_at hl 0 rfl) ?_
        refine lv_bipush (v := (nI 32)) hx hb dX8_writesNote_30 (by decide) ?_
        obtain ⟨q24, hq24, h⟩ := bi_el h
        refine zcVv (As := [.int (nI 32)]) cx hI (c_Mo_writes hc (zset_s _ _ _) hq24 (zset_ss _ _ _ _)) mt_yX8_writes mv_yX8_writes w_758 (by omega) (k8_0 hc) (zv8 hc) rfl hl.1 rfl (Nat.le_of_ble_eq_true rfl) dX8_writesNote_32 (fun H locs hI => ?_)
        exact t_Mo_writesNote_35 N hc cx hret ih q24 x1 h hI hl
def f_Mo_writesNote (N : Nat) (S : zOb) : Option zOb :=
  bnd (zI S 0 23 (nI 0)) (fun Z1 => (f_Mo_takesOrder N Z1).bind (fun q2 => (f_Mo_readsOrder N q2).bind (fun q3 => f_Mo_writesNote_15 N N q3 (nI 0))))
set_option maxHeartbeats 4000000 in
set_option maxRecDepth 100000 in
theorem c_Mo_writesNote (N : Nat) {l : Launch} {G : zG} {μ : zM} {o : Nat} (hc : o = 29) {S : zOb} (hS : μ o = S)  {out : zOb} (h : f_Mo_writesNote N S  = some out) {μ' : zM} (hμ : zset μ o out = μ') : zMV l G yX8_writesNote cX8_writesNote 2 none 3 [.ref (G.2.2.1 o 0)] μ μ' := by
  subst hμ
  refine zMV.of (by decide) (Nat.le_of_ble_eq_true rfl) (fun p e s m args below meth c Q ls cx hI hl hret => ?_)
  obtain ⟨hx, hb, hml, hown, hts, hK, hR⟩ := id cx
  have hl : lv_has ls 2 [(0, .ref (G.2.2.1 o 0))] := hl
  rw [← zset_idS hS] at hI
  unfold f_Mo_writesNote at h
  refine lv_aload_n hx hb dX8_writesNote_0 rfl (lv_at hl 0 rfl) ?_
  refine lv_iconst (v := (nI 0)) hx hb dX8_writesNote_1 (by decide) ?_
  obtain ⟨Z1, eZ1⟩ : ∃ z : zOb, z = zI S 0 23 (nI 0) := ⟨_, rfl⟩
  have h := bnd_el h eZ1
  refine p8_23 cx hI hc (zset_s _ _ _) w_753 (zss eZ1) dX8_writesNote_2 (fun H locs hI => ?_)
  refine lv_aload_n hx hb dX8_writesNote_5 rfl (lv_at hl 0 rfl) ?_
  obtain ⟨q2, hq2, h⟩ := bi_el h
  refine zcVv (As := []) cx hI (c_Mo_takesOrder N hc (zset_s _ _ _) hq2 (zset_ss _ _ _ _)) mt_yX8_takesOrder mv_yX8_takesOrder w_470 (by omega) (k8_0 hc) (zv8 hc) rfl hl.1 rfl (Nat.le_of_ble_eq_true rfl) dX8_writesNote_6 (fun H locs hI => ?_)
  refine lv_aload_n hx hb dX8_writesNote_9 rfl (lv_at hl 0 rfl) ?_
  obtain ⟨q3, hq3, h⟩ := bi_el h
  refine zcVv (As := []) cx hI (c_Mo_readsOrder N hc (zset_s _ _ _) hq3 (zset_ss _ _ _ _)) mt_yX8_readsOrder mv_yX8_readsOrder w_492 (by omega) (k8_0 hc) (zv8 hc) rfl hl.1 rfl (Nat.le_of_ble_eq_true rfl) dX8_writesNote_10 (fun H locs hI => ?_)
  refine lv_iconst (v := (nI 0)) hx hb dX8_writesNote_13 (by decide) ?_
  refine lv_istore_n (lv' := [(1, .int (nI 0)), (0, .ref (G.2.2.1 o 0))]) hx hb dX8_writesNote_14 rfl hl (by decide) rfl (fun ls hl => ?_)
  exact t_Mo_writesNote_15 N hc cx hret N q3 (nI 0) h hI (lv_sub hl [1, 0] rfl)
def f_Mo_letter_29 (N : Nat)  (S : zOb) (s0 : Int32) : Option (Int32 × zOb) :=
  some (s0, S)
set_option maxHeartbeats 4000000 in
set_option maxRecDepth 100000 in
theorem t_Mo_letter_29 (N : Nat) {p : Program} {l : Launch} {e : Env} {s : State} {m : MethodId} {args : Array Value} {below : List Frame} {meth : Method} {c : Code} {Q : State → Prop} {G : zG} {μ : zM} {o : Nat} (hc : o = 29) {out : (Int32 × zOb)} (cx : zCX p (zrm 4) s m args c RX8 cX8_letter 2 4 G) (hret : zRi p l e (zrm 4) s m args below meth c cX8_letter G .int Q out.1 (zset μ o out.2))   : ∀ (S : zOb) (s0 : Int32), f_Mo_letter_29 N S s0 = some out → ∀ {H : Heap} {locs : List Loc} {ls : Array Slot}, zIW G s (zset μ o S) H locs → lv_has ls 2 [] → W p l e (zrm 4) s m args below meth c H locs 0 0 Q (F0 m 29 ls [.int s0]) := by
  obtain ⟨hx, hb, hml, hown, hts, hK, hR⟩ := id cx
  intro S s0  h H locs ls hI hl
  unfold f_Mo_letter_29 at h
  obtain rfl := Option.some.inj h
  exact hret _ _ _ _ dX8_letter_29 rfl hI
def f_Mo_letter (N : Nat) (S : zOb) (a1 : Int32) : Option (Int32 × zOb) :=
  (if nI 0 ≤ a1 then (f_Mo_writesNote N S).bind (fun q2 => (if (q2.1 0 23) ≤ a1 then f_Mo_letter_29 N q2 (-4 : Int32) else if zin a1 64 then f_Mo_letter_29 N q2 (q2.1 23 a1.toNatClampNeg) else none)) else some ((-1 : Int32), S))
set_option maxHeartbeats 4000000 in
set_option maxRecDepth 100000 in
theorem c_Mo_letter (N : Nat) {l : Launch} {G : zG} {μ : zM} {o : Nat} (hc : o = 29) {S : zOb} (hS : μ o = S) {a1 : Int32} {out : (Int32 × zOb)} (h : f_Mo_letter N S a1 = some out) {μ' : zM} (hμ : zset μ o out.2 = μ') : zMI l G yX8_letter cX8_letter 2 (some .int) 4 [.ref (G.2.2.1 o 0), .int a1] μ out.1 μ' := by
  subst hμ
  refine zMI.of (by decide) (Nat.le_of_ble_eq_true rfl) (fun p e s m args below meth c Q ls cx hI hl hret => ?_)
  obtain ⟨hx, hb, hml, hown, hts, hK, hR⟩ := id cx
  have hl : lv_has ls 2 [(0, .ref (G.2.2.1 o 0)), (1, .int a1)] := hl
  rw [← zset_idS hS] at hI
  unfold f_Mo_letter at h
  refine lv_iload_n hx hb dX8_letter_0 rfl (lv_at hl 1 rfl) ?_
  refine lv_if_ge (tgt := 6) hx hb dX8_letter_1 (by decide) (fun c1 => ?_) (fun c1 => ?_)
  · have h := it_p h c1
    refine lv_aload_n hx hb dX8_letter_6 rfl (lv_at hl 0 rfl) ?_
    obtain ⟨q2, hq2, h⟩ := bi_el h
    refine zcVv (As := []) cx hI (c_Mo_writesNote N hc (zset_s _ _ _) hq2 (zset_ss _ _ _ _)) mt_yX8_writesNote mv_yX8_writesNote w_754 (by omega) (k8_0 hc) (zv8 hc) rfl hl.1 rfl (Nat.le_of_ble_eq_true rfl) dX8_letter_7 (fun H locs hI => ?_)
    refine lv_iload_n hx hb dX8_letter_10 rfl (lv_at hl 1 rfl) ?_
    refine lv_aload_n hx hb dX8_letter_11 rfl (lv_at hl 0 rfl) ?_
    refine g8_23 cx hI hc (zset_s _ _ _) w_753 dX8_letter_12 ?_
    refine lv_icmp_ge (tgt := 27) hx hb dX8_letter_15 (by decide) (fun c3 => ?_) (fun c3 => ?_)
    · have h := it_p h c3
      refine lv_bipush (v := (-4 : Int32)) hx hb dX8_letter_27 (by decide) ?_
      exact t_Mo_letter_29 N hc cx hret q2 (-4 : Int32) h hI (lv_sub hl [] rfl)
    · have h := it_n h c3
      refine lv_aload_n hx hb dX8_letter_18 rfl (lv_at hl 0 rfl) ?_
      refine g8_22 cx hI hc (zset_s _ _ _) w_125 dX8_letter_19 ?_
      refine lv_iload_n hx hb dX8_letter_22 rfl (lv_at hl 1 rfl) ?_
      obtain ⟨g4, h⟩ := gd_el h
      refine zr_iald cx hI (k8_23 hc) (zset_s _ _ _) (z8_23 hc) rfl g4 dX8_letter_23 ?_
      refine lv_goto (tgt := 29) hx hb dX8_letter_24 (by decide) ?_
      exact t_Mo_letter_29 N hc cx hret q2 (q2.1 23 a1.toNatClampNeg) h hI (lv_sub hl [] rfl)
  · have h := it_n h c1
    refine lv_iconst (v := (-1 : Int32)) hx hb dX8_letter_4 (by decide) ?_
    obtain rfl := Option.some.inj h
    exact hret _ _ _ _ dX8_letter_5 rfl hI
def f_Mo_notes_46 (N : Nat)  : Nat → zOb → Int32 → Option zOb
  | 0, _, _ => none
  | n + 1, S, x1 => (if (nI 27) ≤ x1 then bnd (zI S 0 2 ((S.1 0 2) + (nI 1))) (fun Z3 => some Z3) else if zin x1 27 then if zin (((nI 27) * (S.1 0 2)) + x1) 162 then bnd (zI S 2 ((((nI 27) * (S.1 0 2)) + x1).toNatClampNeg) (S.1 25 x1.toNatClampNeg)) (fun Z6 => bnd (x1 + (nI 1)) (fun v7 => f_Mo_notes_46 N n Z6 v7)) else none else none)
set_option maxHeartbeats 4000000 in
set_option maxRecDepth 100000 in
theorem t_Mo_notes_46 (N : Nat) {p : Program} {l : Launch} {e : Env} {s : State} {m : MethodId} {args : Array Value} {below : List Frame} {meth : Method} {c : Code} {Q : State → Prop} {G : zG} {μ : zM} {o : Nat} (hc : o = 29) {out : zOb} (cx : zCX p (zrm 0) s m args c RX8 cX8_notes 2 0 G) (hret : zRv p l e (zrm 0) s m args below meth c cX8_notes G Q (zset μ o out))   : ∀ (n : Nat) (S : zOb) (x1 : Int32), f_Mo_notes_46 N n S x1 = some out → ∀ {H : Heap} {locs : List Loc} {ls : Array Slot}, zIW G s (zset μ o S) H locs → lv_has ls 2 [(0, .ref (G.2.2.1 o 0)), (1, .int x1)] → W p l e (zrm 0) s m args below meth c H locs 0 0 Q (F0 m 46 ls []) := by
  obtain ⟨hx, hb, hml, hown, hts, hK, hR⟩ := id cx
  intro n
  induction n with
  | zero =>
    intro S x1  h
    cases h
  | succ n ih =>
    intro S x1  h H locs ls hI hl
    rw [f_Mo_notes_46] at h
    refine lv_iload_n hx hb dX8_notes_46 rfl (lv_at hl 1 rfl) ?_
    refine lv_bipush (v := (nI 27)) hx hb dX8_notes_47 (by decide) ?_
    refine lv_icmp_ge (tgt := 78) hx hb dX8_notes_49 (by decide) (fun c2 => ?_) (fun c2 => ?_)
    · have h := it_p h c2
      refine lv_aload_n hx hb dX8_notes_78 rfl (lv_at hl 0 rfl) ?_
      refine lv_dup hx hb dX8_notes_79 rfl ?_
      refine g8_2 cx hI hc (zset_s _ _ _) w_190 dX8_notes_80 ?_
      refine lv_iconst (v := (nI 1)) hx hb dX8_notes_83 (by decide) ?_
      refine lv_iadd hx hb dX8_notes_84 ?_
      obtain ⟨Z3, eZ3⟩ : ∃ z : zOb, z = zI S 0 2 ((S.1 0 2) + (nI 1)) := ⟨_, rfl⟩
      have h := bnd_el h eZ3
      refine p8_2 cx hI hc (zset_s _ _ _) w_190 (zss eZ3) dX8_notes_85 (fun H locs hI => ?_)
      obtain rfl := Option.some.inj h
      exact hret _ _ _ _ dX8_notes_88 hI
    · have h := it_n h c2
      refine lv_aload_n hx hb dX8_notes_52 rfl (lv_at hl 0 rfl) ?_
      refine g8_1 cx hI hc (zset_s _ _ _) w_109 dX8_notes_53 ?_
      refine lv_bipush (v := (nI 27)) hx hb dX8_notes_56 (by decide) ?_
      refine lv_aload_n hx hb dX8_notes_58 rfl (lv_at hl 0 rfl) ?_
      refine g8_2 cx hI hc (zset_s _ _ _) w_190 dX8_notes_59 ?_
      refine lv_imul hx hb dX8_notes_62 ?_
      refine lv_iload_n hx hb dX8_notes_63 rfl (lv_at hl 1 rfl) ?_
      refine lv_iadd hx hb dX8_notes_64 ?_
      refine lv_aload_n hx hb dX8_notes_65 rfl (lv_at hl 0 rfl) ?_
      refine g8_24 cx hI hc (zset_s _ _ _) w_126 dX8_notes_66 ?_
      refine lv_iload_n hx hb dX8_notes_69 rfl (lv_at hl 1 rfl) ?_
      obtain ⟨g4, h⟩ := gd_el h
      refine zr_iald cx hI (k8_25 hc) (zset_s _ _ _) (z8_25 hc) rfl g4 dX8_notes_70 ?_
      obtain ⟨g5, h⟩ := gd_el h
      obtain ⟨Z6, eZ6⟩ : ∃ z : zOb, z = zI S 2 ((((nI 27) * (S.1 0 2)) + x1).toNatClampNeg) (S.1 25 x1.toNatClampNeg) := ⟨_, rfl⟩
      have h := bnd_el h eZ6
      refine zr_iast cx hI (k8_2 hc) (zset_s _ _ _) (z8_2 hc) rfl g5 (zss eZ6) dX8_notes_71 (fun H locs hI => ?_)
      obtain ⟨v7, ev7⟩ : ∃ z : Int32, z = x1 + (nI 1) := ⟨_, rfl⟩
      have h := bnd_el h ev7
      refine lv_iinc (v := v7) (lv' := [(1, .int v7), (0, .ref (G.2.2.1 o 0))]) hx hb dX8_notes_72 hl (k := 1) rfl (by rw [ev7]; rfl) (by decide) rfl (fun ls hl => ?_)
      refine lv_goto (tgt := 46) hx hb dX8_notes_75 (by decide) ?_
      exact ih Z6 v7 h hI (lv_sub hl [1, 0] rfl)
def f_Mo_notes_44 (N : Nat)  (S : zOb) : Option zOb :=
  f_Mo_notes_46 N N S (nI 0)
set_option maxHeartbeats 4000000 in
set_option maxRecDepth 100000 in
theorem t_Mo_notes_44 (N : Nat) {p : Program} {l : Launch} {e : Env} {s : State} {m : MethodId} {args : Array Value} {below : List Frame} {meth : Method} {c : Code} {Q : State → Prop} {G : zG} {μ : zM} {o : Nat} (hc : o = 29) {out : zOb} (cx : zCX p (zrm 0) s m args c RX8 cX8_notes 2 0 G) (hret : zRv p l e (zrm 0) s m args below meth c cX8_notes G Q (zset μ o out))   : ∀ (S : zOb), f_Mo_notes_44 N S = some out → ∀ {H : Heap} {locs : List Loc} {ls : Array Slot}, zIW G s (zset μ o S) H locs → lv_has ls 2 [(0, .ref (G.2.2.1 o 0))] → W p l e (zrm 0) s m args below meth c H locs 0 0 Q (F0 m 44 ls []) := by
  obtain ⟨hx, hb, hml, hown, hts, hK, hR⟩ := id cx
  intro S  h H locs ls hI hl
  unfold f_Mo_notes_44 at h
  refine lv_iconst (v := (nI 0)) hx hb dX8_notes_44 (by decide) ?_
  refine lv_istore_n (lv' := [(1, .int (nI 0)), (0, .ref (G.2.2.1 o 0))]) hx hb dX8_notes_45 rfl hl (by decide) rfl (fun ls hl => ?_)
  exact t_Mo_notes_46 N hc cx hret N S (nI 0) h hI (lv_sub hl [1, 0] rfl)
def f_Mo_notes_11 (N : Nat)  : Nat → zOb → Int32 → Option zOb
  | 0, _, _ => none
  | n + 1, S, x1 => (if (nI 135) ≤ x1 then bnd (zI S 0 2 (nI 5)) (fun Z9 => f_Mo_notes_44 N Z9) else if zin (x1 + (nI 27)) 162 then if zin x1 162 then bnd (zI S 2 x1.toNatClampNeg (S.1 2 ((x1 + (nI 27)).toNatClampNeg))) (fun Z12 => bnd (x1 + (nI 1)) (fun v13 => f_Mo_notes_11 N n Z12 v13)) else none else none)
set_option maxHeartbeats 4000000 in
set_option maxRecDepth 100000 in
theorem t_Mo_notes_11 (N : Nat) {p : Program} {l : Launch} {e : Env} {s : State} {m : MethodId} {args : Array Value} {below : List Frame} {meth : Method} {c : Code} {Q : State → Prop} {G : zG} {μ : zM} {o : Nat} (hc : o = 29) {out : zOb} (cx : zCX p (zrm 0) s m args c RX8 cX8_notes 2 0 G) (hret : zRv p l e (zrm 0) s m args below meth c cX8_notes G Q (zset μ o out))   : ∀ (n : Nat) (S : zOb) (x1 : Int32), f_Mo_notes_11 N n S x1 = some out → ∀ {H : Heap} {locs : List Loc} {ls : Array Slot}, zIW G s (zset μ o S) H locs → lv_has ls 2 [(0, .ref (G.2.2.1 o 0)), (1, .int x1)] → W p l e (zrm 0) s m args below meth c H locs 0 0 Q (F0 m 11 ls []) := by
  obtain ⟨hx, hb, hml, hown, hts, hK, hR⟩ := id cx
  intro n
  induction n with
  | zero =>
    intro S x1  h
    cases h
  | succ n ih =>
    intro S x1  h H locs ls hI hl
    rw [f_Mo_notes_11] at h
    refine lv_iload_n hx hb dX8_notes_11 rfl (lv_at hl 1 rfl) ?_
    refine lv_sipush (v := (nI 135)) hx hb dX8_notes_12 (by decide) ?_
    refine lv_icmp_ge (tgt := 39) hx hb dX8_notes_15 (by decide) (fun c8 => ?_) (fun c8 => ?_)
    · have h := it_p h c8
      refine lv_aload_n hx hb dX8_notes_39 rfl (lv_at hl 0 rfl) ?_
      refine lv_iconst (v := (nI 5)) hx hb dX8_notes_40 (by decide) ?_
      obtain ⟨Z9, eZ9⟩ : ∃ z : zOb, z = zI S 0 2 (nI 5) := ⟨_, rfl⟩
      have h := bnd_el h eZ9
      refine p8_2 cx hI hc (zset_s _ _ _) w_190 (zss eZ9) dX8_notes_41 (fun H locs hI => ?_)
      exact t_Mo_notes_44 N hc cx hret Z9 h hI (lv_sub hl [0] rfl)
    · have h := it_n h c8
      refine lv_aload_n hx hb dX8_notes_18 rfl (lv_at hl 0 rfl) ?_
      refine g8_1 cx hI hc (zset_s _ _ _) w_109 dX8_notes_19 ?_
      refine lv_iload_n hx hb dX8_notes_22 rfl (lv_at hl 1 rfl) ?_
      refine lv_aload_n hx hb dX8_notes_23 rfl (lv_at hl 0 rfl) ?_
      refine g8_1 cx hI hc (zset_s _ _ _) w_109 dX8_notes_24 ?_
      refine lv_iload_n hx hb dX8_notes_27 rfl (lv_at hl 1 rfl) ?_
      refine lv_bipush (v := (nI 27)) hx hb dX8_notes_28 (by decide) ?_
      refine lv_iadd hx hb dX8_notes_30 ?_
      obtain ⟨g10, h⟩ := gd_el h
      refine zr_iald cx hI (k8_2 hc) (zset_s _ _ _) (z8_2 hc) rfl g10 dX8_notes_31 ?_
      obtain ⟨g11, h⟩ := gd_el h
      obtain ⟨Z12, eZ12⟩ : ∃ z : zOb, z = zI S 2 x1.toNatClampNeg (S.1 2 ((x1 + (nI 27)).toNatClampNeg)) := ⟨_, rfl⟩
      have h := bnd_el h eZ12
      refine zr_iast cx hI (k8_2 hc) (zset_s _ _ _) (z8_2 hc) rfl g11 (zss eZ12) dX8_notes_32 (fun H locs hI => ?_)
      obtain ⟨v13, ev13⟩ : ∃ z : Int32, z = x1 + (nI 1) := ⟨_, rfl⟩
      have h := bnd_el h ev13
      refine lv_iinc (v := v13) (lv' := [(1, .int v13), (0, .ref (G.2.2.1 o 0))]) hx hb dX8_notes_33 hl (k := 1) rfl (by rw [ev13]; rfl) (by decide) rfl (fun ls hl => ?_)
      refine lv_goto (tgt := 11) hx hb dX8_notes_36 (by decide) ?_
      exact ih Z12 v13 h hI (lv_sub hl [1, 0] rfl)
def f_Mo_notes (N : Nat) (S : zOb) : Option zOb :=
  (if (S.1 0 2) = (nI 6) then f_Mo_notes_11 N N S (nI 0) else f_Mo_notes_44 N S)
set_option maxHeartbeats 4000000 in
set_option maxRecDepth 100000 in
theorem c_Mo_notes (N : Nat) {l : Launch} {G : zG} {μ : zM} {o : Nat} (hc : o = 29) {S : zOb} (hS : μ o = S)  {out : zOb} (h : f_Mo_notes N S  = some out) {μ' : zM} (hμ : zset μ o out = μ') : zMV l G yX8_notes cX8_notes 2 none 0 [.ref (G.2.2.1 o 0)] μ μ' := by
  subst hμ
  refine zMV.of (by decide) (Nat.le_of_ble_eq_true rfl) (fun p e s m args below meth c Q ls cx hI hl hret => ?_)
  obtain ⟨hx, hb, hml, hown, hts, hK, hR⟩ := id cx
  have hl : lv_has ls 2 [(0, .ref (G.2.2.1 o 0))] := hl
  rw [← zset_idS hS] at hI
  unfold f_Mo_notes at h
  refine lv_aload_n hx hb dX8_notes_0 rfl (lv_at hl 0 rfl) ?_
  refine g8_2 cx hI hc (zset_s _ _ _) w_190 dX8_notes_1 ?_
  refine lv_bipush (v := (nI 6)) hx hb dX8_notes_4 (by decide) ?_
  refine lv_icmp_ne (tgt := 44) hx hb dX8_notes_6 (by decide) (fun c1 => ?_) (fun c1 => ?_)
  · have h := it_n h c1
    exact t_Mo_notes_44 N hc cx hret S h hI hl
  · have h := it_p h c1
    refine lv_iconst (v := (nI 0)) hx hb dX8_notes_9 (by decide) ?_
    refine lv_istore_n (lv' := [(1, .int (nI 0)), (0, .ref (G.2.2.1 o 0))]) hx hb dX8_notes_10 rfl hl (by decide) rfl (fun ls hl => ?_)
    exact t_Mo_notes_11 N hc cx hret N S (nI 0) h hI (lv_sub hl [1, 0] rfl)
def f_Mo_holds_2 (N : Nat)  : Nat → zOb → Int32 → Option zOb
  | 0, _, _ => none
  | n + 1, S, x1 => (if (nI 27) ≤ x1 then some S else if zin x1 27 then if zin x1 27 then bnd (zI S 25 x1.toNatClampNeg (S.1 1 x1.toNatClampNeg)) (fun Z4 => bnd (x1 + (nI 1)) (fun v5 => f_Mo_holds_2 N n Z4 v5)) else none else none)
set_option maxHeartbeats 4000000 in
set_option maxRecDepth 100000 in
theorem t_Mo_holds_2 (N : Nat) {p : Program} {l : Launch} {e : Env} {s : State} {m : MethodId} {args : Array Value} {below : List Frame} {meth : Method} {c : Code} {Q : State → Prop} {G : zG} {μ : zM} {o : Nat} (hc : o = 29) {out : zOb} (cx : zCX p (zrm 0) s m args c RX8 cX8_holds 2 0 G) (hret : zRv p l e (zrm 0) s m args below meth c cX8_holds G Q (zset μ o out))   : ∀ (n : Nat) (S : zOb) (x1 : Int32), f_Mo_holds_2 N n S x1 = some out → ∀ {H : Heap} {locs : List Loc} {ls : Array Slot}, zIW G s (zset μ o S) H locs → lv_has ls 2 [(0, .ref (G.2.2.1 o 0)), (1, .int x1)] → W p l e (zrm 0) s m args below meth c H locs 0 0 Q (F0 m 2 ls []) := by
  obtain ⟨hx, hb, hml, hown, hts, hK, hR⟩ := id cx
  intro n
  induction n with
  | zero =>
    intro S x1  h
    cases h
  | succ n ih =>
    intro S x1  h H locs ls hI hl
    rw [f_Mo_holds_2] at h
    refine lv_iload_n hx hb dX8_holds_2 rfl (lv_at hl 1 rfl) ?_
    refine lv_bipush (v := (nI 27)) hx hb dX8_holds_3 (by decide) ?_
    refine lv_icmp_ge (tgt := 26) hx hb dX8_holds_5 (by decide) (fun c1 => ?_) (fun c1 => ?_)
    · have h := it_p h c1
      obtain rfl := Option.some.inj h
      exact hret _ _ _ _ dX8_holds_26 hI
    · have h := it_n h c1
      refine lv_aload_n hx hb dX8_holds_8 rfl (lv_at hl 0 rfl) ?_
      refine g8_24 cx hI hc (zset_s _ _ _) w_126 dX8_holds_9 ?_
      refine lv_iload_n hx hb dX8_holds_12 rfl (lv_at hl 1 rfl) ?_
      refine lv_aload_n hx hb dX8_holds_13 rfl (lv_at hl 0 rfl) ?_
      refine g8_0 cx hI hc (zset_s _ _ _) w_108 dX8_holds_14 ?_
      refine lv_iload_n hx hb dX8_holds_17 rfl (lv_at hl 1 rfl) ?_
      obtain ⟨g2, h⟩ := gd_el h
      refine zr_iald cx hI (k8_1 hc) (zset_s _ _ _) (z8_1 hc) rfl g2 dX8_holds_18 ?_
      obtain ⟨g3, h⟩ := gd_el h
      obtain ⟨Z4, eZ4⟩ : ∃ z : zOb, z = zI S 25 x1.toNatClampNeg (S.1 1 x1.toNatClampNeg) := ⟨_, rfl⟩
      have h := bnd_el h eZ4
      refine zr_iast cx hI (k8_25 hc) (zset_s _ _ _) (z8_25 hc) rfl g3 (zss eZ4) dX8_holds_19 (fun H locs hI => ?_)
      obtain ⟨v5, ev5⟩ : ∃ z : Int32, z = x1 + (nI 1) := ⟨_, rfl⟩
      have h := bnd_el h ev5
      refine lv_iinc (v := v5) (lv' := [(1, .int v5), (0, .ref (G.2.2.1 o 0))]) hx hb dX8_holds_20 hl (k := 1) rfl (by rw [ev5]; rfl) (by decide) rfl (fun ls hl => ?_)
      refine lv_goto (tgt := 2) hx hb dX8_holds_23 (by decide) ?_
      exact ih Z4 v5 h hI (lv_sub hl [1, 0] rfl)
def f_Mo_holds (N : Nat) (S : zOb) : Option zOb :=
  f_Mo_holds_2 N N S (nI 0)
set_option maxHeartbeats 4000000 in
set_option maxRecDepth 100000 in
theorem c_Mo_holds (N : Nat) {l : Launch} {G : zG} {μ : zM} {o : Nat} (hc : o = 29) {S : zOb} (hS : μ o = S)  {out : zOb} (h : f_Mo_holds N S  = some out) {μ' : zM} (hμ : zset μ o out = μ') : zMV l G yX8_holds cX8_holds 2 none 0 [.ref (G.2.2.1 o 0)] μ μ' := by
  subst hμ
  refine zMV.of (by decide) (Nat.le_of_ble_eq_true rfl) (fun p e s m args below meth c Q ls cx hI hl hret => ?_)
  obtain ⟨hx, hb, hml, hown, hts, hK, hR⟩ := id cx
  have hl : lv_has ls 2 [(0, .ref (G.2.2.1 o 0))] := hl
  rw [← zset_idS hS] at hI
  unfold f_Mo_holds at h
  refine lv_iconst (v := (nI 0)) hx hb dX8_holds_0 (by decide) ?_
  refine lv_istore_n (lv' := [(1, .int (nI 0)), (0, .ref (G.2.2.1 o 0))]) hx hb dX8_holds_1 rfl hl (by decide) rfl (fun ls hl => ?_)
  exact t_Mo_holds_2 N hc cx hret N S (nI 0) h hI (lv_sub hl [1, 0] rfl)
def f_Mo_acted_8 (N : Nat)  (S : zOb) (x1 : Int32) : Option (Int32 × zOb) :=
  some (x1, S)
set_option maxHeartbeats 4000000 in
set_option maxRecDepth 100000 in
theorem t_Mo_acted_8 (N : Nat) {p : Program} {l : Launch} {e : Env} {s : State} {m : MethodId} {args : Array Value} {below : List Frame} {meth : Method} {c : Code} {Q : State → Prop} {G : zG} {μ : zM} {o : Nat} (hc : o = 29) {out : (Int32 × zOb)} (cx : zCX p (zrm 1) s m args c RX8 cX8_acted 2 1 G) (hret : zRi p l e (zrm 1) s m args below meth c cX8_acted G .int Q out.1 (zset μ o out.2))   : ∀ (S : zOb) (x1 : Int32), f_Mo_acted_8 N S x1 = some out → ∀ {H : Heap} {locs : List Loc} {ls : Array Slot}, zIW G s (zset μ o S) H locs → lv_has ls 2 [(1, .int x1)] → W p l e (zrm 1) s m args below meth c H locs 0 0 Q (F0 m 8 ls []) := by
  obtain ⟨hx, hb, hml, hown, hts, hK, hR⟩ := id cx
  intro S x1  h H locs ls hI hl
  unfold f_Mo_acted_8 at h
  refine lv_iload_n hx hb dX8_acted_8 rfl (lv_at hl 0 rfl) ?_
  obtain rfl := Option.some.inj h
  exact hret _ _ _ _ dX8_acted_9 rfl hI
def f_Mo_acted (N : Nat) (S : zOb) (a1 : Int32) : Option (Int32 × zOb) :=
  (if a1 < nI 0 then f_Mo_acted_8 N S a1 else (f_Mo_notes N S).bind (fun q2 => f_Mo_acted_8 N q2 a1))
set_option maxHeartbeats 4000000 in
set_option maxRecDepth 100000 in
theorem c_Mo_acted (N : Nat) {l : Launch} {G : zG} {μ : zM} {o : Nat} (hc : o = 29) {S : zOb} (hS : μ o = S) {a1 : Int32} {out : (Int32 × zOb)} (h : f_Mo_acted N S a1 = some out) {μ' : zM} (hμ : zset μ o out.2 = μ') : zMI l G yX8_acted cX8_acted 2 (some .int) 1 [.ref (G.2.2.1 o 0), .int a1] μ out.1 μ' := by
  subst hμ
  refine zMI.of (by decide) (Nat.le_of_ble_eq_true rfl) (fun p e s m args below meth c Q ls cx hI hl hret => ?_)
  obtain ⟨hx, hb, hml, hown, hts, hK, hR⟩ := id cx
  have hl : lv_has ls 2 [(0, .ref (G.2.2.1 o 0)), (1, .int a1)] := hl
  rw [← zset_idS hS] at hI
  unfold f_Mo_acted at h
  refine lv_iload_n hx hb dX8_acted_0 rfl (lv_at hl 1 rfl) ?_
  refine lv_if_lt (tgt := 8) hx hb dX8_acted_1 (by decide) (fun c1 => ?_) (fun c1 => ?_)
  · have h := it_p h c1
    exact t_Mo_acted_8 N hc cx hret S a1 h hI (lv_sub hl [1] rfl)
  · have h := it_n h c1
    refine lv_aload_n hx hb dX8_acted_4 rfl (lv_at hl 0 rfl) ?_
    obtain ⟨q2, hq2, h⟩ := bi_el h
    refine zcVv (As := []) cx hI (c_Mo_notes N hc (zset_s _ _ _) hq2 (zset_ss _ _ _ _)) mt_yX8_notes mv_yX8_notes w_186 (by omega) (k8_0 hc) (zv8 hc) rfl hl.1 rfl (Nat.le_of_ble_eq_true rfl) dX8_acted_5 (fun H locs hI => ?_)
    exact t_Mo_acted_8 N hc cx hret q2 a1 h hI (lv_sub hl [1] rfl)
def f_Mo_adds_11  (S : zOb) : Option (Int32 × zOb) :=
  some ((-1 : Int32), S)
set_option maxHeartbeats 4000000 in
set_option maxRecDepth 100000 in
theorem t_Mo_adds_11  {p : Program} {l : Launch} {e : Env} {s : State} {m : MethodId} {args : Array Value} {below : List Frame} {meth : Method} {c : Code} {Q : State → Prop} {G : zG} {μ : zM} {o : Nat} (hc : o = 29) {out : (Int32 × zOb)} (cx : zCX p (zrm 2) s m args c RX8 cX8_adds 3 2 G) (hret : zRi p l e (zrm 2) s m args below meth c cX8_adds G .int Q out.1 (zset μ o out.2))   : ∀ (S : zOb), f_Mo_adds_11 S = some out → ∀ {H : Heap} {locs : List Loc} {ls : Array Slot}, zIW G s (zset μ o S) H locs → lv_has ls 3 [] → W p l e (zrm 2) s m args below meth c H locs 0 0 Q (F0 m 11 ls []) := by
  obtain ⟨hx, hb, hml, hown, hts, hK, hR⟩ := id cx
  intro S  h H locs ls hI hl
  unfold f_Mo_adds_11 at h
  refine lv_iconst (v := (-1 : Int32)) hx hb dX8_adds_11 (by decide) ?_
  obtain rfl := Option.some.inj h
  exact hret _ _ _ _ dX8_adds_12 rfl hI
def f_Mo_adds (S : zOb) (a1 : Int32) : Option (Int32 × zOb) :=
  (f_Mo_isSet a1).bind (fun q1 => (if q1 = nI 0 then f_Mo_adds_11 S else (if a1 = nI 0 then f_Mo_adds_11 S else bnd (S.1 1 0) (fun v4 => (if v4 = (nI 7) then some ((-3 : Int32), S) else if zin ((nI 6) + v4) 27 then bnd (zI S 1 (((nI 6) + v4).toNatClampNeg) v4) (fun Z7 => if zin ((nI 13) + v4) 27 then bnd (zI Z7 1 (((nI 13) + v4).toNatClampNeg) a1) (fun Z9 => if zin ((nI 20) + v4) 27 then bnd (zI Z9 1 (((nI 20) + v4).toNatClampNeg) (nI 0)) (fun Z11 => bnd (zI Z11 1 0 ((Z11.1 1 0) + (nI 1))) (fun Z12 => some (v4, Z12))) else none) else none) else none)))))
set_option maxHeartbeats 4000000 in
set_option maxRecDepth 100000 in
theorem c_Mo_adds {l : Launch} {G : zG} {μ : zM} {o : Nat} (hc : o = 29) {S : zOb} (hS : μ o = S) {a1 : Int32} {out : (Int32 × zOb)} (h : f_Mo_adds S a1 = some out) {μ' : zM} (hμ : zset μ o out.2 = μ') : zMI l G yX8_adds cX8_adds 3 (some .int) 2 [.ref (G.2.2.1 o 0), .int a1] μ out.1 μ' := by
  subst hμ
  refine zMI.of (by decide) (Nat.le_of_ble_eq_true rfl) (fun p e s m args below meth c Q ls cx hI hl hret => ?_)
  obtain ⟨hx, hb, hml, hown, hts, hK, hR⟩ := id cx
  have hl : lv_has ls 3 [(0, .ref (G.2.2.1 o 0)), (1, .int a1)] := hl
  rw [← zset_idS hS] at hI
  unfold f_Mo_adds at h
  refine lv_iload_n hx hb dX8_adds_0 rfl (lv_at hl 1 rfl) ?_
  obtain ⟨q1, hq1, h⟩ := bi_el h
  refine zcSi (As := [.int a1]) cx hI (c_Mo_isSet  hq1) mt_yX8_isSet ms_yX8_isSet w_175 (by omega) rfl hl.1 rfl (Nat.le_of_ble_eq_true rfl) dX8_adds_1 (fun H locs hI => ?_)
  refine lv_if_eq (tgt := 11) hx hb dX8_adds_4 (by decide) (fun c2 => ?_) (fun c2 => ?_)
  · have h := it_p h c2
    exact t_Mo_adds_11 hc cx hret S h hI (lv_sub hl [] rfl)
  · have h := it_n h c2
    refine lv_iload_n hx hb dX8_adds_7 rfl (lv_at hl 1 rfl) ?_
    refine lv_if_ne (tgt := 13) hx hb dX8_adds_8 (by decide) (fun c3 => ?_) (fun c3 => ?_)
    · have h := it_n h c3
      refine lv_aload_n hx hb dX8_adds_13 rfl (lv_at hl 0 rfl) ?_
      refine g8_0 cx hI hc (zset_s _ _ _) w_108 dX8_adds_14 ?_
      refine lv_iconst (v := (nI 0)) hx hb dX8_adds_17 (by decide) ?_
      refine zr_iald cx hI (k8_1 hc) (zset_s _ _ _) (z8_1 hc) rfl (by decide) dX8_adds_18 ?_
      refine lv_topi (fun v4 ev4 => ?_)
      have h := bnd_el h ev4
      refine lv_istore_n (lv' := [(2, .int v4), (0, .ref (G.2.2.1 o 0)), (1, .int a1)]) hx hb dX8_adds_19 rfl hl (by decide) rfl (fun ls hl => ?_)
      refine lv_iload_n hx hb dX8_adds_20 rfl (lv_at hl 0 rfl) ?_
      refine lv_bipush (v := (nI 7)) hx hb dX8_adds_21 (by decide) ?_
      refine lv_icmp_ne (tgt := 29) hx hb dX8_adds_23 (by decide) (fun c5 => ?_) (fun c5 => ?_)
      · have h := it_n h c5
        refine lv_aload_n hx hb dX8_adds_29 rfl (lv_at hl 1 rfl) ?_
        refine g8_0 cx hI hc (zset_s _ _ _) w_108 dX8_adds_30 ?_
        refine lv_bipush (v := (nI 6)) hx hb dX8_adds_33 (by decide) ?_
        refine lv_iload_n hx hb dX8_adds_35 rfl (lv_at hl 0 rfl) ?_
        refine lv_iadd hx hb dX8_adds_36 ?_
        refine lv_iload_n hx hb dX8_adds_37 rfl (lv_at hl 0 rfl) ?_
        obtain ⟨g6, h⟩ := gd_el h
        obtain ⟨Z7, eZ7⟩ : ∃ z : zOb, z = zI S 1 (((nI 6) + v4).toNatClampNeg) v4 := ⟨_, rfl⟩
        have h := bnd_el h eZ7
        refine zr_iast cx hI (k8_1 hc) (zset_s _ _ _) (z8_1 hc) rfl g6 (zss eZ7) dX8_adds_38 (fun H locs hI => ?_)
        refine lv_aload_n hx hb dX8_adds_39 rfl (lv_at hl 1 rfl) ?_
        refine g8_0 cx hI hc (zset_s _ _ _) w_108 dX8_adds_40 ?_
        refine lv_bipush (v := (nI 13)) hx hb dX8_adds_43 (by decide) ?_
        refine lv_iload_n hx hb dX8_adds_45 rfl (lv_at hl 0 rfl) ?_
        refine lv_iadd hx hb dX8_adds_46 ?_
        refine lv_iload_n hx hb dX8_adds_47 rfl (lv_at hl 2 rfl) ?_
        obtain ⟨g8, h⟩ := gd_el h
        obtain ⟨Z9, eZ9⟩ : ∃ z : zOb, z = zI Z7 1 (((nI 13) + v4).toNatClampNeg) a1 := ⟨_, rfl⟩
        have h := bnd_el h eZ9
        refine zr_iast cx hI (k8_1 hc) (zset_s _ _ _) (z8_1 hc) rfl g8 (zss eZ9) dX8_adds_48 (fun H locs hI => ?_)
        refine lv_aload_n hx hb dX8_adds_49 rfl (lv_at hl 1 rfl) ?_
        refine g8_0 cx hI hc (zset_s _ _ _) w_108 dX8_adds_50 ?_
        refine lv_bipush (v := (nI 20)) hx hb dX8_adds_53 (by decide) ?_
        refine lv_iload_n hx hb dX8_adds_55 rfl (lv_at hl 0 rfl) ?_
        refine lv_iadd hx hb dX8_adds_56 ?_
        refine lv_iconst (v := (nI 0)) hx hb dX8_adds_57 (by decide) ?_
        obtain ⟨g10, h⟩ := gd_el h
        obtain ⟨Z11, eZ11⟩ : ∃ z : zOb, z = zI Z9 1 (((nI 20) + v4).toNatClampNeg) (nI 0) := ⟨_, rfl⟩
        have h := bnd_el h eZ11
        refine zr_iast cx hI (k8_1 hc) (zset_s _ _ _) (z8_1 hc) rfl g10 (zss eZ11) dX8_adds_58 (fun H locs hI => ?_)
        refine lv_aload_n hx hb dX8_adds_59 rfl (lv_at hl 1 rfl) ?_
        refine g8_0 cx hI hc (zset_s _ _ _) w_108 dX8_adds_60 ?_
        refine lv_iconst (v := (nI 0)) hx hb dX8_adds_63 (by decide) ?_
        refine lv_dup2_11 hx hb dX8_adds_64 rfl rfl ?_
        refine zr_iald cx hI (k8_1 hc) (zset_s _ _ _) (z8_1 hc) rfl (by decide) dX8_adds_65 ?_
        refine lv_iconst (v := (nI 1)) hx hb dX8_adds_66 (by decide) ?_
        refine lv_iadd hx hb dX8_adds_67 ?_
        obtain ⟨Z12, eZ12⟩ : ∃ z : zOb, z = zI Z11 1 0 ((Z11.1 1 0) + (nI 1)) := ⟨_, rfl⟩
        have h := bnd_el h eZ12
        refine zr_iast cx hI (k8_1 hc) (zset_s _ _ _) (z8_1 hc) rfl (by decide) (zss eZ12) dX8_adds_68 (fun H locs hI => ?_)
        refine lv_iload_n hx hb dX8_adds_69 rfl (lv_at hl 0 rfl) ?_
        obtain rfl := Option.some.inj h
        exact hret _ _ _ _ dX8_adds_70 rfl hI
      · have h := it_p h c5
        refine lv_bipush (v := (-3 : Int32)) hx hb dX8_adds_26 (by decide) ?_
        obtain rfl := Option.some.inj h
        exact hret _ _ _ _ dX8_adds_28 rfl hI
    · have h := it_p h c3
      exact t_Mo_adds_11 hc cx hret S h hI (lv_sub hl [] rfl)
def f_Mo_changes_19  (S : zOb) : Option (Int32 × zOb) :=
  some ((-1 : Int32), S)
set_option maxHeartbeats 4000000 in
set_option maxRecDepth 100000 in
theorem t_Mo_changes_19  {p : Program} {l : Launch} {e : Env} {s : State} {m : MethodId} {args : Array Value} {below : List Frame} {meth : Method} {c : Code} {Q : State → Prop} {G : zG} {μ : zM} {o : Nat} (hc : o = 29) {out : (Int32 × zOb)} (cx : zCX p (zrm 2) s m args c RX8 cX8_changes 4 2 G) (hret : zRi p l e (zrm 2) s m args below meth c cX8_changes G .int Q out.1 (zset μ o out.2))   : ∀ (S : zOb), f_Mo_changes_19 S = some out → ∀ {H : Heap} {locs : List Loc} {ls : Array Slot}, zIW G s (zset μ o S) H locs → lv_has ls 4 [] → W p l e (zrm 2) s m args below meth c H locs 0 0 Q (F0 m 19 ls []) := by
  obtain ⟨hx, hb, hml, hown, hts, hK, hR⟩ := id cx
  intro S  h H locs ls hI hl
  unfold f_Mo_changes_19 at h
  refine lv_iconst (v := (-1 : Int32)) hx hb dX8_changes_19 (by decide) ?_
  obtain rfl := Option.some.inj h
  exact hret _ _ _ _ dX8_changes_20 rfl hI
def f_Mo_changes (S : zOb) (a1 : Int32) (a2 : Int32) : Option (Int32 × zOb) :=
  (f_Mo_isBook S a1).bind (fun q1 => (if q1 = nI 0 then f_Mo_changes_19 S else (f_Mo_isSet a2).bind (fun q3 => (if q3 = nI 0 then f_Mo_changes_19 S else (if a2 = nI 0 then f_Mo_changes_19 S else if zin ((nI 13) + a1) 27 then bnd (S.1 1 (((nI 13) + a1).toNatClampNeg)) (fun v7 => (if v7 = a2 then some ((-2 : Int32), S) else if zin ((nI 13) + a1) 27 then bnd (zI S 1 (((nI 13) + a1).toNatClampNeg) a2) (fun Z10 => some (v7, Z10)) else none)) else none)))))
set_option maxHeartbeats 4000000 in
set_option maxRecDepth 100000 in
theorem c_Mo_changes {l : Launch} {G : zG} {μ : zM} {o : Nat} (hc : o = 29) {S : zOb} (hS : μ o = S) {a1 : Int32} {a2 : Int32} {out : (Int32 × zOb)} (h : f_Mo_changes S a1 a2 = some out) {μ' : zM} (hμ : zset μ o out.2 = μ') : zMI l G yX8_changes cX8_changes 4 (some .int) 2 [.ref (G.2.2.1 o 0), .int a1, .int a2] μ out.1 μ' := by
  subst hμ
  refine zMI.of (by decide) (Nat.le_of_ble_eq_true rfl) (fun p e s m args below meth c Q ls cx hI hl hret => ?_)
  obtain ⟨hx, hb, hml, hown, hts, hK, hR⟩ := id cx
  have hl : lv_has ls 4 [(0, .ref (G.2.2.1 o 0)), (1, .int a1), (2, .int a2)] := hl
  rw [← zset_idS hS] at hI
  unfold f_Mo_changes at h
  refine lv_aload_n hx hb dX8_changes_0 rfl (lv_at hl 0 rfl) ?_
  refine lv_iload_n hx hb dX8_changes_1 rfl (lv_at hl 1 rfl) ?_
  obtain ⟨q1, hq1, h⟩ := bi_el h
  refine zcVi (As := [.int a1]) cx hI (c_Mo_isBook hc (zset_s _ _ _) hq1) mt_yX8_isBook mv_yX8_isBook w_211 (by omega) (k8_0 hc) (zv8 hc) rfl hl.1 rfl (Nat.le_of_ble_eq_true rfl) dX8_changes_2 (fun H locs hI => ?_)
  refine lv_if_eq (tgt := 19) hx hb dX8_changes_5 (by decide) (fun c2 => ?_) (fun c2 => ?_)
  · have h := it_p h c2
    exact t_Mo_changes_19 hc cx hret S h hI (lv_sub hl [] rfl)
  · have h := it_n h c2
    refine lv_iload_n hx hb dX8_changes_8 rfl (lv_at hl 2 rfl) ?_
    obtain ⟨q3, hq3, h⟩ := bi_el h
    refine zcSi (As := [.int a2]) cx hI (c_Mo_isSet  hq3) mt_yX8_isSet ms_yX8_isSet w_175 (by omega) rfl hl.1 rfl (Nat.le_of_ble_eq_true rfl) dX8_changes_9 (fun H locs hI => ?_)
    refine lv_if_eq (tgt := 19) hx hb dX8_changes_12 (by decide) (fun c4 => ?_) (fun c4 => ?_)
    · have h := it_p h c4
      exact t_Mo_changes_19 hc cx hret S h hI (lv_sub hl [] rfl)
    · have h := it_n h c4
      refine lv_iload_n hx hb dX8_changes_15 rfl (lv_at hl 2 rfl) ?_
      refine lv_if_ne (tgt := 21) hx hb dX8_changes_16 (by decide) (fun c5 => ?_) (fun c5 => ?_)
      · have h := it_n h c5
        refine lv_aload_n hx hb dX8_changes_21 rfl (lv_at hl 0 rfl) ?_
        refine g8_0 cx hI hc (zset_s _ _ _) w_108 dX8_changes_22 ?_
        refine lv_bipush (v := (nI 13)) hx hb dX8_changes_25 (by decide) ?_
        refine lv_iload_n hx hb dX8_changes_27 rfl (lv_at hl 1 rfl) ?_
        refine lv_iadd hx hb dX8_changes_28 ?_
        obtain ⟨g6, h⟩ := gd_el h
        refine zr_iald cx hI (k8_1 hc) (zset_s _ _ _) (z8_1 hc) rfl g6 dX8_changes_29 ?_
        refine lv_topi (fun v7 ev7 => ?_)
        have h := bnd_el h ev7
        refine lv_istore_n (lv' := [(3, .int v7), (0, .ref (G.2.2.1 o 0)), (1, .int a1), (2, .int a2)]) hx hb dX8_changes_30 rfl hl (by decide) rfl (fun ls hl => ?_)
        refine lv_iload_n hx hb dX8_changes_31 rfl (lv_at hl 0 rfl) ?_
        refine lv_iload_n hx hb dX8_changes_32 rfl (lv_at hl 3 rfl) ?_
        refine lv_icmp_ne (tgt := 39) hx hb dX8_changes_33 (by decide) (fun c8 => ?_) (fun c8 => ?_)
        · have h := it_n h c8
          refine lv_aload_n hx hb dX8_changes_39 rfl (lv_at hl 1 rfl) ?_
          refine g8_0 cx hI hc (zset_s _ _ _) w_108 dX8_changes_40 ?_
          refine lv_bipush (v := (nI 13)) hx hb dX8_changes_43 (by decide) ?_
          refine lv_iload_n hx hb dX8_changes_45 rfl (lv_at hl 2 rfl) ?_
          refine lv_iadd hx hb dX8_changes_46 ?_
          refine lv_iload_n hx hb dX8_changes_47 rfl (lv_at hl 3 rfl) ?_
          obtain ⟨g9, h⟩ := gd_el h
          obtain ⟨Z10, eZ10⟩ : ∃ z : zOb, z = zI S 1 (((nI 13) + a1).toNatClampNeg) a2 := ⟨_, rfl⟩
          have h := bnd_el h eZ10
          refine zr_iast cx hI (k8_1 hc) (zset_s _ _ _) (z8_1 hc) rfl g9 (zss eZ10) dX8_changes_48 (fun H locs hI => ?_)
          refine lv_iload_n hx hb dX8_changes_49 rfl (lv_at hl 0 rfl) ?_
          obtain rfl := Option.some.inj h
          exact hret _ _ _ _ dX8_changes_50 rfl hI
        · have h := it_p h c8
          refine lv_bipush (v := (-2 : Int32)) hx hb dX8_changes_36 (by decide) ?_
          obtain rfl := Option.some.inj h
          exact hret _ _ _ _ dX8_changes_38 rfl hI
      · have h := it_p h c5
        exact t_Mo_changes_19 hc cx hret S h hI (lv_sub hl [] rfl)
def f_Mo_without (a0 : Int32) (a1 : Int32) : Option Int32 :=
  bnd (a0 &&& (((nI 1) <<< (a1 &&& 31)) - (nI 1))) (fun v1 => some (v1 ||| ((a0 >>> ((a1 + (nI 1)) &&& 31)) <<< (a1 &&& 31))))
set_option maxHeartbeats 4000000 in
set_option maxRecDepth 100000 in
theorem c_Mo_without {l : Launch} {G : zG} {μ : zM}  {a0 : Int32} {a1 : Int32} {out : Int32} (h : f_Mo_without a0 a1 = some out) : zMI l G yX8_without cX8_without 3 (some .int) 0 [.int a0, .int a1] μ out μ := by
  refine zMI.of (by decide) (Nat.le_of_ble_eq_true rfl) (fun p e s m args below meth c Q ls cx hI hl hret => ?_)
  obtain ⟨hx, hb, hml, hown, hts, hK, hR⟩ := id cx
  have hl : lv_has ls 3 [(0, .int a0), (1, .int a1)] := hl
  unfold f_Mo_without at h
  refine lv_iload_n hx hb dX8_without_0 rfl (lv_at hl 0 rfl) ?_
  refine lv_iconst (v := (nI 1)) hx hb dX8_without_1 (by decide) ?_
  refine lv_iload_n hx hb dX8_without_2 rfl (lv_at hl 1 rfl) ?_
  refine lv_ishl hx hb dX8_without_3 ?_
  refine lv_iconst (v := (nI 1)) hx hb dX8_without_4 (by decide) ?_
  refine lv_isub hx hb dX8_without_5 ?_
  refine lv_iand hx hb dX8_without_6 ?_
  refine lv_topi (fun v1 ev1 => ?_)
  have h := bnd_el h ev1
  refine lv_istore_n (lv' := [(2, .int v1), (0, .int a0), (1, .int a1)]) hx hb dX8_without_7 rfl hl (by decide) rfl (fun ls hl => ?_)
  refine lv_iload_n hx hb dX8_without_8 rfl (lv_at hl 0 rfl) ?_
  refine lv_iload_n hx hb dX8_without_9 rfl (lv_at hl 1 rfl) ?_
  refine lv_iload_n hx hb dX8_without_10 rfl (lv_at hl 2 rfl) ?_
  refine lv_iconst (v := (nI 1)) hx hb dX8_without_11 (by decide) ?_
  refine lv_iadd hx hb dX8_without_12 ?_
  refine lv_ishr hx hb dX8_without_13 ?_
  refine lv_iload_n hx hb dX8_without_14 rfl (lv_at hl 2 rfl) ?_
  refine lv_ishl hx hb dX8_without_15 ?_
  refine lv_ior hx hb dX8_without_16 ?_
  obtain rfl := Option.some.inj h
  exact hret _ _ _ _ dX8_without_17 rfl hI
def f_Mo_loses_197 (N : Nat) (k161 : zOb → Int32 → Int32 → Int32 → Option (Int32 × zOb)) (S : zOb) (x1 : Int32) (x2 : Int32) (x4 : Int32) (s0 : Int32) (s1 : Int32) (s2 : Int32) : Option (Int32 × zOb) :=
  if zin s2 27 then bnd (zI S 1 s2.toNatClampNeg (s1 - s0)) (fun Z19 => if zin ((nI 20) + x4) 27 then (f_Mo_without (Z19.1 1 (((nI 20) + x4).toNatClampNeg)) x1).bind (fun q21 => if zin ((nI 20) + x4) 27 then bnd (zI Z19 1 (((nI 20) + x4).toNatClampNeg) q21) (fun Z23 => bnd (x4 + (nI 1)) (fun v24 => k161 Z23 x1 x2 v24)) else none) else none) else none
set_option maxHeartbeats 4000000 in
set_option maxRecDepth 100000 in
theorem t_Mo_loses_197 (N : Nat) {p : Program} {l : Launch} {e : Env} {s : State} {m : MethodId} {args : Array Value} {below : List Frame} {meth : Method} {c : Code} {Q : State → Prop} {G : zG} {μ : zM} {o : Nat} (hc : o = 29) {out : (Int32 × zOb)} (cx : zCX p (zrm 2) s m args c RX8 cX8_loses 5 2 G) (hret : zRi p l e (zrm 2) s m args below meth c cX8_loses G .int Q out.1 (zset μ o out.2)) {k161 : zOb → Int32 → Int32 → Int32 → Option (Int32 × zOb)} (hk161 : ∀ (S : zOb) (x1 : Int32) (x2 : Int32) (x4 : Int32), k161 S x1 x2 x4 = some out → ∀ {H : Heap} {locs : List Loc} {ls : Array Slot}, zIW G s (zset μ o S) H locs → lv_has ls 5 [(0, .ref (G.2.2.1 o 0)), (1, .int x1), (2, .int x2), (4, .int x4)] → W p l e (zrm 2) s m args below meth c H locs 0 0 Q (F0 m 161 ls [])) : ∀ (S : zOb) (x1 : Int32) (x2 : Int32) (x4 : Int32) (s0 : Int32) (s1 : Int32) (s2 : Int32), f_Mo_loses_197 N k161 S x1 x2 x4 s0 s1 s2 = some out → ∀ {H : Heap} {locs : List Loc} {ls : Array Slot}, zIW G s (zset μ o S) H locs → lv_has ls 5 [(0, .ref (G.2.2.1 o 0)), (1, .int x1), (2, .int x2), (4, .int x4)] → W p l e (zrm 2) s m args below meth c H locs 0 0 Q (F0 m 197 ls [.int s0, .int s1, .int s2, .ref (G.2.2.1 o 1)]) := by
  obtain ⟨hx, hb, hml, hown, hts, hK, hR⟩ := id cx
  intro S x1 x2 x4 s0 s1 s2  h H locs ls hI hl
  unfold f_Mo_loses_197 at h
  refine lv_isub hx hb dX8_loses_197 ?_
  obtain ⟨g18, h⟩ := gd_el h
  obtain ⟨Z19, eZ19⟩ : ∃ z : zOb, z = zI S 1 s2.toNatClampNeg (s1 - s0) := ⟨_, rfl⟩
  have h := bnd_el h eZ19
  refine zr_iast cx hI (k8_1 hc) (zset_s _ _ _) (z8_1 hc) rfl g18 (zss eZ19) dX8_loses_198 (fun H locs hI => ?_)
  refine lv_aload_n hx hb dX8_loses_199 rfl (lv_at hl 0 rfl) ?_
  refine g8_0 cx hI hc (zset_s _ _ _) w_108 dX8_loses_200 ?_
  refine lv_bipush (v := (nI 20)) hx hb dX8_loses_203 (by decide) ?_
  refine lv_iload hx hb dX8_loses_205 (lv_at hl 3 rfl) ?_
  refine lv_iadd hx hb dX8_loses_207 ?_
  refine lv_aload_n hx hb dX8_loses_208 rfl (lv_at hl 0 rfl) ?_
  refine g8_0 cx hI hc (zset_s _ _ _) w_108 dX8_loses_209 ?_
  refine lv_bipush (v := (nI 20)) hx hb dX8_loses_212 (by decide) ?_
  refine lv_iload hx hb dX8_loses_214 (lv_at hl 3 rfl) ?_
  refine lv_iadd hx hb dX8_loses_216 ?_
  obtain ⟨g20, h⟩ := gd_el h
  refine zr_iald cx hI (k8_1 hc) (zset_s _ _ _) (z8_1 hc) rfl g20 dX8_loses_217 ?_
  refine lv_iload_n hx hb dX8_loses_218 rfl (lv_at hl 1 rfl) ?_
  obtain ⟨q21, hq21, h⟩ := bi_el h
  refine zcSi (As := [.int (Z19.1 1 (((nI 20) + x4).toNatClampNeg)), .int x1]) cx hI (c_Mo_without  hq21) mt_yX8_without ms_yX8_without w_250 (by omega) rfl hl.1 rfl (Nat.le_of_ble_eq_true rfl) dX8_loses_219 (fun H locs hI => ?_)
  obtain ⟨g22, h⟩ := gd_el h
  obtain ⟨Z23, eZ23⟩ : ∃ z : zOb, z = zI Z19 1 (((nI 20) + x4).toNatClampNeg) q21 := ⟨_, rfl⟩
  have h := bnd_el h eZ23
  refine zr_iast cx hI (k8_1 hc) (zset_s _ _ _) (z8_1 hc) rfl g22 (zss eZ23) dX8_loses_222 (fun H locs hI => ?_)
  obtain ⟨v24, ev24⟩ : ∃ z : Int32, z = x4 + (nI 1) := ⟨_, rfl⟩
  have h := bnd_el h ev24
  refine lv_iinc (v := v24) (lv' := [(4, .int v24), (0, .ref (G.2.2.1 o 0)), (1, .int x1), (2, .int x2)]) hx hb dX8_loses_223 hl (k := 3) rfl (by rw [ev24]; rfl) (by decide) rfl (fun ls hl => ?_)
  refine lv_goto (tgt := 161) hx hb dX8_loses_226 (by decide) ?_
  exact hk161 Z23 x1 x2 v24 h hI (lv_sub hl [1, 2, 3, 0] rfl)
def f_Mo_loses_161 (N : Nat)  : Nat → zOb → Int32 → Int32 → Int32 → Option (Int32 × zOb)
  | 0, _, _, _, _ => none
  | n + 1, S, x1, x2, x4 => (if x2 ≤ x4 then some (x2, S) else if zin ((nI 6) + x4) 27 then if zin ((nI 6) + x4) 27 then (if (S.1 1 (((nI 6) + x4).toNatClampNeg)) ≤ x1 then f_Mo_loses_197 N (f_Mo_loses_161 N n) S x1 x2 x4 (nI 0) (S.1 1 (((nI 6) + x4).toNatClampNeg)) ((nI 6) + x4) else f_Mo_loses_197 N (f_Mo_loses_161 N n) S x1 x2 x4 (nI 1) (S.1 1 (((nI 6) + x4).toNatClampNeg)) ((nI 6) + x4)) else none else none)
set_option maxHeartbeats 4000000 in
set_option maxRecDepth 100000 in
theorem t_Mo_loses_161 (N : Nat) {p : Program} {l : Launch} {e : Env} {s : State} {m : MethodId} {args : Array Value} {below : List Frame} {meth : Method} {c : Code} {Q : State → Prop} {G : zG} {μ : zM} {o : Nat} (hc : o = 29) {out : (Int32 × zOb)} (cx : zCX p (zrm 2) s m args c RX8 cX8_loses 5 2 G) (hret : zRi p l e (zrm 2) s m args below meth c cX8_loses G .int Q out.1 (zset μ o out.2))   : ∀ (n : Nat) (S : zOb) (x1 : Int32) (x2 : Int32) (x4 : Int32), f_Mo_loses_161 N n S x1 x2 x4 = some out → ∀ {H : Heap} {locs : List Loc} {ls : Array Slot}, zIW G s (zset μ o S) H locs → lv_has ls 5 [(0, .ref (G.2.2.1 o 0)), (1, .int x1), (2, .int x2), (4, .int x4)] → W p l e (zrm 2) s m args below meth c H locs 0 0 Q (F0 m 161 ls []) := by
  obtain ⟨hx, hb, hml, hown, hts, hK, hR⟩ := id cx
  intro n
  induction n with
  | zero =>
    intro S x1 x2 x4  h
    cases h
  | succ n ih =>
    intro S x1 x2 x4  h H locs ls hI hl
    rw [f_Mo_loses_161] at h
    refine lv_iload hx hb dX8_loses_161 (lv_at hl 3 rfl) ?_
    refine lv_iload_n hx hb dX8_loses_163 rfl (lv_at hl 2 rfl) ?_
    refine lv_icmp_ge (tgt := 229) hx hb dX8_loses_164 (by decide) (fun c14 => ?_) (fun c14 => ?_)
    · have h := it_p h c14
      refine lv_iload_n hx hb dX8_loses_229 rfl (lv_at hl 2 rfl) ?_
      obtain rfl := Option.some.inj h
      exact hret _ _ _ _ dX8_loses_230 rfl hI
    · have h := it_n h c14
      refine lv_aload_n hx hb dX8_loses_167 rfl (lv_at hl 0 rfl) ?_
      refine g8_0 cx hI hc (zset_s _ _ _) w_108 dX8_loses_168 ?_
      refine lv_bipush (v := (nI 6)) hx hb dX8_loses_171 (by decide) ?_
      refine lv_iload hx hb dX8_loses_173 (lv_at hl 3 rfl) ?_
      refine lv_iadd hx hb dX8_loses_175 ?_
      refine lv_dup2_11 hx hb dX8_loses_176 rfl rfl ?_
      obtain ⟨g15, h⟩ := gd_el h
      refine zr_iald cx hI (k8_1 hc) (zset_s _ _ _) (z8_1 hc) rfl g15 dX8_loses_177 ?_
      refine lv_aload_n hx hb dX8_loses_178 rfl (lv_at hl 0 rfl) ?_
      refine g8_0 cx hI hc (zset_s _ _ _) w_108 dX8_loses_179 ?_
      refine lv_bipush (v := (nI 6)) hx hb dX8_loses_182 (by decide) ?_
      refine lv_iload hx hb dX8_loses_184 (lv_at hl 3 rfl) ?_
      refine lv_iadd hx hb dX8_loses_186 ?_
      obtain ⟨g16, h⟩ := gd_el h
      refine zr_iald cx hI (k8_1 hc) (zset_s _ _ _) (z8_1 hc) rfl g16 dX8_loses_187 ?_
      refine lv_iload_n hx hb dX8_loses_188 rfl (lv_at hl 1 rfl) ?_
      refine lv_icmp_le (tgt := 196) hx hb dX8_loses_189 (by decide) (fun c17 => ?_) (fun c17 => ?_)
      · have h := it_p h c17
        refine lv_iconst (v := (nI 0)) hx hb dX8_loses_196 (by decide) ?_
        exact t_Mo_loses_197 N hc cx hret ih S x1 x2 x4 (nI 0) (S.1 1 (((nI 6) + x4).toNatClampNeg)) ((nI 6) + x4) h hI hl
      · have h := it_n h c17
        refine lv_iconst (v := (nI 1)) hx hb dX8_loses_192 (by decide) ?_
        refine lv_goto (tgt := 197) hx hb dX8_loses_193 (by decide) ?_
        exact t_Mo_loses_197 N hc cx hret ih S x1 x2 x4 (nI 1) (S.1 1 (((nI 6) + x4).toNatClampNeg)) ((nI 6) + x4) h hI hl
def f_Mo_loses_65 (N : Nat)  : Nat → zOb → Int32 → Int32 → Int32 → Option (Int32 × zOb)
  | 0, _, _, _, _ => none
  | n + 1, S, x1, x2, x4 => (if x2 ≤ x4 then bnd (zI S 1 0 x2) (fun Z7 => if zin ((nI 6) + x2) 27 then bnd (zI Z7 1 (((nI 6) + x2).toNatClampNeg) (nI 0)) (fun Z9 => if zin ((nI 13) + x2) 27 then bnd (zI Z9 1 (((nI 13) + x2).toNatClampNeg) (nI 0)) (fun Z11 => if zin ((nI 20) + x2) 27 then bnd (zI Z11 1 (((nI 20) + x2).toNatClampNeg) (nI 0)) (fun Z13 => f_Mo_loses_161 N N Z13 x1 x2 (nI 0)) else none) else none) else none) else if zin (((nI 13) + x4) + (nI 1)) 27 then if zin ((nI 13) + x4) 27 then bnd (zI S 1 (((nI 13) + x4).toNatClampNeg) (S.1 1 ((((nI 13) + x4) + (nI 1)).toNatClampNeg))) (fun Z27 => if zin (((nI 20) + x4) + (nI 1)) 27 then if zin ((nI 20) + x4) 27 then bnd (zI Z27 1 (((nI 20) + x4).toNatClampNeg) (Z27.1 1 ((((nI 20) + x4) + (nI 1)).toNatClampNeg))) (fun Z30 => bnd (x4 + (nI 1)) (fun v31 => f_Mo_loses_65 N n Z30 x1 x2 v31)) else none else none) else none else none)
set_option maxHeartbeats 4000000 in
set_option maxRecDepth 100000 in
theorem t_Mo_loses_65 (N : Nat) {p : Program} {l : Launch} {e : Env} {s : State} {m : MethodId} {args : Array Value} {below : List Frame} {meth : Method} {c : Code} {Q : State → Prop} {G : zG} {μ : zM} {o : Nat} (hc : o = 29) {out : (Int32 × zOb)} (cx : zCX p (zrm 2) s m args c RX8 cX8_loses 5 2 G) (hret : zRi p l e (zrm 2) s m args below meth c cX8_loses G .int Q out.1 (zset μ o out.2))   : ∀ (n : Nat) (S : zOb) (x1 : Int32) (x2 : Int32) (x4 : Int32), f_Mo_loses_65 N n S x1 x2 x4 = some out → ∀ {H : Heap} {locs : List Loc} {ls : Array Slot}, zIW G s (zset μ o S) H locs → lv_has ls 5 [(0, .ref (G.2.2.1 o 0)), (1, .int x1), (2, .int x2), (4, .int x4)] → W p l e (zrm 2) s m args below meth c H locs 0 0 Q (F0 m 65 ls []) := by
  obtain ⟨hx, hb, hml, hown, hts, hK, hR⟩ := id cx
  intro n
  induction n with
  | zero =>
    intro S x1 x2 x4  h
    cases h
  | succ n ih =>
    intro S x1 x2 x4  h H locs ls hI hl
    rw [f_Mo_loses_65] at h
    refine lv_iload hx hb dX8_loses_65 (lv_at hl 3 rfl) ?_
    refine lv_iload_n hx hb dX8_loses_67 rfl (lv_at hl 2 rfl) ?_
    refine lv_icmp_ge (tgt := 121) hx hb dX8_loses_68 (by decide) (fun c6 => ?_) (fun c6 => ?_)
    · have h := it_p h c6
      refine lv_aload_n hx hb dX8_loses_121 rfl (lv_at hl 0 rfl) ?_
      refine g8_0 cx hI hc (zset_s _ _ _) w_108 dX8_loses_122 ?_
      refine lv_iconst (v := (nI 0)) hx hb dX8_loses_125 (by decide) ?_
      refine lv_iload_n hx hb dX8_loses_126 rfl (lv_at hl 2 rfl) ?_
      obtain ⟨Z7, eZ7⟩ : ∃ z : zOb, z = zI S 1 0 x2 := ⟨_, rfl⟩
      have h := bnd_el h eZ7
      refine zr_iast cx hI (k8_1 hc) (zset_s _ _ _) (z8_1 hc) rfl (by decide) (zss eZ7) dX8_loses_127 (fun H locs hI => ?_)
      refine lv_aload_n hx hb dX8_loses_128 rfl (lv_at hl 0 rfl) ?_
      refine g8_0 cx hI hc (zset_s _ _ _) w_108 dX8_loses_129 ?_
      refine lv_bipush (v := (nI 6)) hx hb dX8_loses_132 (by decide) ?_
      refine lv_iload_n hx hb dX8_loses_134 rfl (lv_at hl 2 rfl) ?_
      refine lv_iadd hx hb dX8_loses_135 ?_
      refine lv_iconst (v := (nI 0)) hx hb dX8_loses_136 (by decide) ?_
      obtain ⟨g8, h⟩ := gd_el h
      obtain ⟨Z9, eZ9⟩ : ∃ z : zOb, z = zI Z7 1 (((nI 6) + x2).toNatClampNeg) (nI 0) := ⟨_, rfl⟩
      have h := bnd_el h eZ9
      refine zr_iast cx hI (k8_1 hc) (zset_s _ _ _) (z8_1 hc) rfl g8 (zss eZ9) dX8_loses_137 (fun H locs hI => ?_)
      refine lv_aload_n hx hb dX8_loses_138 rfl (lv_at hl 0 rfl) ?_
      refine g8_0 cx hI hc (zset_s _ _ _) w_108 dX8_loses_139 ?_
      refine lv_bipush (v := (nI 13)) hx hb dX8_loses_142 (by decide) ?_
      refine lv_iload_n hx hb dX8_loses_144 rfl (lv_at hl 2 rfl) ?_
      refine lv_iadd hx hb dX8_loses_145 ?_
      refine lv_iconst (v := (nI 0)) hx hb dX8_loses_146 (by decide) ?_
      obtain ⟨g10, h⟩ := gd_el h
      obtain ⟨Z11, eZ11⟩ : ∃ z : zOb, z = zI Z9 1 (((nI 13) + x2).toNatClampNeg) (nI 0) := ⟨_, rfl⟩
      have h := bnd_el h eZ11
      refine zr_iast cx hI (k8_1 hc) (zset_s _ _ _) (z8_1 hc) rfl g10 (zss eZ11) dX8_loses_147 (fun H locs hI => ?_)
      refine lv_aload_n hx hb dX8_loses_148 rfl (lv_at hl 0 rfl) ?_
      refine g8_0 cx hI hc (zset_s _ _ _) w_108 dX8_loses_149 ?_
      refine lv_bipush (v := (nI 20)) hx hb dX8_loses_152 (by decide) ?_
      refine lv_iload_n hx hb dX8_loses_154 rfl (lv_at hl 2 rfl) ?_
      refine lv_iadd hx hb dX8_loses_155 ?_
      refine lv_iconst (v := (nI 0)) hx hb dX8_loses_156 (by decide) ?_
      obtain ⟨g12, h⟩ := gd_el h
      obtain ⟨Z13, eZ13⟩ : ∃ z : zOb, z = zI Z11 1 (((nI 20) + x2).toNatClampNeg) (nI 0) := ⟨_, rfl⟩
      have h := bnd_el h eZ13
      refine zr_iast cx hI (k8_1 hc) (zset_s _ _ _) (z8_1 hc) rfl g12 (zss eZ13) dX8_loses_157 (fun H locs hI => ?_)
      refine lv_iconst (v := (nI 0)) hx hb dX8_loses_158 (by decide) ?_
      refine lv_istore (lv' := [(4, .int (nI 0)), (0, .ref (G.2.2.1 o 0)), (1, .int x1), (2, .int x2)]) hx hb dX8_loses_159 hl (by decide) rfl (fun ls hl => ?_)
      exact t_Mo_loses_161 N hc cx hret N Z13 x1 x2 (nI 0) h hI (lv_sub hl [1, 2, 3, 0] rfl)
    · have h := it_n h c6
      refine lv_aload_n hx hb dX8_loses_71 rfl (lv_at hl 0 rfl) ?_
      refine g8_0 cx hI hc (zset_s _ _ _) w_108 dX8_loses_72 ?_
      refine lv_bipush (v := (nI 13)) hx hb dX8_loses_75 (by decide) ?_
      refine lv_iload hx hb dX8_loses_77 (lv_at hl 3 rfl) ?_
      refine lv_iadd hx hb dX8_loses_79 ?_
      refine lv_aload_n hx hb dX8_loses_80 rfl (lv_at hl 0 rfl) ?_
      refine g8_0 cx hI hc (zset_s _ _ _) w_108 dX8_loses_81 ?_
      refine lv_bipush (v := (nI 13)) hx hb dX8_loses_84 (by decide) ?_
      refine lv_iload hx hb dX8_loses_86 (lv_at hl 3 rfl) ?_
      refine lv_iadd hx hb dX8_loses_88 ?_
      refine lv_iconst (v := (nI 1)) hx hb dX8_loses_89 (by decide) ?_
      refine lv_iadd hx hb dX8_loses_90 ?_
      obtain ⟨g25, h⟩ := gd_el h
      refine zr_iald cx hI (k8_1 hc) (zset_s _ _ _) (z8_1 hc) rfl g25 dX8_loses_91 ?_
      obtain ⟨g26, h⟩ := gd_el h
      obtain ⟨Z27, eZ27⟩ : ∃ z : zOb, z = zI S 1 (((nI 13) + x4).toNatClampNeg) (S.1 1 ((((nI 13) + x4) + (nI 1)).toNatClampNeg)) := ⟨_, rfl⟩
      have h := bnd_el h eZ27
      refine zr_iast cx hI (k8_1 hc) (zset_s _ _ _) (z8_1 hc) rfl g26 (zss eZ27) dX8_loses_92 (fun H locs hI => ?_)
      refine lv_aload_n hx hb dX8_loses_93 rfl (lv_at hl 0 rfl) ?_
      refine g8_0 cx hI hc (zset_s _ _ _) w_108 dX8_loses_94 ?_
      refine lv_bipush (v := (nI 20)) hx hb dX8_loses_97 (by decide) ?_
      refine lv_iload hx hb dX8_loses_99 (lv_at hl 3 rfl) ?_
      refine lv_iadd hx hb dX8_loses_101 ?_
      refine lv_aload_n hx hb dX8_loses_102 rfl (lv_at hl 0 rfl) ?_
      refine g8_0 cx hI hc (zset_s _ _ _) w_108 dX8_loses_103 ?_
      refine lv_bipush (v := (nI 20)) hx hb dX8_loses_106 (by decide) ?_
      refine lv_iload hx hb dX8_loses_108 (lv_at hl 3 rfl) ?_
      refine lv_iadd hx hb dX8_loses_110 ?_
      refine lv_iconst (v := (nI 1)) hx hb dX8_loses_111 (by decide) ?_
      refine lv_iadd hx hb dX8_loses_112 ?_
      obtain ⟨g28, h⟩ := gd_el h
      refine zr_iald cx hI (k8_1 hc) (zset_s _ _ _) (z8_1 hc) rfl g28 dX8_loses_113 ?_
      obtain ⟨g29, h⟩ := gd_el h
      obtain ⟨Z30, eZ30⟩ : ∃ z : zOb, z = zI Z27 1 (((nI 20) + x4).toNatClampNeg) (Z27.1 1 ((((nI 20) + x4) + (nI 1)).toNatClampNeg)) := ⟨_, rfl⟩
      have h := bnd_el h eZ30
      refine zr_iast cx hI (k8_1 hc) (zset_s _ _ _) (z8_1 hc) rfl g29 (zss eZ30) dX8_loses_114 (fun H locs hI => ?_)
      obtain ⟨v31, ev31⟩ : ∃ z : Int32, z = x4 + (nI 1) := ⟨_, rfl⟩
      have h := bnd_el h ev31
      refine lv_iinc (v := v31) (lv' := [(4, .int v31), (0, .ref (G.2.2.1 o 0)), (1, .int x1), (2, .int x2)]) hx hb dX8_loses_115 hl (k := 3) rfl (by rw [ev31]; rfl) (by decide) rfl (fun ls hl => ?_)
      refine lv_goto (tgt := 65) hx hb dX8_loses_118 (by decide) ?_
      exact ih Z30 x1 x2 v31 h hI (lv_sub hl [1, 2, 3, 0] rfl)
def f_Mo_loses_28 (N : Nat)  : Nat → zOb → Int32 → Int32 → Int32 → Option (Int32 × zOb)
  | 0, _, _, _, _ => none
  | n + 1, S, x1, x2, x4 => (if x2 ≤ x4 then f_Mo_loses_65 N N S x1 x2 x1 else if zin (((nI 6) + x4) + (nI 1)) 27 then if zin ((nI 6) + x4) 27 then bnd (zI S 1 (((nI 6) + x4).toNatClampNeg) (S.1 1 ((((nI 6) + x4) + (nI 1)).toNatClampNeg))) (fun Z34 => bnd (x4 + (nI 1)) (fun v35 => f_Mo_loses_28 N n Z34 x1 x2 v35)) else none else none)
set_option maxHeartbeats 4000000 in
set_option maxRecDepth 100000 in
theorem t_Mo_loses_28 (N : Nat) {p : Program} {l : Launch} {e : Env} {s : State} {m : MethodId} {args : Array Value} {below : List Frame} {meth : Method} {c : Code} {Q : State → Prop} {G : zG} {μ : zM} {o : Nat} (hc : o = 29) {out : (Int32 × zOb)} (cx : zCX p (zrm 2) s m args c RX8 cX8_loses 5 2 G) (hret : zRi p l e (zrm 2) s m args below meth c cX8_loses G .int Q out.1 (zset μ o out.2))   : ∀ (n : Nat) (S : zOb) (x1 : Int32) (x2 : Int32) (x4 : Int32), f_Mo_loses_28 N n S x1 x2 x4 = some out → ∀ {H : Heap} {locs : List Loc} {ls : Array Slot}, zIW G s (zset μ o S) H locs → lv_has ls 5 [(0, .ref (G.2.2.1 o 0)), (1, .int x1), (2, .int x2), (4, .int x4)] → W p l e (zrm 2) s m args below meth c H locs 0 0 Q (F0 m 28 ls []) := by
  obtain ⟨hx, hb, hml, hown, hts, hK, hR⟩ := id cx
  intro n
  induction n with
  | zero =>
    intro S x1 x2 x4  h
    cases h
  | succ n ih =>
    intro S x1 x2 x4  h H locs ls hI hl
    rw [f_Mo_loses_28] at h
    refine lv_iload hx hb dX8_loses_28 (lv_at hl 3 rfl) ?_
    refine lv_iload_n hx hb dX8_loses_30 rfl (lv_at hl 2 rfl) ?_
    refine lv_icmp_ge (tgt := 62) hx hb dX8_loses_31 (by decide) (fun c5 => ?_) (fun c5 => ?_)
    · have h := it_p h c5
      refine lv_iload_n hx hb dX8_loses_62 rfl (lv_at hl 1 rfl) ?_
      refine lv_istore (lv' := [(4, .int x1), (0, .ref (G.2.2.1 o 0)), (1, .int x1), (2, .int x2)]) hx hb dX8_loses_63 hl (by decide) rfl (fun ls hl => ?_)
      exact t_Mo_loses_65 N hc cx hret N S x1 x2 x1 h hI (lv_sub hl [1, 2, 3, 0] rfl)
    · have h := it_n h c5
      refine lv_aload_n hx hb dX8_loses_34 rfl (lv_at hl 0 rfl) ?_
      refine g8_0 cx hI hc (zset_s _ _ _) w_108 dX8_loses_35 ?_
      refine lv_bipush (v := (nI 6)) hx hb dX8_loses_38 (by decide) ?_
      refine lv_iload hx hb dX8_loses_40 (lv_at hl 3 rfl) ?_
      refine lv_iadd hx hb dX8_loses_42 ?_
      refine lv_aload_n hx hb dX8_loses_43 rfl (lv_at hl 0 rfl) ?_
      refine g8_0 cx hI hc (zset_s _ _ _) w_108 dX8_loses_44 ?_
      refine lv_bipush (v := (nI 6)) hx hb dX8_loses_47 (by decide) ?_
      refine lv_iload hx hb dX8_loses_49 (lv_at hl 3 rfl) ?_
      refine lv_iadd hx hb dX8_loses_51 ?_
      refine lv_iconst (v := (nI 1)) hx hb dX8_loses_52 (by decide) ?_
      refine lv_iadd hx hb dX8_loses_53 ?_
      obtain ⟨g32, h⟩ := gd_el h
      refine zr_iald cx hI (k8_1 hc) (zset_s _ _ _) (z8_1 hc) rfl g32 dX8_loses_54 ?_
      obtain ⟨g33, h⟩ := gd_el h
      obtain ⟨Z34, eZ34⟩ : ∃ z : zOb, z = zI S 1 (((nI 6) + x4).toNatClampNeg) (S.1 1 ((((nI 6) + x4) + (nI 1)).toNatClampNeg)) := ⟨_, rfl⟩
      have h := bnd_el h eZ34
      refine zr_iast cx hI (k8_1 hc) (zset_s _ _ _) (z8_1 hc) rfl g33 (zss eZ34) dX8_loses_55 (fun H locs hI => ?_)
      obtain ⟨v35, ev35⟩ : ∃ z : Int32, z = x4 + (nI 1) := ⟨_, rfl⟩
      have h := bnd_el h ev35
      refine lv_iinc (v := v35) (lv' := [(4, .int v35), (0, .ref (G.2.2.1 o 0)), (1, .int x1), (2, .int x2)]) hx hb dX8_loses_56 hl (k := 3) rfl (by rw [ev35]; rfl) (by decide) rfl (fun ls hl => ?_)
      refine lv_goto (tgt := 28) hx hb dX8_loses_59 (by decide) ?_
      exact ih Z34 x1 x2 v35 h hI (lv_sub hl [1, 2, 3, 0] rfl)
def f_Mo_loses (N : Nat) (S : zOb) (a1 : Int32) : Option (Int32 × zOb) :=
  (f_Mo_isBook S a1).bind (fun q1 => (if q1 = nI 0 then some ((-1 : Int32), S) else bnd ((S.1 1 0) - (nI 1)) (fun v3 => (f_Mo_placeOf N S a1).bind (fun q4 => f_Mo_loses_28 N N S a1 v3 q4))))
set_option maxHeartbeats 4000000 in
set_option maxRecDepth 100000 in
theorem c_Mo_loses (N : Nat) {l : Launch} {G : zG} {μ : zM} {o : Nat} (hc : o = 29) {S : zOb} (hS : μ o = S) {a1 : Int32} {out : (Int32 × zOb)} (h : f_Mo_loses N S a1 = some out) {μ' : zM} (hμ : zset μ o out.2 = μ') : zMI l G yX8_loses cX8_loses 5 (some .int) 2 [.ref (G.2.2.1 o 0), .int a1] μ out.1 μ' := by
  subst hμ
  refine zMI.of (by decide) (Nat.le_of_ble_eq_true rfl) (fun p e s m args below meth c Q ls cx hI hl hret => ?_)
  obtain ⟨hx, hb, hml, hown, hts, hK, hR⟩ := id cx
  have hl : lv_has ls 5 [(0, .ref (G.2.2.1 o 0)), (1, .int a1)] := hl
  rw [← zset_idS hS] at hI
  unfold f_Mo_loses at h
  refine lv_aload_n hx hb dX8_loses_0 rfl (lv_at hl 0 rfl) ?_
  refine lv_iload_n hx hb dX8_loses_1 rfl (lv_at hl 1 rfl) ?_
  obtain ⟨q1, hq1, h⟩ := bi_el h
  refine zcVi (As := [.int a1]) cx hI (c_Mo_isBook hc (zset_s _ _ _) hq1) mt_yX8_isBook mv_yX8_isBook w_211 (by omega) (k8_0 hc) (zv8 hc) rfl hl.1 rfl (Nat.le_of_ble_eq_true rfl) dX8_loses_2 (fun H locs hI => ?_)
  refine lv_if_ne (tgt := 10) hx hb dX8_loses_5 (by decide) (fun c2 => ?_) (fun c2 => ?_)
  · have h := it_n h c2
    refine lv_aload_n hx hb dX8_loses_10 rfl (lv_at hl 0 rfl) ?_
    refine g8_0 cx hI hc (zset_s _ _ _) w_108 dX8_loses_11 ?_
    refine lv_iconst (v := (nI 0)) hx hb dX8_loses_14 (by decide) ?_
    refine zr_iald cx hI (k8_1 hc) (zset_s _ _ _) (z8_1 hc) rfl (by decide) dX8_loses_15 ?_
    refine lv_iconst (v := (nI 1)) hx hb dX8_loses_16 (by decide) ?_
    refine lv_isub hx hb dX8_loses_17 ?_
    refine lv_topi (fun v3 ev3 => ?_)
    have h := bnd_el h ev3
    refine lv_istore_n (lv' := [(2, .int v3), (0, .ref (G.2.2.1 o 0)), (1, .int a1)]) hx hb dX8_loses_18 rfl hl (by decide) rfl (fun ls hl => ?_)
    refine lv_aload_n hx hb dX8_loses_19 rfl (lv_at hl 1 rfl) ?_
    refine lv_iload_n hx hb dX8_loses_20 rfl (lv_at hl 2 rfl) ?_
    obtain ⟨q4, hq4, h⟩ := bi_el h
    refine zcVi (As := [.int a1]) cx hI (c_Mo_placeOf N hc (zset_s _ _ _) hq4) mt_yX8_placeOf mv_yX8_placeOf w_246 (by omega) (k8_0 hc) (zv8 hc) rfl hl.1 rfl (Nat.le_of_ble_eq_true rfl) dX8_loses_21 (fun H locs hI => ?_)
    refine lv_istore_n (lv' := [(3, .int q4), (2, .int v3), (0, .ref (G.2.2.1 o 0)), (1, .int a1)]) hx hb dX8_loses_24 rfl hl (by decide) rfl (fun ls hl => ?_)
    refine lv_iload_n hx hb dX8_loses_25 rfl (lv_at hl 0 rfl) ?_
    refine lv_istore (lv' := [(4, .int q4), (3, .int q4), (2, .int v3), (0, .ref (G.2.2.1 o 0)), (1, .int a1)]) hx hb dX8_loses_26 hl (by decide) rfl (fun ls hl => ?_)
    exact t_Mo_loses_28 N hc cx hret N S a1 v3 q4 h hI (lv_sub hl [3, 4, 2, 0] rfl)
  · have h := it_p h c2
    refine lv_iconst (v := (-1 : Int32)) hx hb dX8_loses_8 (by decide) ?_
    obtain rfl := Option.some.inj h
    exact hret _ _ _ _ dX8_loses_9 rfl hI
def f_Mo_comesTo_52 (N : Nat) (S : zOb) (k7 : Int32 → Int32 → Int32 → Option Int32) (k17 : Int32 → Int32 → Int32 → Int32 → Option Int32) (x2 : Int32) (x4 : Int32) (x5 : Int32) (s0 : Int32) (s1 : Int32) : Option Int32 :=
  bnd (s1 ||| s0) (fun v9 => bnd (x5 + (nI 1)) (fun v10 => k17 x2 v9 x4 v10))
set_option maxHeartbeats 4000000 in
set_option maxRecDepth 100000 in
theorem t_Mo_comesTo_52 (N : Nat) {p : Program} {l : Launch} {e : Env} {s : State} {m : MethodId} {args : Array Value} {below : List Frame} {meth : Method} {c : Code} {Q : State → Prop} {G : zG} {μ : zM} {o : Nat} (hc : o = 29) {S : zOb} (hS : μ o = S) {out : Int32} (cx : zCX p (zrm 1) s m args c RX8 cX8_comesTo 6 1 G) (hret : zRi p l e (zrm 1) s m args below meth c cX8_comesTo G .boolean Q out μ) {k7 : Int32 → Int32 → Int32 → Option Int32} {k17 : Int32 → Int32 → Int32 → Int32 → Option Int32} (hk7 : ∀ (x2 : Int32) (x3 : Int32) (x4 : Int32), k7 x2 x3 x4 = some out → ∀ {H : Heap} {locs : List Loc} {ls : Array Slot}, zIW G s μ H locs → lv_has ls 6 [(0, .ref (G.2.2.1 o 0)), (2, .int x2), (3, .int x3), (4, .int x4)] → W p l e (zrm 1) s m args below meth c H locs 0 0 Q (F0 m 7 ls [])) (hk17 : ∀ (x2 : Int32) (x3 : Int32) (x4 : Int32) (x5 : Int32), k17 x2 x3 x4 x5 = some out → ∀ {H : Heap} {locs : List Loc} {ls : Array Slot}, zIW G s μ H locs → lv_has ls 6 [(0, .ref (G.2.2.1 o 0)), (2, .int x2), (3, .int x3), (4, .int x4), (5, .int x5)] → W p l e (zrm 1) s m args below meth c H locs 0 0 Q (F0 m 17 ls [])) : ∀ (x2 : Int32) (x4 : Int32) (x5 : Int32) (s0 : Int32) (s1 : Int32), f_Mo_comesTo_52 N S k7 k17 x2 x4 x5 s0 s1 = some out → ∀ {H : Heap} {locs : List Loc} {ls : Array Slot}, zIW G s μ H locs → lv_has ls 6 [(0, .ref (G.2.2.1 o 0)), (2, .int x2), (4, .int x4), (5, .int x5)] → W p l e (zrm 1) s m args below meth c H locs 0 0 Q (F0 m 52 ls [.int s0, .int s1]) := by
  obtain ⟨hx, hb, hml, hown, hts, hK, hR⟩ := id cx
  intro x2 x4 x5 s0 s1  h H locs ls hI hl
  unfold f_Mo_comesTo_52 at h
  refine lv_ior hx hb dX8_comesTo_52 ?_
  refine lv_topi (fun v9 ev9 => ?_)
  have h := bnd_el h ev9
  refine lv_istore_n (lv' := [(3, .int v9), (0, .ref (G.2.2.1 o 0)), (2, .int x2), (4, .int x4), (5, .int x5)]) hx hb dX8_comesTo_53 rfl hl (by decide) rfl (fun ls hl => ?_)
  obtain ⟨v10, ev10⟩ : ∃ z : Int32, z = x5 + (nI 1) := ⟨_, rfl⟩
  have h := bnd_el h ev10
  refine lv_iinc (v := v10) (lv' := [(5, .int v10), (3, .int v9), (0, .ref (G.2.2.1 o 0)), (2, .int x2), (4, .int x4)]) hx hb dX8_comesTo_54 hl (k := 4) rfl (by rw [ev10]; rfl) (by decide) rfl (fun ls hl => ?_)
  refine lv_goto (tgt := 17) hx hb dX8_comesTo_57 (by decide) ?_
  exact hk17 x2 v9 x4 v10 h hI (lv_sub hl [2, 3, 1, 4, 0] rfl)
def f_Mo_comesTo_17 (N : Nat) (S : zOb) (k7 : Int32 → Int32 → Int32 → Option Int32) : Nat → Int32 → Int32 → Int32 → Int32 → Option Int32
  | 0, _, _, _, _ => none
  | n + 1, x2, x3, x4, x5 => (if (S.1 1 0) ≤ x5 then bnd (x4 + (nI 1)) (fun v6 => k7 x2 x3 v6) else (f_Mo_has x3 x5).bind (fun q7 => (if q7 = nI 0 then f_Mo_comesTo_52 N S k7 (f_Mo_comesTo_17 N S k7 n) x2 x4 x5 (nI 0) x3 else if zin ((nI 20) + x5) 27 then f_Mo_comesTo_52 N S k7 (f_Mo_comesTo_17 N S k7 n) x2 x4 x5 (S.1 1 (((nI 20) + x5).toNatClampNeg)) x3 else none)))
set_option maxHeartbeats 4000000 in
set_option maxRecDepth 100000 in
theorem t_Mo_comesTo_17 (N : Nat) {p : Program} {l : Launch} {e : Env} {s : State} {m : MethodId} {args : Array Value} {below : List Frame} {meth : Method} {c : Code} {Q : State → Prop} {G : zG} {μ : zM} {o : Nat} (hc : o = 29) {S : zOb} (hS : μ o = S) {out : Int32} (cx : zCX p (zrm 1) s m args c RX8 cX8_comesTo 6 1 G) (hret : zRi p l e (zrm 1) s m args below meth c cX8_comesTo G .boolean Q out μ) {k7 : Int32 → Int32 → Int32 → Option Int32} (hk7 : ∀ (x2 : Int32) (x3 : Int32) (x4 : Int32), k7 x2 x3 x4 = some out → ∀ {H : Heap} {locs : List Loc} {ls : Array Slot}, zIW G s μ H locs → lv_has ls 6 [(0, .ref (G.2.2.1 o 0)), (2, .int x2), (3, .int x3), (4, .int x4)] → W p l e (zrm 1) s m args below meth c H locs 0 0 Q (F0 m 7 ls [])) : ∀ (n : Nat) (x2 : Int32) (x3 : Int32) (x4 : Int32) (x5 : Int32), f_Mo_comesTo_17 N S k7 n x2 x3 x4 x5 = some out → ∀ {H : Heap} {locs : List Loc} {ls : Array Slot}, zIW G s μ H locs → lv_has ls 6 [(0, .ref (G.2.2.1 o 0)), (2, .int x2), (3, .int x3), (4, .int x4), (5, .int x5)] → W p l e (zrm 1) s m args below meth c H locs 0 0 Q (F0 m 17 ls []) := by
  obtain ⟨hx, hb, hml, hown, hts, hK, hR⟩ := id cx
  intro n
  induction n with
  | zero =>
    intro x2 x3 x4 x5  h
    cases h
  | succ n ih =>
    intro x2 x3 x4 x5  h H locs ls hI hl
    rw [f_Mo_comesTo_17] at h
    refine lv_iload hx hb dX8_comesTo_17 (lv_at hl 4 rfl) ?_
    refine lv_aload_n hx hb dX8_comesTo_19 rfl (lv_at hl 0 rfl) ?_
    refine g8_0 cx hI hc hS w_108 dX8_comesTo_20 ?_
    refine lv_iconst (v := (nI 0)) hx hb dX8_comesTo_23 (by decide) ?_
    refine zr_iald cx hI (k8_1 hc) hS (z8_1 hc) rfl (by decide) dX8_comesTo_24 ?_
    refine lv_icmp_ge (tgt := 60) hx hb dX8_comesTo_25 (by decide) (fun c5 => ?_) (fun c5 => ?_)
    · have h := it_p h c5
      obtain ⟨v6, ev6⟩ : ∃ z : Int32, z = x4 + (nI 1) := ⟨_, rfl⟩
      have h := bnd_el h ev6
      refine lv_iinc (v := v6) (lv' := [(4, .int v6), (0, .ref (G.2.2.1 o 0)), (2, .int x2), (3, .int x3), (5, .int x5)]) hx hb dX8_comesTo_60 hl (k := 3) rfl (by rw [ev6]; rfl) (by decide) rfl (fun ls hl => ?_)
      refine lv_goto (tgt := 7) hx hb dX8_comesTo_63 (by decide) ?_
      exact hk7 x2 x3 v6 h hI (lv_sub hl [1, 2, 3, 0] rfl)
    · have h := it_n h c5
      refine lv_iload_n hx hb dX8_comesTo_28 rfl (lv_at hl 2 rfl) ?_
      refine lv_iload_n hx hb dX8_comesTo_29 rfl (lv_at hl 2 rfl) ?_
      refine lv_iload hx hb dX8_comesTo_30 (lv_at hl 4 rfl) ?_
      obtain ⟨q7, hq7, h⟩ := bi_el h
      refine zcSi (As := [.int x3, .int x5]) cx hI (c_Mo_has  hq7) mt_yX8_has ms_yX8_has w_275 (by omega) rfl hl.1 rfl (Nat.le_of_ble_eq_true rfl) dX8_comesTo_32 (fun H locs hI => ?_)
      refine lv_if_eq (tgt := 51) hx hb dX8_comesTo_35 (by decide) (fun c8 => ?_) (fun c8 => ?_)
      · have h := it_p h c8
        refine lv_iconst (v := (nI 0)) hx hb dX8_comesTo_51 (by decide) ?_
        exact t_Mo_comesTo_52 N hc hS cx hret hk7 ih x2 x4 x5 (nI 0) x3 h hI (lv_sub hl [0, 1, 3, 4] rfl)
      · have h := it_n h c8
        refine lv_aload_n hx hb dX8_comesTo_38 rfl (lv_at hl 0 rfl) ?_
        refine g8_0 cx hI hc hS w_108 dX8_comesTo_39 ?_
        refine lv_bipush (v := (nI 20)) hx hb dX8_comesTo_42 (by decide) ?_
        refine lv_iload hx hb dX8_comesTo_44 (lv_at hl 4 rfl) ?_
        refine lv_iadd hx hb dX8_comesTo_46 ?_
        obtain ⟨g11, h⟩ := gd_el h
        refine zr_iald cx hI (k8_1 hc) hS (z8_1 hc) rfl g11 dX8_comesTo_47 ?_
        refine lv_goto (tgt := 52) hx hb dX8_comesTo_48 (by decide) ?_
        exact t_Mo_comesTo_52 N hc hS cx hret hk7 ih x2 x4 x5 (S.1 1 (((nI 20) + x5).toNatClampNeg)) x3 h hI (lv_sub hl [0, 1, 3, 4] rfl)
def f_Mo_comesTo_7 (N : Nat) (S : zOb)  : Nat → Int32 → Int32 → Int32 → Option Int32
  | 0, _, _, _ => none
  | n + 1, x2, x3, x4 => (if (nI 7) ≤ x4 then (f_Mo_has x3 x2).bind (fun q3 => if (q3 = nI 0 ∨ q3 = nI 1) then some q3 else none) else f_Mo_comesTo_17 N S (f_Mo_comesTo_7 N S n) N x2 x3 x4 (nI 0))
set_option maxHeartbeats 4000000 in
set_option maxRecDepth 100000 in
theorem t_Mo_comesTo_7 (N : Nat) {p : Program} {l : Launch} {e : Env} {s : State} {m : MethodId} {args : Array Value} {below : List Frame} {meth : Method} {c : Code} {Q : State → Prop} {G : zG} {μ : zM} {o : Nat} (hc : o = 29) {S : zOb} (hS : μ o = S) {out : Int32} (cx : zCX p (zrm 1) s m args c RX8 cX8_comesTo 6 1 G) (hret : zRi p l e (zrm 1) s m args below meth c cX8_comesTo G .boolean Q out μ)   : ∀ (n : Nat) (x2 : Int32) (x3 : Int32) (x4 : Int32), f_Mo_comesTo_7 N S n x2 x3 x4 = some out → ∀ {H : Heap} {locs : List Loc} {ls : Array Slot}, zIW G s μ H locs → lv_has ls 6 [(0, .ref (G.2.2.1 o 0)), (2, .int x2), (3, .int x3), (4, .int x4)] → W p l e (zrm 1) s m args below meth c H locs 0 0 Q (F0 m 7 ls []) := by
  obtain ⟨hx, hb, hml, hown, hts, hK, hR⟩ := id cx
  intro n
  induction n with
  | zero =>
    intro x2 x3 x4  h
    cases h
  | succ n ih =>
    intro x2 x3 x4  h H locs ls hI hl
    rw [f_Mo_comesTo_7] at h
    refine lv_iload hx hb dX8_comesTo_7 (lv_at hl 3 rfl) ?_
    refine lv_bipush (v := (nI 7)) hx hb dX8_comesTo_9 (by decide) ?_
    refine lv_icmp_ge (tgt := 66) hx hb dX8_comesTo_11 (by decide) (fun c2 => ?_) (fun c2 => ?_)
    · have h := it_p h c2
      refine lv_iload_n hx hb dX8_comesTo_66 rfl (lv_at hl 2 rfl) ?_
      refine lv_iload_n hx hb dX8_comesTo_67 rfl (lv_at hl 1 rfl) ?_
      obtain ⟨q3, hq3, h⟩ := bi_el h
      refine zcSi (As := [.int x3, .int x2]) cx hI (c_Mo_has  hq3) mt_yX8_has ms_yX8_has w_275 (by omega) rfl hl.1 rfl (Nat.le_of_ble_eq_true rfl) dX8_comesTo_68 (fun H locs hI => ?_)
      obtain ⟨g4, h⟩ := gd_el h
      obtain rfl := Option.some.inj h
      exact hret _ _ _ _ dX8_comesTo_71 (zbool g4) hI
    · have h := it_n h c2
      refine lv_iconst (v := (nI 0)) hx hb dX8_comesTo_14 (by decide) ?_
      refine lv_istore (lv' := [(5, .int (nI 0)), (0, .ref (G.2.2.1 o 0)), (2, .int x2), (3, .int x3), (4, .int x4)]) hx hb dX8_comesTo_15 hl (by decide) rfl (fun ls hl => ?_)
      exact t_Mo_comesTo_17 N hc hS cx hret ih N x2 x3 x4 (nI 0) h hI (lv_sub hl [1, 2, 3, 4, 0] rfl)
def f_Mo_comesTo (N : Nat) (S : zOb) (a1 : Int32) (a2 : Int32) : Option Int32 :=
  bnd ((nI 1) <<< (a1 &&& 31)) (fun v1 => f_Mo_comesTo_7 N S N a2 v1 (nI 0))
set_option maxHeartbeats 4000000 in
set_option maxRecDepth 100000 in
theorem c_Mo_comesTo (N : Nat) {l : Launch} {G : zG} {μ : zM} {o : Nat} (hc : o = 29) {S : zOb} (hS : μ o = S) {a1 : Int32} {a2 : Int32} {out : Int32} (h : f_Mo_comesTo N S a1 a2 = some out) : zMI l G yX8_comesTo cX8_comesTo 6 (some .boolean) 1 [.ref (G.2.2.1 o 0), .int a1, .int a2] μ out μ := by
  refine zMI.of (by decide) (Nat.le_of_ble_eq_true rfl) (fun p e s m args below meth c Q ls cx hI hl hret => ?_)
  obtain ⟨hx, hb, hml, hown, hts, hK, hR⟩ := id cx
  have hl : lv_has ls 6 [(0, .ref (G.2.2.1 o 0)), (1, .int a1), (2, .int a2)] := hl
  unfold f_Mo_comesTo at h
  refine lv_iconst (v := (nI 1)) hx hb dX8_comesTo_0 (by decide) ?_
  refine lv_iload_n hx hb dX8_comesTo_1 rfl (lv_at hl 1 rfl) ?_
  refine lv_ishl hx hb dX8_comesTo_2 ?_
  refine lv_topi (fun v1 ev1 => ?_)
  have h := bnd_el h ev1
  refine lv_istore_n (lv' := [(3, .int v1), (0, .ref (G.2.2.1 o 0)), (1, .int a1), (2, .int a2)]) hx hb dX8_comesTo_3 rfl hl (by decide) rfl (fun ls hl => ?_)
  refine lv_iconst (v := (nI 0)) hx hb dX8_comesTo_4 (by decide) ?_
  refine lv_istore (lv' := [(4, .int (nI 0)), (3, .int v1), (0, .ref (G.2.2.1 o 0)), (1, .int a1), (2, .int a2)]) hx hb dX8_comesTo_5 hl (by decide) rfl (fun ls hl => ?_)
  exact t_Mo_comesTo_7 N hc hS cx hret N a2 v1 (nI 0) h hI (lv_sub hl [2, 4, 1, 0] rfl)
def f_Mo_puts_21 (N : Nat)  (S : zOb) : Option (Int32 × zOb) :=
  some ((-1 : Int32), S)
set_option maxHeartbeats 4000000 in
set_option maxRecDepth 100000 in
theorem t_Mo_puts_21 (N : Nat) {p : Program} {l : Launch} {e : Env} {s : State} {m : MethodId} {args : Array Value} {below : List Frame} {meth : Method} {c : Code} {Q : State → Prop} {G : zG} {μ : zM} {o : Nat} (hc : o = 29) {out : (Int32 × zOb)} (cx : zCX p (zrm 2) s m args c RX8 cX8_puts 4 2 G) (hret : zRi p l e (zrm 2) s m args below meth c cX8_puts G .int Q out.1 (zset μ o out.2))   : ∀ (S : zOb), f_Mo_puts_21 N S = some out → ∀ {H : Heap} {locs : List Loc} {ls : Array Slot}, zIW G s (zset μ o S) H locs → lv_has ls 4 [] → W p l e (zrm 2) s m args below meth c H locs 0 0 Q (F0 m 21 ls []) := by
  obtain ⟨hx, hb, hml, hown, hts, hK, hR⟩ := id cx
  intro S  h H locs ls hI hl
  unfold f_Mo_puts_21 at h
  refine lv_iconst (v := (-1 : Int32)) hx hb dX8_puts_21 (by decide) ?_
  obtain rfl := Option.some.inj h
  exact hret _ _ _ _ dX8_puts_22 rfl hI
def f_Mo_puts_77 (N : Nat)  (S : zOb) (s0 : Int32) : Option (Int32 × zOb) :=
  some (s0, S)
set_option maxHeartbeats 4000000 in
set_option maxRecDepth 100000 in
theorem t_Mo_puts_77 (N : Nat) {p : Program} {l : Launch} {e : Env} {s : State} {m : MethodId} {args : Array Value} {below : List Frame} {meth : Method} {c : Code} {Q : State → Prop} {G : zG} {μ : zM} {o : Nat} (hc : o = 29) {out : (Int32 × zOb)} (cx : zCX p (zrm 2) s m args c RX8 cX8_puts 4 2 G) (hret : zRi p l e (zrm 2) s m args below meth c cX8_puts G .int Q out.1 (zset μ o out.2))   : ∀ (S : zOb) (s0 : Int32), f_Mo_puts_77 N S s0 = some out → ∀ {H : Heap} {locs : List Loc} {ls : Array Slot}, zIW G s (zset μ o S) H locs → lv_has ls 4 [] → W p l e (zrm 2) s m args below meth c H locs 0 0 Q (F0 m 77 ls [.int s0]) := by
  obtain ⟨hx, hb, hml, hown, hts, hK, hR⟩ := id cx
  intro S s0  h H locs ls hI hl
  unfold f_Mo_puts_77 at h
  obtain rfl := Option.some.inj h
  exact hret _ _ _ _ dX8_puts_77 rfl hI
def f_Mo_puts_53 (N : Nat)  (S : zOb) (x1 : Int32) (x2 : Int32) (x3 : Int32) : Option (Int32 × zOb) :=
  if zin ((nI 20) + x1) 27 then if zin ((nI 20) + x1) 27 then bnd (zI S 1 (((nI 20) + x1).toNatClampNeg) ((S.1 1 (((nI 20) + x1).toNatClampNeg)) ^^^ ((nI 1) <<< (x2 &&& 31)))) (fun Z11 => (if x3 = nI 0 then f_Mo_puts_77 N Z11 (nI 1) else f_Mo_puts_77 N Z11 (nI 0))) else none else none
set_option maxHeartbeats 4000000 in
set_option maxRecDepth 100000 in
theorem t_Mo_puts_53 (N : Nat) {p : Program} {l : Launch} {e : Env} {s : State} {m : MethodId} {args : Array Value} {below : List Frame} {meth : Method} {c : Code} {Q : State → Prop} {G : zG} {μ : zM} {o : Nat} (hc : o = 29) {out : (Int32 × zOb)} (cx : zCX p (zrm 2) s m args c RX8 cX8_puts 4 2 G) (hret : zRi p l e (zrm 2) s m args below meth c cX8_puts G .int Q out.1 (zset μ o out.2))   : ∀ (S : zOb) (x1 : Int32) (x2 : Int32) (x3 : Int32), f_Mo_puts_53 N S x1 x2 x3 = some out → ∀ {H : Heap} {locs : List Loc} {ls : Array Slot}, zIW G s (zset μ o S) H locs → lv_has ls 4 [(0, .ref (G.2.2.1 o 0)), (1, .int x1), (2, .int x2), (3, .int x3)] → W p l e (zrm 2) s m args below meth c H locs 0 0 Q (F0 m 53 ls []) := by
  obtain ⟨hx, hb, hml, hown, hts, hK, hR⟩ := id cx
  intro S x1 x2 x3  h H locs ls hI hl
  unfold f_Mo_puts_53 at h
  refine lv_aload_n hx hb dX8_puts_53 rfl (lv_at hl 0 rfl) ?_
  refine g8_0 cx hI hc (zset_s _ _ _) w_108 dX8_puts_54 ?_
  refine lv_bipush (v := (nI 20)) hx hb dX8_puts_57 (by decide) ?_
  refine lv_iload_n hx hb dX8_puts_59 rfl (lv_at hl 1 rfl) ?_
  refine lv_iadd hx hb dX8_puts_60 ?_
  refine lv_dup2_11 hx hb dX8_puts_61 rfl rfl ?_
  obtain ⟨g9, h⟩ := gd_el h
  refine zr_iald cx hI (k8_1 hc) (zset_s _ _ _) (z8_1 hc) rfl g9 dX8_puts_62 ?_
  refine lv_iconst (v := (nI 1)) hx hb dX8_puts_63 (by decide) ?_
  refine lv_iload_n hx hb dX8_puts_64 rfl (lv_at hl 2 rfl) ?_
  refine lv_ishl hx hb dX8_puts_65 ?_
  refine lv_ixor hx hb dX8_puts_66 ?_
  obtain ⟨g10, h⟩ := gd_el h
  obtain ⟨Z11, eZ11⟩ : ∃ z : zOb, z = zI S 1 (((nI 20) + x1).toNatClampNeg) ((S.1 1 (((nI 20) + x1).toNatClampNeg)) ^^^ ((nI 1) <<< (x2 &&& 31))) := ⟨_, rfl⟩
  have h := bnd_el h eZ11
  refine zr_iast cx hI (k8_1 hc) (zset_s _ _ _) (z8_1 hc) rfl g10 (zss eZ11) dX8_puts_67 (fun H locs hI => ?_)
  refine lv_iload_n hx hb dX8_puts_68 rfl (lv_at hl 3 rfl) ?_
  refine lv_if_eq (tgt := 76) hx hb dX8_puts_69 (by decide) (fun c12 => ?_) (fun c12 => ?_)
  · have h := it_p h c12
    refine lv_iconst (v := (nI 1)) hx hb dX8_puts_76 (by decide) ?_
    exact t_Mo_puts_77 N hc cx hret Z11 (nI 1) h hI (lv_sub hl [] rfl)
  · have h := it_n h c12
    refine lv_iconst (v := (nI 0)) hx hb dX8_puts_72 (by decide) ?_
    refine lv_goto (tgt := 77) hx hb dX8_puts_73 (by decide) ?_
    exact t_Mo_puts_77 N hc cx hret Z11 (nI 0) h hI (lv_sub hl [] rfl)
def f_Mo_puts (N : Nat) (S : zOb) (a1 : Int32) (a2 : Int32) : Option (Int32 × zOb) :=
  (f_Mo_isBook S a1).bind (fun q1 => (if q1 = nI 0 then f_Mo_puts_21 N S else (f_Mo_isBook S a2).bind (fun q3 => (if q3 = nI 0 then f_Mo_puts_21 N S else (if a1 = a2 then f_Mo_puts_21 N S else if zin ((nI 20) + a1) 27 then (f_Mo_has (S.1 1 (((nI 20) + a1).toNatClampNeg)) a2).bind (fun q7 => (if q7 = nI 0 then (f_Mo_comesTo N S a2 a1).bind (fun q13 => (if q13 = nI 0 then f_Mo_puts_53 N S a1 a2 q7 else some ((-2 : Int32), S))) else f_Mo_puts_53 N S a1 a2 q7)) else none)))))
set_option maxHeartbeats 4000000 in
set_option maxRecDepth 100000 in
theorem c_Mo_puts (N : Nat) {l : Launch} {G : zG} {μ : zM} {o : Nat} (hc : o = 29) {S : zOb} (hS : μ o = S) {a1 : Int32} {a2 : Int32} {out : (Int32 × zOb)} (h : f_Mo_puts N S a1 a2 = some out) {μ' : zM} (hμ : zset μ o out.2 = μ') : zMI l G yX8_puts cX8_puts 4 (some .int) 2 [.ref (G.2.2.1 o 0), .int a1, .int a2] μ out.1 μ' := by
  subst hμ
  refine zMI.of (by decide) (Nat.le_of_ble_eq_true rfl) (fun p e s m args below meth c Q ls cx hI hl hret => ?_)
  obtain ⟨hx, hb, hml, hown, hts, hK, hR⟩ := id cx
  have hl : lv_has ls 4 [(0, .ref (G.2.2.1 o 0)), (1, .int a1), (2, .int a2)] := hl
  rw [← zset_idS hS] at hI
  unfold f_Mo_puts at h
  refine lv_aload_n hx hb dX8_puts_0 rfl (lv_at hl 0 rfl) ?_
  refine lv_iload_n hx hb dX8_puts_1 rfl (lv_at hl 1 rfl) ?_
  obtain ⟨q1, hq1, h⟩ := bi_el h
  refine zcVi (As := [.int a1]) cx hI (c_Mo_isBook hc (zset_s _ _ _) hq1) mt_yX8_isBook mv_yX8_isBook w_211 (by omega) (k8_0 hc) (zv8 hc) rfl hl.1 rfl (Nat.le_of_ble_eq_true rfl) dX8_puts_2 (fun H locs hI => ?_)
  refine lv_if_eq (tgt := 21) hx hb dX8_puts_5 (by decide) (fun c2 => ?_) (fun c2 => ?_)
  · have h := it_p h c2
    exact t_Mo_puts_21 N hc cx hret S h hI (lv_sub hl [] rfl)
  · have h := it_n h c2
    refine lv_aload_n hx hb dX8_puts_8 rfl (lv_at hl 0 rfl) ?_
    refine lv_iload_n hx hb dX8_puts_9 rfl (lv_at hl 2 rfl) ?_
    obtain ⟨q3, hq3, h⟩ := bi_el h
    refine zcVi (As := [.int a2]) cx hI (c_Mo_isBook hc (zset_s _ _ _) hq3) mt_yX8_isBook mv_yX8_isBook w_211 (by omega) (k8_0 hc) (zv8 hc) rfl hl.1 rfl (Nat.le_of_ble_eq_true rfl) dX8_puts_10 (fun H locs hI => ?_)
    refine lv_if_eq (tgt := 21) hx hb dX8_puts_13 (by decide) (fun c4 => ?_) (fun c4 => ?_)
    · have h := it_p h c4
      exact t_Mo_puts_21 N hc cx hret S h hI (lv_sub hl [] rfl)
    · have h := it_n h c4
      refine lv_iload_n hx hb dX8_puts_16 rfl (lv_at hl 1 rfl) ?_
      refine lv_iload_n hx hb dX8_puts_17 rfl (lv_at hl 2 rfl) ?_
      refine lv_icmp_ne (tgt := 23) hx hb dX8_puts_18 (by decide) (fun c5 => ?_) (fun c5 => ?_)
      · have h := it_n h c5
        refine lv_aload_n hx hb dX8_puts_23 rfl (lv_at hl 0 rfl) ?_
        refine g8_0 cx hI hc (zset_s _ _ _) w_108 dX8_puts_24 ?_
        refine lv_bipush (v := (nI 20)) hx hb dX8_puts_27 (by decide) ?_
        refine lv_iload_n hx hb dX8_puts_29 rfl (lv_at hl 1 rfl) ?_
        refine lv_iadd hx hb dX8_puts_30 ?_
        obtain ⟨g6, h⟩ := gd_el h
        refine zr_iald cx hI (k8_1 hc) (zset_s _ _ _) (z8_1 hc) rfl g6 dX8_puts_31 ?_
        refine lv_iload_n hx hb dX8_puts_32 rfl (lv_at hl 2 rfl) ?_
        obtain ⟨q7, hq7, h⟩ := bi_el h
        refine zcSi (As := [.int (S.1 1 (((nI 20) + a1).toNatClampNeg)), .int a2]) cx hI (c_Mo_has  hq7) mt_yX8_has ms_yX8_has w_275 (by omega) rfl hl.1 rfl (Nat.le_of_ble_eq_true rfl) dX8_puts_33 (fun H locs hI => ?_)
        refine lv_istore_n (lv' := [(3, .int q7), (0, .ref (G.2.2.1 o 0)), (1, .int a1), (2, .int a2)]) hx hb dX8_puts_36 rfl hl (by decide) rfl (fun ls hl => ?_)
        refine lv_iload_n hx hb dX8_puts_37 rfl (lv_at hl 0 rfl) ?_
        refine lv_if_ne (tgt := 53) hx hb dX8_puts_38 (by decide) (fun c8 => ?_) (fun c8 => ?_)
        · have h := it_n h c8
          exact t_Mo_puts_53 N hc cx hret S a1 a2 q7 h hI (lv_sub hl [1, 2, 3, 0] rfl)
        · have h := it_p h c8
          refine lv_aload_n hx hb dX8_puts_41 rfl (lv_at hl 1 rfl) ?_
          refine lv_iload_n hx hb dX8_puts_42 rfl (lv_at hl 3 rfl) ?_
          refine lv_iload_n hx hb dX8_puts_43 rfl (lv_at hl 2 rfl) ?_
          obtain ⟨q13, hq13, h⟩ := bi_el h
          refine zcVi (As := [.int a2, .int a1]) cx hI (c_Mo_comesTo N hc (zset_s _ _ _) hq13) mt_yX8_comesTo mv_yX8_comesTo w_278 (by omega) (k8_0 hc) (zv8 hc) rfl hl.1 rfl (Nat.le_of_ble_eq_true rfl) dX8_puts_44 (fun H locs hI => ?_)
          refine lv_if_eq (tgt := 53) hx hb dX8_puts_47 (by decide) (fun c14 => ?_) (fun c14 => ?_)
          · have h := it_p h c14
            exact t_Mo_puts_53 N hc cx hret S a1 a2 q7 h hI (lv_sub hl [1, 2, 3, 0] rfl)
          · have h := it_n h c14
            refine lv_bipush (v := (-2 : Int32)) hx hb dX8_puts_50 (by decide) ?_
            obtain rfl := Option.some.inj h
            exact hret _ _ _ _ dX8_puts_52 rfl hI
      · have h := it_p h c5
        exact t_Mo_puts_21 N hc cx hret S h hI (lv_sub hl [] rfl)
def f_Mo_sets (S : zOb) (a1 : Int32) : Option (Int32 × zOb) :=
  (f_Mo_isSet a1).bind (fun q1 => (if q1 = nI 0 then some ((-1 : Int32), S) else bnd (S.1 1 1) (fun v3 => (if v3 = a1 then some ((-2 : Int32), S) else bnd (zI S 1 1 a1) (fun Z5 => some (v3, Z5))))))
set_option maxHeartbeats 4000000 in
set_option maxRecDepth 100000 in
theorem c_Mo_sets {l : Launch} {G : zG} {μ : zM} {o : Nat} (hc : o = 29) {S : zOb} (hS : μ o = S) {a1 : Int32} {out : (Int32 × zOb)} (h : f_Mo_sets S a1 = some out) {μ' : zM} (hμ : zset μ o out.2 = μ') : zMI l G yX8_sets cX8_sets 3 (some .int) 2 [.ref (G.2.2.1 o 0), .int a1] μ out.1 μ' := by
  subst hμ
  refine zMI.of (by decide) (Nat.le_of_ble_eq_true rfl) (fun p e s m args below meth c Q ls cx hI hl hret => ?_)
  obtain ⟨hx, hb, hml, hown, hts, hK, hR⟩ := id cx
  have hl : lv_has ls 3 [(0, .ref (G.2.2.1 o 0)), (1, .int a1)] := hl
  rw [← zset_idS hS] at hI
  unfold f_Mo_sets at h
  refine lv_iload_n hx hb dX8_sets_0 rfl (lv_at hl 1 rfl) ?_
  obtain ⟨q1, hq1, h⟩ := bi_el h
  refine zcSi (As := [.int a1]) cx hI (c_Mo_isSet  hq1) mt_yX8_isSet ms_yX8_isSet w_175 (by omega) rfl hl.1 rfl (Nat.le_of_ble_eq_true rfl) dX8_sets_1 (fun H locs hI => ?_)
  refine lv_if_ne (tgt := 9) hx hb dX8_sets_4 (by decide) (fun c2 => ?_) (fun c2 => ?_)
  · have h := it_n h c2
    refine lv_aload_n hx hb dX8_sets_9 rfl (lv_at hl 0 rfl) ?_
    refine g8_0 cx hI hc (zset_s _ _ _) w_108 dX8_sets_10 ?_
    refine lv_iconst (v := (nI 1)) hx hb dX8_sets_13 (by decide) ?_
    refine zr_iald cx hI (k8_1 hc) (zset_s _ _ _) (z8_1 hc) rfl (by decide) dX8_sets_14 ?_
    refine lv_topi (fun v3 ev3 => ?_)
    have h := bnd_el h ev3
    refine lv_istore_n (lv' := [(2, .int v3), (0, .ref (G.2.2.1 o 0)), (1, .int a1)]) hx hb dX8_sets_15 rfl hl (by decide) rfl (fun ls hl => ?_)
    refine lv_iload_n hx hb dX8_sets_16 rfl (lv_at hl 0 rfl) ?_
    refine lv_iload_n hx hb dX8_sets_17 rfl (lv_at hl 2 rfl) ?_
    refine lv_icmp_ne (tgt := 24) hx hb dX8_sets_18 (by decide) (fun c4 => ?_) (fun c4 => ?_)
    · have h := it_n h c4
      refine lv_aload_n hx hb dX8_sets_24 rfl (lv_at hl 1 rfl) ?_
      refine g8_0 cx hI hc (zset_s _ _ _) w_108 dX8_sets_25 ?_
      refine lv_iconst (v := (nI 1)) hx hb dX8_sets_28 (by decide) ?_
      refine lv_iload_n hx hb dX8_sets_29 rfl (lv_at hl 2 rfl) ?_
      obtain ⟨Z5, eZ5⟩ : ∃ z : zOb, z = zI S 1 1 a1 := ⟨_, rfl⟩
      have h := bnd_el h eZ5
      refine zr_iast cx hI (k8_1 hc) (zset_s _ _ _) (z8_1 hc) rfl (by decide) (zss eZ5) dX8_sets_30 (fun H locs hI => ?_)
      refine lv_iload_n hx hb dX8_sets_31 rfl (lv_at hl 0 rfl) ?_
      obtain rfl := Option.some.inj h
      exact hret _ _ _ _ dX8_sets_32 rfl hI
    · have h := it_p h c4
      refine lv_bipush (v := (-2 : Int32)) hx hb dX8_sets_21 (by decide) ?_
      obtain rfl := Option.some.inj h
      exact hret _ _ _ _ dX8_sets_23 rfl hI
  · have h := it_p h c2
    refine lv_iconst (v := (-1 : Int32)) hx hb dX8_sets_7 (by decide) ?_
    obtain rfl := Option.some.inj h
    exact hret _ _ _ _ dX8_sets_8 rfl hI
def f_Mo_tells_55  (S : zOb) (x1 : Int32) (x2 : Int32) (s0 : Int32) : Option (Int32 × zOb) :=
  (if s0 = nI 0 then some ((-1 : Int32), S) else if zin ((nI 2) + x1) 27 then bnd (S.1 1 (((nI 2) + x1).toNatClampNeg)) (fun v6 => (if v6 = x2 then some ((-2 : Int32), S) else if zin ((nI 2) + x1) 27 then bnd (zI S 1 (((nI 2) + x1).toNatClampNeg) x2) (fun Z9 => some (v6, Z9)) else none)) else none)
set_option maxHeartbeats 4000000 in
set_option maxRecDepth 100000 in
theorem t_Mo_tells_55  {p : Program} {l : Launch} {e : Env} {s : State} {m : MethodId} {args : Array Value} {below : List Frame} {meth : Method} {c : Code} {Q : State → Prop} {G : zG} {μ : zM} {o : Nat} (hc : o = 29) {out : (Int32 × zOb)} (cx : zCX p (zrm 1) s m args c RX8 cX8_tells 5 1 G) (hret : zRi p l e (zrm 1) s m args below meth c cX8_tells G .int Q out.1 (zset μ o out.2))   : ∀ (S : zOb) (x1 : Int32) (x2 : Int32) (s0 : Int32), f_Mo_tells_55 S x1 x2 s0 = some out → ∀ {H : Heap} {locs : List Loc} {ls : Array Slot}, zIW G s (zset μ o S) H locs → lv_has ls 5 [(0, .ref (G.2.2.1 o 0)), (1, .int x1), (2, .int x2)] → W p l e (zrm 1) s m args below meth c H locs 0 0 Q (F0 m 55 ls [.int s0]) := by
  obtain ⟨hx, hb, hml, hown, hts, hK, hR⟩ := id cx
  intro S x1 x2 s0  h H locs ls hI hl
  unfold f_Mo_tells_55 at h
  refine lv_istore_n (lv' := [(3, .int s0), (0, .ref (G.2.2.1 o 0)), (1, .int x1), (2, .int x2)]) hx hb dX8_tells_55 rfl hl (by decide) rfl (fun ls hl => ?_)
  refine lv_iload_n hx hb dX8_tells_56 rfl (lv_at hl 0 rfl) ?_
  refine lv_if_ne (tgt := 62) hx hb dX8_tells_57 (by decide) (fun c4 => ?_) (fun c4 => ?_)
  · have h := it_n h c4
    refine lv_aload_n hx hb dX8_tells_62 rfl (lv_at hl 1 rfl) ?_
    refine g8_0 cx hI hc (zset_s _ _ _) w_108 dX8_tells_63 ?_
    refine lv_iconst (v := (nI 2)) hx hb dX8_tells_66 (by decide) ?_
    refine lv_iload_n hx hb dX8_tells_67 rfl (lv_at hl 2 rfl) ?_
    refine lv_iadd hx hb dX8_tells_68 ?_
    obtain ⟨g5, h⟩ := gd_el h
    refine zr_iald cx hI (k8_1 hc) (zset_s _ _ _) (z8_1 hc) rfl g5 dX8_tells_69 ?_
    refine lv_topi (fun v6 ev6 => ?_)
    have h := bnd_el h ev6
    refine lv_istore (lv' := [(4, .int v6), (3, .int s0), (0, .ref (G.2.2.1 o 0)), (1, .int x1), (2, .int x2)]) hx hb dX8_tells_70 hl (by decide) rfl (fun ls hl => ?_)
    refine lv_iload hx hb dX8_tells_72 (lv_at hl 0 rfl) ?_
    refine lv_iload_n hx hb dX8_tells_74 rfl (lv_at hl 4 rfl) ?_
    refine lv_icmp_ne (tgt := 81) hx hb dX8_tells_75 (by decide) (fun c7 => ?_) (fun c7 => ?_)
    · have h := it_n h c7
      refine lv_aload_n hx hb dX8_tells_81 rfl (lv_at hl 2 rfl) ?_
      refine g8_0 cx hI hc (zset_s _ _ _) w_108 dX8_tells_82 ?_
      refine lv_iconst (v := (nI 2)) hx hb dX8_tells_85 (by decide) ?_
      refine lv_iload_n hx hb dX8_tells_86 rfl (lv_at hl 3 rfl) ?_
      refine lv_iadd hx hb dX8_tells_87 ?_
      refine lv_iload_n hx hb dX8_tells_88 rfl (lv_at hl 4 rfl) ?_
      obtain ⟨g8, h⟩ := gd_el h
      obtain ⟨Z9, eZ9⟩ : ∃ z : zOb, z = zI S 1 (((nI 2) + x1).toNatClampNeg) x2 := ⟨_, rfl⟩
      have h := bnd_el h eZ9
      refine zr_iast cx hI (k8_1 hc) (zset_s _ _ _) (z8_1 hc) rfl g8 (zss eZ9) dX8_tells_89 (fun H locs hI => ?_)
      refine lv_iload hx hb dX8_tells_90 (lv_at hl 0 rfl) ?_
      obtain rfl := Option.some.inj h
      exact hret _ _ _ _ dX8_tells_92 rfl hI
    · have h := it_p h c7
      refine lv_bipush (v := (-2 : Int32)) hx hb dX8_tells_78 (by decide) ?_
      obtain rfl := Option.some.inj h
      exact hret _ _ _ _ dX8_tells_80 rfl hI
  · have h := it_p h c4
    refine lv_iconst (v := (-1 : Int32)) hx hb dX8_tells_60 (by decide) ?_
    obtain rfl := Option.some.inj h
    exact hret _ _ _ _ dX8_tells_61 rfl hI
def f_Mo_tells_54  (S : zOb) (x1 : Int32) (x2 : Int32) : Option (Int32 × zOb) :=
  f_Mo_tells_55 S x1 x2 (nI 0)
set_option maxHeartbeats 4000000 in
set_option maxRecDepth 100000 in
theorem t_Mo_tells_54  {p : Program} {l : Launch} {e : Env} {s : State} {m : MethodId} {args : Array Value} {below : List Frame} {meth : Method} {c : Code} {Q : State → Prop} {G : zG} {μ : zM} {o : Nat} (hc : o = 29) {out : (Int32 × zOb)} (cx : zCX p (zrm 1) s m args c RX8 cX8_tells 5 1 G) (hret : zRi p l e (zrm 1) s m args below meth c cX8_tells G .int Q out.1 (zset μ o out.2))   : ∀ (S : zOb) (x1 : Int32) (x2 : Int32), f_Mo_tells_54 S x1 x2 = some out → ∀ {H : Heap} {locs : List Loc} {ls : Array Slot}, zIW G s (zset μ o S) H locs → lv_has ls 5 [(0, .ref (G.2.2.1 o 0)), (1, .int x1), (2, .int x2)] → W p l e (zrm 1) s m args below meth c H locs 0 0 Q (F0 m 54 ls []) := by
  obtain ⟨hx, hb, hml, hown, hts, hK, hR⟩ := id cx
  intro S x1 x2  h H locs ls hI hl
  unfold f_Mo_tells_54 at h
  refine lv_iconst (v := (nI 0)) hx hb dX8_tells_54 (by decide) ?_
  exact t_Mo_tells_55 hc cx hret S x1 x2 (nI 0) h hI hl
def f_Mo_tells (S : zOb) (a1 : Int32) (a2 : Int32) : Option (Int32 × zOb) :=
  (if a1 = nI 0 then (f_Mo_in a2.toInt64 (1 : Int64) (4 : Int64)).bind (fun q13 => f_Mo_tells_55 S a1 a2 q13) else (if a1 = (nI 1) then (f_Mo_in a2.toInt64 (0 : Int64) (20 : Int64)).bind (fun q12 => f_Mo_tells_55 S a1 a2 q12) else (if a1 = (nI 2) then (f_Mo_in a2.toInt64 (0 : Int64) (2 : Int64)).bind (fun q10 => (if q10 = nI 0 then f_Mo_tells_54 S a1 a2 else f_Mo_tells_55 S a1 a2 (nI 1))) else f_Mo_tells_54 S a1 a2)))
set_option maxHeartbeats 4000000 in
set_option maxRecDepth 100000 in
theorem c_Mo_tells {l : Launch} {G : zG} {μ : zM} {o : Nat} (hc : o = 29) {S : zOb} (hS : μ o = S) {a1 : Int32} {a2 : Int32} {out : (Int32 × zOb)} (h : f_Mo_tells S a1 a2 = some out) {μ' : zM} (hμ : zset μ o out.2 = μ') : zMI l G yX8_tells cX8_tells 5 (some .int) 1 [.ref (G.2.2.1 o 0), .int a1, .int a2] μ out.1 μ' := by
  subst hμ
  refine zMI.of (by decide) (Nat.le_of_ble_eq_true rfl) (fun p e s m args below meth c Q ls cx hI hl hret => ?_)
  obtain ⟨hx, hb, hml, hown, hts, hK, hR⟩ := id cx
  have hl : lv_has ls 5 [(0, .ref (G.2.2.1 o 0)), (1, .int a1), (2, .int a2)] := hl
  rw [← zset_idS hS] at hI
  unfold f_Mo_tells at h
  refine lv_iload_n hx hb dX8_tells_0 rfl (lv_at hl 1 rfl) ?_
  refine lv_if_ne (tgt := 16) hx hb dX8_tells_1 (by decide) (fun c1 => ?_) (fun c1 => ?_)
  · have h := it_n h c1
    refine lv_iload_n hx hb dX8_tells_16 rfl (lv_at hl 1 rfl) ?_
    refine lv_iconst (v := (nI 1)) hx hb dX8_tells_17 (by decide) ?_
    refine lv_icmp_ne (tgt := 33) hx hb dX8_tells_18 (by decide) (fun c2 => ?_) (fun c2 => ?_)
    · have h := it_n h c2
      refine lv_iload_n hx hb dX8_tells_33 rfl (lv_at hl 1 rfl) ?_
      refine lv_iconst (v := (nI 2)) hx hb dX8_tells_34 (by decide) ?_
      refine lv_icmp_ne (tgt := 54) hx hb dX8_tells_35 (by decide) (fun c3 => ?_) (fun c3 => ?_)
      · have h := it_n h c3
        exact t_Mo_tells_54 hc cx hret S a1 a2 h hI hl
      · have h := it_p h c3
        refine lv_iload_n hx hb dX8_tells_38 rfl (lv_at hl 2 rfl) ?_
        refine lv_i2l hx hb dX8_tells_39 rfl ?_
        refine lv_lconst (v := (0 : Int64)) hx hb dX8_tells_40 (by decide) ?_
        refine lv_ldc2 (v := (2 : Int64)) hx hb hown (hts _ w_328) dX8_tells_41 ?_
        obtain ⟨q10, hq10, h⟩ := bi_el h
        refine zcSi (As := [.long a2.toInt64, .long (0 : Int64), .long (2 : Int64)]) cx hI (c_Mo_in  hq10) mt_yX8_in ms_yX8_in w_179 (by omega) rfl hl.1 rfl (Nat.le_of_ble_eq_true rfl) dX8_tells_44 (fun H locs hI => ?_)
        refine lv_if_eq (tgt := 54) hx hb dX8_tells_47 (by decide) (fun c11 => ?_) (fun c11 => ?_)
        · have h := it_p h c11
          exact t_Mo_tells_54 hc cx hret S a1 a2 h hI hl
        · have h := it_n h c11
          refine lv_iconst (v := (nI 1)) hx hb dX8_tells_50 (by decide) ?_
          refine lv_goto (tgt := 55) hx hb dX8_tells_51 (by decide) ?_
          exact t_Mo_tells_55 hc cx hret S a1 a2 (nI 1) h hI hl
    · have h := it_p h c2
      refine lv_iload_n hx hb dX8_tells_21 rfl (lv_at hl 2 rfl) ?_
      refine lv_i2l hx hb dX8_tells_22 rfl ?_
      refine lv_lconst (v := (0 : Int64)) hx hb dX8_tells_23 (by decide) ?_
      refine lv_ldc2 (v := (20 : Int64)) hx hb hown (hts _ w_327) dX8_tells_24 ?_
      obtain ⟨q12, hq12, h⟩ := bi_el h
      refine zcSi (As := [.long a2.toInt64, .long (0 : Int64), .long (20 : Int64)]) cx hI (c_Mo_in  hq12) mt_yX8_in ms_yX8_in w_179 (by omega) rfl hl.1 rfl (Nat.le_of_ble_eq_true rfl) dX8_tells_27 (fun H locs hI => ?_)
      refine lv_goto (tgt := 55) hx hb dX8_tells_30 (by decide) ?_
      exact t_Mo_tells_55 hc cx hret S a1 a2 q12 h hI hl
  · have h := it_p h c1
    refine lv_iload_n hx hb dX8_tells_4 rfl (lv_at hl 2 rfl) ?_
    refine lv_i2l hx hb dX8_tells_5 rfl ?_
    refine lv_lconst (v := (1 : Int64)) hx hb dX8_tells_6 (by decide) ?_
    refine lv_ldc2 (v := (4 : Int64)) hx hb hown (hts _ w_326) dX8_tells_7 ?_
    obtain ⟨q13, hq13, h⟩ := bi_el h
    refine zcSi (As := [.long a2.toInt64, .long (1 : Int64), .long (4 : Int64)]) cx hI (c_Mo_in  hq13) mt_yX8_in ms_yX8_in w_179 (by omega) rfl hl.1 rfl (Nat.le_of_ble_eq_true rfl) dX8_tells_10 (fun H locs hI => ?_)
    refine lv_goto (tgt := 55) hx hb dX8_tells_13 (by decide) ?_
    exact t_Mo_tells_55 hc cx hret S a1 a2 q13 h hI hl
def f_Mo_shifts_36 (N : Nat)  (S : zOb) : Option (Int32 × zOb) :=
  some ((-1 : Int32), S)
set_option maxHeartbeats 4000000 in
set_option maxRecDepth 100000 in
theorem t_Mo_shifts_36 (N : Nat) {p : Program} {l : Launch} {e : Env} {s : State} {m : MethodId} {args : Array Value} {below : List Frame} {meth : Method} {c : Code} {Q : State → Prop} {G : zG} {μ : zM} {o : Nat} (hc : o = 29) {out : (Int32 × zOb)} (cx : zCX p (zrm 1) s m args c RX8 cX8_shifts 6 1 G) (hret : zRi p l e (zrm 1) s m args below meth c cX8_shifts G .int Q out.1 (zset μ o out.2))   : ∀ (S : zOb), f_Mo_shifts_36 N S = some out → ∀ {H : Heap} {locs : List Loc} {ls : Array Slot}, zIW G s (zset μ o S) H locs → lv_has ls 6 [] → W p l e (zrm 1) s m args below meth c H locs 0 0 Q (F0 m 36 ls []) := by
  obtain ⟨hx, hb, hml, hown, hts, hK, hR⟩ := id cx
  intro S  h H locs ls hI hl
  unfold f_Mo_shifts_36 at h
  refine lv_iconst (v := (-1 : Int32)) hx hb dX8_shifts_36 (by decide) ?_
  obtain rfl := Option.some.inj h
  exact hret _ _ _ _ dX8_shifts_37 rfl hI
def f_Mo_shifts_71 (N : Nat)  : Nat → zOb → Int32 → Int32 → Int32 → Int32 → Option (Int32 × zOb)
  | 0, _, _, _, _, _ => none
  | n + 1, S, x2, x3, x4, x5 => (if x5 = x2 then if zin ((nI 6) + x2) 27 then bnd (zI S 1 (((nI 6) + x2).toNatClampNeg) x3) (fun Z11 => some (x3, Z11)) else none else if zin (((nI 6) + x5) + x4) 27 then if zin ((nI 6) + x5) 27 then bnd (zI S 1 (((nI 6) + x5).toNatClampNeg) (S.1 1 ((((nI 6) + x5) + x4).toNatClampNeg))) (fun Z14 => bnd (x5 + x4) (fun v15 => f_Mo_shifts_71 N n Z14 x2 x3 x4 v15)) else none else none)
set_option maxHeartbeats 4000000 in
set_option maxRecDepth 100000 in
theorem t_Mo_shifts_71 (N : Nat) {p : Program} {l : Launch} {e : Env} {s : State} {m : MethodId} {args : Array Value} {below : List Frame} {meth : Method} {c : Code} {Q : State → Prop} {G : zG} {μ : zM} {o : Nat} (hc : o = 29) {out : (Int32 × zOb)} (cx : zCX p (zrm 1) s m args c RX8 cX8_shifts 6 1 G) (hret : zRi p l e (zrm 1) s m args below meth c cX8_shifts G .int Q out.1 (zset μ o out.2))   : ∀ (n : Nat) (S : zOb) (x2 : Int32) (x3 : Int32) (x4 : Int32) (x5 : Int32), f_Mo_shifts_71 N n S x2 x3 x4 x5 = some out → ∀ {H : Heap} {locs : List Loc} {ls : Array Slot}, zIW G s (zset μ o S) H locs → lv_has ls 6 [(0, .ref (G.2.2.1 o 0)), (2, .int x2), (3, .int x3), (4, .int x4), (5, .int x5)] → W p l e (zrm 1) s m args below meth c H locs 0 0 Q (F0 m 71 ls []) := by
  obtain ⟨hx, hb, hml, hown, hts, hK, hR⟩ := id cx
  intro n
  induction n with
  | zero =>
    intro S x2 x3 x4 x5  h
    cases h
  | succ n ih =>
    intro S x2 x3 x4 x5  h H locs ls hI hl
    rw [f_Mo_shifts_71] at h
    refine lv_iload hx hb dX8_shifts_71 (lv_at hl 4 rfl) ?_
    refine lv_iload_n hx hb dX8_shifts_73 rfl (lv_at hl 1 rfl) ?_
    refine lv_icmp_eq (tgt := 110) hx hb dX8_shifts_74 (by decide) (fun c9 => ?_) (fun c9 => ?_)
    · have h := it_p h c9
      refine lv_aload_n hx hb dX8_shifts_110 rfl (lv_at hl 0 rfl) ?_
      refine g8_0 cx hI hc (zset_s _ _ _) w_108 dX8_shifts_111 ?_
      refine lv_bipush (v := (nI 6)) hx hb dX8_shifts_114 (by decide) ?_
      refine lv_iload_n hx hb dX8_shifts_116 rfl (lv_at hl 1 rfl) ?_
      refine lv_iadd hx hb dX8_shifts_117 ?_
      refine lv_iload_n hx hb dX8_shifts_118 rfl (lv_at hl 2 rfl) ?_
      obtain ⟨g10, h⟩ := gd_el h
      obtain ⟨Z11, eZ11⟩ : ∃ z : zOb, z = zI S 1 (((nI 6) + x2).toNatClampNeg) x3 := ⟨_, rfl⟩
      have h := bnd_el h eZ11
      refine zr_iast cx hI (k8_1 hc) (zset_s _ _ _) (z8_1 hc) rfl g10 (zss eZ11) dX8_shifts_119 (fun H locs hI => ?_)
      refine lv_iload_n hx hb dX8_shifts_120 rfl (lv_at hl 2 rfl) ?_
      obtain rfl := Option.some.inj h
      exact hret _ _ _ _ dX8_shifts_121 rfl hI
    · have h := it_n h c9
      refine lv_aload_n hx hb dX8_shifts_77 rfl (lv_at hl 0 rfl) ?_
      refine g8_0 cx hI hc (zset_s _ _ _) w_108 dX8_shifts_78 ?_
      refine lv_bipush (v := (nI 6)) hx hb dX8_shifts_81 (by decide) ?_
      refine lv_iload hx hb dX8_shifts_83 (lv_at hl 4 rfl) ?_
      refine lv_iadd hx hb dX8_shifts_85 ?_
      refine lv_aload_n hx hb dX8_shifts_86 rfl (lv_at hl 0 rfl) ?_
      refine g8_0 cx hI hc (zset_s _ _ _) w_108 dX8_shifts_87 ?_
      refine lv_bipush (v := (nI 6)) hx hb dX8_shifts_90 (by decide) ?_
      refine lv_iload hx hb dX8_shifts_92 (lv_at hl 4 rfl) ?_
      refine lv_iadd hx hb dX8_shifts_94 ?_
      refine lv_iload hx hb dX8_shifts_95 (lv_at hl 3 rfl) ?_
      refine lv_iadd hx hb dX8_shifts_97 ?_
      obtain ⟨g12, h⟩ := gd_el h
      refine zr_iald cx hI (k8_1 hc) (zset_s _ _ _) (z8_1 hc) rfl g12 dX8_shifts_98 ?_
      obtain ⟨g13, h⟩ := gd_el h
      obtain ⟨Z14, eZ14⟩ : ∃ z : zOb, z = zI S 1 (((nI 6) + x5).toNatClampNeg) (S.1 1 ((((nI 6) + x5) + x4).toNatClampNeg)) := ⟨_, rfl⟩
      have h := bnd_el h eZ14
      refine zr_iast cx hI (k8_1 hc) (zset_s _ _ _) (z8_1 hc) rfl g13 (zss eZ14) dX8_shifts_99 (fun H locs hI => ?_)
      refine lv_iload hx hb dX8_shifts_100 (lv_at hl 4 rfl) ?_
      refine lv_iload hx hb dX8_shifts_102 (lv_at hl 3 rfl) ?_
      refine lv_iadd hx hb dX8_shifts_104 ?_
      refine lv_topi (fun v15 ev15 => ?_)
      have h := bnd_el h ev15
      refine lv_istore (lv' := [(5, .int v15), (0, .ref (G.2.2.1 o 0)), (2, .int x2), (3, .int x3), (4, .int x4)]) hx hb dX8_shifts_105 hl (by decide) rfl (fun ls hl => ?_)
      refine lv_goto (tgt := 71) hx hb dX8_shifts_107 (by decide) ?_
      exact ih Z14 x2 x3 x4 v15 h hI (lv_sub hl [1, 2, 3, 4, 0] rfl)
def f_Mo_shifts_66 (N : Nat)  (S : zOb) (x1 : Int32) (x2 : Int32) (x3 : Int32) (s0 : Int32) : Option (Int32 × zOb) :=
  f_Mo_shifts_71 N N S x2 x3 s0 x1
set_option maxHeartbeats 4000000 in
set_option maxRecDepth 100000 in
theorem t_Mo_shifts_66 (N : Nat) {p : Program} {l : Launch} {e : Env} {s : State} {m : MethodId} {args : Array Value} {below : List Frame} {meth : Method} {c : Code} {Q : State → Prop} {G : zG} {μ : zM} {o : Nat} (hc : o = 29) {out : (Int32 × zOb)} (cx : zCX p (zrm 1) s m args c RX8 cX8_shifts 6 1 G) (hret : zRi p l e (zrm 1) s m args below meth c cX8_shifts G .int Q out.1 (zset μ o out.2))   : ∀ (S : zOb) (x1 : Int32) (x2 : Int32) (x3 : Int32) (s0 : Int32), f_Mo_shifts_66 N S x1 x2 x3 s0 = some out → ∀ {H : Heap} {locs : List Loc} {ls : Array Slot}, zIW G s (zset μ o S) H locs → lv_has ls 6 [(0, .ref (G.2.2.1 o 0)), (1, .int x1), (2, .int x2), (3, .int x3)] → W p l e (zrm 1) s m args below meth c H locs 0 0 Q (F0 m 66 ls [.int s0]) := by
  obtain ⟨hx, hb, hml, hown, hts, hK, hR⟩ := id cx
  intro S x1 x2 x3 s0  h H locs ls hI hl
  unfold f_Mo_shifts_66 at h
  refine lv_istore (lv' := [(4, .int s0), (0, .ref (G.2.2.1 o 0)), (1, .int x1), (2, .int x2), (3, .int x3)]) hx hb dX8_shifts_66 hl (by decide) rfl (fun ls hl => ?_)
  refine lv_iload_n hx hb dX8_shifts_68 rfl (lv_at hl 2 rfl) ?_
  refine lv_istore (lv' := [(5, .int x1), (4, .int s0), (0, .ref (G.2.2.1 o 0)), (1, .int x1), (2, .int x2), (3, .int x3)]) hx hb dX8_shifts_69 hl (by decide) rfl (fun ls hl => ?_)
  exact t_Mo_shifts_71 N hc cx hret N S x2 x3 s0 x1 h hI (lv_sub hl [2, 4, 5, 1, 0] rfl)
def f_Mo_shifts (N : Nat) (S : zOb) (a1 : Int32) (a2 : Int32) : Option (Int32 × zOb) :=
  (f_Mo_in a1.toInt64 (0 : Int64) (((S.1 1 0) - (nI 1)).toInt64)).bind (fun q1 => (if q1 = nI 0 then f_Mo_shifts_36 N S else (f_Mo_in a2.toInt64 (0 : Int64) (((S.1 1 0) - (nI 1)).toInt64)).bind (fun q3 => (if q3 = nI 0 then f_Mo_shifts_36 N S else (if a1 = a2 then some ((-2 : Int32), S) else if zin ((nI 6) + a1) 27 then bnd (S.1 1 (((nI 6) + a1).toNatClampNeg)) (fun v7 => (if a2 ≤ a1 then f_Mo_shifts_66 N S a1 a2 v7 (-1 : Int32) else f_Mo_shifts_66 N S a1 a2 v7 (nI 1))) else none)))))
set_option maxHeartbeats 4000000 in
set_option maxRecDepth 100000 in
theorem c_Mo_shifts (N : Nat) {l : Launch} {G : zG} {μ : zM} {o : Nat} (hc : o = 29) {S : zOb} (hS : μ o = S) {a1 : Int32} {a2 : Int32} {out : (Int32 × zOb)} (h : f_Mo_shifts N S a1 a2 = some out) {μ' : zM} (hμ : zset μ o out.2 = μ') : zMI l G yX8_shifts cX8_shifts 6 (some .int) 1 [.ref (G.2.2.1 o 0), .int a1, .int a2] μ out.1 μ' := by
  subst hμ
  refine zMI.of (by decide) (Nat.le_of_ble_eq_true rfl) (fun p e s m args below meth c Q ls cx hI hl hret => ?_)
  obtain ⟨hx, hb, hml, hown, hts, hK, hR⟩ := id cx
  have hl : lv_has ls 6 [(0, .ref (G.2.2.1 o 0)), (1, .int a1), (2, .int a2)] := hl
  rw [← zset_idS hS] at hI
  unfold f_Mo_shifts at h
  refine lv_iload_n hx hb dX8_shifts_0 rfl (lv_at hl 1 rfl) ?_
  refine lv_i2l hx hb dX8_shifts_1 rfl ?_
  refine lv_lconst (v := (0 : Int64)) hx hb dX8_shifts_2 (by decide) ?_
  refine lv_aload_n hx hb dX8_shifts_3 rfl (lv_at hl 0 rfl) ?_
  refine g8_0 cx hI hc (zset_s _ _ _) w_108 dX8_shifts_4 ?_
  refine lv_iconst (v := (nI 0)) hx hb dX8_shifts_7 (by decide) ?_
  refine zr_iald cx hI (k8_1 hc) (zset_s _ _ _) (z8_1 hc) rfl (by decide) dX8_shifts_8 ?_
  refine lv_iconst (v := (nI 1)) hx hb dX8_shifts_9 (by decide) ?_
  refine lv_isub hx hb dX8_shifts_10 ?_
  refine lv_i2l hx hb dX8_shifts_11 rfl ?_
  obtain ⟨q1, hq1, h⟩ := bi_el h
  refine zcSi (As := [.long a1.toInt64, .long (0 : Int64), .long (((S.1 1 0) - (nI 1)).toInt64)]) cx hI (c_Mo_in  hq1) mt_yX8_in ms_yX8_in w_179 (by omega) rfl hl.1 rfl (Nat.le_of_ble_eq_true rfl) dX8_shifts_12 (fun H locs hI => ?_)
  refine lv_if_eq (tgt := 36) hx hb dX8_shifts_15 (by decide) (fun c2 => ?_) (fun c2 => ?_)
  · have h := it_p h c2
    exact t_Mo_shifts_36 N hc cx hret S h hI (lv_sub hl [] rfl)
  · have h := it_n h c2
    refine lv_iload_n hx hb dX8_shifts_18 rfl (lv_at hl 2 rfl) ?_
    refine lv_i2l hx hb dX8_shifts_19 rfl ?_
    refine lv_lconst (v := (0 : Int64)) hx hb dX8_shifts_20 (by decide) ?_
    refine lv_aload_n hx hb dX8_shifts_21 rfl (lv_at hl 0 rfl) ?_
    refine g8_0 cx hI hc (zset_s _ _ _) w_108 dX8_shifts_22 ?_
    refine lv_iconst (v := (nI 0)) hx hb dX8_shifts_25 (by decide) ?_
    refine zr_iald cx hI (k8_1 hc) (zset_s _ _ _) (z8_1 hc) rfl (by decide) dX8_shifts_26 ?_
    refine lv_iconst (v := (nI 1)) hx hb dX8_shifts_27 (by decide) ?_
    refine lv_isub hx hb dX8_shifts_28 ?_
    refine lv_i2l hx hb dX8_shifts_29 rfl ?_
    obtain ⟨q3, hq3, h⟩ := bi_el h
    refine zcSi (As := [.long a2.toInt64, .long (0 : Int64), .long (((S.1 1 0) - (nI 1)).toInt64)]) cx hI (c_Mo_in  hq3) mt_yX8_in ms_yX8_in w_179 (by omega) rfl hl.1 rfl (Nat.le_of_ble_eq_true rfl) dX8_shifts_30 (fun H locs hI => ?_)
    refine lv_if_ne (tgt := 38) hx hb dX8_shifts_33 (by decide) (fun c4 => ?_) (fun c4 => ?_)
    · have h := it_n h c4
      refine lv_iload_n hx hb dX8_shifts_38 rfl (lv_at hl 1 rfl) ?_
      refine lv_iload_n hx hb dX8_shifts_39 rfl (lv_at hl 2 rfl) ?_
      refine lv_icmp_ne (tgt := 46) hx hb dX8_shifts_40 (by decide) (fun c5 => ?_) (fun c5 => ?_)
      · have h := it_n h c5
        refine lv_aload_n hx hb dX8_shifts_46 rfl (lv_at hl 0 rfl) ?_
        refine g8_0 cx hI hc (zset_s _ _ _) w_108 dX8_shifts_47 ?_
        refine lv_bipush (v := (nI 6)) hx hb dX8_shifts_50 (by decide) ?_
        refine lv_iload_n hx hb dX8_shifts_52 rfl (lv_at hl 1 rfl) ?_
        refine lv_iadd hx hb dX8_shifts_53 ?_
        obtain ⟨g6, h⟩ := gd_el h
        refine zr_iald cx hI (k8_1 hc) (zset_s _ _ _) (z8_1 hc) rfl g6 dX8_shifts_54 ?_
        refine lv_topi (fun v7 ev7 => ?_)
        have h := bnd_el h ev7
        refine lv_istore_n (lv' := [(3, .int v7), (0, .ref (G.2.2.1 o 0)), (1, .int a1), (2, .int a2)]) hx hb dX8_shifts_55 rfl hl (by decide) rfl (fun ls hl => ?_)
        refine lv_iload_n hx hb dX8_shifts_56 rfl (lv_at hl 2 rfl) ?_
        refine lv_iload_n hx hb dX8_shifts_57 rfl (lv_at hl 3 rfl) ?_
        refine lv_icmp_ge (tgt := 65) hx hb dX8_shifts_58 (by decide) (fun c8 => ?_) (fun c8 => ?_)
        · have h := it_p h c8
          refine lv_iconst (v := (-1 : Int32)) hx hb dX8_shifts_65 (by decide) ?_
          exact t_Mo_shifts_66 N hc cx hret S a1 a2 v7 (-1 : Int32) h hI (lv_sub hl [1, 2, 3, 0] rfl)
        · have h := it_n h c8
          refine lv_iconst (v := (nI 1)) hx hb dX8_shifts_61 (by decide) ?_
          refine lv_goto (tgt := 66) hx hb dX8_shifts_62 (by decide) ?_
          exact t_Mo_shifts_66 N hc cx hret S a1 a2 v7 (nI 1) h hI (lv_sub hl [1, 2, 3, 0] rfl)
      · have h := it_p h c5
        refine lv_bipush (v := (-2 : Int32)) hx hb dX8_shifts_43 (by decide) ?_
        obtain rfl := Option.some.inj h
        exact hret _ _ _ _ dX8_shifts_45 rfl hI
    · have h := it_p h c4
      exact t_Mo_shifts_36 N hc cx hret S h hI (lv_sub hl [] rfl)
def f_Mo_settles_62 (N : Nat)  (S : zOb) : Option (Int32 × zOb) :=
  some ((-2 : Int32), S)
set_option maxHeartbeats 4000000 in
set_option maxRecDepth 100000 in
theorem t_Mo_settles_62 (N : Nat) {p : Program} {l : Launch} {e : Env} {s : State} {m : MethodId} {args : Array Value} {below : List Frame} {meth : Method} {c : Code} {Q : State → Prop} {G : zG} {μ : zM} {o : Nat} (hc : o = 29) {out : (Int32 × zOb)} (cx : zCX p (zrm 4) s m args c RX8 cX8_settles 6 4 G) (hret : zRi p l e (zrm 4) s m args below meth c cX8_settles G .int Q out.1 (zset μ o out.2))   : ∀ (S : zOb), f_Mo_settles_62 N S = some out → ∀ {H : Heap} {locs : List Loc} {ls : Array Slot}, zIW G s (zset μ o S) H locs → lv_has ls 6 [] → W p l e (zrm 4) s m args below meth c H locs 0 0 Q (F0 m 62 ls []) := by
  obtain ⟨hx, hb, hml, hown, hts, hK, hR⟩ := id cx
  intro S  h H locs ls hI hl
  unfold f_Mo_settles_62 at h
  refine lv_bipush (v := (-2 : Int32)) hx hb dX8_settles_62 (by decide) ?_
  obtain rfl := Option.some.inj h
  exact hret _ _ _ _ dX8_settles_64 rfl hI
def f_Mo_settles_78 (N : Nat)  : Nat → zOb → Int32 → Int32 → Int32 → Option (Int32 × zOb)
  | 0, _, _, _, _ => none
  | n + 1, S, x3, x4, x5 => (if x5 < nI 0 then some (x3, S) else if zin ((nI 6) + x5) 27 then bnd (zI S 1 (((nI 6) + x5).toNatClampNeg) (x4 - x4 / (nI 10) * (nI 10))) (fun Z13 => bnd (x4 / (nI 10)) (fun v14 => bnd (x5 + (-1 : Int32)) (fun v15 => f_Mo_settles_78 N n Z13 x3 v14 v15))) else none)
set_option maxHeartbeats 4000000 in
set_option maxRecDepth 100000 in
theorem t_Mo_settles_78 (N : Nat) {p : Program} {l : Launch} {e : Env} {s : State} {m : MethodId} {args : Array Value} {below : List Frame} {meth : Method} {c : Code} {Q : State → Prop} {G : zG} {μ : zM} {o : Nat} (hc : o = 29) {out : (Int32 × zOb)} (cx : zCX p (zrm 4) s m args c RX8 cX8_settles 6 4 G) (hret : zRi p l e (zrm 4) s m args below meth c cX8_settles G .int Q out.1 (zset μ o out.2))   : ∀ (n : Nat) (S : zOb) (x3 : Int32) (x4 : Int32) (x5 : Int32), f_Mo_settles_78 N n S x3 x4 x5 = some out → ∀ {H : Heap} {locs : List Loc} {ls : Array Slot}, zIW G s (zset μ o S) H locs → lv_has ls 6 [(0, .ref (G.2.2.1 o 0)), (3, .int x3), (4, .int x4), (5, .int x5)] → W p l e (zrm 4) s m args below meth c H locs 0 0 Q (F0 m 78 ls []) := by
  obtain ⟨hx, hb, hml, hown, hts, hK, hR⟩ := id cx
  intro n
  induction n with
  | zero =>
    intro S x3 x4 x5  h
    cases h
  | succ n ih =>
    intro S x3 x4 x5  h H locs ls hI hl
    rw [f_Mo_settles_78] at h
    refine lv_iload hx hb dX8_settles_78 (lv_at hl 3 rfl) ?_
    refine lv_if_lt (tgt := 111) hx hb dX8_settles_80 (by decide) (fun c11 => ?_) (fun c11 => ?_)
    · have h := it_p h c11
      refine lv_iload_n hx hb dX8_settles_111 rfl (lv_at hl 1 rfl) ?_
      obtain rfl := Option.some.inj h
      exact hret _ _ _ _ dX8_settles_112 rfl hI
    · have h := it_n h c11
      refine lv_aload_n hx hb dX8_settles_83 rfl (lv_at hl 0 rfl) ?_
      refine g8_0 cx hI hc (zset_s _ _ _) w_108 dX8_settles_84 ?_
      refine lv_bipush (v := (nI 6)) hx hb dX8_settles_87 (by decide) ?_
      refine lv_iload hx hb dX8_settles_89 (lv_at hl 3 rfl) ?_
      refine lv_iadd hx hb dX8_settles_91 ?_
      refine lv_iload hx hb dX8_settles_92 (lv_at hl 2 rfl) ?_
      refine lv_bipush (v := (nI 10)) hx hb dX8_settles_94 (by decide) ?_
      refine lv_irem hx hb dX8_settles_96 (by decide) ?_
      obtain ⟨g12, h⟩ := gd_el h
      obtain ⟨Z13, eZ13⟩ : ∃ z : zOb, z = zI S 1 (((nI 6) + x5).toNatClampNeg) (x4 - x4 / (nI 10) * (nI 10)) := ⟨_, rfl⟩
      have h := bnd_el h eZ13
      refine zr_iast cx hI (k8_1 hc) (zset_s _ _ _) (z8_1 hc) rfl g12 (zss eZ13) dX8_settles_97 (fun H locs hI => ?_)
      refine lv_iload hx hb dX8_settles_98 (lv_at hl 2 rfl) ?_
      refine lv_bipush (v := (nI 10)) hx hb dX8_settles_100 (by decide) ?_
      refine lv_idiv hx hb dX8_settles_102 (by decide) ?_
      refine lv_topi (fun v14 ev14 => ?_)
      have h := bnd_el h ev14
      refine lv_istore (lv' := [(4, .int v14), (0, .ref (G.2.2.1 o 0)), (3, .int x3), (5, .int x5)]) hx hb dX8_settles_103 hl (by decide) rfl (fun ls hl => ?_)
      obtain ⟨v15, ev15⟩ : ∃ z : Int32, z = x5 + (-1 : Int32) := ⟨_, rfl⟩
      have h := bnd_el h ev15
      refine lv_iinc (v := v15) (lv' := [(5, .int v15), (4, .int v14), (0, .ref (G.2.2.1 o 0)), (3, .int x3)]) hx hb dX8_settles_105 hl (k := 3) rfl (by rw [ev15]; rfl) (by decide) rfl (fun ls hl => ?_)
      refine lv_goto (tgt := 78) hx hb dX8_settles_108 (by decide) ?_
      exact ih Z13 x3 v14 v15 h hI (lv_sub hl [2, 3, 1, 0] rfl)
def f_Mo_settles_48 (N : Nat)  (S : zOb) (x2 : Int32) (x3 : Int32) : Option (Int32 × zOb) :=
  (if (S.1 1 0) = nI 0 then f_Mo_settles_62 N S else (if x3 = x2 then f_Mo_settles_62 N S else bnd ((S.1 1 0) - (nI 1)) (fun v10 => f_Mo_settles_78 N N S x3 x3 v10)))
set_option maxHeartbeats 4000000 in
set_option maxRecDepth 100000 in
theorem t_Mo_settles_48 (N : Nat) {p : Program} {l : Launch} {e : Env} {s : State} {m : MethodId} {args : Array Value} {below : List Frame} {meth : Method} {c : Code} {Q : State → Prop} {G : zG} {μ : zM} {o : Nat} (hc : o = 29) {out : (Int32 × zOb)} (cx : zCX p (zrm 4) s m args c RX8 cX8_settles 6 4 G) (hret : zRi p l e (zrm 4) s m args below meth c cX8_settles G .int Q out.1 (zset μ o out.2))   : ∀ (S : zOb) (x2 : Int32) (x3 : Int32), f_Mo_settles_48 N S x2 x3 = some out → ∀ {H : Heap} {locs : List Loc} {ls : Array Slot}, zIW G s (zset μ o S) H locs → lv_has ls 6 [(0, .ref (G.2.2.1 o 0)), (2, .int x2), (3, .int x3)] → W p l e (zrm 4) s m args below meth c H locs 0 0 Q (F0 m 48 ls []) := by
  obtain ⟨hx, hb, hml, hown, hts, hK, hR⟩ := id cx
  intro S x2 x3  h H locs ls hI hl
  unfold f_Mo_settles_48 at h
  refine lv_aload_n hx hb dX8_settles_48 rfl (lv_at hl 0 rfl) ?_
  refine g8_0 cx hI hc (zset_s _ _ _) w_108 dX8_settles_49 ?_
  refine lv_iconst (v := (nI 0)) hx hb dX8_settles_52 (by decide) ?_
  refine zr_iald cx hI (k8_1 hc) (zset_s _ _ _) (z8_1 hc) rfl (by decide) dX8_settles_53 ?_
  refine lv_if_eq (tgt := 62) hx hb dX8_settles_54 (by decide) (fun c8 => ?_) (fun c8 => ?_)
  · have h := it_p h c8
    exact t_Mo_settles_62 N hc cx hret S h hI (lv_sub hl [] rfl)
  · have h := it_n h c8
    refine lv_iload_n hx hb dX8_settles_57 rfl (lv_at hl 2 rfl) ?_
    refine lv_iload_n hx hb dX8_settles_58 rfl (lv_at hl 1 rfl) ?_
    refine lv_icmp_ne (tgt := 65) hx hb dX8_settles_59 (by decide) (fun c9 => ?_) (fun c9 => ?_)
    · have h := it_n h c9
      refine lv_iload_n hx hb dX8_settles_65 rfl (lv_at hl 2 rfl) ?_
      refine lv_istore (lv' := [(4, .int x3), (0, .ref (G.2.2.1 o 0)), (2, .int x2), (3, .int x3)]) hx hb dX8_settles_66 hl (by decide) rfl (fun ls hl => ?_)
      refine lv_aload_n hx hb dX8_settles_68 rfl (lv_at hl 1 rfl) ?_
      refine g8_0 cx hI hc (zset_s _ _ _) w_108 dX8_settles_69 ?_
      refine lv_iconst (v := (nI 0)) hx hb dX8_settles_72 (by decide) ?_
      refine zr_iald cx hI (k8_1 hc) (zset_s _ _ _) (z8_1 hc) rfl (by decide) dX8_settles_73 ?_
      refine lv_iconst (v := (nI 1)) hx hb dX8_settles_74 (by decide) ?_
      refine lv_isub hx hb dX8_settles_75 ?_
      refine lv_topi (fun v10 ev10 => ?_)
      have h := bnd_el h ev10
      refine lv_istore (lv' := [(5, .int v10), (4, .int x3), (0, .ref (G.2.2.1 o 0)), (2, .int x2), (3, .int x3)]) hx hb dX8_settles_76 hl (by decide) rfl (fun ls hl => ?_)
      exact t_Mo_settles_78 N hc cx hret N S x3 x3 v10 h hI (lv_sub hl [2, 4, 1, 0] rfl)
    · have h := it_p h c9
      exact t_Mo_settles_62 N hc cx hret S h hI (lv_sub hl [] rfl)
def f_Mo_settles (N : Nat) (S : zOb) (a1 : Int32) : Option (Int32 × zOb) :=
  (f_Mo_in a1.toInt64 (0 : Int64) (1 : Int64)).bind (fun q1 => (if q1 = nI 0 then some ((-1 : Int32), S) else (f_Mo_takesOrder N S).bind (fun q3 => (f_Mo_number N q3).bind (fun q4 => (if a1 = nI 0 then (f_Mo_laysBest N q3).bind (fun q16 => bnd (q16.1 0 19) (fun v17 => f_Mo_settles_48 N q16 q4 v17)) else (f_Mo_grows N q3).bind (fun q6 => (f_Mo_number N q6).bind (fun q7 => f_Mo_settles_48 N q6 q4 q7)))))))
set_option maxHeartbeats 4000000 in
set_option maxRecDepth 100000 in
theorem c_Mo_settles (N : Nat) {l : Launch} {G : zG} {μ : zM} {o : Nat} (hc : o = 29) {S : zOb} (hS : μ o = S) {a1 : Int32} {out : (Int32 × zOb)} (h : f_Mo_settles N S a1 = some out) {μ' : zM} (hμ : zset μ o out.2 = μ') : zMI l G yX8_settles cX8_settles 6 (some .int) 4 [.ref (G.2.2.1 o 0), .int a1] μ out.1 μ' := by
  subst hμ
  refine zMI.of (by decide) (Nat.le_of_ble_eq_true rfl) (fun p e s m args below meth c Q ls cx hI hl hret => ?_)
  obtain ⟨hx, hb, hml, hown, hts, hK, hR⟩ := id cx
  have hl : lv_has ls 6 [(0, .ref (G.2.2.1 o 0)), (1, .int a1)] := hl
  rw [← zset_idS hS] at hI
  unfold f_Mo_settles at h
  refine lv_iload_n hx hb dX8_settles_0 rfl (lv_at hl 1 rfl) ?_
  refine lv_i2l hx hb dX8_settles_1 rfl ?_
  refine lv_lconst (v := (0 : Int64)) hx hb dX8_settles_2 (by decide) ?_
  refine lv_lconst (v := (1 : Int64)) hx hb dX8_settles_3 (by decide) ?_
  obtain ⟨q1, hq1, h⟩ := bi_el h
  refine zcSi (As := [.long a1.toInt64, .long (0 : Int64), .long (1 : Int64)]) cx hI (c_Mo_in  hq1) mt_yX8_in ms_yX8_in w_179 (by omega) rfl hl.1 rfl (Nat.le_of_ble_eq_true rfl) dX8_settles_4 (fun H locs hI => ?_)
  refine lv_if_ne (tgt := 12) hx hb dX8_settles_7 (by decide) (fun c2 => ?_) (fun c2 => ?_)
  · have h := it_n h c2
    refine lv_aload_n hx hb dX8_settles_12 rfl (lv_at hl 0 rfl) ?_
    obtain ⟨q3, hq3, h⟩ := bi_el h
    refine zcVv (As := []) cx hI (c_Mo_takesOrder N hc (zset_s _ _ _) hq3 (zset_ss _ _ _ _)) mt_yX8_takesOrder mv_yX8_takesOrder w_470 (by omega) (k8_0 hc) (zv8 hc) rfl hl.1 rfl (Nat.le_of_ble_eq_true rfl) dX8_settles_13 (fun H locs hI => ?_)
    refine lv_aload_n hx hb dX8_settles_16 rfl (lv_at hl 0 rfl) ?_
    obtain ⟨q4, hq4, h⟩ := bi_el h
    refine zcVi (As := []) cx hI (c_Mo_number N hc (zset_s _ _ _) hq4) mt_yX8_number mv_yX8_number w_474 (by omega) (k8_0 hc) (zv8 hc) rfl hl.1 rfl (Nat.le_of_ble_eq_true rfl) dX8_settles_17 (fun H locs hI => ?_)
    refine lv_istore_n (lv' := [(2, .int q4), (0, .ref (G.2.2.1 o 0)), (1, .int a1)]) hx hb dX8_settles_20 rfl hl (by decide) rfl (fun ls hl => ?_)
    refine lv_iload_n hx hb dX8_settles_21 rfl (lv_at hl 0 rfl) ?_
    refine lv_istore_n (lv' := [(3, .int q4), (2, .int q4), (0, .ref (G.2.2.1 o 0)), (1, .int a1)]) hx hb dX8_settles_22 rfl hl (by decide) rfl (fun ls hl => ?_)
    refine lv_iload_n hx hb dX8_settles_23 rfl (lv_at hl 3 rfl) ?_
    refine lv_if_ne (tgt := 39) hx hb dX8_settles_24 (by decide) (fun c5 => ?_) (fun c5 => ?_)
    · have h := it_n h c5
      refine lv_aload_n hx hb dX8_settles_39 rfl (lv_at hl 2 rfl) ?_
      obtain ⟨q6, hq6, h⟩ := bi_el h
      refine zcVv (As := []) cx hI (c_Mo_grows N hc (zset_s _ _ _) hq6 (zset_ss _ _ _ _)) mt_yX8_grows mv_yX8_grows w_527 (by omega) (k8_0 hc) (zv8 hc) rfl hl.1 rfl (Nat.le_of_ble_eq_true rfl) dX8_settles_40 (fun H locs hI => ?_)
      refine lv_aload_n hx hb dX8_settles_43 rfl (lv_at hl 2 rfl) ?_
      obtain ⟨q7, hq7, h⟩ := bi_el h
      refine zcVi (As := []) cx hI (c_Mo_number N hc (zset_s _ _ _) hq7) mt_yX8_number mv_yX8_number w_474 (by omega) (k8_0 hc) (zv8 hc) rfl hl.1 rfl (Nat.le_of_ble_eq_true rfl) dX8_settles_44 (fun H locs hI => ?_)
      refine lv_istore_n (lv' := [(3, .int q7), (2, .int q4), (0, .ref (G.2.2.1 o 0)), (1, .int a1)]) hx hb dX8_settles_47 rfl hl (by decide) rfl (fun ls hl => ?_)
      exact t_Mo_settles_48 N hc cx hret q6 q4 q7 h hI (lv_sub hl [2, 1, 0] rfl)
    · have h := it_p h c5
      refine lv_aload_n hx hb dX8_settles_27 rfl (lv_at hl 2 rfl) ?_
      obtain ⟨q16, hq16, h⟩ := bi_el h
      refine zcVv (As := []) cx hI (c_Mo_laysBest N hc (zset_s _ _ _) hq16 (zset_ss _ _ _ _)) mt_yX8_laysBest mv_yX8_laysBest w_478 (by omega) (k8_0 hc) (zv8 hc) rfl hl.1 rfl (Nat.le_of_ble_eq_true rfl) dX8_settles_28 (fun H locs hI => ?_)
      refine lv_aload_n hx hb dX8_settles_31 rfl (lv_at hl 2 rfl) ?_
      refine g8_19 cx hI hc (zset_s _ _ _) w_469 dX8_settles_32 ?_
      refine lv_topi (fun v17 ev17 => ?_)
      have h := bnd_el h ev17
      refine lv_istore_n (lv' := [(3, .int v17), (2, .int q4), (0, .ref (G.2.2.1 o 0)), (1, .int a1)]) hx hb dX8_settles_35 rfl hl (by decide) rfl (fun ls hl => ?_)
      refine lv_goto (tgt := 48) hx hb dX8_settles_36 (by decide) ?_
      exact t_Mo_settles_48 N hc cx hret q16 q4 v17 h hI (lv_sub hl [2, 1, 0] rfl)
  · have h := it_p h c2
    refine lv_iconst (v := (-1 : Int32)) hx hb dX8_settles_10 (by decide) ?_
    obtain rfl := Option.some.inj h
    exact hret _ _ _ _ dX8_settles_11 rfl hI
def f_Mo_book (N : Nat) (S : zOb) (a1 : Int32) : Option (Int32 × zOb) :=
  (f_Mo_holds N S).bind (fun q1 => (f_Mo_adds q1 a1).bind (fun q2 => (f_Mo_acted N q2.2 q2.1).bind (fun q3 => some (q3.1, q3.2))))
set_option maxHeartbeats 4000000 in
set_option maxRecDepth 100000 in
theorem c_Mo_book (N : Nat) {l : Launch} {G : zG} {μ : zM} {o : Nat} (hc : o = 29) {S : zOb} (hS : μ o = S) {a1 : Int32} {out : (Int32 × zOb)} (h : f_Mo_book N S a1 = some out) {μ' : zM} (hμ : zset μ o out.2 = μ') : zMI l G yX8_book cX8_book 2 (some .int) 3 [.ref (G.2.2.1 o 0), .int a1] μ out.1 μ' := by
  subst hμ
  refine zMI.of (by decide) (Nat.le_of_ble_eq_true rfl) (fun p e s m args below meth c Q ls cx hI hl hret => ?_)
  obtain ⟨hx, hb, hml, hown, hts, hK, hR⟩ := id cx
  have hl : lv_has ls 2 [(0, .ref (G.2.2.1 o 0)), (1, .int a1)] := hl
  rw [← zset_idS hS] at hI
  unfold f_Mo_book at h
  refine lv_aload_n hx hb dX8_book_0 rfl (lv_at hl 0 rfl) ?_
  obtain ⟨q1, hq1, h⟩ := bi_el h
  refine zcVv (As := []) cx hI (c_Mo_holds N hc (zset_s _ _ _) hq1 (zset_ss _ _ _ _)) mt_yX8_holds mv_yX8_holds w_167 (by omega) (k8_0 hc) (zv8 hc) rfl hl.1 rfl (Nat.le_of_ble_eq_true rfl) dX8_book_1 (fun H locs hI => ?_)
  refine lv_aload_n hx hb dX8_book_4 rfl (lv_at hl 0 rfl) ?_
  refine lv_aload_n hx hb dX8_book_5 rfl (lv_at hl 0 rfl) ?_
  refine lv_iload_n hx hb dX8_book_6 rfl (lv_at hl 1 rfl) ?_
  obtain ⟨q2, hq2, h⟩ := bi_el h
  refine zcVi (As := [.int a1]) cx hI (c_Mo_adds hc (zset_s _ _ _) hq2 (zset_ss _ _ _ _)) mt_yX8_adds mv_yX8_adds w_171 (by omega) (k8_0 hc) (zv8 hc) rfl hl.1 rfl (Nat.le_of_ble_eq_true rfl) dX8_book_7 (fun H locs hI => ?_)
  obtain ⟨q3, hq3, h⟩ := bi_el h
  refine zcVi (As := [.int q2.1]) cx hI (c_Mo_acted N hc (zset_s _ _ _) hq3 (zset_ss _ _ _ _)) mt_yX8_acted mv_yX8_acted w_182 (by omega) (k8_0 hc) (zv8 hc) rfl hl.1 rfl (Nat.le_of_ble_eq_true rfl) dX8_book_10 (fun H locs hI => ?_)
  obtain rfl := Option.some.inj h
  exact hret _ _ _ _ dX8_book_13 rfl hI
def f_Mo_words (N : Nat) (S : zOb) (a1 : Int32) (a2 : Int32) : Option (Int32 × zOb) :=
  (f_Mo_holds N S).bind (fun q1 => (f_Mo_changes q1 a1 a2).bind (fun q2 => (f_Mo_acted N q2.2 q2.1).bind (fun q3 => some (q3.1, q3.2))))
set_option maxHeartbeats 4000000 in
set_option maxRecDepth 100000 in
theorem c_Mo_words (N : Nat) {l : Launch} {G : zG} {μ : zM} {o : Nat} (hc : o = 29) {S : zOb} (hS : μ o = S) {a1 : Int32} {a2 : Int32} {out : (Int32 × zOb)} (h : f_Mo_words N S a1 a2 = some out) {μ' : zM} (hμ : zset μ o out.2 = μ') : zMI l G yX8_words cX8_words 3 (some .int) 3 [.ref (G.2.2.1 o 0), .int a1, .int a2] μ out.1 μ' := by
  subst hμ
  refine zMI.of (by decide) (Nat.le_of_ble_eq_true rfl) (fun p e s m args below meth c Q ls cx hI hl hret => ?_)
  obtain ⟨hx, hb, hml, hown, hts, hK, hR⟩ := id cx
  have hl : lv_has ls 3 [(0, .ref (G.2.2.1 o 0)), (1, .int a1), (2, .int a2)] := hl
  rw [← zset_idS hS] at hI
  unfold f_Mo_words at h
  refine lv_aload_n hx hb dX8_words_0 rfl (lv_at hl 0 rfl) ?_
  obtain ⟨q1, hq1, h⟩ := bi_el h
  refine zcVv (As := []) cx hI (c_Mo_holds N hc (zset_s _ _ _) hq1 (zset_ss _ _ _ _)) mt_yX8_holds mv_yX8_holds w_167 (by omega) (k8_0 hc) (zv8 hc) rfl hl.1 rfl (Nat.le_of_ble_eq_true rfl) dX8_words_1 (fun H locs hI => ?_)
  refine lv_aload_n hx hb dX8_words_4 rfl (lv_at hl 0 rfl) ?_
  refine lv_aload_n hx hb dX8_words_5 rfl (lv_at hl 0 rfl) ?_
  refine lv_iload_n hx hb dX8_words_6 rfl (lv_at hl 1 rfl) ?_
  refine lv_iload_n hx hb dX8_words_7 rfl (lv_at hl 2 rfl) ?_
  obtain ⟨q2, hq2, h⟩ := bi_el h
  refine zcVi (As := [.int a1, .int a2]) cx hI (c_Mo_changes hc (zset_s _ _ _) hq2 (zset_ss _ _ _ _)) mt_yX8_changes mv_yX8_changes w_207 (by omega) (k8_0 hc) (zv8 hc) rfl hl.1 rfl (Nat.le_of_ble_eq_true rfl) dX8_words_8 (fun H locs hI => ?_)
  obtain ⟨q3, hq3, h⟩ := bi_el h
  refine zcVi (As := [.int q2.1]) cx hI (c_Mo_acted N hc (zset_s _ _ _) hq3 (zset_ss _ _ _ _)) mt_yX8_acted mv_yX8_acted w_182 (by omega) (k8_0 hc) (zv8 hc) rfl hl.1 rfl (Nat.le_of_ble_eq_true rfl) dX8_words_11 (fun H locs hI => ?_)
  obtain rfl := Option.some.inj h
  exact hret _ _ _ _ dX8_words_14 rfl hI
def f_Mo_lose (N : Nat) (S : zOb) (a1 : Int32) : Option (Int32 × zOb) :=
  (f_Mo_holds N S).bind (fun q1 => (f_Mo_loses N q1 a1).bind (fun q2 => (f_Mo_acted N q2.2 q2.1).bind (fun q3 => some (q3.1, q3.2))))
set_option maxHeartbeats 4000000 in
set_option maxRecDepth 100000 in
theorem c_Mo_lose (N : Nat) {l : Launch} {G : zG} {μ : zM} {o : Nat} (hc : o = 29) {S : zOb} (hS : μ o = S) {a1 : Int32} {out : (Int32 × zOb)} (h : f_Mo_lose N S a1 = some out) {μ' : zM} (hμ : zset μ o out.2 = μ') : zMI l G yX8_lose cX8_lose 2 (some .int) 3 [.ref (G.2.2.1 o 0), .int a1] μ out.1 μ' := by
  subst hμ
  refine zMI.of (by decide) (Nat.le_of_ble_eq_true rfl) (fun p e s m args below meth c Q ls cx hI hl hret => ?_)
  obtain ⟨hx, hb, hml, hown, hts, hK, hR⟩ := id cx
  have hl : lv_has ls 2 [(0, .ref (G.2.2.1 o 0)), (1, .int a1)] := hl
  rw [← zset_idS hS] at hI
  unfold f_Mo_lose at h
  refine lv_aload_n hx hb dX8_lose_0 rfl (lv_at hl 0 rfl) ?_
  obtain ⟨q1, hq1, h⟩ := bi_el h
  refine zcVv (As := []) cx hI (c_Mo_holds N hc (zset_s _ _ _) hq1 (zset_ss _ _ _ _)) mt_yX8_holds mv_yX8_holds w_167 (by omega) (k8_0 hc) (zv8 hc) rfl hl.1 rfl (Nat.le_of_ble_eq_true rfl) dX8_lose_1 (fun H locs hI => ?_)
  refine lv_aload_n hx hb dX8_lose_4 rfl (lv_at hl 0 rfl) ?_
  refine lv_aload_n hx hb dX8_lose_5 rfl (lv_at hl 0 rfl) ?_
  refine lv_iload_n hx hb dX8_lose_6 rfl (lv_at hl 1 rfl) ?_
  obtain ⟨q2, hq2, h⟩ := bi_el h
  refine zcVi (As := [.int a1]) cx hI (c_Mo_loses N hc (zset_s _ _ _) hq2 (zset_ss _ _ _ _)) mt_yX8_loses mv_yX8_loses w_242 (by omega) (k8_0 hc) (zv8 hc) rfl hl.1 rfl (Nat.le_of_ble_eq_true rfl) dX8_lose_7 (fun H locs hI => ?_)
  obtain ⟨q3, hq3, h⟩ := bi_el h
  refine zcVi (As := [.int q2.1]) cx hI (c_Mo_acted N hc (zset_s _ _ _) hq3 (zset_ss _ _ _ _)) mt_yX8_acted mv_yX8_acted w_182 (by omega) (k8_0 hc) (zv8 hc) rfl hl.1 rfl (Nat.le_of_ble_eq_true rfl) dX8_lose_10 (fun H locs hI => ?_)
  obtain rfl := Option.some.inj h
  exact hret _ _ _ _ dX8_lose_13 rfl hI
def f_Mo_ahead (N : Nat) (S : zOb) (a1 : Int32) (a2 : Int32) : Option (Int32 × zOb) :=
  (f_Mo_holds N S).bind (fun q1 => (f_Mo_puts N q1 a1 a2).bind (fun q2 => (f_Mo_acted N q2.2 q2.1).bind (fun q3 => some (q3.1, q3.2))))
set_option maxHeartbeats 4000000 in
set_option maxRecDepth 100000 in
theorem c_Mo_ahead (N : Nat) {l : Launch} {G : zG} {μ : zM} {o : Nat} (hc : o = 29) {S : zOb} (hS : μ o = S) {a1 : Int32} {a2 : Int32} {out : (Int32 × zOb)} (h : f_Mo_ahead N S a1 a2 = some out) {μ' : zM} (hμ : zset μ o out.2 = μ') : zMI l G yX8_ahead cX8_ahead 3 (some .int) 3 [.ref (G.2.2.1 o 0), .int a1, .int a2] μ out.1 μ' := by
  subst hμ
  refine zMI.of (by decide) (Nat.le_of_ble_eq_true rfl) (fun p e s m args below meth c Q ls cx hI hl hret => ?_)
  obtain ⟨hx, hb, hml, hown, hts, hK, hR⟩ := id cx
  have hl : lv_has ls 3 [(0, .ref (G.2.2.1 o 0)), (1, .int a1), (2, .int a2)] := hl
  rw [← zset_idS hS] at hI
  unfold f_Mo_ahead at h
  refine lv_aload_n hx hb dX8_ahead_0 rfl (lv_at hl 0 rfl) ?_
  obtain ⟨q1, hq1, h⟩ := bi_el h
  refine zcVv (As := []) cx hI (c_Mo_holds N hc (zset_s _ _ _) hq1 (zset_ss _ _ _ _)) mt_yX8_holds mv_yX8_holds w_167 (by omega) (k8_0 hc) (zv8 hc) rfl hl.1 rfl (Nat.le_of_ble_eq_true rfl) dX8_ahead_1 (fun H locs hI => ?_)
  refine lv_aload_n hx hb dX8_ahead_4 rfl (lv_at hl 0 rfl) ?_
  refine lv_aload_n hx hb dX8_ahead_5 rfl (lv_at hl 0 rfl) ?_
  refine lv_iload_n hx hb dX8_ahead_6 rfl (lv_at hl 1 rfl) ?_
  refine lv_iload_n hx hb dX8_ahead_7 rfl (lv_at hl 2 rfl) ?_
  obtain ⟨q2, hq2, h⟩ := bi_el h
  refine zcVi (As := [.int a1, .int a2]) cx hI (c_Mo_puts N hc (zset_s _ _ _) hq2 (zset_ss _ _ _ _)) mt_yX8_puts mv_yX8_puts w_271 (by omega) (k8_0 hc) (zv8 hc) rfl hl.1 rfl (Nat.le_of_ble_eq_true rfl) dX8_ahead_8 (fun H locs hI => ?_)
  obtain ⟨q3, hq3, h⟩ := bi_el h
  refine zcVi (As := [.int q2.1]) cx hI (c_Mo_acted N hc (zset_s _ _ _) hq3 (zset_ss _ _ _ _)) mt_yX8_acted mv_yX8_acted w_182 (by omega) (k8_0 hc) (zv8 hc) rfl hl.1 rfl (Nat.le_of_ble_eq_true rfl) dX8_ahead_11 (fun H locs hI => ?_)
  obtain rfl := Option.some.inj h
  exact hret _ _ _ _ dX8_ahead_14 rfl hI
def f_Mo_prior (N : Nat) (S : zOb) (a1 : Int32) : Option (Int32 × zOb) :=
  (f_Mo_holds N S).bind (fun q1 => (f_Mo_sets q1 a1).bind (fun q2 => (f_Mo_acted N q2.2 q2.1).bind (fun q3 => some (q3.1, q3.2))))
set_option maxHeartbeats 4000000 in
set_option maxRecDepth 100000 in
theorem c_Mo_prior (N : Nat) {l : Launch} {G : zG} {μ : zM} {o : Nat} (hc : o = 29) {S : zOb} (hS : μ o = S) {a1 : Int32} {out : (Int32 × zOb)} (h : f_Mo_prior N S a1 = some out) {μ' : zM} (hμ : zset μ o out.2 = μ') : zMI l G yX8_prior cX8_prior 2 (some .int) 3 [.ref (G.2.2.1 o 0), .int a1] μ out.1 μ' := by
  subst hμ
  refine zMI.of (by decide) (Nat.le_of_ble_eq_true rfl) (fun p e s m args below meth c Q ls cx hI hl hret => ?_)
  obtain ⟨hx, hb, hml, hown, hts, hK, hR⟩ := id cx
  have hl : lv_has ls 2 [(0, .ref (G.2.2.1 o 0)), (1, .int a1)] := hl
  rw [← zset_idS hS] at hI
  unfold f_Mo_prior at h
  refine lv_aload_n hx hb dX8_prior_0 rfl (lv_at hl 0 rfl) ?_
  obtain ⟨q1, hq1, h⟩ := bi_el h
  refine zcVv (As := []) cx hI (c_Mo_holds N hc (zset_s _ _ _) hq1 (zset_ss _ _ _ _)) mt_yX8_holds mv_yX8_holds w_167 (by omega) (k8_0 hc) (zv8 hc) rfl hl.1 rfl (Nat.le_of_ble_eq_true rfl) dX8_prior_1 (fun H locs hI => ?_)
  refine lv_aload_n hx hb dX8_prior_4 rfl (lv_at hl 0 rfl) ?_
  refine lv_aload_n hx hb dX8_prior_5 rfl (lv_at hl 0 rfl) ?_
  refine lv_iload_n hx hb dX8_prior_6 rfl (lv_at hl 1 rfl) ?_
  obtain ⟨q2, hq2, h⟩ := bi_el h
  refine zcVi (As := [.int a1]) cx hI (c_Mo_sets hc (zset_s _ _ _) hq2 (zset_ss _ _ _ _)) mt_yX8_sets mv_yX8_sets w_294 (by omega) (k8_0 hc) (zv8 hc) rfl hl.1 rfl (Nat.le_of_ble_eq_true rfl) dX8_prior_7 (fun H locs hI => ?_)
  obtain ⟨q3, hq3, h⟩ := bi_el h
  refine zcVi (As := [.int q2.1]) cx hI (c_Mo_acted N hc (zset_s _ _ _) hq3 (zset_ss _ _ _ _)) mt_yX8_acted mv_yX8_acted w_182 (by omega) (k8_0 hc) (zv8 hc) rfl hl.1 rfl (Nat.le_of_ble_eq_true rfl) dX8_prior_10 (fun H locs hI => ?_)
  obtain rfl := Option.some.inj h
  exact hret _ _ _ _ dX8_prior_13 rfl hI
def f_Mo_tell (N : Nat) (S : zOb) (a1 : Int32) (a2 : Int32) : Option (Int32 × zOb) :=
  (f_Mo_holds N S).bind (fun q1 => (f_Mo_tells q1 a1 a2).bind (fun q2 => (f_Mo_acted N q2.2 q2.1).bind (fun q3 => some (q3.1, q3.2))))
set_option maxHeartbeats 4000000 in
set_option maxRecDepth 100000 in
theorem c_Mo_tell (N : Nat) {l : Launch} {G : zG} {μ : zM} {o : Nat} (hc : o = 29) {S : zOb} (hS : μ o = S) {a1 : Int32} {a2 : Int32} {out : (Int32 × zOb)} (h : f_Mo_tell N S a1 a2 = some out) {μ' : zM} (hμ : zset μ o out.2 = μ') : zMI l G yX8_tell cX8_tell 3 (some .int) 2 [.ref (G.2.2.1 o 0), .int a1, .int a2] μ out.1 μ' := by
  subst hμ
  refine zMI.of (by decide) (Nat.le_of_ble_eq_true rfl) (fun p e s m args below meth c Q ls cx hI hl hret => ?_)
  obtain ⟨hx, hb, hml, hown, hts, hK, hR⟩ := id cx
  have hl : lv_has ls 3 [(0, .ref (G.2.2.1 o 0)), (1, .int a1), (2, .int a2)] := hl
  rw [← zset_idS hS] at hI
  unfold f_Mo_tell at h
  refine lv_aload_n hx hb dX8_tell_0 rfl (lv_at hl 0 rfl) ?_
  obtain ⟨q1, hq1, h⟩ := bi_el h
  refine zcVv (As := []) cx hI (c_Mo_holds N hc (zset_s _ _ _) hq1 (zset_ss _ _ _ _)) mt_yX8_holds mv_yX8_holds w_167 (by omega) (k8_0 hc) (zv8 hc) rfl hl.1 rfl (Nat.le_of_ble_eq_true rfl) dX8_tell_1 (fun H locs hI => ?_)
  refine lv_aload_n hx hb dX8_tell_4 rfl (lv_at hl 0 rfl) ?_
  refine lv_aload_n hx hb dX8_tell_5 rfl (lv_at hl 0 rfl) ?_
  refine lv_iload_n hx hb dX8_tell_6 rfl (lv_at hl 1 rfl) ?_
  refine lv_iload_n hx hb dX8_tell_7 rfl (lv_at hl 2 rfl) ?_
  obtain ⟨q2, hq2, h⟩ := bi_el h
  refine zcVi (As := [.int a1, .int a2]) cx hI (c_Mo_tells hc (zset_s _ _ _) hq2 (zset_ss _ _ _ _)) mt_yX8_tells mv_yX8_tells w_322 (by omega) (k8_0 hc) (zv8 hc) rfl hl.1 rfl (Nat.le_of_ble_eq_true rfl) dX8_tell_8 (fun H locs hI => ?_)
  obtain ⟨q3, hq3, h⟩ := bi_el h
  refine zcVi (As := [.int q2.1]) cx hI (c_Mo_acted N hc (zset_s _ _ _) hq3 (zset_ss _ _ _ _)) mt_yX8_acted mv_yX8_acted w_182 (by omega) (k8_0 hc) (zv8 hc) rfl hl.1 rfl (Nat.le_of_ble_eq_true rfl) dX8_tell_11 (fun H locs hI => ?_)
  obtain rfl := Option.some.inj h
  exact hret _ _ _ _ dX8_tell_14 rfl hI
def f_Mo_move (N : Nat) (S : zOb) (a1 : Int32) (a2 : Int32) : Option (Int32 × zOb) :=
  (f_Mo_holds N S).bind (fun q1 => (f_Mo_shifts N q1 a1 a2).bind (fun q2 => (f_Mo_acted N q2.2 q2.1).bind (fun q3 => some (q3.1, q3.2))))
set_option maxHeartbeats 4000000 in
set_option maxRecDepth 100000 in
theorem c_Mo_move (N : Nat) {l : Launch} {G : zG} {μ : zM} {o : Nat} (hc : o = 29) {S : zOb} (hS : μ o = S) {a1 : Int32} {a2 : Int32} {out : (Int32 × zOb)} (h : f_Mo_move N S a1 a2 = some out) {μ' : zM} (hμ : zset μ o out.2 = μ') : zMI l G yX8_move cX8_move 3 (some .int) 2 [.ref (G.2.2.1 o 0), .int a1, .int a2] μ out.1 μ' := by
  subst hμ
  refine zMI.of (by decide) (Nat.le_of_ble_eq_true rfl) (fun p e s m args below meth c Q ls cx hI hl hret => ?_)
  obtain ⟨hx, hb, hml, hown, hts, hK, hR⟩ := id cx
  have hl : lv_has ls 3 [(0, .ref (G.2.2.1 o 0)), (1, .int a1), (2, .int a2)] := hl
  rw [← zset_idS hS] at hI
  unfold f_Mo_move at h
  refine lv_aload_n hx hb dX8_move_0 rfl (lv_at hl 0 rfl) ?_
  obtain ⟨q1, hq1, h⟩ := bi_el h
  refine zcVv (As := []) cx hI (c_Mo_holds N hc (zset_s _ _ _) hq1 (zset_ss _ _ _ _)) mt_yX8_holds mv_yX8_holds w_167 (by omega) (k8_0 hc) (zv8 hc) rfl hl.1 rfl (Nat.le_of_ble_eq_true rfl) dX8_move_1 (fun H locs hI => ?_)
  refine lv_aload_n hx hb dX8_move_4 rfl (lv_at hl 0 rfl) ?_
  refine lv_aload_n hx hb dX8_move_5 rfl (lv_at hl 0 rfl) ?_
  refine lv_iload_n hx hb dX8_move_6 rfl (lv_at hl 1 rfl) ?_
  refine lv_iload_n hx hb dX8_move_7 rfl (lv_at hl 2 rfl) ?_
  obtain ⟨q2, hq2, h⟩ := bi_el h
  refine zcVi (As := [.int a1, .int a2]) cx hI (c_Mo_shifts N hc (zset_s _ _ _) hq2 (zset_ss _ _ _ _)) mt_yX8_shifts mv_yX8_shifts w_341 (by omega) (k8_0 hc) (zv8 hc) rfl hl.1 rfl (Nat.le_of_ble_eq_true rfl) dX8_move_8 (fun H locs hI => ?_)
  obtain ⟨q3, hq3, h⟩ := bi_el h
  refine zcVi (As := [.int q2.1]) cx hI (c_Mo_acted N hc (zset_s _ _ _) hq3 (zset_ss _ _ _ _)) mt_yX8_acted mv_yX8_acted w_182 (by omega) (k8_0 hc) (zv8 hc) rfl hl.1 rfl (Nat.le_of_ble_eq_true rfl) dX8_move_11 (fun H locs hI => ?_)
  obtain rfl := Option.some.inj h
  exact hret _ _ _ _ dX8_move_14 rfl hI
def f_Mo_settle (N : Nat) (S : zOb) (a1 : Int32) : Option (Int32 × zOb) :=
  (f_Mo_holds N S).bind (fun q1 => (f_Mo_settles N q1 a1).bind (fun q2 => (f_Mo_acted N q2.2 q2.1).bind (fun q3 => some (q3.1, q3.2))))
set_option maxHeartbeats 4000000 in
set_option maxRecDepth 100000 in
theorem c_Mo_settle (N : Nat) {l : Launch} {G : zG} {μ : zM} {o : Nat} (hc : o = 29) {S : zOb} (hS : μ o = S) {a1 : Int32} {out : (Int32 × zOb)} (h : f_Mo_settle N S a1 = some out) {μ' : zM} (hμ : zset μ o out.2 = μ') : zMI l G yX8_settle cX8_settle 2 (some .int) 5 [.ref (G.2.2.1 o 0), .int a1] μ out.1 μ' := by
  subst hμ
  refine zMI.of (by decide) (Nat.le_of_ble_eq_true rfl) (fun p e s m args below meth c Q ls cx hI hl hret => ?_)
  obtain ⟨hx, hb, hml, hown, hts, hK, hR⟩ := id cx
  have hl : lv_has ls 2 [(0, .ref (G.2.2.1 o 0)), (1, .int a1)] := hl
  rw [← zset_idS hS] at hI
  unfold f_Mo_settle at h
  refine lv_aload_n hx hb dX8_settle_0 rfl (lv_at hl 0 rfl) ?_
  obtain ⟨q1, hq1, h⟩ := bi_el h
  refine zcVv (As := []) cx hI (c_Mo_holds N hc (zset_s _ _ _) hq1 (zset_ss _ _ _ _)) mt_yX8_holds mv_yX8_holds w_167 (by omega) (k8_0 hc) (zv8 hc) rfl hl.1 rfl (Nat.le_of_ble_eq_true rfl) dX8_settle_1 (fun H locs hI => ?_)
  refine lv_aload_n hx hb dX8_settle_4 rfl (lv_at hl 0 rfl) ?_
  refine lv_aload_n hx hb dX8_settle_5 rfl (lv_at hl 0 rfl) ?_
  refine lv_iload_n hx hb dX8_settle_6 rfl (lv_at hl 1 rfl) ?_
  obtain ⟨q2, hq2, h⟩ := bi_el h
  refine zcVi (As := [.int a1]) cx hI (c_Mo_settles N hc (zset_s _ _ _) hq2 (zset_ss _ _ _ _)) mt_yX8_settles mv_yX8_settles w_465 (by omega) (k8_0 hc) (zv8 hc) rfl hl.1 rfl (Nat.le_of_ble_eq_true rfl) dX8_settle_7 (fun H locs hI => ?_)
  obtain ⟨q3, hq3, h⟩ := bi_el h
  refine zcVi (As := [.int q2.1]) cx hI (c_Mo_acted N hc (zset_s _ _ _) hq3 (zset_ss _ _ _ _)) mt_yX8_acted mv_yX8_acted w_182 (by omega) (k8_0 hc) (zv8 hc) rfl hl.1 rfl (Nat.le_of_ble_eq_true rfl) dX8_settle_10 (fun H locs hI => ?_)
  obtain rfl := Option.some.inj h
  exact hret _ _ _ _ dX8_settle_13 rfl hI
def f_Mo_type (S : zOb) (a1 : Int32) : Option (Int32 × zOb) :=
  (f_Mo_in a1.toInt64 (32 : Int64) (126 : Int64)).bind (fun q1 => (if q1 = nI 0 then some ((-1 : Int32), S) else (if (S.1 0 7) = (nI 90) then some ((-3 : Int32), S) else if zin (S.1 0 7) 90 then bnd (zI S 7 ((S.1 0 7).toNatClampNeg) a1) (fun Z5 => bnd (zI Z5 0 7 ((Z5.1 0 7) + (nI 1))) (fun Z6 => some (Z6.1 0 7, Z6))) else none)))
set_option maxHeartbeats 4000000 in
set_option maxRecDepth 100000 in
theorem c_Mo_type {l : Launch} {G : zG} {μ : zM} {o : Nat} (hc : o = 29) {S : zOb} (hS : μ o = S) {a1 : Int32} {out : (Int32 × zOb)} (h : f_Mo_type S a1 = some out) {μ' : zM} (hμ : zset μ o out.2 = μ') : zMI l G yX8_type cX8_type 2 (some .int) 1 [.ref (G.2.2.1 o 0), .int a1] μ out.1 μ' := by
  subst hμ
  refine zMI.of (by decide) (Nat.le_of_ble_eq_true rfl) (fun p e s m args below meth c Q ls cx hI hl hret => ?_)
  obtain ⟨hx, hb, hml, hown, hts, hK, hR⟩ := id cx
  have hl : lv_has ls 2 [(0, .ref (G.2.2.1 o 0)), (1, .int a1)] := hl
  rw [← zset_idS hS] at hI
  unfold f_Mo_type at h
  refine lv_iload_n hx hb dX8_type_0 rfl (lv_at hl 1 rfl) ?_
  refine lv_i2l hx hb dX8_type_1 rfl ?_
  refine lv_ldc2 (v := (32 : Int64)) hx hb hown (hts _ w_775) dX8_type_2 ?_
  refine lv_ldc2 (v := (126 : Int64)) hx hb hown (hts _ w_776) dX8_type_5 ?_
  obtain ⟨q1, hq1, h⟩ := bi_el h
  refine zcSi (As := [.long a1.toInt64, .long (32 : Int64), .long (126 : Int64)]) cx hI (c_Mo_in  hq1) mt_yX8_in ms_yX8_in w_179 (by omega) rfl hl.1 rfl (Nat.le_of_ble_eq_true rfl) dX8_type_8 (fun H locs hI => ?_)
  refine lv_if_ne (tgt := 16) hx hb dX8_type_11 (by decide) (fun c2 => ?_) (fun c2 => ?_)
  · have h := it_n h c2
    refine lv_aload_n hx hb dX8_type_16 rfl (lv_at hl 0 rfl) ?_
    refine g8_7 cx hI hc (zset_s _ _ _) w_777 dX8_type_17 ?_
    refine lv_bipush (v := (nI 90)) hx hb dX8_type_20 (by decide) ?_
    refine lv_icmp_ne (tgt := 28) hx hb dX8_type_22 (by decide) (fun c3 => ?_) (fun c3 => ?_)
    · have h := it_n h c3
      refine lv_aload_n hx hb dX8_type_28 rfl (lv_at hl 0 rfl) ?_
      refine g8_6 cx hI hc (zset_s _ _ _) w_113 dX8_type_29 ?_
      refine lv_aload_n hx hb dX8_type_32 rfl (lv_at hl 0 rfl) ?_
      refine g8_7 cx hI hc (zset_s _ _ _) w_777 dX8_type_33 ?_
      refine lv_iload_n hx hb dX8_type_36 rfl (lv_at hl 1 rfl) ?_
      obtain ⟨g4, h⟩ := gd_el h
      obtain ⟨Z5, eZ5⟩ : ∃ z : zOb, z = zI S 7 ((S.1 0 7).toNatClampNeg) a1 := ⟨_, rfl⟩
      have h := bnd_el h eZ5
      refine zr_iast cx hI (k8_7 hc) (zset_s _ _ _) (z8_7 hc) rfl g4 (zss eZ5) dX8_type_37 (fun H locs hI => ?_)
      refine lv_aload_n hx hb dX8_type_38 rfl (lv_at hl 0 rfl) ?_
      refine lv_dup hx hb dX8_type_39 rfl ?_
      refine g8_7 cx hI hc (zset_s _ _ _) w_777 dX8_type_40 ?_
      refine lv_iconst (v := (nI 1)) hx hb dX8_type_43 (by decide) ?_
      refine lv_iadd hx hb dX8_type_44 ?_
      obtain ⟨Z6, eZ6⟩ : ∃ z : zOb, z = zI Z5 0 7 ((Z5.1 0 7) + (nI 1)) := ⟨_, rfl⟩
      have h := bnd_el h eZ6
      refine p8_7 cx hI hc (zset_s _ _ _) w_777 (zss eZ6) dX8_type_45 (fun H locs hI => ?_)
      refine lv_aload_n hx hb dX8_type_48 rfl (lv_at hl 0 rfl) ?_
      refine g8_7 cx hI hc (zset_s _ _ _) w_777 dX8_type_49 ?_
      obtain rfl := Option.some.inj h
      exact hret _ _ _ _ dX8_type_52 rfl hI
    · have h := it_p h c3
      refine lv_bipush (v := (-3 : Int32)) hx hb dX8_type_25 (by decide) ?_
      obtain rfl := Option.some.inj h
      exact hret _ _ _ _ dX8_type_27 rfl hI
  · have h := it_p h c2
    refine lv_iconst (v := (-1 : Int32)) hx hb dX8_type_14 (by decide) ?_
    obtain rfl := Option.some.inj h
    exact hret _ _ _ _ dX8_type_15 rfl hI
def f_Mo_here_62 (N : Nat)  (S : zOb) (s0 : Int32) : Option (Int32 × zOb) :=
  some (s0, S)
set_option maxHeartbeats 4000000 in
set_option maxRecDepth 100000 in
theorem t_Mo_here_62 (N : Nat) {p : Program} {l : Launch} {e : Env} {s : State} {m : MethodId} {args : Array Value} {below : List Frame} {meth : Method} {c : Code} {Q : State → Prop} {G : zG} {μ : zM} {o : Nat} (hc : o = 29) {out : (Int32 × zOb)} (cx : zCX p (zrm 0) s m args c RX8 cX8_here 1 0 G) (hret : zRi p l e (zrm 0) s m args below meth c cX8_here G .int Q out.1 (zset μ o out.2))   : ∀ (S : zOb) (s0 : Int32), f_Mo_here_62 N S s0 = some out → ∀ {H : Heap} {locs : List Loc} {ls : Array Slot}, zIW G s (zset μ o S) H locs → lv_has ls 1 [] → W p l e (zrm 0) s m args below meth c H locs 0 0 Q (F0 m 62 ls [.int s0]) := by
  obtain ⟨hx, hb, hml, hown, hts, hK, hR⟩ := id cx
  intro S s0  h H locs ls hI hl
  unfold f_Mo_here_62 at h
  obtain rfl := Option.some.inj h
  exact hret _ _ _ _ dX8_here_62 rfl hI
def f_Mo_here_38 (N : Nat)  (S : zOb) : Option (Int32 × zOb) :=
  (if (S.1 0 7) ≤ (S.1 0 25) then f_Mo_here_62 N S (nI 0) else if zin (S.1 0 25) 90 then f_Mo_here_62 N S (S.1 7 ((S.1 0 25).toNatClampNeg)) else none)
set_option maxHeartbeats 4000000 in
set_option maxRecDepth 100000 in
theorem t_Mo_here_38 (N : Nat) {p : Program} {l : Launch} {e : Env} {s : State} {m : MethodId} {args : Array Value} {below : List Frame} {meth : Method} {c : Code} {Q : State → Prop} {G : zG} {μ : zM} {o : Nat} (hc : o = 29) {out : (Int32 × zOb)} (cx : zCX p (zrm 0) s m args c RX8 cX8_here 1 0 G) (hret : zRi p l e (zrm 0) s m args below meth c cX8_here G .int Q out.1 (zset μ o out.2))   : ∀ (S : zOb), f_Mo_here_38 N S = some out → ∀ {H : Heap} {locs : List Loc} {ls : Array Slot}, zIW G s (zset μ o S) H locs → lv_has ls 1 [(0, .ref (G.2.2.1 o 0))] → W p l e (zrm 0) s m args below meth c H locs 0 0 Q (F0 m 38 ls []) := by
  obtain ⟨hx, hb, hml, hown, hts, hK, hR⟩ := id cx
  intro S  h H locs ls hI hl
  unfold f_Mo_here_38 at h
  refine lv_aload_n hx hb dX8_here_38 rfl (lv_at hl 0 rfl) ?_
  refine g8_25 cx hI hc (zset_s _ _ _) w_852 dX8_here_39 ?_
  refine lv_aload_n hx hb dX8_here_42 rfl (lv_at hl 0 rfl) ?_
  refine g8_7 cx hI hc (zset_s _ _ _) w_777 dX8_here_43 ?_
  refine lv_icmp_ge (tgt := 61) hx hb dX8_here_46 (by decide) (fun c2 => ?_) (fun c2 => ?_)
  · have h := it_p h c2
    refine lv_iconst (v := (nI 0)) hx hb dX8_here_61 (by decide) ?_
    exact t_Mo_here_62 N hc cx hret S (nI 0) h hI (lv_sub hl [] rfl)
  · have h := it_n h c2
    refine lv_aload_n hx hb dX8_here_49 rfl (lv_at hl 0 rfl) ?_
    refine g8_6 cx hI hc (zset_s _ _ _) w_113 dX8_here_50 ?_
    refine lv_aload_n hx hb dX8_here_53 rfl (lv_at hl 0 rfl) ?_
    refine g8_25 cx hI hc (zset_s _ _ _) w_852 dX8_here_54 ?_
    obtain ⟨g3, h⟩ := gd_el h
    refine zr_iald cx hI (k8_7 hc) (zset_s _ _ _) (z8_7 hc) rfl g3 dX8_here_57 ?_
    refine lv_goto (tgt := 62) hx hb dX8_here_58 (by decide) ?_
    exact t_Mo_here_62 N hc cx hret S (S.1 7 ((S.1 0 25).toNatClampNeg)) h hI (lv_sub hl [] rfl)
def f_Mo_here_0 (N : Nat)  : Nat → zOb → Option (Int32 × zOb)
  | 0, _ => none
  | n + 1, S => (if (S.1 0 7) ≤ (S.1 0 25) then f_Mo_here_38 N S else if zin (S.1 0 25) 90 then (if (S.1 7 ((S.1 0 25).toNatClampNeg)) = (nI 32) then bnd (zI S 0 25 ((S.1 0 25) + (nI 1))) (fun Z6 => f_Mo_here_0 N n Z6) else f_Mo_here_38 N S) else none)
set_option maxHeartbeats 4000000 in
set_option maxRecDepth 100000 in
theorem t_Mo_here_0 (N : Nat) {p : Program} {l : Launch} {e : Env} {s : State} {m : MethodId} {args : Array Value} {below : List Frame} {meth : Method} {c : Code} {Q : State → Prop} {G : zG} {μ : zM} {o : Nat} (hc : o = 29) {out : (Int32 × zOb)} (cx : zCX p (zrm 0) s m args c RX8 cX8_here 1 0 G) (hret : zRi p l e (zrm 0) s m args below meth c cX8_here G .int Q out.1 (zset μ o out.2))   : ∀ (n : Nat) (S : zOb), f_Mo_here_0 N n S = some out → ∀ {H : Heap} {locs : List Loc} {ls : Array Slot}, zIW G s (zset μ o S) H locs → lv_has ls 1 [(0, .ref (G.2.2.1 o 0))] → W p l e (zrm 0) s m args below meth c H locs 0 0 Q (F0 m 0 ls []) := by
  obtain ⟨hx, hb, hml, hown, hts, hK, hR⟩ := id cx
  intro n
  induction n with
  | zero =>
    intro S  h
    cases h
  | succ n ih =>
    intro S  h H locs ls hI hl
    rw [f_Mo_here_0] at h
    refine lv_aload_n hx hb dX8_here_0 rfl (lv_at hl 0 rfl) ?_
    refine g8_25 cx hI hc (zset_s _ _ _) w_852 dX8_here_1 ?_
    refine lv_aload_n hx hb dX8_here_4 rfl (lv_at hl 0 rfl) ?_
    refine g8_7 cx hI hc (zset_s _ _ _) w_777 dX8_here_5 ?_
    refine lv_icmp_ge (tgt := 38) hx hb dX8_here_8 (by decide) (fun c1 => ?_) (fun c1 => ?_)
    · have h := it_p h c1
      exact t_Mo_here_38 N hc cx hret S h hI hl
    · have h := it_n h c1
      refine lv_aload_n hx hb dX8_here_11 rfl (lv_at hl 0 rfl) ?_
      refine g8_6 cx hI hc (zset_s _ _ _) w_113 dX8_here_12 ?_
      refine lv_aload_n hx hb dX8_here_15 rfl (lv_at hl 0 rfl) ?_
      refine g8_25 cx hI hc (zset_s _ _ _) w_852 dX8_here_16 ?_
      obtain ⟨g4, h⟩ := gd_el h
      refine zr_iald cx hI (k8_7 hc) (zset_s _ _ _) (z8_7 hc) rfl g4 dX8_here_19 ?_
      refine lv_bipush (v := (nI 32)) hx hb dX8_here_20 (by decide) ?_
      refine lv_icmp_ne (tgt := 38) hx hb dX8_here_22 (by decide) (fun c5 => ?_) (fun c5 => ?_)
      · have h := it_n h c5
        exact t_Mo_here_38 N hc cx hret S h hI hl
      · have h := it_p h c5
        refine lv_aload_n hx hb dX8_here_25 rfl (lv_at hl 0 rfl) ?_
        refine lv_dup hx hb dX8_here_26 rfl ?_
        refine g8_25 cx hI hc (zset_s _ _ _) w_852 dX8_here_27 ?_
        refine lv_iconst (v := (nI 1)) hx hb dX8_here_30 (by decide) ?_
        refine lv_iadd hx hb dX8_here_31 ?_
        obtain ⟨Z6, eZ6⟩ : ∃ z : zOb, z = zI S 0 25 ((S.1 0 25) + (nI 1)) := ⟨_, rfl⟩
        have h := bnd_el h eZ6
        refine p8_25 cx hI hc (zset_s _ _ _) w_852 (zss eZ6) dX8_here_32 (fun H locs hI => ?_)
        refine lv_goto (tgt := 0) hx hb dX8_here_35 (by decide) ?_
        exact ih Z6 h hI hl
def f_Mo_here (N : Nat) (S : zOb) : Option (Int32 × zOb) :=
  f_Mo_here_0 N N S
set_option maxHeartbeats 4000000 in
set_option maxRecDepth 100000 in
theorem c_Mo_here (N : Nat) {l : Launch} {G : zG} {μ : zM} {o : Nat} (hc : o = 29) {S : zOb} (hS : μ o = S)  {out : (Int32 × zOb)} (h : f_Mo_here N S  = some out) {μ' : zM} (hμ : zset μ o out.2 = μ') : zMI l G yX8_here cX8_here 1 (some .int) 0 [.ref (G.2.2.1 o 0)] μ out.1 μ' := by
  subst hμ
  refine zMI.of (by decide) (Nat.le_of_ble_eq_true rfl) (fun p e s m args below meth c Q ls cx hI hl hret => ?_)
  obtain ⟨hx, hb, hml, hown, hts, hK, hR⟩ := id cx
  have hl : lv_has ls 1 [(0, .ref (G.2.2.1 o 0))] := hl
  rw [← zset_idS hS] at hI
  unfold f_Mo_here at h
  exact t_Mo_here_0 N hc cx hret N S h hI hl
def f_Mo_isAt_30 (S : zOb)  (s0 : Int32) : Option Int32 :=
  if (s0 = nI 0 ∨ s0 = nI 1) then some s0 else none
set_option maxHeartbeats 4000000 in
set_option maxRecDepth 100000 in
theorem t_Mo_isAt_30  {p : Program} {l : Launch} {e : Env} {s : State} {m : MethodId} {args : Array Value} {below : List Frame} {meth : Method} {c : Code} {Q : State → Prop} {G : zG} {μ : zM} {o : Nat} (hc : o = 29) {S : zOb} (hS : μ o = S) {out : Int32} (cx : zCX p (zrm 1) s m args c RX8 cX8_isAt 4 1 G) (hret : zRi p l e (zrm 1) s m args below meth c cX8_isAt G .boolean Q out μ)   : ∀ (s0 : Int32), f_Mo_isAt_30 S s0 = some out → ∀ {H : Heap} {locs : List Loc} {ls : Array Slot}, zIW G s μ H locs → lv_has ls 4 [] → W p l e (zrm 1) s m args below meth c H locs 0 0 Q (F0 m 30 ls [.int s0]) := by
  obtain ⟨hx, hb, hml, hown, hts, hK, hR⟩ := id cx
  intro s0  h H locs ls hI hl
  unfold f_Mo_isAt_30 at h
  obtain ⟨g2, h⟩ := gd_el h
  obtain rfl := Option.some.inj h
  exact hret _ _ _ _ dX8_isAt_30 (zbool g2) hI
def f_Mo_isAt_29 (S : zOb)   : Option Int32 :=
  f_Mo_isAt_30 S (nI 0)
set_option maxHeartbeats 4000000 in
set_option maxRecDepth 100000 in
theorem t_Mo_isAt_29  {p : Program} {l : Launch} {e : Env} {s : State} {m : MethodId} {args : Array Value} {below : List Frame} {meth : Method} {c : Code} {Q : State → Prop} {G : zG} {μ : zM} {o : Nat} (hc : o = 29) {S : zOb} (hS : μ o = S) {out : Int32} (cx : zCX p (zrm 1) s m args c RX8 cX8_isAt 4 1 G) (hret : zRi p l e (zrm 1) s m args below meth c cX8_isAt G .boolean Q out μ)   : f_Mo_isAt_29 S  = some out → ∀ {H : Heap} {locs : List Loc} {ls : Array Slot}, zIW G s μ H locs → lv_has ls 4 [] → W p l e (zrm 1) s m args below meth c H locs 0 0 Q (F0 m 29 ls []) := by
  obtain ⟨hx, hb, hml, hown, hts, hK, hR⟩ := id cx
  intro   h H locs ls hI hl
  unfold f_Mo_isAt_29 at h
  refine lv_iconst (v := (nI 0)) hx hb dX8_isAt_29 (by decide) ?_
  exact t_Mo_isAt_30 hc hS cx hret (nI 0) h hI hl
def f_Mo_isAt (S : zOb) (a1 : Int32) (a2 : Int32) (a3 : Int32) : Option Int32 :=
  (if (S.1 0 7) ≤ a1 then f_Mo_isAt_29 S else if zin a1 90 then (f_Mo_in ((S.1 7 a1.toNatClampNeg).toInt64) a2.toInt64 a3.toInt64).bind (fun q4 => (if q4 = nI 0 then f_Mo_isAt_29 S else f_Mo_isAt_30 S (nI 1))) else none)
set_option maxHeartbeats 4000000 in
set_option maxRecDepth 100000 in
theorem c_Mo_isAt {l : Launch} {G : zG} {μ : zM} {o : Nat} (hc : o = 29) {S : zOb} (hS : μ o = S) {a1 : Int32} {a2 : Int32} {a3 : Int32} {out : Int32} (h : f_Mo_isAt S a1 a2 a3 = some out) : zMI l G yX8_isAt cX8_isAt 4 (some .boolean) 1 [.ref (G.2.2.1 o 0), .int a1, .int a2, .int a3] μ out μ := by
  refine zMI.of (by decide) (Nat.le_of_ble_eq_true rfl) (fun p e s m args below meth c Q ls cx hI hl hret => ?_)
  obtain ⟨hx, hb, hml, hown, hts, hK, hR⟩ := id cx
  have hl : lv_has ls 4 [(0, .ref (G.2.2.1 o 0)), (1, .int a1), (2, .int a2), (3, .int a3)] := hl
  unfold f_Mo_isAt at h
  refine lv_iload_n hx hb dX8_isAt_0 rfl (lv_at hl 1 rfl) ?_
  refine lv_aload_n hx hb dX8_isAt_1 rfl (lv_at hl 0 rfl) ?_
  refine g8_7 cx hI hc hS w_777 dX8_isAt_2 ?_
  refine lv_icmp_ge (tgt := 29) hx hb dX8_isAt_5 (by decide) (fun c1 => ?_) (fun c1 => ?_)
  · have h := it_p h c1
    exact t_Mo_isAt_29 hc hS cx hret  h hI (lv_sub hl [] rfl)
  · have h := it_n h c1
    refine lv_aload_n hx hb dX8_isAt_8 rfl (lv_at hl 0 rfl) ?_
    refine g8_6 cx hI hc hS w_113 dX8_isAt_9 ?_
    refine lv_iload_n hx hb dX8_isAt_12 rfl (lv_at hl 1 rfl) ?_
    obtain ⟨g3, h⟩ := gd_el h
    refine zr_iald cx hI (k8_7 hc) hS (z8_7 hc) rfl g3 dX8_isAt_13 ?_
    refine lv_i2l hx hb dX8_isAt_14 rfl ?_
    refine lv_iload_n hx hb dX8_isAt_15 rfl (lv_at hl 2 rfl) ?_
    refine lv_i2l hx hb dX8_isAt_16 rfl ?_
    refine lv_iload_n hx hb dX8_isAt_17 rfl (lv_at hl 3 rfl) ?_
    refine lv_i2l hx hb dX8_isAt_18 rfl ?_
    obtain ⟨q4, hq4, h⟩ := bi_el h
    refine zcSi (As := [.long ((S.1 7 a1.toNatClampNeg).toInt64), .long a2.toInt64, .long a3.toInt64]) cx hI (c_Mo_in  hq4) mt_yX8_in ms_yX8_in w_179 (by omega) rfl hl.1 rfl (Nat.le_of_ble_eq_true rfl) dX8_isAt_19 (fun H locs hI => ?_)
    refine lv_if_eq (tgt := 29) hx hb dX8_isAt_22 (by decide) (fun c5 => ?_) (fun c5 => ?_)
    · have h := it_p h c5
      exact t_Mo_isAt_29 hc hS cx hret  h hI (lv_sub hl [] rfl)
    · have h := it_n h c5
      refine lv_iconst (v := (nI 1)) hx hb dX8_isAt_25 (by decide) ?_
      refine lv_goto (tgt := 30) hx hb dX8_isAt_26 (by decide) ?_
      exact t_Mo_isAt_30 hc hS cx hret (nI 1) h hI (lv_sub hl [] rfl)
def f_Mo_isWord_95 (S : zOb)  (s0 : Int32) : Option Int32 :=
  if (s0 = nI 0 ∨ s0 = nI 1) then some s0 else none
set_option maxHeartbeats 4000000 in
set_option maxRecDepth 100000 in
theorem t_Mo_isWord_95  {p : Program} {l : Launch} {e : Env} {s : State} {m : MethodId} {args : Array Value} {below : List Frame} {meth : Method} {c : Code} {Q : State → Prop} {G : zG} {μ : zM} {o : Nat} (hc : o = 29) {S : zOb} (hS : μ o = S) {out : Int32} (cx : zCX p (zrm 2) s m args c RX8 cX8_isWord 6 2 G) (hret : zRi p l e (zrm 2) s m args below meth c cX8_isWord G .boolean Q out μ)   : ∀ (s0 : Int32), f_Mo_isWord_95 S s0 = some out → ∀ {H : Heap} {locs : List Loc} {ls : Array Slot}, zIW G s μ H locs → lv_has ls 6 [] → W p l e (zrm 2) s m args below meth c H locs 0 0 Q (F0 m 95 ls [.int s0]) := by
  obtain ⟨hx, hb, hml, hown, hts, hK, hR⟩ := id cx
  intro s0  h H locs ls hI hl
  unfold f_Mo_isWord_95 at h
  obtain ⟨g2, h⟩ := gd_el h
  obtain rfl := Option.some.inj h
  exact hret _ _ _ _ dX8_isWord_95 (zbool g2) hI
def f_Mo_isWord_94 (S : zOb)   : Option Int32 :=
  f_Mo_isWord_95 S (nI 0)
set_option maxHeartbeats 4000000 in
set_option maxRecDepth 100000 in
theorem t_Mo_isWord_94  {p : Program} {l : Launch} {e : Env} {s : State} {m : MethodId} {args : Array Value} {below : List Frame} {meth : Method} {c : Code} {Q : State → Prop} {G : zG} {μ : zM} {o : Nat} (hc : o = 29) {S : zOb} (hS : μ o = S) {out : Int32} (cx : zCX p (zrm 2) s m args c RX8 cX8_isWord 6 2 G) (hret : zRi p l e (zrm 2) s m args below meth c cX8_isWord G .boolean Q out μ)   : f_Mo_isWord_94 S  = some out → ∀ {H : Heap} {locs : List Loc} {ls : Array Slot}, zIW G s μ H locs → lv_has ls 6 [] → W p l e (zrm 2) s m args below meth c H locs 0 0 Q (F0 m 94 ls []) := by
  obtain ⟨hx, hb, hml, hown, hts, hK, hR⟩ := id cx
  intro   h H locs ls hI hl
  unfold f_Mo_isWord_94 at h
  refine lv_iconst (v := (nI 0)) hx hb dX8_isWord_94 (by decide) ?_
  exact t_Mo_isWord_95 hc hS cx hret (nI 0) h hI hl
def f_Mo_isWord (S : zOb) (a1 : Int32) (a2 : Int32) (a3 : Int32) (a4 : Int32) (a5 : Int32) : Option Int32 :=
  (if (S.1 0 7) < ((S.1 0 25) + a1) then f_Mo_isWord_94 S else if zin (S.1 0 25) 90 then (if (S.1 7 ((S.1 0 25).toNatClampNeg)) = a2 then if zin ((S.1 0 25) + (nI 1)) 90 then (if (S.1 7 (((S.1 0 25) + (nI 1)).toNatClampNeg)) = a3 then if zin ((S.1 0 25) + (nI 2)) 90 then (if (S.1 7 (((S.1 0 25) + (nI 2)).toNatClampNeg)) = a4 then if zin ((S.1 0 25) + (nI 3)) 90 then (if (S.1 7 (((S.1 0 25) + (nI 3)).toNatClampNeg)) = a5 then (f_Mo_isAt S ((S.1 0 25) + a1) (nI 97) (nI 122)).bind (fun q11 => (if q11 = nI 0 then f_Mo_isWord_95 S (nI 1) else f_Mo_isWord_94 S)) else f_Mo_isWord_94 S) else none else f_Mo_isWord_94 S) else none else f_Mo_isWord_94 S) else none else f_Mo_isWord_94 S) else none)
set_option maxHeartbeats 4000000 in
set_option maxRecDepth 100000 in
theorem c_Mo_isWord {l : Launch} {G : zG} {μ : zM} {o : Nat} (hc : o = 29) {S : zOb} (hS : μ o = S) {a1 : Int32} {a2 : Int32} {a3 : Int32} {a4 : Int32} {a5 : Int32} {out : Int32} (h : f_Mo_isWord S a1 a2 a3 a4 a5 = some out) : zMI l G yX8_isWord cX8_isWord 6 (some .boolean) 2 [.ref (G.2.2.1 o 0), .int a1, .int a2, .int a3, .int a4, .int a5] μ out μ := by
  refine zMI.of (by decide) (Nat.le_of_ble_eq_true rfl) (fun p e s m args below meth c Q ls cx hI hl hret => ?_)
  obtain ⟨hx, hb, hml, hown, hts, hK, hR⟩ := id cx
  have hl : lv_has ls 6 [(0, .ref (G.2.2.1 o 0)), (1, .int a1), (2, .int a2), (3, .int a3), (4, .int a4), (5, .int a5)] := hl
  unfold f_Mo_isWord at h
  refine lv_aload_n hx hb dX8_isWord_0 rfl (lv_at hl 0 rfl) ?_
  refine g8_25 cx hI hc hS w_852 dX8_isWord_1 ?_
  refine lv_iload_n hx hb dX8_isWord_4 rfl (lv_at hl 1 rfl) ?_
  refine lv_iadd hx hb dX8_isWord_5 ?_
  refine lv_aload_n hx hb dX8_isWord_6 rfl (lv_at hl 0 rfl) ?_
  refine g8_7 cx hI hc hS w_777 dX8_isWord_7 ?_
  refine lv_icmp_gt (tgt := 94) hx hb dX8_isWord_10 (by decide) (fun c1 => ?_) (fun c1 => ?_)
  · have h := it_p h c1
    exact t_Mo_isWord_94 hc hS cx hret  h hI (lv_sub hl [] rfl)
  · have h := it_n h c1
    refine lv_aload_n hx hb dX8_isWord_13 rfl (lv_at hl 0 rfl) ?_
    refine g8_6 cx hI hc hS w_113 dX8_isWord_14 ?_
    refine lv_aload_n hx hb dX8_isWord_17 rfl (lv_at hl 0 rfl) ?_
    refine g8_25 cx hI hc hS w_852 dX8_isWord_18 ?_
    obtain ⟨g3, h⟩ := gd_el h
    refine zr_iald cx hI (k8_7 hc) hS (z8_7 hc) rfl g3 dX8_isWord_21 ?_
    refine lv_iload_n hx hb dX8_isWord_22 rfl (lv_at hl 2 rfl) ?_
    refine lv_icmp_ne (tgt := 94) hx hb dX8_isWord_23 (by decide) (fun c4 => ?_) (fun c4 => ?_)
    · have h := it_n h c4
      exact t_Mo_isWord_94 hc hS cx hret  h hI (lv_sub hl [] rfl)
    · have h := it_p h c4
      refine lv_aload_n hx hb dX8_isWord_26 rfl (lv_at hl 0 rfl) ?_
      refine g8_6 cx hI hc hS w_113 dX8_isWord_27 ?_
      refine lv_aload_n hx hb dX8_isWord_30 rfl (lv_at hl 0 rfl) ?_
      refine g8_25 cx hI hc hS w_852 dX8_isWord_31 ?_
      refine lv_iconst (v := (nI 1)) hx hb dX8_isWord_34 (by decide) ?_
      refine lv_iadd hx hb dX8_isWord_35 ?_
      obtain ⟨g5, h⟩ := gd_el h
      refine zr_iald cx hI (k8_7 hc) hS (z8_7 hc) rfl g5 dX8_isWord_36 ?_
      refine lv_iload_n hx hb dX8_isWord_37 rfl (lv_at hl 3 rfl) ?_
      refine lv_icmp_ne (tgt := 94) hx hb dX8_isWord_38 (by decide) (fun c6 => ?_) (fun c6 => ?_)
      · have h := it_n h c6
        exact t_Mo_isWord_94 hc hS cx hret  h hI (lv_sub hl [] rfl)
      · have h := it_p h c6
        refine lv_aload_n hx hb dX8_isWord_41 rfl (lv_at hl 0 rfl) ?_
        refine g8_6 cx hI hc hS w_113 dX8_isWord_42 ?_
        refine lv_aload_n hx hb dX8_isWord_45 rfl (lv_at hl 0 rfl) ?_
        refine g8_25 cx hI hc hS w_852 dX8_isWord_46 ?_
        refine lv_iconst (v := (nI 2)) hx hb dX8_isWord_49 (by decide) ?_
        refine lv_iadd hx hb dX8_isWord_50 ?_
        obtain ⟨g7, h⟩ := gd_el h
        refine zr_iald cx hI (k8_7 hc) hS (z8_7 hc) rfl g7 dX8_isWord_51 ?_
        refine lv_iload hx hb dX8_isWord_52 (lv_at hl 4 rfl) ?_
        refine lv_icmp_ne (tgt := 94) hx hb dX8_isWord_54 (by decide) (fun c8 => ?_) (fun c8 => ?_)
        · have h := it_n h c8
          exact t_Mo_isWord_94 hc hS cx hret  h hI (lv_sub hl [] rfl)
        · have h := it_p h c8
          refine lv_aload_n hx hb dX8_isWord_57 rfl (lv_at hl 0 rfl) ?_
          refine g8_6 cx hI hc hS w_113 dX8_isWord_58 ?_
          refine lv_aload_n hx hb dX8_isWord_61 rfl (lv_at hl 0 rfl) ?_
          refine g8_25 cx hI hc hS w_852 dX8_isWord_62 ?_
          refine lv_iconst (v := (nI 3)) hx hb dX8_isWord_65 (by decide) ?_
          refine lv_iadd hx hb dX8_isWord_66 ?_
          obtain ⟨g9, h⟩ := gd_el h
          refine zr_iald cx hI (k8_7 hc) hS (z8_7 hc) rfl g9 dX8_isWord_67 ?_
          refine lv_iload hx hb dX8_isWord_68 (lv_at hl 5 rfl) ?_
          refine lv_icmp_ne (tgt := 94) hx hb dX8_isWord_70 (by decide) (fun c10 => ?_) (fun c10 => ?_)
          · have h := it_n h c10
            exact t_Mo_isWord_94 hc hS cx hret  h hI (lv_sub hl [] rfl)
          · have h := it_p h c10
            refine lv_aload_n hx hb dX8_isWord_73 rfl (lv_at hl 0 rfl) ?_
            refine lv_aload_n hx hb dX8_isWord_74 rfl (lv_at hl 0 rfl) ?_
            refine g8_25 cx hI hc hS w_852 dX8_isWord_75 ?_
            refine lv_iload_n hx hb dX8_isWord_78 rfl (lv_at hl 1 rfl) ?_
            refine lv_iadd hx hb dX8_isWord_79 ?_
            refine lv_bipush (v := (nI 97)) hx hb dX8_isWord_80 (by decide) ?_
            refine lv_bipush (v := (nI 122)) hx hb dX8_isWord_82 (by decide) ?_
            obtain ⟨q11, hq11, h⟩ := bi_el h
            refine zcVi (As := [.int ((S.1 0 25) + a1), .int (nI 97), .int (nI 122)]) cx hI (c_Mo_isAt hc hS hq11) mt_yX8_isAt mv_yX8_isAt w_869 (by omega) (k8_0 hc) (zv8 hc) rfl hl.1 rfl (Nat.le_of_ble_eq_true rfl) dX8_isWord_84 (fun H locs hI => ?_)
            refine lv_if_ne (tgt := 94) hx hb dX8_isWord_87 (by decide) (fun c12 => ?_) (fun c12 => ?_)
            · have h := it_n h c12
              exact t_Mo_isWord_94 hc hS cx hret  h hI (lv_sub hl [] rfl)
            · have h := it_p h c12
              refine lv_iconst (v := (nI 1)) hx hb dX8_isWord_90 (by decide) ?_
              refine lv_goto (tgt := 95) hx hb dX8_isWord_91 (by decide) ?_
              exact t_Mo_isWord_95 hc hS cx hret (nI 1) h hI (lv_sub hl [] rfl)
def f_Mo_isMore_53 (S : zOb)  (s0 : Int32) : Option Int32 :=
  if (s0 = nI 0 ∨ s0 = nI 1) then some s0 else none
set_option maxHeartbeats 4000000 in
set_option maxRecDepth 100000 in
theorem t_Mo_isMore_53  {p : Program} {l : Launch} {e : Env} {s : State} {m : MethodId} {args : Array Value} {below : List Frame} {meth : Method} {c : Code} {Q : State → Prop} {G : zG} {μ : zM} {o : Nat} (hc : o = 29) {S : zOb} (hS : μ o = S) {out : Int32} (cx : zCX p (zrm 0) s m args c RX8 cX8_isMore 6 0 G) (hret : zRi p l e (zrm 0) s m args below meth c cX8_isMore G .boolean Q out μ)   : ∀ (s0 : Int32), f_Mo_isMore_53 S s0 = some out → ∀ {H : Heap} {locs : List Loc} {ls : Array Slot}, zIW G s μ H locs → lv_has ls 6 [] → W p l e (zrm 0) s m args below meth c H locs 0 0 Q (F0 m 53 ls [.int s0]) := by
  obtain ⟨hx, hb, hml, hown, hts, hK, hR⟩ := id cx
  intro s0  h H locs ls hI hl
  unfold f_Mo_isMore_53 at h
  obtain ⟨g3, h⟩ := gd_el h
  obtain rfl := Option.some.inj h
  exact hret _ _ _ _ dX8_isMore_53 (zbool g3) hI
def f_Mo_isMore_52 (S : zOb)   : Option Int32 :=
  f_Mo_isMore_53 S (nI 0)
set_option maxHeartbeats 4000000 in
set_option maxRecDepth 100000 in
theorem t_Mo_isMore_52  {p : Program} {l : Launch} {e : Env} {s : State} {m : MethodId} {args : Array Value} {below : List Frame} {meth : Method} {c : Code} {Q : State → Prop} {G : zG} {μ : zM} {o : Nat} (hc : o = 29) {S : zOb} (hS : μ o = S) {out : Int32} (cx : zCX p (zrm 0) s m args c RX8 cX8_isMore 6 0 G) (hret : zRi p l e (zrm 0) s m args below meth c cX8_isMore G .boolean Q out μ)   : f_Mo_isMore_52 S  = some out → ∀ {H : Heap} {locs : List Loc} {ls : Array Slot}, zIW G s μ H locs → lv_has ls 6 [] → W p l e (zrm 0) s m args below meth c H locs 0 0 Q (F0 m 52 ls []) := by
  obtain ⟨hx, hb, hml, hown, hts, hK, hR⟩ := id cx
  intro   h H locs ls hI hl
  unfold f_Mo_isMore_52 at h
  refine lv_iconst (v := (nI 0)) hx hb dX8_isMore_52 (by decide) ?_
  exact t_Mo_isMore_53 hc hS cx hret (nI 0) h hI hl
def f_Mo_isMore (S : zOb) (a1 : Int32) (a2 : Int32) (a3 : Int32) (a4 : Int32) (a5 : Int32) : Option Int32 :=
  if zin a1 90 then (if (S.1 7 a1.toNatClampNeg) = a2 then if zin (a1 + (nI 1)) 90 then (if (S.1 7 ((a1 + (nI 1)).toNatClampNeg)) = a3 then if zin (a1 + (nI 2)) 90 then (if (S.1 7 ((a1 + (nI 2)).toNatClampNeg)) = a4 then if zin (a1 + (nI 3)) 90 then (if (S.1 7 ((a1 + (nI 3)).toNatClampNeg)) = a5 then f_Mo_isMore_53 S (nI 1) else f_Mo_isMore_52 S) else none else f_Mo_isMore_52 S) else none else f_Mo_isMore_52 S) else none else f_Mo_isMore_52 S) else none
set_option maxHeartbeats 4000000 in
set_option maxRecDepth 100000 in
theorem c_Mo_isMore {l : Launch} {G : zG} {μ : zM} {o : Nat} (hc : o = 29) {S : zOb} (hS : μ o = S) {a1 : Int32} {a2 : Int32} {a3 : Int32} {a4 : Int32} {a5 : Int32} {out : Int32} (h : f_Mo_isMore S a1 a2 a3 a4 a5 = some out) : zMI l G yX8_isMore cX8_isMore 6 (some .boolean) 0 [.ref (G.2.2.1 o 0), .int a1, .int a2, .int a3, .int a4, .int a5] μ out μ := by
  refine zMI.of (by decide) (Nat.le_of_ble_eq_true rfl) (fun p e s m args below meth c Q ls cx hI hl hret => ?_)
  obtain ⟨hx, hb, hml, hown, hts, hK, hR⟩ := id cx
  have hl : lv_has ls 6 [(0, .ref (G.2.2.1 o 0)), (1, .int a1), (2, .int a2), (3, .int a3), (4, .int a4), (5, .int a5)] := hl
  unfold f_Mo_isMore at h
  refine lv_aload_n hx hb dX8_isMore_0 rfl (lv_at hl 0 rfl) ?_
  refine g8_6 cx hI hc hS w_113 dX8_isMore_1 ?_
  refine lv_iload_n hx hb dX8_isMore_4 rfl (lv_at hl 1 rfl) ?_
  obtain ⟨g1, h⟩ := gd_el h
  refine zr_iald cx hI (k8_7 hc) hS (z8_7 hc) rfl g1 dX8_isMore_5 ?_
  refine lv_iload_n hx hb dX8_isMore_6 rfl (lv_at hl 2 rfl) ?_
  refine lv_icmp_ne (tgt := 52) hx hb dX8_isMore_7 (by decide) (fun c2 => ?_) (fun c2 => ?_)
  · have h := it_n h c2
    exact t_Mo_isMore_52 hc hS cx hret  h hI (lv_sub hl [] rfl)
  · have h := it_p h c2
    refine lv_aload_n hx hb dX8_isMore_10 rfl (lv_at hl 0 rfl) ?_
    refine g8_6 cx hI hc hS w_113 dX8_isMore_11 ?_
    refine lv_iload_n hx hb dX8_isMore_14 rfl (lv_at hl 1 rfl) ?_
    refine lv_iconst (v := (nI 1)) hx hb dX8_isMore_15 (by decide) ?_
    refine lv_iadd hx hb dX8_isMore_16 ?_
    obtain ⟨g4, h⟩ := gd_el h
    refine zr_iald cx hI (k8_7 hc) hS (z8_7 hc) rfl g4 dX8_isMore_17 ?_
    refine lv_iload_n hx hb dX8_isMore_18 rfl (lv_at hl 3 rfl) ?_
    refine lv_icmp_ne (tgt := 52) hx hb dX8_isMore_19 (by decide) (fun c5 => ?_) (fun c5 => ?_)
    · have h := it_n h c5
      exact t_Mo_isMore_52 hc hS cx hret  h hI (lv_sub hl [] rfl)
    · have h := it_p h c5
      refine lv_aload_n hx hb dX8_isMore_22 rfl (lv_at hl 0 rfl) ?_
      refine g8_6 cx hI hc hS w_113 dX8_isMore_23 ?_
      refine lv_iload_n hx hb dX8_isMore_26 rfl (lv_at hl 1 rfl) ?_
      refine lv_iconst (v := (nI 2)) hx hb dX8_isMore_27 (by decide) ?_
      refine lv_iadd hx hb dX8_isMore_28 ?_
      obtain ⟨g6, h⟩ := gd_el h
      refine zr_iald cx hI (k8_7 hc) hS (z8_7 hc) rfl g6 dX8_isMore_29 ?_
      refine lv_iload hx hb dX8_isMore_30 (lv_at hl 4 rfl) ?_
      refine lv_icmp_ne (tgt := 52) hx hb dX8_isMore_32 (by decide) (fun c7 => ?_) (fun c7 => ?_)
      · have h := it_n h c7
        exact t_Mo_isMore_52 hc hS cx hret  h hI (lv_sub hl [] rfl)
      · have h := it_p h c7
        refine lv_aload_n hx hb dX8_isMore_35 rfl (lv_at hl 0 rfl) ?_
        refine g8_6 cx hI hc hS w_113 dX8_isMore_36 ?_
        refine lv_iload_n hx hb dX8_isMore_39 rfl (lv_at hl 1 rfl) ?_
        refine lv_iconst (v := (nI 3)) hx hb dX8_isMore_40 (by decide) ?_
        refine lv_iadd hx hb dX8_isMore_41 ?_
        obtain ⟨g8, h⟩ := gd_el h
        refine zr_iald cx hI (k8_7 hc) hS (z8_7 hc) rfl g8 dX8_isMore_42 ?_
        refine lv_iload hx hb dX8_isMore_43 (lv_at hl 5 rfl) ?_
        refine lv_icmp_ne (tgt := 52) hx hb dX8_isMore_45 (by decide) (fun c9 => ?_) (fun c9 => ?_)
        · have h := it_n h c9
          exact t_Mo_isMore_52 hc hS cx hret  h hI (lv_sub hl [] rfl)
        · have h := it_p h c9
          refine lv_iconst (v := (nI 1)) hx hb dX8_isMore_48 (by decide) ?_
          refine lv_goto (tgt := 53) hx hb dX8_isMore_49 (by decide) ?_
          exact t_Mo_isMore_53 hc hS cx hret (nI 1) h hI (lv_sub hl [] rfl)
def f_Mo_rule_140 (N : Nat)  (S : zOb) (s0 : Int32) : Option (Int32 × zOb) :=
  some (s0, S)
set_option maxHeartbeats 4000000 in
set_option maxRecDepth 100000 in
theorem t_Mo_rule_140 (N : Nat) {p : Program} {l : Launch} {e : Env} {s : State} {m : MethodId} {args : Array Value} {below : List Frame} {meth : Method} {c : Code} {Q : State → Prop} {G : zG} {μ : zM} {o : Nat} (hc : o = 29) {out : (Int32 × zOb)} (cx : zCX p (zrm 3) s m args c RX8 cX8_rule 1 3 G) (hret : zRi p l e (zrm 3) s m args below meth c cX8_rule G .int Q out.1 (zset μ o out.2))   : ∀ (S : zOb) (s0 : Int32), f_Mo_rule_140 N S s0 = some out → ∀ {H : Heap} {locs : List Loc} {ls : Array Slot}, zIW G s (zset μ o S) H locs → lv_has ls 1 [] → W p l e (zrm 3) s m args below meth c H locs 0 0 Q (F0 m 140 ls [.int s0]) := by
  obtain ⟨hx, hb, hml, hown, hts, hK, hR⟩ := id cx
  intro S s0  h H locs ls hI hl
  unfold f_Mo_rule_140 at h
  obtain rfl := Option.some.inj h
  exact hret _ _ _ _ dX8_rule_140 rfl hI
def f_Mo_rule_138 (N : Nat)  (S : zOb) : Option (Int32 × zOb) :=
  f_Mo_rule_140 N S (-4 : Int32)
set_option maxHeartbeats 4000000 in
set_option maxRecDepth 100000 in
theorem t_Mo_rule_138 (N : Nat) {p : Program} {l : Launch} {e : Env} {s : State} {m : MethodId} {args : Array Value} {below : List Frame} {meth : Method} {c : Code} {Q : State → Prop} {G : zG} {μ : zM} {o : Nat} (hc : o = 29) {out : (Int32 × zOb)} (cx : zCX p (zrm 3) s m args c RX8 cX8_rule 1 3 G) (hret : zRi p l e (zrm 3) s m args below meth c cX8_rule G .int Q out.1 (zset μ o out.2))   : ∀ (S : zOb), f_Mo_rule_138 N S = some out → ∀ {H : Heap} {locs : List Loc} {ls : Array Slot}, zIW G s (zset μ o S) H locs → lv_has ls 1 [] → W p l e (zrm 3) s m args below meth c H locs 0 0 Q (F0 m 138 ls []) := by
  obtain ⟨hx, hb, hml, hown, hts, hK, hR⟩ := id cx
  intro S  h H locs ls hI hl
  unfold f_Mo_rule_138 at h
  refine lv_bipush (v := (-4 : Int32)) hx hb dX8_rule_138 (by decide) ?_
  exact t_Mo_rule_140 N hc cx hret S (-4 : Int32) h hI hl
def f_Mo_rule_96 (N : Nat)  (S : zOb) : Option (Int32 × zOb) :=
  (f_Mo_isWord S (nI 8) (nI 100) (nI 111) (nI 117) (nI 98)).bind (fun q6 => (if q6 = nI 0 then f_Mo_rule_138 N S else (f_Mo_isMore S ((S.1 0 25) + (nI 4)) (nI 108) (nI 105) (nI 110) (nI 103)).bind (fun q8 => (if q8 = nI 0 then f_Mo_rule_138 N S else f_Mo_rule_140 N S (nI 2)))))
set_option maxHeartbeats 4000000 in
set_option maxRecDepth 100000 in
theorem t_Mo_rule_96 (N : Nat) {p : Program} {l : Launch} {e : Env} {s : State} {m : MethodId} {args : Array Value} {below : List Frame} {meth : Method} {c : Code} {Q : State → Prop} {G : zG} {μ : zM} {o : Nat} (hc : o = 29) {out : (Int32 × zOb)} (cx : zCX p (zrm 3) s m args c RX8 cX8_rule 1 3 G) (hret : zRi p l e (zrm 3) s m args below meth c cX8_rule G .int Q out.1 (zset μ o out.2))   : ∀ (S : zOb), f_Mo_rule_96 N S = some out → ∀ {H : Heap} {locs : List Loc} {ls : Array Slot}, zIW G s (zset μ o S) H locs → lv_has ls 1 [(0, .ref (G.2.2.1 o 0))] → W p l e (zrm 3) s m args below meth c H locs 0 0 Q (F0 m 96 ls []) := by
  obtain ⟨hx, hb, hml, hown, hts, hK, hR⟩ := id cx
  intro S  h H locs ls hI hl
  unfold f_Mo_rule_96 at h
  refine lv_aload_n hx hb dX8_rule_96 rfl (lv_at hl 0 rfl) ?_
  refine lv_bipush (v := (nI 8)) hx hb dX8_rule_97 (by decide) ?_
  refine lv_bipush (v := (nI 100)) hx hb dX8_rule_99 (by decide) ?_
  refine lv_bipush (v := (nI 111)) hx hb dX8_rule_101 (by decide) ?_
  refine lv_bipush (v := (nI 117)) hx hb dX8_rule_103 (by decide) ?_
  refine lv_bipush (v := (nI 98)) hx hb dX8_rule_105 (by decide) ?_
  obtain ⟨q6, hq6, h⟩ := bi_el h
  refine zcVi (As := [.int (nI 8), .int (nI 100), .int (nI 111), .int (nI 117), .int (nI 98)]) cx hI (c_Mo_isWord hc (zset_s _ _ _) hq6) mt_yX8_isWord mv_yX8_isWord w_865 (by omega) (k8_0 hc) (zv8 hc) rfl hl.1 rfl (Nat.le_of_ble_eq_true rfl) dX8_rule_107 (fun H locs hI => ?_)
  refine lv_if_eq (tgt := 138) hx hb dX8_rule_110 (by decide) (fun c7 => ?_) (fun c7 => ?_)
  · have h := it_p h c7
    exact t_Mo_rule_138 N hc cx hret S h hI (lv_sub hl [] rfl)
  · have h := it_n h c7
    refine lv_aload_n hx hb dX8_rule_113 rfl (lv_at hl 0 rfl) ?_
    refine lv_aload_n hx hb dX8_rule_114 rfl (lv_at hl 0 rfl) ?_
    refine g8_25 cx hI hc (zset_s _ _ _) w_852 dX8_rule_115 ?_
    refine lv_iconst (v := (nI 4)) hx hb dX8_rule_118 (by decide) ?_
    refine lv_iadd hx hb dX8_rule_119 ?_
    refine lv_bipush (v := (nI 108)) hx hb dX8_rule_120 (by decide) ?_
    refine lv_bipush (v := (nI 105)) hx hb dX8_rule_122 (by decide) ?_
    refine lv_bipush (v := (nI 110)) hx hb dX8_rule_124 (by decide) ?_
    refine lv_bipush (v := (nI 103)) hx hb dX8_rule_126 (by decide) ?_
    obtain ⟨q8, hq8, h⟩ := bi_el h
    refine zcVi (As := [.int ((S.1 0 25) + (nI 4)), .int (nI 108), .int (nI 105), .int (nI 110), .int (nI 103)]) cx hI (c_Mo_isMore hc (zset_s _ _ _) hq8) mt_yX8_isMore mv_yX8_isMore w_873 (by omega) (k8_0 hc) (zv8 hc) rfl hl.1 rfl (Nat.le_of_ble_eq_true rfl) dX8_rule_128 (fun H locs hI => ?_)
    refine lv_if_eq (tgt := 138) hx hb dX8_rule_131 (by decide) (fun c9 => ?_) (fun c9 => ?_)
    · have h := it_p h c9
      exact t_Mo_rule_138 N hc cx hret S h hI (lv_sub hl [] rfl)
    · have h := it_n h c9
      refine lv_iconst (v := (nI 2)) hx hb dX8_rule_134 (by decide) ?_
      refine lv_goto (tgt := 140) hx hb dX8_rule_135 (by decide) ?_
      exact t_Mo_rule_140 N hc cx hret S (nI 2) h hI (lv_sub hl [] rfl)
def f_Mo_rule_56 (N : Nat)  (S : zOb) : Option (Int32 × zOb) :=
  (f_Mo_isWord S (nI 7) (nI 103) (nI 114) (nI 111) (nI 119)).bind (fun q4 => (if q4 = nI 0 then f_Mo_rule_96 N S else (f_Mo_isMore S ((S.1 0 25) + (nI 3)) (nI 119) (nI 105) (nI 110) (nI 103)).bind (fun q10 => (if q10 = nI 0 then f_Mo_rule_96 N S else some ((nI 1), S)))))
set_option maxHeartbeats 4000000 in
set_option maxRecDepth 100000 in
theorem t_Mo_rule_56 (N : Nat) {p : Program} {l : Launch} {e : Env} {s : State} {m : MethodId} {args : Array Value} {below : List Frame} {meth : Method} {c : Code} {Q : State → Prop} {G : zG} {μ : zM} {o : Nat} (hc : o = 29) {out : (Int32 × zOb)} (cx : zCX p (zrm 3) s m args c RX8 cX8_rule 1 3 G) (hret : zRi p l e (zrm 3) s m args below meth c cX8_rule G .int Q out.1 (zset μ o out.2))   : ∀ (S : zOb), f_Mo_rule_56 N S = some out → ∀ {H : Heap} {locs : List Loc} {ls : Array Slot}, zIW G s (zset μ o S) H locs → lv_has ls 1 [(0, .ref (G.2.2.1 o 0))] → W p l e (zrm 3) s m args below meth c H locs 0 0 Q (F0 m 56 ls []) := by
  obtain ⟨hx, hb, hml, hown, hts, hK, hR⟩ := id cx
  intro S  h H locs ls hI hl
  unfold f_Mo_rule_56 at h
  refine lv_aload_n hx hb dX8_rule_56 rfl (lv_at hl 0 rfl) ?_
  refine lv_bipush (v := (nI 7)) hx hb dX8_rule_57 (by decide) ?_
  refine lv_bipush (v := (nI 103)) hx hb dX8_rule_59 (by decide) ?_
  refine lv_bipush (v := (nI 114)) hx hb dX8_rule_61 (by decide) ?_
  refine lv_bipush (v := (nI 111)) hx hb dX8_rule_63 (by decide) ?_
  refine lv_bipush (v := (nI 119)) hx hb dX8_rule_65 (by decide) ?_
  obtain ⟨q4, hq4, h⟩ := bi_el h
  refine zcVi (As := [.int (nI 7), .int (nI 103), .int (nI 114), .int (nI 111), .int (nI 119)]) cx hI (c_Mo_isWord hc (zset_s _ _ _) hq4) mt_yX8_isWord mv_yX8_isWord w_865 (by omega) (k8_0 hc) (zv8 hc) rfl hl.1 rfl (Nat.le_of_ble_eq_true rfl) dX8_rule_67 (fun H locs hI => ?_)
  refine lv_if_eq (tgt := 96) hx hb dX8_rule_70 (by decide) (fun c5 => ?_) (fun c5 => ?_)
  · have h := it_p h c5
    exact t_Mo_rule_96 N hc cx hret S h hI hl
  · have h := it_n h c5
    refine lv_aload_n hx hb dX8_rule_73 rfl (lv_at hl 0 rfl) ?_
    refine lv_aload_n hx hb dX8_rule_74 rfl (lv_at hl 0 rfl) ?_
    refine g8_25 cx hI hc (zset_s _ _ _) w_852 dX8_rule_75 ?_
    refine lv_iconst (v := (nI 3)) hx hb dX8_rule_78 (by decide) ?_
    refine lv_iadd hx hb dX8_rule_79 ?_
    refine lv_bipush (v := (nI 119)) hx hb dX8_rule_80 (by decide) ?_
    refine lv_bipush (v := (nI 105)) hx hb dX8_rule_82 (by decide) ?_
    refine lv_bipush (v := (nI 110)) hx hb dX8_rule_84 (by decide) ?_
    refine lv_bipush (v := (nI 103)) hx hb dX8_rule_86 (by decide) ?_
    obtain ⟨q10, hq10, h⟩ := bi_el h
    refine zcVi (As := [.int ((S.1 0 25) + (nI 3)), .int (nI 119), .int (nI 105), .int (nI 110), .int (nI 103)]) cx hI (c_Mo_isMore hc (zset_s _ _ _) hq10) mt_yX8_isMore mv_yX8_isMore w_873 (by omega) (k8_0 hc) (zv8 hc) rfl hl.1 rfl (Nat.le_of_ble_eq_true rfl) dX8_rule_88 (fun H locs hI => ?_)
    refine lv_if_eq (tgt := 96) hx hb dX8_rule_91 (by decide) (fun c11 => ?_) (fun c11 => ?_)
    · have h := it_p h c11
      exact t_Mo_rule_96 N hc cx hret S h hI hl
    · have h := it_n h c11
      refine lv_iconst (v := (nI 1)) hx hb dX8_rule_94 (by decide) ?_
      obtain rfl := Option.some.inj h
      exact hret _ _ _ _ dX8_rule_95 rfl hI
def f_Mo_rule (N : Nat) (S : zOb) : Option (Int32 × zOb) :=
  (f_Mo_here N S).bind (fun q1 => (f_Mo_isWord q1.2 (nI 6) (nI 115) (nI 116) (nI 101) (nI 97)).bind (fun q2 => (if q2 = nI 0 then f_Mo_rule_56 N q1.2 else if zin ((q1.2.1 0 25) + (nI 4)) 90 then (if (q1.2.1 7 (((q1.2.1 0 25) + (nI 4)).toNatClampNeg)) = (nI 100) then if zin ((q1.2.1 0 25) + (nI 5)) 90 then (if (q1.2.1 7 (((q1.2.1 0 25) + (nI 5)).toNatClampNeg)) = (nI 121) then some ((nI 0), q1.2) else f_Mo_rule_56 N q1.2) else none else f_Mo_rule_56 N q1.2) else none)))
set_option maxHeartbeats 4000000 in
set_option maxRecDepth 100000 in
theorem c_Mo_rule (N : Nat) {l : Launch} {G : zG} {μ : zM} {o : Nat} (hc : o = 29) {S : zOb} (hS : μ o = S)  {out : (Int32 × zOb)} (h : f_Mo_rule N S  = some out) {μ' : zM} (hμ : zset μ o out.2 = μ') : zMI l G yX8_rule cX8_rule 1 (some .int) 3 [.ref (G.2.2.1 o 0)] μ out.1 μ' := by
  subst hμ
  refine zMI.of (by decide) (Nat.le_of_ble_eq_true rfl) (fun p e s m args below meth c Q ls cx hI hl hret => ?_)
  obtain ⟨hx, hb, hml, hown, hts, hK, hR⟩ := id cx
  have hl : lv_has ls 1 [(0, .ref (G.2.2.1 o 0))] := hl
  rw [← zset_idS hS] at hI
  unfold f_Mo_rule at h
  refine lv_aload_n hx hb dX8_rule_0 rfl (lv_at hl 0 rfl) ?_
  obtain ⟨q1, hq1, h⟩ := bi_el h
  refine zcVi (As := []) cx hI (c_Mo_here N hc (zset_s _ _ _) hq1 (zset_ss _ _ _ _)) mt_yX8_here mv_yX8_here w_861 (by omega) (k8_0 hc) (zv8 hc) rfl hl.1 rfl (Nat.le_of_ble_eq_true rfl) dX8_rule_1 (fun H locs hI => ?_)
  refine lv_pop hx hb dX8_rule_4 rfl ?_
  refine lv_aload_n hx hb dX8_rule_5 rfl (lv_at hl 0 rfl) ?_
  refine lv_bipush (v := (nI 6)) hx hb dX8_rule_6 (by decide) ?_
  refine lv_bipush (v := (nI 115)) hx hb dX8_rule_8 (by decide) ?_
  refine lv_bipush (v := (nI 116)) hx hb dX8_rule_10 (by decide) ?_
  refine lv_bipush (v := (nI 101)) hx hb dX8_rule_12 (by decide) ?_
  refine lv_bipush (v := (nI 97)) hx hb dX8_rule_14 (by decide) ?_
  obtain ⟨q2, hq2, h⟩ := bi_el h
  refine zcVi (As := [.int (nI 6), .int (nI 115), .int (nI 116), .int (nI 101), .int (nI 97)]) cx hI (c_Mo_isWord hc (zset_s _ _ _) hq2) mt_yX8_isWord mv_yX8_isWord w_865 (by omega) (k8_0 hc) (zv8 hc) rfl hl.1 rfl (Nat.le_of_ble_eq_true rfl) dX8_rule_16 (fun H locs hI => ?_)
  refine lv_if_eq (tgt := 56) hx hb dX8_rule_19 (by decide) (fun c3 => ?_) (fun c3 => ?_)
  · have h := it_p h c3
    exact t_Mo_rule_56 N hc cx hret q1.2 h hI hl
  · have h := it_n h c3
    refine lv_aload_n hx hb dX8_rule_22 rfl (lv_at hl 0 rfl) ?_
    refine g8_6 cx hI hc (zset_s _ _ _) w_113 dX8_rule_23 ?_
    refine lv_aload_n hx hb dX8_rule_26 rfl (lv_at hl 0 rfl) ?_
    refine g8_25 cx hI hc (zset_s _ _ _) w_852 dX8_rule_27 ?_
    refine lv_iconst (v := (nI 4)) hx hb dX8_rule_30 (by decide) ?_
    refine lv_iadd hx hb dX8_rule_31 ?_
    obtain ⟨g12, h⟩ := gd_el h
    refine zr_iald cx hI (k8_7 hc) (zset_s _ _ _) (z8_7 hc) rfl g12 dX8_rule_32 ?_
    refine lv_bipush (v := (nI 100)) hx hb dX8_rule_33 (by decide) ?_
    refine lv_icmp_ne (tgt := 56) hx hb dX8_rule_35 (by decide) (fun c13 => ?_) (fun c13 => ?_)
    · have h := it_n h c13
      exact t_Mo_rule_56 N hc cx hret q1.2 h hI hl
    · have h := it_p h c13
      refine lv_aload_n hx hb dX8_rule_38 rfl (lv_at hl 0 rfl) ?_
      refine g8_6 cx hI hc (zset_s _ _ _) w_113 dX8_rule_39 ?_
      refine lv_aload_n hx hb dX8_rule_42 rfl (lv_at hl 0 rfl) ?_
      refine g8_25 cx hI hc (zset_s _ _ _) w_852 dX8_rule_43 ?_
      refine lv_iconst (v := (nI 5)) hx hb dX8_rule_46 (by decide) ?_
      refine lv_iadd hx hb dX8_rule_47 ?_
      obtain ⟨g14, h⟩ := gd_el h
      refine zr_iald cx hI (k8_7 hc) (zset_s _ _ _) (z8_7 hc) rfl g14 dX8_rule_48 ?_
      refine lv_bipush (v := (nI 121)) hx hb dX8_rule_49 (by decide) ?_
      refine lv_icmp_ne (tgt := 56) hx hb dX8_rule_51 (by decide) (fun c15 => ?_) (fun c15 => ?_)
      · have h := it_n h c15
        exact t_Mo_rule_56 N hc cx hret q1.2 h hI hl
      · have h := it_p h c15
        refine lv_iconst (v := (nI 0)) hx hb dX8_rule_54 (by decide) ?_
        obtain rfl := Option.some.inj h
        exact hret _ _ _ _ dX8_rule_55 rfl hI
def f_Mo_takes_28 (N : Nat)  (S : zOb) (x2 : Int32) (s0 : Int32) (s1 : Int32) : Option (Int32 × zOb) :=
  bnd (zI S 0 25 (s1 + s0)) (fun Z4 => if (x2 = nI 0 ∨ x2 = nI 1) then some (x2, Z4) else none)
set_option maxHeartbeats 4000000 in
set_option maxRecDepth 100000 in
theorem t_Mo_takes_28 (N : Nat) {p : Program} {l : Launch} {e : Env} {s : State} {m : MethodId} {args : Array Value} {below : List Frame} {meth : Method} {c : Code} {Q : State → Prop} {G : zG} {μ : zM} {o : Nat} (hc : o = 29) {out : (Int32 × zOb)} (cx : zCX p (zrm 1) s m args c RX8 cX8_takes 3 1 G) (hret : zRi p l e (zrm 1) s m args below meth c cX8_takes G .boolean Q out.1 (zset μ o out.2))   : ∀ (S : zOb) (x2 : Int32) (s0 : Int32) (s1 : Int32), f_Mo_takes_28 N S x2 s0 s1 = some out → ∀ {H : Heap} {locs : List Loc} {ls : Array Slot}, zIW G s (zset μ o S) H locs → lv_has ls 3 [(2, .int x2)] → W p l e (zrm 1) s m args below meth c H locs 0 0 Q (F0 m 28 ls [.int s0, .int s1, .ref (G.2.2.1 o 0)]) := by
  obtain ⟨hx, hb, hml, hown, hts, hK, hR⟩ := id cx
  intro S x2 s0 s1  h H locs ls hI hl
  unfold f_Mo_takes_28 at h
  refine lv_iadd hx hb dX8_takes_28 ?_
  obtain ⟨Z4, eZ4⟩ : ∃ z : zOb, z = zI S 0 25 (s1 + s0) := ⟨_, rfl⟩
  have h := bnd_el h eZ4
  refine p8_25 cx hI hc (zset_s _ _ _) w_852 (zss eZ4) dX8_takes_29 (fun H locs hI => ?_)
  refine lv_iload_n hx hb dX8_takes_32 rfl (lv_at hl 0 rfl) ?_
  obtain ⟨g5, h⟩ := gd_el h
  obtain rfl := Option.some.inj h
  exact hret _ _ _ _ dX8_takes_33 (zbool g5) hI
def f_Mo_takes_13 (N : Nat)  (S : zOb) (s0 : Int32) : Option (Int32 × zOb) :=
  (if s0 = nI 0 then f_Mo_takes_28 N S s0 (nI 0) (S.1 0 25) else f_Mo_takes_28 N S s0 (nI 1) (S.1 0 25))
set_option maxHeartbeats 4000000 in
set_option maxRecDepth 100000 in
theorem t_Mo_takes_13 (N : Nat) {p : Program} {l : Launch} {e : Env} {s : State} {m : MethodId} {args : Array Value} {below : List Frame} {meth : Method} {c : Code} {Q : State → Prop} {G : zG} {μ : zM} {o : Nat} (hc : o = 29) {out : (Int32 × zOb)} (cx : zCX p (zrm 1) s m args c RX8 cX8_takes 3 1 G) (hret : zRi p l e (zrm 1) s m args below meth c cX8_takes G .boolean Q out.1 (zset μ o out.2))   : ∀ (S : zOb) (s0 : Int32), f_Mo_takes_13 N S s0 = some out → ∀ {H : Heap} {locs : List Loc} {ls : Array Slot}, zIW G s (zset μ o S) H locs → lv_has ls 3 [(0, .ref (G.2.2.1 o 0))] → W p l e (zrm 1) s m args below meth c H locs 0 0 Q (F0 m 13 ls [.int s0]) := by
  obtain ⟨hx, hb, hml, hown, hts, hK, hR⟩ := id cx
  intro S s0  h H locs ls hI hl
  unfold f_Mo_takes_13 at h
  refine lv_istore_n (lv' := [(2, .int s0), (0, .ref (G.2.2.1 o 0))]) hx hb dX8_takes_13 rfl hl (by decide) rfl (fun ls hl => ?_)
  refine lv_aload_n hx hb dX8_takes_14 rfl (lv_at hl 1 rfl) ?_
  refine lv_dup hx hb dX8_takes_15 rfl ?_
  refine g8_25 cx hI hc (zset_s _ _ _) w_852 dX8_takes_16 ?_
  refine lv_iload_n hx hb dX8_takes_19 rfl (lv_at hl 0 rfl) ?_
  refine lv_if_eq (tgt := 27) hx hb dX8_takes_20 (by decide) (fun c3 => ?_) (fun c3 => ?_)
  · have h := it_p h c3
    refine lv_iconst (v := (nI 0)) hx hb dX8_takes_27 (by decide) ?_
    exact t_Mo_takes_28 N hc cx hret S s0 (nI 0) (S.1 0 25) h hI (lv_sub hl [0] rfl)
  · have h := it_n h c3
    refine lv_iconst (v := (nI 1)) hx hb dX8_takes_23 (by decide) ?_
    refine lv_goto (tgt := 28) hx hb dX8_takes_24 (by decide) ?_
    exact t_Mo_takes_28 N hc cx hret S s0 (nI 1) (S.1 0 25) h hI (lv_sub hl [0] rfl)
def f_Mo_takes (N : Nat) (S : zOb) (a1 : Int32) : Option (Int32 × zOb) :=
  (f_Mo_here N S).bind (fun q1 => (if q1.1 = a1 then f_Mo_takes_13 N q1.2 (nI 1) else f_Mo_takes_13 N q1.2 (nI 0)))
set_option maxHeartbeats 4000000 in
set_option maxRecDepth 100000 in
theorem c_Mo_takes (N : Nat) {l : Launch} {G : zG} {μ : zM} {o : Nat} (hc : o = 29) {S : zOb} (hS : μ o = S) {a1 : Int32} {out : (Int32 × zOb)} (h : f_Mo_takes N S a1 = some out) {μ' : zM} (hμ : zset μ o out.2 = μ') : zMI l G yX8_takes cX8_takes 3 (some .boolean) 1 [.ref (G.2.2.1 o 0), .int a1] μ out.1 μ' := by
  subst hμ
  refine zMI.of (by decide) (Nat.le_of_ble_eq_true rfl) (fun p e s m args below meth c Q ls cx hI hl hret => ?_)
  obtain ⟨hx, hb, hml, hown, hts, hK, hR⟩ := id cx
  have hl : lv_has ls 3 [(0, .ref (G.2.2.1 o 0)), (1, .int a1)] := hl
  rw [← zset_idS hS] at hI
  unfold f_Mo_takes at h
  refine lv_aload_n hx hb dX8_takes_0 rfl (lv_at hl 0 rfl) ?_
  obtain ⟨q1, hq1, h⟩ := bi_el h
  refine zcVi (As := []) cx hI (c_Mo_here N hc (zset_s _ _ _) hq1 (zset_ss _ _ _ _)) mt_yX8_here mv_yX8_here w_861 (by omega) (k8_0 hc) (zv8 hc) rfl hl.1 rfl (Nat.le_of_ble_eq_true rfl) dX8_takes_1 (fun H locs hI => ?_)
  refine lv_iload_n hx hb dX8_takes_4 rfl (lv_at hl 1 rfl) ?_
  refine lv_icmp_ne (tgt := 12) hx hb dX8_takes_5 (by decide) (fun c2 => ?_) (fun c2 => ?_)
  · have h := it_n h c2
    refine lv_iconst (v := (nI 0)) hx hb dX8_takes_12 (by decide) ?_
    exact t_Mo_takes_13 N hc cx hret q1.2 (nI 0) h hI (lv_sub hl [0] rfl)
  · have h := it_p h c2
    refine lv_iconst (v := (nI 1)) hx hb dX8_takes_8 (by decide) ?_
    refine lv_goto (tgt := 13) hx hb dX8_takes_9 (by decide) ?_
    exact t_Mo_takes_13 N hc cx hret q1.2 (nI 1) h hI (lv_sub hl [0] rfl)
def f_Mo_figure (N : Nat) (S : zOb) (a1 : Int32) (a2 : Int32) : Option (Int32 × zOb) :=
  (f_Mo_here N S).bind (fun q1 => bnd (q1.1 - (nI 48)) (fun v2 => (f_Mo_in v2.toInt64 a1.toInt64 a2.toInt64).bind (fun q3 => (if q3 = nI 0 then some ((-4 : Int32), q1.2) else bnd (zI q1.2 0 25 ((q1.2.1 0 25) + (nI 1))) (fun Z5 => some (v2, Z5))))))
set_option maxHeartbeats 4000000 in
set_option maxRecDepth 100000 in
theorem c_Mo_figure (N : Nat) {l : Launch} {G : zG} {μ : zM} {o : Nat} (hc : o = 29) {S : zOb} (hS : μ o = S) {a1 : Int32} {a2 : Int32} {out : (Int32 × zOb)} (h : f_Mo_figure N S a1 a2 = some out) {μ' : zM} (hμ : zset μ o out.2 = μ') : zMI l G yX8_figure cX8_figure 4 (some .int) 1 [.ref (G.2.2.1 o 0), .int a1, .int a2] μ out.1 μ' := by
  subst hμ
  refine zMI.of (by decide) (Nat.le_of_ble_eq_true rfl) (fun p e s m args below meth c Q ls cx hI hl hret => ?_)
  obtain ⟨hx, hb, hml, hown, hts, hK, hR⟩ := id cx
  have hl : lv_has ls 4 [(0, .ref (G.2.2.1 o 0)), (1, .int a1), (2, .int a2)] := hl
  rw [← zset_idS hS] at hI
  unfold f_Mo_figure at h
  refine lv_aload_n hx hb dX8_figure_0 rfl (lv_at hl 0 rfl) ?_
  obtain ⟨q1, hq1, h⟩ := bi_el h
  refine zcVi (As := []) cx hI (c_Mo_here N hc (zset_s _ _ _) hq1 (zset_ss _ _ _ _)) mt_yX8_here mv_yX8_here w_861 (by omega) (k8_0 hc) (zv8 hc) rfl hl.1 rfl (Nat.le_of_ble_eq_true rfl) dX8_figure_1 (fun H locs hI => ?_)
  refine lv_bipush (v := (nI 48)) hx hb dX8_figure_4 (by decide) ?_
  refine lv_isub hx hb dX8_figure_6 ?_
  refine lv_topi (fun v2 ev2 => ?_)
  have h := bnd_el h ev2
  refine lv_istore_n (lv' := [(3, .int v2), (0, .ref (G.2.2.1 o 0)), (1, .int a1), (2, .int a2)]) hx hb dX8_figure_7 rfl hl (by decide) rfl (fun ls hl => ?_)
  refine lv_iload_n hx hb dX8_figure_8 rfl (lv_at hl 0 rfl) ?_
  refine lv_i2l hx hb dX8_figure_9 rfl ?_
  refine lv_iload_n hx hb dX8_figure_10 rfl (lv_at hl 2 rfl) ?_
  refine lv_i2l hx hb dX8_figure_11 rfl ?_
  refine lv_iload_n hx hb dX8_figure_12 rfl (lv_at hl 3 rfl) ?_
  refine lv_i2l hx hb dX8_figure_13 rfl ?_
  obtain ⟨q3, hq3, h⟩ := bi_el h
  refine zcSi (As := [.long v2.toInt64, .long a1.toInt64, .long a2.toInt64]) cx hI (c_Mo_in  hq3) mt_yX8_in ms_yX8_in w_179 (by omega) rfl hl.1 rfl (Nat.le_of_ble_eq_true rfl) dX8_figure_14 (fun H locs hI => ?_)
  refine lv_if_ne (tgt := 23) hx hb dX8_figure_17 (by decide) (fun c4 => ?_) (fun c4 => ?_)
  · have h := it_n h c4
    refine lv_aload_n hx hb dX8_figure_23 rfl (lv_at hl 1 rfl) ?_
    refine lv_dup hx hb dX8_figure_24 rfl ?_
    refine g8_25 cx hI hc (zset_s _ _ _) w_852 dX8_figure_25 ?_
    refine lv_iconst (v := (nI 1)) hx hb dX8_figure_28 (by decide) ?_
    refine lv_iadd hx hb dX8_figure_29 ?_
    obtain ⟨Z5, eZ5⟩ : ∃ z : zOb, z = zI q1.2 0 25 ((q1.2.1 0 25) + (nI 1)) := ⟨_, rfl⟩
    have h := bnd_el h eZ5
    refine p8_25 cx hI hc (zset_s _ _ _) w_852 (zss eZ5) dX8_figure_30 (fun H locs hI => ?_)
    refine lv_iload_n hx hb dX8_figure_33 rfl (lv_at hl 0 rfl) ?_
    obtain rfl := Option.some.inj h
    exact hret _ _ _ _ dX8_figure_34 rfl hI
  · have h := it_p h c4
    refine lv_bipush (v := (-4 : Int32)) hx hb dX8_figure_20 (by decide) ?_
    obtain rfl := Option.some.inj h
    exact hret _ _ _ _ dX8_figure_22 rfl hI
def f_Mo_readsBook_28 (N : Nat)  (S : zOb) : Option (Int32 × zOb) :=
  some ((nI 0), S)
set_option maxHeartbeats 4000000 in
set_option maxRecDepth 100000 in
theorem t_Mo_readsBook_28 (N : Nat) {p : Program} {l : Launch} {e : Env} {s : State} {m : MethodId} {args : Array Value} {below : List Frame} {meth : Method} {c : Code} {Q : State → Prop} {G : zG} {μ : zM} {o : Nat} (hc : o = 29) {out : (Int32 × zOb)} (cx : zCX p (zrm 3) s m args c RX8 cX8_readsBook 2 3 G) (hret : zRi p l e (zrm 3) s m args below meth c cX8_readsBook G .boolean Q out.1 (zset μ o out.2))   : ∀ (S : zOb), f_Mo_readsBook_28 N S = some out → ∀ {H : Heap} {locs : List Loc} {ls : Array Slot}, zIW G s (zset μ o S) H locs → lv_has ls 2 [] → W p l e (zrm 3) s m args below meth c H locs 0 0 Q (F0 m 28 ls []) := by
  obtain ⟨hx, hb, hml, hown, hts, hK, hR⟩ := id cx
  intro S  h H locs ls hI hl
  unfold f_Mo_readsBook_28 at h
  refine lv_iconst (v := (nI 0)) hx hb dX8_readsBook_28 (by decide) ?_
  obtain rfl := Option.some.inj h
  exact hret _ _ _ _ dX8_readsBook_29 (zbool (Or.inl rfl)) hI
def f_Mo_readsBook_90 (N : Nat)  (S : zOb) (s0 : Int32) : Option (Int32 × zOb) :=
  if (s0 = nI 0 ∨ s0 = nI 1) then some (s0, S) else none
set_option maxHeartbeats 4000000 in
set_option maxRecDepth 100000 in
theorem t_Mo_readsBook_90 (N : Nat) {p : Program} {l : Launch} {e : Env} {s : State} {m : MethodId} {args : Array Value} {below : List Frame} {meth : Method} {c : Code} {Q : State → Prop} {G : zG} {μ : zM} {o : Nat} (hc : o = 29) {out : (Int32 × zOb)} (cx : zCX p (zrm 3) s m args c RX8 cX8_readsBook 2 3 G) (hret : zRi p l e (zrm 3) s m args below meth c cX8_readsBook G .boolean Q out.1 (zset μ o out.2))   : ∀ (S : zOb) (s0 : Int32), f_Mo_readsBook_90 N S s0 = some out → ∀ {H : Heap} {locs : List Loc} {ls : Array Slot}, zIW G s (zset μ o S) H locs → lv_has ls 2 [] → W p l e (zrm 3) s m args below meth c H locs 0 0 Q (F0 m 90 ls [.int s0]) := by
  obtain ⟨hx, hb, hml, hown, hts, hK, hR⟩ := id cx
  intro S s0  h H locs ls hI hl
  unfold f_Mo_readsBook_90 at h
  obtain ⟨g9, h⟩ := gd_el h
  obtain rfl := Option.some.inj h
  exact hret _ _ _ _ dX8_readsBook_90 (zbool g9) hI
def f_Mo_readsBook_32 (N : Nat)  : Nat → zOb → Int32 → Option (Int32 × zOb)
  | 0, _, _ => none
  | n + 1, S, x1 => (f_Mo_isAt S (S.1 0 25) (nI 97) (nI 116)).bind (fun q5 => (if q5 = nI 0 then (f_Mo_adds S x1).bind (fun q7 => (if q7.1 < nI 0 then f_Mo_readsBook_90 N q7.2 (nI 0) else f_Mo_readsBook_90 N q7.2 (nI 1))) else if zin (S.1 0 25) 90 then bnd (x1 ||| ((nI 1) <<< (((S.1 7 ((S.1 0 25).toNatClampNeg)) - (nI 97)) &&& 31))) (fun v11 => bnd (zI S 0 25 ((S.1 0 25) + (nI 1))) (fun Z12 => f_Mo_readsBook_32 N n Z12 v11)) else none))
set_option maxHeartbeats 4000000 in
set_option maxRecDepth 100000 in
theorem t_Mo_readsBook_32 (N : Nat) {p : Program} {l : Launch} {e : Env} {s : State} {m : MethodId} {args : Array Value} {below : List Frame} {meth : Method} {c : Code} {Q : State → Prop} {G : zG} {μ : zM} {o : Nat} (hc : o = 29) {out : (Int32 × zOb)} (cx : zCX p (zrm 3) s m args c RX8 cX8_readsBook 2 3 G) (hret : zRi p l e (zrm 3) s m args below meth c cX8_readsBook G .boolean Q out.1 (zset μ o out.2))   : ∀ (n : Nat) (S : zOb) (x1 : Int32), f_Mo_readsBook_32 N n S x1 = some out → ∀ {H : Heap} {locs : List Loc} {ls : Array Slot}, zIW G s (zset μ o S) H locs → lv_has ls 2 [(0, .ref (G.2.2.1 o 0)), (1, .int x1)] → W p l e (zrm 3) s m args below meth c H locs 0 0 Q (F0 m 32 ls []) := by
  obtain ⟨hx, hb, hml, hown, hts, hK, hR⟩ := id cx
  intro n
  induction n with
  | zero =>
    intro S x1  h
    cases h
  | succ n ih =>
    intro S x1  h H locs ls hI hl
    rw [f_Mo_readsBook_32] at h
    refine lv_aload_n hx hb dX8_readsBook_32 rfl (lv_at hl 0 rfl) ?_
    refine lv_aload_n hx hb dX8_readsBook_33 rfl (lv_at hl 0 rfl) ?_
    refine g8_25 cx hI hc (zset_s _ _ _) w_852 dX8_readsBook_34 ?_
    refine lv_bipush (v := (nI 97)) hx hb dX8_readsBook_37 (by decide) ?_
    refine lv_bipush (v := (nI 116)) hx hb dX8_readsBook_39 (by decide) ?_
    obtain ⟨q5, hq5, h⟩ := bi_el h
    refine zcVi (As := [.int (S.1 0 25), .int (nI 97), .int (nI 116)]) cx hI (c_Mo_isAt hc (zset_s _ _ _) hq5) mt_yX8_isAt mv_yX8_isAt w_869 (by omega) (k8_0 hc) (zv8 hc) rfl hl.1 rfl (Nat.le_of_ble_eq_true rfl) dX8_readsBook_41 (fun H locs hI => ?_)
    refine lv_if_eq (tgt := 77) hx hb dX8_readsBook_44 (by decide) (fun c6 => ?_) (fun c6 => ?_)
    · have h := it_p h c6
      refine lv_aload_n hx hb dX8_readsBook_77 rfl (lv_at hl 0 rfl) ?_
      refine lv_iload_n hx hb dX8_readsBook_78 rfl (lv_at hl 1 rfl) ?_
      obtain ⟨q7, hq7, h⟩ := bi_el h
      refine zcVi (As := [.int x1]) cx hI (c_Mo_adds hc (zset_s _ _ _) hq7 (zset_ss _ _ _ _)) mt_yX8_adds mv_yX8_adds w_171 (by omega) (k8_0 hc) (zv8 hc) rfl hl.1 rfl (Nat.le_of_ble_eq_true rfl) dX8_readsBook_79 (fun H locs hI => ?_)
      refine lv_if_lt (tgt := 89) hx hb dX8_readsBook_82 (by decide) (fun c8 => ?_) (fun c8 => ?_)
      · have h := it_p h c8
        refine lv_iconst (v := (nI 0)) hx hb dX8_readsBook_89 (by decide) ?_
        exact t_Mo_readsBook_90 N hc cx hret q7.2 (nI 0) h hI (lv_sub hl [] rfl)
      · have h := it_n h c8
        refine lv_iconst (v := (nI 1)) hx hb dX8_readsBook_85 (by decide) ?_
        refine lv_goto (tgt := 90) hx hb dX8_readsBook_86 (by decide) ?_
        exact t_Mo_readsBook_90 N hc cx hret q7.2 (nI 1) h hI (lv_sub hl [] rfl)
    · have h := it_n h c6
      refine lv_iload_n hx hb dX8_readsBook_47 rfl (lv_at hl 1 rfl) ?_
      refine lv_iconst (v := (nI 1)) hx hb dX8_readsBook_48 (by decide) ?_
      refine lv_aload_n hx hb dX8_readsBook_49 rfl (lv_at hl 0 rfl) ?_
      refine g8_6 cx hI hc (zset_s _ _ _) w_113 dX8_readsBook_50 ?_
      refine lv_aload_n hx hb dX8_readsBook_53 rfl (lv_at hl 0 rfl) ?_
      refine g8_25 cx hI hc (zset_s _ _ _) w_852 dX8_readsBook_54 ?_
      obtain ⟨g10, h⟩ := gd_el h
      refine zr_iald cx hI (k8_7 hc) (zset_s _ _ _) (z8_7 hc) rfl g10 dX8_readsBook_57 ?_
      refine lv_bipush (v := (nI 97)) hx hb dX8_readsBook_58 (by decide) ?_
      refine lv_isub hx hb dX8_readsBook_60 ?_
      refine lv_ishl hx hb dX8_readsBook_61 ?_
      refine lv_ior hx hb dX8_readsBook_62 ?_
      refine lv_topi (fun v11 ev11 => ?_)
      have h := bnd_el h ev11
      refine lv_istore_n (lv' := [(1, .int v11), (0, .ref (G.2.2.1 o 0))]) hx hb dX8_readsBook_63 rfl hl (by decide) rfl (fun ls hl => ?_)
      refine lv_aload_n hx hb dX8_readsBook_64 rfl (lv_at hl 1 rfl) ?_
      refine lv_dup hx hb dX8_readsBook_65 rfl ?_
      refine g8_25 cx hI hc (zset_s _ _ _) w_852 dX8_readsBook_66 ?_
      refine lv_iconst (v := (nI 1)) hx hb dX8_readsBook_69 (by decide) ?_
      refine lv_iadd hx hb dX8_readsBook_70 ?_
      obtain ⟨Z12, eZ12⟩ : ∃ z : zOb, z = zI S 0 25 ((S.1 0 25) + (nI 1)) := ⟨_, rfl⟩
      have h := bnd_el h eZ12
      refine p8_25 cx hI hc (zset_s _ _ _) w_852 (zss eZ12) dX8_readsBook_71 (fun H locs hI => ?_)
      refine lv_goto (tgt := 32) hx hb dX8_readsBook_74 (by decide) ?_
      exact ih Z12 v11 h hI (lv_sub hl [1, 0] rfl)
def f_Mo_readsBook (N : Nat) (S : zOb) : Option (Int32 × zOb) :=
  (f_Mo_here N S).bind (fun q1 => (f_Mo_in q1.1.toInt64 (97 : Int64) (116 : Int64)).bind (fun q2 => (if q2 = nI 0 then f_Mo_readsBook_28 N q1.2 else (if (q1.2.1 1 0) = (nI 7) then f_Mo_readsBook_28 N q1.2 else f_Mo_readsBook_32 N N q1.2 (nI 0)))))
set_option maxHeartbeats 4000000 in
set_option maxRecDepth 100000 in
theorem c_Mo_readsBook (N : Nat) {l : Launch} {G : zG} {μ : zM} {o : Nat} (hc : o = 29) {S : zOb} (hS : μ o = S)  {out : (Int32 × zOb)} (h : f_Mo_readsBook N S  = some out) {μ' : zM} (hμ : zset μ o out.2 = μ') : zMI l G yX8_readsBook cX8_readsBook 2 (some .boolean) 3 [.ref (G.2.2.1 o 0)] μ out.1 μ' := by
  subst hμ
  refine zMI.of (by decide) (Nat.le_of_ble_eq_true rfl) (fun p e s m args below meth c Q ls cx hI hl hret => ?_)
  obtain ⟨hx, hb, hml, hown, hts, hK, hR⟩ := id cx
  have hl : lv_has ls 2 [(0, .ref (G.2.2.1 o 0))] := hl
  rw [← zset_idS hS] at hI
  unfold f_Mo_readsBook at h
  refine lv_aload_n hx hb dX8_readsBook_0 rfl (lv_at hl 0 rfl) ?_
  obtain ⟨q1, hq1, h⟩ := bi_el h
  refine zcVi (As := []) cx hI (c_Mo_here N hc (zset_s _ _ _) hq1 (zset_ss _ _ _ _)) mt_yX8_here mv_yX8_here w_861 (by omega) (k8_0 hc) (zv8 hc) rfl hl.1 rfl (Nat.le_of_ble_eq_true rfl) dX8_readsBook_1 (fun H locs hI => ?_)
  refine lv_i2l hx hb dX8_readsBook_4 rfl ?_
  refine lv_ldc2 (v := (97 : Int64)) hx hb hown (hts _ w_889) dX8_readsBook_5 ?_
  refine lv_ldc2 (v := (116 : Int64)) hx hb hown (hts _ w_890) dX8_readsBook_8 ?_
  obtain ⟨q2, hq2, h⟩ := bi_el h
  refine zcSi (As := [.long q1.1.toInt64, .long (97 : Int64), .long (116 : Int64)]) cx hI (c_Mo_in  hq2) mt_yX8_in ms_yX8_in w_179 (by omega) rfl hl.1 rfl (Nat.le_of_ble_eq_true rfl) dX8_readsBook_11 (fun H locs hI => ?_)
  refine lv_if_eq (tgt := 28) hx hb dX8_readsBook_14 (by decide) (fun c3 => ?_) (fun c3 => ?_)
  · have h := it_p h c3
    exact t_Mo_readsBook_28 N hc cx hret q1.2 h hI (lv_sub hl [] rfl)
  · have h := it_n h c3
    refine lv_aload_n hx hb dX8_readsBook_17 rfl (lv_at hl 0 rfl) ?_
    refine g8_0 cx hI hc (zset_s _ _ _) w_108 dX8_readsBook_18 ?_
    refine lv_iconst (v := (nI 0)) hx hb dX8_readsBook_21 (by decide) ?_
    refine zr_iald cx hI (k8_1 hc) (zset_s _ _ _) (z8_1 hc) rfl (by decide) dX8_readsBook_22 ?_
    refine lv_bipush (v := (nI 7)) hx hb dX8_readsBook_23 (by decide) ?_
    refine lv_icmp_ne (tgt := 30) hx hb dX8_readsBook_25 (by decide) (fun c4 => ?_) (fun c4 => ?_)
    · have h := it_n h c4
      refine lv_iconst (v := (nI 0)) hx hb dX8_readsBook_30 (by decide) ?_
      refine lv_istore_n (lv' := [(1, .int (nI 0)), (0, .ref (G.2.2.1 o 0))]) hx hb dX8_readsBook_31 rfl hl (by decide) rfl (fun ls hl => ?_)
      exact t_Mo_readsBook_32 N hc cx hret N q1.2 (nI 0) h hI (lv_sub hl [1, 0] rfl)
    · have h := it_p h c4
      exact t_Mo_readsBook_28 N hc cx hret q1.2 h hI (lv_sub hl [] rfl)
def f_Mo_readsPair_61 (N : Nat)  (S : zOb) : Option (Int32 × zOb) :=
  some ((nI 0), S)
set_option maxHeartbeats 4000000 in
set_option maxRecDepth 100000 in
theorem t_Mo_readsPair_61 (N : Nat) {p : Program} {l : Launch} {e : Env} {s : State} {m : MethodId} {args : Array Value} {below : List Frame} {meth : Method} {c : Code} {Q : State → Prop} {G : zG} {μ : zM} {o : Nat} (hc : o = 29) {out : (Int32 × zOb)} (cx : zCX p (zrm 3) s m args c RX8 cX8_readsPair 3 3 G) (hret : zRi p l e (zrm 3) s m args below meth c cX8_readsPair G .boolean Q out.1 (zset μ o out.2))   : ∀ (S : zOb), f_Mo_readsPair_61 N S = some out → ∀ {H : Heap} {locs : List Loc} {ls : Array Slot}, zIW G s (zset μ o S) H locs → lv_has ls 3 [] → W p l e (zrm 3) s m args below meth c H locs 0 0 Q (F0 m 61 ls []) := by
  obtain ⟨hx, hb, hml, hown, hts, hK, hR⟩ := id cx
  intro S  h H locs ls hI hl
  unfold f_Mo_readsPair_61 at h
  refine lv_iconst (v := (nI 0)) hx hb dX8_readsPair_61 (by decide) ?_
  obtain rfl := Option.some.inj h
  exact hret _ _ _ _ dX8_readsPair_62 (zbool (Or.inl rfl)) hI
def f_Mo_readsPair (N : Nat) (S : zOb) : Option (Int32 × zOb) :=
  (f_Mo_figure N S (nI 0) ((S.1 1 0) - (nI 1))).bind (fun q1 => bnd q1.1 (fun v2 => (if nI 0 ≤ v2 then (f_Mo_here N q1.2).bind (fun q4 => bnd (q4.1 - (nI 48)) (fun v5 => (f_Mo_isBook q4.2 v5).bind (fun q6 => (if q6 = nI 0 then f_Mo_readsPair_61 N q4.2 else if zin ((nI 20) + v2) 27 then (f_Mo_has (q4.2.1 1 (((nI 20) + v2).toNatClampNeg)) v5).bind (fun q9 => (if q9 = nI 0 then (f_Mo_puts N q4.2 v2 v5).bind (fun q11 => (if nI 0 ≤ q11.1 then bnd (zI q11.2 0 25 ((q11.2.1 0 25) + (nI 1))) (fun Z13 => some ((nI 1), Z13)) else f_Mo_readsPair_61 N q11.2)) else f_Mo_readsPair_61 N q4.2)) else none)))) else some ((nI 0), q1.2))))
set_option maxHeartbeats 4000000 in
set_option maxRecDepth 100000 in
theorem c_Mo_readsPair (N : Nat) {l : Launch} {G : zG} {μ : zM} {o : Nat} (hc : o = 29) {S : zOb} (hS : μ o = S)  {out : (Int32 × zOb)} (h : f_Mo_readsPair N S  = some out) {μ' : zM} (hμ : zset μ o out.2 = μ') : zMI l G yX8_readsPair cX8_readsPair 3 (some .boolean) 3 [.ref (G.2.2.1 o 0)] μ out.1 μ' := by
  subst hμ
  refine zMI.of (by decide) (Nat.le_of_ble_eq_true rfl) (fun p e s m args below meth c Q ls cx hI hl hret => ?_)
  obtain ⟨hx, hb, hml, hown, hts, hK, hR⟩ := id cx
  have hl : lv_has ls 3 [(0, .ref (G.2.2.1 o 0))] := hl
  rw [← zset_idS hS] at hI
  unfold f_Mo_readsPair at h
  refine lv_aload_n hx hb dX8_readsPair_0 rfl (lv_at hl 0 rfl) ?_
  refine lv_iconst (v := (nI 0)) hx hb dX8_readsPair_1 (by decide) ?_
  refine lv_aload_n hx hb dX8_readsPair_2 rfl (lv_at hl 0 rfl) ?_
  refine g8_0 cx hI hc (zset_s _ _ _) w_108 dX8_readsPair_3 ?_
  refine lv_iconst (v := (nI 0)) hx hb dX8_readsPair_6 (by decide) ?_
  refine zr_iald cx hI (k8_1 hc) (zset_s _ _ _) (z8_1 hc) rfl (by decide) dX8_readsPair_7 ?_
  refine lv_iconst (v := (nI 1)) hx hb dX8_readsPair_8 (by decide) ?_
  refine lv_isub hx hb dX8_readsPair_9 ?_
  obtain ⟨q1, hq1, h⟩ := bi_el h
  refine zcVi (As := [.int (nI 0), .int ((S.1 1 0) - (nI 1))]) cx hI (c_Mo_figure N hc (zset_s _ _ _) hq1 (zset_ss _ _ _ _)) mt_yX8_figure mv_yX8_figure w_877 (by omega) (k8_0 hc) (zv8 hc) rfl hl.1 rfl (Nat.le_of_ble_eq_true rfl) dX8_readsPair_10 (fun H locs hI => ?_)
  refine lv_topi (fun v2 ev2 => ?_)
  have h := bnd_el h ev2
  refine lv_istore_n (lv' := [(1, .int v2), (0, .ref (G.2.2.1 o 0))]) hx hb dX8_readsPair_13 rfl hl (by decide) rfl (fun ls hl => ?_)
  refine lv_iload_n hx hb dX8_readsPair_14 rfl (lv_at hl 0 rfl) ?_
  refine lv_if_ge (tgt := 20) hx hb dX8_readsPair_15 (by decide) (fun c3 => ?_) (fun c3 => ?_)
  · have h := it_p h c3
    refine lv_aload_n hx hb dX8_readsPair_20 rfl (lv_at hl 1 rfl) ?_
    obtain ⟨q4, hq4, h⟩ := bi_el h
    refine zcVi (As := []) cx hI (c_Mo_here N hc (zset_s _ _ _) hq4 (zset_ss _ _ _ _)) mt_yX8_here mv_yX8_here w_861 (by omega) (k8_0 hc) (zv8 hc) rfl hl.1 rfl (Nat.le_of_ble_eq_true rfl) dX8_readsPair_21 (fun H locs hI => ?_)
    refine lv_bipush (v := (nI 48)) hx hb dX8_readsPair_24 (by decide) ?_
    refine lv_isub hx hb dX8_readsPair_26 ?_
    refine lv_topi (fun v5 ev5 => ?_)
    have h := bnd_el h ev5
    refine lv_istore_n (lv' := [(2, .int v5), (1, .int v2), (0, .ref (G.2.2.1 o 0))]) hx hb dX8_readsPair_27 rfl hl (by decide) rfl (fun ls hl => ?_)
    refine lv_aload_n hx hb dX8_readsPair_28 rfl (lv_at hl 2 rfl) ?_
    refine lv_iload_n hx hb dX8_readsPair_29 rfl (lv_at hl 0 rfl) ?_
    obtain ⟨q6, hq6, h⟩ := bi_el h
    refine zcVi (As := [.int v5]) cx hI (c_Mo_isBook hc (zset_s _ _ _) hq6) mt_yX8_isBook mv_yX8_isBook w_211 (by omega) (k8_0 hc) (zv8 hc) rfl hl.1 rfl (Nat.le_of_ble_eq_true rfl) dX8_readsPair_30 (fun H locs hI => ?_)
    refine lv_if_eq (tgt := 61) hx hb dX8_readsPair_33 (by decide) (fun c7 => ?_) (fun c7 => ?_)
    · have h := it_p h c7
      exact t_Mo_readsPair_61 N hc cx hret q4.2 h hI (lv_sub hl [] rfl)
    · have h := it_n h c7
      refine lv_aload_n hx hb dX8_readsPair_36 rfl (lv_at hl 2 rfl) ?_
      refine g8_0 cx hI hc (zset_s _ _ _) w_108 dX8_readsPair_37 ?_
      refine lv_bipush (v := (nI 20)) hx hb dX8_readsPair_40 (by decide) ?_
      refine lv_iload_n hx hb dX8_readsPair_42 rfl (lv_at hl 1 rfl) ?_
      refine lv_iadd hx hb dX8_readsPair_43 ?_
      obtain ⟨g8, h⟩ := gd_el h
      refine zr_iald cx hI (k8_1 hc) (zset_s _ _ _) (z8_1 hc) rfl g8 dX8_readsPair_44 ?_
      refine lv_iload_n hx hb dX8_readsPair_45 rfl (lv_at hl 0 rfl) ?_
      obtain ⟨q9, hq9, h⟩ := bi_el h
      refine zcSi (As := [.int (q4.2.1 1 (((nI 20) + v2).toNatClampNeg)), .int v5]) cx hI (c_Mo_has  hq9) mt_yX8_has ms_yX8_has w_275 (by omega) rfl hl.1 rfl (Nat.le_of_ble_eq_true rfl) dX8_readsPair_46 (fun H locs hI => ?_)
      refine lv_if_ne (tgt := 61) hx hb dX8_readsPair_49 (by decide) (fun c10 => ?_) (fun c10 => ?_)
      · have h := it_n h c10
        exact t_Mo_readsPair_61 N hc cx hret q4.2 h hI (lv_sub hl [] rfl)
      · have h := it_p h c10
        refine lv_aload_n hx hb dX8_readsPair_52 rfl (lv_at hl 2 rfl) ?_
        refine lv_iload_n hx hb dX8_readsPair_53 rfl (lv_at hl 1 rfl) ?_
        refine lv_iload_n hx hb dX8_readsPair_54 rfl (lv_at hl 0 rfl) ?_
        obtain ⟨q11, hq11, h⟩ := bi_el h
        refine zcVi (As := [.int v2, .int v5]) cx hI (c_Mo_puts N hc (zset_s _ _ _) hq11 (zset_ss _ _ _ _)) mt_yX8_puts mv_yX8_puts w_271 (by omega) (k8_0 hc) (zv8 hc) rfl hl.1 rfl (Nat.le_of_ble_eq_true rfl) dX8_readsPair_55 (fun H locs hI => ?_)
        refine lv_if_ge (tgt := 63) hx hb dX8_readsPair_58 (by decide) (fun c12 => ?_) (fun c12 => ?_)
        · have h := it_p h c12
          refine lv_aload_n hx hb dX8_readsPair_63 rfl (lv_at hl 2 rfl) ?_
          refine lv_dup hx hb dX8_readsPair_64 rfl ?_
          refine g8_25 cx hI hc (zset_s _ _ _) w_852 dX8_readsPair_65 ?_
          refine lv_iconst (v := (nI 1)) hx hb dX8_readsPair_68 (by decide) ?_
          refine lv_iadd hx hb dX8_readsPair_69 ?_
          obtain ⟨Z13, eZ13⟩ : ∃ z : zOb, z = zI q11.2 0 25 ((q11.2.1 0 25) + (nI 1)) := ⟨_, rfl⟩
          have h := bnd_el h eZ13
          refine p8_25 cx hI hc (zset_s _ _ _) w_852 (zss eZ13) dX8_readsPair_70 (fun H locs hI => ?_)
          refine lv_iconst (v := (nI 1)) hx hb dX8_readsPair_73 (by decide) ?_
          obtain rfl := Option.some.inj h
          exact hret _ _ _ _ dX8_readsPair_74 (zbool (Or.inr rfl)) hI
        · have h := it_n h c12
          exact t_Mo_readsPair_61 N hc cx hret q11.2 h hI (lv_sub hl [] rfl)
  · have h := it_n h c3
    refine lv_iconst (v := (nI 0)) hx hb dX8_readsPair_18 (by decide) ?_
    obtain rfl := Option.some.inj h
    exact hret _ _ _ _ dX8_readsPair_19 (zbool (Or.inl rfl)) hI
def f_Mo_readsAll_49 (N : Nat)  (S : zOb) : Option (Int32 × zOb) :=
  some ((nI 0), S)
set_option maxHeartbeats 4000000 in
set_option maxRecDepth 100000 in
theorem t_Mo_readsAll_49 (N : Nat) {p : Program} {l : Launch} {e : Env} {s : State} {m : MethodId} {args : Array Value} {below : List Frame} {meth : Method} {c : Code} {Q : State → Prop} {G : zG} {μ : zM} {o : Nat} (hc : o = 29) {out : (Int32 × zOb)} (cx : zCX p (zrm 4) s m args c RX8 cX8_readsAll 4 4 G) (hret : zRi p l e (zrm 4) s m args below meth c cX8_readsAll G .boolean Q out.1 (zset μ o out.2))   : ∀ (S : zOb), f_Mo_readsAll_49 N S = some out → ∀ {H : Heap} {locs : List Loc} {ls : Array Slot}, zIW G s (zset μ o S) H locs → lv_has ls 4 [] → W p l e (zrm 4) s m args below meth c H locs 0 0 Q (F0 m 49 ls []) := by
  obtain ⟨hx, hb, hml, hown, hts, hK, hR⟩ := id cx
  intro S  h H locs ls hI hl
  unfold f_Mo_readsAll_49 at h
  refine lv_iconst (v := (nI 0)) hx hb dX8_readsAll_49 (by decide) ?_
  obtain rfl := Option.some.inj h
  exact hret _ _ _ _ dX8_readsAll_50 (zbool (Or.inl rfl)) hI
def f_Mo_readsAll_161 (N : Nat)  (S : zOb) (s0 : Int32) : Option (Int32 × zOb) :=
  if (s0 = nI 0 ∨ s0 = nI 1) then some (s0, S) else none
set_option maxHeartbeats 4000000 in
set_option maxRecDepth 100000 in
theorem t_Mo_readsAll_161 (N : Nat) {p : Program} {l : Launch} {e : Env} {s : State} {m : MethodId} {args : Array Value} {below : List Frame} {meth : Method} {c : Code} {Q : State → Prop} {G : zG} {μ : zM} {o : Nat} (hc : o = 29) {out : (Int32 × zOb)} (cx : zCX p (zrm 4) s m args c RX8 cX8_readsAll 4 4 G) (hret : zRi p l e (zrm 4) s m args below meth c cX8_readsAll G .boolean Q out.1 (zset μ o out.2))   : ∀ (S : zOb) (s0 : Int32), f_Mo_readsAll_161 N S s0 = some out → ∀ {H : Heap} {locs : List Loc} {ls : Array Slot}, zIW G s (zset μ o S) H locs → lv_has ls 4 [] → W p l e (zrm 4) s m args below meth c H locs 0 0 Q (F0 m 161 ls [.int s0]) := by
  obtain ⟨hx, hb, hml, hown, hts, hK, hR⟩ := id cx
  intro S s0  h H locs ls hI hl
  unfold f_Mo_readsAll_161 at h
  obtain ⟨g21, h⟩ := gd_el h
  obtain rfl := Option.some.inj h
  exact hret _ _ _ _ dX8_readsAll_161 (zbool g21) hI
def f_Mo_readsAll_126 (N : Nat)  : Nat → zOb → Int32 → Option (Int32 × zOb)
  | 0, _, _ => none
  | n + 1, S, x3 => (if x3 = nI 0 then (f_Mo_here N S).bind (fun q19 => (if q19.1 = nI 0 then f_Mo_readsAll_161 N q19.2 (nI 1) else f_Mo_readsAll_161 N q19.2 (nI 0))) else (f_Mo_readsPair N S).bind (fun q22 => (if q22.1 = nI 0 then some ((nI 0), q22.2) else (f_Mo_takes N q22.2 (nI 44)).bind (fun q24 => bnd q24.1 (fun v25 => f_Mo_readsAll_126 N n q24.2 v25)))))
set_option maxHeartbeats 4000000 in
set_option maxRecDepth 100000 in
theorem t_Mo_readsAll_126 (N : Nat) {p : Program} {l : Launch} {e : Env} {s : State} {m : MethodId} {args : Array Value} {below : List Frame} {meth : Method} {c : Code} {Q : State → Prop} {G : zG} {μ : zM} {o : Nat} (hc : o = 29) {out : (Int32 × zOb)} (cx : zCX p (zrm 4) s m args c RX8 cX8_readsAll 4 4 G) (hret : zRi p l e (zrm 4) s m args below meth c cX8_readsAll G .boolean Q out.1 (zset μ o out.2))   : ∀ (n : Nat) (S : zOb) (x3 : Int32), f_Mo_readsAll_126 N n S x3 = some out → ∀ {H : Heap} {locs : List Loc} {ls : Array Slot}, zIW G s (zset μ o S) H locs → lv_has ls 4 [(0, .ref (G.2.2.1 o 0)), (3, .int x3)] → W p l e (zrm 4) s m args below meth c H locs 0 0 Q (F0 m 126 ls []) := by
  obtain ⟨hx, hb, hml, hown, hts, hK, hR⟩ := id cx
  intro n
  induction n with
  | zero =>
    intro S x3  h
    cases h
  | succ n ih =>
    intro S x3  h H locs ls hI hl
    rw [f_Mo_readsAll_126] at h
    refine lv_iload_n hx hb dX8_readsAll_126 rfl (lv_at hl 1 rfl) ?_
    refine lv_if_eq (tgt := 149) hx hb dX8_readsAll_127 (by decide) (fun c18 => ?_) (fun c18 => ?_)
    · have h := it_p h c18
      refine lv_aload_n hx hb dX8_readsAll_149 rfl (lv_at hl 0 rfl) ?_
      obtain ⟨q19, hq19, h⟩ := bi_el h
      refine zcVi (As := []) cx hI (c_Mo_here N hc (zset_s _ _ _) hq19 (zset_ss _ _ _ _)) mt_yX8_here mv_yX8_here w_861 (by omega) (k8_0 hc) (zv8 hc) rfl hl.1 rfl (Nat.le_of_ble_eq_true rfl) dX8_readsAll_150 (fun H locs hI => ?_)
      refine lv_if_ne (tgt := 160) hx hb dX8_readsAll_153 (by decide) (fun c20 => ?_) (fun c20 => ?_)
      · have h := it_n h c20
        refine lv_iconst (v := (nI 0)) hx hb dX8_readsAll_160 (by decide) ?_
        exact t_Mo_readsAll_161 N hc cx hret q19.2 (nI 0) h hI (lv_sub hl [] rfl)
      · have h := it_p h c20
        refine lv_iconst (v := (nI 1)) hx hb dX8_readsAll_156 (by decide) ?_
        refine lv_goto (tgt := 161) hx hb dX8_readsAll_157 (by decide) ?_
        exact t_Mo_readsAll_161 N hc cx hret q19.2 (nI 1) h hI (lv_sub hl [] rfl)
    · have h := it_n h c18
      refine lv_aload_n hx hb dX8_readsAll_130 rfl (lv_at hl 0 rfl) ?_
      obtain ⟨q22, hq22, h⟩ := bi_el h
      refine zcVi (As := []) cx hI (c_Mo_readsPair N hc (zset_s _ _ _) hq22 (zset_ss _ _ _ _)) mt_yX8_readsPair mv_yX8_readsPair w_891 (by omega) (k8_0 hc) (zv8 hc) rfl hl.1 rfl (Nat.le_of_ble_eq_true rfl) dX8_readsAll_131 (fun H locs hI => ?_)
      refine lv_if_ne (tgt := 139) hx hb dX8_readsAll_134 (by decide) (fun c23 => ?_) (fun c23 => ?_)
      · have h := it_n h c23
        refine lv_aload_n hx hb dX8_readsAll_139 rfl (lv_at hl 0 rfl) ?_
        refine lv_bipush (v := (nI 44)) hx hb dX8_readsAll_140 (by decide) ?_
        obtain ⟨q24, hq24, h⟩ := bi_el h
        refine zcVi (As := [.int (nI 44)]) cx hI (c_Mo_takes N hc (zset_s _ _ _) hq24 (zset_ss _ _ _ _)) mt_yX8_takes mv_yX8_takes w_881 (by omega) (k8_0 hc) (zv8 hc) rfl hl.1 rfl (Nat.le_of_ble_eq_true rfl) dX8_readsAll_142 (fun H locs hI => ?_)
        refine lv_topi (fun v25 ev25 => ?_)
        have h := bnd_el h ev25
        refine lv_istore_n (lv' := [(3, .int v25), (0, .ref (G.2.2.1 o 0))]) hx hb dX8_readsAll_145 rfl hl (by decide) rfl (fun ls hl => ?_)
        refine lv_goto (tgt := 126) hx hb dX8_readsAll_146 (by decide) ?_
        exact ih q24.2 v25 h hI (lv_sub hl [1, 0] rfl)
      · have h := it_p h c23
        refine lv_iconst (v := (nI 0)) hx hb dX8_readsAll_137 (by decide) ?_
        obtain rfl := Option.some.inj h
        exact hret _ _ _ _ dX8_readsAll_138 (zbool (Or.inl rfl)) hI
def f_Mo_readsAll_96 (N : Nat)  : Nat → zOb → Int32 → Option (Int32 × zOb)
  | 0, _, _ => none
  | n + 1, S, x3 => (if x3 = nI 0 then (f_Mo_takes N S (nI 59)).bind (fun q16 => bnd q16.1 (fun v17 => f_Mo_readsAll_126 N N q16.2 v17)) else (f_Mo_readsBook N S).bind (fun q26 => (if q26.1 = nI 0 then some ((nI 0), q26.2) else (f_Mo_takes N q26.2 (nI 44)).bind (fun q28 => bnd q28.1 (fun v29 => f_Mo_readsAll_96 N n q28.2 v29)))))
set_option maxHeartbeats 4000000 in
set_option maxRecDepth 100000 in
theorem t_Mo_readsAll_96 (N : Nat) {p : Program} {l : Launch} {e : Env} {s : State} {m : MethodId} {args : Array Value} {below : List Frame} {meth : Method} {c : Code} {Q : State → Prop} {G : zG} {μ : zM} {o : Nat} (hc : o = 29) {out : (Int32 × zOb)} (cx : zCX p (zrm 4) s m args c RX8 cX8_readsAll 4 4 G) (hret : zRi p l e (zrm 4) s m args below meth c cX8_readsAll G .boolean Q out.1 (zset μ o out.2))   : ∀ (n : Nat) (S : zOb) (x3 : Int32), f_Mo_readsAll_96 N n S x3 = some out → ∀ {H : Heap} {locs : List Loc} {ls : Array Slot}, zIW G s (zset μ o S) H locs → lv_has ls 4 [(0, .ref (G.2.2.1 o 0)), (3, .int x3)] → W p l e (zrm 4) s m args below meth c H locs 0 0 Q (F0 m 96 ls []) := by
  obtain ⟨hx, hb, hml, hown, hts, hK, hR⟩ := id cx
  intro n
  induction n with
  | zero =>
    intro S x3  h
    cases h
  | succ n ih =>
    intro S x3  h H locs ls hI hl
    rw [f_Mo_readsAll_96] at h
    refine lv_iload_n hx hb dX8_readsAll_96 rfl (lv_at hl 1 rfl) ?_
    refine lv_if_eq (tgt := 119) hx hb dX8_readsAll_97 (by decide) (fun c15 => ?_) (fun c15 => ?_)
    · have h := it_p h c15
      refine lv_aload_n hx hb dX8_readsAll_119 rfl (lv_at hl 0 rfl) ?_
      refine lv_bipush (v := (nI 59)) hx hb dX8_readsAll_120 (by decide) ?_
      obtain ⟨q16, hq16, h⟩ := bi_el h
      refine zcVi (As := [.int (nI 59)]) cx hI (c_Mo_takes N hc (zset_s _ _ _) hq16 (zset_ss _ _ _ _)) mt_yX8_takes mv_yX8_takes w_881 (by omega) (k8_0 hc) (zv8 hc) rfl hl.1 rfl (Nat.le_of_ble_eq_true rfl) dX8_readsAll_122 (fun H locs hI => ?_)
      refine lv_topi (fun v17 ev17 => ?_)
      have h := bnd_el h ev17
      refine lv_istore_n (lv' := [(3, .int v17), (0, .ref (G.2.2.1 o 0))]) hx hb dX8_readsAll_125 rfl hl (by decide) rfl (fun ls hl => ?_)
      exact t_Mo_readsAll_126 N hc cx hret N q16.2 v17 h hI (lv_sub hl [1, 0] rfl)
    · have h := it_n h c15
      refine lv_aload_n hx hb dX8_readsAll_100 rfl (lv_at hl 0 rfl) ?_
      obtain ⟨q26, hq26, h⟩ := bi_el h
      refine zcVi (As := []) cx hI (c_Mo_readsBook N hc (zset_s _ _ _) hq26 (zset_ss _ _ _ _)) mt_yX8_readsBook mv_yX8_readsBook w_885 (by omega) (k8_0 hc) (zv8 hc) rfl hl.1 rfl (Nat.le_of_ble_eq_true rfl) dX8_readsAll_101 (fun H locs hI => ?_)
      refine lv_if_ne (tgt := 109) hx hb dX8_readsAll_104 (by decide) (fun c27 => ?_) (fun c27 => ?_)
      · have h := it_n h c27
        refine lv_aload_n hx hb dX8_readsAll_109 rfl (lv_at hl 0 rfl) ?_
        refine lv_bipush (v := (nI 44)) hx hb dX8_readsAll_110 (by decide) ?_
        obtain ⟨q28, hq28, h⟩ := bi_el h
        refine zcVi (As := [.int (nI 44)]) cx hI (c_Mo_takes N hc (zset_s _ _ _) hq28 (zset_ss _ _ _ _)) mt_yX8_takes mv_yX8_takes w_881 (by omega) (k8_0 hc) (zv8 hc) rfl hl.1 rfl (Nat.le_of_ble_eq_true rfl) dX8_readsAll_112 (fun H locs hI => ?_)
        refine lv_topi (fun v29 ev29 => ?_)
        have h := bnd_el h ev29
        refine lv_istore_n (lv' := [(3, .int v29), (0, .ref (G.2.2.1 o 0))]) hx hb dX8_readsAll_115 rfl hl (by decide) rfl (fun ls hl => ?_)
        refine lv_goto (tgt := 96) hx hb dX8_readsAll_116 (by decide) ?_
        exact ih q28.2 v29 h hI (lv_sub hl [1, 0] rfl)
      · have h := it_p h c27
        refine lv_iconst (v := (nI 0)) hx hb dX8_readsAll_107 (by decide) ?_
        obtain rfl := Option.some.inj h
        exact hret _ _ _ _ dX8_readsAll_108 (zbool (Or.inl rfl)) hI
def f_Mo_readsAll_68 (N : Nat)  : Nat → zOb → Int32 → Option (Int32 × zOb)
  | 0, _, _ => none
  | n + 1, S, x3 => (if (nI 27) ≤ x3 then bnd (zI S 1 0 (nI 0)) (fun Z14 => f_Mo_readsAll_96 N N Z14 (nI 1)) else if zin x3 27 then bnd (zI S 1 x3.toNatClampNeg (nI 0)) (fun Z31 => bnd (x3 + (nI 1)) (fun v32 => f_Mo_readsAll_68 N n Z31 v32)) else none)
set_option maxHeartbeats 4000000 in
set_option maxRecDepth 100000 in
theorem t_Mo_readsAll_68 (N : Nat) {p : Program} {l : Launch} {e : Env} {s : State} {m : MethodId} {args : Array Value} {below : List Frame} {meth : Method} {c : Code} {Q : State → Prop} {G : zG} {μ : zM} {o : Nat} (hc : o = 29) {out : (Int32 × zOb)} (cx : zCX p (zrm 4) s m args c RX8 cX8_readsAll 4 4 G) (hret : zRi p l e (zrm 4) s m args below meth c cX8_readsAll G .boolean Q out.1 (zset μ o out.2))   : ∀ (n : Nat) (S : zOb) (x3 : Int32), f_Mo_readsAll_68 N n S x3 = some out → ∀ {H : Heap} {locs : List Loc} {ls : Array Slot}, zIW G s (zset μ o S) H locs → lv_has ls 4 [(0, .ref (G.2.2.1 o 0)), (3, .int x3)] → W p l e (zrm 4) s m args below meth c H locs 0 0 Q (F0 m 68 ls []) := by
  obtain ⟨hx, hb, hml, hown, hts, hK, hR⟩ := id cx
  intro n
  induction n with
  | zero =>
    intro S x3  h
    cases h
  | succ n ih =>
    intro S x3  h H locs ls hI hl
    rw [f_Mo_readsAll_68] at h
    refine lv_iload_n hx hb dX8_readsAll_68 rfl (lv_at hl 1 rfl) ?_
    refine lv_bipush (v := (nI 27)) hx hb dX8_readsAll_69 (by decide) ?_
    refine lv_icmp_ge (tgt := 87) hx hb dX8_readsAll_71 (by decide) (fun c13 => ?_) (fun c13 => ?_)
    · have h := it_p h c13
      refine lv_aload_n hx hb dX8_readsAll_87 rfl (lv_at hl 0 rfl) ?_
      refine g8_0 cx hI hc (zset_s _ _ _) w_108 dX8_readsAll_88 ?_
      refine lv_iconst (v := (nI 0)) hx hb dX8_readsAll_91 (by decide) ?_
      refine lv_iconst (v := (nI 0)) hx hb dX8_readsAll_92 (by decide) ?_
      obtain ⟨Z14, eZ14⟩ : ∃ z : zOb, z = zI S 1 0 (nI 0) := ⟨_, rfl⟩
      have h := bnd_el h eZ14
      refine zr_iast cx hI (k8_1 hc) (zset_s _ _ _) (z8_1 hc) rfl (by decide) (zss eZ14) dX8_readsAll_93 (fun H locs hI => ?_)
      refine lv_iconst (v := (nI 1)) hx hb dX8_readsAll_94 (by decide) ?_
      refine lv_istore_n (lv' := [(3, .int (nI 1)), (0, .ref (G.2.2.1 o 0))]) hx hb dX8_readsAll_95 rfl hl (by decide) rfl (fun ls hl => ?_)
      exact t_Mo_readsAll_96 N hc cx hret N Z14 (nI 1) h hI (lv_sub hl [1, 0] rfl)
    · have h := it_n h c13
      refine lv_aload_n hx hb dX8_readsAll_74 rfl (lv_at hl 0 rfl) ?_
      refine g8_0 cx hI hc (zset_s _ _ _) w_108 dX8_readsAll_75 ?_
      refine lv_iload_n hx hb dX8_readsAll_78 rfl (lv_at hl 1 rfl) ?_
      refine lv_iconst (v := (nI 0)) hx hb dX8_readsAll_79 (by decide) ?_
      obtain ⟨g30, h⟩ := gd_el h
      obtain ⟨Z31, eZ31⟩ : ∃ z : zOb, z = zI S 1 x3.toNatClampNeg (nI 0) := ⟨_, rfl⟩
      have h := bnd_el h eZ31
      refine zr_iast cx hI (k8_1 hc) (zset_s _ _ _) (z8_1 hc) rfl g30 (zss eZ31) dX8_readsAll_80 (fun H locs hI => ?_)
      obtain ⟨v32, ev32⟩ : ∃ z : Int32, z = x3 + (nI 1) := ⟨_, rfl⟩
      have h := bnd_el h ev32
      refine lv_iinc (v := v32) (lv' := [(3, .int v32), (0, .ref (G.2.2.1 o 0))]) hx hb dX8_readsAll_81 hl (k := 1) rfl (by rw [ev32]; rfl) (by decide) rfl (fun ls hl => ?_)
      refine lv_goto (tgt := 68) hx hb dX8_readsAll_84 (by decide) ?_
      exact ih Z31 v32 h hI (lv_sub hl [1, 0] rfl)
def f_Mo_readsAll (N : Nat) (S : zOb) : Option (Int32 × zOb) :=
  bnd (zI S 0 25 (nI 0)) (fun Z1 => (f_Mo_rule N Z1).bind (fun q2 => bnd q2.1 (fun v3 => (if nI 0 ≤ v3 then bnd (zI q2.2 0 25 ((q2.2.1 0 25) + ((nI 6) + v3))) (fun Z5 => (f_Mo_figure N Z5 (nI 1) (nI 4)).bind (fun q6 => bnd q6.1 (fun v7 => (if v7 < nI 0 then f_Mo_readsAll_49 N q6.2 else (f_Mo_takes N q6.2 (nI 58)).bind (fun q9 => (if q9.1 = nI 0 then f_Mo_readsAll_49 N q9.2 else bnd (zI q9.2 1 4 v3) (fun Z11 => bnd (zI Z11 1 2 v7) (fun Z12 => f_Mo_readsAll_68 N N Z12 (nI 6))))))))) else some ((nI 0), q2.2)))))
set_option maxHeartbeats 4000000 in
set_option maxRecDepth 100000 in
theorem c_Mo_readsAll (N : Nat) {l : Launch} {G : zG} {μ : zM} {o : Nat} (hc : o = 29) {S : zOb} (hS : μ o = S)  {out : (Int32 × zOb)} (h : f_Mo_readsAll N S  = some out) {μ' : zM} (hμ : zset μ o out.2 = μ') : zMI l G yX8_readsAll cX8_readsAll 4 (some .boolean) 4 [.ref (G.2.2.1 o 0)] μ out.1 μ' := by
  subst hμ
  refine zMI.of (by decide) (Nat.le_of_ble_eq_true rfl) (fun p e s m args below meth c Q ls cx hI hl hret => ?_)
  obtain ⟨hx, hb, hml, hown, hts, hK, hR⟩ := id cx
  have hl : lv_has ls 4 [(0, .ref (G.2.2.1 o 0))] := hl
  rw [← zset_idS hS] at hI
  unfold f_Mo_readsAll at h
  refine lv_aload_n hx hb dX8_readsAll_0 rfl (lv_at hl 0 rfl) ?_
  refine lv_iconst (v := (nI 0)) hx hb dX8_readsAll_1 (by decide) ?_
  obtain ⟨Z1, eZ1⟩ : ∃ z : zOb, z = zI S 0 25 (nI 0) := ⟨_, rfl⟩
  have h := bnd_el h eZ1
  refine p8_25 cx hI hc (zset_s _ _ _) w_852 (zss eZ1) dX8_readsAll_2 (fun H locs hI => ?_)
  refine lv_aload_n hx hb dX8_readsAll_5 rfl (lv_at hl 0 rfl) ?_
  obtain ⟨q2, hq2, h⟩ := bi_el h
  refine zcVi (As := []) cx hI (c_Mo_rule N hc (zset_s _ _ _) hq2 (zset_ss _ _ _ _)) mt_yX8_rule mv_yX8_rule w_857 (by omega) (k8_0 hc) (zv8 hc) rfl hl.1 rfl (Nat.le_of_ble_eq_true rfl) dX8_readsAll_6 (fun H locs hI => ?_)
  refine lv_topi (fun v3 ev3 => ?_)
  have h := bnd_el h ev3
  refine lv_istore_n (lv' := [(1, .int v3), (0, .ref (G.2.2.1 o 0))]) hx hb dX8_readsAll_9 rfl hl (by decide) rfl (fun ls hl => ?_)
  refine lv_iload_n hx hb dX8_readsAll_10 rfl (lv_at hl 0 rfl) ?_
  refine lv_if_ge (tgt := 16) hx hb dX8_readsAll_11 (by decide) (fun c4 => ?_) (fun c4 => ?_)
  · have h := it_p h c4
    refine lv_aload_n hx hb dX8_readsAll_16 rfl (lv_at hl 1 rfl) ?_
    refine lv_dup hx hb dX8_readsAll_17 rfl ?_
    refine g8_25 cx hI hc (zset_s _ _ _) w_852 dX8_readsAll_18 ?_
    refine lv_bipush (v := (nI 6)) hx hb dX8_readsAll_21 (by decide) ?_
    refine lv_iload_n hx hb dX8_readsAll_23 rfl (lv_at hl 0 rfl) ?_
    refine lv_iadd hx hb dX8_readsAll_24 ?_
    refine lv_iadd hx hb dX8_readsAll_25 ?_
    obtain ⟨Z5, eZ5⟩ : ∃ z : zOb, z = zI q2.2 0 25 ((q2.2.1 0 25) + ((nI 6) + v3)) := ⟨_, rfl⟩
    have h := bnd_el h eZ5
    refine p8_25 cx hI hc (zset_s _ _ _) w_852 (zss eZ5) dX8_readsAll_26 (fun H locs hI => ?_)
    refine lv_aload_n hx hb dX8_readsAll_29 rfl (lv_at hl 1 rfl) ?_
    refine lv_iconst (v := (nI 1)) hx hb dX8_readsAll_30 (by decide) ?_
    refine lv_iconst (v := (nI 4)) hx hb dX8_readsAll_31 (by decide) ?_
    obtain ⟨q6, hq6, h⟩ := bi_el h
    refine zcVi (As := [.int (nI 1), .int (nI 4)]) cx hI (c_Mo_figure N hc (zset_s _ _ _) hq6 (zset_ss _ _ _ _)) mt_yX8_figure mv_yX8_figure w_877 (by omega) (k8_0 hc) (zv8 hc) rfl hl.1 rfl (Nat.le_of_ble_eq_true rfl) dX8_readsAll_32 (fun H locs hI => ?_)
    refine lv_topi (fun v7 ev7 => ?_)
    have h := bnd_el h ev7
    refine lv_istore_n (lv' := [(2, .int v7), (1, .int v3), (0, .ref (G.2.2.1 o 0))]) hx hb dX8_readsAll_35 rfl hl (by decide) rfl (fun ls hl => ?_)
    refine lv_iload_n hx hb dX8_readsAll_36 rfl (lv_at hl 0 rfl) ?_
    refine lv_if_lt (tgt := 49) hx hb dX8_readsAll_37 (by decide) (fun c8 => ?_) (fun c8 => ?_)
    · have h := it_p h c8
      exact t_Mo_readsAll_49 N hc cx hret q6.2 h hI (lv_sub hl [] rfl)
    · have h := it_n h c8
      refine lv_aload_n hx hb dX8_readsAll_40 rfl (lv_at hl 2 rfl) ?_
      refine lv_bipush (v := (nI 58)) hx hb dX8_readsAll_41 (by decide) ?_
      obtain ⟨q9, hq9, h⟩ := bi_el h
      refine zcVi (As := [.int (nI 58)]) cx hI (c_Mo_takes N hc (zset_s _ _ _) hq9 (zset_ss _ _ _ _)) mt_yX8_takes mv_yX8_takes w_881 (by omega) (k8_0 hc) (zv8 hc) rfl hl.1 rfl (Nat.le_of_ble_eq_true rfl) dX8_readsAll_43 (fun H locs hI => ?_)
      refine lv_if_ne (tgt := 51) hx hb dX8_readsAll_46 (by decide) (fun c10 => ?_) (fun c10 => ?_)
      · have h := it_n h c10
        refine lv_aload_n hx hb dX8_readsAll_51 rfl (lv_at hl 2 rfl) ?_
        refine g8_0 cx hI hc (zset_s _ _ _) w_108 dX8_readsAll_52 ?_
        refine lv_iconst (v := (nI 4)) hx hb dX8_readsAll_55 (by decide) ?_
        refine lv_iload_n hx hb dX8_readsAll_56 rfl (lv_at hl 1 rfl) ?_
        obtain ⟨Z11, eZ11⟩ : ∃ z : zOb, z = zI q9.2 1 4 v3 := ⟨_, rfl⟩
        have h := bnd_el h eZ11
        refine zr_iast cx hI (k8_1 hc) (zset_s _ _ _) (z8_1 hc) rfl (by decide) (zss eZ11) dX8_readsAll_57 (fun H locs hI => ?_)
        refine lv_aload_n hx hb dX8_readsAll_58 rfl (lv_at hl 2 rfl) ?_
        refine g8_0 cx hI hc (zset_s _ _ _) w_108 dX8_readsAll_59 ?_
        refine lv_iconst (v := (nI 2)) hx hb dX8_readsAll_62 (by decide) ?_
        refine lv_iload_n hx hb dX8_readsAll_63 rfl (lv_at hl 0 rfl) ?_
        obtain ⟨Z12, eZ12⟩ : ∃ z : zOb, z = zI Z11 1 2 v7 := ⟨_, rfl⟩
        have h := bnd_el h eZ12
        refine zr_iast cx hI (k8_1 hc) (zset_s _ _ _) (z8_1 hc) rfl (by decide) (zss eZ12) dX8_readsAll_64 (fun H locs hI => ?_)
        refine lv_bipush (v := (nI 6)) hx hb dX8_readsAll_65 (by decide) ?_
        refine lv_istore_n (lv' := [(3, .int (nI 6)), (2, .int v7), (1, .int v3), (0, .ref (G.2.2.1 o 0))]) hx hb dX8_readsAll_67 rfl hl (by decide) rfl (fun ls hl => ?_)
        exact t_Mo_readsAll_68 N hc cx hret N Z12 (nI 6) h hI (lv_sub hl [3, 0] rfl)
      · have h := it_p h c10
        exact t_Mo_readsAll_49 N hc cx hret q9.2 h hI (lv_sub hl [] rfl)
  · have h := it_n h c4
    refine lv_iconst (v := (nI 0)) hx hb dX8_readsAll_14 (by decide) ?_
    obtain rfl := Option.some.inj h
    exact hret _ _ _ _ dX8_readsAll_15 (zbool (Or.inl rfl)) hI
def f_Mo_read_25 (N : Nat)  : Nat → zOb → Int32 → Option (Int32 × zOb)
  | 0, _, _ => none
  | n + 1, S, x2 => (if (nI 27) ≤ x2 then some ((-20 : Int32) - (S.1 0 25), S) else if zin x2 27 then if zin x2 27 then bnd (zI S 1 x2.toNatClampNeg (S.1 25 x2.toNatClampNeg)) (fun Z11 => bnd (x2 + (nI 1)) (fun v12 => f_Mo_read_25 N n Z11 v12)) else none else none)
set_option maxHeartbeats 4000000 in
set_option maxRecDepth 100000 in
theorem t_Mo_read_25 (N : Nat) {p : Program} {l : Launch} {e : Env} {s : State} {m : MethodId} {args : Array Value} {below : List Frame} {meth : Method} {c : Code} {Q : State → Prop} {G : zG} {μ : zM} {o : Nat} (hc : o = 29) {out : (Int32 × zOb)} (cx : zCX p (zrm 5) s m args c RX8 cX8_read 3 5 G) (hret : zRi p l e (zrm 5) s m args below meth c cX8_read G .int Q out.1 (zset μ o out.2))   : ∀ (n : Nat) (S : zOb) (x2 : Int32), f_Mo_read_25 N n S x2 = some out → ∀ {H : Heap} {locs : List Loc} {ls : Array Slot}, zIW G s (zset μ o S) H locs → lv_has ls 3 [(0, .ref (G.2.2.1 o 0)), (2, .int x2)] → W p l e (zrm 5) s m args below meth c H locs 0 0 Q (F0 m 25 ls []) := by
  obtain ⟨hx, hb, hml, hown, hts, hK, hR⟩ := id cx
  intro n
  induction n with
  | zero =>
    intro S x2  h
    cases h
  | succ n ih =>
    intro S x2  h H locs ls hI hl
    rw [f_Mo_read_25] at h
    refine lv_iload_n hx hb dX8_read_25 rfl (lv_at hl 1 rfl) ?_
    refine lv_bipush (v := (nI 27)) hx hb dX8_read_26 (by decide) ?_
    refine lv_icmp_ge (tgt := 49) hx hb dX8_read_28 (by decide) (fun c8 => ?_) (fun c8 => ?_)
    · have h := it_p h c8
      refine lv_bipush (v := (-20 : Int32)) hx hb dX8_read_49 (by decide) ?_
      refine lv_aload_n hx hb dX8_read_51 rfl (lv_at hl 0 rfl) ?_
      refine g8_25 cx hI hc (zset_s _ _ _) w_852 dX8_read_52 ?_
      refine lv_isub hx hb dX8_read_55 ?_
      obtain rfl := Option.some.inj h
      exact hret _ _ _ _ dX8_read_56 rfl hI
    · have h := it_n h c8
      refine lv_aload_n hx hb dX8_read_31 rfl (lv_at hl 0 rfl) ?_
      refine g8_0 cx hI hc (zset_s _ _ _) w_108 dX8_read_32 ?_
      refine lv_iload_n hx hb dX8_read_35 rfl (lv_at hl 1 rfl) ?_
      refine lv_aload_n hx hb dX8_read_36 rfl (lv_at hl 0 rfl) ?_
      refine g8_24 cx hI hc (zset_s _ _ _) w_126 dX8_read_37 ?_
      refine lv_iload_n hx hb dX8_read_40 rfl (lv_at hl 1 rfl) ?_
      obtain ⟨g9, h⟩ := gd_el h
      refine zr_iald cx hI (k8_25 hc) (zset_s _ _ _) (z8_25 hc) rfl g9 dX8_read_41 ?_
      obtain ⟨g10, h⟩ := gd_el h
      obtain ⟨Z11, eZ11⟩ : ∃ z : zOb, z = zI S 1 x2.toNatClampNeg (S.1 25 x2.toNatClampNeg) := ⟨_, rfl⟩
      have h := bnd_el h eZ11
      refine zr_iast cx hI (k8_1 hc) (zset_s _ _ _) (z8_1 hc) rfl g10 (zss eZ11) dX8_read_42 (fun H locs hI => ?_)
      obtain ⟨v12, ev12⟩ : ∃ z : Int32, z = x2 + (nI 1) := ⟨_, rfl⟩
      have h := bnd_el h ev12
      refine lv_iinc (v := v12) (lv' := [(2, .int v12), (0, .ref (G.2.2.1 o 0))]) hx hb dX8_read_43 hl (k := 1) rfl (by rw [ev12]; rfl) (by decide) rfl (fun ls hl => ?_)
      refine lv_goto (tgt := 25) hx hb dX8_read_46 (by decide) ?_
      exact ih Z11 v12 h hI (lv_sub hl [1, 0] rfl)
def f_Mo_read (N : Nat) (S : zOb) : Option (Int32 × zOb) :=
  (f_Mo_holds N S).bind (fun q1 => (f_Mo_readsAll N q1).bind (fun q2 => bnd q2.1 (fun v3 => (f_Mo_here N q2.2).bind (fun q4 => bnd (zI q4.2 0 7 (nI 0)) (fun Z5 => (if v3 = nI 0 then f_Mo_read_25 N N Z5 (nI 0) else (f_Mo_notes N Z5).bind (fun q7 => some (q7.1 1 0, q7))))))))
set_option maxHeartbeats 4000000 in
set_option maxRecDepth 100000 in
theorem c_Mo_read (N : Nat) {l : Launch} {G : zG} {μ : zM} {o : Nat} (hc : o = 29) {S : zOb} (hS : μ o = S)  {out : (Int32 × zOb)} (h : f_Mo_read N S  = some out) {μ' : zM} (hμ : zset μ o out.2 = μ') : zMI l G yX8_read cX8_read 3 (some .int) 5 [.ref (G.2.2.1 o 0)] μ out.1 μ' := by
  subst hμ
  refine zMI.of (by decide) (Nat.le_of_ble_eq_true rfl) (fun p e s m args below meth c Q ls cx hI hl hret => ?_)
  obtain ⟨hx, hb, hml, hown, hts, hK, hR⟩ := id cx
  have hl : lv_has ls 3 [(0, .ref (G.2.2.1 o 0))] := hl
  rw [← zset_idS hS] at hI
  unfold f_Mo_read at h
  refine lv_aload_n hx hb dX8_read_0 rfl (lv_at hl 0 rfl) ?_
  obtain ⟨q1, hq1, h⟩ := bi_el h
  refine zcVv (As := []) cx hI (c_Mo_holds N hc (zset_s _ _ _) hq1 (zset_ss _ _ _ _)) mt_yX8_holds mv_yX8_holds w_167 (by omega) (k8_0 hc) (zv8 hc) rfl hl.1 rfl (Nat.le_of_ble_eq_true rfl) dX8_read_1 (fun H locs hI => ?_)
  refine lv_aload_n hx hb dX8_read_4 rfl (lv_at hl 0 rfl) ?_
  obtain ⟨q2, hq2, h⟩ := bi_el h
  refine zcVi (As := []) cx hI (c_Mo_readsAll N hc (zset_s _ _ _) hq2 (zset_ss _ _ _ _)) mt_yX8_readsAll mv_yX8_readsAll w_853 (by omega) (k8_0 hc) (zv8 hc) rfl hl.1 rfl (Nat.le_of_ble_eq_true rfl) dX8_read_5 (fun H locs hI => ?_)
  refine lv_topi (fun v3 ev3 => ?_)
  have h := bnd_el h ev3
  refine lv_istore_n (lv' := [(1, .int v3), (0, .ref (G.2.2.1 o 0))]) hx hb dX8_read_8 rfl hl (by decide) rfl (fun ls hl => ?_)
  refine lv_aload_n hx hb dX8_read_9 rfl (lv_at hl 1 rfl) ?_
  obtain ⟨q4, hq4, h⟩ := bi_el h
  refine zcVi (As := []) cx hI (c_Mo_here N hc (zset_s _ _ _) hq4 (zset_ss _ _ _ _)) mt_yX8_here mv_yX8_here w_861 (by omega) (k8_0 hc) (zv8 hc) rfl hl.1 rfl (Nat.le_of_ble_eq_true rfl) dX8_read_10 (fun H locs hI => ?_)
  refine lv_pop hx hb dX8_read_13 rfl ?_
  refine lv_aload_n hx hb dX8_read_14 rfl (lv_at hl 1 rfl) ?_
  refine lv_iconst (v := (nI 0)) hx hb dX8_read_15 (by decide) ?_
  obtain ⟨Z5, eZ5⟩ : ∃ z : zOb, z = zI q4.2 0 7 (nI 0) := ⟨_, rfl⟩
  have h := bnd_el h eZ5
  refine p8_7 cx hI hc (zset_s _ _ _) w_777 (zss eZ5) dX8_read_16 (fun H locs hI => ?_)
  refine lv_iload_n hx hb dX8_read_19 rfl (lv_at hl 0 rfl) ?_
  refine lv_if_ne (tgt := 57) hx hb dX8_read_20 (by decide) (fun c6 => ?_) (fun c6 => ?_)
  · have h := it_n h c6
    refine lv_aload_n hx hb dX8_read_57 rfl (lv_at hl 1 rfl) ?_
    obtain ⟨q7, hq7, h⟩ := bi_el h
    refine zcVv (As := []) cx hI (c_Mo_notes N hc (zset_s _ _ _) hq7 (zset_ss _ _ _ _)) mt_yX8_notes mv_yX8_notes w_186 (by omega) (k8_0 hc) (zv8 hc) rfl hl.1 rfl (Nat.le_of_ble_eq_true rfl) dX8_read_58 (fun H locs hI => ?_)
    refine lv_aload_n hx hb dX8_read_61 rfl (lv_at hl 1 rfl) ?_
    refine g8_0 cx hI hc (zset_s _ _ _) w_108 dX8_read_62 ?_
    refine lv_iconst (v := (nI 0)) hx hb dX8_read_65 (by decide) ?_
    refine zr_iald cx hI (k8_1 hc) (zset_s _ _ _) (z8_1 hc) rfl (by decide) dX8_read_66 ?_
    obtain rfl := Option.some.inj h
    exact hret _ _ _ _ dX8_read_67 rfl hI
  · have h := it_p h c6
    refine lv_iconst (v := (nI 0)) hx hb dX8_read_23 (by decide) ?_
    refine lv_istore_n (lv' := [(2, .int (nI 0)), (1, .int v3), (0, .ref (G.2.2.1 o 0))]) hx hb dX8_read_24 rfl hl (by decide) rfl (fun ls hl => ?_)
    exact t_Mo_read_25 N hc cx hret N Z5 (nI 0) h hI (lv_sub hl [2, 0] rfl)
def f_Mo_draws (S : zOb) (a1 : Int32) : Option (Int32 × zOb) :=
  bnd (zI S 1 5 ((((((S.1 1 5).toInt64) * (1103515245 : Int64)) + (12345 : Int64)) &&& (2147483647 : Int64)).toInt32)) (fun Z1 => if ¬ a1 = nI 0 then some ((Z1.1 1 5) / a1, Z1) else none)
set_option maxHeartbeats 4000000 in
set_option maxRecDepth 100000 in
theorem c_Mo_draws {l : Launch} {G : zG} {μ : zM} {o : Nat} (hc : o = 29) {S : zOb} (hS : μ o = S) {a1 : Int32} {out : (Int32 × zOb)} (h : f_Mo_draws S a1 = some out) {μ' : zM} (hμ : zset μ o out.2 = μ') : zMI l G yX8_draws cX8_draws 2 (some .int) 0 [.ref (G.2.2.1 o 0), .int a1] μ out.1 μ' := by
  subst hμ
  refine zMI.of (by decide) (Nat.le_of_ble_eq_true rfl) (fun p e s m args below meth c Q ls cx hI hl hret => ?_)
  obtain ⟨hx, hb, hml, hown, hts, hK, hR⟩ := id cx
  have hl : lv_has ls 2 [(0, .ref (G.2.2.1 o 0)), (1, .int a1)] := hl
  rw [← zset_idS hS] at hI
  unfold f_Mo_draws at h
  refine lv_aload_n hx hb dX8_draws_0 rfl (lv_at hl 0 rfl) ?_
  refine g8_0 cx hI hc (zset_s _ _ _) w_108 dX8_draws_1 ?_
  refine lv_iconst (v := (nI 5)) hx hb dX8_draws_4 (by decide) ?_
  refine lv_aload_n hx hb dX8_draws_5 rfl (lv_at hl 0 rfl) ?_
  refine g8_0 cx hI hc (zset_s _ _ _) w_108 dX8_draws_6 ?_
  refine lv_iconst (v := (nI 5)) hx hb dX8_draws_9 (by decide) ?_
  refine zr_iald cx hI (k8_1 hc) (zset_s _ _ _) (z8_1 hc) rfl (by decide) dX8_draws_10 ?_
  refine lv_i2l hx hb dX8_draws_11 rfl ?_
  refine lv_ldc2 (v := (1103515245 : Int64)) hx hb hown (hts _ w_924) dX8_draws_12 ?_
  refine lv_lmul hx hb dX8_draws_15 ?_
  refine lv_ldc2 (v := (12345 : Int64)) hx hb hown (hts _ w_925) dX8_draws_16 ?_
  refine lv_ladd hx hb dX8_draws_19 ?_
  refine lv_ldc2 (v := (2147483647 : Int64)) hx hb hown (hts _ w_926) dX8_draws_20 ?_
  refine lv_land hx hb dX8_draws_23 ?_
  refine lv_l2i hx hb dX8_draws_24 rfl ?_
  obtain ⟨Z1, eZ1⟩ : ∃ z : zOb, z = zI S 1 5 ((((((S.1 1 5).toInt64) * (1103515245 : Int64)) + (12345 : Int64)) &&& (2147483647 : Int64)).toInt32) := ⟨_, rfl⟩
  have h := bnd_el h eZ1
  refine zr_iast cx hI (k8_1 hc) (zset_s _ _ _) (z8_1 hc) rfl (by decide) (zss eZ1) dX8_draws_25 (fun H locs hI => ?_)
  refine lv_aload_n hx hb dX8_draws_26 rfl (lv_at hl 0 rfl) ?_
  refine g8_0 cx hI hc (zset_s _ _ _) w_108 dX8_draws_27 ?_
  refine lv_iconst (v := (nI 5)) hx hb dX8_draws_30 (by decide) ?_
  refine zr_iald cx hI (k8_1 hc) (zset_s _ _ _) (z8_1 hc) rfl (by decide) dX8_draws_31 ?_
  refine lv_iload_n hx hb dX8_draws_32 rfl (lv_at hl 1 rfl) ?_
  obtain ⟨g2, h⟩ := gd_el h
  refine lv_idiv hx hb dX8_draws_33 g2 ?_
  obtain rfl := Option.some.inj h
  exact hret _ _ _ _ dX8_draws_34 rfl hI
def f_Mo_does_64 (N : Nat)  (S : zOb) (x2 : Int32) : Option (Int32 × zOb) :=
  (f_Mo_adds S x2).bind (fun q4 => some (q4.1, q4.2))
set_option maxHeartbeats 4000000 in
set_option maxRecDepth 100000 in
theorem t_Mo_does_64 (N : Nat) {p : Program} {l : Launch} {e : Env} {s : State} {m : MethodId} {args : Array Value} {below : List Frame} {meth : Method} {c : Code} {Q : State → Prop} {G : zG} {μ : zM} {o : Nat} (hc : o = 29) {out : (Int32 × zOb)} (cx : zCX p (zrm 3) s m args c RX8 cX8_does 5 3 G) (hret : zRi p l e (zrm 3) s m args below meth c cX8_does G .int Q out.1 (zset μ o out.2))   : ∀ (S : zOb) (x2 : Int32), f_Mo_does_64 N S x2 = some out → ∀ {H : Heap} {locs : List Loc} {ls : Array Slot}, zIW G s (zset μ o S) H locs → lv_has ls 5 [(0, .ref (G.2.2.1 o 0)), (2, .int x2)] → W p l e (zrm 3) s m args below meth c H locs 0 0 Q (F0 m 64 ls []) := by
  obtain ⟨hx, hb, hml, hown, hts, hK, hR⟩ := id cx
  intro S x2  h H locs ls hI hl
  unfold f_Mo_does_64 at h
  refine lv_aload_n hx hb dX8_does_64 rfl (lv_at hl 0 rfl) ?_
  refine lv_iload_n hx hb dX8_does_65 rfl (lv_at hl 1 rfl) ?_
  obtain ⟨q4, hq4, h⟩ := bi_el h
  refine zcVi (As := [.int x2]) cx hI (c_Mo_adds hc (zset_s _ _ _) hq4 (zset_ss _ _ _ _)) mt_yX8_adds mv_yX8_adds w_171 (by omega) (k8_0 hc) (zv8 hc) rfl hl.1 rfl (Nat.le_of_ble_eq_true rfl) dX8_does_66 (fun H locs hI => ?_)
  obtain rfl := Option.some.inj h
  exact hret _ _ _ _ dX8_does_69 rfl hI
def f_Mo_does_85 (N : Nat)  (S : zOb) (x3 : Int32) (x4 : Int32) : Option (Int32 × zOb) :=
  (f_Mo_shifts N S x3 x4).bind (fun q11 => some (q11.1, q11.2))
set_option maxHeartbeats 4000000 in
set_option maxRecDepth 100000 in
theorem t_Mo_does_85 (N : Nat) {p : Program} {l : Launch} {e : Env} {s : State} {m : MethodId} {args : Array Value} {below : List Frame} {meth : Method} {c : Code} {Q : State → Prop} {G : zG} {μ : zM} {o : Nat} (hc : o = 29) {out : (Int32 × zOb)} (cx : zCX p (zrm 3) s m args c RX8 cX8_does 5 3 G) (hret : zRi p l e (zrm 3) s m args below meth c cX8_does G .int Q out.1 (zset μ o out.2))   : ∀ (S : zOb) (x3 : Int32) (x4 : Int32), f_Mo_does_85 N S x3 x4 = some out → ∀ {H : Heap} {locs : List Loc} {ls : Array Slot}, zIW G s (zset μ o S) H locs → lv_has ls 5 [(0, .ref (G.2.2.1 o 0)), (3, .int x3), (4, .int x4)] → W p l e (zrm 3) s m args below meth c H locs 0 0 Q (F0 m 85 ls []) := by
  obtain ⟨hx, hb, hml, hown, hts, hK, hR⟩ := id cx
  intro S x3 x4  h H locs ls hI hl
  unfold f_Mo_does_85 at h
  refine lv_aload_n hx hb dX8_does_85 rfl (lv_at hl 0 rfl) ?_
  refine lv_iload_n hx hb dX8_does_86 rfl (lv_at hl 1 rfl) ?_
  refine lv_iload hx hb dX8_does_87 (lv_at hl 2 rfl) ?_
  obtain ⟨q11, hq11, h⟩ := bi_el h
  refine zcVi (As := [.int x3, .int x4]) cx hI (c_Mo_shifts N hc (zset_s _ _ _) hq11 (zset_ss _ _ _ _)) mt_yX8_shifts mv_yX8_shifts w_341 (by omega) (k8_0 hc) (zv8 hc) rfl hl.1 rfl (Nat.le_of_ble_eq_true rfl) dX8_does_89 (fun H locs hI => ?_)
  obtain rfl := Option.some.inj h
  exact hret _ _ _ _ dX8_does_92 rfl hI
def f_Mo_does (N : Nat) (S : zOb) (a1 : Int32) (a2 : Int32) : Option (Int32 × zOb) :=
  bnd ((a1 / (nI 8)) - (a1 / (nI 8)) / (nI 7) * (nI 7)) (fun v1 => bnd ((a1 / (nI 64)) - (a1 / (nI 64)) / (nI 7) * (nI 7)) (fun v2 => (if (a1 - a1 / (nI 8) * (nI 8)) = (nI 0) then f_Mo_does_64 N S a2 else if (a1 - a1 / (nI 8) * (nI 8)) = (nI 1) then f_Mo_does_64 N S a2 else if (a1 - a1 / (nI 8) * (nI 8)) = (nI 2) then (f_Mo_changes S v1 a2).bind (fun q7 => some (q7.1, q7.2)) else if (a1 - a1 / (nI 8) * (nI 8)) = (nI 3) then (f_Mo_puts N S v1 v2).bind (fun q9 => some (q9.1, q9.2)) else if (a1 - a1 / (nI 8) * (nI 8)) = (nI 4) then f_Mo_does_85 N S v1 v2 else if (a1 - a1 / (nI 8) * (nI 8)) = (nI 5) then f_Mo_does_85 N S v1 v2 else if (a1 - a1 / (nI 8) * (nI 8)) = (nI 6) then (f_Mo_tells S (nI 0) (((a1 / (nI 8)) - (a1 / (nI 8)) / (nI 4) * (nI 4)) + (nI 1))).bind (fun q14 => some (q14.1, q14.2)) else (f_Mo_tells S (nI 2) ((a1 / (nI 8)) - (a1 / (nI 8)) / (nI 3) * (nI 3))).bind (fun q15 => some (q15.1, q15.2)))))
set_option maxHeartbeats 4000000 in
set_option maxRecDepth 100000 in
theorem c_Mo_does (N : Nat) {l : Launch} {G : zG} {μ : zM} {o : Nat} (hc : o = 29) {S : zOb} (hS : μ o = S) {a1 : Int32} {a2 : Int32} {out : (Int32 × zOb)} (h : f_Mo_does N S a1 a2 = some out) {μ' : zM} (hμ : zset μ o out.2 = μ') : zMI l G yX8_does cX8_does 5 (some .int) 3 [.ref (G.2.2.1 o 0), .int a1, .int a2] μ out.1 μ' := by
  subst hμ
  refine zMI.of (by decide) (Nat.le_of_ble_eq_true rfl) (fun p e s m args below meth c Q ls cx hI hl hret => ?_)
  obtain ⟨hx, hb, hml, hown, hts, hK, hR⟩ := id cx
  have hl : lv_has ls 5 [(0, .ref (G.2.2.1 o 0)), (1, .int a1), (2, .int a2)] := hl
  rw [← zset_idS hS] at hI
  unfold f_Mo_does at h
  refine lv_iload_n hx hb dX8_does_0 rfl (lv_at hl 1 rfl) ?_
  refine lv_bipush (v := (nI 8)) hx hb dX8_does_1 (by decide) ?_
  refine lv_idiv hx hb dX8_does_3 (by decide) ?_
  refine lv_bipush (v := (nI 7)) hx hb dX8_does_4 (by decide) ?_
  refine lv_irem hx hb dX8_does_6 (by decide) ?_
  refine lv_topi (fun v1 ev1 => ?_)
  have h := bnd_el h ev1
  refine lv_istore_n (lv' := [(3, .int v1), (0, .ref (G.2.2.1 o 0)), (1, .int a1), (2, .int a2)]) hx hb dX8_does_7 rfl hl (by decide) rfl (fun ls hl => ?_)
  refine lv_iload_n hx hb dX8_does_8 rfl (lv_at hl 2 rfl) ?_
  refine lv_bipush (v := (nI 64)) hx hb dX8_does_9 (by decide) ?_
  refine lv_idiv hx hb dX8_does_11 (by decide) ?_
  refine lv_bipush (v := (nI 7)) hx hb dX8_does_12 (by decide) ?_
  refine lv_irem hx hb dX8_does_14 (by decide) ?_
  refine lv_topi (fun v2 ev2 => ?_)
  have h := bnd_el h ev2
  refine lv_istore (lv' := [(4, .int v2), (3, .int v1), (0, .ref (G.2.2.1 o 0)), (1, .int a1), (2, .int a2)]) hx hb dX8_does_15 hl (by decide) rfl (fun ls hl => ?_)
  refine lv_iload_n hx hb dX8_does_17 rfl (lv_at hl 3 rfl) ?_
  refine lv_bipush (v := (nI 8)) hx hb dX8_does_18 (by decide) ?_
  refine lv_irem hx hb dX8_does_20 (by decide) ?_
  by_cases c3 : (a1 - a1 / (nI 8) * (nI 8)) = (nI 0)
  · have h := it_p h c3
    refine lv_tableIn (off := 43) (tgt := 64) hx hb dX8_does_21 (by rw [c3]; decide) (by rw [c3]; decide) (by rw [c3]; rfl) (by decide) ?_
    exact t_Mo_does_64 N hc cx hret S a2 h hI (lv_sub hl [2, 4] rfl)
  · have h := it_n h c3
    by_cases c5 : (a1 - a1 / (nI 8) * (nI 8)) = (nI 1)
    · have h := it_p h c5
      refine lv_tableIn (off := 43) (tgt := 64) hx hb dX8_does_21 (by rw [c5]; decide) (by rw [c5]; decide) (by rw [c5]; rfl) (by decide) ?_
      exact t_Mo_does_64 N hc cx hret S a2 h hI (lv_sub hl [2, 4] rfl)
    · have h := it_n h c5
      by_cases c6 : (a1 - a1 / (nI 8) * (nI 8)) = (nI 2)
      · have h := it_p h c6
        refine lv_tableIn (off := 49) (tgt := 70) hx hb dX8_does_21 (by rw [c6]; decide) (by rw [c6]; decide) (by rw [c6]; rfl) (by decide) ?_
        refine lv_aload_n hx hb dX8_does_70 rfl (lv_at hl 2 rfl) ?_
        refine lv_iload_n hx hb dX8_does_71 rfl (lv_at hl 1 rfl) ?_
        refine lv_iload_n hx hb dX8_does_72 rfl (lv_at hl 4 rfl) ?_
        obtain ⟨q7, hq7, h⟩ := bi_el h
        refine zcVi (As := [.int v1, .int a2]) cx hI (c_Mo_changes hc (zset_s _ _ _) hq7 (zset_ss _ _ _ _)) mt_yX8_changes mv_yX8_changes w_207 (by omega) (k8_0 hc) (zv8 hc) rfl hl.1 rfl (Nat.le_of_ble_eq_true rfl) dX8_does_73 (fun H locs hI => ?_)
        obtain rfl := Option.some.inj h
        exact hret _ _ _ _ dX8_does_76 rfl hI
      · have h := it_n h c6
        by_cases c8 : (a1 - a1 / (nI 8) * (nI 8)) = (nI 3)
        · have h := it_p h c8
          refine lv_tableIn (off := 56) (tgt := 77) hx hb dX8_does_21 (by rw [c8]; decide) (by rw [c8]; decide) (by rw [c8]; rfl) (by decide) ?_
          refine lv_aload_n hx hb dX8_does_77 rfl (lv_at hl 2 rfl) ?_
          refine lv_iload_n hx hb dX8_does_78 rfl (lv_at hl 1 rfl) ?_
          refine lv_iload hx hb dX8_does_79 (lv_at hl 0 rfl) ?_
          obtain ⟨q9, hq9, h⟩ := bi_el h
          refine zcVi (As := [.int v1, .int v2]) cx hI (c_Mo_puts N hc (zset_s _ _ _) hq9 (zset_ss _ _ _ _)) mt_yX8_puts mv_yX8_puts w_271 (by omega) (k8_0 hc) (zv8 hc) rfl hl.1 rfl (Nat.le_of_ble_eq_true rfl) dX8_does_81 (fun H locs hI => ?_)
          obtain rfl := Option.some.inj h
          exact hret _ _ _ _ dX8_does_84 rfl hI
        · have h := it_n h c8
          by_cases c10 : (a1 - a1 / (nI 8) * (nI 8)) = (nI 4)
          · have h := it_p h c10
            refine lv_tableIn (off := 64) (tgt := 85) hx hb dX8_does_21 (by rw [c10]; decide) (by rw [c10]; decide) (by rw [c10]; rfl) (by decide) ?_
            exact t_Mo_does_85 N hc cx hret S v1 v2 h hI (lv_sub hl [2, 1, 0] rfl)
          · have h := it_n h c10
            by_cases c12 : (a1 - a1 / (nI 8) * (nI 8)) = (nI 5)
            · have h := it_p h c12
              refine lv_tableIn (off := 64) (tgt := 85) hx hb dX8_does_21 (by rw [c12]; decide) (by rw [c12]; decide) (by rw [c12]; rfl) (by decide) ?_
              exact t_Mo_does_85 N hc cx hret S v1 v2 h hI (lv_sub hl [2, 1, 0] rfl)
            · have h := it_n h c12
              by_cases c13 : (a1 - a1 / (nI 8) * (nI 8)) = (nI 6)
              · have h := it_p h c13
                refine lv_tableIn (off := 72) (tgt := 93) hx hb dX8_does_21 (by rw [c13]; decide) (by rw [c13]; decide) (by rw [c13]; rfl) (by decide) ?_
                refine lv_aload_n hx hb dX8_does_93 rfl (lv_at hl 2 rfl) ?_
                refine lv_iconst (v := (nI 0)) hx hb dX8_does_94 (by decide) ?_
                refine lv_iload_n hx hb dX8_does_95 rfl (lv_at hl 3 rfl) ?_
                refine lv_bipush (v := (nI 8)) hx hb dX8_does_96 (by decide) ?_
                refine lv_idiv hx hb dX8_does_98 (by decide) ?_
                refine lv_iconst (v := (nI 4)) hx hb dX8_does_99 (by decide) ?_
                refine lv_irem hx hb dX8_does_100 (by decide) ?_
                refine lv_iconst (v := (nI 1)) hx hb dX8_does_101 (by decide) ?_
                refine lv_iadd hx hb dX8_does_102 ?_
                obtain ⟨q14, hq14, h⟩ := bi_el h
                refine zcVi (As := [.int (nI 0), .int (((a1 / (nI 8)) - (a1 / (nI 8)) / (nI 4) * (nI 4)) + (nI 1))]) cx hI (c_Mo_tells hc (zset_s _ _ _) hq14 (zset_ss _ _ _ _)) mt_yX8_tells mv_yX8_tells w_322 (by omega) (k8_0 hc) (zv8 hc) rfl hl.1 rfl (Nat.le_of_ble_eq_true rfl) dX8_does_103 (fun H locs hI => ?_)
                obtain rfl := Option.some.inj h
                exact hret _ _ _ _ dX8_does_106 rfl hI
              · have h := it_n h c13
                refine lv_tableOut (tgt := 107) hx hb dX8_does_21 (by have tc3 := tn c3 (i := 0) rfl; have tc5 := tn c5 (i := 1) rfl; have tc6 := tn c6 (i := 2) rfl; have tc8 := tn c8 (i := 3) rfl; have tc10 := tn c10 (i := 4) rfl; have tc12 := tn c12 (i := 5) rfl; have tc13 := tn c13 (i := 6) rfl; omega) (by decide) ?_
                refine lv_aload_n hx hb dX8_does_107 rfl (lv_at hl 2 rfl) ?_
                refine lv_iconst (v := (nI 2)) hx hb dX8_does_108 (by decide) ?_
                refine lv_iload_n hx hb dX8_does_109 rfl (lv_at hl 3 rfl) ?_
                refine lv_bipush (v := (nI 8)) hx hb dX8_does_110 (by decide) ?_
                refine lv_idiv hx hb dX8_does_112 (by decide) ?_
                refine lv_iconst (v := (nI 3)) hx hb dX8_does_113 (by decide) ?_
                refine lv_irem hx hb dX8_does_114 (by decide) ?_
                obtain ⟨q15, hq15, h⟩ := bi_el h
                refine zcVi (As := [.int (nI 2), .int ((a1 / (nI 8)) - (a1 / (nI 8)) / (nI 3) * (nI 3))]) cx hI (c_Mo_tells hc (zset_s _ _ _) hq15 (zset_ss _ _ _ _)) mt_yX8_tells mv_yX8_tells w_322 (by omega) (k8_0 hc) (zv8 hc) rfl hl.1 rfl (Nat.le_of_ble_eq_true rfl) dX8_does_115 (fun H locs hI => ?_)
                obtain rfl := Option.some.inj h
                exact hret _ _ _ _ dX8_does_118 rfl hI
def f_Mo_drift_16 (N : Nat)  : Nat → zOb → Int32 → Int32 → Option (Int32 × zOb)
  | 0, _, _, _ => none
  | n + 1, S, x1, x2 => (if x1 ≤ x2 then some (S.1 1 0, S) else (f_Mo_holds N S).bind (fun q4 => (f_Mo_notes N q4).bind (fun q5 => (f_Mo_draws q5 (nI 65536)).bind (fun q6 => bnd q6.1 (fun v7 => (f_Mo_draws q6.2 (nI 2048)).bind (fun q8 => bnd q8.1 (fun v9 => (f_Mo_does N q8.2 v7 (v9 - v9 / (nI 1048576) * (nI 1048576))).bind (fun q10 => bnd (zI q10.2 0 26 q10.1) (fun Z11 => bnd (x2 + (nI 1)) (fun v12 => f_Mo_drift_16 N n Z11 x1 v12))))))))))
set_option maxHeartbeats 4000000 in
set_option maxRecDepth 100000 in
theorem t_Mo_drift_16 (N : Nat) {p : Program} {l : Launch} {e : Env} {s : State} {m : MethodId} {args : Array Value} {below : List Frame} {meth : Method} {c : Code} {Q : State → Prop} {G : zG} {μ : zM} {o : Nat} (hc : o = 29) {out : (Int32 × zOb)} (cx : zCX p (zrm 4) s m args c RX8 cX8_drift 5 4 G) (hret : zRi p l e (zrm 4) s m args below meth c cX8_drift G .int Q out.1 (zset μ o out.2))   : ∀ (n : Nat) (S : zOb) (x1 : Int32) (x2 : Int32), f_Mo_drift_16 N n S x1 x2 = some out → ∀ {H : Heap} {locs : List Loc} {ls : Array Slot}, zIW G s (zset μ o S) H locs → lv_has ls 5 [(0, .ref (G.2.2.1 o 0)), (1, .int x1), (2, .int x2)] → W p l e (zrm 4) s m args below meth c H locs 0 0 Q (F0 m 16 ls []) := by
  obtain ⟨hx, hb, hml, hown, hts, hK, hR⟩ := id cx
  intro n
  induction n with
  | zero =>
    intro S x1 x2  h
    cases h
  | succ n ih =>
    intro S x1 x2  h H locs ls hI hl
    rw [f_Mo_drift_16] at h
    refine lv_iload_n hx hb dX8_drift_16 rfl (lv_at hl 2 rfl) ?_
    refine lv_iload_n hx hb dX8_drift_17 rfl (lv_at hl 1 rfl) ?_
    refine lv_icmp_ge (tgt := 67) hx hb dX8_drift_18 (by decide) (fun c3 => ?_) (fun c3 => ?_)
    · have h := it_p h c3
      refine lv_aload_n hx hb dX8_drift_67 rfl (lv_at hl 0 rfl) ?_
      refine g8_0 cx hI hc (zset_s _ _ _) w_108 dX8_drift_68 ?_
      refine lv_iconst (v := (nI 0)) hx hb dX8_drift_71 (by decide) ?_
      refine zr_iald cx hI (k8_1 hc) (zset_s _ _ _) (z8_1 hc) rfl (by decide) dX8_drift_72 ?_
      obtain rfl := Option.some.inj h
      exact hret _ _ _ _ dX8_drift_73 rfl hI
    · have h := it_n h c3
      refine lv_aload_n hx hb dX8_drift_21 rfl (lv_at hl 0 rfl) ?_
      obtain ⟨q4, hq4, h⟩ := bi_el h
      refine zcVv (As := []) cx hI (c_Mo_holds N hc (zset_s _ _ _) hq4 (zset_ss _ _ _ _)) mt_yX8_holds mv_yX8_holds w_167 (by omega) (k8_0 hc) (zv8 hc) rfl hl.1 rfl (Nat.le_of_ble_eq_true rfl) dX8_drift_22 (fun H locs hI => ?_)
      refine lv_aload_n hx hb dX8_drift_25 rfl (lv_at hl 0 rfl) ?_
      obtain ⟨q5, hq5, h⟩ := bi_el h
      refine zcVv (As := []) cx hI (c_Mo_notes N hc (zset_s _ _ _) hq5 (zset_ss _ _ _ _)) mt_yX8_notes mv_yX8_notes w_186 (by omega) (k8_0 hc) (zv8 hc) rfl hl.1 rfl (Nat.le_of_ble_eq_true rfl) dX8_drift_26 (fun H locs hI => ?_)
      refine lv_aload_n hx hb dX8_drift_29 rfl (lv_at hl 0 rfl) ?_
      refine lv_ldcw (v := (nI 65536)) hx hb hown (hts _ w_917) dX8_drift_30 ?_
      obtain ⟨q6, hq6, h⟩ := bi_el h
      refine zcVi (As := [.int (nI 65536)]) cx hI (c_Mo_draws hc (zset_s _ _ _) hq6 (zset_ss _ _ _ _)) mt_yX8_draws mv_yX8_draws w_920 (by omega) (k8_0 hc) (zv8 hc) rfl hl.1 rfl (Nat.le_of_ble_eq_true rfl) dX8_drift_33 (fun H locs hI => ?_)
      refine lv_topi (fun v7 ev7 => ?_)
      have h := bnd_el h ev7
      refine lv_istore_n (lv' := [(3, .int v7), (0, .ref (G.2.2.1 o 0)), (1, .int x1), (2, .int x2)]) hx hb dX8_drift_36 rfl hl (by decide) rfl (fun ls hl => ?_)
      refine lv_aload_n hx hb dX8_drift_37 rfl (lv_at hl 1 rfl) ?_
      refine lv_sipush (v := (nI 2048)) hx hb dX8_drift_38 (by decide) ?_
      obtain ⟨q8, hq8, h⟩ := bi_el h
      refine zcVi (As := [.int (nI 2048)]) cx hI (c_Mo_draws hc (zset_s _ _ _) hq8 (zset_ss _ _ _ _)) mt_yX8_draws mv_yX8_draws w_920 (by omega) (k8_0 hc) (zv8 hc) rfl hl.1 rfl (Nat.le_of_ble_eq_true rfl) dX8_drift_41 (fun H locs hI => ?_)
      refine lv_topi (fun v9 ev9 => ?_)
      have h := bnd_el h ev9
      refine lv_istore (lv' := [(4, .int v9), (3, .int v7), (0, .ref (G.2.2.1 o 0)), (1, .int x1), (2, .int x2)]) hx hb dX8_drift_44 hl (by decide) rfl (fun ls hl => ?_)
      refine lv_aload_n hx hb dX8_drift_46 rfl (lv_at hl 2 rfl) ?_
      refine lv_aload_n hx hb dX8_drift_47 rfl (lv_at hl 2 rfl) ?_
      refine lv_iload_n hx hb dX8_drift_48 rfl (lv_at hl 1 rfl) ?_
      refine lv_iload hx hb dX8_drift_49 (lv_at hl 0 rfl) ?_
      refine lv_ldcw (v := (nI 1048576)) hx hb hown (hts _ w_918) dX8_drift_51 ?_
      refine lv_irem hx hb dX8_drift_54 (by decide) ?_
      obtain ⟨q10, hq10, h⟩ := bi_el h
      refine zcVi (As := [.int v7, .int (v9 - v9 / (nI 1048576) * (nI 1048576))]) cx hI (c_Mo_does N hc (zset_s _ _ _) hq10 (zset_ss _ _ _ _)) mt_yX8_does mv_yX8_does w_927 (by omega) (k8_0 hc) (zv8 hc) rfl hl.1 rfl (Nat.le_of_ble_eq_true rfl) dX8_drift_55 (fun H locs hI => ?_)
      obtain ⟨Z11, eZ11⟩ : ∃ z : zOb, z = zI q10.2 0 26 q10.1 := ⟨_, rfl⟩
      have h := bnd_el h eZ11
      refine p8_26 cx hI hc (zset_s _ _ _) w_919 (zss eZ11) dX8_drift_58 (fun H locs hI => ?_)
      obtain ⟨v12, ev12⟩ : ∃ z : Int32, z = x2 + (nI 1) := ⟨_, rfl⟩
      have h := bnd_el h ev12
      refine lv_iinc (v := v12) (lv' := [(2, .int v12), (4, .int v9), (3, .int v7), (0, .ref (G.2.2.1 o 0)), (1, .int x1)]) hx hb dX8_drift_61 hl (k := 4) rfl (by rw [ev12]; rfl) (by decide) rfl (fun ls hl => ?_)
      refine lv_goto (tgt := 16) hx hb dX8_drift_64 (by decide) ?_
      exact ih Z11 x1 v12 h hI (lv_sub hl [3, 4, 0] rfl)
def f_Mo_drift (N : Nat) (S : zOb) (a1 : Int32) : Option (Int32 × zOb) :=
  (f_Mo_in a1.toInt64 (1 : Int64) (40 : Int64)).bind (fun q1 => (if q1 = nI 0 then some ((-1 : Int32), S) else f_Mo_drift_16 N N S a1 (nI 0)))
set_option maxHeartbeats 4000000 in
set_option maxRecDepth 100000 in
theorem c_Mo_drift (N : Nat) {l : Launch} {G : zG} {μ : zM} {o : Nat} (hc : o = 29) {S : zOb} (hS : μ o = S) {a1 : Int32} {out : (Int32 × zOb)} (h : f_Mo_drift N S a1 = some out) {μ' : zM} (hμ : zset μ o out.2 = μ') : zMI l G yX8_drift cX8_drift 5 (some .int) 4 [.ref (G.2.2.1 o 0), .int a1] μ out.1 μ' := by
  subst hμ
  refine zMI.of (by decide) (Nat.le_of_ble_eq_true rfl) (fun p e s m args below meth c Q ls cx hI hl hret => ?_)
  obtain ⟨hx, hb, hml, hown, hts, hK, hR⟩ := id cx
  have hl : lv_has ls 5 [(0, .ref (G.2.2.1 o 0)), (1, .int a1)] := hl
  rw [← zset_idS hS] at hI
  unfold f_Mo_drift at h
  refine lv_iload_n hx hb dX8_drift_0 rfl (lv_at hl 1 rfl) ?_
  refine lv_i2l hx hb dX8_drift_1 rfl ?_
  refine lv_lconst (v := (1 : Int64)) hx hb dX8_drift_2 (by decide) ?_
  refine lv_ldc2 (v := (40 : Int64)) hx hb hown (hts _ w_916) dX8_drift_3 ?_
  obtain ⟨q1, hq1, h⟩ := bi_el h
  refine zcSi (As := [.long a1.toInt64, .long (1 : Int64), .long (40 : Int64)]) cx hI (c_Mo_in  hq1) mt_yX8_in ms_yX8_in w_179 (by omega) rfl hl.1 rfl (Nat.le_of_ble_eq_true rfl) dX8_drift_6 (fun H locs hI => ?_)
  refine lv_if_ne (tgt := 14) hx hb dX8_drift_9 (by decide) (fun c2 => ?_) (fun c2 => ?_)
  · have h := it_n h c2
    refine lv_iconst (v := (nI 0)) hx hb dX8_drift_14 (by decide) ?_
    refine lv_istore_n (lv' := [(2, .int (nI 0)), (0, .ref (G.2.2.1 o 0)), (1, .int a1)]) hx hb dX8_drift_15 rfl hl (by decide) rfl (fun ls hl => ?_)
    exact t_Mo_drift_16 N hc cx hret N S a1 (nI 0) h hI (lv_sub hl [1, 2, 0] rfl)
  · have h := it_p h c2
    refine lv_iconst (v := (-1 : Int32)) hx hb dX8_drift_12 (by decide) ?_
    obtain rfl := Option.some.inj h
    exact hret _ _ _ _ dX8_drift_13 rfl hI
def f_Mo_undo_22 (N : Nat)  : Nat → zOb → Int32 → Option (Int32 × zOb)
  | 0, _, _ => none
  | n + 1, S, x1 => (if (nI 27) ≤ x1 then some (S.1 0 2, S) else if zin (((nI 27) * (S.1 0 2)) + x1) 162 then if zin x1 27 then bnd (zI S 1 x1.toNatClampNeg (S.1 2 ((((nI 27) * (S.1 0 2)) + x1).toNatClampNeg))) (fun Z6 => bnd (x1 + (nI 1)) (fun v7 => f_Mo_undo_22 N n Z6 v7)) else none else none)
set_option maxHeartbeats 4000000 in
set_option maxRecDepth 100000 in
theorem t_Mo_undo_22 (N : Nat) {p : Program} {l : Launch} {e : Env} {s : State} {m : MethodId} {args : Array Value} {below : List Frame} {meth : Method} {c : Code} {Q : State → Prop} {G : zG} {μ : zM} {o : Nat} (hc : o = 29) {out : (Int32 × zOb)} (cx : zCX p (zrm 0) s m args c RX8 cX8_undo 2 0 G) (hret : zRi p l e (zrm 0) s m args below meth c cX8_undo G .int Q out.1 (zset μ o out.2))   : ∀ (n : Nat) (S : zOb) (x1 : Int32), f_Mo_undo_22 N n S x1 = some out → ∀ {H : Heap} {locs : List Loc} {ls : Array Slot}, zIW G s (zset μ o S) H locs → lv_has ls 2 [(0, .ref (G.2.2.1 o 0)), (1, .int x1)] → W p l e (zrm 0) s m args below meth c H locs 0 0 Q (F0 m 22 ls []) := by
  obtain ⟨hx, hb, hml, hown, hts, hK, hR⟩ := id cx
  intro n
  induction n with
  | zero =>
    intro S x1  h
    cases h
  | succ n ih =>
    intro S x1  h H locs ls hI hl
    rw [f_Mo_undo_22] at h
    refine lv_iload_n hx hb dX8_undo_22 rfl (lv_at hl 1 rfl) ?_
    refine lv_bipush (v := (nI 27)) hx hb dX8_undo_23 (by decide) ?_
    refine lv_icmp_ge (tgt := 54) hx hb dX8_undo_25 (by decide) (fun c3 => ?_) (fun c3 => ?_)
    · have h := it_p h c3
      refine lv_aload_n hx hb dX8_undo_54 rfl (lv_at hl 0 rfl) ?_
      refine g8_2 cx hI hc (zset_s _ _ _) w_190 dX8_undo_55 ?_
      obtain rfl := Option.some.inj h
      exact hret _ _ _ _ dX8_undo_58 rfl hI
    · have h := it_n h c3
      refine lv_aload_n hx hb dX8_undo_28 rfl (lv_at hl 0 rfl) ?_
      refine g8_0 cx hI hc (zset_s _ _ _) w_108 dX8_undo_29 ?_
      refine lv_iload_n hx hb dX8_undo_32 rfl (lv_at hl 1 rfl) ?_
      refine lv_aload_n hx hb dX8_undo_33 rfl (lv_at hl 0 rfl) ?_
      refine g8_1 cx hI hc (zset_s _ _ _) w_109 dX8_undo_34 ?_
      refine lv_bipush (v := (nI 27)) hx hb dX8_undo_37 (by decide) ?_
      refine lv_aload_n hx hb dX8_undo_39 rfl (lv_at hl 0 rfl) ?_
      refine g8_2 cx hI hc (zset_s _ _ _) w_190 dX8_undo_40 ?_
      refine lv_imul hx hb dX8_undo_43 ?_
      refine lv_iload_n hx hb dX8_undo_44 rfl (lv_at hl 1 rfl) ?_
      refine lv_iadd hx hb dX8_undo_45 ?_
      obtain ⟨g4, h⟩ := gd_el h
      refine zr_iald cx hI (k8_2 hc) (zset_s _ _ _) (z8_2 hc) rfl g4 dX8_undo_46 ?_
      obtain ⟨g5, h⟩ := gd_el h
      obtain ⟨Z6, eZ6⟩ : ∃ z : zOb, z = zI S 1 x1.toNatClampNeg (S.1 2 ((((nI 27) * (S.1 0 2)) + x1).toNatClampNeg)) := ⟨_, rfl⟩
      have h := bnd_el h eZ6
      refine zr_iast cx hI (k8_1 hc) (zset_s _ _ _) (z8_1 hc) rfl g5 (zss eZ6) dX8_undo_47 (fun H locs hI => ?_)
      obtain ⟨v7, ev7⟩ : ∃ z : Int32, z = x1 + (nI 1) := ⟨_, rfl⟩
      have h := bnd_el h ev7
      refine lv_iinc (v := v7) (lv' := [(1, .int v7), (0, .ref (G.2.2.1 o 0))]) hx hb dX8_undo_48 hl (k := 1) rfl (by rw [ev7]; rfl) (by decide) rfl (fun ls hl => ?_)
      refine lv_goto (tgt := 22) hx hb dX8_undo_51 (by decide) ?_
      exact ih Z6 v7 h hI (lv_sub hl [1, 0] rfl)
def f_Mo_undo (N : Nat) (S : zOb) : Option (Int32 × zOb) :=
  (if (S.1 0 2) = nI 0 then some ((-4 : Int32), S) else bnd (zI S 0 2 ((S.1 0 2) - (nI 1))) (fun Z2 => f_Mo_undo_22 N N Z2 (nI 0)))
set_option maxHeartbeats 4000000 in
set_option maxRecDepth 100000 in
theorem c_Mo_undo (N : Nat) {l : Launch} {G : zG} {μ : zM} {o : Nat} (hc : o = 29) {S : zOb} (hS : μ o = S)  {out : (Int32 × zOb)} (h : f_Mo_undo N S  = some out) {μ' : zM} (hμ : zset μ o out.2 = μ') : zMI l G yX8_undo cX8_undo 2 (some .int) 0 [.ref (G.2.2.1 o 0)] μ out.1 μ' := by
  subst hμ
  refine zMI.of (by decide) (Nat.le_of_ble_eq_true rfl) (fun p e s m args below meth c Q ls cx hI hl hret => ?_)
  obtain ⟨hx, hb, hml, hown, hts, hK, hR⟩ := id cx
  have hl : lv_has ls 2 [(0, .ref (G.2.2.1 o 0))] := hl
  rw [← zset_idS hS] at hI
  unfold f_Mo_undo at h
  refine lv_aload_n hx hb dX8_undo_0 rfl (lv_at hl 0 rfl) ?_
  refine g8_2 cx hI hc (zset_s _ _ _) w_190 dX8_undo_1 ?_
  refine lv_if_ne (tgt := 10) hx hb dX8_undo_4 (by decide) (fun c1 => ?_) (fun c1 => ?_)
  · have h := it_n h c1
    refine lv_aload_n hx hb dX8_undo_10 rfl (lv_at hl 0 rfl) ?_
    refine lv_dup hx hb dX8_undo_11 rfl ?_
    refine g8_2 cx hI hc (zset_s _ _ _) w_190 dX8_undo_12 ?_
    refine lv_iconst (v := (nI 1)) hx hb dX8_undo_15 (by decide) ?_
    refine lv_isub hx hb dX8_undo_16 ?_
    obtain ⟨Z2, eZ2⟩ : ∃ z : zOb, z = zI S 0 2 ((S.1 0 2) - (nI 1)) := ⟨_, rfl⟩
    have h := bnd_el h eZ2
    refine p8_2 cx hI hc (zset_s _ _ _) w_190 (zss eZ2) dX8_undo_17 (fun H locs hI => ?_)
    refine lv_iconst (v := (nI 0)) hx hb dX8_undo_20 (by decide) ?_
    refine lv_istore_n (lv' := [(1, .int (nI 0)), (0, .ref (G.2.2.1 o 0))]) hx hb dX8_undo_21 rfl hl (by decide) rfl (fun ls hl => ?_)
    exact t_Mo_undo_22 N hc cx hret N Z2 (nI 0) h hI (lv_sub hl [1, 0] rfl)
  · have h := it_p h c1
    refine lv_bipush (v := (-4 : Int32)) hx hb dX8_undo_7 (by decide) ?_
    obtain rfl := Option.some.inj h
    exact hret _ _ _ _ dX8_undo_9 rfl hI
def f_Mo_seed (S : zOb) (a1 : Int32) : Option (Int32 × zOb) :=
  (if nI 0 ≤ a1 then bnd (S.1 1 5) (fun v2 => bnd (zI S 1 5 a1) (fun Z3 => some (v2, Z3))) else some ((-1 : Int32), S))
set_option maxHeartbeats 4000000 in
set_option maxRecDepth 100000 in
theorem c_Mo_seed {l : Launch} {G : zG} {μ : zM} {o : Nat} (hc : o = 29) {S : zOb} (hS : μ o = S) {a1 : Int32} {out : (Int32 × zOb)} (h : f_Mo_seed S a1 = some out) {μ' : zM} (hμ : zset μ o out.2 = μ') : zMI l G yX8_seed cX8_seed 3 (some .int) 0 [.ref (G.2.2.1 o 0), .int a1] μ out.1 μ' := by
  subst hμ
  refine zMI.of (by decide) (Nat.le_of_ble_eq_true rfl) (fun p e s m args below meth c Q ls cx hI hl hret => ?_)
  obtain ⟨hx, hb, hml, hown, hts, hK, hR⟩ := id cx
  have hl : lv_has ls 3 [(0, .ref (G.2.2.1 o 0)), (1, .int a1)] := hl
  rw [← zset_idS hS] at hI
  unfold f_Mo_seed at h
  refine lv_iload_n hx hb dX8_seed_0 rfl (lv_at hl 1 rfl) ?_
  refine lv_if_ge (tgt := 6) hx hb dX8_seed_1 (by decide) (fun c1 => ?_) (fun c1 => ?_)
  · have h := it_p h c1
    refine lv_aload_n hx hb dX8_seed_6 rfl (lv_at hl 0 rfl) ?_
    refine g8_0 cx hI hc (zset_s _ _ _) w_108 dX8_seed_7 ?_
    refine lv_iconst (v := (nI 5)) hx hb dX8_seed_10 (by decide) ?_
    refine zr_iald cx hI (k8_1 hc) (zset_s _ _ _) (z8_1 hc) rfl (by decide) dX8_seed_11 ?_
    refine lv_topi (fun v2 ev2 => ?_)
    have h := bnd_el h ev2
    refine lv_istore_n (lv' := [(2, .int v2), (0, .ref (G.2.2.1 o 0)), (1, .int a1)]) hx hb dX8_seed_12 rfl hl (by decide) rfl (fun ls hl => ?_)
    refine lv_aload_n hx hb dX8_seed_13 rfl (lv_at hl 1 rfl) ?_
    refine g8_0 cx hI hc (zset_s _ _ _) w_108 dX8_seed_14 ?_
    refine lv_iconst (v := (nI 5)) hx hb dX8_seed_17 (by decide) ?_
    refine lv_iload_n hx hb dX8_seed_18 rfl (lv_at hl 2 rfl) ?_
    obtain ⟨Z3, eZ3⟩ : ∃ z : zOb, z = zI S 1 5 a1 := ⟨_, rfl⟩
    have h := bnd_el h eZ3
    refine zr_iast cx hI (k8_1 hc) (zset_s _ _ _) (z8_1 hc) rfl (by decide) (zss eZ3) dX8_seed_19 (fun H locs hI => ?_)
    refine lv_iload_n hx hb dX8_seed_20 rfl (lv_at hl 0 rfl) ?_
    obtain rfl := Option.some.inj h
    exact hret _ _ _ _ dX8_seed_21 rfl hI
  · have h := it_n h c1
    refine lv_iconst (v := (-1 : Int32)) hx hb dX8_seed_4 (by decide) ?_
    obtain rfl := Option.some.inj h
    exact hret _ _ _ _ dX8_seed_5 rfl hI
def f_Mo_image_28 (N : Nat)  : Nat → zOb → Int32 → Option (Int32 × zOb)
  | 0, _, _ => none
  | n + 1, S, x1 => (if (nI 162) ≤ x1 then bnd (zI S 0 5 (S.1 0 2)) (fun Z3 => some ((nI 1), Z3)) else if zin x1 162 then if zin x1 162 then bnd (zI S 5 x1.toNatClampNeg (S.1 2 x1.toNatClampNeg)) (fun Z6 => bnd (x1 + (nI 1)) (fun v7 => f_Mo_image_28 N n Z6 v7)) else none else none)
set_option maxHeartbeats 4000000 in
set_option maxRecDepth 100000 in
theorem t_Mo_image_28 (N : Nat) {p : Program} {l : Launch} {e : Env} {s : State} {m : MethodId} {args : Array Value} {below : List Frame} {meth : Method} {c : Code} {Q : State → Prop} {G : zG} {μ : zM} {o : Nat} (hc : o = 29) {out : (Int32 × zOb)} (cx : zCX p (zrm 0) s m args c RX8 cX8_image 2 0 G) (hret : zRi p l e (zrm 0) s m args below meth c cX8_image G .int Q out.1 (zset μ o out.2))   : ∀ (n : Nat) (S : zOb) (x1 : Int32), f_Mo_image_28 N n S x1 = some out → ∀ {H : Heap} {locs : List Loc} {ls : Array Slot}, zIW G s (zset μ o S) H locs → lv_has ls 2 [(0, .ref (G.2.2.1 o 0)), (1, .int x1)] → W p l e (zrm 0) s m args below meth c H locs 0 0 Q (F0 m 28 ls []) := by
  obtain ⟨hx, hb, hml, hown, hts, hK, hR⟩ := id cx
  intro n
  induction n with
  | zero =>
    intro S x1  h
    cases h
  | succ n ih =>
    intro S x1  h H locs ls hI hl
    rw [f_Mo_image_28] at h
    refine lv_iload_n hx hb dX8_image_28 rfl (lv_at hl 1 rfl) ?_
    refine lv_sipush (v := (nI 162)) hx hb dX8_image_29 (by decide) ?_
    refine lv_icmp_ge (tgt := 53) hx hb dX8_image_32 (by decide) (fun c2 => ?_) (fun c2 => ?_)
    · have h := it_p h c2
      refine lv_aload_n hx hb dX8_image_53 rfl (lv_at hl 0 rfl) ?_
      refine lv_aload_n hx hb dX8_image_54 rfl (lv_at hl 0 rfl) ?_
      refine g8_2 cx hI hc (zset_s _ _ _) w_190 dX8_image_55 ?_
      obtain ⟨Z3, eZ3⟩ : ∃ z : zOb, z = zI S 0 5 (S.1 0 2) := ⟨_, rfl⟩
      have h := bnd_el h eZ3
      refine p8_5 cx hI hc (zset_s _ _ _) w_112 (zss eZ3) dX8_image_58 (fun H locs hI => ?_)
      refine lv_iconst (v := (nI 1)) hx hb dX8_image_61 (by decide) ?_
      obtain rfl := Option.some.inj h
      exact hret _ _ _ _ dX8_image_62 rfl hI
    · have h := it_n h c2
      refine lv_aload_n hx hb dX8_image_35 rfl (lv_at hl 0 rfl) ?_
      refine g8_4 cx hI hc (zset_s _ _ _) w_111 dX8_image_36 ?_
      refine lv_iload_n hx hb dX8_image_39 rfl (lv_at hl 1 rfl) ?_
      refine lv_aload_n hx hb dX8_image_40 rfl (lv_at hl 0 rfl) ?_
      refine g8_1 cx hI hc (zset_s _ _ _) w_109 dX8_image_41 ?_
      refine lv_iload_n hx hb dX8_image_44 rfl (lv_at hl 1 rfl) ?_
      obtain ⟨g4, h⟩ := gd_el h
      refine zr_iald cx hI (k8_2 hc) (zset_s _ _ _) (z8_2 hc) rfl g4 dX8_image_45 ?_
      obtain ⟨g5, h⟩ := gd_el h
      obtain ⟨Z6, eZ6⟩ : ∃ z : zOb, z = zI S 5 x1.toNatClampNeg (S.1 2 x1.toNatClampNeg) := ⟨_, rfl⟩
      have h := bnd_el h eZ6
      refine zr_iast cx hI (k8_5 hc) (zset_s _ _ _) (z8_5 hc) rfl g5 (zss eZ6) dX8_image_46 (fun H locs hI => ?_)
      obtain ⟨v7, ev7⟩ : ∃ z : Int32, z = x1 + (nI 1) := ⟨_, rfl⟩
      have h := bnd_el h ev7
      refine lv_iinc (v := v7) (lv' := [(1, .int v7), (0, .ref (G.2.2.1 o 0))]) hx hb dX8_image_47 hl (k := 1) rfl (by rw [ev7]; rfl) (by decide) rfl (fun ls hl => ?_)
      refine lv_goto (tgt := 28) hx hb dX8_image_50 (by decide) ?_
      exact ih Z6 v7 h hI (lv_sub hl [1, 0] rfl)
def f_Mo_image_2 (N : Nat)  : Nat → zOb → Int32 → Option (Int32 × zOb)
  | 0, _, _ => none
  | n + 1, S, x1 => (if (nI 27) ≤ x1 then f_Mo_image_28 N N S (nI 0) else if zin x1 27 then if zin x1 27 then bnd (zI S 4 x1.toNatClampNeg (S.1 1 x1.toNatClampNeg)) (fun Z10 => bnd (x1 + (nI 1)) (fun v11 => f_Mo_image_2 N n Z10 v11)) else none else none)
set_option maxHeartbeats 4000000 in
set_option maxRecDepth 100000 in
theorem t_Mo_image_2 (N : Nat) {p : Program} {l : Launch} {e : Env} {s : State} {m : MethodId} {args : Array Value} {below : List Frame} {meth : Method} {c : Code} {Q : State → Prop} {G : zG} {μ : zM} {o : Nat} (hc : o = 29) {out : (Int32 × zOb)} (cx : zCX p (zrm 0) s m args c RX8 cX8_image 2 0 G) (hret : zRi p l e (zrm 0) s m args below meth c cX8_image G .int Q out.1 (zset μ o out.2))   : ∀ (n : Nat) (S : zOb) (x1 : Int32), f_Mo_image_2 N n S x1 = some out → ∀ {H : Heap} {locs : List Loc} {ls : Array Slot}, zIW G s (zset μ o S) H locs → lv_has ls 2 [(0, .ref (G.2.2.1 o 0)), (1, .int x1)] → W p l e (zrm 0) s m args below meth c H locs 0 0 Q (F0 m 2 ls []) := by
  obtain ⟨hx, hb, hml, hown, hts, hK, hR⟩ := id cx
  intro n
  induction n with
  | zero =>
    intro S x1  h
    cases h
  | succ n ih =>
    intro S x1  h H locs ls hI hl
    rw [f_Mo_image_2] at h
    refine lv_iload_n hx hb dX8_image_2 rfl (lv_at hl 1 rfl) ?_
    refine lv_bipush (v := (nI 27)) hx hb dX8_image_3 (by decide) ?_
    refine lv_icmp_ge (tgt := 26) hx hb dX8_image_5 (by decide) (fun c1 => ?_) (fun c1 => ?_)
    · have h := it_p h c1
      refine lv_iconst (v := (nI 0)) hx hb dX8_image_26 (by decide) ?_
      refine lv_istore_n (lv' := [(1, .int (nI 0)), (0, .ref (G.2.2.1 o 0))]) hx hb dX8_image_27 rfl hl (by decide) rfl (fun ls hl => ?_)
      exact t_Mo_image_28 N hc cx hret N S (nI 0) h hI (lv_sub hl [1, 0] rfl)
    · have h := it_n h c1
      refine lv_aload_n hx hb dX8_image_8 rfl (lv_at hl 0 rfl) ?_
      refine g8_3 cx hI hc (zset_s _ _ _) w_110 dX8_image_9 ?_
      refine lv_iload_n hx hb dX8_image_12 rfl (lv_at hl 1 rfl) ?_
      refine lv_aload_n hx hb dX8_image_13 rfl (lv_at hl 0 rfl) ?_
      refine g8_0 cx hI hc (zset_s _ _ _) w_108 dX8_image_14 ?_
      refine lv_iload_n hx hb dX8_image_17 rfl (lv_at hl 1 rfl) ?_
      obtain ⟨g8, h⟩ := gd_el h
      refine zr_iald cx hI (k8_1 hc) (zset_s _ _ _) (z8_1 hc) rfl g8 dX8_image_18 ?_
      obtain ⟨g9, h⟩ := gd_el h
      obtain ⟨Z10, eZ10⟩ : ∃ z : zOb, z = zI S 4 x1.toNatClampNeg (S.1 1 x1.toNatClampNeg) := ⟨_, rfl⟩
      have h := bnd_el h eZ10
      refine zr_iast cx hI (k8_4 hc) (zset_s _ _ _) (z8_4 hc) rfl g9 (zss eZ10) dX8_image_19 (fun H locs hI => ?_)
      obtain ⟨v11, ev11⟩ : ∃ z : Int32, z = x1 + (nI 1) := ⟨_, rfl⟩
      have h := bnd_el h ev11
      refine lv_iinc (v := v11) (lv' := [(1, .int v11), (0, .ref (G.2.2.1 o 0))]) hx hb dX8_image_20 hl (k := 1) rfl (by rw [ev11]; rfl) (by decide) rfl (fun ls hl => ?_)
      refine lv_goto (tgt := 2) hx hb dX8_image_23 (by decide) ?_
      exact ih Z10 v11 h hI (lv_sub hl [1, 0] rfl)
def f_Mo_image (N : Nat) (S : zOb) : Option (Int32 × zOb) :=
  f_Mo_image_2 N N S (nI 0)
set_option maxHeartbeats 4000000 in
set_option maxRecDepth 100000 in
theorem c_Mo_image (N : Nat) {l : Launch} {G : zG} {μ : zM} {o : Nat} (hc : o = 29) {S : zOb} (hS : μ o = S)  {out : (Int32 × zOb)} (h : f_Mo_image N S  = some out) {μ' : zM} (hμ : zset μ o out.2 = μ') : zMI l G yX8_image cX8_image 2 (some .int) 0 [.ref (G.2.2.1 o 0)] μ out.1 μ' := by
  subst hμ
  refine zMI.of (by decide) (Nat.le_of_ble_eq_true rfl) (fun p e s m args below meth c Q ls cx hI hl hret => ?_)
  obtain ⟨hx, hb, hml, hown, hts, hK, hR⟩ := id cx
  have hl : lv_has ls 2 [(0, .ref (G.2.2.1 o 0))] := hl
  rw [← zset_idS hS] at hI
  unfold f_Mo_image at h
  refine lv_iconst (v := (nI 0)) hx hb dX8_image_0 (by decide) ?_
  refine lv_istore_n (lv' := [(1, .int (nI 0)), (0, .ref (G.2.2.1 o 0))]) hx hb dX8_image_1 rfl hl (by decide) rfl (fun ls hl => ?_)
  exact t_Mo_image_2 N hc cx hret N S (nI 0) h hI (lv_sub hl [1, 0] rfl)
def f_Mo_restore_38 (N : Nat)  : Nat → zOb → Int32 → Option (Int32 × zOb)
  | 0, _, _ => none
  | n + 1, S, x1 => (if (nI 162) ≤ x1 then bnd (zI S 0 2 (S.1 0 5)) (fun Z4 => some ((nI 1), Z4)) else if zin x1 162 then if zin x1 162 then bnd (zI S 2 x1.toNatClampNeg (S.1 5 x1.toNatClampNeg)) (fun Z7 => bnd (x1 + (nI 1)) (fun v8 => f_Mo_restore_38 N n Z7 v8)) else none else none)
set_option maxHeartbeats 4000000 in
set_option maxRecDepth 100000 in
theorem t_Mo_restore_38 (N : Nat) {p : Program} {l : Launch} {e : Env} {s : State} {m : MethodId} {args : Array Value} {below : List Frame} {meth : Method} {c : Code} {Q : State → Prop} {G : zG} {μ : zM} {o : Nat} (hc : o = 29) {out : (Int32 × zOb)} (cx : zCX p (zrm 0) s m args c RX8 cX8_restore 2 0 G) (hret : zRi p l e (zrm 0) s m args below meth c cX8_restore G .int Q out.1 (zset μ o out.2))   : ∀ (n : Nat) (S : zOb) (x1 : Int32), f_Mo_restore_38 N n S x1 = some out → ∀ {H : Heap} {locs : List Loc} {ls : Array Slot}, zIW G s (zset μ o S) H locs → lv_has ls 2 [(0, .ref (G.2.2.1 o 0)), (1, .int x1)] → W p l e (zrm 0) s m args below meth c H locs 0 0 Q (F0 m 38 ls []) := by
  obtain ⟨hx, hb, hml, hown, hts, hK, hR⟩ := id cx
  intro n
  induction n with
  | zero =>
    intro S x1  h
    cases h
  | succ n ih =>
    intro S x1  h H locs ls hI hl
    rw [f_Mo_restore_38] at h
    refine lv_iload_n hx hb dX8_restore_38 rfl (lv_at hl 1 rfl) ?_
    refine lv_sipush (v := (nI 162)) hx hb dX8_restore_39 (by decide) ?_
    refine lv_icmp_ge (tgt := 63) hx hb dX8_restore_42 (by decide) (fun c3 => ?_) (fun c3 => ?_)
    · have h := it_p h c3
      refine lv_aload_n hx hb dX8_restore_63 rfl (lv_at hl 0 rfl) ?_
      refine lv_aload_n hx hb dX8_restore_64 rfl (lv_at hl 0 rfl) ?_
      refine g8_5 cx hI hc (zset_s _ _ _) w_112 dX8_restore_65 ?_
      obtain ⟨Z4, eZ4⟩ : ∃ z : zOb, z = zI S 0 2 (S.1 0 5) := ⟨_, rfl⟩
      have h := bnd_el h eZ4
      refine p8_2 cx hI hc (zset_s _ _ _) w_190 (zss eZ4) dX8_restore_68 (fun H locs hI => ?_)
      refine lv_iconst (v := (nI 1)) hx hb dX8_restore_71 (by decide) ?_
      obtain rfl := Option.some.inj h
      exact hret _ _ _ _ dX8_restore_72 rfl hI
    · have h := it_n h c3
      refine lv_aload_n hx hb dX8_restore_45 rfl (lv_at hl 0 rfl) ?_
      refine g8_1 cx hI hc (zset_s _ _ _) w_109 dX8_restore_46 ?_
      refine lv_iload_n hx hb dX8_restore_49 rfl (lv_at hl 1 rfl) ?_
      refine lv_aload_n hx hb dX8_restore_50 rfl (lv_at hl 0 rfl) ?_
      refine g8_4 cx hI hc (zset_s _ _ _) w_111 dX8_restore_51 ?_
      refine lv_iload_n hx hb dX8_restore_54 rfl (lv_at hl 1 rfl) ?_
      obtain ⟨g5, h⟩ := gd_el h
      refine zr_iald cx hI (k8_5 hc) (zset_s _ _ _) (z8_5 hc) rfl g5 dX8_restore_55 ?_
      obtain ⟨g6, h⟩ := gd_el h
      obtain ⟨Z7, eZ7⟩ : ∃ z : zOb, z = zI S 2 x1.toNatClampNeg (S.1 5 x1.toNatClampNeg) := ⟨_, rfl⟩
      have h := bnd_el h eZ7
      refine zr_iast cx hI (k8_2 hc) (zset_s _ _ _) (z8_2 hc) rfl g6 (zss eZ7) dX8_restore_56 (fun H locs hI => ?_)
      obtain ⟨v8, ev8⟩ : ∃ z : Int32, z = x1 + (nI 1) := ⟨_, rfl⟩
      have h := bnd_el h ev8
      refine lv_iinc (v := v8) (lv' := [(1, .int v8), (0, .ref (G.2.2.1 o 0))]) hx hb dX8_restore_57 hl (k := 1) rfl (by rw [ev8]; rfl) (by decide) rfl (fun ls hl => ?_)
      refine lv_goto (tgt := 38) hx hb dX8_restore_60 (by decide) ?_
      exact ih Z7 v8 h hI (lv_sub hl [1, 0] rfl)
def f_Mo_restore_12 (N : Nat)  : Nat → zOb → Int32 → Option (Int32 × zOb)
  | 0, _, _ => none
  | n + 1, S, x1 => (if (nI 27) ≤ x1 then f_Mo_restore_38 N N S (nI 0) else if zin x1 27 then if zin x1 27 then bnd (zI S 1 x1.toNatClampNeg (S.1 4 x1.toNatClampNeg)) (fun Z11 => bnd (x1 + (nI 1)) (fun v12 => f_Mo_restore_12 N n Z11 v12)) else none else none)
set_option maxHeartbeats 4000000 in
set_option maxRecDepth 100000 in
theorem t_Mo_restore_12 (N : Nat) {p : Program} {l : Launch} {e : Env} {s : State} {m : MethodId} {args : Array Value} {below : List Frame} {meth : Method} {c : Code} {Q : State → Prop} {G : zG} {μ : zM} {o : Nat} (hc : o = 29) {out : (Int32 × zOb)} (cx : zCX p (zrm 0) s m args c RX8 cX8_restore 2 0 G) (hret : zRi p l e (zrm 0) s m args below meth c cX8_restore G .int Q out.1 (zset μ o out.2))   : ∀ (n : Nat) (S : zOb) (x1 : Int32), f_Mo_restore_12 N n S x1 = some out → ∀ {H : Heap} {locs : List Loc} {ls : Array Slot}, zIW G s (zset μ o S) H locs → lv_has ls 2 [(0, .ref (G.2.2.1 o 0)), (1, .int x1)] → W p l e (zrm 0) s m args below meth c H locs 0 0 Q (F0 m 12 ls []) := by
  obtain ⟨hx, hb, hml, hown, hts, hK, hR⟩ := id cx
  intro n
  induction n with
  | zero =>
    intro S x1  h
    cases h
  | succ n ih =>
    intro S x1  h H locs ls hI hl
    rw [f_Mo_restore_12] at h
    refine lv_iload_n hx hb dX8_restore_12 rfl (lv_at hl 1 rfl) ?_
    refine lv_bipush (v := (nI 27)) hx hb dX8_restore_13 (by decide) ?_
    refine lv_icmp_ge (tgt := 36) hx hb dX8_restore_15 (by decide) (fun c2 => ?_) (fun c2 => ?_)
    · have h := it_p h c2
      refine lv_iconst (v := (nI 0)) hx hb dX8_restore_36 (by decide) ?_
      refine lv_istore_n (lv' := [(1, .int (nI 0)), (0, .ref (G.2.2.1 o 0))]) hx hb dX8_restore_37 rfl hl (by decide) rfl (fun ls hl => ?_)
      exact t_Mo_restore_38 N hc cx hret N S (nI 0) h hI (lv_sub hl [1, 0] rfl)
    · have h := it_n h c2
      refine lv_aload_n hx hb dX8_restore_18 rfl (lv_at hl 0 rfl) ?_
      refine g8_0 cx hI hc (zset_s _ _ _) w_108 dX8_restore_19 ?_
      refine lv_iload_n hx hb dX8_restore_22 rfl (lv_at hl 1 rfl) ?_
      refine lv_aload_n hx hb dX8_restore_23 rfl (lv_at hl 0 rfl) ?_
      refine g8_3 cx hI hc (zset_s _ _ _) w_110 dX8_restore_24 ?_
      refine lv_iload_n hx hb dX8_restore_27 rfl (lv_at hl 1 rfl) ?_
      obtain ⟨g9, h⟩ := gd_el h
      refine zr_iald cx hI (k8_4 hc) (zset_s _ _ _) (z8_4 hc) rfl g9 dX8_restore_28 ?_
      obtain ⟨g10, h⟩ := gd_el h
      obtain ⟨Z11, eZ11⟩ : ∃ z : zOb, z = zI S 1 x1.toNatClampNeg (S.1 4 x1.toNatClampNeg) := ⟨_, rfl⟩
      have h := bnd_el h eZ11
      refine zr_iast cx hI (k8_1 hc) (zset_s _ _ _) (z8_1 hc) rfl g10 (zss eZ11) dX8_restore_29 (fun H locs hI => ?_)
      obtain ⟨v12, ev12⟩ : ∃ z : Int32, z = x1 + (nI 1) := ⟨_, rfl⟩
      have h := bnd_el h ev12
      refine lv_iinc (v := v12) (lv' := [(1, .int v12), (0, .ref (G.2.2.1 o 0))]) hx hb dX8_restore_30 hl (k := 1) rfl (by rw [ev12]; rfl) (by decide) rfl (fun ls hl => ?_)
      refine lv_goto (tgt := 12) hx hb dX8_restore_33 (by decide) ?_
      exact ih Z11 v12 h hI (lv_sub hl [1, 0] rfl)
def f_Mo_restore (N : Nat) (S : zOb) : Option (Int32 × zOb) :=
  (if nI 0 ≤ (S.1 0 5) then f_Mo_restore_12 N N S (nI 0) else some ((-4 : Int32), S))
set_option maxHeartbeats 4000000 in
set_option maxRecDepth 100000 in
theorem c_Mo_restore (N : Nat) {l : Launch} {G : zG} {μ : zM} {o : Nat} (hc : o = 29) {S : zOb} (hS : μ o = S)  {out : (Int32 × zOb)} (h : f_Mo_restore N S  = some out) {μ' : zM} (hμ : zset μ o out.2 = μ') : zMI l G yX8_restore cX8_restore 2 (some .int) 0 [.ref (G.2.2.1 o 0)] μ out.1 μ' := by
  subst hμ
  refine zMI.of (by decide) (Nat.le_of_ble_eq_true rfl) (fun p e s m args below meth c Q ls cx hI hl hret => ?_)
  obtain ⟨hx, hb, hml, hown, hts, hK, hR⟩ := id cx
  have hl : lv_has ls 2 [(0, .ref (G.2.2.1 o 0))] := hl
  rw [← zset_idS hS] at hI
  unfold f_Mo_restore at h
  refine lv_aload_n hx hb dX8_restore_0 rfl (lv_at hl 0 rfl) ?_
  refine g8_5 cx hI hc (zset_s _ _ _) w_112 dX8_restore_1 ?_
  refine lv_if_ge (tgt := 10) hx hb dX8_restore_4 (by decide) (fun c1 => ?_) (fun c1 => ?_)
  · have h := it_p h c1
    refine lv_iconst (v := (nI 0)) hx hb dX8_restore_10 (by decide) ?_
    refine lv_istore_n (lv' := [(1, .int (nI 0)), (0, .ref (G.2.2.1 o 0))]) hx hb dX8_restore_11 rfl hl (by decide) rfl (fun ls hl => ?_)
    exact t_Mo_restore_12 N hc cx hret N S (nI 0) h hI (lv_sub hl [1, 0] rfl)
  · have h := it_n h c1
    refine lv_bipush (v := (-4 : Int32)) hx hb dX8_restore_7 (by decide) ?_
    obtain rfl := Option.some.inj h
    exact hret _ _ _ _ dX8_restore_9 rfl hI
def f_Mo_isSheet (a0 : Int32) : Option Int32 :=
  (f_Mo_in a0.toInt64 (0 : Int64) (3 : Int64)).bind (fun q1 => if (q1 = nI 0 ∨ q1 = nI 1) then some q1 else none)
set_option maxHeartbeats 4000000 in
set_option maxRecDepth 100000 in
theorem c_Mo_isSheet {l : Launch} {G : zG} {μ : zM}  {a0 : Int32} {out : Int32} (h : f_Mo_isSheet a0 = some out) : zMI l G yX8_isSheet cX8_isSheet 1 (some .boolean) 1 [.int a0] μ out μ := by
  refine zMI.of (by decide) (Nat.le_of_ble_eq_true rfl) (fun p e s m args below meth c Q ls cx hI hl hret => ?_)
  obtain ⟨hx, hb, hml, hown, hts, hK, hR⟩ := id cx
  have hl : lv_has ls 1 [(0, .int a0)] := hl
  unfold f_Mo_isSheet at h
  refine lv_iload_n hx hb dX8_isSheet_0 rfl (lv_at hl 0 rfl) ?_
  refine lv_i2l hx hb dX8_isSheet_1 rfl ?_
  refine lv_lconst (v := (0 : Int64)) hx hb dX8_isSheet_2 (by decide) ?_
  refine lv_ldc2 (v := (3 : Int64)) hx hb hown (hts _ w_1006) dX8_isSheet_3 ?_
  obtain ⟨q1, hq1, h⟩ := bi_el h
  refine zcSi (As := [.long a0.toInt64, .long (0 : Int64), .long (3 : Int64)]) cx hI (c_Mo_in  hq1) mt_yX8_in ms_yX8_in w_179 (by omega) rfl hl.1 rfl (Nat.le_of_ble_eq_true rfl) dX8_isSheet_6 (fun H locs hI => ?_)
  obtain ⟨g2, h⟩ := gd_el h
  obtain rfl := Option.some.inj h
  exact hret _ _ _ _ dX8_isSheet_9 (zbool g2) hI
def f_Mo_cut_35  (s0 : Int64) : Option Int64 :=
  some s0
set_option maxHeartbeats 4000000 in
set_option maxRecDepth 100000 in
theorem t_Mo_cut_35  {p : Program} {l : Launch} {e : Env} {s : State} {m : MethodId} {args : Array Value} {below : List Frame} {meth : Method} {c : Code} {Q : State → Prop} {G : zG} {μ : zM}  {out : Int64} (cx : zCX p (zrm 0) s m args c RX8 cX8_cut 3 0 G) (hret : zRl p l e (zrm 0) s m args below meth c cX8_cut G Q out μ)   : ∀ (s0 : Int64), f_Mo_cut_35 s0 = some out → ∀ {H : Heap} {locs : List Loc} {ls : Array Slot}, zIW G s μ H locs → lv_has ls 3 [] → W p l e (zrm 0) s m args below meth c H locs 0 0 Q (F0 m 35 ls [.long s0]) := by
  obtain ⟨hx, hb, hml, hown, hts, hK, hR⟩ := id cx
  intro s0  h H locs ls hI hl
  unfold f_Mo_cut_35 at h
  obtain rfl := Option.some.inj h
  exact hret _ _ _ _ dX8_cut_35 hI
def f_Mo_cut (a0 : Int32) (a1 : Int64) : Option Int64 :=
  (if a0 = nI 0 then f_Mo_cut_35 a1.toInt32.toInt8.toInt32.toInt64 else (if a0 = (nI 1) then f_Mo_cut_35 a1.toInt32.toInt16.toInt32.toInt64 else (if a0 = (nI 2) then f_Mo_cut_35 a1.toInt32.toInt64 else f_Mo_cut_35 a1)))
set_option maxHeartbeats 4000000 in
set_option maxRecDepth 100000 in
theorem c_Mo_cut {l : Launch} {G : zG} {μ : zM}  {a0 : Int32} {a1 : Int64} {out : Int64} (h : f_Mo_cut a0 a1 = some out) : zML l G yX8_cut cX8_cut 3 (some .long) 0 [.int a0, .long a1] μ out μ := by
  refine zML.of (by decide) (Nat.le_of_ble_eq_true rfl) (fun p e s m args below meth c Q ls cx hI hl hret => ?_)
  obtain ⟨hx, hb, hml, hown, hts, hK, hR⟩ := id cx
  have hl : lv_has ls 3 [(0, .int a0), (1, .long a1)] := hl
  unfold f_Mo_cut at h
  refine lv_iload_n hx hb dX8_cut_0 rfl (lv_at hl 0 rfl) ?_
  refine lv_if_ne (tgt := 11) hx hb dX8_cut_1 (by decide) (fun c1 => ?_) (fun c1 => ?_)
  · have h := it_n h c1
    refine lv_iload_n hx hb dX8_cut_11 rfl (lv_at hl 0 rfl) ?_
    refine lv_iconst (v := (nI 1)) hx hb dX8_cut_12 (by decide) ?_
    refine lv_icmp_ne (tgt := 23) hx hb dX8_cut_13 (by decide) (fun c2 => ?_) (fun c2 => ?_)
    · have h := it_n h c2
      refine lv_iload_n hx hb dX8_cut_23 rfl (lv_at hl 0 rfl) ?_
      refine lv_iconst (v := (nI 2)) hx hb dX8_cut_24 (by decide) ?_
      refine lv_icmp_ne (tgt := 34) hx hb dX8_cut_25 (by decide) (fun c3 => ?_) (fun c3 => ?_)
      · have h := it_n h c3
        refine lv_lload_n hx hb dX8_cut_34 rfl (lv_at hl 1 rfl) ?_
        exact t_Mo_cut_35  cx hret a1 h hI (lv_sub hl [] rfl)
      · have h := it_p h c3
        refine lv_lload_n hx hb dX8_cut_28 rfl (lv_at hl 1 rfl) ?_
        refine lv_l2i hx hb dX8_cut_29 rfl ?_
        refine lv_i2l hx hb dX8_cut_30 rfl ?_
        refine lv_goto (tgt := 35) hx hb dX8_cut_31 (by decide) ?_
        exact t_Mo_cut_35  cx hret a1.toInt32.toInt64 h hI (lv_sub hl [] rfl)
    · have h := it_p h c2
      refine lv_lload_n hx hb dX8_cut_16 rfl (lv_at hl 1 rfl) ?_
      refine lv_l2i hx hb dX8_cut_17 rfl ?_
      refine lv_i2s hx hb dX8_cut_18 rfl ?_
      refine lv_i2l hx hb dX8_cut_19 rfl ?_
      refine lv_goto (tgt := 35) hx hb dX8_cut_20 (by decide) ?_
      exact t_Mo_cut_35  cx hret a1.toInt32.toInt16.toInt32.toInt64 h hI (lv_sub hl [] rfl)
  · have h := it_p h c1
    refine lv_lload_n hx hb dX8_cut_4 rfl (lv_at hl 1 rfl) ?_
    refine lv_l2i hx hb dX8_cut_5 rfl ?_
    refine lv_i2b hx hb dX8_cut_6 rfl ?_
    refine lv_i2l hx hb dX8_cut_7 rfl ?_
    refine lv_goto (tgt := 35) hx hb dX8_cut_8 (by decide) ?_
    exact t_Mo_cut_35  cx hret a1.toInt32.toInt8.toInt32.toInt64 h hI (lv_sub hl [] rfl)
def f_Mo_found_48 (S : zOb)  (s0 : Int32) : Option Int32 :=
  some s0
set_option maxHeartbeats 4000000 in
set_option maxRecDepth 100000 in
theorem t_Mo_found_48  {p : Program} {l : Launch} {e : Env} {s : State} {m : MethodId} {args : Array Value} {below : List Frame} {meth : Method} {c : Code} {Q : State → Prop} {G : zG} {μ : zM} {o : Nat} (hc : o = 29) {S : zOb} (hS : μ o = S) {out : Int32} (cx : zCX p (zrm 0) s m args c RX8 cX8_found 5 0 G) (hret : zRi p l e (zrm 0) s m args below meth c cX8_found G .int Q out μ)   : ∀ (s0 : Int32), f_Mo_found_48 S s0 = some out → ∀ {H : Heap} {locs : List Loc} {ls : Array Slot}, zIW G s μ H locs → lv_has ls 5 [] → W p l e (zrm 0) s m args below meth c H locs 0 0 Q (F0 m 48 ls [.int s0]) := by
  obtain ⟨hx, hb, hml, hown, hts, hK, hR⟩ := id cx
  intro s0  h H locs ls hI hl
  unfold f_Mo_found_48 at h
  obtain rfl := Option.some.inj h
  exact hret _ _ _ _ dX8_found_48 rfl hI
def f_Mo_found_42 (S : zOb)   : Option Int32 :=
  f_Mo_found_48 S (-13 : Int32)
set_option maxHeartbeats 4000000 in
set_option maxRecDepth 100000 in
theorem t_Mo_found_42  {p : Program} {l : Launch} {e : Env} {s : State} {m : MethodId} {args : Array Value} {below : List Frame} {meth : Method} {c : Code} {Q : State → Prop} {G : zG} {μ : zM} {o : Nat} (hc : o = 29) {S : zOb} (hS : μ o = S) {out : Int32} (cx : zCX p (zrm 0) s m args c RX8 cX8_found 5 0 G) (hret : zRi p l e (zrm 0) s m args below meth c cX8_found G .int Q out μ)   : f_Mo_found_42 S  = some out → ∀ {H : Heap} {locs : List Loc} {ls : Array Slot}, zIW G s μ H locs → lv_has ls 5 [] → W p l e (zrm 0) s m args below meth c H locs 0 0 Q (F0 m 42 ls []) := by
  obtain ⟨hx, hb, hml, hown, hts, hK, hR⟩ := id cx
  intro   h H locs ls hI hl
  unfold f_Mo_found_42 at h
  refine lv_bipush (v := (-13 : Int32)) hx hb dX8_found_42 (by decide) ?_
  refine lv_goto (tgt := 48) hx hb dX8_found_44 (by decide) ?_
  exact t_Mo_found_48 hc hS cx hret (-13 : Int32) h hI hl
def f_Mo_found (S : zOb) (a1 : Int32) (a2 : Int32) (a3 : Int32) (a4 : Int32) : Option Int32 :=
  if zin a1 4 then (if nI 0 ≤ (S.1 9 a1.toNatClampNeg) then if zin a1 4 then (if (S.1 9 a1.toNatClampNeg) = a2 then (if a3 < nI 0 then f_Mo_found_42 S else if zin a1 4 then (if a4 ≤ ((S.1 10 a1.toNatClampNeg) - a3) then f_Mo_found_48 S (nI 0) else f_Mo_found_42 S) else none) else some (-12 : Int32)) else none else some (-11 : Int32)) else none
set_option maxHeartbeats 4000000 in
set_option maxRecDepth 100000 in
theorem c_Mo_found {l : Launch} {G : zG} {μ : zM} {o : Nat} (hc : o = 29) {S : zOb} (hS : μ o = S) {a1 : Int32} {a2 : Int32} {a3 : Int32} {a4 : Int32} {out : Int32} (h : f_Mo_found S a1 a2 a3 a4 = some out) : zMI l G yX8_found cX8_found 5 (some .int) 0 [.ref (G.2.2.1 o 0), .int a1, .int a2, .int a3, .int a4] μ out μ := by
  refine zMI.of (by decide) (Nat.le_of_ble_eq_true rfl) (fun p e s m args below meth c Q ls cx hI hl hret => ?_)
  obtain ⟨hx, hb, hml, hown, hts, hK, hR⟩ := id cx
  have hl : lv_has ls 5 [(0, .ref (G.2.2.1 o 0)), (1, .int a1), (2, .int a2), (3, .int a3), (4, .int a4)] := hl
  unfold f_Mo_found at h
  refine lv_aload_n hx hb dX8_found_0 rfl (lv_at hl 0 rfl) ?_
  refine g8_8 cx hI hc hS w_114 dX8_found_1 ?_
  refine lv_iload_n hx hb dX8_found_4 rfl (lv_at hl 1 rfl) ?_
  obtain ⟨g1, h⟩ := gd_el h
  refine zr_iald cx hI (k8_9 hc) hS (z8_9 hc) rfl g1 dX8_found_5 ?_
  refine lv_if_ge (tgt := 12) hx hb dX8_found_6 (by decide) (fun c2 => ?_) (fun c2 => ?_)
  · have h := it_p h c2
    refine lv_aload_n hx hb dX8_found_12 rfl (lv_at hl 0 rfl) ?_
    refine g8_8 cx hI hc hS w_114 dX8_found_13 ?_
    refine lv_iload_n hx hb dX8_found_16 rfl (lv_at hl 1 rfl) ?_
    obtain ⟨g3, h⟩ := gd_el h
    refine zr_iald cx hI (k8_9 hc) hS (z8_9 hc) rfl g3 dX8_found_17 ?_
    refine lv_iload_n hx hb dX8_found_18 rfl (lv_at hl 2 rfl) ?_
    refine lv_icmp_eq (tgt := 25) hx hb dX8_found_19 (by decide) (fun c4 => ?_) (fun c4 => ?_)
    · have h := it_p h c4
      refine lv_iload_n hx hb dX8_found_25 rfl (lv_at hl 3 rfl) ?_
      refine lv_if_lt (tgt := 42) hx hb dX8_found_26 (by decide) (fun c5 => ?_) (fun c5 => ?_)
      · have h := it_p h c5
        exact t_Mo_found_42 hc hS cx hret  h hI (lv_sub hl [] rfl)
      · have h := it_n h c5
        refine lv_iload hx hb dX8_found_29 (lv_at hl 4 rfl) ?_
        refine lv_aload_n hx hb dX8_found_31 rfl (lv_at hl 0 rfl) ?_
        refine g8_9 cx hI hc hS w_115 dX8_found_32 ?_
        refine lv_iload_n hx hb dX8_found_35 rfl (lv_at hl 1 rfl) ?_
        obtain ⟨g6, h⟩ := gd_el h
        refine zr_iald cx hI (k8_10 hc) hS (z8_10 hc) rfl g6 dX8_found_36 ?_
        refine lv_iload_n hx hb dX8_found_37 rfl (lv_at hl 3 rfl) ?_
        refine lv_isub hx hb dX8_found_38 ?_
        refine lv_icmp_le (tgt := 47) hx hb dX8_found_39 (by decide) (fun c7 => ?_) (fun c7 => ?_)
        · have h := it_p h c7
          refine lv_iconst (v := (nI 0)) hx hb dX8_found_47 (by decide) ?_
          exact t_Mo_found_48 hc hS cx hret (nI 0) h hI (lv_sub hl [] rfl)
        · have h := it_n h c7
          exact t_Mo_found_42 hc hS cx hret  h hI (lv_sub hl [] rfl)
    · have h := it_n h c4
      refine lv_bipush (v := (-12 : Int32)) hx hb dX8_found_22 (by decide) ?_
      obtain rfl := Option.some.inj h
      exact hret _ _ _ _ dX8_found_24 rfl hI
  · have h := it_n h c2
    refine lv_bipush (v := (-11 : Int32)) hx hb dX8_found_9 (by decide) ?_
    obtain rfl := Option.some.inj h
    exact hret _ _ _ _ dX8_found_11 rfl hI
def f_Mo_seen_19 (N : Nat)  (S : zOb) : Option (Int32 × zOb) :=
  some ((-1 : Int32), S)
set_option maxHeartbeats 4000000 in
set_option maxRecDepth 100000 in
theorem t_Mo_seen_19 (N : Nat) {p : Program} {l : Launch} {e : Env} {s : State} {m : MethodId} {args : Array Value} {below : List Frame} {meth : Method} {c : Code} {Q : State → Prop} {G : zG} {μ : zM} {o : Nat} (hc : o = 29) {out : (Int32 × zOb)} (cx : zCX p (zrm 3) s m args c RX8 cX8_seen 10 3 G) (hret : zRi p l e (zrm 3) s m args below meth c cX8_seen G .int Q out.1 (zset μ o out.2))   : ∀ (S : zOb), f_Mo_seen_19 N S = some out → ∀ {H : Heap} {locs : List Loc} {ls : Array Slot}, zIW G s (zset μ o S) H locs → lv_has ls 10 [] → W p l e (zrm 3) s m args below meth c H locs 0 0 Q (F0 m 19 ls []) := by
  obtain ⟨hx, hb, hml, hown, hts, hK, hR⟩ := id cx
  intro S  h H locs ls hI hl
  unfold f_Mo_seen_19 at h
  refine lv_iconst (v := (-1 : Int32)) hx hb dX8_seen_19 (by decide) ?_
  obtain rfl := Option.some.inj h
  exact hret _ _ _ _ dX8_seen_20 rfl hI
def f_Mo_seen_219 (N : Nat) (k134 : zOb → Int32 → Int32 → Int32 → Int32 → Option (Int32 × zOb)) (S : zOb) (x1 : Int32) (x3 : Int32) (s0 : Int32) (s1 : Int32) : Option (Int32 × zOb) :=
  bnd (s1 + s0) (fun v15 => (f_Mo_nextOrder N S).bind (fun q16 => bnd q16.1 (fun v17 => k134 q16.2 x1 x3 v15 v17)))
set_option maxHeartbeats 4000000 in
set_option maxRecDepth 100000 in
theorem t_Mo_seen_219 (N : Nat) {p : Program} {l : Launch} {e : Env} {s : State} {m : MethodId} {args : Array Value} {below : List Frame} {meth : Method} {c : Code} {Q : State → Prop} {G : zG} {μ : zM} {o : Nat} (hc : o = 29) {out : (Int32 × zOb)} (cx : zCX p (zrm 3) s m args c RX8 cX8_seen 10 3 G) (hret : zRi p l e (zrm 3) s m args below meth c cX8_seen G .int Q out.1 (zset μ o out.2)) {k134 : zOb → Int32 → Int32 → Int32 → Int32 → Option (Int32 × zOb)} (hk134 : ∀ (S : zOb) (x1 : Int32) (x3 : Int32) (x6 : Int32) (x7 : Int32), k134 S x1 x3 x6 x7 = some out → ∀ {H : Heap} {locs : List Loc} {ls : Array Slot}, zIW G s (zset μ o S) H locs → lv_has ls 10 [(0, .ref (G.2.2.1 o 0)), (1, .int x1), (3, .int x3), (6, .int x6), (7, .int x7)] → W p l e (zrm 3) s m args below meth c H locs 0 0 Q (F0 m 134 ls [])) : ∀ (S : zOb) (x1 : Int32) (x3 : Int32) (s0 : Int32) (s1 : Int32), f_Mo_seen_219 N k134 S x1 x3 s0 s1 = some out → ∀ {H : Heap} {locs : List Loc} {ls : Array Slot}, zIW G s (zset μ o S) H locs → lv_has ls 10 [(0, .ref (G.2.2.1 o 0)), (1, .int x1), (3, .int x3)] → W p l e (zrm 3) s m args below meth c H locs 0 0 Q (F0 m 219 ls [.int s0, .int s1]) := by
  obtain ⟨hx, hb, hml, hown, hts, hK, hR⟩ := id cx
  intro S x1 x3 s0 s1  h H locs ls hI hl
  unfold f_Mo_seen_219 at h
  refine lv_iadd hx hb dX8_seen_219 ?_
  refine lv_topi (fun v15 ev15 => ?_)
  have h := bnd_el h ev15
  refine lv_istore (lv' := [(6, .int v15), (0, .ref (G.2.2.1 o 0)), (1, .int x1), (3, .int x3)]) hx hb dX8_seen_220 hl (by decide) rfl (fun ls hl => ?_)
  refine lv_aload_n hx hb dX8_seen_222 rfl (lv_at hl 1 rfl) ?_
  obtain ⟨q16, hq16, h⟩ := bi_el h
  refine zcVi (As := []) cx hI (c_Mo_nextOrder N hc (zset_s _ _ _) hq16 (zset_ss _ _ _ _)) mt_yX8_nextOrder mv_yX8_nextOrder w_523 (by omega) (k8_0 hc) (zv8 hc) rfl hl.1 rfl (Nat.le_of_ble_eq_true rfl) dX8_seen_223 (fun H locs hI => ?_)
  refine lv_topi (fun v17 ev17 => ?_)
  have h := bnd_el h ev17
  refine lv_istore (lv' := [(7, .int v17), (6, .int v15), (0, .ref (G.2.2.1 o 0)), (1, .int x1), (3, .int x3)]) hx hb dX8_seen_226 hl (by decide) rfl (fun ls hl => ?_)
  refine lv_goto (tgt := 134) hx hb dX8_seen_228 (by decide) ?_
  exact hk134 q16.2 x1 x3 v15 v17 h hI (lv_sub hl [2, 3, 4, 1, 0] rfl)
def f_Mo_seen_199 (N : Nat) (k134 : zOb → Int32 → Int32 → Int32 → Int32 → Option (Int32 × zOb)) (k149 : zOb → Int32 → Int32 → Int32 → Int32 → Int32 → Option (Int32 × zOb)) (S : zOb) (x1 : Int32) (x3 : Int32) (x6 : Int32) (x9 : Int32) (s0 : Int32) : Option (Int32 × zOb) :=
  bnd (x9 + (nI 1)) (fun v19 => k149 S x1 x3 x6 s0 v19)
set_option maxHeartbeats 4000000 in
set_option maxRecDepth 100000 in
theorem t_Mo_seen_199 (N : Nat) {p : Program} {l : Launch} {e : Env} {s : State} {m : MethodId} {args : Array Value} {below : List Frame} {meth : Method} {c : Code} {Q : State → Prop} {G : zG} {μ : zM} {o : Nat} (hc : o = 29) {out : (Int32 × zOb)} (cx : zCX p (zrm 3) s m args c RX8 cX8_seen 10 3 G) (hret : zRi p l e (zrm 3) s m args below meth c cX8_seen G .int Q out.1 (zset μ o out.2)) {k134 : zOb → Int32 → Int32 → Int32 → Int32 → Option (Int32 × zOb)} {k149 : zOb → Int32 → Int32 → Int32 → Int32 → Int32 → Option (Int32 × zOb)} (hk134 : ∀ (S : zOb) (x1 : Int32) (x3 : Int32) (x6 : Int32) (x7 : Int32), k134 S x1 x3 x6 x7 = some out → ∀ {H : Heap} {locs : List Loc} {ls : Array Slot}, zIW G s (zset μ o S) H locs → lv_has ls 10 [(0, .ref (G.2.2.1 o 0)), (1, .int x1), (3, .int x3), (6, .int x6), (7, .int x7)] → W p l e (zrm 3) s m args below meth c H locs 0 0 Q (F0 m 134 ls [])) (hk149 : ∀ (S : zOb) (x1 : Int32) (x3 : Int32) (x6 : Int32) (x8 : Int32) (x9 : Int32), k149 S x1 x3 x6 x8 x9 = some out → ∀ {H : Heap} {locs : List Loc} {ls : Array Slot}, zIW G s (zset μ o S) H locs → lv_has ls 10 [(0, .ref (G.2.2.1 o 0)), (1, .int x1), (3, .int x3), (6, .int x6), (8, .int x8), (9, .int x9)] → W p l e (zrm 3) s m args below meth c H locs 0 0 Q (F0 m 149 ls [])) : ∀ (S : zOb) (x1 : Int32) (x3 : Int32) (x6 : Int32) (x9 : Int32) (s0 : Int32), f_Mo_seen_199 N k134 k149 S x1 x3 x6 x9 s0 = some out → ∀ {H : Heap} {locs : List Loc} {ls : Array Slot}, zIW G s (zset μ o S) H locs → lv_has ls 10 [(0, .ref (G.2.2.1 o 0)), (1, .int x1), (3, .int x3), (6, .int x6), (9, .int x9)] → W p l e (zrm 3) s m args below meth c H locs 0 0 Q (F0 m 199 ls [.int s0]) := by
  obtain ⟨hx, hb, hml, hown, hts, hK, hR⟩ := id cx
  intro S x1 x3 x6 x9 s0  h H locs ls hI hl
  unfold f_Mo_seen_199 at h
  refine lv_istore (lv' := [(8, .int s0), (0, .ref (G.2.2.1 o 0)), (1, .int x1), (3, .int x3), (6, .int x6), (9, .int x9)]) hx hb dX8_seen_199 hl (by decide) rfl (fun ls hl => ?_)
  obtain ⟨v19, ev19⟩ : ∃ z : Int32, z = x9 + (nI 1) := ⟨_, rfl⟩
  have h := bnd_el h ev19
  refine lv_iinc (v := v19) (lv' := [(9, .int v19), (8, .int s0), (0, .ref (G.2.2.1 o 0)), (1, .int x1), (3, .int x3), (6, .int x6)]) hx hb dX8_seen_201 hl (k := 5) rfl (by rw [ev19]; rfl) (by decide) rfl (fun ls hl => ?_)
  refine lv_goto (tgt := 149) hx hb dX8_seen_204 (by decide) ?_
  exact hk149 S x1 x3 x6 s0 v19 h hI (lv_sub hl [2, 3, 4, 5, 1, 0] rfl)
def f_Mo_seen_198 (N : Nat) (k134 : zOb → Int32 → Int32 → Int32 → Int32 → Option (Int32 × zOb)) (k149 : zOb → Int32 → Int32 → Int32 → Int32 → Int32 → Option (Int32 × zOb)) (S : zOb) (x1 : Int32) (x3 : Int32) (x6 : Int32) (x9 : Int32) : Option (Int32 × zOb) :=
  f_Mo_seen_199 N k134 k149 S x1 x3 x6 x9 (nI 0)
set_option maxHeartbeats 4000000 in
set_option maxRecDepth 100000 in
theorem t_Mo_seen_198 (N : Nat) {p : Program} {l : Launch} {e : Env} {s : State} {m : MethodId} {args : Array Value} {below : List Frame} {meth : Method} {c : Code} {Q : State → Prop} {G : zG} {μ : zM} {o : Nat} (hc : o = 29) {out : (Int32 × zOb)} (cx : zCX p (zrm 3) s m args c RX8 cX8_seen 10 3 G) (hret : zRi p l e (zrm 3) s m args below meth c cX8_seen G .int Q out.1 (zset μ o out.2)) {k134 : zOb → Int32 → Int32 → Int32 → Int32 → Option (Int32 × zOb)} {k149 : zOb → Int32 → Int32 → Int32 → Int32 → Int32 → Option (Int32 × zOb)} (hk134 : ∀ (S : zOb) (x1 : Int32) (x3 : Int32) (x6 : Int32) (x7 : Int32), k134 S x1 x3 x6 x7 = some out → ∀ {H : Heap} {locs : List Loc} {ls : Array Slot}, zIW G s (zset μ o S) H locs → lv_has ls 10 [(0, .ref (G.2.2.1 o 0)), (1, .int x1), (3, .int x3), (6, .int x6), (7, .int x7)] → W p l e (zrm 3) s m args below meth c H locs 0 0 Q (F0 m 134 ls [])) (hk149 : ∀ (S : zOb) (x1 : Int32) (x3 : Int32) (x6 : Int32) (x8 : Int32) (x9 : Int32), k149 S x1 x3 x6 x8 x9 = some out → ∀ {H : Heap} {locs : List Loc} {ls : Array Slot}, zIW G s (zset μ o S) H locs → lv_has ls 10 [(0, .ref (G.2.2.1 o 0)), (1, .int x1), (3, .int x3), (6, .int x6), (8, .int x8), (9, .int x9)] → W p l e (zrm 3) s m args below meth c H locs 0 0 Q (F0 m 149 ls [])) : ∀ (S : zOb) (x1 : Int32) (x3 : Int32) (x6 : Int32) (x9 : Int32), f_Mo_seen_198 N k134 k149 S x1 x3 x6 x9 = some out → ∀ {H : Heap} {locs : List Loc} {ls : Array Slot}, zIW G s (zset μ o S) H locs → lv_has ls 10 [(0, .ref (G.2.2.1 o 0)), (1, .int x1), (3, .int x3), (6, .int x6), (9, .int x9)] → W p l e (zrm 3) s m args below meth c H locs 0 0 Q (F0 m 198 ls []) := by
  obtain ⟨hx, hb, hml, hown, hts, hK, hR⟩ := id cx
  intro S x1 x3 x6 x9  h H locs ls hI hl
  unfold f_Mo_seen_198 at h
  refine lv_iconst (v := (nI 0)) hx hb dX8_seen_198 (by decide) ?_
  exact t_Mo_seen_199 N hc cx hret hk134 hk149 S x1 x3 x6 x9 (nI 0) h hI hl
def f_Mo_seen_149 (N : Nat) (k134 : zOb → Int32 → Int32 → Int32 → Int32 → Option (Int32 × zOb)) : Nat → zOb → Int32 → Int32 → Int32 → Int32 → Int32 → Option (Int32 × zOb)
  | 0, _, _, _, _, _, _ => none
  | n + 1, S, x1, x3, x6, x8, x9 => (if (S.1 1 0) ≤ x9 then (if x8 = nI 0 then f_Mo_seen_219 N k134 S x1 x3 (nI 0) x6 else f_Mo_seen_219 N k134 S x1 x3 (nI 1) x6) else (if x8 = nI 0 then f_Mo_seen_198 N k134 (f_Mo_seen_149 N k134 n) S x1 x3 x6 x9 else if zin x9 7 then (f_Mo_sizeOf N (S.1 16 x9.toNatClampNeg)).bind (fun q21 => if zin ((((nI 24) * x1) + x3) + x9) 96 then (if (lg_cmp q21.toInt64 (S.2.1 11 (((((nI 24) * x1) + x3) + x9).toNatClampNeg))) = nI 0 then f_Mo_seen_199 N k134 (f_Mo_seen_149 N k134 n) S x1 x3 x6 x9 (nI 1) else f_Mo_seen_198 N k134 (f_Mo_seen_149 N k134 n) S x1 x3 x6 x9) else none) else none))
set_option maxHeartbeats 4000000 in
set_option maxRecDepth 100000 in
theorem t_Mo_seen_149 (N : Nat) {p : Program} {l : Launch} {e : Env} {s : State} {m : MethodId} {args : Array Value} {below : List Frame} {meth : Method} {c : Code} {Q : State → Prop} {G : zG} {μ : zM} {o : Nat} (hc : o = 29) {out : (Int32 × zOb)} (cx : zCX p (zrm 3) s m args c RX8 cX8_seen 10 3 G) (hret : zRi p l e (zrm 3) s m args below meth c cX8_seen G .int Q out.1 (zset μ o out.2)) {k134 : zOb → Int32 → Int32 → Int32 → Int32 → Option (Int32 × zOb)} (hk134 : ∀ (S : zOb) (x1 : Int32) (x3 : Int32) (x6 : Int32) (x7 : Int32), k134 S x1 x3 x6 x7 = some out → ∀ {H : Heap} {locs : List Loc} {ls : Array Slot}, zIW G s (zset μ o S) H locs → lv_has ls 10 [(0, .ref (G.2.2.1 o 0)), (1, .int x1), (3, .int x3), (6, .int x6), (7, .int x7)] → W p l e (zrm 3) s m args below meth c H locs 0 0 Q (F0 m 134 ls [])) : ∀ (n : Nat) (S : zOb) (x1 : Int32) (x3 : Int32) (x6 : Int32) (x8 : Int32) (x9 : Int32), f_Mo_seen_149 N k134 n S x1 x3 x6 x8 x9 = some out → ∀ {H : Heap} {locs : List Loc} {ls : Array Slot}, zIW G s (zset μ o S) H locs → lv_has ls 10 [(0, .ref (G.2.2.1 o 0)), (1, .int x1), (3, .int x3), (6, .int x6), (8, .int x8), (9, .int x9)] → W p l e (zrm 3) s m args below meth c H locs 0 0 Q (F0 m 149 ls []) := by
  obtain ⟨hx, hb, hml, hown, hts, hK, hR⟩ := id cx
  intro n
  induction n with
  | zero =>
    intro S x1 x3 x6 x8 x9  h
    cases h
  | succ n ih =>
    intro S x1 x3 x6 x8 x9  h H locs ls hI hl
    rw [f_Mo_seen_149] at h
    refine lv_iload hx hb dX8_seen_149 (lv_at hl 5 rfl) ?_
    refine lv_aload_n hx hb dX8_seen_151 rfl (lv_at hl 0 rfl) ?_
    refine g8_0 cx hI hc (zset_s _ _ _) w_108 dX8_seen_152 ?_
    refine lv_iconst (v := (nI 0)) hx hb dX8_seen_155 (by decide) ?_
    refine zr_iald cx hI (k8_1 hc) (zset_s _ _ _) (z8_1 hc) rfl (by decide) dX8_seen_156 ?_
    refine lv_icmp_ge (tgt := 207) hx hb dX8_seen_157 (by decide) (fun c13 => ?_) (fun c13 => ?_)
    · have h := it_p h c13
      refine lv_iload hx hb dX8_seen_207 (lv_at hl 3 rfl) ?_
      refine lv_iload hx hb dX8_seen_209 (lv_at hl 4 rfl) ?_
      refine lv_if_eq (tgt := 218) hx hb dX8_seen_211 (by decide) (fun c14 => ?_) (fun c14 => ?_)
      · have h := it_p h c14
        refine lv_iconst (v := (nI 0)) hx hb dX8_seen_218 (by decide) ?_
        exact t_Mo_seen_219 N hc cx hret hk134 S x1 x3 (nI 0) x6 h hI (lv_sub hl [0, 1, 2] rfl)
      · have h := it_n h c14
        refine lv_iconst (v := (nI 1)) hx hb dX8_seen_214 (by decide) ?_
        refine lv_goto (tgt := 219) hx hb dX8_seen_215 (by decide) ?_
        exact t_Mo_seen_219 N hc cx hret hk134 S x1 x3 (nI 1) x6 h hI (lv_sub hl [0, 1, 2] rfl)
    · have h := it_n h c13
      refine lv_iload hx hb dX8_seen_160 (lv_at hl 4 rfl) ?_
      refine lv_if_eq (tgt := 198) hx hb dX8_seen_162 (by decide) (fun c18 => ?_) (fun c18 => ?_)
      · have h := it_p h c18
        exact t_Mo_seen_198 N hc cx hret hk134 ih S x1 x3 x6 x9 h hI (lv_sub hl [0, 1, 2, 3, 5] rfl)
      · have h := it_n h c18
        refine lv_aload_n hx hb dX8_seen_165 rfl (lv_at hl 0 rfl) ?_
        refine g8_15 cx hI hc (zset_s _ _ _) w_121 dX8_seen_166 ?_
        refine lv_iload hx hb dX8_seen_169 (lv_at hl 5 rfl) ?_
        obtain ⟨g20, h⟩ := gd_el h
        refine zr_iald cx hI (k8_16 hc) (zset_s _ _ _) (z8_16 hc) rfl g20 dX8_seen_171 ?_
        obtain ⟨q21, hq21, h⟩ := bi_el h
        refine zcSi (As := [.int (S.1 16 x9.toNatClampNeg)]) cx hI (c_Mo_sizeOf N hq21) mt_yX8_sizeOf ms_yX8_sizeOf w_516 (by omega) rfl hl.1 rfl (Nat.le_of_ble_eq_true rfl) dX8_seen_172 (fun H locs hI => ?_)
        refine lv_i2l hx hb dX8_seen_175 rfl ?_
        refine lv_aload_n hx hb dX8_seen_176 rfl (lv_at hl 0 rfl) ?_
        refine g8_10 cx hI hc (zset_s _ _ _) w_116 dX8_seen_177 ?_
        refine lv_bipush (v := (nI 24)) hx hb dX8_seen_180 (by decide) ?_
        refine lv_iload_n hx hb dX8_seen_182 rfl (lv_at hl 1 rfl) ?_
        refine lv_imul hx hb dX8_seen_183 ?_
        refine lv_iload_n hx hb dX8_seen_184 rfl (lv_at hl 2 rfl) ?_
        refine lv_iadd hx hb dX8_seen_185 ?_
        refine lv_iload hx hb dX8_seen_186 (lv_at hl 5 rfl) ?_
        refine lv_iadd hx hb dX8_seen_188 ?_
        obtain ⟨g22, h⟩ := gd_el h
        refine zr_lald cx hI (k8_11 hc) (zset_s _ _ _) (z8_11 hc) rfl g22 dX8_seen_189 ?_
        refine W.lcmp hx hb dX8_seen_190 ?_
        refine lv_if_ne (tgt := 198) hx hb dX8_seen_191 (by decide) (fun c23 => ?_) (fun c23 => ?_)
        · have h := it_n h c23
          exact t_Mo_seen_198 N hc cx hret hk134 ih S x1 x3 x6 x9 h hI (lv_sub hl [0, 1, 2, 3, 5] rfl)
        · have h := it_p h c23
          refine lv_iconst (v := (nI 1)) hx hb dX8_seen_194 (by decide) ?_
          refine lv_goto (tgt := 199) hx hb dX8_seen_195 (by decide) ?_
          exact t_Mo_seen_199 N hc cx hret hk134 ih S x1 x3 x6 x9 (nI 1) h hI (lv_sub hl [0, 1, 2, 3, 5] rfl)
def f_Mo_seen_134 (N : Nat)  : Nat → zOb → Int32 → Int32 → Int32 → Int32 → Option (Int32 × zOb)
  | 0, _, _, _, _, _ => none
  | n + 1, S, x1, x3, x6, x7 => (if x7 = nI 0 then some (x6, S) else (f_Mo_readsOrder N S).bind (fun q12 => f_Mo_seen_149 N (f_Mo_seen_134 N n) N q12 x1 x3 x6 (nI 1) (nI 0)))
set_option maxHeartbeats 4000000 in
set_option maxRecDepth 100000 in
theorem t_Mo_seen_134 (N : Nat) {p : Program} {l : Launch} {e : Env} {s : State} {m : MethodId} {args : Array Value} {below : List Frame} {meth : Method} {c : Code} {Q : State → Prop} {G : zG} {μ : zM} {o : Nat} (hc : o = 29) {out : (Int32 × zOb)} (cx : zCX p (zrm 3) s m args c RX8 cX8_seen 10 3 G) (hret : zRi p l e (zrm 3) s m args below meth c cX8_seen G .int Q out.1 (zset μ o out.2))   : ∀ (n : Nat) (S : zOb) (x1 : Int32) (x3 : Int32) (x6 : Int32) (x7 : Int32), f_Mo_seen_134 N n S x1 x3 x6 x7 = some out → ∀ {H : Heap} {locs : List Loc} {ls : Array Slot}, zIW G s (zset μ o S) H locs → lv_has ls 10 [(0, .ref (G.2.2.1 o 0)), (1, .int x1), (3, .int x3), (6, .int x6), (7, .int x7)] → W p l e (zrm 3) s m args below meth c H locs 0 0 Q (F0 m 134 ls []) := by
  obtain ⟨hx, hb, hml, hown, hts, hK, hR⟩ := id cx
  intro n
  induction n with
  | zero =>
    intro S x1 x3 x6 x7  h
    cases h
  | succ n ih =>
    intro S x1 x3 x6 x7  h H locs ls hI hl
    rw [f_Mo_seen_134] at h
    refine lv_iload hx hb dX8_seen_134 (lv_at hl 4 rfl) ?_
    refine lv_if_eq (tgt := 231) hx hb dX8_seen_136 (by decide) (fun c11 => ?_) (fun c11 => ?_)
    · have h := it_p h c11
      refine lv_iload hx hb dX8_seen_231 (lv_at hl 3 rfl) ?_
      obtain rfl := Option.some.inj h
      exact hret _ _ _ _ dX8_seen_233 rfl hI
    · have h := it_n h c11
      refine lv_aload_n hx hb dX8_seen_139 rfl (lv_at hl 0 rfl) ?_
      obtain ⟨q12, hq12, h⟩ := bi_el h
      refine zcVv (As := []) cx hI (c_Mo_readsOrder N hc (zset_s _ _ _) hq12 (zset_ss _ _ _ _)) mt_yX8_readsOrder mv_yX8_readsOrder w_492 (by omega) (k8_0 hc) (zv8 hc) rfl hl.1 rfl (Nat.le_of_ble_eq_true rfl) dX8_seen_140 (fun H locs hI => ?_)
      refine lv_iconst (v := (nI 1)) hx hb dX8_seen_143 (by decide) ?_
      refine lv_istore (lv' := [(8, .int (nI 1)), (0, .ref (G.2.2.1 o 0)), (1, .int x1), (3, .int x3), (6, .int x6), (7, .int x7)]) hx hb dX8_seen_144 hl (by decide) rfl (fun ls hl => ?_)
      refine lv_iconst (v := (nI 0)) hx hb dX8_seen_146 (by decide) ?_
      refine lv_istore (lv' := [(9, .int (nI 0)), (8, .int (nI 1)), (0, .ref (G.2.2.1 o 0)), (1, .int x1), (3, .int x3), (6, .int x6), (7, .int x7)]) hx hb dX8_seen_147 hl (by decide) rfl (fun ls hl => ?_)
      exact t_Mo_seen_149 N hc cx hret ih N q12 x1 x3 x6 (nI 1) (nI 0) h hI (lv_sub hl [2, 3, 4, 5, 1, 0] rfl)
def f_Mo_seen_108 (N : Nat) (k63 : zOb → Int32 → Int32 → Int32 → Int32 → Option (Int32 × zOb)) (S : zOb) (x1 : Int32) (x3 : Int32) (x6 : Int32) (s0 : Int32) : Option (Int32 × zOb) :=
  bnd (x6 + (nI 1)) (fun v25 => k63 S x1 x3 s0 v25)
set_option maxHeartbeats 4000000 in
set_option maxRecDepth 100000 in
theorem t_Mo_seen_108 (N : Nat) {p : Program} {l : Launch} {e : Env} {s : State} {m : MethodId} {args : Array Value} {below : List Frame} {meth : Method} {c : Code} {Q : State → Prop} {G : zG} {μ : zM} {o : Nat} (hc : o = 29) {out : (Int32 × zOb)} (cx : zCX p (zrm 3) s m args c RX8 cX8_seen 10 3 G) (hret : zRi p l e (zrm 3) s m args below meth c cX8_seen G .int Q out.1 (zset μ o out.2)) {k63 : zOb → Int32 → Int32 → Int32 → Int32 → Option (Int32 × zOb)} (hk63 : ∀ (S : zOb) (x1 : Int32) (x3 : Int32) (x5 : Int32) (x6 : Int32), k63 S x1 x3 x5 x6 = some out → ∀ {H : Heap} {locs : List Loc} {ls : Array Slot}, zIW G s (zset μ o S) H locs → lv_has ls 10 [(0, .ref (G.2.2.1 o 0)), (1, .int x1), (3, .int x3), (5, .int x5), (6, .int x6)] → W p l e (zrm 3) s m args below meth c H locs 0 0 Q (F0 m 63 ls [])) : ∀ (S : zOb) (x1 : Int32) (x3 : Int32) (x6 : Int32) (s0 : Int32), f_Mo_seen_108 N k63 S x1 x3 x6 s0 = some out → ∀ {H : Heap} {locs : List Loc} {ls : Array Slot}, zIW G s (zset μ o S) H locs → lv_has ls 10 [(0, .ref (G.2.2.1 o 0)), (1, .int x1), (3, .int x3), (6, .int x6)] → W p l e (zrm 3) s m args below meth c H locs 0 0 Q (F0 m 108 ls [.int s0]) := by
  obtain ⟨hx, hb, hml, hown, hts, hK, hR⟩ := id cx
  intro S x1 x3 x6 s0  h H locs ls hI hl
  unfold f_Mo_seen_108 at h
  refine lv_istore (lv' := [(5, .int s0), (0, .ref (G.2.2.1 o 0)), (1, .int x1), (3, .int x3), (6, .int x6)]) hx hb dX8_seen_108 hl (by decide) rfl (fun ls hl => ?_)
  obtain ⟨v25, ev25⟩ : ∃ z : Int32, z = x6 + (nI 1) := ⟨_, rfl⟩
  have h := bnd_el h ev25
  refine lv_iinc (v := v25) (lv' := [(6, .int v25), (5, .int s0), (0, .ref (G.2.2.1 o 0)), (1, .int x1), (3, .int x3)]) hx hb dX8_seen_110 hl (k := 4) rfl (by rw [ev25]; rfl) (by decide) rfl (fun ls hl => ?_)
  refine lv_goto (tgt := 63) hx hb dX8_seen_113 (by decide) ?_
  exact hk63 S x1 x3 s0 v25 h hI (lv_sub hl [2, 3, 4, 1, 0] rfl)
def f_Mo_seen_107 (N : Nat) (k63 : zOb → Int32 → Int32 → Int32 → Int32 → Option (Int32 × zOb)) (S : zOb) (x1 : Int32) (x3 : Int32) (x6 : Int32) : Option (Int32 × zOb) :=
  f_Mo_seen_108 N k63 S x1 x3 x6 (nI 0)
set_option maxHeartbeats 4000000 in
set_option maxRecDepth 100000 in
theorem t_Mo_seen_107 (N : Nat) {p : Program} {l : Launch} {e : Env} {s : State} {m : MethodId} {args : Array Value} {below : List Frame} {meth : Method} {c : Code} {Q : State → Prop} {G : zG} {μ : zM} {o : Nat} (hc : o = 29) {out : (Int32 × zOb)} (cx : zCX p (zrm 3) s m args c RX8 cX8_seen 10 3 G) (hret : zRi p l e (zrm 3) s m args below meth c cX8_seen G .int Q out.1 (zset μ o out.2)) {k63 : zOb → Int32 → Int32 → Int32 → Int32 → Option (Int32 × zOb)} (hk63 : ∀ (S : zOb) (x1 : Int32) (x3 : Int32) (x5 : Int32) (x6 : Int32), k63 S x1 x3 x5 x6 = some out → ∀ {H : Heap} {locs : List Loc} {ls : Array Slot}, zIW G s (zset μ o S) H locs → lv_has ls 10 [(0, .ref (G.2.2.1 o 0)), (1, .int x1), (3, .int x3), (5, .int x5), (6, .int x6)] → W p l e (zrm 3) s m args below meth c H locs 0 0 Q (F0 m 63 ls [])) : ∀ (S : zOb) (x1 : Int32) (x3 : Int32) (x6 : Int32), f_Mo_seen_107 N k63 S x1 x3 x6 = some out → ∀ {H : Heap} {locs : List Loc} {ls : Array Slot}, zIW G s (zset μ o S) H locs → lv_has ls 10 [(0, .ref (G.2.2.1 o 0)), (1, .int x1), (3, .int x3), (6, .int x6)] → W p l e (zrm 3) s m args below meth c H locs 0 0 Q (F0 m 107 ls []) := by
  obtain ⟨hx, hb, hml, hown, hts, hK, hR⟩ := id cx
  intro S x1 x3 x6  h H locs ls hI hl
  unfold f_Mo_seen_107 at h
  refine lv_iconst (v := (nI 0)) hx hb dX8_seen_107 (by decide) ?_
  exact t_Mo_seen_108 N hc cx hret hk63 S x1 x3 x6 (nI 0) h hI hl
def f_Mo_seen_63 (N : Nat)  : Nat → zOb → Int32 → Int32 → Int32 → Int32 → Option (Int32 × zOb)
  | 0, _, _, _, _, _ => none
  | n + 1, S, x1, x3, x5, x6 => (if (S.1 1 0) ≤ x6 then (if x5 = nI 0 then some ((-2 : Int32), S) else (f_Mo_firstOrder N S).bind (fun q10 => f_Mo_seen_134 N N q10 x1 x3 (nI 0) (nI 1))) else (if x5 = nI 0 then f_Mo_seen_107 N (f_Mo_seen_63 N n) S x1 x3 x6 else if zin ((((nI 24) * x1) + x3) + x6) 96 then (f_Mo_in (S.2.1 11 (((((nI 24) * x1) + x3) + x6).toNatClampNeg)) (0 : Int64) (20 : Int64)).bind (fun q27 => (if q27 = nI 0 then f_Mo_seen_107 N (f_Mo_seen_63 N n) S x1 x3 x6 else f_Mo_seen_108 N (f_Mo_seen_63 N n) S x1 x3 x6 (nI 1))) else none))
set_option maxHeartbeats 4000000 in
set_option maxRecDepth 100000 in
theorem t_Mo_seen_63 (N : Nat) {p : Program} {l : Launch} {e : Env} {s : State} {m : MethodId} {args : Array Value} {below : List Frame} {meth : Method} {c : Code} {Q : State → Prop} {G : zG} {μ : zM} {o : Nat} (hc : o = 29) {out : (Int32 × zOb)} (cx : zCX p (zrm 3) s m args c RX8 cX8_seen 10 3 G) (hret : zRi p l e (zrm 3) s m args below meth c cX8_seen G .int Q out.1 (zset μ o out.2))   : ∀ (n : Nat) (S : zOb) (x1 : Int32) (x3 : Int32) (x5 : Int32) (x6 : Int32), f_Mo_seen_63 N n S x1 x3 x5 x6 = some out → ∀ {H : Heap} {locs : List Loc} {ls : Array Slot}, zIW G s (zset μ o S) H locs → lv_has ls 10 [(0, .ref (G.2.2.1 o 0)), (1, .int x1), (3, .int x3), (5, .int x5), (6, .int x6)] → W p l e (zrm 3) s m args below meth c H locs 0 0 Q (F0 m 63 ls []) := by
  obtain ⟨hx, hb, hml, hown, hts, hK, hR⟩ := id cx
  intro n
  induction n with
  | zero =>
    intro S x1 x3 x5 x6  h
    cases h
  | succ n ih =>
    intro S x1 x3 x5 x6  h H locs ls hI hl
    rw [f_Mo_seen_63] at h
    refine lv_iload hx hb dX8_seen_63 (lv_at hl 4 rfl) ?_
    refine lv_aload_n hx hb dX8_seen_65 rfl (lv_at hl 0 rfl) ?_
    refine g8_0 cx hI hc (zset_s _ _ _) w_108 dX8_seen_66 ?_
    refine lv_iconst (v := (nI 0)) hx hb dX8_seen_69 (by decide) ?_
    refine zr_iald cx hI (k8_1 hc) (zset_s _ _ _) (z8_1 hc) rfl (by decide) dX8_seen_70 ?_
    refine lv_icmp_ge (tgt := 116) hx hb dX8_seen_71 (by decide) (fun c8 => ?_) (fun c8 => ?_)
    · have h := it_p h c8
      refine lv_iload hx hb dX8_seen_116 (lv_at hl 3 rfl) ?_
      refine lv_if_ne (tgt := 124) hx hb dX8_seen_118 (by decide) (fun c9 => ?_) (fun c9 => ?_)
      · have h := it_n h c9
        refine lv_iconst (v := (nI 0)) hx hb dX8_seen_124 (by decide) ?_
        refine lv_istore (lv' := [(6, .int (nI 0)), (0, .ref (G.2.2.1 o 0)), (1, .int x1), (3, .int x3), (5, .int x5)]) hx hb dX8_seen_125 hl (by decide) rfl (fun ls hl => ?_)
        refine lv_aload_n hx hb dX8_seen_127 rfl (lv_at hl 1 rfl) ?_
        obtain ⟨q10, hq10, h⟩ := bi_el h
        refine zcVv (As := []) cx hI (c_Mo_firstOrder N hc (zset_s _ _ _) hq10 (zset_ss _ _ _ _)) mt_yX8_firstOrder mv_yX8_firstOrder w_484 (by omega) (k8_0 hc) (zv8 hc) rfl hl.1 rfl (Nat.le_of_ble_eq_true rfl) dX8_seen_128 (fun H locs hI => ?_)
        refine lv_iconst (v := (nI 1)) hx hb dX8_seen_131 (by decide) ?_
        refine lv_istore (lv' := [(7, .int (nI 1)), (6, .int (nI 0)), (0, .ref (G.2.2.1 o 0)), (1, .int x1), (3, .int x3), (5, .int x5)]) hx hb dX8_seen_132 hl (by decide) rfl (fun ls hl => ?_)
        exact t_Mo_seen_134 N hc cx hret N q10 x1 x3 (nI 0) (nI 1) h hI (lv_sub hl [2, 3, 4, 1, 0] rfl)
      · have h := it_p h c9
        refine lv_bipush (v := (-2 : Int32)) hx hb dX8_seen_121 (by decide) ?_
        obtain rfl := Option.some.inj h
        exact hret _ _ _ _ dX8_seen_123 rfl hI
    · have h := it_n h c8
      refine lv_iload hx hb dX8_seen_74 (lv_at hl 3 rfl) ?_
      refine lv_if_eq (tgt := 107) hx hb dX8_seen_76 (by decide) (fun c24 => ?_) (fun c24 => ?_)
      · have h := it_p h c24
        exact t_Mo_seen_107 N hc cx hret ih S x1 x3 x6 h hI (lv_sub hl [0, 1, 2, 4] rfl)
      · have h := it_n h c24
        refine lv_aload_n hx hb dX8_seen_79 rfl (lv_at hl 0 rfl) ?_
        refine g8_10 cx hI hc (zset_s _ _ _) w_116 dX8_seen_80 ?_
        refine lv_bipush (v := (nI 24)) hx hb dX8_seen_83 (by decide) ?_
        refine lv_iload_n hx hb dX8_seen_85 rfl (lv_at hl 1 rfl) ?_
        refine lv_imul hx hb dX8_seen_86 ?_
        refine lv_iload_n hx hb dX8_seen_87 rfl (lv_at hl 2 rfl) ?_
        refine lv_iadd hx hb dX8_seen_88 ?_
        refine lv_iload hx hb dX8_seen_89 (lv_at hl 4 rfl) ?_
        refine lv_iadd hx hb dX8_seen_91 ?_
        obtain ⟨g26, h⟩ := gd_el h
        refine zr_lald cx hI (k8_11 hc) (zset_s _ _ _) (z8_11 hc) rfl g26 dX8_seen_92 ?_
        refine lv_lconst (v := (0 : Int64)) hx hb dX8_seen_93 (by decide) ?_
        refine lv_ldc2 (v := (20 : Int64)) hx hb hown (hts _ w_327) dX8_seen_94 ?_
        obtain ⟨q27, hq27, h⟩ := bi_el h
        refine zcSi (As := [.long (S.2.1 11 (((((nI 24) * x1) + x3) + x6).toNatClampNeg)), .long (0 : Int64), .long (20 : Int64)]) cx hI (c_Mo_in  hq27) mt_yX8_in ms_yX8_in w_179 (by omega) rfl hl.1 rfl (Nat.le_of_ble_eq_true rfl) dX8_seen_97 (fun H locs hI => ?_)
        refine lv_if_eq (tgt := 107) hx hb dX8_seen_100 (by decide) (fun c28 => ?_) (fun c28 => ?_)
        · have h := it_p h c28
          exact t_Mo_seen_107 N hc cx hret ih S x1 x3 x6 h hI (lv_sub hl [0, 1, 2, 4] rfl)
        · have h := it_n h c28
          refine lv_iconst (v := (nI 1)) hx hb dX8_seen_103 (by decide) ?_
          refine lv_goto (tgt := 108) hx hb dX8_seen_104 (by decide) ?_
          exact t_Mo_seen_108 N hc cx hret ih S x1 x3 x6 (nI 1) h hI (lv_sub hl [0, 1, 2, 4] rfl)
def f_Mo_seen_58 (N : Nat)  (S : zOb) (x1 : Int32) (x3 : Int32) (s0 : Int32) : Option (Int32 × zOb) :=
  f_Mo_seen_63 N N S x1 x3 s0 (nI 0)
set_option maxHeartbeats 4000000 in
set_option maxRecDepth 100000 in
theorem t_Mo_seen_58 (N : Nat) {p : Program} {l : Launch} {e : Env} {s : State} {m : MethodId} {args : Array Value} {below : List Frame} {meth : Method} {c : Code} {Q : State → Prop} {G : zG} {μ : zM} {o : Nat} (hc : o = 29) {out : (Int32 × zOb)} (cx : zCX p (zrm 3) s m args c RX8 cX8_seen 10 3 G) (hret : zRi p l e (zrm 3) s m args below meth c cX8_seen G .int Q out.1 (zset μ o out.2))   : ∀ (S : zOb) (x1 : Int32) (x3 : Int32) (s0 : Int32), f_Mo_seen_58 N S x1 x3 s0 = some out → ∀ {H : Heap} {locs : List Loc} {ls : Array Slot}, zIW G s (zset μ o S) H locs → lv_has ls 10 [(0, .ref (G.2.2.1 o 0)), (1, .int x1), (3, .int x3)] → W p l e (zrm 3) s m args below meth c H locs 0 0 Q (F0 m 58 ls [.int s0]) := by
  obtain ⟨hx, hb, hml, hown, hts, hK, hR⟩ := id cx
  intro S x1 x3 s0  h H locs ls hI hl
  unfold f_Mo_seen_58 at h
  refine lv_istore (lv' := [(5, .int s0), (0, .ref (G.2.2.1 o 0)), (1, .int x1), (3, .int x3)]) hx hb dX8_seen_58 hl (by decide) rfl (fun ls hl => ?_)
  refine lv_iconst (v := (nI 0)) hx hb dX8_seen_60 (by decide) ?_
  refine lv_istore (lv' := [(6, .int (nI 0)), (5, .int s0), (0, .ref (G.2.2.1 o 0)), (1, .int x1), (3, .int x3)]) hx hb dX8_seen_61 hl (by decide) rfl (fun ls hl => ?_)
  exact t_Mo_seen_63 N hc cx hret N S x1 x3 s0 (nI 0) h hI (lv_sub hl [2, 3, 4, 1, 0] rfl)
def f_Mo_seen (N : Nat) (S : zOb) (a1 : Int32) (a2 : Int32) (a3 : Int32) : Option (Int32 × zOb) :=
  (f_Mo_isSheet a1).bind (fun q1 => (if q1 = nI 0 then f_Mo_seen_19 N S else (f_Mo_in a2.toInt64 (0 : Int64) (3 : Int64)).bind (fun q3 => (if q3 = nI 0 then f_Mo_seen_19 N S else (f_Mo_found S a1 a2 a3 (S.1 1 0)).bind (fun q5 => (if nI 0 ≤ q5 then (if (S.1 1 0) ≤ nI 0 then f_Mo_seen_58 N S a1 a3 (nI 0) else f_Mo_seen_58 N S a1 a3 (nI 1)) else some (q5, S)))))))
set_option maxHeartbeats 4000000 in
set_option maxRecDepth 100000 in
theorem c_Mo_seen (N : Nat) {l : Launch} {G : zG} {μ : zM} {o : Nat} (hc : o = 29) {S : zOb} (hS : μ o = S) {a1 : Int32} {a2 : Int32} {a3 : Int32} {out : (Int32 × zOb)} (h : f_Mo_seen N S a1 a2 a3 = some out) {μ' : zM} (hμ : zset μ o out.2 = μ') : zMI l G yX8_seen cX8_seen 10 (some .int) 3 [.ref (G.2.2.1 o 0), .int a1, .int a2, .int a3] μ out.1 μ' := by
  subst hμ
  refine zMI.of (by decide) (Nat.le_of_ble_eq_true rfl) (fun p e s m args below meth c Q ls cx hI hl hret => ?_)
  obtain ⟨hx, hb, hml, hown, hts, hK, hR⟩ := id cx
  have hl : lv_has ls 10 [(0, .ref (G.2.2.1 o 0)), (1, .int a1), (2, .int a2), (3, .int a3)] := hl
  rw [← zset_idS hS] at hI
  unfold f_Mo_seen at h
  refine lv_iload_n hx hb dX8_seen_0 rfl (lv_at hl 1 rfl) ?_
  obtain ⟨q1, hq1, h⟩ := bi_el h
  refine zcSi (As := [.int a1]) cx hI (c_Mo_isSheet  hq1) mt_yX8_isSheet ms_yX8_isSheet w_1007 (by omega) rfl hl.1 rfl (Nat.le_of_ble_eq_true rfl) dX8_seen_1 (fun H locs hI => ?_)
  refine lv_if_eq (tgt := 19) hx hb dX8_seen_4 (by decide) (fun c2 => ?_) (fun c2 => ?_)
  · have h := it_p h c2
    exact t_Mo_seen_19 N hc cx hret S h hI (lv_sub hl [] rfl)
  · have h := it_n h c2
    refine lv_iload_n hx hb dX8_seen_7 rfl (lv_at hl 2 rfl) ?_
    refine lv_i2l hx hb dX8_seen_8 rfl ?_
    refine lv_lconst (v := (0 : Int64)) hx hb dX8_seen_9 (by decide) ?_
    refine lv_ldc2 (v := (3 : Int64)) hx hb hown (hts _ w_1006) dX8_seen_10 ?_
    obtain ⟨q3, hq3, h⟩ := bi_el h
    refine zcSi (As := [.long a2.toInt64, .long (0 : Int64), .long (3 : Int64)]) cx hI (c_Mo_in  hq3) mt_yX8_in ms_yX8_in w_179 (by omega) rfl hl.1 rfl (Nat.le_of_ble_eq_true rfl) dX8_seen_13 (fun H locs hI => ?_)
    refine lv_if_ne (tgt := 21) hx hb dX8_seen_16 (by decide) (fun c4 => ?_) (fun c4 => ?_)
    · have h := it_n h c4
      refine lv_aload_n hx hb dX8_seen_21 rfl (lv_at hl 0 rfl) ?_
      refine lv_iload_n hx hb dX8_seen_22 rfl (lv_at hl 1 rfl) ?_
      refine lv_iload_n hx hb dX8_seen_23 rfl (lv_at hl 2 rfl) ?_
      refine lv_iload_n hx hb dX8_seen_24 rfl (lv_at hl 3 rfl) ?_
      refine lv_aload_n hx hb dX8_seen_25 rfl (lv_at hl 0 rfl) ?_
      refine g8_0 cx hI hc (zset_s _ _ _) w_108 dX8_seen_26 ?_
      refine lv_iconst (v := (nI 0)) hx hb dX8_seen_29 (by decide) ?_
      refine zr_iald cx hI (k8_1 hc) (zset_s _ _ _) (z8_1 hc) rfl (by decide) dX8_seen_30 ?_
      obtain ⟨q5, hq5, h⟩ := bi_el h
      refine zcVi (As := [.int a1, .int a2, .int a3, .int (S.1 1 0)]) cx hI (c_Mo_found hc (zset_s _ _ _) hq5) mt_yX8_found mv_yX8_found w_1010 (by omega) (k8_0 hc) (zv8 hc) rfl hl.1 rfl (Nat.le_of_ble_eq_true rfl) dX8_seen_31 (fun H locs hI => ?_)
      refine lv_istore (lv' := [(4, .int q5), (0, .ref (G.2.2.1 o 0)), (1, .int a1), (2, .int a2), (3, .int a3)]) hx hb dX8_seen_34 hl (by decide) rfl (fun ls hl => ?_)
      refine lv_iload hx hb dX8_seen_36 (lv_at hl 0 rfl) ?_
      refine lv_if_ge (tgt := 44) hx hb dX8_seen_38 (by decide) (fun c6 => ?_) (fun c6 => ?_)
      · have h := it_p h c6
        refine lv_aload_n hx hb dX8_seen_44 rfl (lv_at hl 1 rfl) ?_
        refine g8_0 cx hI hc (zset_s _ _ _) w_108 dX8_seen_45 ?_
        refine lv_iconst (v := (nI 0)) hx hb dX8_seen_48 (by decide) ?_
        refine zr_iald cx hI (k8_1 hc) (zset_s _ _ _) (z8_1 hc) rfl (by decide) dX8_seen_49 ?_
        refine lv_if_le (tgt := 57) hx hb dX8_seen_50 (by decide) (fun c7 => ?_) (fun c7 => ?_)
        · have h := it_p h c7
          refine lv_iconst (v := (nI 0)) hx hb dX8_seen_57 (by decide) ?_
          exact t_Mo_seen_58 N hc cx hret S a1 a3 (nI 0) h hI (lv_sub hl [1, 2, 4] rfl)
        · have h := it_n h c7
          refine lv_iconst (v := (nI 1)) hx hb dX8_seen_53 (by decide) ?_
          refine lv_goto (tgt := 58) hx hb dX8_seen_54 (by decide) ?_
          exact t_Mo_seen_58 N hc cx hret S a1 a3 (nI 1) h hI (lv_sub hl [1, 2, 4] rfl)
      · have h := it_n h c6
        refine lv_iload hx hb dX8_seen_41 (lv_at hl 0 rfl) ?_
        obtain rfl := Option.some.inj h
        exact hret _ _ _ _ dX8_seen_43 rfl hI
    · have h := it_p h c4
      exact t_Mo_seen_19 N hc cx hret S h hI (lv_sub hl [] rfl)
def f_Mo_film_19 (N : Nat)  (S : zOb) : Option (Int32 × zOb) :=
  some ((-1 : Int32), S)
set_option maxHeartbeats 4000000 in
set_option maxRecDepth 100000 in
theorem t_Mo_film_19 (N : Nat) {p : Program} {l : Launch} {e : Env} {s : State} {m : MethodId} {args : Array Value} {below : List Frame} {meth : Method} {c : Code} {Q : State → Prop} {G : zG} {μ : zM} {o : Nat} (hc : o = 29) {out : (Int32 × zOb)} (cx : zCX p (zrm 3) s m args c RX8 cX8_film 6 3 G) (hret : zRi p l e (zrm 3) s m args below meth c cX8_film G .int Q out.1 (zset μ o out.2))   : ∀ (S : zOb), f_Mo_film_19 N S = some out → ∀ {H : Heap} {locs : List Loc} {ls : Array Slot}, zIW G s (zset μ o S) H locs → lv_has ls 6 [] → W p l e (zrm 3) s m args below meth c H locs 0 0 Q (F0 m 19 ls []) := by
  obtain ⟨hx, hb, hml, hown, hts, hK, hR⟩ := id cx
  intro S  h H locs ls hI hl
  unfold f_Mo_film_19 at h
  refine lv_iconst (v := (-1 : Int32)) hx hb dX8_film_19 (by decide) ?_
  obtain rfl := Option.some.inj h
  exact hret _ _ _ _ dX8_film_20 rfl hI
def f_Mo_film_55 (N : Nat)  : Nat → zOb → Int32 → Int32 → Int32 → Option (Int32 × zOb)
  | 0, _, _, _, _ => none
  | n + 1, S, x1, x3, x5 => (if (S.1 1 0) ≤ x5 then some (S.1 1 0, S) else if zin x5 7 then (f_Mo_sizeOf N (S.1 16 x5.toNatClampNeg)).bind (fun q11 => if zin ((((nI 24) * x1) + x3) + x5) 96 then bnd (zL S 11 (((((nI 24) * x1) + x3) + x5).toNatClampNeg) q11.toInt64) (fun Z13 => bnd (x5 + (nI 1)) (fun v14 => f_Mo_film_55 N n Z13 x1 x3 v14)) else none) else none)
set_option maxHeartbeats 4000000 in
set_option maxRecDepth 100000 in
theorem t_Mo_film_55 (N : Nat) {p : Program} {l : Launch} {e : Env} {s : State} {m : MethodId} {args : Array Value} {below : List Frame} {meth : Method} {c : Code} {Q : State → Prop} {G : zG} {μ : zM} {o : Nat} (hc : o = 29) {out : (Int32 × zOb)} (cx : zCX p (zrm 3) s m args c RX8 cX8_film 6 3 G) (hret : zRi p l e (zrm 3) s m args below meth c cX8_film G .int Q out.1 (zset μ o out.2))   : ∀ (n : Nat) (S : zOb) (x1 : Int32) (x3 : Int32) (x5 : Int32), f_Mo_film_55 N n S x1 x3 x5 = some out → ∀ {H : Heap} {locs : List Loc} {ls : Array Slot}, zIW G s (zset μ o S) H locs → lv_has ls 6 [(0, .ref (G.2.2.1 o 0)), (1, .int x1), (3, .int x3), (5, .int x5)] → W p l e (zrm 3) s m args below meth c H locs 0 0 Q (F0 m 55 ls []) := by
  obtain ⟨hx, hb, hml, hown, hts, hK, hR⟩ := id cx
  intro n
  induction n with
  | zero =>
    intro S x1 x3 x5  h
    cases h
  | succ n ih =>
    intro S x1 x3 x5  h H locs ls hI hl
    rw [f_Mo_film_55] at h
    refine lv_iload hx hb dX8_film_55 (lv_at hl 3 rfl) ?_
    refine lv_aload_n hx hb dX8_film_57 rfl (lv_at hl 0 rfl) ?_
    refine g8_0 cx hI hc (zset_s _ _ _) w_108 dX8_film_58 ?_
    refine lv_iconst (v := (nI 0)) hx hb dX8_film_61 (by decide) ?_
    refine zr_iald cx hI (k8_1 hc) (zset_s _ _ _) (z8_1 hc) rfl (by decide) dX8_film_62 ?_
    refine lv_icmp_ge (tgt := 97) hx hb dX8_film_63 (by decide) (fun c9 => ?_) (fun c9 => ?_)
    · have h := it_p h c9
      refine lv_aload_n hx hb dX8_film_97 rfl (lv_at hl 0 rfl) ?_
      refine g8_0 cx hI hc (zset_s _ _ _) w_108 dX8_film_98 ?_
      refine lv_iconst (v := (nI 0)) hx hb dX8_film_101 (by decide) ?_
      refine zr_iald cx hI (k8_1 hc) (zset_s _ _ _) (z8_1 hc) rfl (by decide) dX8_film_102 ?_
      obtain rfl := Option.some.inj h
      exact hret _ _ _ _ dX8_film_103 rfl hI
    · have h := it_n h c9
      refine lv_aload_n hx hb dX8_film_66 rfl (lv_at hl 0 rfl) ?_
      refine g8_10 cx hI hc (zset_s _ _ _) w_116 dX8_film_67 ?_
      refine lv_bipush (v := (nI 24)) hx hb dX8_film_70 (by decide) ?_
      refine lv_iload_n hx hb dX8_film_72 rfl (lv_at hl 1 rfl) ?_
      refine lv_imul hx hb dX8_film_73 ?_
      refine lv_iload_n hx hb dX8_film_74 rfl (lv_at hl 2 rfl) ?_
      refine lv_iadd hx hb dX8_film_75 ?_
      refine lv_iload hx hb dX8_film_76 (lv_at hl 3 rfl) ?_
      refine lv_iadd hx hb dX8_film_78 ?_
      refine lv_aload_n hx hb dX8_film_79 rfl (lv_at hl 0 rfl) ?_
      refine g8_15 cx hI hc (zset_s _ _ _) w_121 dX8_film_80 ?_
      refine lv_iload hx hb dX8_film_83 (lv_at hl 3 rfl) ?_
      obtain ⟨g10, h⟩ := gd_el h
      refine zr_iald cx hI (k8_16 hc) (zset_s _ _ _) (z8_16 hc) rfl g10 dX8_film_85 ?_
      obtain ⟨q11, hq11, h⟩ := bi_el h
      refine zcSi (As := [.int (S.1 16 x5.toNatClampNeg)]) cx hI (c_Mo_sizeOf N hq11) mt_yX8_sizeOf ms_yX8_sizeOf w_516 (by omega) rfl hl.1 rfl (Nat.le_of_ble_eq_true rfl) dX8_film_86 (fun H locs hI => ?_)
      refine lv_i2l hx hb dX8_film_89 rfl ?_
      obtain ⟨g12, h⟩ := gd_el h
      obtain ⟨Z13, eZ13⟩ : ∃ z : zOb, z = zL S 11 (((((nI 24) * x1) + x3) + x5).toNatClampNeg) q11.toInt64 := ⟨_, rfl⟩
      have h := bnd_el h eZ13
      refine zr_last cx hI (k8_11 hc) (zset_s _ _ _) (z8_11 hc) rfl g12 (zss eZ13) dX8_film_90 (fun H locs hI => ?_)
      obtain ⟨v14, ev14⟩ : ∃ z : Int32, z = x5 + (nI 1) := ⟨_, rfl⟩
      have h := bnd_el h ev14
      refine lv_iinc (v := v14) (lv' := [(5, .int v14), (0, .ref (G.2.2.1 o 0)), (1, .int x1), (3, .int x3)]) hx hb dX8_film_91 hl (k := 3) rfl (by rw [ev14]; rfl) (by decide) rfl (fun ls hl => ?_)
      refine lv_goto (tgt := 55) hx hb dX8_film_94 (by decide) ?_
      exact ih Z13 x1 x3 v14 h hI (lv_sub hl [1, 2, 3, 0] rfl)
def f_Mo_film (N : Nat) (S : zOb) (a1 : Int32) (a2 : Int32) (a3 : Int32) : Option (Int32 × zOb) :=
  (f_Mo_isSheet a1).bind (fun q1 => (if q1 = nI 0 then f_Mo_film_19 N S else (f_Mo_in a2.toInt64 (0 : Int64) (3 : Int64)).bind (fun q3 => (if q3 = nI 0 then f_Mo_film_19 N S else (f_Mo_found S a1 a2 a3 (S.1 1 0)).bind (fun q5 => (if nI 0 ≤ q5 then (f_Mo_takesOrder N S).bind (fun q7 => (f_Mo_readsOrder N q7).bind (fun q8 => f_Mo_film_55 N N q8 a1 a3 (nI 0))) else some (q5, S)))))))
set_option maxHeartbeats 4000000 in
set_option maxRecDepth 100000 in
theorem c_Mo_film (N : Nat) {l : Launch} {G : zG} {μ : zM} {o : Nat} (hc : o = 29) {S : zOb} (hS : μ o = S) {a1 : Int32} {a2 : Int32} {a3 : Int32} {out : (Int32 × zOb)} (h : f_Mo_film N S a1 a2 a3 = some out) {μ' : zM} (hμ : zset μ o out.2 = μ') : zMI l G yX8_film cX8_film 6 (some .int) 3 [.ref (G.2.2.1 o 0), .int a1, .int a2, .int a3] μ out.1 μ' := by
  subst hμ
  refine zMI.of (by decide) (Nat.le_of_ble_eq_true rfl) (fun p e s m args below meth c Q ls cx hI hl hret => ?_)
  obtain ⟨hx, hb, hml, hown, hts, hK, hR⟩ := id cx
  have hl : lv_has ls 6 [(0, .ref (G.2.2.1 o 0)), (1, .int a1), (2, .int a2), (3, .int a3)] := hl
  rw [← zset_idS hS] at hI
  unfold f_Mo_film at h
  refine lv_iload_n hx hb dX8_film_0 rfl (lv_at hl 1 rfl) ?_
  obtain ⟨q1, hq1, h⟩ := bi_el h
  refine zcSi (As := [.int a1]) cx hI (c_Mo_isSheet  hq1) mt_yX8_isSheet ms_yX8_isSheet w_1007 (by omega) rfl hl.1 rfl (Nat.le_of_ble_eq_true rfl) dX8_film_1 (fun H locs hI => ?_)
  refine lv_if_eq (tgt := 19) hx hb dX8_film_4 (by decide) (fun c2 => ?_) (fun c2 => ?_)
  · have h := it_p h c2
    exact t_Mo_film_19 N hc cx hret S h hI (lv_sub hl [] rfl)
  · have h := it_n h c2
    refine lv_iload_n hx hb dX8_film_7 rfl (lv_at hl 2 rfl) ?_
    refine lv_i2l hx hb dX8_film_8 rfl ?_
    refine lv_lconst (v := (0 : Int64)) hx hb dX8_film_9 (by decide) ?_
    refine lv_ldc2 (v := (3 : Int64)) hx hb hown (hts _ w_1006) dX8_film_10 ?_
    obtain ⟨q3, hq3, h⟩ := bi_el h
    refine zcSi (As := [.long a2.toInt64, .long (0 : Int64), .long (3 : Int64)]) cx hI (c_Mo_in  hq3) mt_yX8_in ms_yX8_in w_179 (by omega) rfl hl.1 rfl (Nat.le_of_ble_eq_true rfl) dX8_film_13 (fun H locs hI => ?_)
    refine lv_if_ne (tgt := 21) hx hb dX8_film_16 (by decide) (fun c4 => ?_) (fun c4 => ?_)
    · have h := it_n h c4
      refine lv_aload_n hx hb dX8_film_21 rfl (lv_at hl 0 rfl) ?_
      refine lv_iload_n hx hb dX8_film_22 rfl (lv_at hl 1 rfl) ?_
      refine lv_iload_n hx hb dX8_film_23 rfl (lv_at hl 2 rfl) ?_
      refine lv_iload_n hx hb dX8_film_24 rfl (lv_at hl 3 rfl) ?_
      refine lv_aload_n hx hb dX8_film_25 rfl (lv_at hl 0 rfl) ?_
      refine g8_0 cx hI hc (zset_s _ _ _) w_108 dX8_film_26 ?_
      refine lv_iconst (v := (nI 0)) hx hb dX8_film_29 (by decide) ?_
      refine zr_iald cx hI (k8_1 hc) (zset_s _ _ _) (z8_1 hc) rfl (by decide) dX8_film_30 ?_
      obtain ⟨q5, hq5, h⟩ := bi_el h
      refine zcVi (As := [.int a1, .int a2, .int a3, .int (S.1 1 0)]) cx hI (c_Mo_found hc (zset_s _ _ _) hq5) mt_yX8_found mv_yX8_found w_1010 (by omega) (k8_0 hc) (zv8 hc) rfl hl.1 rfl (Nat.le_of_ble_eq_true rfl) dX8_film_31 (fun H locs hI => ?_)
      refine lv_istore (lv' := [(4, .int q5), (0, .ref (G.2.2.1 o 0)), (1, .int a1), (2, .int a2), (3, .int a3)]) hx hb dX8_film_34 hl (by decide) rfl (fun ls hl => ?_)
      refine lv_iload hx hb dX8_film_36 (lv_at hl 0 rfl) ?_
      refine lv_if_ge (tgt := 44) hx hb dX8_film_38 (by decide) (fun c6 => ?_) (fun c6 => ?_)
      · have h := it_p h c6
        refine lv_aload_n hx hb dX8_film_44 rfl (lv_at hl 1 rfl) ?_
        obtain ⟨q7, hq7, h⟩ := bi_el h
        refine zcVv (As := []) cx hI (c_Mo_takesOrder N hc (zset_s _ _ _) hq7 (zset_ss _ _ _ _)) mt_yX8_takesOrder mv_yX8_takesOrder w_470 (by omega) (k8_0 hc) (zv8 hc) rfl hl.1 rfl (Nat.le_of_ble_eq_true rfl) dX8_film_45 (fun H locs hI => ?_)
        refine lv_aload_n hx hb dX8_film_48 rfl (lv_at hl 1 rfl) ?_
        obtain ⟨q8, hq8, h⟩ := bi_el h
        refine zcVv (As := []) cx hI (c_Mo_readsOrder N hc (zset_s _ _ _) hq8 (zset_ss _ _ _ _)) mt_yX8_readsOrder mv_yX8_readsOrder w_492 (by omega) (k8_0 hc) (zv8 hc) rfl hl.1 rfl (Nat.le_of_ble_eq_true rfl) dX8_film_49 (fun H locs hI => ?_)
        refine lv_iconst (v := (nI 0)) hx hb dX8_film_52 (by decide) ?_
        refine lv_istore (lv' := [(5, .int (nI 0)), (4, .int q5), (0, .ref (G.2.2.1 o 0)), (1, .int a1), (2, .int a2), (3, .int a3)]) hx hb dX8_film_53 hl (by decide) rfl (fun ls hl => ?_)
        exact t_Mo_film_55 N hc cx hret N q8 a1 a3 (nI 0) h hI (lv_sub hl [2, 3, 5, 0] rfl)
      · have h := it_n h c6
        refine lv_iload hx hb dX8_film_41 (lv_at hl 0 rfl) ?_
        obtain rfl := Option.some.inj h
        exact hret _ _ _ _ dX8_film_43 rfl hI
    · have h := it_p h c4
      exact t_Mo_film_19 N hc cx hret S h hI (lv_sub hl [] rfl)
def f_Mo_sheet_25 (N : Nat)  (S : zOb) : Option (Int32 × zOb) :=
  some ((-1 : Int32), S)
set_option maxHeartbeats 4000000 in
set_option maxRecDepth 100000 in
theorem t_Mo_sheet_25 (N : Nat) {p : Program} {l : Launch} {e : Env} {s : State} {m : MethodId} {args : Array Value} {below : List Frame} {meth : Method} {c : Code} {Q : State → Prop} {G : zG} {μ : zM} {o : Nat} (hc : o = 29) {out : (Int32 × zOb)} (cx : zCX p (zrm 2) s m args c RX8 cX8_sheet 5 2 G) (hret : zRi p l e (zrm 2) s m args below meth c cX8_sheet G .int Q out.1 (zset μ o out.2))   : ∀ (S : zOb), f_Mo_sheet_25 N S = some out → ∀ {H : Heap} {locs : List Loc} {ls : Array Slot}, zIW G s (zset μ o S) H locs → lv_has ls 5 [] → W p l e (zrm 2) s m args below meth c H locs 0 0 Q (F0 m 25 ls []) := by
  obtain ⟨hx, hb, hml, hown, hts, hK, hR⟩ := id cx
  intro S  h H locs ls hI hl
  unfold f_Mo_sheet_25 at h
  refine lv_iconst (v := (-1 : Int32)) hx hb dX8_sheet_25 (by decide) ?_
  obtain rfl := Option.some.inj h
  exact hret _ _ _ _ dX8_sheet_26 rfl hI
def f_Mo_sheet_51 (N : Nat)  : Nat → zOb → Int32 → Int32 → Int32 → Option (Int32 × zOb)
  | 0, _, _, _, _ => none
  | n + 1, S, x1, x3, x4 => (if (nI 24) ≤ x4 then some (x3, S) else if zin (((nI 24) * x1) + x4) 96 then bnd (zL S 11 ((((nI 24) * x1) + x4).toNatClampNeg) (0 : Int64)) (fun Z13 => bnd (x4 + (nI 1)) (fun v14 => f_Mo_sheet_51 N n Z13 x1 x3 v14)) else none)
set_option maxHeartbeats 4000000 in
set_option maxRecDepth 100000 in
theorem t_Mo_sheet_51 (N : Nat) {p : Program} {l : Launch} {e : Env} {s : State} {m : MethodId} {args : Array Value} {below : List Frame} {meth : Method} {c : Code} {Q : State → Prop} {G : zG} {μ : zM} {o : Nat} (hc : o = 29) {out : (Int32 × zOb)} (cx : zCX p (zrm 2) s m args c RX8 cX8_sheet 5 2 G) (hret : zRi p l e (zrm 2) s m args below meth c cX8_sheet G .int Q out.1 (zset μ o out.2))   : ∀ (n : Nat) (S : zOb) (x1 : Int32) (x3 : Int32) (x4 : Int32), f_Mo_sheet_51 N n S x1 x3 x4 = some out → ∀ {H : Heap} {locs : List Loc} {ls : Array Slot}, zIW G s (zset μ o S) H locs → lv_has ls 5 [(0, .ref (G.2.2.1 o 0)), (1, .int x1), (3, .int x3), (4, .int x4)] → W p l e (zrm 2) s m args below meth c H locs 0 0 Q (F0 m 51 ls []) := by
  obtain ⟨hx, hb, hml, hown, hts, hK, hR⟩ := id cx
  intro n
  induction n with
  | zero =>
    intro S x1 x3 x4  h
    cases h
  | succ n ih =>
    intro S x1 x3 x4  h H locs ls hI hl
    rw [f_Mo_sheet_51] at h
    refine lv_iload hx hb dX8_sheet_51 (lv_at hl 3 rfl) ?_
    refine lv_bipush (v := (nI 24)) hx hb dX8_sheet_53 (by decide) ?_
    refine lv_icmp_ge (tgt := 77) hx hb dX8_sheet_55 (by decide) (fun c11 => ?_) (fun c11 => ?_)
    · have h := it_p h c11
      refine lv_iload_n hx hb dX8_sheet_77 rfl (lv_at hl 2 rfl) ?_
      obtain rfl := Option.some.inj h
      exact hret _ _ _ _ dX8_sheet_78 rfl hI
    · have h := it_n h c11
      refine lv_aload_n hx hb dX8_sheet_58 rfl (lv_at hl 0 rfl) ?_
      refine g8_10 cx hI hc (zset_s _ _ _) w_116 dX8_sheet_59 ?_
      refine lv_bipush (v := (nI 24)) hx hb dX8_sheet_62 (by decide) ?_
      refine lv_iload_n hx hb dX8_sheet_64 rfl (lv_at hl 1 rfl) ?_
      refine lv_imul hx hb dX8_sheet_65 ?_
      refine lv_iload hx hb dX8_sheet_66 (lv_at hl 3 rfl) ?_
      refine lv_iadd hx hb dX8_sheet_68 ?_
      refine lv_lconst (v := (0 : Int64)) hx hb dX8_sheet_69 (by decide) ?_
      obtain ⟨g12, h⟩ := gd_el h
      obtain ⟨Z13, eZ13⟩ : ∃ z : zOb, z = zL S 11 ((((nI 24) * x1) + x4).toNatClampNeg) (0 : Int64) := ⟨_, rfl⟩
      have h := bnd_el h eZ13
      refine zr_last cx hI (k8_11 hc) (zset_s _ _ _) (z8_11 hc) rfl g12 (zss eZ13) dX8_sheet_70 (fun H locs hI => ?_)
      obtain ⟨v14, ev14⟩ : ∃ z : Int32, z = x4 + (nI 1) := ⟨_, rfl⟩
      have h := bnd_el h ev14
      refine lv_iinc (v := v14) (lv' := [(4, .int v14), (0, .ref (G.2.2.1 o 0)), (1, .int x1), (3, .int x3)]) hx hb dX8_sheet_71 hl (k := 3) rfl (by rw [ev14]; rfl) (by decide) rfl (fun ls hl => ?_)
      refine lv_goto (tgt := 51) hx hb dX8_sheet_74 (by decide) ?_
      exact ih Z13 x1 x3 v14 h hI (lv_sub hl [1, 2, 3, 0] rfl)
def f_Mo_sheet (N : Nat) (S : zOb) (a1 : Int32) (a2 : Int32) (a3 : Int32) : Option (Int32 × zOb) :=
  (f_Mo_isSheet a1).bind (fun q1 => (if q1 = nI 0 then f_Mo_sheet_25 N S else (f_Mo_in a2.toInt64 (0 : Int64) (3 : Int64)).bind (fun q3 => (if q3 = nI 0 then f_Mo_sheet_25 N S else (if a3 ≤ (nI 24) then (if nI 0 ≤ a3 then if zin a1 4 then bnd (zI S 9 a1.toNatClampNeg a2) (fun Z8 => if zin a1 4 then bnd (zI Z8 10 a1.toNatClampNeg a3) (fun Z10 => f_Mo_sheet_51 N N Z10 a1 a3 (nI 0)) else none) else none else some ((-14 : Int32), S)) else f_Mo_sheet_25 N S)))))
set_option maxHeartbeats 4000000 in
set_option maxRecDepth 100000 in
theorem c_Mo_sheet (N : Nat) {l : Launch} {G : zG} {μ : zM} {o : Nat} (hc : o = 29) {S : zOb} (hS : μ o = S) {a1 : Int32} {a2 : Int32} {a3 : Int32} {out : (Int32 × zOb)} (h : f_Mo_sheet N S a1 a2 a3 = some out) {μ' : zM} (hμ : zset μ o out.2 = μ') : zMI l G yX8_sheet cX8_sheet 5 (some .int) 2 [.ref (G.2.2.1 o 0), .int a1, .int a2, .int a3] μ out.1 μ' := by
  subst hμ
  refine zMI.of (by decide) (Nat.le_of_ble_eq_true rfl) (fun p e s m args below meth c Q ls cx hI hl hret => ?_)
  obtain ⟨hx, hb, hml, hown, hts, hK, hR⟩ := id cx
  have hl : lv_has ls 5 [(0, .ref (G.2.2.1 o 0)), (1, .int a1), (2, .int a2), (3, .int a3)] := hl
  rw [← zset_idS hS] at hI
  unfold f_Mo_sheet at h
  refine lv_iload_n hx hb dX8_sheet_0 rfl (lv_at hl 1 rfl) ?_
  obtain ⟨q1, hq1, h⟩ := bi_el h
  refine zcSi (As := [.int a1]) cx hI (c_Mo_isSheet  hq1) mt_yX8_isSheet ms_yX8_isSheet w_1007 (by omega) rfl hl.1 rfl (Nat.le_of_ble_eq_true rfl) dX8_sheet_1 (fun H locs hI => ?_)
  refine lv_if_eq (tgt := 25) hx hb dX8_sheet_4 (by decide) (fun c2 => ?_) (fun c2 => ?_)
  · have h := it_p h c2
    exact t_Mo_sheet_25 N hc cx hret S h hI (lv_sub hl [] rfl)
  · have h := it_n h c2
    refine lv_iload_n hx hb dX8_sheet_7 rfl (lv_at hl 2 rfl) ?_
    refine lv_i2l hx hb dX8_sheet_8 rfl ?_
    refine lv_lconst (v := (0 : Int64)) hx hb dX8_sheet_9 (by decide) ?_
    refine lv_ldc2 (v := (3 : Int64)) hx hb hown (hts _ w_1006) dX8_sheet_10 ?_
    obtain ⟨q3, hq3, h⟩ := bi_el h
    refine zcSi (As := [.long a2.toInt64, .long (0 : Int64), .long (3 : Int64)]) cx hI (c_Mo_in  hq3) mt_yX8_in ms_yX8_in w_179 (by omega) rfl hl.1 rfl (Nat.le_of_ble_eq_true rfl) dX8_sheet_13 (fun H locs hI => ?_)
    refine lv_if_eq (tgt := 25) hx hb dX8_sheet_16 (by decide) (fun c4 => ?_) (fun c4 => ?_)
    · have h := it_p h c4
      exact t_Mo_sheet_25 N hc cx hret S h hI (lv_sub hl [] rfl)
    · have h := it_n h c4
      refine lv_iload_n hx hb dX8_sheet_19 rfl (lv_at hl 3 rfl) ?_
      refine lv_bipush (v := (nI 24)) hx hb dX8_sheet_20 (by decide) ?_
      refine lv_icmp_le (tgt := 27) hx hb dX8_sheet_22 (by decide) (fun c5 => ?_) (fun c5 => ?_)
      · have h := it_p h c5
        refine lv_iload_n hx hb dX8_sheet_27 rfl (lv_at hl 3 rfl) ?_
        refine lv_if_ge (tgt := 34) hx hb dX8_sheet_28 (by decide) (fun c6 => ?_) (fun c6 => ?_)
        · have h := it_p h c6
          refine lv_aload_n hx hb dX8_sheet_34 rfl (lv_at hl 0 rfl) ?_
          refine g8_8 cx hI hc (zset_s _ _ _) w_114 dX8_sheet_35 ?_
          refine lv_iload_n hx hb dX8_sheet_38 rfl (lv_at hl 1 rfl) ?_
          refine lv_iload_n hx hb dX8_sheet_39 rfl (lv_at hl 2 rfl) ?_
          obtain ⟨g7, h⟩ := gd_el h
          obtain ⟨Z8, eZ8⟩ : ∃ z : zOb, z = zI S 9 a1.toNatClampNeg a2 := ⟨_, rfl⟩
          have h := bnd_el h eZ8
          refine zr_iast cx hI (k8_9 hc) (zset_s _ _ _) (z8_9 hc) rfl g7 (zss eZ8) dX8_sheet_40 (fun H locs hI => ?_)
          refine lv_aload_n hx hb dX8_sheet_41 rfl (lv_at hl 0 rfl) ?_
          refine g8_9 cx hI hc (zset_s _ _ _) w_115 dX8_sheet_42 ?_
          refine lv_iload_n hx hb dX8_sheet_45 rfl (lv_at hl 1 rfl) ?_
          refine lv_iload_n hx hb dX8_sheet_46 rfl (lv_at hl 3 rfl) ?_
          obtain ⟨g9, h⟩ := gd_el h
          obtain ⟨Z10, eZ10⟩ : ∃ z : zOb, z = zI Z8 10 a1.toNatClampNeg a3 := ⟨_, rfl⟩
          have h := bnd_el h eZ10
          refine zr_iast cx hI (k8_10 hc) (zset_s _ _ _) (z8_10 hc) rfl g9 (zss eZ10) dX8_sheet_47 (fun H locs hI => ?_)
          refine lv_iconst (v := (nI 0)) hx hb dX8_sheet_48 (by decide) ?_
          refine lv_istore (lv' := [(4, .int (nI 0)), (0, .ref (G.2.2.1 o 0)), (1, .int a1), (2, .int a2), (3, .int a3)]) hx hb dX8_sheet_49 hl (by decide) rfl (fun ls hl => ?_)
          exact t_Mo_sheet_51 N hc cx hret N Z10 a1 a3 (nI 0) h hI (lv_sub hl [1, 2, 4, 0] rfl)
        · have h := it_n h c6
          refine lv_bipush (v := (-14 : Int32)) hx hb dX8_sheet_31 (by decide) ?_
          obtain rfl := Option.some.inj h
          exact hret _ _ _ _ dX8_sheet_33 rfl hI
      · have h := it_n h c5
        exact t_Mo_sheet_25 N hc cx hret S h hI (lv_sub hl [] rfl)
def f_Mo_drop (S : zOb) (a1 : Int32) : Option (Int32 × zOb) :=
  (f_Mo_isSheet a1).bind (fun q1 => (if q1 = nI 0 then some ((-1 : Int32), S) else if zin a1 4 then (if nI 0 ≤ (S.1 9 a1.toNatClampNeg) then if zin a1 4 then bnd (zI S 9 a1.toNatClampNeg (-1 : Int32)) (fun Z6 => if zin a1 4 then some (Z6.1 10 a1.toNatClampNeg, Z6) else none) else none else some ((-11 : Int32), S)) else none))
set_option maxHeartbeats 4000000 in
set_option maxRecDepth 100000 in
theorem c_Mo_drop {l : Launch} {G : zG} {μ : zM} {o : Nat} (hc : o = 29) {S : zOb} (hS : μ o = S) {a1 : Int32} {out : (Int32 × zOb)} (h : f_Mo_drop S a1 = some out) {μ' : zM} (hμ : zset μ o out.2 = μ') : zMI l G yX8_drop cX8_drop 2 (some .int) 2 [.ref (G.2.2.1 o 0), .int a1] μ out.1 μ' := by
  subst hμ
  refine zMI.of (by decide) (Nat.le_of_ble_eq_true rfl) (fun p e s m args below meth c Q ls cx hI hl hret => ?_)
  obtain ⟨hx, hb, hml, hown, hts, hK, hR⟩ := id cx
  have hl : lv_has ls 2 [(0, .ref (G.2.2.1 o 0)), (1, .int a1)] := hl
  rw [← zset_idS hS] at hI
  unfold f_Mo_drop at h
  refine lv_iload_n hx hb dX8_drop_0 rfl (lv_at hl 1 rfl) ?_
  obtain ⟨q1, hq1, h⟩ := bi_el h
  refine zcSi (As := [.int a1]) cx hI (c_Mo_isSheet  hq1) mt_yX8_isSheet ms_yX8_isSheet w_1007 (by omega) rfl hl.1 rfl (Nat.le_of_ble_eq_true rfl) dX8_drop_1 (fun H locs hI => ?_)
  refine lv_if_ne (tgt := 9) hx hb dX8_drop_4 (by decide) (fun c2 => ?_) (fun c2 => ?_)
  · have h := it_n h c2
    refine lv_aload_n hx hb dX8_drop_9 rfl (lv_at hl 0 rfl) ?_
    refine g8_8 cx hI hc (zset_s _ _ _) w_114 dX8_drop_10 ?_
    refine lv_iload_n hx hb dX8_drop_13 rfl (lv_at hl 1 rfl) ?_
    obtain ⟨g3, h⟩ := gd_el h
    refine zr_iald cx hI (k8_9 hc) (zset_s _ _ _) (z8_9 hc) rfl g3 dX8_drop_14 ?_
    refine lv_if_ge (tgt := 21) hx hb dX8_drop_15 (by decide) (fun c4 => ?_) (fun c4 => ?_)
    · have h := it_p h c4
      refine lv_aload_n hx hb dX8_drop_21 rfl (lv_at hl 0 rfl) ?_
      refine g8_8 cx hI hc (zset_s _ _ _) w_114 dX8_drop_22 ?_
      refine lv_iload_n hx hb dX8_drop_25 rfl (lv_at hl 1 rfl) ?_
      refine lv_iconst (v := (-1 : Int32)) hx hb dX8_drop_26 (by decide) ?_
      obtain ⟨g5, h⟩ := gd_el h
      obtain ⟨Z6, eZ6⟩ : ∃ z : zOb, z = zI S 9 a1.toNatClampNeg (-1 : Int32) := ⟨_, rfl⟩
      have h := bnd_el h eZ6
      refine zr_iast cx hI (k8_9 hc) (zset_s _ _ _) (z8_9 hc) rfl g5 (zss eZ6) dX8_drop_27 (fun H locs hI => ?_)
      refine lv_aload_n hx hb dX8_drop_28 rfl (lv_at hl 0 rfl) ?_
      refine g8_9 cx hI hc (zset_s _ _ _) w_115 dX8_drop_29 ?_
      refine lv_iload_n hx hb dX8_drop_32 rfl (lv_at hl 1 rfl) ?_
      obtain ⟨g7, h⟩ := gd_el h
      refine zr_iald cx hI (k8_10 hc) (zset_s _ _ _) (z8_10 hc) rfl g7 dX8_drop_33 ?_
      obtain rfl := Option.some.inj h
      exact hret _ _ _ _ dX8_drop_34 rfl hI
    · have h := it_n h c4
      refine lv_bipush (v := (-11 : Int32)) hx hb dX8_drop_18 (by decide) ?_
      obtain rfl := Option.some.inj h
      exact hret _ _ _ _ dX8_drop_20 rfl hI
  · have h := it_p h c2
    refine lv_iconst (v := (-1 : Int32)) hx hb dX8_drop_7 (by decide) ?_
    obtain rfl := Option.some.inj h
    exact hret _ _ _ _ dX8_drop_8 rfl hI
def f_Mo_item_19  (S : zOb) : Option (Int32 × zOb) :=
  some ((-1 : Int32), S)
set_option maxHeartbeats 4000000 in
set_option maxRecDepth 100000 in
theorem t_Mo_item_19  {p : Program} {l : Launch} {e : Env} {s : State} {m : MethodId} {args : Array Value} {below : List Frame} {meth : Method} {c : Code} {Q : State → Prop} {G : zG} {μ : zM} {o : Nat} (hc : o = 29) {out : (Int32 × zOb)} (cx : zCX p (zrm 2) s m args c RX8 cX8_item 7 2 G) (hret : zRi p l e (zrm 2) s m args below meth c cX8_item G .int Q out.1 (zset μ o out.2))   : ∀ (S : zOb), f_Mo_item_19 S = some out → ∀ {H : Heap} {locs : List Loc} {ls : Array Slot}, zIW G s (zset μ o S) H locs → lv_has ls 7 [] → W p l e (zrm 2) s m args below meth c H locs 0 0 Q (F0 m 19 ls []) := by
  obtain ⟨hx, hb, hml, hown, hts, hK, hR⟩ := id cx
  intro S  h H locs ls hI hl
  unfold f_Mo_item_19 at h
  refine lv_iconst (v := (-1 : Int32)) hx hb dX8_item_19 (by decide) ?_
  obtain rfl := Option.some.inj h
  exact hret _ _ _ _ dX8_item_20 rfl hI
def f_Mo_item (S : zOb) (a1 : Int32) (a2 : Int32) (a3 : Int32) (a4 : Int64) : Option (Int32 × zOb) :=
  (f_Mo_isSheet a1).bind (fun q1 => (if q1 = nI 0 then f_Mo_item_19 S else (f_Mo_in a2.toInt64 (0 : Int64) (3 : Int64)).bind (fun q3 => (if q3 = nI 0 then f_Mo_item_19 S else (f_Mo_found S a1 a2 a3 (nI 1)).bind (fun q5 => (if nI 0 ≤ q5 then (f_Mo_cut a2 a4).bind (fun q7 => if zin (((nI 24) * a1) + a3) 96 then bnd (zL S 11 ((((nI 24) * a1) + a3).toNatClampNeg) q7) (fun Z9 => some ((nI 1), Z9)) else none) else some (q5, S)))))))
set_option maxHeartbeats 4000000 in
set_option maxRecDepth 100000 in
theorem c_Mo_item {l : Launch} {G : zG} {μ : zM} {o : Nat} (hc : o = 29) {S : zOb} (hS : μ o = S) {a1 : Int32} {a2 : Int32} {a3 : Int32} {a4 : Int64} {out : (Int32 × zOb)} (h : f_Mo_item S a1 a2 a3 a4 = some out) {μ' : zM} (hμ : zset μ o out.2 = μ') : zMI l G yX8_item cX8_item 7 (some .int) 2 [.ref (G.2.2.1 o 0), .int a1, .int a2, .int a3, .long a4] μ out.1 μ' := by
  subst hμ
  refine zMI.of (by decide) (Nat.le_of_ble_eq_true rfl) (fun p e s m args below meth c Q ls cx hI hl hret => ?_)
  obtain ⟨hx, hb, hml, hown, hts, hK, hR⟩ := id cx
  have hl : lv_has ls 7 [(0, .ref (G.2.2.1 o 0)), (1, .int a1), (2, .int a2), (3, .int a3), (4, .long a4)] := hl
  rw [← zset_idS hS] at hI
  unfold f_Mo_item at h
  refine lv_iload_n hx hb dX8_item_0 rfl (lv_at hl 1 rfl) ?_
  obtain ⟨q1, hq1, h⟩ := bi_el h
  refine zcSi (As := [.int a1]) cx hI (c_Mo_isSheet  hq1) mt_yX8_isSheet ms_yX8_isSheet w_1007 (by omega) rfl hl.1 rfl (Nat.le_of_ble_eq_true rfl) dX8_item_1 (fun H locs hI => ?_)
  refine lv_if_eq (tgt := 19) hx hb dX8_item_4 (by decide) (fun c2 => ?_) (fun c2 => ?_)
  · have h := it_p h c2
    exact t_Mo_item_19 hc cx hret S h hI (lv_sub hl [] rfl)
  · have h := it_n h c2
    refine lv_iload_n hx hb dX8_item_7 rfl (lv_at hl 2 rfl) ?_
    refine lv_i2l hx hb dX8_item_8 rfl ?_
    refine lv_lconst (v := (0 : Int64)) hx hb dX8_item_9 (by decide) ?_
    refine lv_ldc2 (v := (3 : Int64)) hx hb hown (hts _ w_1006) dX8_item_10 ?_
    obtain ⟨q3, hq3, h⟩ := bi_el h
    refine zcSi (As := [.long a2.toInt64, .long (0 : Int64), .long (3 : Int64)]) cx hI (c_Mo_in  hq3) mt_yX8_in ms_yX8_in w_179 (by omega) rfl hl.1 rfl (Nat.le_of_ble_eq_true rfl) dX8_item_13 (fun H locs hI => ?_)
    refine lv_if_ne (tgt := 21) hx hb dX8_item_16 (by decide) (fun c4 => ?_) (fun c4 => ?_)
    · have h := it_n h c4
      refine lv_aload_n hx hb dX8_item_21 rfl (lv_at hl 0 rfl) ?_
      refine lv_iload_n hx hb dX8_item_22 rfl (lv_at hl 1 rfl) ?_
      refine lv_iload_n hx hb dX8_item_23 rfl (lv_at hl 2 rfl) ?_
      refine lv_iload_n hx hb dX8_item_24 rfl (lv_at hl 3 rfl) ?_
      refine lv_iconst (v := (nI 1)) hx hb dX8_item_25 (by decide) ?_
      obtain ⟨q5, hq5, h⟩ := bi_el h
      refine zcVi (As := [.int a1, .int a2, .int a3, .int (nI 1)]) cx hI (c_Mo_found hc (zset_s _ _ _) hq5) mt_yX8_found mv_yX8_found w_1010 (by omega) (k8_0 hc) (zv8 hc) rfl hl.1 rfl (Nat.le_of_ble_eq_true rfl) dX8_item_26 (fun H locs hI => ?_)
      refine lv_istore (lv' := [(6, .int q5), (0, .ref (G.2.2.1 o 0)), (1, .int a1), (2, .int a2), (3, .int a3), (4, .long a4)]) hx hb dX8_item_29 hl (by decide) rfl (fun ls hl => ?_)
      refine lv_iload hx hb dX8_item_31 (lv_at hl 0 rfl) ?_
      refine lv_if_ge (tgt := 39) hx hb dX8_item_33 (by decide) (fun c6 => ?_) (fun c6 => ?_)
      · have h := it_p h c6
        refine lv_aload_n hx hb dX8_item_39 rfl (lv_at hl 1 rfl) ?_
        refine g8_10 cx hI hc (zset_s _ _ _) w_116 dX8_item_40 ?_
        refine lv_bipush (v := (nI 24)) hx hb dX8_item_43 (by decide) ?_
        refine lv_iload_n hx hb dX8_item_45 rfl (lv_at hl 2 rfl) ?_
        refine lv_imul hx hb dX8_item_46 ?_
        refine lv_iload_n hx hb dX8_item_47 rfl (lv_at hl 4 rfl) ?_
        refine lv_iadd hx hb dX8_item_48 ?_
        refine lv_iload_n hx hb dX8_item_49 rfl (lv_at hl 3 rfl) ?_
        refine lv_lload hx hb dX8_item_50 (lv_at hl 5 rfl) ?_
        obtain ⟨q7, hq7, h⟩ := bi_el h
        refine zcSl (As := [.int a2, .long a4]) cx hI (c_Mo_cut  hq7) mt_yX8_cut ms_yX8_cut w_1059 (by omega) rfl hl.1 rfl (Nat.le_of_ble_eq_true rfl) dX8_item_52 (fun H locs hI => ?_)
        obtain ⟨g8, h⟩ := gd_el h
        obtain ⟨Z9, eZ9⟩ : ∃ z : zOb, z = zL S 11 ((((nI 24) * a1) + a3).toNatClampNeg) q7 := ⟨_, rfl⟩
        have h := bnd_el h eZ9
        refine zr_last cx hI (k8_11 hc) (zset_s _ _ _) (z8_11 hc) rfl g8 (zss eZ9) dX8_item_55 (fun H locs hI => ?_)
        refine lv_iconst (v := (nI 1)) hx hb dX8_item_56 (by decide) ?_
        obtain rfl := Option.some.inj h
        exact hret _ _ _ _ dX8_item_57 rfl hI
      · have h := it_n h c6
        refine lv_iload hx hb dX8_item_36 (lv_at hl 0 rfl) ?_
        obtain rfl := Option.some.inj h
        exact hret _ _ _ _ dX8_item_38 rfl hI
    · have h := it_p h c4
      exact t_Mo_item_19 hc cx hret S h hI (lv_sub hl [] rfl)
def f_Mo_copy_14 (N : Nat)  (S : zOb) : Option (Int32 × zOb) :=
  some ((-1 : Int32), S)
set_option maxHeartbeats 4000000 in
set_option maxRecDepth 100000 in
theorem t_Mo_copy_14 (N : Nat) {p : Program} {l : Launch} {e : Env} {s : State} {m : MethodId} {args : Array Value} {below : List Frame} {meth : Method} {c : Code} {Q : State → Prop} {G : zG} {μ : zM} {o : Nat} (hc : o = 29) {out : (Int32 × zOb)} (cx : zCX p (zrm 2) s m args c RX8 cX8_copy 7 2 G) (hret : zRi p l e (zrm 2) s m args below meth c cX8_copy G .int Q out.1 (zset μ o out.2))   : ∀ (S : zOb), f_Mo_copy_14 N S = some out → ∀ {H : Heap} {locs : List Loc} {ls : Array Slot}, zIW G s (zset μ o S) H locs → lv_has ls 7 [] → W p l e (zrm 2) s m args below meth c H locs 0 0 Q (F0 m 14 ls []) := by
  obtain ⟨hx, hb, hml, hown, hts, hK, hR⟩ := id cx
  intro S  h H locs ls hI hl
  unfold f_Mo_copy_14 at h
  refine lv_iconst (v := (-1 : Int32)) hx hb dX8_copy_14 (by decide) ?_
  obtain rfl := Option.some.inj h
  exact hret _ _ _ _ dX8_copy_15 rfl hI
def f_Mo_copy_34 (N : Nat)  (S : zOb) : Option (Int32 × zOb) :=
  some ((-11 : Int32), S)
set_option maxHeartbeats 4000000 in
set_option maxRecDepth 100000 in
theorem t_Mo_copy_34 (N : Nat) {p : Program} {l : Launch} {e : Env} {s : State} {m : MethodId} {args : Array Value} {below : List Frame} {meth : Method} {c : Code} {Q : State → Prop} {G : zG} {μ : zM} {o : Nat} (hc : o = 29) {out : (Int32 × zOb)} (cx : zCX p (zrm 2) s m args c RX8 cX8_copy 7 2 G) (hret : zRi p l e (zrm 2) s m args below meth c cX8_copy G .int Q out.1 (zset μ o out.2))   : ∀ (S : zOb), f_Mo_copy_34 N S = some out → ∀ {H : Heap} {locs : List Loc} {ls : Array Slot}, zIW G s (zset μ o S) H locs → lv_has ls 7 [] → W p l e (zrm 2) s m args below meth c H locs 0 0 Q (F0 m 34 ls []) := by
  obtain ⟨hx, hb, hml, hown, hts, hK, hR⟩ := id cx
  intro S  h H locs ls hI hl
  unfold f_Mo_copy_34 at h
  refine lv_bipush (v := (-11 : Int32)) hx hb dX8_copy_34 (by decide) ?_
  obtain rfl := Option.some.inj h
  exact hret _ _ _ _ dX8_copy_36 rfl hI
def f_Mo_copy_96 (N : Nat)  (S : zOb) : Option (Int32 × zOb) :=
  some ((-13 : Int32), S)
set_option maxHeartbeats 4000000 in
set_option maxRecDepth 100000 in
theorem t_Mo_copy_96 (N : Nat) {p : Program} {l : Launch} {e : Env} {s : State} {m : MethodId} {args : Array Value} {below : List Frame} {meth : Method} {c : Code} {Q : State → Prop} {G : zG} {μ : zM} {o : Nat} (hc : o = 29) {out : (Int32 × zOb)} (cx : zCX p (zrm 2) s m args c RX8 cX8_copy 7 2 G) (hret : zRi p l e (zrm 2) s m args below meth c cX8_copy G .int Q out.1 (zset μ o out.2))   : ∀ (S : zOb), f_Mo_copy_96 N S = some out → ∀ {H : Heap} {locs : List Loc} {ls : Array Slot}, zIW G s (zset μ o S) H locs → lv_has ls 7 [] → W p l e (zrm 2) s m args below meth c H locs 0 0 Q (F0 m 96 ls []) := by
  obtain ⟨hx, hb, hml, hown, hts, hK, hR⟩ := id cx
  intro S  h H locs ls hI hl
  unfold f_Mo_copy_96 at h
  refine lv_bipush (v := (-13 : Int32)) hx hb dX8_copy_96 (by decide) ?_
  obtain rfl := Option.some.inj h
  exact hret _ _ _ _ dX8_copy_98 rfl hI
def f_Mo_copy_139 (N : Nat)  : Nat → zOb → Int32 → Int32 → Int32 → Int32 → Option (Int32 × zOb)
  | 0, _, _, _, _, _ => none
  | n + 1, S, x3, x4, x5, x6 => (if x5 ≤ x6 then some (x5, S) else if zin x6 24 then if zin ((((nI 24) * x3) + x4) + x6) 96 then bnd (zL S 11 (((((nI 24) * x3) + x4) + x6).toNatClampNeg) (S.2.1 12 x6.toNatClampNeg)) (fun Z23 => bnd (x6 + (nI 1)) (fun v24 => f_Mo_copy_139 N n Z23 x3 x4 x5 v24)) else none else none)
set_option maxHeartbeats 4000000 in
set_option maxRecDepth 100000 in
theorem t_Mo_copy_139 (N : Nat) {p : Program} {l : Launch} {e : Env} {s : State} {m : MethodId} {args : Array Value} {below : List Frame} {meth : Method} {c : Code} {Q : State → Prop} {G : zG} {μ : zM} {o : Nat} (hc : o = 29) {out : (Int32 × zOb)} (cx : zCX p (zrm 2) s m args c RX8 cX8_copy 7 2 G) (hret : zRi p l e (zrm 2) s m args below meth c cX8_copy G .int Q out.1 (zset μ o out.2))   : ∀ (n : Nat) (S : zOb) (x3 : Int32) (x4 : Int32) (x5 : Int32) (x6 : Int32), f_Mo_copy_139 N n S x3 x4 x5 x6 = some out → ∀ {H : Heap} {locs : List Loc} {ls : Array Slot}, zIW G s (zset μ o S) H locs → lv_has ls 7 [(0, .ref (G.2.2.1 o 0)), (3, .int x3), (4, .int x4), (5, .int x5), (6, .int x6)] → W p l e (zrm 2) s m args below meth c H locs 0 0 Q (F0 m 139 ls []) := by
  obtain ⟨hx, hb, hml, hown, hts, hK, hR⟩ := id cx
  intro n
  induction n with
  | zero =>
    intro S x3 x4 x5 x6  h
    cases h
  | succ n ih =>
    intro S x3 x4 x5 x6  h H locs ls hI hl
    rw [f_Mo_copy_139] at h
    refine lv_iload hx hb dX8_copy_139 (lv_at hl 4 rfl) ?_
    refine lv_iload hx hb dX8_copy_141 (lv_at hl 3 rfl) ?_
    refine lv_icmp_ge (tgt := 174) hx hb dX8_copy_143 (by decide) (fun c20 => ?_) (fun c20 => ?_)
    · have h := it_p h c20
      refine lv_iload hx hb dX8_copy_174 (lv_at hl 3 rfl) ?_
      obtain rfl := Option.some.inj h
      exact hret _ _ _ _ dX8_copy_176 rfl hI
    · have h := it_n h c20
      refine lv_aload_n hx hb dX8_copy_146 rfl (lv_at hl 0 rfl) ?_
      refine g8_10 cx hI hc (zset_s _ _ _) w_116 dX8_copy_147 ?_
      refine lv_bipush (v := (nI 24)) hx hb dX8_copy_150 (by decide) ?_
      refine lv_iload_n hx hb dX8_copy_152 rfl (lv_at hl 1 rfl) ?_
      refine lv_imul hx hb dX8_copy_153 ?_
      refine lv_iload hx hb dX8_copy_154 (lv_at hl 2 rfl) ?_
      refine lv_iadd hx hb dX8_copy_156 ?_
      refine lv_iload hx hb dX8_copy_157 (lv_at hl 4 rfl) ?_
      refine lv_iadd hx hb dX8_copy_159 ?_
      refine lv_aload_n hx hb dX8_copy_160 rfl (lv_at hl 0 rfl) ?_
      refine g8_11 cx hI hc (zset_s _ _ _) w_117 dX8_copy_161 ?_
      refine lv_iload hx hb dX8_copy_164 (lv_at hl 4 rfl) ?_
      obtain ⟨g21, h⟩ := gd_el h
      refine zr_lald cx hI (k8_12 hc) (zset_s _ _ _) (z8_12 hc) rfl g21 dX8_copy_166 ?_
      obtain ⟨g22, h⟩ := gd_el h
      obtain ⟨Z23, eZ23⟩ : ∃ z : zOb, z = zL S 11 (((((nI 24) * x3) + x4) + x6).toNatClampNeg) (S.2.1 12 x6.toNatClampNeg) := ⟨_, rfl⟩
      have h := bnd_el h eZ23
      refine zr_last cx hI (k8_11 hc) (zset_s _ _ _) (z8_11 hc) rfl g22 (zss eZ23) dX8_copy_167 (fun H locs hI => ?_)
      obtain ⟨v24, ev24⟩ : ∃ z : Int32, z = x6 + (nI 1) := ⟨_, rfl⟩
      have h := bnd_el h ev24
      refine lv_iinc (v := v24) (lv' := [(6, .int v24), (0, .ref (G.2.2.1 o 0)), (3, .int x3), (4, .int x4), (5, .int x5)]) hx hb dX8_copy_168 hl (k := 4) rfl (by rw [ev24]; rfl) (by decide) rfl (fun ls hl => ?_)
      refine lv_goto (tgt := 139) hx hb dX8_copy_171 (by decide) ?_
      exact ih Z23 x3 x4 x5 v24 h hI (lv_sub hl [1, 2, 3, 4, 0] rfl)
def f_Mo_copy_102 (N : Nat)  : Nat → zOb → Int32 → Int32 → Int32 → Int32 → Int32 → Int32 → Option (Int32 × zOb)
  | 0, _, _, _, _, _, _, _ => none
  | n + 1, S, x1, x2, x3, x4, x5, x6 => (if x5 ≤ x6 then f_Mo_copy_139 N N S x3 x4 x5 (nI 0) else if zin ((((nI 24) * x1) + x2) + x6) 96 then if zin x6 24 then bnd (zL S 12 x6.toNatClampNeg (S.2.1 11 (((((nI 24) * x1) + x2) + x6).toNatClampNeg))) (fun Z27 => bnd (x6 + (nI 1)) (fun v28 => f_Mo_copy_102 N n Z27 x1 x2 x3 x4 x5 v28)) else none else none)
set_option maxHeartbeats 4000000 in
set_option maxRecDepth 100000 in
theorem t_Mo_copy_102 (N : Nat) {p : Program} {l : Launch} {e : Env} {s : State} {m : MethodId} {args : Array Value} {below : List Frame} {meth : Method} {c : Code} {Q : State → Prop} {G : zG} {μ : zM} {o : Nat} (hc : o = 29) {out : (Int32 × zOb)} (cx : zCX p (zrm 2) s m args c RX8 cX8_copy 7 2 G) (hret : zRi p l e (zrm 2) s m args below meth c cX8_copy G .int Q out.1 (zset μ o out.2))   : ∀ (n : Nat) (S : zOb) (x1 : Int32) (x2 : Int32) (x3 : Int32) (x4 : Int32) (x5 : Int32) (x6 : Int32), f_Mo_copy_102 N n S x1 x2 x3 x4 x5 x6 = some out → ∀ {H : Heap} {locs : List Loc} {ls : Array Slot}, zIW G s (zset μ o S) H locs → lv_has ls 7 [(0, .ref (G.2.2.1 o 0)), (1, .int x1), (2, .int x2), (3, .int x3), (4, .int x4), (5, .int x5), (6, .int x6)] → W p l e (zrm 2) s m args below meth c H locs 0 0 Q (F0 m 102 ls []) := by
  obtain ⟨hx, hb, hml, hown, hts, hK, hR⟩ := id cx
  intro n
  induction n with
  | zero =>
    intro S x1 x2 x3 x4 x5 x6  h
    cases h
  | succ n ih =>
    intro S x1 x2 x3 x4 x5 x6  h H locs ls hI hl
    rw [f_Mo_copy_102] at h
    refine lv_iload hx hb dX8_copy_102 (lv_at hl 6 rfl) ?_
    refine lv_iload hx hb dX8_copy_104 (lv_at hl 5 rfl) ?_
    refine lv_icmp_ge (tgt := 136) hx hb dX8_copy_106 (by decide) (fun c19 => ?_) (fun c19 => ?_)
    · have h := it_p h c19
      refine lv_iconst (v := (nI 0)) hx hb dX8_copy_136 (by decide) ?_
      refine lv_istore (lv' := [(6, .int (nI 0)), (0, .ref (G.2.2.1 o 0)), (1, .int x1), (2, .int x2), (3, .int x3), (4, .int x4), (5, .int x5)]) hx hb dX8_copy_137 hl (by decide) rfl (fun ls hl => ?_)
      exact t_Mo_copy_139 N hc cx hret N S x3 x4 x5 (nI 0) h hI (lv_sub hl [1, 4, 5, 6, 0] rfl)
    · have h := it_n h c19
      refine lv_aload_n hx hb dX8_copy_109 rfl (lv_at hl 0 rfl) ?_
      refine g8_11 cx hI hc (zset_s _ _ _) w_117 dX8_copy_110 ?_
      refine lv_iload hx hb dX8_copy_113 (lv_at hl 6 rfl) ?_
      refine lv_aload_n hx hb dX8_copy_115 rfl (lv_at hl 0 rfl) ?_
      refine g8_10 cx hI hc (zset_s _ _ _) w_116 dX8_copy_116 ?_
      refine lv_bipush (v := (nI 24)) hx hb dX8_copy_119 (by decide) ?_
      refine lv_iload_n hx hb dX8_copy_121 rfl (lv_at hl 1 rfl) ?_
      refine lv_imul hx hb dX8_copy_122 ?_
      refine lv_iload_n hx hb dX8_copy_123 rfl (lv_at hl 2 rfl) ?_
      refine lv_iadd hx hb dX8_copy_124 ?_
      refine lv_iload hx hb dX8_copy_125 (lv_at hl 6 rfl) ?_
      refine lv_iadd hx hb dX8_copy_127 ?_
      obtain ⟨g25, h⟩ := gd_el h
      refine zr_lald cx hI (k8_11 hc) (zset_s _ _ _) (z8_11 hc) rfl g25 dX8_copy_128 ?_
      obtain ⟨g26, h⟩ := gd_el h
      obtain ⟨Z27, eZ27⟩ : ∃ z : zOb, z = zL S 12 x6.toNatClampNeg (S.2.1 11 (((((nI 24) * x1) + x2) + x6).toNatClampNeg)) := ⟨_, rfl⟩
      have h := bnd_el h eZ27
      refine zr_last cx hI (k8_12 hc) (zset_s _ _ _) (z8_12 hc) rfl g26 (zss eZ27) dX8_copy_129 (fun H locs hI => ?_)
      obtain ⟨v28, ev28⟩ : ∃ z : Int32, z = x6 + (nI 1) := ⟨_, rfl⟩
      have h := bnd_el h ev28
      refine lv_iinc (v := v28) (lv' := [(6, .int v28), (0, .ref (G.2.2.1 o 0)), (1, .int x1), (2, .int x2), (3, .int x3), (4, .int x4), (5, .int x5)]) hx hb dX8_copy_130 hl (k := 6) rfl (by rw [ev28]; rfl) (by decide) rfl (fun ls hl => ?_)
      refine lv_goto (tgt := 102) hx hb dX8_copy_133 (by decide) ?_
      exact ih Z27 x1 x2 x3 x4 x5 v28 h hI (lv_sub hl [1, 2, 3, 4, 5, 6, 0] rfl)
def f_Mo_copy (N : Nat) (S : zOb) (a1 : Int32) (a2 : Int32) (a3 : Int32) (a4 : Int32) (a5 : Int32) : Option (Int32 × zOb) :=
  (f_Mo_isSheet a1).bind (fun q1 => (if q1 = nI 0 then f_Mo_copy_14 N S else (f_Mo_isSheet a3).bind (fun q3 => (if q3 = nI 0 then f_Mo_copy_14 N S else if zin a1 4 then (if (S.1 9 a1.toNatClampNeg) < nI 0 then f_Mo_copy_34 N S else if zin a3 4 then (if nI 0 ≤ (S.1 9 a3.toNatClampNeg) then if zin a1 4 then if zin a3 4 then (if (S.1 9 a1.toNatClampNeg) = (S.1 9 a3.toNatClampNeg) then (if a5 < nI 0 then f_Mo_copy_96 N S else (if a2 < nI 0 then f_Mo_copy_96 N S else (if a4 < nI 0 then f_Mo_copy_96 N S else if zin a1 4 then (if ((S.1 10 a1.toNatClampNeg) - a2) < a5 then f_Mo_copy_96 N S else if zin a3 4 then (if a5 ≤ ((S.1 10 a3.toNatClampNeg) - a4) then f_Mo_copy_102 N N S a1 a2 a3 a4 a5 (nI 0) else f_Mo_copy_96 N S) else none) else none))) else some ((-12 : Int32), S)) else none else none else f_Mo_copy_34 N S) else none) else none))))
set_option maxHeartbeats 4000000 in
set_option maxRecDepth 100000 in
theorem c_Mo_copy (N : Nat) {l : Launch} {G : zG} {μ : zM} {o : Nat} (hc : o = 29) {S : zOb} (hS : μ o = S) {a1 : Int32} {a2 : Int32} {a3 : Int32} {a4 : Int32} {a5 : Int32} {out : (Int32 × zOb)} (h : f_Mo_copy N S a1 a2 a3 a4 a5 = some out) {μ' : zM} (hμ : zset μ o out.2 = μ') : zMI l G yX8_copy cX8_copy 7 (some .int) 2 [.ref (G.2.2.1 o 0), .int a1, .int a2, .int a3, .int a4, .int a5] μ out.1 μ' := by
  subst hμ
  refine zMI.of (by decide) (Nat.le_of_ble_eq_true rfl) (fun p e s m args below meth c Q ls cx hI hl hret => ?_)
  obtain ⟨hx, hb, hml, hown, hts, hK, hR⟩ := id cx
  have hl : lv_has ls 7 [(0, .ref (G.2.2.1 o 0)), (1, .int a1), (2, .int a2), (3, .int a3), (4, .int a4), (5, .int a5)] := hl
  rw [← zset_idS hS] at hI
  unfold f_Mo_copy at h
  refine lv_iload_n hx hb dX8_copy_0 rfl (lv_at hl 1 rfl) ?_
  obtain ⟨q1, hq1, h⟩ := bi_el h
  refine zcSi (As := [.int a1]) cx hI (c_Mo_isSheet  hq1) mt_yX8_isSheet ms_yX8_isSheet w_1007 (by omega) rfl hl.1 rfl (Nat.le_of_ble_eq_true rfl) dX8_copy_1 (fun H locs hI => ?_)
  refine lv_if_eq (tgt := 14) hx hb dX8_copy_4 (by decide) (fun c2 => ?_) (fun c2 => ?_)
  · have h := it_p h c2
    exact t_Mo_copy_14 N hc cx hret S h hI (lv_sub hl [] rfl)
  · have h := it_n h c2
    refine lv_iload_n hx hb dX8_copy_7 rfl (lv_at hl 3 rfl) ?_
    obtain ⟨q3, hq3, h⟩ := bi_el h
    refine zcSi (As := [.int a3]) cx hI (c_Mo_isSheet  hq3) mt_yX8_isSheet ms_yX8_isSheet w_1007 (by omega) rfl hl.1 rfl (Nat.le_of_ble_eq_true rfl) dX8_copy_8 (fun H locs hI => ?_)
    refine lv_if_ne (tgt := 16) hx hb dX8_copy_11 (by decide) (fun c4 => ?_) (fun c4 => ?_)
    · have h := it_n h c4
      refine lv_aload_n hx hb dX8_copy_16 rfl (lv_at hl 0 rfl) ?_
      refine g8_8 cx hI hc (zset_s _ _ _) w_114 dX8_copy_17 ?_
      refine lv_iload_n hx hb dX8_copy_20 rfl (lv_at hl 1 rfl) ?_
      obtain ⟨g5, h⟩ := gd_el h
      refine zr_iald cx hI (k8_9 hc) (zset_s _ _ _) (z8_9 hc) rfl g5 dX8_copy_21 ?_
      refine lv_if_lt (tgt := 34) hx hb dX8_copy_22 (by decide) (fun c6 => ?_) (fun c6 => ?_)
      · have h := it_p h c6
        exact t_Mo_copy_34 N hc cx hret S h hI (lv_sub hl [] rfl)
      · have h := it_n h c6
        refine lv_aload_n hx hb dX8_copy_25 rfl (lv_at hl 0 rfl) ?_
        refine g8_8 cx hI hc (zset_s _ _ _) w_114 dX8_copy_26 ?_
        refine lv_iload_n hx hb dX8_copy_29 rfl (lv_at hl 3 rfl) ?_
        obtain ⟨g7, h⟩ := gd_el h
        refine zr_iald cx hI (k8_9 hc) (zset_s _ _ _) (z8_9 hc) rfl g7 dX8_copy_30 ?_
        refine lv_if_ge (tgt := 37) hx hb dX8_copy_31 (by decide) (fun c8 => ?_) (fun c8 => ?_)
        · have h := it_p h c8
          refine lv_aload_n hx hb dX8_copy_37 rfl (lv_at hl 0 rfl) ?_
          refine g8_8 cx hI hc (zset_s _ _ _) w_114 dX8_copy_38 ?_
          refine lv_iload_n hx hb dX8_copy_41 rfl (lv_at hl 1 rfl) ?_
          obtain ⟨g9, h⟩ := gd_el h
          refine zr_iald cx hI (k8_9 hc) (zset_s _ _ _) (z8_9 hc) rfl g9 dX8_copy_42 ?_
          refine lv_aload_n hx hb dX8_copy_43 rfl (lv_at hl 0 rfl) ?_
          refine g8_8 cx hI hc (zset_s _ _ _) w_114 dX8_copy_44 ?_
          refine lv_iload_n hx hb dX8_copy_47 rfl (lv_at hl 3 rfl) ?_
          obtain ⟨g10, h⟩ := gd_el h
          refine zr_iald cx hI (k8_9 hc) (zset_s _ _ _) (z8_9 hc) rfl g10 dX8_copy_48 ?_
          refine lv_icmp_eq (tgt := 55) hx hb dX8_copy_49 (by decide) (fun c11 => ?_) (fun c11 => ?_)
          · have h := it_p h c11
            refine lv_iload hx hb dX8_copy_55 (lv_at hl 5 rfl) ?_
            refine lv_if_lt (tgt := 96) hx hb dX8_copy_57 (by decide) (fun c12 => ?_) (fun c12 => ?_)
            · have h := it_p h c12
              exact t_Mo_copy_96 N hc cx hret S h hI (lv_sub hl [] rfl)
            · have h := it_n h c12
              refine lv_iload_n hx hb dX8_copy_60 rfl (lv_at hl 2 rfl) ?_
              refine lv_if_lt (tgt := 96) hx hb dX8_copy_61 (by decide) (fun c13 => ?_) (fun c13 => ?_)
              · have h := it_p h c13
                exact t_Mo_copy_96 N hc cx hret S h hI (lv_sub hl [] rfl)
              · have h := it_n h c13
                refine lv_iload hx hb dX8_copy_64 (lv_at hl 4 rfl) ?_
                refine lv_if_lt (tgt := 96) hx hb dX8_copy_66 (by decide) (fun c14 => ?_) (fun c14 => ?_)
                · have h := it_p h c14
                  exact t_Mo_copy_96 N hc cx hret S h hI (lv_sub hl [] rfl)
                · have h := it_n h c14
                  refine lv_iload hx hb dX8_copy_69 (lv_at hl 5 rfl) ?_
                  refine lv_aload_n hx hb dX8_copy_71 rfl (lv_at hl 0 rfl) ?_
                  refine g8_9 cx hI hc (zset_s _ _ _) w_115 dX8_copy_72 ?_
                  refine lv_iload_n hx hb dX8_copy_75 rfl (lv_at hl 1 rfl) ?_
                  obtain ⟨g15, h⟩ := gd_el h
                  refine zr_iald cx hI (k8_10 hc) (zset_s _ _ _) (z8_10 hc) rfl g15 dX8_copy_76 ?_
                  refine lv_iload_n hx hb dX8_copy_77 rfl (lv_at hl 2 rfl) ?_
                  refine lv_isub hx hb dX8_copy_78 ?_
                  refine lv_icmp_gt (tgt := 96) hx hb dX8_copy_79 (by decide) (fun c16 => ?_) (fun c16 => ?_)
                  · have h := it_p h c16
                    exact t_Mo_copy_96 N hc cx hret S h hI (lv_sub hl [] rfl)
                  · have h := it_n h c16
                    refine lv_iload hx hb dX8_copy_82 (lv_at hl 5 rfl) ?_
                    refine lv_aload_n hx hb dX8_copy_84 rfl (lv_at hl 0 rfl) ?_
                    refine g8_9 cx hI hc (zset_s _ _ _) w_115 dX8_copy_85 ?_
                    refine lv_iload_n hx hb dX8_copy_88 rfl (lv_at hl 3 rfl) ?_
                    obtain ⟨g17, h⟩ := gd_el h
                    refine zr_iald cx hI (k8_10 hc) (zset_s _ _ _) (z8_10 hc) rfl g17 dX8_copy_89 ?_
                    refine lv_iload hx hb dX8_copy_90 (lv_at hl 4 rfl) ?_
                    refine lv_isub hx hb dX8_copy_92 ?_
                    refine lv_icmp_le (tgt := 99) hx hb dX8_copy_93 (by decide) (fun c18 => ?_) (fun c18 => ?_)
                    · have h := it_p h c18
                      refine lv_iconst (v := (nI 0)) hx hb dX8_copy_99 (by decide) ?_
                      refine lv_istore (lv' := [(6, .int (nI 0)), (0, .ref (G.2.2.1 o 0)), (1, .int a1), (2, .int a2), (3, .int a3), (4, .int a4), (5, .int a5)]) hx hb dX8_copy_100 hl (by decide) rfl (fun ls hl => ?_)
                      exact t_Mo_copy_102 N hc cx hret N S a1 a2 a3 a4 a5 (nI 0) h hI (lv_sub hl [1, 2, 3, 4, 5, 6, 0] rfl)
                    · have h := it_n h c18
                      exact t_Mo_copy_96 N hc cx hret S h hI (lv_sub hl [] rfl)
          · have h := it_n h c11
            refine lv_bipush (v := (-12 : Int32)) hx hb dX8_copy_52 (by decide) ?_
            obtain rfl := Option.some.inj h
            exact hret _ _ _ _ dX8_copy_54 rfl hI
        · have h := it_n h c8
          exact t_Mo_copy_34 N hc cx hret S h hI (lv_sub hl [] rfl)
    · have h := it_p h c4
      exact t_Mo_copy_14 N hc cx hret S h hI (lv_sub hl [] rfl)
