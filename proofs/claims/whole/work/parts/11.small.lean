/-! Letters, Sheet, Reading -/
def f_Le_add (n : Nat) (S : zOb) (a1 : Int32) : Option (Int32 × zOb) :=
  (if (S.1 0 1) < (Int32.ofNat n) then if zin (S.1 0 1) n then bnd (zI S 1 ((S.1 0 1).toNatClampNeg) (vp_nar .char a1)) (fun Z3 => bnd (zI Z3 0 1 ((Z3.1 0 1) + (nI 1))) (fun Z4 => some ((nI 1), Z4))) else none else some ((nI 0), S))
set_option maxHeartbeats 4000000 in
set_option maxRecDepth 100000 in
theorem c_Le_add {l : Launch} {G : zG} {μ : zM} {o : Nat} (hc : zc o = 0) {S : zOb} (hS : μ o = S) {a1 : Int32} {out : (Int32 × zOb)} (h : f_Le_add (zlen o) S a1 = some out) {μ' : zM} (hμ : zset μ o out.2 = μ') : zMI l G yX0_add cX0_add 2 (some .boolean) 0 [.ref (G.2.2.1 o 0), .int a1] μ out.1 μ' := by
  subst hμ
  refine zMI.of (by decide) (Nat.le_of_ble_eq_true rfl) (fun p e s m args below meth c Q ls cx hI hl hret => ?_)
  obtain ⟨hx, hb, hml, hown, hts, hK, hR⟩ := id cx
  have hl : lv_has ls 2 [(0, .ref (G.2.2.1 o 0)), (1, .int a1)] := hl
  rw [← zset_idS hS] at hI
  have hn : zlen o = zlen o := rfl
  unfold f_Le_add at h
  refine lv_aload_n hx hb dX0_add_0 rfl (lv_at hl 0 rfl) ?_
  refine g0_1 cx hI hc (zset_s _ _ _) w_739 dX0_add_1 ?_
  refine lv_aload_n hx hb dX0_add_4 rfl (lv_at hl 0 rfl) ?_
  refine g0_0 cx hI hc (zset_s _ _ _) w_73 dX0_add_5 ?_
  refine zr_clen cx hI (k0_1 hc) (zset_s _ _ _) (z0_1 hc) dX0_add_8 ?_
  refine lv_icmp_lt (tgt := 14) hx hb dX0_add_9 (by decide) (fun c1 => ?_) (fun c1 => ?_)
  · have h := it_p h c1
    refine lv_aload_n hx hb dX0_add_14 rfl (lv_at hl 0 rfl) ?_
    refine g0_0 cx hI hc (zset_s _ _ _) w_73 dX0_add_15 ?_
    refine lv_aload_n hx hb dX0_add_18 rfl (lv_at hl 0 rfl) ?_
    refine g0_1 cx hI hc (zset_s _ _ _) w_739 dX0_add_19 ?_
    refine lv_iload_n hx hb dX0_add_22 rfl (lv_at hl 1 rfl) ?_
    obtain ⟨g2, h⟩ := gd_el h
    obtain ⟨Z3, eZ3⟩ : ∃ z : zOb, z = zI S 1 ((S.1 0 1).toNatClampNeg) (vp_nar .char a1) := ⟨_, rfl⟩
    have h := bnd_el h eZ3
    refine zr_cast cx hI (k0_1 hc) (zset_s _ _ _) (z0_1 hc) rfl g2 (zss eZ3) dX0_add_23 (fun H locs hI => ?_)
    refine lv_aload_n hx hb dX0_add_24 rfl (lv_at hl 0 rfl) ?_
    refine lv_dup hx hb dX0_add_25 rfl ?_
    refine g0_1 cx hI hc (zset_s _ _ _) w_739 dX0_add_26 ?_
    refine lv_iconst (v := (nI 1)) hx hb dX0_add_29 (by decide) ?_
    refine lv_iadd hx hb dX0_add_30 ?_
    obtain ⟨Z4, eZ4⟩ : ∃ z : zOb, z = zI Z3 0 1 ((Z3.1 0 1) + (nI 1)) := ⟨_, rfl⟩
    have h := bnd_el h eZ4
    refine p0_1 cx hI hc (zset_s _ _ _) w_739 (zss eZ4) dX0_add_31 (fun H locs hI => ?_)
    refine lv_iconst (v := (nI 1)) hx hb dX0_add_34 (by decide) ?_
    obtain rfl := Option.some.inj h
    exact hret _ _ _ _ dX0_add_35 (zbool (Or.inr rfl)) hI
  · have h := it_n h c1
    refine lv_iconst (v := (nI 0)) hx hb dX0_add_12 (by decide) ?_
    obtain rfl := Option.some.inj h
    exact hret _ _ _ _ dX0_add_13 (zbool (Or.inl rfl)) hI
def f_Le_addNumber_22 (n : Nat)  (S : zOb) (x1 : Int32) : Option zOb :=
  (f_Le_add n S ((((nI 48) + (x1 - x1 / (nI 10) * (nI 10))).toUInt32 % 65536).toInt32)).bind (fun q2 => some q2.2)
set_option maxHeartbeats 4000000 in
set_option maxRecDepth 100000 in
theorem t_Le_addNumber_22  {p : Program} {l : Launch} {e : Env} {s : State} {m : MethodId} {args : Array Value} {below : List Frame} {meth : Method} {c : Code} {Q : State → Prop} {G : zG} {μ : zM} {o : Nat} (hc : zc o = 0) {n : Nat} (hn : n = zlen o) {out : zOb} (cx : zCX p (zrm 1) s m args c RX0 cX0_addNumber 2 1 G) (hret : zRv p l e (zrm 1) s m args below meth c cX0_addNumber G Q (zset μ o out))   : ∀ (S : zOb) (x1 : Int32), f_Le_addNumber_22 n S x1 = some out → ∀ {H : Heap} {locs : List Loc} {ls : Array Slot}, zIW G s (zset μ o S) H locs → lv_has ls 2 [(0, .ref (G.2.2.1 o 0)), (1, .int x1)] → W p l e (zrm 1) s m args below meth c H locs 0 0 Q (F0 m 22 ls []) := by
  obtain ⟨hx, hb, hml, hown, hts, hK, hR⟩ := id cx
  subst hn
  have hn : zlen o = zlen o := rfl
  intro S x1  h H locs ls hI hl
  unfold f_Le_addNumber_22 at h
  refine lv_aload_n hx hb dX0_addNumber_22 rfl (lv_at hl 0 rfl) ?_
  refine lv_bipush (v := (nI 48)) hx hb dX0_addNumber_23 (by decide) ?_
  refine lv_iload_n hx hb dX0_addNumber_25 rfl (lv_at hl 1 rfl) ?_
  refine lv_bipush (v := (nI 10)) hx hb dX0_addNumber_26 (by decide) ?_
  refine lv_irem hx hb dX0_addNumber_28 (by decide) ?_
  refine lv_iadd hx hb dX0_addNumber_29 ?_
  refine lv_i2c hx hb dX0_addNumber_30 rfl ?_
  obtain ⟨q2, hq2, h⟩ := bi_el h
  refine zcVi (As := [.int ((((nI 48) + (x1 - x1 / (nI 10) * (nI 10))).toUInt32 % 65536).toInt32)]) cx hI (c_Le_add hc (zset_s _ _ _) hq2 (zset_ss _ _ _ _)) mt_yX0_add mv_yX0_add w_744 (by omega) (k0_0 hc) (zv0 hc) rfl hl.1 rfl (Nat.le_of_ble_eq_true rfl) dX0_addNumber_31 (fun H locs hI => ?_)
  refine lv_pop hx hb dX0_addNumber_34 rfl ?_
  obtain rfl := Option.some.inj h
  exact hret _ _ _ _ dX0_addNumber_35 hI
def f_Le_addNumber (n : Nat) (S : zOb) (a1 : Int32) : Option zOb :=
  (if a1 < (nI 10) then f_Le_addNumber_22 n S a1 else (f_Le_add n S ((((nI 48) + ((a1 / (nI 10)) - (a1 / (nI 10)) / (nI 10) * (nI 10))).toUInt32 % 65536).toInt32)).bind (fun q3 => f_Le_addNumber_22 n q3.2 a1))
set_option maxHeartbeats 4000000 in
set_option maxRecDepth 100000 in
theorem c_Le_addNumber {l : Launch} {G : zG} {μ : zM} {o : Nat} (hc : zc o = 0) {S : zOb} (hS : μ o = S) {a1 : Int32} {out : zOb} (h : f_Le_addNumber (zlen o) S a1 = some out) {μ' : zM} (hμ : zset μ o out = μ') : zMV l G yX0_addNumber cX0_addNumber 2 none 1 [.ref (G.2.2.1 o 0), .int a1] μ μ' := by
  subst hμ
  refine zMV.of (by decide) (Nat.le_of_ble_eq_true rfl) (fun p e s m args below meth c Q ls cx hI hl hret => ?_)
  obtain ⟨hx, hb, hml, hown, hts, hK, hR⟩ := id cx
  have hl : lv_has ls 2 [(0, .ref (G.2.2.1 o 0)), (1, .int a1)] := hl
  rw [← zset_idS hS] at hI
  have hn : zlen o = zlen o := rfl
  unfold f_Le_addNumber at h
  refine lv_iload_n hx hb dX0_addNumber_0 rfl (lv_at hl 1 rfl) ?_
  refine lv_bipush (v := (nI 10)) hx hb dX0_addNumber_1 (by decide) ?_
  refine lv_icmp_lt (tgt := 22) hx hb dX0_addNumber_3 (by decide) (fun c1 => ?_) (fun c1 => ?_)
  · have h := it_p h c1
    exact t_Le_addNumber_22 hc hn cx hret S a1 h hI hl
  · have h := it_n h c1
    refine lv_aload_n hx hb dX0_addNumber_6 rfl (lv_at hl 0 rfl) ?_
    refine lv_bipush (v := (nI 48)) hx hb dX0_addNumber_7 (by decide) ?_
    refine lv_iload_n hx hb dX0_addNumber_9 rfl (lv_at hl 1 rfl) ?_
    refine lv_bipush (v := (nI 10)) hx hb dX0_addNumber_10 (by decide) ?_
    refine lv_idiv hx hb dX0_addNumber_12 (by decide) ?_
    refine lv_bipush (v := (nI 10)) hx hb dX0_addNumber_13 (by decide) ?_
    refine lv_irem hx hb dX0_addNumber_15 (by decide) ?_
    refine lv_iadd hx hb dX0_addNumber_16 ?_
    refine lv_i2c hx hb dX0_addNumber_17 rfl ?_
    obtain ⟨q3, hq3, h⟩ := bi_el h
    refine zcVi (As := [.int ((((nI 48) + ((a1 / (nI 10)) - (a1 / (nI 10)) / (nI 10) * (nI 10))).toUInt32 % 65536).toInt32)]) cx hI (c_Le_add hc (zset_s _ _ _) hq3 (zset_ss _ _ _ _)) mt_yX0_add mv_yX0_add w_744 (by omega) (k0_0 hc) (zv0 hc) rfl hl.1 rfl (Nat.le_of_ble_eq_true rfl) dX0_addNumber_18 (fun H locs hI => ?_)
    refine lv_pop hx hb dX0_addNumber_21 rfl ?_
    exact t_Le_addNumber_22 hc hn cx hret q3.2 a1 h hI hl
def f_Le_at_22 (n : Nat) (S : zOb)  (s0 : Int32) : Option Int32 :=
  if (nI 0 ≤ s0 ∧ s0 < nI 65536) then some s0 else none
set_option maxHeartbeats 4000000 in
set_option maxRecDepth 100000 in
theorem t_Le_at_22  {p : Program} {l : Launch} {e : Env} {s : State} {m : MethodId} {args : Array Value} {below : List Frame} {meth : Method} {c : Code} {Q : State → Prop} {G : zG} {μ : zM} {o : Nat} (hc : zc o = 0) {n : Nat} (hn : n = zlen o) {S : zOb} (hS : μ o = S) {out : Int32} (cx : zCX p (zrm 0) s m args c RX0 cX0_at 2 0 G) (hret : zRi p l e (zrm 0) s m args below meth c cX0_at G .char Q out μ)   : ∀ (s0 : Int32), f_Le_at_22 n S s0 = some out → ∀ {H : Heap} {locs : List Loc} {ls : Array Slot}, zIW G s μ H locs → lv_has ls 2 [] → W p l e (zrm 0) s m args below meth c H locs 0 0 Q (F0 m 22 ls [.int s0]) := by
  obtain ⟨hx, hb, hml, hown, hts, hK, hR⟩ := id cx
  subst hn
  have hn : zlen o = zlen o := rfl
  intro s0  h H locs ls hI hl
  unfold f_Le_at_22 at h
  obtain ⟨g2, h⟩ := gd_el h
  obtain rfl := Option.some.inj h
  exact hret _ _ _ _ dX0_at_22 (zchar g2) hI
def f_Le_at_21 (n : Nat) (S : zOb)   : Option Int32 :=
  f_Le_at_22 n S (nI 0)
set_option maxHeartbeats 4000000 in
set_option maxRecDepth 100000 in
theorem t_Le_at_21  {p : Program} {l : Launch} {e : Env} {s : State} {m : MethodId} {args : Array Value} {below : List Frame} {meth : Method} {c : Code} {Q : State → Prop} {G : zG} {μ : zM} {o : Nat} (hc : zc o = 0) {n : Nat} (hn : n = zlen o) {S : zOb} (hS : μ o = S) {out : Int32} (cx : zCX p (zrm 0) s m args c RX0 cX0_at 2 0 G) (hret : zRi p l e (zrm 0) s m args below meth c cX0_at G .char Q out μ)   : f_Le_at_21 n S  = some out → ∀ {H : Heap} {locs : List Loc} {ls : Array Slot}, zIW G s μ H locs → lv_has ls 2 [] → W p l e (zrm 0) s m args below meth c H locs 0 0 Q (F0 m 21 ls []) := by
  obtain ⟨hx, hb, hml, hown, hts, hK, hR⟩ := id cx
  subst hn
  have hn : zlen o = zlen o := rfl
  intro   h H locs ls hI hl
  unfold f_Le_at_21 at h
  refine lv_iconst (v := (nI 0)) hx hb dX0_at_21 (by decide) ?_
  exact t_Le_at_22 hc hn hS cx hret (nI 0) h hI hl
def f_Le_at (n : Nat) (S : zOb) (a1 : Int32) : Option Int32 :=
  (if a1 < nI 0 then f_Le_at_21 n S else (if (S.1 0 1) ≤ a1 then f_Le_at_21 n S else if zin a1 n then f_Le_at_22 n S (S.1 1 a1.toNatClampNeg) else none))
set_option maxHeartbeats 4000000 in
set_option maxRecDepth 100000 in
theorem c_Le_at {l : Launch} {G : zG} {μ : zM} {o : Nat} (hc : zc o = 0) {S : zOb} (hS : μ o = S) {a1 : Int32} {out : Int32} (h : f_Le_at (zlen o) S a1 = some out) : zMI l G yX0_at cX0_at 2 (some .char) 0 [.ref (G.2.2.1 o 0), .int a1] μ out μ := by
  refine zMI.of (by decide) (Nat.le_of_ble_eq_true rfl) (fun p e s m args below meth c Q ls cx hI hl hret => ?_)
  obtain ⟨hx, hb, hml, hown, hts, hK, hR⟩ := id cx
  have hl : lv_has ls 2 [(0, .ref (G.2.2.1 o 0)), (1, .int a1)] := hl
  have hn : zlen o = zlen o := rfl
  unfold f_Le_at at h
  refine lv_iload_n hx hb dX0_at_0 rfl (lv_at hl 1 rfl) ?_
  refine lv_if_lt (tgt := 21) hx hb dX0_at_1 (by decide) (fun c1 => ?_) (fun c1 => ?_)
  · have h := it_p h c1
    exact t_Le_at_21 hc hn hS cx hret  h hI (lv_sub hl [] rfl)
  · have h := it_n h c1
    refine lv_iload_n hx hb dX0_at_4 rfl (lv_at hl 1 rfl) ?_
    refine lv_aload_n hx hb dX0_at_5 rfl (lv_at hl 0 rfl) ?_
    refine g0_1 cx hI hc hS w_739 dX0_at_6 ?_
    refine lv_icmp_ge (tgt := 21) hx hb dX0_at_9 (by decide) (fun c3 => ?_) (fun c3 => ?_)
    · have h := it_p h c3
      exact t_Le_at_21 hc hn hS cx hret  h hI (lv_sub hl [] rfl)
    · have h := it_n h c3
      refine lv_aload_n hx hb dX0_at_12 rfl (lv_at hl 0 rfl) ?_
      refine g0_0 cx hI hc hS w_73 dX0_at_13 ?_
      refine lv_iload_n hx hb dX0_at_16 rfl (lv_at hl 1 rfl) ?_
      obtain ⟨g4, h⟩ := gd_el h
      refine zr_cald cx hI (k0_1 hc) hS (z0_1 hc) rfl g4 dX0_at_17 ?_
      refine lv_goto (tgt := 22) hx hb dX0_at_18 (by decide) ?_
      exact t_Le_at_22 hc hn hS cx hret (S.1 1 a1.toNatClampNeg) h hI (lv_sub hl [] rfl)
def f_Rd_factor (a0 : Int32) (a1 : Int32) : Option Int32 :=
  (if a0 = (nI 1) then some a1 else if a0 = (nI 2) then some ((nI 1) <<< ((a1 - (nI 1)) &&& 31)) else some (nI 1))
set_option maxHeartbeats 4000000 in
set_option maxRecDepth 100000 in
theorem c_Rd_factor {l : Launch} {G : zG} {μ : zM}  {a0 : Int32} {a1 : Int32} {out : Int32} (h : f_Rd_factor a0 a1 = some out) : zMI l G yX3_factor cX3_factor 2 (some .int) 0 [.int a0, .int a1] μ out μ := by
  refine zMI.of (by decide) (Nat.le_of_ble_eq_true rfl) (fun p e s m args below meth c Q ls cx hI hl hret => ?_)
  obtain ⟨hx, hb, hml, hown, hts, hK, hR⟩ := id cx
  have hl : lv_has ls 2 [(0, .int a0), (1, .int a1)] := hl
  unfold f_Rd_factor at h
  refine lv_iload_n hx hb dX3_factor_0 rfl (lv_at hl 0 rfl) ?_
  by_cases c1 : a0 = (nI 1)
  · have h := it_p h c1
    refine lv_lookup (off := 27) (tgt := 28) hx hb dX3_factor_1 (by decide) (by rw [c1]; rfl) (by decide) ?_
    refine lv_iload_n hx hb dX3_factor_28 rfl (lv_at hl 1 rfl) ?_
    obtain rfl := Option.some.inj h
    exact hret _ _ _ _ dX3_factor_29 rfl hI
  · have h := it_n h c1
    by_cases c2 : a0 = (nI 2)
    · have h := it_p h c2
      refine lv_lookup (off := 29) (tgt := 30) hx hb dX3_factor_1 (by decide) (by rw [c2]; rfl) (by decide) ?_
      refine lv_iconst (v := (nI 1)) hx hb dX3_factor_30 (by decide) ?_
      refine lv_iload_n hx hb dX3_factor_31 rfl (lv_at hl 1 rfl) ?_
      refine lv_iconst (v := (nI 1)) hx hb dX3_factor_32 (by decide) ?_
      refine lv_isub hx hb dX3_factor_33 ?_
      refine lv_ishl hx hb dX3_factor_34 ?_
      obtain rfl := Option.some.inj h
      exact hret _ _ _ _ dX3_factor_35 rfl hI
    · have h := it_n h c2
      refine lv_lookup (off := 35) (tgt := 36) hx hb dX3_factor_1 (by decide) (by have tc1 := tn c1 (i := 1) rfl; have tc2 := tn c2 (i := 2) rfl; generalize (a0).toInt = z at tc1 tc2 ⊢; simp [Op.lookupswitch.offset, tc1, Ne.symm tc1, tc2, Ne.symm tc2]) (by decide) ?_
      refine lv_iconst (v := (nI 1)) hx hb dX3_factor_36 (by decide) ?_
      obtain rfl := Option.some.inj h
      exact hret _ _ _ _ dX3_factor_37 rfl hI
def f_Rd_begin_10 (N : Nat) (S2 : zOb)  : Nat → zOb → Int32 → Option zOb
  | 0, _, _ => none
  | n + 1, S, x2 => (if (nI 9) < x2 then some S else (f_Rd_factor (S2.1 0 7) x2).bind (fun q3 => if zin x2 10 then bnd (zI S 1 x2.toNatClampNeg ((S2.1 0 5) * q3)) (fun Z5 => bnd (x2 + (nI 1)) (fun v6 => f_Rd_begin_10 N S2 n Z5 v6)) else none))
set_option maxHeartbeats 4000000 in
set_option maxRecDepth 100000 in
theorem t_Rd_begin_10 (N : Nat) {p : Program} {l : Launch} {e : Env} {s : State} {m : MethodId} {args : Array Value} {below : List Frame} {meth : Method} {c : Code} {Q : State → Prop} {G : zG} {μ : zM} {o : Nat} (hc : zc o = 3) {o2 : Nat} {S2 : zOb} (hc2 : zc o2 = 6) (hS2 : μ o2 = S2) (hne2 : o2 ≠ o) {out : zOb} (cx : zCX p (zrm 1) s m args c RX3 cX3_begin 3 1 G) (hret : zRv p l e (zrm 1) s m args below meth c cX3_begin G Q (zset μ o out))   : ∀ (n : Nat) (S : zOb) (x2 : Int32), f_Rd_begin_10 N S2 n S x2 = some out → ∀ {H : Heap} {locs : List Loc} {ls : Array Slot}, zIW G s (zset μ o S) H locs → lv_has ls 3 [(0, .ref (G.2.2.1 o 0)), (1, .ref (G.2.2.1 o2 0)), (2, .int x2)] → W p l e (zrm 1) s m args below meth c H locs 0 0 Q (F0 m 10 ls []) := by
  obtain ⟨hx, hb, hml, hown, hts, hK, hR⟩ := id cx
  intro n
  induction n with
  | zero =>
    intro S x2  h
    cases h
  | succ n ih =>
    intro S x2  h H locs ls hI hl
    rw [f_Rd_begin_10] at h
    refine lv_iload_n hx hb dX3_begin_10 rfl (lv_at hl 2 rfl) ?_
    refine lv_bipush (v := (nI 9)) hx hb dX3_begin_11 (by decide) ?_
    refine lv_icmp_gt (tgt := 41) hx hb dX3_begin_13 (by decide) (fun c2 => ?_) (fun c2 => ?_)
    · have h := it_p h c2
      obtain rfl := Option.some.inj h
      exact hret _ _ _ _ dX3_begin_41 hI
    · have h := it_n h c2
      refine lv_aload_n hx hb dX3_begin_16 rfl (lv_at hl 0 rfl) ?_
      refine g3_0 cx hI hc (zset_s _ _ _) w_78 dX3_begin_17 ?_
      refine lv_iload_n hx hb dX3_begin_20 rfl (lv_at hl 2 rfl) ?_
      refine lv_aload_n hx hb dX3_begin_21 rfl (lv_at hl 1 rfl) ?_
      refine g6_5 cx hI hc2 ((zset_n _ _ hne2).trans hS2) w_372 dX3_begin_22 ?_
      refine lv_aload_n hx hb dX3_begin_25 rfl (lv_at hl 1 rfl) ?_
      refine g6_7 cx hI hc2 ((zset_n _ _ hne2).trans hS2) w_373 dX3_begin_26 ?_
      refine lv_iload_n hx hb dX3_begin_29 rfl (lv_at hl 2 rfl) ?_
      obtain ⟨q3, hq3, h⟩ := bi_el h
      refine zcSi (As := [.int (S2.1 0 7), .int x2]) cx hI (c_Rd_factor  hq3) mt_yX3_factor ms_yX3_factor w_374 (by omega) rfl hl.1 rfl (Nat.le_of_ble_eq_true rfl) dX3_begin_30 (fun H locs hI => ?_)
      refine lv_imul hx hb dX3_begin_33 ?_
      obtain ⟨g4, h⟩ := gd_el h
      obtain ⟨Z5, eZ5⟩ : ∃ z : zOb, z = zI S 1 x2.toNatClampNeg ((S2.1 0 5) * q3) := ⟨_, rfl⟩
      have h := bnd_el h eZ5
      refine zr_iast cx hI (k3_1 hc) (zset_s _ _ _) (z3_1 hc) rfl g4 (zss eZ5) dX3_begin_34 (fun H locs hI => ?_)
      obtain ⟨v6, ev6⟩ : ∃ z : Int32, z = x2 + (nI 1) := ⟨_, rfl⟩
      have h := bnd_el h ev6
      refine lv_iinc (v := v6) (lv' := [(2, .int v6), (0, .ref (G.2.2.1 o 0)), (1, .ref (G.2.2.1 o2 0))]) hx hb dX3_begin_35 hl (k := 2) rfl (by rw [ev6]; rfl) (by decide) rfl (fun ls hl => ?_)
      refine lv_goto (tgt := 10) hx hb dX3_begin_38 (by decide) ?_
      exact ih Z5 v6 h hI (lv_sub hl [1, 2, 0] rfl)
def f_Rd_begin (N : Nat) (S : zOb) (S2 : zOb) : Option zOb :=
  bnd (zI S 0 5 (S2.1 0 3)) (fun Z1 => f_Rd_begin_10 N S2 N Z1 (nI 1))
set_option maxHeartbeats 4000000 in
set_option maxRecDepth 100000 in
theorem c_Rd_begin (N : Nat) {l : Launch} {G : zG} {μ : zM} {o : Nat} (hc : zc o = 3) {S : zOb} (hS : μ o = S) {o2 : Nat} {S2 : zOb} (hc2 : zc o2 = 6) (hS2 : μ o2 = S2) (hne2 : o2 ≠ o)  {out : zOb} (h : f_Rd_begin N S S2  = some out) {μ' : zM} (hμ : zset μ o out = μ') : zMV l G yX3_begin cX3_begin 3 none 1 [.ref (G.2.2.1 o 0), .ref (G.2.2.1 o2 0)] μ μ' := by
  subst hμ
  refine zMV.of (by decide) (Nat.le_of_ble_eq_true rfl) (fun p e s m args below meth c Q ls cx hI hl hret => ?_)
  obtain ⟨hx, hb, hml, hown, hts, hK, hR⟩ := id cx
  have hl : lv_has ls 3 [(0, .ref (G.2.2.1 o 0)), (1, .ref (G.2.2.1 o2 0))] := hl
  rw [← zset_idS hS] at hI
  unfold f_Rd_begin at h
  refine lv_aload_n hx hb dX3_begin_0 rfl (lv_at hl 0 rfl) ?_
  refine lv_aload_n hx hb dX3_begin_1 rfl (lv_at hl 1 rfl) ?_
  refine g6_3 cx hI hc2 ((zset_n _ _ hne2).trans hS2) w_370 dX3_begin_2 ?_
  obtain ⟨Z1, eZ1⟩ : ∃ z : zOb, z = zI S 0 5 (S2.1 0 3) := ⟨_, rfl⟩
  have h := bnd_el h eZ1
  refine p3_5 cx hI hc (zset_s _ _ _) w_371 (zss eZ1) dX3_begin_5 (fun H locs hI => ?_)
  refine lv_iconst (v := (nI 1)) hx hb dX3_begin_8 (by decide) ?_
  refine lv_istore_n (lv' := [(2, .int (nI 1)), (0, .ref (G.2.2.1 o 0)), (1, .ref (G.2.2.1 o2 0))]) hx hb dX3_begin_9 rfl hl (by decide) rfl (fun ls hl => ?_)
  exact t_Rd_begin_10 N hc hc2 hS2 hne2 cx hret N Z1 (nI 1) h hI (lv_sub hl [1, 2, 0] rfl)
def f_Rd_knownAhead_34 (S : zOb)  (s0 : Int32) : Option Int32 :=
  some s0
set_option maxHeartbeats 4000000 in
set_option maxRecDepth 100000 in
theorem t_Rd_knownAhead_34  {p : Program} {l : Launch} {e : Env} {s : State} {m : MethodId} {args : Array Value} {below : List Frame} {meth : Method} {c : Code} {Q : State → Prop} {G : zG} {μ : zM} {o : Nat} (hc : zc o = 3) {S : zOb} (hS : μ o = S) {out : Int32} (cx : zCX p (zrm 0) s m args c RX3 cX3_knownAhead 2 0 G) (hret : zRi p l e (zrm 0) s m args below meth c cX3_knownAhead G .int Q out μ)   : ∀ (s0 : Int32), f_Rd_knownAhead_34 S s0 = some out → ∀ {H : Heap} {locs : List Loc} {ls : Array Slot}, zIW G s μ H locs → lv_has ls 2 [] → W p l e (zrm 0) s m args below meth c H locs 0 0 Q (F0 m 34 ls [.int s0]) := by
  obtain ⟨hx, hb, hml, hown, hts, hK, hR⟩ := id cx
  intro s0  h H locs ls hI hl
  unfold f_Rd_knownAhead_34 at h
  obtain rfl := Option.some.inj h
  exact hret _ _ _ _ dX3_knownAhead_34 rfl hI
def f_Rd_knownAhead_10 (S : zOb)   : Option Int32 :=
  f_Rd_knownAhead_34 S (nI 0)
set_option maxHeartbeats 4000000 in
set_option maxRecDepth 100000 in
theorem t_Rd_knownAhead_10  {p : Program} {l : Launch} {e : Env} {s : State} {m : MethodId} {args : Array Value} {below : List Frame} {meth : Method} {c : Code} {Q : State → Prop} {G : zG} {μ : zM} {o : Nat} (hc : zc o = 3) {S : zOb} (hS : μ o = S) {out : Int32} (cx : zCX p (zrm 0) s m args c RX3 cX3_knownAhead 2 0 G) (hret : zRi p l e (zrm 0) s m args below meth c cX3_knownAhead G .int Q out μ)   : f_Rd_knownAhead_10 S  = some out → ∀ {H : Heap} {locs : List Loc} {ls : Array Slot}, zIW G s μ H locs → lv_has ls 2 [] → W p l e (zrm 0) s m args below meth c H locs 0 0 Q (F0 m 10 ls []) := by
  obtain ⟨hx, hb, hml, hown, hts, hK, hR⟩ := id cx
  intro   h H locs ls hI hl
  unfold f_Rd_knownAhead_10 at h
  refine lv_iconst (v := (nI 0)) hx hb dX3_knownAhead_10 (by decide) ?_
  refine lv_goto (tgt := 34) hx hb dX3_knownAhead_11 (by decide) ?_
  exact t_Rd_knownAhead_34 hc hS cx hret (nI 0) h hI hl
def f_Rd_knownAhead (S : zOb) (a1 : Int32) : Option Int32 :=
  (if a1 < nI 0 then f_Rd_knownAhead_10 S else (if a1 ≤ (nI 7) then if zin a1 8 then if zin a1 8 then if zin a1 8 then f_Rd_knownAhead_34 S (((S.1 2 a1.toNatClampNeg) ||| (S.1 3 a1.toNatClampNeg)) ||| (S.1 4 a1.toNatClampNeg)) else none else none else none else f_Rd_knownAhead_10 S))
set_option maxHeartbeats 4000000 in
set_option maxRecDepth 100000 in
theorem c_Rd_knownAhead {l : Launch} {G : zG} {μ : zM} {o : Nat} (hc : zc o = 3) {S : zOb} (hS : μ o = S) {a1 : Int32} {out : Int32} (h : f_Rd_knownAhead S a1 = some out) : zMI l G yX3_knownAhead cX3_knownAhead 2 (some .int) 0 [.ref (G.2.2.1 o 0), .int a1] μ out μ := by
  refine zMI.of (by decide) (Nat.le_of_ble_eq_true rfl) (fun p e s m args below meth c Q ls cx hI hl hret => ?_)
  obtain ⟨hx, hb, hml, hown, hts, hK, hR⟩ := id cx
  have hl : lv_has ls 2 [(0, .ref (G.2.2.1 o 0)), (1, .int a1)] := hl
  unfold f_Rd_knownAhead at h
  refine lv_iload_n hx hb dX3_knownAhead_0 rfl (lv_at hl 1 rfl) ?_
  refine lv_if_lt (tgt := 10) hx hb dX3_knownAhead_1 (by decide) (fun c1 => ?_) (fun c1 => ?_)
  · have h := it_p h c1
    exact t_Rd_knownAhead_10 hc hS cx hret  h hI (lv_sub hl [] rfl)
  · have h := it_n h c1
    refine lv_iload_n hx hb dX3_knownAhead_4 rfl (lv_at hl 1 rfl) ?_
    refine lv_bipush (v := (nI 7)) hx hb dX3_knownAhead_5 (by decide) ?_
    refine lv_icmp_le (tgt := 14) hx hb dX3_knownAhead_7 (by decide) (fun c2 => ?_) (fun c2 => ?_)
    · have h := it_p h c2
      refine lv_aload_n hx hb dX3_knownAhead_14 rfl (lv_at hl 0 rfl) ?_
      refine g3_1 cx hI hc hS w_79 dX3_knownAhead_15 ?_
      refine lv_iload_n hx hb dX3_knownAhead_18 rfl (lv_at hl 1 rfl) ?_
      obtain ⟨g3, h⟩ := gd_el h
      refine zr_iald cx hI (k3_2 hc) hS (z3_2 hc) rfl g3 dX3_knownAhead_19 ?_
      refine lv_aload_n hx hb dX3_knownAhead_20 rfl (lv_at hl 0 rfl) ?_
      refine g3_2 cx hI hc hS w_80 dX3_knownAhead_21 ?_
      refine lv_iload_n hx hb dX3_knownAhead_24 rfl (lv_at hl 1 rfl) ?_
      obtain ⟨g4, h⟩ := gd_el h
      refine zr_iald cx hI (k3_3 hc) hS (z3_3 hc) rfl g4 dX3_knownAhead_25 ?_
      refine lv_ior hx hb dX3_knownAhead_26 ?_
      refine lv_aload_n hx hb dX3_knownAhead_27 rfl (lv_at hl 0 rfl) ?_
      refine g3_3 cx hI hc hS w_81 dX3_knownAhead_28 ?_
      refine lv_iload_n hx hb dX3_knownAhead_31 rfl (lv_at hl 1 rfl) ?_
      obtain ⟨g5, h⟩ := gd_el h
      refine zr_iald cx hI (k3_4 hc) hS (z3_4 hc) rfl g5 dX3_knownAhead_32 ?_
      refine lv_ior hx hb dX3_knownAhead_33 ?_
      exact t_Rd_knownAhead_34 hc hS cx hret (((S.1 2 a1.toNatClampNeg) ||| (S.1 3 a1.toNatClampNeg)) ||| (S.1 4 a1.toNatClampNeg)) h hI (lv_sub hl [] rfl)
    · have h := it_n h c2
      exact t_Rd_knownAhead_10 hc hS cx hret  h hI (lv_sub hl [] rfl)
def f_Rd_ofStrength_40  (s0 : Int32) (s1 : Int32) : Option Int32 :=
  some (s1 &&& s0)
set_option maxHeartbeats 4000000 in
set_option maxRecDepth 100000 in
theorem t_Rd_ofStrength_40  {p : Program} {l : Launch} {e : Env} {s : State} {m : MethodId} {args : Array Value} {below : List Frame} {meth : Method} {c : Code} {Q : State → Prop} {G : zG} {μ : zM}  {out : Int32} (cx : zCX p (zrm 0) s m args c RX3 cX3_ofStrength 4 0 G) (hret : zRi p l e (zrm 0) s m args below meth c cX3_ofStrength G .int Q out μ)   : ∀ (s0 : Int32) (s1 : Int32), f_Rd_ofStrength_40 s0 s1 = some out → ∀ {H : Heap} {locs : List Loc} {ls : Array Slot}, zIW G s μ H locs → lv_has ls 4 [] → W p l e (zrm 0) s m args below meth c H locs 0 0 Q (F0 m 40 ls [.int s0, .int s1]) := by
  obtain ⟨hx, hb, hml, hown, hts, hK, hR⟩ := id cx
  intro s0 s1  h H locs ls hI hl
  unfold f_Rd_ofStrength_40 at h
  refine lv_iand hx hb dX3_ofStrength_40 ?_
  obtain rfl := Option.some.inj h
  exact hret _ _ _ _ dX3_ofStrength_41 rfl hI
def f_Rd_ofStrength_26  (x0 : Int32) (x3 : Int32) (s0 : Int32) (s1 : Int32) : Option Int32 :=
  (if (x0 &&& (nI 4)) = nI 0 then f_Rd_ofStrength_40 (x3 ^^^ (-1 : Int32)) (s1 &&& s0) else f_Rd_ofStrength_40 x3 (s1 &&& s0))
set_option maxHeartbeats 4000000 in
set_option maxRecDepth 100000 in
theorem t_Rd_ofStrength_26  {p : Program} {l : Launch} {e : Env} {s : State} {m : MethodId} {args : Array Value} {below : List Frame} {meth : Method} {c : Code} {Q : State → Prop} {G : zG} {μ : zM}  {out : Int32} (cx : zCX p (zrm 0) s m args c RX3 cX3_ofStrength 4 0 G) (hret : zRi p l e (zrm 0) s m args below meth c cX3_ofStrength G .int Q out μ)   : ∀ (x0 : Int32) (x3 : Int32) (s0 : Int32) (s1 : Int32), f_Rd_ofStrength_26 x0 x3 s0 s1 = some out → ∀ {H : Heap} {locs : List Loc} {ls : Array Slot}, zIW G s μ H locs → lv_has ls 4 [(0, .int x0), (3, .int x3)] → W p l e (zrm 0) s m args below meth c H locs 0 0 Q (F0 m 26 ls [.int s0, .int s1]) := by
  obtain ⟨hx, hb, hml, hown, hts, hK, hR⟩ := id cx
  intro x0 x3 s0 s1  h H locs ls hI hl
  unfold f_Rd_ofStrength_26 at h
  refine lv_iand hx hb dX3_ofStrength_26 ?_
  refine lv_iload_n hx hb dX3_ofStrength_27 rfl (lv_at hl 0 rfl) ?_
  refine lv_iconst (v := (nI 4)) hx hb dX3_ofStrength_28 (by decide) ?_
  refine lv_iand hx hb dX3_ofStrength_29 ?_
  refine lv_if_eq (tgt := 37) hx hb dX3_ofStrength_30 (by decide) (fun c3 => ?_) (fun c3 => ?_)
  · have h := it_p h c3
    refine lv_iload_n hx hb dX3_ofStrength_37 rfl (lv_at hl 1 rfl) ?_
    refine lv_iconst (v := (-1 : Int32)) hx hb dX3_ofStrength_38 (by decide) ?_
    refine lv_ixor hx hb dX3_ofStrength_39 ?_
    exact t_Rd_ofStrength_40  cx hret (x3 ^^^ (-1 : Int32)) (s1 &&& s0) h hI (lv_sub hl [] rfl)
  · have h := it_n h c3
    refine lv_iload_n hx hb dX3_ofStrength_33 rfl (lv_at hl 1 rfl) ?_
    refine lv_goto (tgt := 40) hx hb dX3_ofStrength_34 (by decide) ?_
    exact t_Rd_ofStrength_40  cx hret x3 (s1 &&& s0) h hI (lv_sub hl [] rfl)
def f_Rd_ofStrength_13  (x0 : Int32) (x2 : Int32) (x3 : Int32) (s0 : Int32) : Option Int32 :=
  (if (x0 &&& (nI 2)) = nI 0 then f_Rd_ofStrength_26 x0 x3 (x2 ^^^ (-1 : Int32)) s0 else f_Rd_ofStrength_26 x0 x3 x2 s0)
set_option maxHeartbeats 4000000 in
set_option maxRecDepth 100000 in
theorem t_Rd_ofStrength_13  {p : Program} {l : Launch} {e : Env} {s : State} {m : MethodId} {args : Array Value} {below : List Frame} {meth : Method} {c : Code} {Q : State → Prop} {G : zG} {μ : zM}  {out : Int32} (cx : zCX p (zrm 0) s m args c RX3 cX3_ofStrength 4 0 G) (hret : zRi p l e (zrm 0) s m args below meth c cX3_ofStrength G .int Q out μ)   : ∀ (x0 : Int32) (x2 : Int32) (x3 : Int32) (s0 : Int32), f_Rd_ofStrength_13 x0 x2 x3 s0 = some out → ∀ {H : Heap} {locs : List Loc} {ls : Array Slot}, zIW G s μ H locs → lv_has ls 4 [(0, .int x0), (2, .int x2), (3, .int x3)] → W p l e (zrm 0) s m args below meth c H locs 0 0 Q (F0 m 13 ls [.int s0]) := by
  obtain ⟨hx, hb, hml, hown, hts, hK, hR⟩ := id cx
  intro x0 x2 x3 s0  h H locs ls hI hl
  unfold f_Rd_ofStrength_13 at h
  refine lv_iload_n hx hb dX3_ofStrength_13 rfl (lv_at hl 0 rfl) ?_
  refine lv_iconst (v := (nI 2)) hx hb dX3_ofStrength_14 (by decide) ?_
  refine lv_iand hx hb dX3_ofStrength_15 ?_
  refine lv_if_eq (tgt := 23) hx hb dX3_ofStrength_16 (by decide) (fun c2 => ?_) (fun c2 => ?_)
  · have h := it_p h c2
    refine lv_iload_n hx hb dX3_ofStrength_23 rfl (lv_at hl 1 rfl) ?_
    refine lv_iconst (v := (-1 : Int32)) hx hb dX3_ofStrength_24 (by decide) ?_
    refine lv_ixor hx hb dX3_ofStrength_25 ?_
    exact t_Rd_ofStrength_26  cx hret x0 x3 (x2 ^^^ (-1 : Int32)) s0 h hI (lv_sub hl [0, 2] rfl)
  · have h := it_n h c2
    refine lv_iload_n hx hb dX3_ofStrength_19 rfl (lv_at hl 1 rfl) ?_
    refine lv_goto (tgt := 26) hx hb dX3_ofStrength_20 (by decide) ?_
    exact t_Rd_ofStrength_26  cx hret x0 x3 x2 s0 h hI (lv_sub hl [0, 2] rfl)
def f_Rd_ofStrength (a0 : Int32) (a1 : Int32) (a2 : Int32) (a3 : Int32) : Option Int32 :=
  (if (a0 &&& (nI 1)) = nI 0 then f_Rd_ofStrength_13 a0 a2 a3 (a1 ^^^ (-1 : Int32)) else f_Rd_ofStrength_13 a0 a2 a3 a1)
set_option maxHeartbeats 4000000 in
set_option maxRecDepth 100000 in
theorem c_Rd_ofStrength {l : Launch} {G : zG} {μ : zM}  {a0 : Int32} {a1 : Int32} {a2 : Int32} {a3 : Int32} {out : Int32} (h : f_Rd_ofStrength a0 a1 a2 a3 = some out) : zMI l G yX3_ofStrength cX3_ofStrength 4 (some .int) 0 [.int a0, .int a1, .int a2, .int a3] μ out μ := by
  refine zMI.of (by decide) (Nat.le_of_ble_eq_true rfl) (fun p e s m args below meth c Q ls cx hI hl hret => ?_)
  obtain ⟨hx, hb, hml, hown, hts, hK, hR⟩ := id cx
  have hl : lv_has ls 4 [(0, .int a0), (1, .int a1), (2, .int a2), (3, .int a3)] := hl
  unfold f_Rd_ofStrength at h
  refine lv_iload_n hx hb dX3_ofStrength_0 rfl (lv_at hl 0 rfl) ?_
  refine lv_iconst (v := (nI 1)) hx hb dX3_ofStrength_1 (by decide) ?_
  refine lv_iand hx hb dX3_ofStrength_2 ?_
  refine lv_if_eq (tgt := 10) hx hb dX3_ofStrength_3 (by decide) (fun c1 => ?_) (fun c1 => ?_)
  · have h := it_p h c1
    refine lv_iload_n hx hb dX3_ofStrength_10 rfl (lv_at hl 1 rfl) ?_
    refine lv_iconst (v := (-1 : Int32)) hx hb dX3_ofStrength_11 (by decide) ?_
    refine lv_ixor hx hb dX3_ofStrength_12 ?_
    exact t_Rd_ofStrength_13  cx hret a0 a2 a3 (a1 ^^^ (-1 : Int32)) h hI (lv_sub hl [0, 2, 3] rfl)
  · have h := it_n h c1
    refine lv_iload_n hx hb dX3_ofStrength_6 rfl (lv_at hl 1 rfl) ?_
    refine lv_goto (tgt := 13) hx hb dX3_ofStrength_7 (by decide) ?_
    exact t_Rd_ofStrength_13  cx hret a0 a2 a3 a1 h hI (lv_sub hl [0, 2, 3] rfl)
def f_Rd_step_18 (N : Nat)  (S : zOb) : Option zOb :=
  some S
set_option maxHeartbeats 4000000 in
set_option maxRecDepth 100000 in
theorem t_Rd_step_18 (N : Nat) {p : Program} {l : Launch} {e : Env} {s : State} {m : MethodId} {args : Array Value} {below : List Frame} {meth : Method} {c : Code} {Q : State → Prop} {G : zG} {μ : zM} {o : Nat} (hc : zc o = 3) {out : zOb} (cx : zCX p (zrm 1) s m args c RX3 cX3_step 9 1 G) (hret : zRv p l e (zrm 1) s m args below meth c cX3_step G Q (zset μ o out))   : ∀ (S : zOb), f_Rd_step_18 N S = some out → ∀ {H : Heap} {locs : List Loc} {ls : Array Slot}, zIW G s (zset μ o S) H locs → lv_has ls 9 [] → W p l e (zrm 1) s m args below meth c H locs 0 0 Q (F0 m 18 ls []) := by
  obtain ⟨hx, hb, hml, hown, hts, hK, hR⟩ := id cx
  intro S  h H locs ls hI hl
  unfold f_Rd_step_18 at h
  obtain rfl := Option.some.inj h
  exact hret _ _ _ _ dX3_step_18 hI
def f_Rd_step_203 (N : Nat)  (S : zOb) (x1 : Int32) (x5 : Int32) (x6 : Int32) (x7 : Int32) : Option zOb :=
  if zin (x1 + (nI 1)) 8 then if zin x1 7 then if zin x1 7 then bnd (zI S 9 x1.toNatClampNeg (S.1 (10 + (x1 + (nI 1)).toNatClampNeg) x1.toNatClampNeg)) (fun Z23 => if zin x1 7 then if zin (x1 + (nI 1)) 8 then bnd (zI Z23 2 ((x1 + (nI 1)).toNatClampNeg) (x5 &&& ((Z23.1 9 x1.toNatClampNeg) ^^^ (-1 : Int32)))) (fun Z26 => if zin x1 7 then if zin (x1 + (nI 1)) 8 then bnd (zI Z26 3 ((x1 + (nI 1)).toNatClampNeg) (x6 &&& ((Z26.1 9 x1.toNatClampNeg) ^^^ (-1 : Int32)))) (fun Z29 => if zin x1 7 then if zin (x1 + (nI 1)) 8 then bnd (zI Z29 4 ((x1 + (nI 1)).toNatClampNeg) (x7 &&& ((Z29.1 9 x1.toNatClampNeg) ^^^ (-1 : Int32)))) (fun Z32 => some Z32) else none else none) else none else none) else none else none) else none else none else none
set_option maxHeartbeats 4000000 in
set_option maxRecDepth 100000 in
theorem t_Rd_step_203 (N : Nat) {p : Program} {l : Launch} {e : Env} {s : State} {m : MethodId} {args : Array Value} {below : List Frame} {meth : Method} {c : Code} {Q : State → Prop} {G : zG} {μ : zM} {o : Nat} (hc : zc o = 3) {out : zOb} (cx : zCX p (zrm 1) s m args c RX3 cX3_step 9 1 G) (hret : zRv p l e (zrm 1) s m args below meth c cX3_step G Q (zset μ o out))   : ∀ (S : zOb) (x1 : Int32) (x5 : Int32) (x6 : Int32) (x7 : Int32), f_Rd_step_203 N S x1 x5 x6 x7 = some out → ∀ {H : Heap} {locs : List Loc} {ls : Array Slot}, zIW G s (zset μ o S) H locs → lv_has ls 9 [(0, .ref (G.2.2.1 o 0)), (1, .int x1), (5, .int x5), (6, .int x6), (7, .int x7)] → W p l e (zrm 1) s m args below meth c H locs 0 0 Q (F0 m 203 ls []) := by
  obtain ⟨hx, hb, hml, hown, hts, hK, hR⟩ := id cx
  intro S x1 x5 x6 x7  h H locs ls hI hl
  unfold f_Rd_step_203 at h
  refine lv_aload_n hx hb dX3_step_203 rfl (lv_at hl 0 rfl) ?_
  refine g3_8 cx hI hc (zset_s _ _ _) w_86 dX3_step_204 ?_
  refine lv_iload_n hx hb dX3_step_207 rfl (lv_at hl 1 rfl) ?_
  refine lv_aload_n hx hb dX3_step_208 rfl (lv_at hl 0 rfl) ?_
  refine g3_4 cx hI hc (zset_s _ _ _) w_83 dX3_step_209 ?_
  refine lv_iload_n hx hb dX3_step_212 rfl (lv_at hl 1 rfl) ?_
  refine lv_iconst (v := (nI 1)) hx hb dX3_step_213 (by decide) ?_
  refine lv_iadd hx hb dX3_step_214 ?_
  obtain ⟨g20, h⟩ := gd_el h
  refine zr_gald (t0 := 5) (f := fun i => G.2.2.1 o (10 + i)) cx hI (k3_5 hc) (zset_s _ _ _) (z3_5 hc _) rfl rfl g20 dX3_step_215 ?_
  refine lv_iload_n hx hb dX3_step_216 rfl (lv_at hl 1 rfl) ?_
  obtain ⟨g21, h⟩ := gd_el h
  refine zr_iald cx hI (k3_d hc (zin_lt g20)) (zset_s _ _ _) (z3_d hc (zin_lt g20)) rfl g21 dX3_step_217 ?_
  obtain ⟨g22, h⟩ := gd_el h
  obtain ⟨Z23, eZ23⟩ : ∃ z : zOb, z = zI S 9 x1.toNatClampNeg (S.1 (10 + (x1 + (nI 1)).toNatClampNeg) x1.toNatClampNeg) := ⟨_, rfl⟩
  have h := bnd_el h eZ23
  refine zr_iast cx hI (k3_9 hc) (zset_s _ _ _) (z3_9 hc) rfl g22 (zss eZ23) dX3_step_218 (fun H locs hI => ?_)
  refine lv_aload_n hx hb dX3_step_219 rfl (lv_at hl 0 rfl) ?_
  refine g3_1 cx hI hc (zset_s _ _ _) w_79 dX3_step_220 ?_
  refine lv_iload_n hx hb dX3_step_223 rfl (lv_at hl 1 rfl) ?_
  refine lv_iconst (v := (nI 1)) hx hb dX3_step_224 (by decide) ?_
  refine lv_iadd hx hb dX3_step_225 ?_
  refine lv_iload hx hb dX3_step_226 (lv_at hl 2 rfl) ?_
  refine lv_aload_n hx hb dX3_step_228 rfl (lv_at hl 0 rfl) ?_
  refine g3_8 cx hI hc (zset_s _ _ _) w_86 dX3_step_229 ?_
  refine lv_iload_n hx hb dX3_step_232 rfl (lv_at hl 1 rfl) ?_
  obtain ⟨g24, h⟩ := gd_el h
  refine zr_iald cx hI (k3_9 hc) (zset_s _ _ _) (z3_9 hc) rfl g24 dX3_step_233 ?_
  refine lv_iconst (v := (-1 : Int32)) hx hb dX3_step_234 (by decide) ?_
  refine lv_ixor hx hb dX3_step_235 ?_
  refine lv_iand hx hb dX3_step_236 ?_
  obtain ⟨g25, h⟩ := gd_el h
  obtain ⟨Z26, eZ26⟩ : ∃ z : zOb, z = zI Z23 2 ((x1 + (nI 1)).toNatClampNeg) (x5 &&& ((Z23.1 9 x1.toNatClampNeg) ^^^ (-1 : Int32))) := ⟨_, rfl⟩
  have h := bnd_el h eZ26
  refine zr_iast cx hI (k3_2 hc) (zset_s _ _ _) (z3_2 hc) rfl g25 (zss eZ26) dX3_step_237 (fun H locs hI => ?_)
  refine lv_aload_n hx hb dX3_step_238 rfl (lv_at hl 0 rfl) ?_
  refine g3_2 cx hI hc (zset_s _ _ _) w_80 dX3_step_239 ?_
  refine lv_iload_n hx hb dX3_step_242 rfl (lv_at hl 1 rfl) ?_
  refine lv_iconst (v := (nI 1)) hx hb dX3_step_243 (by decide) ?_
  refine lv_iadd hx hb dX3_step_244 ?_
  refine lv_iload hx hb dX3_step_245 (lv_at hl 3 rfl) ?_
  refine lv_aload_n hx hb dX3_step_247 rfl (lv_at hl 0 rfl) ?_
  refine g3_8 cx hI hc (zset_s _ _ _) w_86 dX3_step_248 ?_
  refine lv_iload_n hx hb dX3_step_251 rfl (lv_at hl 1 rfl) ?_
  obtain ⟨g27, h⟩ := gd_el h
  refine zr_iald cx hI (k3_9 hc) (zset_s _ _ _) (z3_9 hc) rfl g27 dX3_step_252 ?_
  refine lv_iconst (v := (-1 : Int32)) hx hb dX3_step_253 (by decide) ?_
  refine lv_ixor hx hb dX3_step_254 ?_
  refine lv_iand hx hb dX3_step_255 ?_
  obtain ⟨g28, h⟩ := gd_el h
  obtain ⟨Z29, eZ29⟩ : ∃ z : zOb, z = zI Z26 3 ((x1 + (nI 1)).toNatClampNeg) (x6 &&& ((Z26.1 9 x1.toNatClampNeg) ^^^ (-1 : Int32))) := ⟨_, rfl⟩
  have h := bnd_el h eZ29
  refine zr_iast cx hI (k3_3 hc) (zset_s _ _ _) (z3_3 hc) rfl g28 (zss eZ29) dX3_step_256 (fun H locs hI => ?_)
  refine lv_aload_n hx hb dX3_step_257 rfl (lv_at hl 0 rfl) ?_
  refine g3_3 cx hI hc (zset_s _ _ _) w_81 dX3_step_258 ?_
  refine lv_iload_n hx hb dX3_step_261 rfl (lv_at hl 1 rfl) ?_
  refine lv_iconst (v := (nI 1)) hx hb dX3_step_262 (by decide) ?_
  refine lv_iadd hx hb dX3_step_263 ?_
  refine lv_iload hx hb dX3_step_264 (lv_at hl 4 rfl) ?_
  refine lv_aload_n hx hb dX3_step_266 rfl (lv_at hl 0 rfl) ?_
  refine g3_8 cx hI hc (zset_s _ _ _) w_86 dX3_step_267 ?_
  refine lv_iload_n hx hb dX3_step_270 rfl (lv_at hl 1 rfl) ?_
  obtain ⟨g30, h⟩ := gd_el h
  refine zr_iald cx hI (k3_9 hc) (zset_s _ _ _) (z3_9 hc) rfl g30 dX3_step_271 ?_
  refine lv_iconst (v := (-1 : Int32)) hx hb dX3_step_272 (by decide) ?_
  refine lv_ixor hx hb dX3_step_273 ?_
  refine lv_iand hx hb dX3_step_274 ?_
  obtain ⟨g31, h⟩ := gd_el h
  obtain ⟨Z32, eZ32⟩ : ∃ z : zOb, z = zI Z29 4 ((x1 + (nI 1)).toNatClampNeg) (x7 &&& ((Z29.1 9 x1.toNatClampNeg) ^^^ (-1 : Int32))) := ⟨_, rfl⟩
  have h := bnd_el h eZ32
  refine zr_iast cx hI (k3_4 hc) (zset_s _ _ _) (z3_4 hc) rfl g31 (zss eZ32) dX3_step_275 (fun H locs hI => ?_)
  obtain rfl := Option.some.inj h
  exact hret _ _ _ _ dX3_step_276 hI
def f_Rd_step_139 (N : Nat)  : Nat → zOb → Int32 → Int32 → Int32 → Int32 → Int32 → Int32 → Option zOb
  | 0, _, _, _, _, _, _, _ => none
  | n + 1, S, x1, x2, x5, x6, x7, x8 => (if (x1 + (nI 1)) < x8 then f_Rd_step_203 N S x1 x5 x6 x7 else if zin x8 10 then (if (S.1 0 5) ≤ (x1 + (S.1 1 x8.toNatClampNeg)) then f_Rd_step_203 N S x1 x5 x6 x7 else if zin (x1 + (nI 1)) 8 then if zin x8 10 then if zin (x1 + (S.1 1 x8.toNatClampNeg)) 7 then (f_Rd_ofStrength x8 x5 x6 x7).bind (fun q38 => if zin (x1 + (S.1 1 x8.toNatClampNeg)) 7 then bnd (zI S (10 + (x1 + (nI 1)).toNatClampNeg) ((x1 + (S.1 1 x8.toNatClampNeg)).toNatClampNeg) ((S.1 (10 + (x1 + (nI 1)).toNatClampNeg) ((x1 + (S.1 1 x8.toNatClampNeg)).toNatClampNeg)) ||| (x2 &&& q38))) (fun Z40 => bnd (x8 + (nI 1)) (fun v41 => f_Rd_step_139 N n Z40 x1 x2 x5 x6 x7 v41)) else none) else none else none else none) else none)
set_option maxHeartbeats 4000000 in
set_option maxRecDepth 100000 in
theorem t_Rd_step_139 (N : Nat) {p : Program} {l : Launch} {e : Env} {s : State} {m : MethodId} {args : Array Value} {below : List Frame} {meth : Method} {c : Code} {Q : State → Prop} {G : zG} {μ : zM} {o : Nat} (hc : zc o = 3) {out : zOb} (cx : zCX p (zrm 1) s m args c RX3 cX3_step 9 1 G) (hret : zRv p l e (zrm 1) s m args below meth c cX3_step G Q (zset μ o out))   : ∀ (n : Nat) (S : zOb) (x1 : Int32) (x2 : Int32) (x5 : Int32) (x6 : Int32) (x7 : Int32) (x8 : Int32), f_Rd_step_139 N n S x1 x2 x5 x6 x7 x8 = some out → ∀ {H : Heap} {locs : List Loc} {ls : Array Slot}, zIW G s (zset μ o S) H locs → lv_has ls 9 [(0, .ref (G.2.2.1 o 0)), (1, .int x1), (2, .int x2), (5, .int x5), (6, .int x6), (7, .int x7), (8, .int x8)] → W p l e (zrm 1) s m args below meth c H locs 0 0 Q (F0 m 139 ls []) := by
  obtain ⟨hx, hb, hml, hown, hts, hK, hR⟩ := id cx
  intro n
  induction n with
  | zero =>
    intro S x1 x2 x5 x6 x7 x8  h
    cases h
  | succ n ih =>
    intro S x1 x2 x5 x6 x7 x8  h H locs ls hI hl
    rw [f_Rd_step_139] at h
    refine lv_iload hx hb dX3_step_139 (lv_at hl 6 rfl) ?_
    refine lv_iload_n hx hb dX3_step_141 rfl (lv_at hl 1 rfl) ?_
    refine lv_iconst (v := (nI 1)) hx hb dX3_step_142 (by decide) ?_
    refine lv_iadd hx hb dX3_step_143 ?_
    refine lv_icmp_gt (tgt := 203) hx hb dX3_step_144 (by decide) (fun c19 => ?_) (fun c19 => ?_)
    · have h := it_p h c19
      exact t_Rd_step_203 N hc cx hret S x1 x5 x6 x7 h hI (lv_sub hl [0, 1, 3, 4, 5] rfl)
    · have h := it_n h c19
      refine lv_iload_n hx hb dX3_step_147 rfl (lv_at hl 1 rfl) ?_
      refine lv_aload_n hx hb dX3_step_148 rfl (lv_at hl 0 rfl) ?_
      refine g3_0 cx hI hc (zset_s _ _ _) w_78 dX3_step_149 ?_
      refine lv_iload hx hb dX3_step_152 (lv_at hl 6 rfl) ?_
      obtain ⟨g33, h⟩ := gd_el h
      refine zr_iald cx hI (k3_1 hc) (zset_s _ _ _) (z3_1 hc) rfl g33 dX3_step_154 ?_
      refine lv_iadd hx hb dX3_step_155 ?_
      refine lv_aload_n hx hb dX3_step_156 rfl (lv_at hl 0 rfl) ?_
      refine g3_5 cx hI hc (zset_s _ _ _) w_371 dX3_step_157 ?_
      refine lv_icmp_ge (tgt := 203) hx hb dX3_step_160 (by decide) (fun c34 => ?_) (fun c34 => ?_)
      · have h := it_p h c34
        exact t_Rd_step_203 N hc cx hret S x1 x5 x6 x7 h hI (lv_sub hl [0, 1, 3, 4, 5] rfl)
      · have h := it_n h c34
        refine lv_aload_n hx hb dX3_step_163 rfl (lv_at hl 0 rfl) ?_
        refine g3_4 cx hI hc (zset_s _ _ _) w_83 dX3_step_164 ?_
        refine lv_iload_n hx hb dX3_step_167 rfl (lv_at hl 1 rfl) ?_
        refine lv_iconst (v := (nI 1)) hx hb dX3_step_168 (by decide) ?_
        refine lv_iadd hx hb dX3_step_169 ?_
        obtain ⟨g35, h⟩ := gd_el h
        refine zr_gald (t0 := 5) (f := fun i => G.2.2.1 o (10 + i)) cx hI (k3_5 hc) (zset_s _ _ _) (z3_5 hc _) rfl rfl g35 dX3_step_170 ?_
        refine lv_iload_n hx hb dX3_step_171 rfl (lv_at hl 1 rfl) ?_
        refine lv_aload_n hx hb dX3_step_172 rfl (lv_at hl 0 rfl) ?_
        refine g3_0 cx hI hc (zset_s _ _ _) w_78 dX3_step_173 ?_
        refine lv_iload hx hb dX3_step_176 (lv_at hl 6 rfl) ?_
        obtain ⟨g36, h⟩ := gd_el h
        refine zr_iald cx hI (k3_1 hc) (zset_s _ _ _) (z3_1 hc) rfl g36 dX3_step_178 ?_
        refine lv_iadd hx hb dX3_step_179 ?_
        refine lv_dup2_11 hx hb dX3_step_180 rfl rfl ?_
        obtain ⟨g37, h⟩ := gd_el h
        refine zr_iald cx hI (k3_d hc (zin_lt g35)) (zset_s _ _ _) (z3_d hc (zin_lt g35)) rfl g37 dX3_step_181 ?_
        refine lv_iload_n hx hb dX3_step_182 rfl (lv_at hl 2 rfl) ?_
        refine lv_iload hx hb dX3_step_183 (lv_at hl 6 rfl) ?_
        refine lv_iload hx hb dX3_step_185 (lv_at hl 3 rfl) ?_
        refine lv_iload hx hb dX3_step_187 (lv_at hl 4 rfl) ?_
        refine lv_iload hx hb dX3_step_189 (lv_at hl 5 rfl) ?_
        obtain ⟨q38, hq38, h⟩ := bi_el h
        refine zcSi (As := [.int x8, .int x5, .int x6, .int x7]) cx hI (c_Rd_ofStrength  hq38) mt_yX3_ofStrength ms_yX3_ofStrength w_417 (by omega) rfl hl.1 rfl (Nat.le_of_ble_eq_true rfl) dX3_step_191 (fun H locs hI => ?_)
        refine lv_iand hx hb dX3_step_194 ?_
        refine lv_ior hx hb dX3_step_195 ?_
        obtain ⟨g39, h⟩ := gd_el h
        obtain ⟨Z40, eZ40⟩ : ∃ z : zOb, z = zI S (10 + (x1 + (nI 1)).toNatClampNeg) ((x1 + (S.1 1 x8.toNatClampNeg)).toNatClampNeg) ((S.1 (10 + (x1 + (nI 1)).toNatClampNeg) ((x1 + (S.1 1 x8.toNatClampNeg)).toNatClampNeg)) ||| (x2 &&& q38)) := ⟨_, rfl⟩
        have h := bnd_el h eZ40
        refine zr_iast cx hI (k3_d hc (zin_lt g35)) (zset_s _ _ _) (z3_d hc (zin_lt g35)) rfl g39 (zss eZ40) dX3_step_196 (fun H locs hI => ?_)
        obtain ⟨v41, ev41⟩ : ∃ z : Int32, z = x8 + (nI 1) := ⟨_, rfl⟩
        have h := bnd_el h ev41
        refine lv_iinc (v := v41) (lv' := [(8, .int v41), (0, .ref (G.2.2.1 o 0)), (1, .int x1), (2, .int x2), (5, .int x5), (6, .int x6), (7, .int x7)]) hx hb dX3_step_197 hl (k := 6) rfl (by rw [ev41]; rfl) (by decide) rfl (fun ls hl => ?_)
        refine lv_goto (tgt := 139) hx hb dX3_step_200 (by decide) ?_
        exact ih Z40 x1 x2 x5 x6 x7 v41 h hI (lv_sub hl [1, 2, 3, 4, 5, 6, 0] rfl)
def f_Rd_step_97 (N : Nat)  : Nat → zOb → Int32 → Int32 → Int32 → Int32 → Int32 → Int32 → Option zOb
  | 0, _, _, _, _, _, _, _ => none
  | n + 1, S, x1, x2, x5, x6, x7, x8 => (if (S.1 0 5) ≤ x8 then f_Rd_step_139 N N S x1 x2 x5 x6 x7 (nI 1) else if zin (x1 + (nI 1)) 8 then if zin x1 8 then if zin x8 7 then if zin x8 7 then bnd (zI S (10 + (x1 + (nI 1)).toNatClampNeg) x8.toNatClampNeg ((S.1 (10 + x1.toNatClampNeg) x8.toNatClampNeg) &&& (x2 ^^^ (-1 : Int32)))) (fun Z46 => bnd (x8 + (nI 1)) (fun v47 => f_Rd_step_97 N n Z46 x1 x2 x5 x6 x7 v47)) else none else none else none else none)
set_option maxHeartbeats 4000000 in
set_option maxRecDepth 100000 in
theorem t_Rd_step_97 (N : Nat) {p : Program} {l : Launch} {e : Env} {s : State} {m : MethodId} {args : Array Value} {below : List Frame} {meth : Method} {c : Code} {Q : State → Prop} {G : zG} {μ : zM} {o : Nat} (hc : zc o = 3) {out : zOb} (cx : zCX p (zrm 1) s m args c RX3 cX3_step 9 1 G) (hret : zRv p l e (zrm 1) s m args below meth c cX3_step G Q (zset μ o out))   : ∀ (n : Nat) (S : zOb) (x1 : Int32) (x2 : Int32) (x5 : Int32) (x6 : Int32) (x7 : Int32) (x8 : Int32), f_Rd_step_97 N n S x1 x2 x5 x6 x7 x8 = some out → ∀ {H : Heap} {locs : List Loc} {ls : Array Slot}, zIW G s (zset μ o S) H locs → lv_has ls 9 [(0, .ref (G.2.2.1 o 0)), (1, .int x1), (2, .int x2), (5, .int x5), (6, .int x6), (7, .int x7), (8, .int x8)] → W p l e (zrm 1) s m args below meth c H locs 0 0 Q (F0 m 97 ls []) := by
  obtain ⟨hx, hb, hml, hown, hts, hK, hR⟩ := id cx
  intro n
  induction n with
  | zero =>
    intro S x1 x2 x5 x6 x7 x8  h
    cases h
  | succ n ih =>
    intro S x1 x2 x5 x6 x7 x8  h H locs ls hI hl
    rw [f_Rd_step_97] at h
    refine lv_iload hx hb dX3_step_97 (lv_at hl 6 rfl) ?_
    refine lv_aload_n hx hb dX3_step_99 rfl (lv_at hl 0 rfl) ?_
    refine g3_5 cx hI hc (zset_s _ _ _) w_371 dX3_step_100 ?_
    refine lv_icmp_ge (tgt := 136) hx hb dX3_step_103 (by decide) (fun c18 => ?_) (fun c18 => ?_)
    · have h := it_p h c18
      refine lv_iconst (v := (nI 1)) hx hb dX3_step_136 (by decide) ?_
      refine lv_istore (lv' := [(8, .int (nI 1)), (0, .ref (G.2.2.1 o 0)), (1, .int x1), (2, .int x2), (5, .int x5), (6, .int x6), (7, .int x7)]) hx hb dX3_step_137 hl (by decide) rfl (fun ls hl => ?_)
      exact t_Rd_step_139 N hc cx hret N S x1 x2 x5 x6 x7 (nI 1) h hI (lv_sub hl [1, 2, 3, 4, 5, 6, 0] rfl)
    · have h := it_n h c18
      refine lv_aload_n hx hb dX3_step_106 rfl (lv_at hl 0 rfl) ?_
      refine g3_4 cx hI hc (zset_s _ _ _) w_83 dX3_step_107 ?_
      refine lv_iload_n hx hb dX3_step_110 rfl (lv_at hl 1 rfl) ?_
      refine lv_iconst (v := (nI 1)) hx hb dX3_step_111 (by decide) ?_
      refine lv_iadd hx hb dX3_step_112 ?_
      obtain ⟨g42, h⟩ := gd_el h
      refine zr_gald (t0 := 5) (f := fun i => G.2.2.1 o (10 + i)) cx hI (k3_5 hc) (zset_s _ _ _) (z3_5 hc _) rfl rfl g42 dX3_step_113 ?_
      refine lv_iload hx hb dX3_step_114 (lv_at hl 6 rfl) ?_
      refine lv_aload_n hx hb dX3_step_116 rfl (lv_at hl 0 rfl) ?_
      refine g3_4 cx hI hc (zset_s _ _ _) w_83 dX3_step_117 ?_
      refine lv_iload_n hx hb dX3_step_120 rfl (lv_at hl 1 rfl) ?_
      obtain ⟨g43, h⟩ := gd_el h
      refine zr_gald (t0 := 5) (f := fun i => G.2.2.1 o (10 + i)) cx hI (k3_5 hc) (zset_s _ _ _) (z3_5 hc _) rfl rfl g43 dX3_step_121 ?_
      refine lv_iload hx hb dX3_step_122 (lv_at hl 6 rfl) ?_
      obtain ⟨g44, h⟩ := gd_el h
      refine zr_iald cx hI (k3_d hc (zin_lt g43)) (zset_s _ _ _) (z3_d hc (zin_lt g43)) rfl g44 dX3_step_124 ?_
      refine lv_iload_n hx hb dX3_step_125 rfl (lv_at hl 2 rfl) ?_
      refine lv_iconst (v := (-1 : Int32)) hx hb dX3_step_126 (by decide) ?_
      refine lv_ixor hx hb dX3_step_127 ?_
      refine lv_iand hx hb dX3_step_128 ?_
      obtain ⟨g45, h⟩ := gd_el h
      obtain ⟨Z46, eZ46⟩ : ∃ z : zOb, z = zI S (10 + (x1 + (nI 1)).toNatClampNeg) x8.toNatClampNeg ((S.1 (10 + x1.toNatClampNeg) x8.toNatClampNeg) &&& (x2 ^^^ (-1 : Int32))) := ⟨_, rfl⟩
      have h := bnd_el h eZ46
      refine zr_iast cx hI (k3_d hc (zin_lt g42)) (zset_s _ _ _) (z3_d hc (zin_lt g42)) rfl g45 (zss eZ46) dX3_step_129 (fun H locs hI => ?_)
      obtain ⟨v47, ev47⟩ : ∃ z : Int32, z = x8 + (nI 1) := ⟨_, rfl⟩
      have h := bnd_el h ev47
      refine lv_iinc (v := v47) (lv' := [(8, .int v47), (0, .ref (G.2.2.1 o 0)), (1, .int x1), (2, .int x2), (5, .int x5), (6, .int x6), (7, .int x7)]) hx hb dX3_step_130 hl (k := 6) rfl (by rw [ev47]; rfl) (by decide) rfl (fun ls hl => ?_)
      refine lv_goto (tgt := 97) hx hb dX3_step_133 (by decide) ?_
      exact ih Z46 x1 x2 x5 x6 x7 v47 h hI (lv_sub hl [1, 2, 3, 4, 5, 6, 0] rfl)
def f_Rd_step (N : Nat) (S : zOb) (a1 : Int32) (a2 : Int32) : Option zOb :=
  (if a1 < nI 0 then f_Rd_step_18 N S else (if (S.1 0 5) ≤ a1 then f_Rd_step_18 N S else (if a1 < (nI 7) then (f_Rd_knownAhead S a1).bind (fun q4 => if zin a1 7 then bnd (zI S 7 a1.toNatClampNeg (a2 &&& (q4 ^^^ (-1 : Int32)))) (fun Z6 => if zin a1 7 then bnd (zI Z6 8 a1.toNatClampNeg (a2 &&& q4)) (fun Z8 => if zin a1 8 then bnd (a2 &&& (Z8.1 2 a1.toNatClampNeg)) (fun v10 => if zin a1 8 then bnd ((Z8.1 2 a1.toNatClampNeg) ^^^ a2) (fun v12 => if zin a1 8 then bnd ((Z8.1 3 a1.toNatClampNeg) ^^^ v10) (fun v14 => if zin a1 8 then if zin a1 8 then bnd ((Z8.1 4 a1.toNatClampNeg) ^^^ (v10 &&& (Z8.1 3 a1.toNatClampNeg))) (fun v17 => f_Rd_step_97 N N Z8 a1 a2 v12 v14 v17 a1) else none else none) else none) else none) else none) else none) else none) else f_Rd_step_18 N S)))
set_option maxHeartbeats 4000000 in
set_option maxRecDepth 100000 in
theorem c_Rd_step (N : Nat) {l : Launch} {G : zG} {μ : zM} {o : Nat} (hc : zc o = 3) {S : zOb} (hS : μ o = S) {a1 : Int32} {a2 : Int32} {out : zOb} (h : f_Rd_step N S a1 a2 = some out) {μ' : zM} (hμ : zset μ o out = μ') : zMV l G yX3_step cX3_step 9 none 1 [.ref (G.2.2.1 o 0), .int a1, .int a2] μ μ' := by
  subst hμ
  refine zMV.of (by decide) (Nat.le_of_ble_eq_true rfl) (fun p e s m args below meth c Q ls cx hI hl hret => ?_)
  obtain ⟨hx, hb, hml, hown, hts, hK, hR⟩ := id cx
  have hl : lv_has ls 9 [(0, .ref (G.2.2.1 o 0)), (1, .int a1), (2, .int a2)] := hl
  rw [← zset_idS hS] at hI
  unfold f_Rd_step at h
  refine lv_iload_n hx hb dX3_step_0 rfl (lv_at hl 1 rfl) ?_
  refine lv_if_lt (tgt := 18) hx hb dX3_step_1 (by decide) (fun c1 => ?_) (fun c1 => ?_)
  · have h := it_p h c1
    exact t_Rd_step_18 N hc cx hret S h hI (lv_sub hl [] rfl)
  · have h := it_n h c1
    refine lv_iload_n hx hb dX3_step_4 rfl (lv_at hl 1 rfl) ?_
    refine lv_aload_n hx hb dX3_step_5 rfl (lv_at hl 0 rfl) ?_
    refine g3_5 cx hI hc (zset_s _ _ _) w_371 dX3_step_6 ?_
    refine lv_icmp_ge (tgt := 18) hx hb dX3_step_9 (by decide) (fun c2 => ?_) (fun c2 => ?_)
    · have h := it_p h c2
      exact t_Rd_step_18 N hc cx hret S h hI (lv_sub hl [] rfl)
    · have h := it_n h c2
      refine lv_iload_n hx hb dX3_step_12 rfl (lv_at hl 1 rfl) ?_
      refine lv_bipush (v := (nI 7)) hx hb dX3_step_13 (by decide) ?_
      refine lv_icmp_lt (tgt := 19) hx hb dX3_step_15 (by decide) (fun c3 => ?_) (fun c3 => ?_)
      · have h := it_p h c3
        refine lv_aload_n hx hb dX3_step_19 rfl (lv_at hl 0 rfl) ?_
        refine lv_iload_n hx hb dX3_step_20 rfl (lv_at hl 1 rfl) ?_
        obtain ⟨q4, hq4, h⟩ := bi_el h
        refine zcVi (As := [.int a1]) cx hI (c_Rd_knownAhead hc (zset_s _ _ _) hq4) mt_yX3_knownAhead mv_yX3_knownAhead w_416 (by omega) (k3_0 hc) (zv3 hc) rfl hl.1 rfl (Nat.le_of_ble_eq_true rfl) dX3_step_21 (fun H locs hI => ?_)
        refine lv_istore_n (lv' := [(3, .int q4), (0, .ref (G.2.2.1 o 0)), (1, .int a1), (2, .int a2)]) hx hb dX3_step_24 rfl hl (by decide) rfl (fun ls hl => ?_)
        refine lv_aload_n hx hb dX3_step_25 rfl (lv_at hl 1 rfl) ?_
        refine g3_6 cx hI hc (zset_s _ _ _) w_84 dX3_step_26 ?_
        refine lv_iload_n hx hb dX3_step_29 rfl (lv_at hl 2 rfl) ?_
        refine lv_iload_n hx hb dX3_step_30 rfl (lv_at hl 3 rfl) ?_
        refine lv_iload_n hx hb dX3_step_31 rfl (lv_at hl 0 rfl) ?_
        refine lv_iconst (v := (-1 : Int32)) hx hb dX3_step_32 (by decide) ?_
        refine lv_ixor hx hb dX3_step_33 ?_
        refine lv_iand hx hb dX3_step_34 ?_
        obtain ⟨g5, h⟩ := gd_el h
        obtain ⟨Z6, eZ6⟩ : ∃ z : zOb, z = zI S 7 a1.toNatClampNeg (a2 &&& (q4 ^^^ (-1 : Int32))) := ⟨_, rfl⟩
        have h := bnd_el h eZ6
        refine zr_iast cx hI (k3_7 hc) (zset_s _ _ _) (z3_7 hc) rfl g5 (zss eZ6) dX3_step_35 (fun H locs hI => ?_)
        refine lv_aload_n hx hb dX3_step_36 rfl (lv_at hl 1 rfl) ?_
        refine g3_7 cx hI hc (zset_s _ _ _) w_85 dX3_step_37 ?_
        refine lv_iload_n hx hb dX3_step_40 rfl (lv_at hl 2 rfl) ?_
        refine lv_iload_n hx hb dX3_step_41 rfl (lv_at hl 3 rfl) ?_
        refine lv_iload_n hx hb dX3_step_42 rfl (lv_at hl 0 rfl) ?_
        refine lv_iand hx hb dX3_step_43 ?_
        obtain ⟨g7, h⟩ := gd_el h
        obtain ⟨Z8, eZ8⟩ : ∃ z : zOb, z = zI Z6 8 a1.toNatClampNeg (a2 &&& q4) := ⟨_, rfl⟩
        have h := bnd_el h eZ8
        refine zr_iast cx hI (k3_8 hc) (zset_s _ _ _) (z3_8 hc) rfl g7 (zss eZ8) dX3_step_44 (fun H locs hI => ?_)
        refine lv_iload_n hx hb dX3_step_45 rfl (lv_at hl 3 rfl) ?_
        refine lv_aload_n hx hb dX3_step_46 rfl (lv_at hl 1 rfl) ?_
        refine g3_1 cx hI hc (zset_s _ _ _) w_79 dX3_step_47 ?_
        refine lv_iload_n hx hb dX3_step_50 rfl (lv_at hl 2 rfl) ?_
        obtain ⟨g9, h⟩ := gd_el h
        refine zr_iald cx hI (k3_2 hc) (zset_s _ _ _) (z3_2 hc) rfl g9 dX3_step_51 ?_
        refine lv_iand hx hb dX3_step_52 ?_
        refine lv_topi (fun v10 ev10 => ?_)
        have h := bnd_el h ev10
        refine lv_istore (lv' := [(4, .int v10), (3, .int q4), (0, .ref (G.2.2.1 o 0)), (1, .int a1), (2, .int a2)]) hx hb dX3_step_53 hl (by decide) rfl (fun ls hl => ?_)
        refine lv_aload_n hx hb dX3_step_55 rfl (lv_at hl 2 rfl) ?_
        refine g3_1 cx hI hc (zset_s _ _ _) w_79 dX3_step_56 ?_
        refine lv_iload_n hx hb dX3_step_59 rfl (lv_at hl 3 rfl) ?_
        obtain ⟨g11, h⟩ := gd_el h
        refine zr_iald cx hI (k3_2 hc) (zset_s _ _ _) (z3_2 hc) rfl g11 dX3_step_60 ?_
        refine lv_iload_n hx hb dX3_step_61 rfl (lv_at hl 4 rfl) ?_
        refine lv_ixor hx hb dX3_step_62 ?_
        refine lv_topi (fun v12 ev12 => ?_)
        have h := bnd_el h ev12
        refine lv_istore (lv' := [(5, .int v12), (4, .int v10), (3, .int q4), (0, .ref (G.2.2.1 o 0)), (1, .int a1), (2, .int a2)]) hx hb dX3_step_63 hl (by decide) rfl (fun ls hl => ?_)
        refine lv_aload_n hx hb dX3_step_65 rfl (lv_at hl 3 rfl) ?_
        refine g3_2 cx hI hc (zset_s _ _ _) w_80 dX3_step_66 ?_
        refine lv_iload_n hx hb dX3_step_69 rfl (lv_at hl 4 rfl) ?_
        obtain ⟨g13, h⟩ := gd_el h
        refine zr_iald cx hI (k3_3 hc) (zset_s _ _ _) (z3_3 hc) rfl g13 dX3_step_70 ?_
        refine lv_iload hx hb dX3_step_71 (lv_at hl 1 rfl) ?_
        refine lv_ixor hx hb dX3_step_73 ?_
        refine lv_topi (fun v14 ev14 => ?_)
        have h := bnd_el h ev14
        refine lv_istore (lv' := [(6, .int v14), (5, .int v12), (4, .int v10), (3, .int q4), (0, .ref (G.2.2.1 o 0)), (1, .int a1), (2, .int a2)]) hx hb dX3_step_74 hl (by decide) rfl (fun ls hl => ?_)
        refine lv_aload_n hx hb dX3_step_76 rfl (lv_at hl 4 rfl) ?_
        refine g3_3 cx hI hc (zset_s _ _ _) w_81 dX3_step_77 ?_
        refine lv_iload_n hx hb dX3_step_80 rfl (lv_at hl 5 rfl) ?_
        obtain ⟨g15, h⟩ := gd_el h
        refine zr_iald cx hI (k3_4 hc) (zset_s _ _ _) (z3_4 hc) rfl g15 dX3_step_81 ?_
        refine lv_iload hx hb dX3_step_82 (lv_at hl 2 rfl) ?_
        refine lv_aload_n hx hb dX3_step_84 rfl (lv_at hl 4 rfl) ?_
        refine g3_2 cx hI hc (zset_s _ _ _) w_80 dX3_step_85 ?_
        refine lv_iload_n hx hb dX3_step_88 rfl (lv_at hl 5 rfl) ?_
        obtain ⟨g16, h⟩ := gd_el h
        refine zr_iald cx hI (k3_3 hc) (zset_s _ _ _) (z3_3 hc) rfl g16 dX3_step_89 ?_
        refine lv_iand hx hb dX3_step_90 ?_
        refine lv_ixor hx hb dX3_step_91 ?_
        refine lv_topi (fun v17 ev17 => ?_)
        have h := bnd_el h ev17
        refine lv_istore (lv' := [(7, .int v17), (6, .int v14), (5, .int v12), (4, .int v10), (3, .int q4), (0, .ref (G.2.2.1 o 0)), (1, .int a1), (2, .int a2)]) hx hb dX3_step_92 hl (by decide) rfl (fun ls hl => ?_)
        refine lv_iload_n hx hb dX3_step_94 rfl (lv_at hl 6 rfl) ?_
        refine lv_istore (lv' := [(8, .int a1), (7, .int v17), (6, .int v14), (5, .int v12), (4, .int v10), (3, .int q4), (0, .ref (G.2.2.1 o 0)), (1, .int a1), (2, .int a2)]) hx hb dX3_step_95 hl (by decide) rfl (fun ls hl => ?_)
        exact t_Rd_step_97 N hc cx hret N Z8 a1 a2 v12 v14 v17 a1 h hI (lv_sub hl [6, 7, 8, 3, 2, 1, 0] rfl)
      · have h := it_n h c3
        exact t_Rd_step_18 N hc cx hret S h hI (lv_sub hl [] rfl)
def f_Rd_readOrder_7 (N : Nat) (S2 : zOb)  : Nat → zOb → Int32 → Option zOb
  | 0, _, _ => none
  | n + 1, S, x2 => (if (S.1 0 5) ≤ x2 then some S else if zin x2 7 then (f_St_wordsThatCount S2 (S2.1 3 x2.toNatClampNeg)).bind (fun q4 => (f_Rd_step N S x2 q4).bind (fun q5 => bnd (x2 + (nI 1)) (fun v6 => f_Rd_readOrder_7 N S2 n q5 v6))) else none)
set_option maxHeartbeats 4000000 in
set_option maxRecDepth 100000 in
theorem t_Rd_readOrder_7 (N : Nat) {p : Program} {l : Launch} {e : Env} {s : State} {m : MethodId} {args : Array Value} {below : List Frame} {meth : Method} {c : Code} {Q : State → Prop} {G : zG} {μ : zM} {o : Nat} (hc : zc o = 3) {o2 : Nat} {S2 : zOb} (hc2 : zc o2 = 6) (hS2 : μ o2 = S2) (hne2 : o2 ≠ o) {out : zOb} (cx : zCX p (zrm 2) s m args c RX3 cX3_readOrder 3 2 G) (hret : zRv p l e (zrm 2) s m args below meth c cX3_readOrder G Q (zset μ o out))   : ∀ (n : Nat) (S : zOb) (x2 : Int32), f_Rd_readOrder_7 N S2 n S x2 = some out → ∀ {H : Heap} {locs : List Loc} {ls : Array Slot}, zIW G s (zset μ o S) H locs → lv_has ls 3 [(0, .ref (G.2.2.1 o 0)), (1, .ref (G.2.2.1 o2 0)), (2, .int x2)] → W p l e (zrm 2) s m args below meth c H locs 0 0 Q (F0 m 7 ls []) := by
  obtain ⟨hx, hb, hml, hown, hts, hK, hR⟩ := id cx
  intro n
  induction n with
  | zero =>
    intro S x2  h
    cases h
  | succ n ih =>
    intro S x2  h H locs ls hI hl
    rw [f_Rd_readOrder_7] at h
    refine lv_iload_n hx hb dX3_readOrder_7 rfl (lv_at hl 2 rfl) ?_
    refine lv_aload_n hx hb dX3_readOrder_8 rfl (lv_at hl 0 rfl) ?_
    refine g3_5 cx hI hc (zset_s _ _ _) w_371 dX3_readOrder_9 ?_
    refine lv_icmp_ge (tgt := 36) hx hb dX3_readOrder_12 (by decide) (fun c2 => ?_) (fun c2 => ?_)
    · have h := it_p h c2
      obtain rfl := Option.some.inj h
      exact hret _ _ _ _ dX3_readOrder_36 hI
    · have h := it_n h c2
      refine lv_aload_n hx hb dX3_readOrder_15 rfl (lv_at hl 0 rfl) ?_
      refine lv_iload_n hx hb dX3_readOrder_16 rfl (lv_at hl 2 rfl) ?_
      refine lv_aload_n hx hb dX3_readOrder_17 rfl (lv_at hl 1 rfl) ?_
      refine lv_aload_n hx hb dX3_readOrder_18 rfl (lv_at hl 1 rfl) ?_
      refine g6_2 cx hI hc2 ((zset_n _ _ hne2).trans hS2) w_548 dX3_readOrder_19 ?_
      refine lv_iload_n hx hb dX3_readOrder_22 rfl (lv_at hl 2 rfl) ?_
      obtain ⟨g3, h⟩ := gd_el h
      refine zr_iald cx hI (k6_3 hc2) ((zset_n _ _ hne2).trans hS2) (z6_3 hc2) rfl g3 dX3_readOrder_23 ?_
      obtain ⟨q4, hq4, h⟩ := bi_el h
      refine zcVi (As := [.int (S2.1 3 x2.toNatClampNeg)]) cx hI (c_St_wordsThatCount hc2 ((zset_n _ _ hne2).trans hS2) hq4) mt_yX6_wordsThatCount mv_yX6_wordsThatCount w_550 (by omega) (k6_0 hc2) (zv6 hc2) rfl hl.1 rfl (Nat.le_of_ble_eq_true rfl) dX3_readOrder_24 (fun H locs hI => ?_)
      obtain ⟨q5, hq5, h⟩ := bi_el h
      refine zcVv (As := [.int x2, .int q4]) cx hI (c_Rd_step N hc (zset_s _ _ _) hq5 (zset_ss _ _ _ _)) mt_yX3_step mv_yX3_step w_551 (by omega) (k3_0 hc) (zv3 hc) rfl hl.1 rfl (Nat.le_of_ble_eq_true rfl) dX3_readOrder_27 (fun H locs hI => ?_)
      obtain ⟨v6, ev6⟩ : ∃ z : Int32, z = x2 + (nI 1) := ⟨_, rfl⟩
      have h := bnd_el h ev6
      refine lv_iinc (v := v6) (lv' := [(2, .int v6), (0, .ref (G.2.2.1 o 0)), (1, .ref (G.2.2.1 o2 0))]) hx hb dX3_readOrder_30 hl (k := 2) rfl (by rw [ev6]; rfl) (by decide) rfl (fun ls hl => ?_)
      refine lv_goto (tgt := 7) hx hb dX3_readOrder_33 (by decide) ?_
      exact ih q5 v6 h hI (lv_sub hl [1, 2, 0] rfl)
def f_Rd_readOrder (N : Nat) (S : zOb) (S2 : zOb) : Option zOb :=
  (f_Rd_begin N S S2).bind (fun q1 => f_Rd_readOrder_7 N S2 N q1 (nI 0))
set_option maxHeartbeats 4000000 in
set_option maxRecDepth 100000 in
theorem c_Rd_readOrder (N : Nat) {l : Launch} {G : zG} {μ : zM} {o : Nat} (hc : zc o = 3) {S : zOb} (hS : μ o = S) {o2 : Nat} {S2 : zOb} (hc2 : zc o2 = 6) (hS2 : μ o2 = S2) (hne2 : o2 ≠ o)  {out : zOb} (h : f_Rd_readOrder N S S2  = some out) {μ' : zM} (hμ : zset μ o out = μ') : zMV l G yX3_readOrder cX3_readOrder 3 none 2 [.ref (G.2.2.1 o 0), .ref (G.2.2.1 o2 0)] μ μ' := by
  subst hμ
  refine zMV.of (by decide) (Nat.le_of_ble_eq_true rfl) (fun p e s m args below meth c Q ls cx hI hl hret => ?_)
  obtain ⟨hx, hb, hml, hown, hts, hK, hR⟩ := id cx
  have hl : lv_has ls 3 [(0, .ref (G.2.2.1 o 0)), (1, .ref (G.2.2.1 o2 0))] := hl
  rw [← zset_idS hS] at hI
  unfold f_Rd_readOrder at h
  refine lv_aload_n hx hb dX3_readOrder_0 rfl (lv_at hl 0 rfl) ?_
  refine lv_aload_n hx hb dX3_readOrder_1 rfl (lv_at hl 1 rfl) ?_
  obtain ⟨q1, hq1, h⟩ := bi_el h
  refine zcVv (As := [.ref (G.2.2.1 o2 0)]) cx hI (c_Rd_begin N hc (zset_s _ _ _) hc2 ((zset_n _ _ hne2).trans hS2) hne2 hq1 (zset_ss _ _ _ _)) mt_yX3_begin mv_yX3_begin w_549 (by omega) (k3_0 hc) (zv3 hc) rfl hl.1 rfl (Nat.le_of_ble_eq_true rfl) dX3_readOrder_2 (fun H locs hI => ?_)
  refine lv_iconst (v := (nI 0)) hx hb dX3_readOrder_5 (by decide) ?_
  refine lv_istore_n (lv' := [(2, .int (nI 0)), (0, .ref (G.2.2.1 o 0)), (1, .ref (G.2.2.1 o2 0))]) hx hb dX3_readOrder_6 rfl hl (by decide) rfl (fun ls hl => ?_)
  exact t_Rd_readOrder_7 N hc hc2 hS2 hne2 cx hret N q1 (nI 0) h hI (lv_sub hl [1, 2, 0] rfl)
def f_Rd_strengthBehindAll (S : zOb) (a1 : Int32) : Option Int32 :=
  if zin (S.1 0 5) 8 then bnd (((S.1 2 ((S.1 0 5).toNatClampNeg)) >>> (a1 &&& 31)) &&& (nI 1)) (fun v2 => if zin (S.1 0 5) 8 then bnd (((S.1 3 ((S.1 0 5).toNatClampNeg)) >>> (a1 &&& 31)) &&& (nI 1)) (fun v4 => if zin (S.1 0 5) 8 then bnd (((S.1 4 ((S.1 0 5).toNatClampNeg)) >>> (a1 &&& 31)) &&& (nI 1)) (fun v6 => some ((v2 + ((nI 2) * v4)) + ((nI 4) * v6))) else none) else none) else none
set_option maxHeartbeats 4000000 in
set_option maxRecDepth 100000 in
theorem c_Rd_strengthBehindAll {l : Launch} {G : zG} {μ : zM} {o : Nat} (hc : zc o = 3) {S : zOb} (hS : μ o = S) {a1 : Int32} {out : Int32} (h : f_Rd_strengthBehindAll S a1 = some out) : zMI l G yX3_strengthBehindAll cX3_strengthBehindAll 5 (some .int) 0 [.ref (G.2.2.1 o 0), .int a1] μ out μ := by
  refine zMI.of (by decide) (Nat.le_of_ble_eq_true rfl) (fun p e s m args below meth c Q ls cx hI hl hret => ?_)
  obtain ⟨hx, hb, hml, hown, hts, hK, hR⟩ := id cx
  have hl : lv_has ls 5 [(0, .ref (G.2.2.1 o 0)), (1, .int a1)] := hl
  unfold f_Rd_strengthBehindAll at h
  refine lv_aload_n hx hb dX3_strengthBehindAll_0 rfl (lv_at hl 0 rfl) ?_
  refine g3_1 cx hI hc hS w_79 dX3_strengthBehindAll_1 ?_
  refine lv_aload_n hx hb dX3_strengthBehindAll_4 rfl (lv_at hl 0 rfl) ?_
  refine g3_5 cx hI hc hS w_371 dX3_strengthBehindAll_5 ?_
  obtain ⟨g1, h⟩ := gd_el h
  refine zr_iald cx hI (k3_2 hc) hS (z3_2 hc) rfl g1 dX3_strengthBehindAll_8 ?_
  refine lv_iload_n hx hb dX3_strengthBehindAll_9 rfl (lv_at hl 1 rfl) ?_
  refine lv_ishr hx hb dX3_strengthBehindAll_10 ?_
  refine lv_iconst (v := (nI 1)) hx hb dX3_strengthBehindAll_11 (by decide) ?_
  refine lv_iand hx hb dX3_strengthBehindAll_12 ?_
  refine lv_topi (fun v2 ev2 => ?_)
  have h := bnd_el h ev2
  refine lv_istore_n (lv' := [(2, .int v2), (0, .ref (G.2.2.1 o 0)), (1, .int a1)]) hx hb dX3_strengthBehindAll_13 rfl hl (by decide) rfl (fun ls hl => ?_)
  refine lv_aload_n hx hb dX3_strengthBehindAll_14 rfl (lv_at hl 1 rfl) ?_
  refine g3_2 cx hI hc hS w_80 dX3_strengthBehindAll_15 ?_
  refine lv_aload_n hx hb dX3_strengthBehindAll_18 rfl (lv_at hl 1 rfl) ?_
  refine g3_5 cx hI hc hS w_371 dX3_strengthBehindAll_19 ?_
  obtain ⟨g3, h⟩ := gd_el h
  refine zr_iald cx hI (k3_3 hc) hS (z3_3 hc) rfl g3 dX3_strengthBehindAll_22 ?_
  refine lv_iload_n hx hb dX3_strengthBehindAll_23 rfl (lv_at hl 2 rfl) ?_
  refine lv_ishr hx hb dX3_strengthBehindAll_24 ?_
  refine lv_iconst (v := (nI 1)) hx hb dX3_strengthBehindAll_25 (by decide) ?_
  refine lv_iand hx hb dX3_strengthBehindAll_26 ?_
  refine lv_topi (fun v4 ev4 => ?_)
  have h := bnd_el h ev4
  refine lv_istore_n (lv' := [(3, .int v4), (2, .int v2), (0, .ref (G.2.2.1 o 0)), (1, .int a1)]) hx hb dX3_strengthBehindAll_27 rfl hl (by decide) rfl (fun ls hl => ?_)
  refine lv_aload_n hx hb dX3_strengthBehindAll_28 rfl (lv_at hl 2 rfl) ?_
  refine g3_3 cx hI hc hS w_81 dX3_strengthBehindAll_29 ?_
  refine lv_aload_n hx hb dX3_strengthBehindAll_32 rfl (lv_at hl 2 rfl) ?_
  refine g3_5 cx hI hc hS w_371 dX3_strengthBehindAll_33 ?_
  obtain ⟨g5, h⟩ := gd_el h
  refine zr_iald cx hI (k3_4 hc) hS (z3_4 hc) rfl g5 dX3_strengthBehindAll_36 ?_
  refine lv_iload_n hx hb dX3_strengthBehindAll_37 rfl (lv_at hl 3 rfl) ?_
  refine lv_ishr hx hb dX3_strengthBehindAll_38 ?_
  refine lv_iconst (v := (nI 1)) hx hb dX3_strengthBehindAll_39 (by decide) ?_
  refine lv_iand hx hb dX3_strengthBehindAll_40 ?_
  refine lv_topi (fun v6 ev6 => ?_)
  have h := bnd_el h ev6
  refine lv_istore (lv' := [(4, .int v6), (3, .int v4), (2, .int v2), (0, .ref (G.2.2.1 o 0)), (1, .int a1)]) hx hb dX3_strengthBehindAll_41 hl (by decide) rfl (fun ls hl => ?_)
  refine lv_iload_n hx hb dX3_strengthBehindAll_43 rfl (lv_at hl 2 rfl) ?_
  refine lv_iconst (v := (nI 2)) hx hb dX3_strengthBehindAll_44 (by decide) ?_
  refine lv_iload_n hx hb dX3_strengthBehindAll_45 rfl (lv_at hl 1 rfl) ?_
  refine lv_imul hx hb dX3_strengthBehindAll_46 ?_
  refine lv_iadd hx hb dX3_strengthBehindAll_47 ?_
  refine lv_iconst (v := (nI 4)) hx hb dX3_strengthBehindAll_48 (by decide) ?_
  refine lv_iload hx hb dX3_strengthBehindAll_49 (lv_at hl 0 rfl) ?_
  refine lv_imul hx hb dX3_strengthBehindAll_51 ?_
  refine lv_iadd hx hb dX3_strengthBehindAll_52 ?_
  obtain rfl := Option.some.inj h
  exact hret _ _ _ _ dX3_strengthBehindAll_53 rfl hI
def f_Rd_keepsWordMetAt_42 (N : Nat)  (S : zOb) (s0 : Int32) : Option (Int32 × zOb) :=
  if (s0 = nI 0 ∨ s0 = nI 1) then some (s0, S) else none
set_option maxHeartbeats 4000000 in
set_option maxRecDepth 100000 in
theorem t_Rd_keepsWordMetAt_42 (N : Nat) {p : Program} {l : Launch} {e : Env} {s : State} {m : MethodId} {args : Array Value} {below : List Frame} {meth : Method} {c : Code} {Q : State → Prop} {G : zG} {μ : zM} {o : Nat} (hc : zc o = 3) {out : (Int32 × zOb)} (cx : zCX p (zrm 2) s m args c RX3 cX3_keepsWordMetAt 3 2 G) (hret : zRi p l e (zrm 2) s m args below meth c cX3_keepsWordMetAt G .boolean Q out.1 (zset μ o out.2))   : ∀ (S : zOb) (s0 : Int32), f_Rd_keepsWordMetAt_42 N S s0 = some out → ∀ {H : Heap} {locs : List Loc} {ls : Array Slot}, zIW G s (zset μ o S) H locs → lv_has ls 3 [] → W p l e (zrm 2) s m args below meth c H locs 0 0 Q (F0 m 42 ls [.int s0]) := by
  obtain ⟨hx, hb, hml, hown, hts, hK, hR⟩ := id cx
  intro S s0  h H locs ls hI hl
  unfold f_Rd_keepsWordMetAt_42 at h
  obtain ⟨g4, h⟩ := gd_el h
  obtain rfl := Option.some.inj h
  exact hret _ _ _ _ dX3_keepsWordMetAt_42 (zbool g4) hI
def f_Rd_keepsWordMetAt_2 (N : Nat)  : Nat → zOb → Int32 → Int32 → Option (Int32 × zOb)
  | 0, _, _, _ => none
  | n + 1, S, x1, x2 => (if (S.1 0 5) ≤ x2 then (f_Rd_knownAhead S (S.1 0 5)).bind (fun q2 => (if q2 = nI 0 then f_Rd_keepsWordMetAt_42 N S (nI 0) else f_Rd_keepsWordMetAt_42 N S (nI 1))) else (f_Rd_step N S x2 ((x1 >>> (x2 &&& 31)) &&& (nI 1))).bind (fun q5 => bnd (x2 + (nI 1)) (fun v6 => f_Rd_keepsWordMetAt_2 N n q5 x1 v6)))
set_option maxHeartbeats 4000000 in
set_option maxRecDepth 100000 in
theorem t_Rd_keepsWordMetAt_2 (N : Nat) {p : Program} {l : Launch} {e : Env} {s : State} {m : MethodId} {args : Array Value} {below : List Frame} {meth : Method} {c : Code} {Q : State → Prop} {G : zG} {μ : zM} {o : Nat} (hc : zc o = 3) {out : (Int32 × zOb)} (cx : zCX p (zrm 2) s m args c RX3 cX3_keepsWordMetAt 3 2 G) (hret : zRi p l e (zrm 2) s m args below meth c cX3_keepsWordMetAt G .boolean Q out.1 (zset μ o out.2))   : ∀ (n : Nat) (S : zOb) (x1 : Int32) (x2 : Int32), f_Rd_keepsWordMetAt_2 N n S x1 x2 = some out → ∀ {H : Heap} {locs : List Loc} {ls : Array Slot}, zIW G s (zset μ o S) H locs → lv_has ls 3 [(0, .ref (G.2.2.1 o 0)), (1, .int x1), (2, .int x2)] → W p l e (zrm 2) s m args below meth c H locs 0 0 Q (F0 m 2 ls []) := by
  obtain ⟨hx, hb, hml, hown, hts, hK, hR⟩ := id cx
  intro n
  induction n with
  | zero =>
    intro S x1 x2  h
    cases h
  | succ n ih =>
    intro S x1 x2  h H locs ls hI hl
    rw [f_Rd_keepsWordMetAt_2] at h
    refine lv_iload_n hx hb dX3_keepsWordMetAt_2 rfl (lv_at hl 2 rfl) ?_
    refine lv_aload_n hx hb dX3_keepsWordMetAt_3 rfl (lv_at hl 0 rfl) ?_
    refine g3_5 cx hI hc (zset_s _ _ _) w_371 dX3_keepsWordMetAt_4 ?_
    refine lv_icmp_ge (tgt := 26) hx hb dX3_keepsWordMetAt_7 (by decide) (fun c1 => ?_) (fun c1 => ?_)
    · have h := it_p h c1
      refine lv_aload_n hx hb dX3_keepsWordMetAt_26 rfl (lv_at hl 0 rfl) ?_
      refine lv_aload_n hx hb dX3_keepsWordMetAt_27 rfl (lv_at hl 0 rfl) ?_
      refine g3_5 cx hI hc (zset_s _ _ _) w_371 dX3_keepsWordMetAt_28 ?_
      obtain ⟨q2, hq2, h⟩ := bi_el h
      refine zcVi (As := [.int (S.1 0 5)]) cx hI (c_Rd_knownAhead hc (zset_s _ _ _) hq2) mt_yX3_knownAhead mv_yX3_knownAhead w_416 (by omega) (k3_0 hc) (zv3 hc) rfl hl.1 rfl (Nat.le_of_ble_eq_true rfl) dX3_keepsWordMetAt_31 (fun H locs hI => ?_)
      refine lv_if_eq (tgt := 41) hx hb dX3_keepsWordMetAt_34 (by decide) (fun c3 => ?_) (fun c3 => ?_)
      · have h := it_p h c3
        refine lv_iconst (v := (nI 0)) hx hb dX3_keepsWordMetAt_41 (by decide) ?_
        exact t_Rd_keepsWordMetAt_42 N hc cx hret S (nI 0) h hI (lv_sub hl [] rfl)
      · have h := it_n h c3
        refine lv_iconst (v := (nI 1)) hx hb dX3_keepsWordMetAt_37 (by decide) ?_
        refine lv_goto (tgt := 42) hx hb dX3_keepsWordMetAt_38 (by decide) ?_
        exact t_Rd_keepsWordMetAt_42 N hc cx hret S (nI 1) h hI (lv_sub hl [] rfl)
    · have h := it_n h c1
      refine lv_aload_n hx hb dX3_keepsWordMetAt_10 rfl (lv_at hl 0 rfl) ?_
      refine lv_iload_n hx hb dX3_keepsWordMetAt_11 rfl (lv_at hl 2 rfl) ?_
      refine lv_iload_n hx hb dX3_keepsWordMetAt_12 rfl (lv_at hl 1 rfl) ?_
      refine lv_iload_n hx hb dX3_keepsWordMetAt_13 rfl (lv_at hl 2 rfl) ?_
      refine lv_ishr hx hb dX3_keepsWordMetAt_14 ?_
      refine lv_iconst (v := (nI 1)) hx hb dX3_keepsWordMetAt_15 (by decide) ?_
      refine lv_iand hx hb dX3_keepsWordMetAt_16 ?_
      obtain ⟨q5, hq5, h⟩ := bi_el h
      refine zcVv (As := [.int x2, .int ((x1 >>> (x2 &&& 31)) &&& (nI 1))]) cx hI (c_Rd_step N hc (zset_s _ _ _) hq5 (zset_ss _ _ _ _)) mt_yX3_step mv_yX3_step w_551 (by omega) (k3_0 hc) (zv3 hc) rfl hl.1 rfl (Nat.le_of_ble_eq_true rfl) dX3_keepsWordMetAt_17 (fun H locs hI => ?_)
      obtain ⟨v6, ev6⟩ : ∃ z : Int32, z = x2 + (nI 1) := ⟨_, rfl⟩
      have h := bnd_el h ev6
      refine lv_iinc (v := v6) (lv' := [(2, .int v6), (0, .ref (G.2.2.1 o 0)), (1, .int x1)]) hx hb dX3_keepsWordMetAt_20 hl (k := 2) rfl (by rw [ev6]; rfl) (by decide) rfl (fun ls hl => ?_)
      refine lv_goto (tgt := 2) hx hb dX3_keepsWordMetAt_23 (by decide) ?_
      exact ih q5 x1 v6 h hI (lv_sub hl [1, 2, 0] rfl)
def f_Rd_keepsWordMetAt (N : Nat) (S : zOb) (a1 : Int32) : Option (Int32 × zOb) :=
  f_Rd_keepsWordMetAt_2 N N S a1 (nI 0)
set_option maxHeartbeats 4000000 in
set_option maxRecDepth 100000 in
theorem c_Rd_keepsWordMetAt (N : Nat) {l : Launch} {G : zG} {μ : zM} {o : Nat} (hc : zc o = 3) {S : zOb} (hS : μ o = S) {a1 : Int32} {out : (Int32 × zOb)} (h : f_Rd_keepsWordMetAt N S a1 = some out) {μ' : zM} (hμ : zset μ o out.2 = μ') : zMI l G yX3_keepsWordMetAt cX3_keepsWordMetAt 3 (some .boolean) 2 [.ref (G.2.2.1 o 0), .int a1] μ out.1 μ' := by
  subst hμ
  refine zMI.of (by decide) (Nat.le_of_ble_eq_true rfl) (fun p e s m args below meth c Q ls cx hI hl hret => ?_)
  obtain ⟨hx, hb, hml, hown, hts, hK, hR⟩ := id cx
  have hl : lv_has ls 3 [(0, .ref (G.2.2.1 o 0)), (1, .int a1)] := hl
  rw [← zset_idS hS] at hI
  unfold f_Rd_keepsWordMetAt at h
  refine lv_iconst (v := (nI 0)) hx hb dX3_keepsWordMetAt_0 (by decide) ?_
  refine lv_istore_n (lv' := [(2, .int (nI 0)), (0, .ref (G.2.2.1 o 0)), (1, .int a1)]) hx hb dX3_keepsWordMetAt_1 rfl hl (by decide) rfl (fun ls hl => ?_)
  exact t_Rd_keepsWordMetAt_2 N hc cx hret N S a1 (nI 0) h hI (lv_sub hl [1, 2, 0] rfl)
def f_Rd_peak_4 (N : Nat) (S : zOb)  : Nat → Int32 → Int32 → Option Int32
  | 0, _, _ => none
  | n + 1, x1, x2 => (if (S.1 0 5) ≤ x2 then some x1 else if zin x2 7 then (f_J_bitCount (S.1 7 x2.toNatClampNeg)).bind (fun q3 => bnd (if x1 < q3 then q3 else x1) (fun v4 => bnd (x2 + (nI 1)) (fun v5 => f_Rd_peak_4 N S n v4 v5))) else none)
set_option maxHeartbeats 4000000 in
set_option maxRecDepth 100000 in
theorem t_Rd_peak_4 (N : Nat) {p : Program} {l : Launch} {e : Env} {s : State} {m : MethodId} {args : Array Value} {below : List Frame} {meth : Method} {c : Code} {Q : State → Prop} {G : zG} {μ : zM} {o : Nat} (hc : zc o = 3) {S : zOb} (hS : μ o = S) {out : Int32} (cx : zCX p (zrm 1) s m args c RX3 cX3_peak 3 1 G) (hret : zRi p l e (zrm 1) s m args below meth c cX3_peak G .int Q out μ)   : ∀ (n : Nat) (x1 : Int32) (x2 : Int32), f_Rd_peak_4 N S n x1 x2 = some out → ∀ {H : Heap} {locs : List Loc} {ls : Array Slot}, zIW G s μ H locs → lv_has ls 3 [(0, .ref (G.2.2.1 o 0)), (1, .int x1), (2, .int x2)] → W p l e (zrm 1) s m args below meth c H locs 0 0 Q (F0 m 4 ls []) := by
  obtain ⟨hx, hb, hml, hown, hts, hK, hR⟩ := id cx
  intro n
  induction n with
  | zero =>
    intro x1 x2  h
    cases h
  | succ n ih =>
    intro x1 x2  h H locs ls hI hl
    rw [f_Rd_peak_4] at h
    refine lv_iload_n hx hb dX3_peak_4 rfl (lv_at hl 2 rfl) ?_
    refine lv_aload_n hx hb dX3_peak_5 rfl (lv_at hl 0 rfl) ?_
    refine g3_5 cx hI hc hS w_371 dX3_peak_6 ?_
    refine lv_icmp_ge (tgt := 32) hx hb dX3_peak_9 (by decide) (fun c1 => ?_) (fun c1 => ?_)
    · have h := it_p h c1
      refine lv_iload_n hx hb dX3_peak_32 rfl (lv_at hl 1 rfl) ?_
      obtain rfl := Option.some.inj h
      exact hret _ _ _ _ dX3_peak_33 rfl hI
    · have h := it_n h c1
      refine lv_iload_n hx hb dX3_peak_12 rfl (lv_at hl 1 rfl) ?_
      refine lv_aload_n hx hb dX3_peak_13 rfl (lv_at hl 0 rfl) ?_
      refine g3_6 cx hI hc hS w_84 dX3_peak_14 ?_
      refine lv_iload_n hx hb dX3_peak_17 rfl (lv_at hl 2 rfl) ?_
      obtain ⟨g2, h⟩ := gd_el h
      refine zr_iald cx hI (k3_7 hc) hS (z3_7 hc) rfl g2 dX3_peak_18 ?_
      obtain ⟨q3, hq3, h⟩ := bi_el h
      refine zcSi (As := [.int (S.1 7 x2.toNatClampNeg)]) cx hI (c_J_bitCount  hq3) mt_yJ6_bitCount_0f7a4 ms_yJ6_bitCount_0f7a4 w_425 (by omega) rfl hl.1 rfl (Nat.le_of_ble_eq_true rfl) dX3_peak_19 (fun H locs hI => ?_)
      refine zcmax cx hl.1 w_424 (by omega) (Nat.le_of_ble_eq_true rfl) dX3_peak_22 ?_
      refine lv_topi (fun v4 ev4 => ?_)
      have h := bnd_el h ev4
      refine lv_istore_n (lv' := [(1, .int v4), (0, .ref (G.2.2.1 o 0)), (2, .int x2)]) hx hb dX3_peak_25 rfl hl (by decide) rfl (fun ls hl => ?_)
      obtain ⟨v5, ev5⟩ : ∃ z : Int32, z = x2 + (nI 1) := ⟨_, rfl⟩
      have h := bnd_el h ev5
      refine lv_iinc (v := v5) (lv' := [(2, .int v5), (1, .int v4), (0, .ref (G.2.2.1 o 0))]) hx hb dX3_peak_26 hl (k := 2) rfl (by rw [ev5]; rfl) (by decide) rfl (fun ls hl => ?_)
      refine lv_goto (tgt := 4) hx hb dX3_peak_29 (by decide) ?_
      exact ih v4 v5 h hI (lv_sub hl [2, 1, 0] rfl)
def f_Rd_peak (N : Nat) (S : zOb) : Option Int32 :=
  f_Rd_peak_4 N S N (nI 0) (nI 0)
set_option maxHeartbeats 4000000 in
set_option maxRecDepth 100000 in
theorem c_Rd_peak (N : Nat) {l : Launch} {G : zG} {μ : zM} {o : Nat} (hc : zc o = 3) {S : zOb} (hS : μ o = S)  {out : Int32} (h : f_Rd_peak N S  = some out) : zMI l G yX3_peak cX3_peak 3 (some .int) 1 [.ref (G.2.2.1 o 0)] μ out μ := by
  refine zMI.of (by decide) (Nat.le_of_ble_eq_true rfl) (fun p e s m args below meth c Q ls cx hI hl hret => ?_)
  obtain ⟨hx, hb, hml, hown, hts, hK, hR⟩ := id cx
  have hl : lv_has ls 3 [(0, .ref (G.2.2.1 o 0))] := hl
  unfold f_Rd_peak at h
  refine lv_iconst (v := (nI 0)) hx hb dX3_peak_0 (by decide) ?_
  refine lv_istore_n (lv' := [(1, .int (nI 0)), (0, .ref (G.2.2.1 o 0))]) hx hb dX3_peak_1 rfl hl (by decide) rfl (fun ls hl => ?_)
  refine lv_iconst (v := (nI 0)) hx hb dX3_peak_2 (by decide) ?_
  refine lv_istore_n (lv' := [(2, .int (nI 0)), (1, .int (nI 0)), (0, .ref (G.2.2.1 o 0))]) hx hb dX3_peak_3 rfl hl (by decide) rfl (fun ls hl => ?_)
  exact t_Rd_peak_4 N hc hS cx hret N (nI 0) (nI 0) h hI (lv_sub hl [2, 1, 0] rfl)
def f_Rd_loss_4 (N : Nat) (S : zOb)  : Nat → Int32 → Int32 → Option Int32
  | 0, _, _ => none
  | n + 1, x1, x2 => (if (S.1 0 5) ≤ x2 then some x1 else if zin x2 7 then (f_J_bitCount (S.1 9 x2.toNatClampNeg)).bind (fun q3 => bnd (x1 + q3) (fun v4 => bnd (x2 + (nI 1)) (fun v5 => f_Rd_loss_4 N S n v4 v5))) else none)
set_option maxHeartbeats 4000000 in
set_option maxRecDepth 100000 in
theorem t_Rd_loss_4 (N : Nat) {p : Program} {l : Launch} {e : Env} {s : State} {m : MethodId} {args : Array Value} {below : List Frame} {meth : Method} {c : Code} {Q : State → Prop} {G : zG} {μ : zM} {o : Nat} (hc : zc o = 3) {S : zOb} (hS : μ o = S) {out : Int32} (cx : zCX p (zrm 1) s m args c RX3 cX3_loss 3 1 G) (hret : zRi p l e (zrm 1) s m args below meth c cX3_loss G .int Q out μ)   : ∀ (n : Nat) (x1 : Int32) (x2 : Int32), f_Rd_loss_4 N S n x1 x2 = some out → ∀ {H : Heap} {locs : List Loc} {ls : Array Slot}, zIW G s μ H locs → lv_has ls 3 [(0, .ref (G.2.2.1 o 0)), (1, .int x1), (2, .int x2)] → W p l e (zrm 1) s m args below meth c H locs 0 0 Q (F0 m 4 ls []) := by
  obtain ⟨hx, hb, hml, hown, hts, hK, hR⟩ := id cx
  intro n
  induction n with
  | zero =>
    intro x1 x2  h
    cases h
  | succ n ih =>
    intro x1 x2  h H locs ls hI hl
    rw [f_Rd_loss_4] at h
    refine lv_iload_n hx hb dX3_loss_4 rfl (lv_at hl 2 rfl) ?_
    refine lv_aload_n hx hb dX3_loss_5 rfl (lv_at hl 0 rfl) ?_
    refine g3_5 cx hI hc hS w_371 dX3_loss_6 ?_
    refine lv_icmp_ge (tgt := 30) hx hb dX3_loss_9 (by decide) (fun c1 => ?_) (fun c1 => ?_)
    · have h := it_p h c1
      refine lv_iload_n hx hb dX3_loss_30 rfl (lv_at hl 1 rfl) ?_
      obtain rfl := Option.some.inj h
      exact hret _ _ _ _ dX3_loss_31 rfl hI
    · have h := it_n h c1
      refine lv_iload_n hx hb dX3_loss_12 rfl (lv_at hl 1 rfl) ?_
      refine lv_aload_n hx hb dX3_loss_13 rfl (lv_at hl 0 rfl) ?_
      refine g3_8 cx hI hc hS w_86 dX3_loss_14 ?_
      refine lv_iload_n hx hb dX3_loss_17 rfl (lv_at hl 2 rfl) ?_
      obtain ⟨g2, h⟩ := gd_el h
      refine zr_iald cx hI (k3_9 hc) hS (z3_9 hc) rfl g2 dX3_loss_18 ?_
      obtain ⟨q3, hq3, h⟩ := bi_el h
      refine zcSi (As := [.int (S.1 9 x2.toNatClampNeg)]) cx hI (c_J_bitCount  hq3) mt_yJ6_bitCount_0f7a4 ms_yJ6_bitCount_0f7a4 w_425 (by omega) rfl hl.1 rfl (Nat.le_of_ble_eq_true rfl) dX3_loss_19 (fun H locs hI => ?_)
      refine lv_iadd hx hb dX3_loss_22 ?_
      refine lv_topi (fun v4 ev4 => ?_)
      have h := bnd_el h ev4
      refine lv_istore_n (lv' := [(1, .int v4), (0, .ref (G.2.2.1 o 0)), (2, .int x2)]) hx hb dX3_loss_23 rfl hl (by decide) rfl (fun ls hl => ?_)
      obtain ⟨v5, ev5⟩ : ∃ z : Int32, z = x2 + (nI 1) := ⟨_, rfl⟩
      have h := bnd_el h ev5
      refine lv_iinc (v := v5) (lv' := [(2, .int v5), (1, .int v4), (0, .ref (G.2.2.1 o 0))]) hx hb dX3_loss_24 hl (k := 2) rfl (by rw [ev5]; rfl) (by decide) rfl (fun ls hl => ?_)
      refine lv_goto (tgt := 4) hx hb dX3_loss_27 (by decide) ?_
      exact ih v4 v5 h hI (lv_sub hl [2, 1, 0] rfl)
def f_Rd_loss (N : Nat) (S : zOb) : Option Int32 :=
  f_Rd_loss_4 N S N (nI 0) (nI 0)
set_option maxHeartbeats 4000000 in
set_option maxRecDepth 100000 in
theorem c_Rd_loss (N : Nat) {l : Launch} {G : zG} {μ : zM} {o : Nat} (hc : zc o = 3) {S : zOb} (hS : μ o = S)  {out : Int32} (h : f_Rd_loss N S  = some out) : zMI l G yX3_loss cX3_loss 3 (some .int) 1 [.ref (G.2.2.1 o 0)] μ out μ := by
  refine zMI.of (by decide) (Nat.le_of_ble_eq_true rfl) (fun p e s m args below meth c Q ls cx hI hl hret => ?_)
  obtain ⟨hx, hb, hml, hown, hts, hK, hR⟩ := id cx
  have hl : lv_has ls 3 [(0, .ref (G.2.2.1 o 0))] := hl
  unfold f_Rd_loss at h
  refine lv_iconst (v := (nI 0)) hx hb dX3_loss_0 (by decide) ?_
  refine lv_istore_n (lv' := [(1, .int (nI 0)), (0, .ref (G.2.2.1 o 0))]) hx hb dX3_loss_1 rfl hl (by decide) rfl (fun ls hl => ?_)
  refine lv_iconst (v := (nI 0)) hx hb dX3_loss_2 (by decide) ?_
  refine lv_istore_n (lv' := [(2, .int (nI 0)), (1, .int (nI 0)), (0, .ref (G.2.2.1 o 0))]) hx hb dX3_loss_3 rfl hl (by decide) rfl (fun ls hl => ?_)
  exact t_Rd_loss_4 N hc hS cx hret N (nI 0) (nI 0) h hI (lv_sub hl [2, 1, 0] rfl)
def f_Sh_renew_2 (N : Nat)  : Nat → zOb → Int32 → Int32 → Int32 → Option zOb
  | 0, _, _, _, _ => none
  | n + 1, S, x1, x2, x3 => (if (nI 24) ≤ x3 then bnd (zI S 0 1 x1) (fun Z2 => bnd (zI Z2 0 2 x2) (fun Z3 => some Z3)) else if zin x3 24 then bnd (zL S 1 x3.toNatClampNeg (0 : Int64)) (fun Z5 => bnd (x3 + (nI 1)) (fun v6 => f_Sh_renew_2 N n Z5 x1 x2 v6)) else none)
set_option maxHeartbeats 4000000 in
set_option maxRecDepth 100000 in
theorem t_Sh_renew_2 (N : Nat) {p : Program} {l : Launch} {e : Env} {s : State} {m : MethodId} {args : Array Value} {below : List Frame} {meth : Method} {c : Code} {Q : State → Prop} {G : zG} {μ : zM} {o : Nat} (hc : zc o = 5) {out : zOb} (cx : zCX p (zrm 0) s m args c RX5 cX5_renew 4 0 G) (hret : zRv p l e (zrm 0) s m args below meth c cX5_renew G Q (zset μ o out))   : ∀ (n : Nat) (S : zOb) (x1 : Int32) (x2 : Int32) (x3 : Int32), f_Sh_renew_2 N n S x1 x2 x3 = some out → ∀ {H : Heap} {locs : List Loc} {ls : Array Slot}, zIW G s (zset μ o S) H locs → lv_has ls 4 [(0, .ref (G.2.2.1 o 0)), (1, .int x1), (2, .int x2), (3, .int x3)] → W p l e (zrm 0) s m args below meth c H locs 0 0 Q (F0 m 2 ls []) := by
  obtain ⟨hx, hb, hml, hown, hts, hK, hR⟩ := id cx
  intro n
  induction n with
  | zero =>
    intro S x1 x2 x3  h
    cases h
  | succ n ih =>
    intro S x1 x2 x3  h H locs ls hI hl
    rw [f_Sh_renew_2] at h
    refine lv_iload_n hx hb dX5_renew_2 rfl (lv_at hl 3 rfl) ?_
    refine lv_bipush (v := (nI 24)) hx hb dX5_renew_3 (by decide) ?_
    refine lv_icmp_ge (tgt := 21) hx hb dX5_renew_5 (by decide) (fun c1 => ?_) (fun c1 => ?_)
    · have h := it_p h c1
      refine lv_aload_n hx hb dX5_renew_21 rfl (lv_at hl 0 rfl) ?_
      refine lv_iload_n hx hb dX5_renew_22 rfl (lv_at hl 1 rfl) ?_
      obtain ⟨Z2, eZ2⟩ : ∃ z : zOb, z = zI S 0 1 x1 := ⟨_, rfl⟩
      have h := bnd_el h eZ2
      refine p5_1 cx hI hc (zset_s _ _ _) w_103 (zss eZ2) dX5_renew_23 (fun H locs hI => ?_)
      refine lv_aload_n hx hb dX5_renew_26 rfl (lv_at hl 0 rfl) ?_
      refine lv_iload_n hx hb dX5_renew_27 rfl (lv_at hl 2 rfl) ?_
      obtain ⟨Z3, eZ3⟩ : ∃ z : zOb, z = zI Z2 0 2 x2 := ⟨_, rfl⟩
      have h := bnd_el h eZ3
      refine p5_2 cx hI hc (zset_s _ _ _) w_993 (zss eZ3) dX5_renew_28 (fun H locs hI => ?_)
      obtain rfl := Option.some.inj h
      exact hret _ _ _ _ dX5_renew_31 hI
    · have h := it_n h c1
      refine lv_aload_n hx hb dX5_renew_8 rfl (lv_at hl 0 rfl) ?_
      refine g5_0 cx hI hc (zset_s _ _ _) w_102 dX5_renew_9 ?_
      refine lv_iload_n hx hb dX5_renew_12 rfl (lv_at hl 3 rfl) ?_
      refine lv_lconst (v := (0 : Int64)) hx hb dX5_renew_13 (by decide) ?_
      obtain ⟨g4, h⟩ := gd_el h
      obtain ⟨Z5, eZ5⟩ : ∃ z : zOb, z = zL S 1 x3.toNatClampNeg (0 : Int64) := ⟨_, rfl⟩
      have h := bnd_el h eZ5
      refine zr_last cx hI (k5_1 hc) (zset_s _ _ _) (z5_1 hc) rfl g4 (zss eZ5) dX5_renew_14 (fun H locs hI => ?_)
      obtain ⟨v6, ev6⟩ : ∃ z : Int32, z = x3 + (nI 1) := ⟨_, rfl⟩
      have h := bnd_el h ev6
      refine lv_iinc (v := v6) (lv' := [(3, .int v6), (0, .ref (G.2.2.1 o 0)), (1, .int x1), (2, .int x2)]) hx hb dX5_renew_15 hl (k := 3) rfl (by rw [ev6]; rfl) (by decide) rfl (fun ls hl => ?_)
      refine lv_goto (tgt := 2) hx hb dX5_renew_18 (by decide) ?_
      exact ih Z5 x1 x2 v6 h hI (lv_sub hl [1, 2, 3, 0] rfl)
def f_Sh_renew (N : Nat) (S : zOb) (a1 : Int32) (a2 : Int32) : Option zOb :=
  f_Sh_renew_2 N N S a1 a2 (nI 0)
set_option maxHeartbeats 4000000 in
set_option maxRecDepth 100000 in
theorem c_Sh_renew (N : Nat) {l : Launch} {G : zG} {μ : zM} {o : Nat} (hc : zc o = 5) {S : zOb} (hS : μ o = S) {a1 : Int32} {a2 : Int32} {out : zOb} (h : f_Sh_renew N S a1 a2 = some out) {μ' : zM} (hμ : zset μ o out = μ') : zMV l G yX5_renew cX5_renew 4 none 0 [.ref (G.2.2.1 o 0), .int a1, .int a2] μ μ' := by
  subst hμ
  refine zMV.of (by decide) (Nat.le_of_ble_eq_true rfl) (fun p e s m args below meth c Q ls cx hI hl hret => ?_)
  obtain ⟨hx, hb, hml, hown, hts, hK, hR⟩ := id cx
  have hl : lv_has ls 4 [(0, .ref (G.2.2.1 o 0)), (1, .int a1), (2, .int a2)] := hl
  rw [← zset_idS hS] at hI
  unfold f_Sh_renew at h
  refine lv_iconst (v := (nI 0)) hx hb dX5_renew_0 (by decide) ?_
  refine lv_istore_n (lv' := [(3, .int (nI 0)), (0, .ref (G.2.2.1 o 0)), (1, .int a1), (2, .int a2)]) hx hb dX5_renew_1 rfl hl (by decide) rfl (fun ls hl => ?_)
  exact t_Sh_renew_2 N hc cx hret N S a1 a2 (nI 0) h hI (lv_sub hl [1, 2, 3, 0] rfl)
def f_Sh_has_23 (S : zOb)  (s0 : Int32) : Option Int32 :=
  if (s0 = nI 0 ∨ s0 = nI 1) then some s0 else none
set_option maxHeartbeats 4000000 in
set_option maxRecDepth 100000 in
theorem t_Sh_has_23  {p : Program} {l : Launch} {e : Env} {s : State} {m : MethodId} {args : Array Value} {below : List Frame} {meth : Method} {c : Code} {Q : State → Prop} {G : zG} {μ : zM} {o : Nat} (hc : zc o = 5) {S : zOb} (hS : μ o = S) {out : Int32} (cx : zCX p (zrm 0) s m args c RX5 cX5_has 3 0 G) (hret : zRi p l e (zrm 0) s m args below meth c cX5_has G .boolean Q out μ)   : ∀ (s0 : Int32), f_Sh_has_23 S s0 = some out → ∀ {H : Heap} {locs : List Loc} {ls : Array Slot}, zIW G s μ H locs → lv_has ls 3 [] → W p l e (zrm 0) s m args below meth c H locs 0 0 Q (F0 m 23 ls [.int s0]) := by
  obtain ⟨hx, hb, hml, hown, hts, hK, hR⟩ := id cx
  intro s0  h H locs ls hI hl
  unfold f_Sh_has_23 at h
  obtain ⟨g2, h⟩ := gd_el h
  obtain rfl := Option.some.inj h
  exact hret _ _ _ _ dX5_has_23 (zbool g2) hI
def f_Sh_has_22 (S : zOb)   : Option Int32 :=
  f_Sh_has_23 S (nI 0)
set_option maxHeartbeats 4000000 in
set_option maxRecDepth 100000 in
theorem t_Sh_has_22  {p : Program} {l : Launch} {e : Env} {s : State} {m : MethodId} {args : Array Value} {below : List Frame} {meth : Method} {c : Code} {Q : State → Prop} {G : zG} {μ : zM} {o : Nat} (hc : zc o = 5) {S : zOb} (hS : μ o = S) {out : Int32} (cx : zCX p (zrm 0) s m args c RX5 cX5_has 3 0 G) (hret : zRi p l e (zrm 0) s m args below meth c cX5_has G .boolean Q out μ)   : f_Sh_has_22 S  = some out → ∀ {H : Heap} {locs : List Loc} {ls : Array Slot}, zIW G s μ H locs → lv_has ls 3 [] → W p l e (zrm 0) s m args below meth c H locs 0 0 Q (F0 m 22 ls []) := by
  obtain ⟨hx, hb, hml, hown, hts, hK, hR⟩ := id cx
  intro   h H locs ls hI hl
  unfold f_Sh_has_22 at h
  refine lv_iconst (v := (nI 0)) hx hb dX5_has_22 (by decide) ?_
  exact t_Sh_has_23 hc hS cx hret (nI 0) h hI hl
def f_Sh_has (S : zOb) (a1 : Int32) (a2 : Int32) : Option Int32 :=
  (if a2 < nI 0 then f_Sh_has_22 S else (if a1 < nI 0 then f_Sh_has_22 S else (if ((S.1 0 2) - a2) < a1 then f_Sh_has_22 S else f_Sh_has_23 S (nI 1))))
set_option maxHeartbeats 4000000 in
set_option maxRecDepth 100000 in
theorem c_Sh_has {l : Launch} {G : zG} {μ : zM} {o : Nat} (hc : zc o = 5) {S : zOb} (hS : μ o = S) {a1 : Int32} {a2 : Int32} {out : Int32} (h : f_Sh_has S a1 a2 = some out) : zMI l G yX5_has cX5_has 3 (some .boolean) 0 [.ref (G.2.2.1 o 0), .int a1, .int a2] μ out μ := by
  refine zMI.of (by decide) (Nat.le_of_ble_eq_true rfl) (fun p e s m args below meth c Q ls cx hI hl hret => ?_)
  obtain ⟨hx, hb, hml, hown, hts, hK, hR⟩ := id cx
  have hl : lv_has ls 3 [(0, .ref (G.2.2.1 o 0)), (1, .int a1), (2, .int a2)] := hl
  unfold f_Sh_has at h
  refine lv_iload_n hx hb dX5_has_0 rfl (lv_at hl 2 rfl) ?_
  refine lv_if_lt (tgt := 22) hx hb dX5_has_1 (by decide) (fun c1 => ?_) (fun c1 => ?_)
  · have h := it_p h c1
    exact t_Sh_has_22 hc hS cx hret  h hI (lv_sub hl [] rfl)
  · have h := it_n h c1
    refine lv_iload_n hx hb dX5_has_4 rfl (lv_at hl 1 rfl) ?_
    refine lv_if_lt (tgt := 22) hx hb dX5_has_5 (by decide) (fun c3 => ?_) (fun c3 => ?_)
    · have h := it_p h c3
      exact t_Sh_has_22 hc hS cx hret  h hI (lv_sub hl [] rfl)
    · have h := it_n h c3
      refine lv_iload_n hx hb dX5_has_8 rfl (lv_at hl 1 rfl) ?_
      refine lv_aload_n hx hb dX5_has_9 rfl (lv_at hl 0 rfl) ?_
      refine g5_2 cx hI hc hS w_993 dX5_has_10 ?_
      refine lv_iload_n hx hb dX5_has_13 rfl (lv_at hl 2 rfl) ?_
      refine lv_isub hx hb dX5_has_14 ?_
      refine lv_icmp_gt (tgt := 22) hx hb dX5_has_15 (by decide) (fun c4 => ?_) (fun c4 => ?_)
      · have h := it_p h c4
        exact t_Sh_has_22 hc hS cx hret  h hI (lv_sub hl [] rfl)
      · have h := it_n h c4
        refine lv_iconst (v := (nI 1)) hx hb dX5_has_18 (by decide) ?_
        refine lv_goto (tgt := 23) hx hb dX5_has_19 (by decide) ?_
        exact t_Sh_has_23 hc hS cx hret (nI 1) h hI (lv_sub hl [] rfl)
def f_Sh_cut (S : zOb) (a1 : Int64) : Option Int64 :=
  (if (S.1 0 1) = (nI 0) then some a1.toInt32.toInt8.toInt32.toInt64 else if (S.1 0 1) = (nI 1) then some a1.toInt32.toInt16.toInt32.toInt64 else if (S.1 0 1) = (nI 2) then some a1.toInt32.toInt64 else some a1)
set_option maxHeartbeats 4000000 in
set_option maxRecDepth 100000 in
theorem c_Sh_cut {l : Launch} {G : zG} {μ : zM} {o : Nat} (hc : zc o = 5) {S : zOb} (hS : μ o = S) {a1 : Int64} {out : Int64} (h : f_Sh_cut S a1 = some out) : zML l G yX5_cut cX5_cut 3 (some .long) 0 [.ref (G.2.2.1 o 0), .long a1] μ out μ := by
  refine zML.of (by decide) (Nat.le_of_ble_eq_true rfl) (fun p e s m args below meth c Q ls cx hI hl hret => ?_)
  obtain ⟨hx, hb, hml, hown, hts, hK, hR⟩ := id cx
  have hl : lv_has ls 3 [(0, .ref (G.2.2.1 o 0)), (1, .long a1)] := hl
  unfold f_Sh_cut at h
  refine lv_aload_n hx hb dX5_cut_0 rfl (lv_at hl 0 rfl) ?_
  refine g5_1 cx hI hc hS w_103 dX5_cut_1 ?_
  by_cases c1 : (S.1 0 1) = (nI 0)
  · have h := it_p h c1
    refine lv_tableIn (off := 28) (tgt := 32) hx hb dX5_cut_4 (by rw [c1]; decide) (by rw [c1]; decide) (by rw [c1]; rfl) (by decide) ?_
    refine lv_lload_n hx hb dX5_cut_32 rfl (lv_at hl 1 rfl) ?_
    refine lv_l2i hx hb dX5_cut_33 rfl ?_
    refine lv_i2b hx hb dX5_cut_34 rfl ?_
    refine lv_i2l hx hb dX5_cut_35 rfl ?_
    obtain rfl := Option.some.inj h
    exact hret _ _ _ _ dX5_cut_36 hI
  · have h := it_n h c1
    by_cases c2 : (S.1 0 1) = (nI 1)
    · have h := it_p h c2
      refine lv_tableIn (off := 33) (tgt := 37) hx hb dX5_cut_4 (by rw [c2]; decide) (by rw [c2]; decide) (by rw [c2]; rfl) (by decide) ?_
      refine lv_lload_n hx hb dX5_cut_37 rfl (lv_at hl 1 rfl) ?_
      refine lv_l2i hx hb dX5_cut_38 rfl ?_
      refine lv_i2s hx hb dX5_cut_39 rfl ?_
      refine lv_i2l hx hb dX5_cut_40 rfl ?_
      obtain rfl := Option.some.inj h
      exact hret _ _ _ _ dX5_cut_41 hI
    · have h := it_n h c2
      by_cases c3 : (S.1 0 1) = (nI 2)
      · have h := it_p h c3
        refine lv_tableIn (off := 38) (tgt := 42) hx hb dX5_cut_4 (by rw [c3]; decide) (by rw [c3]; decide) (by rw [c3]; rfl) (by decide) ?_
        refine lv_lload_n hx hb dX5_cut_42 rfl (lv_at hl 1 rfl) ?_
        refine lv_l2i hx hb dX5_cut_43 rfl ?_
        refine lv_i2l hx hb dX5_cut_44 rfl ?_
        obtain rfl := Option.some.inj h
        exact hret _ _ _ _ dX5_cut_45 hI
      · have h := it_n h c3
        refine lv_tableOut (tgt := 46) hx hb dX5_cut_4 (by have tc1 := tn c1 (i := 0) rfl; have tc2 := tn c2 (i := 1) rfl; have tc3 := tn c3 (i := 2) rfl; omega) (by decide) ?_
        refine lv_lload_n hx hb dX5_cut_46 rfl (lv_at hl 1 rfl) ?_
        obtain rfl := Option.some.inj h
        exact hret _ _ _ _ dX5_cut_47 hI
def f_Sh_put_29  (S : zOb) : Option zOb :=
  some S
set_option maxHeartbeats 4000000 in
set_option maxRecDepth 100000 in
theorem t_Sh_put_29  {p : Program} {l : Launch} {e : Env} {s : State} {m : MethodId} {args : Array Value} {below : List Frame} {meth : Method} {c : Code} {Q : State → Prop} {G : zG} {μ : zM} {o : Nat} (hc : zc o = 5) {out : zOb} (cx : zCX p (zrm 1) s m args c RX5 cX5_put 4 1 G) (hret : zRv p l e (zrm 1) s m args below meth c cX5_put G Q (zset μ o out))   : ∀ (S : zOb), f_Sh_put_29 S = some out → ∀ {H : Heap} {locs : List Loc} {ls : Array Slot}, zIW G s (zset μ o S) H locs → lv_has ls 4 [] → W p l e (zrm 1) s m args below meth c H locs 0 0 Q (F0 m 29 ls []) := by
  obtain ⟨hx, hb, hml, hown, hts, hK, hR⟩ := id cx
  intro S  h H locs ls hI hl
  unfold f_Sh_put_29 at h
  obtain rfl := Option.some.inj h
  exact hret _ _ _ _ dX5_put_29 hI
def f_Sh_put (S : zOb) (a1 : Int32) (a2 : Int64) : Option zOb :=
  (if a1 < nI 0 then f_Sh_put_29 S else (if (S.1 0 2) ≤ a1 then f_Sh_put_29 S else (if (nI 24) ≤ a1 then f_Sh_put_29 S else (f_Sh_cut S a2).bind (fun q4 => if zin a1 24 then bnd (zL S 1 a1.toNatClampNeg q4) (fun Z6 => f_Sh_put_29 Z6) else none))))
set_option maxHeartbeats 4000000 in
set_option maxRecDepth 100000 in
theorem c_Sh_put {l : Launch} {G : zG} {μ : zM} {o : Nat} (hc : zc o = 5) {S : zOb} (hS : μ o = S) {a1 : Int32} {a2 : Int64} {out : zOb} (h : f_Sh_put S a1 a2 = some out) {μ' : zM} (hμ : zset μ o out = μ') : zMV l G yX5_put cX5_put 4 none 1 [.ref (G.2.2.1 o 0), .int a1, .long a2] μ μ' := by
  subst hμ
  refine zMV.of (by decide) (Nat.le_of_ble_eq_true rfl) (fun p e s m args below meth c Q ls cx hI hl hret => ?_)
  obtain ⟨hx, hb, hml, hown, hts, hK, hR⟩ := id cx
  have hl : lv_has ls 4 [(0, .ref (G.2.2.1 o 0)), (1, .int a1), (2, .long a2)] := hl
  rw [← zset_idS hS] at hI
  unfold f_Sh_put at h
  refine lv_iload_n hx hb dX5_put_0 rfl (lv_at hl 1 rfl) ?_
  refine lv_if_lt (tgt := 29) hx hb dX5_put_1 (by decide) (fun c1 => ?_) (fun c1 => ?_)
  · have h := it_p h c1
    exact t_Sh_put_29 hc cx hret S h hI (lv_sub hl [] rfl)
  · have h := it_n h c1
    refine lv_iload_n hx hb dX5_put_4 rfl (lv_at hl 1 rfl) ?_
    refine lv_aload_n hx hb dX5_put_5 rfl (lv_at hl 0 rfl) ?_
    refine g5_2 cx hI hc (zset_s _ _ _) w_993 dX5_put_6 ?_
    refine lv_icmp_ge (tgt := 29) hx hb dX5_put_9 (by decide) (fun c2 => ?_) (fun c2 => ?_)
    · have h := it_p h c2
      exact t_Sh_put_29 hc cx hret S h hI (lv_sub hl [] rfl)
    · have h := it_n h c2
      refine lv_iload_n hx hb dX5_put_12 rfl (lv_at hl 1 rfl) ?_
      refine lv_bipush (v := (nI 24)) hx hb dX5_put_13 (by decide) ?_
      refine lv_icmp_ge (tgt := 29) hx hb dX5_put_15 (by decide) (fun c3 => ?_) (fun c3 => ?_)
      · have h := it_p h c3
        exact t_Sh_put_29 hc cx hret S h hI (lv_sub hl [] rfl)
      · have h := it_n h c3
        refine lv_aload_n hx hb dX5_put_18 rfl (lv_at hl 0 rfl) ?_
        refine g5_0 cx hI hc (zset_s _ _ _) w_102 dX5_put_19 ?_
        refine lv_iload_n hx hb dX5_put_22 rfl (lv_at hl 1 rfl) ?_
        refine lv_aload_n hx hb dX5_put_23 rfl (lv_at hl 0 rfl) ?_
        refine lv_lload_n hx hb dX5_put_24 rfl (lv_at hl 2 rfl) ?_
        obtain ⟨q4, hq4, h⟩ := bi_el h
        refine zcVl (As := [.long a2]) cx hI (c_Sh_cut hc (zset_s _ _ _) hq4) mt_yX5_cut mv_yX5_cut w_1022 (by omega) (k5_0 hc) (zv5 hc) rfl hl.1 rfl (Nat.le_of_ble_eq_true rfl) dX5_put_25 (fun H locs hI => ?_)
        obtain ⟨g5, h⟩ := gd_el h
        obtain ⟨Z6, eZ6⟩ : ∃ z : zOb, z = zL S 1 a1.toNatClampNeg q4 := ⟨_, rfl⟩
        have h := bnd_el h eZ6
        refine zr_last cx hI (k5_1 hc) (zset_s _ _ _) (z5_1 hc) rfl g5 (zss eZ6) dX5_put_28 (fun H locs hI => ?_)
        exact t_Sh_put_29 hc cx hret Z6 h hI (lv_sub hl [] rfl)
