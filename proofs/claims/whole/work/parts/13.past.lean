/-! Past -/
def f_Pt_loseOldest_9 (N : Nat) (o : Nat)  : Nat → zM → Nat → Int32 → Option zM
  | 0, _, _, _ => none
  | n + 1, μ, x1, x2 => (if (nI 6) ≤ (x2 + (nI 1)) then bnd (zset μ o (zR (μ o) 1 5 x1)) (fun μ4 => bnd (zset μ4 o (zI (μ4 o) 0 1 (nI 5))) (fun μ5 => some μ5)) else if zin (x2 + (nI 1)) 6 then bnd ((μ o).2.2 1 ((x2 + (nI 1)).toNatClampNeg)) (fun u7 => if zc u7 = 6 then if zin x2 6 then bnd (zset μ o (zR (μ o) 1 x2.toNatClampNeg u7)) (fun μ10 => bnd (x2 + (nI 1)) (fun v11 => f_Pt_loseOldest_9 N o n μ10 x1 v11)) else none else none) else none)
set_option maxHeartbeats 4000000 in
set_option maxRecDepth 100000 in
theorem t_Pt_loseOldest_9 (N : Nat) {p : Program} {l : Launch} {e : Env} {s : State} {m : MethodId} {args : Array Value} {below : List Frame} {meth : Method} {c : Code} {Q : State → Prop} {G : zG} {o : Nat} (hc : zc o = 2) {out : zM} (cx : zCX p (zrm 0) s m args c RX2 cX2_loseOldest 3 0 G) (hret : zRv p l e (zrm 0) s m args below meth c cX2_loseOldest G Q out)   : ∀ (n : Nat) (μ : zM) (x1 : Nat) (x2 : Int32) (hx1 : zc x1 = 6), f_Pt_loseOldest_9 N o n μ x1 x2 = some out → ∀ {H : Heap} {locs : List Loc} {ls : Array Slot}, zIW G s μ H locs → lv_has ls 3 [(0, .ref (G.2.2.1 o 0)), (1, .ref (G.2.2.1 x1 0)), (2, .int x2)] → W p l e (zrm 0) s m args below meth c H locs 0 0 Q (F0 m 9 ls []) := by
  obtain ⟨hx, hb, hml, hown, hts, hK, hR⟩ := id cx
  intro n
  induction n with
  | zero =>
    intro μ x1 x2 hx1 h
    cases h
  | succ n ih =>
    intro μ x1 x2 hx1 h H locs ls hI hl
    rw [f_Pt_loseOldest_9] at h
    refine lv_iload_n hx hb dX2_loseOldest_9 rfl (lv_at hl 2 rfl) ?_
    refine lv_iconst (v := (nI 1)) hx hb dX2_loseOldest_10 (by decide) ?_
    refine lv_iadd hx hb dX2_loseOldest_11 ?_
    refine lv_bipush (v := (nI 6)) hx hb dX2_loseOldest_12 (by decide) ?_
    refine lv_icmp_ge (tgt := 37) hx hb dX2_loseOldest_14 (by decide) (fun c3 => ?_) (fun c3 => ?_)
    · have h := it_p h c3
      refine lv_aload_n hx hb dX2_loseOldest_37 rfl (lv_at hl 0 rfl) ?_
      refine g2_0 cx hI hc rfl w_60 dX2_loseOldest_38 ?_
      refine lv_iconst (v := (nI 5)) hx hb dX2_loseOldest_41 (by decide) ?_
      refine lv_aload_n hx hb dX2_loseOldest_42 rfl (lv_at hl 1 rfl) ?_
      obtain ⟨μ4, eμ4⟩ : ∃ z : zM, z = zset μ o (zR (μ o) 1 5 x1) := ⟨_, rfl⟩
      have h := bnd_el h eμ4
      refine zr_aast cx hI (k2_1 hc) rfl (z2_1 hc) (k6_0 hx1) hx1 rfl (by decide) eμ4.symm dX2_loseOldest_43 (fun H locs hI => ?_)
      refine lv_aload_n hx hb dX2_loseOldest_44 rfl (lv_at hl 0 rfl) ?_
      refine lv_iconst (v := (nI 5)) hx hb dX2_loseOldest_45 (by decide) ?_
      obtain ⟨μ5, eμ5⟩ : ∃ z : zM, z = zset μ4 o (zI (μ4 o) 0 1 (nI 5)) := ⟨_, rfl⟩
      have h := bnd_el h eμ5
      refine p2_1 cx hI hc rfl w_157 eμ5.symm dX2_loseOldest_46 (fun H locs hI => ?_)
      obtain rfl := Option.some.inj h
      exact hret _ _ _ _ dX2_loseOldest_49 hI
    · have h := it_n h c3
      refine lv_aload_n hx hb dX2_loseOldest_17 rfl (lv_at hl 0 rfl) ?_
      refine g2_0 cx hI hc rfl w_60 dX2_loseOldest_18 ?_
      refine lv_iload_n hx hb dX2_loseOldest_21 rfl (lv_at hl 2 rfl) ?_
      refine lv_aload_n hx hb dX2_loseOldest_22 rfl (lv_at hl 0 rfl) ?_
      refine g2_0 cx hI hc rfl w_60 dX2_loseOldest_23 ?_
      refine lv_iload_n hx hb dX2_loseOldest_26 rfl (lv_at hl 2 rfl) ?_
      refine lv_iconst (v := (nI 1)) hx hb dX2_loseOldest_27 (by decide) ?_
      refine lv_iadd hx hb dX2_loseOldest_28 ?_
      obtain ⟨g6, h⟩ := gd_el h
      obtain ⟨u7, eu7⟩ : ∃ z : Nat, z = (μ o).2.2 1 ((x2 + (nI 1)).toNatClampNeg) := ⟨_, rfl⟩
      have h := bnd_el h eu7
      obtain ⟨g8, h⟩ := gd_el h
      refine zr_aald (t0 := 3) (C := RX6) (f := fun i => G.2.2.1 ((μ o).2.2 1 i) 0) cx hI (k2_1 hc) rfl (z2_1 hc _) rfl rfl g6 dX2_loseOldest_29 ?_
      refine zaa eu7 ?_
      obtain ⟨g9, h⟩ := gd_el h
      obtain ⟨μ10, eμ10⟩ : ∃ z : zM, z = zset μ o (zR (μ o) 1 x2.toNatClampNeg u7) := ⟨_, rfl⟩
      have h := bnd_el h eμ10
      refine zr_aast cx hI (k2_1 hc) rfl (z2_1 hc) (k6_0 g8) g8 rfl g9 eμ10.symm dX2_loseOldest_30 (fun H locs hI => ?_)
      obtain ⟨v11, ev11⟩ : ∃ z : Int32, z = x2 + (nI 1) := ⟨_, rfl⟩
      have h := bnd_el h ev11
      refine lv_iinc (v := v11) (lv' := [(2, .int v11), (0, .ref (G.2.2.1 o 0)), (1, .ref (G.2.2.1 x1 0))]) hx hb dX2_loseOldest_31 hl (k := 2) rfl (by rw [ev11]; rfl) (by decide) rfl (fun ls hl => ?_)
      refine lv_goto (tgt := 9) hx hb dX2_loseOldest_34 (by decide) ?_
      exact ih μ10 x1 v11 hx1 h hI (lv_sub hl [1, 2, 0] rfl)
def f_Pt_loseOldest (N : Nat) (μ : zM) (o : Nat) : Option zM :=
  bnd ((μ o).2.2 1 0) (fun u1 => if zc u1 = 6 then f_Pt_loseOldest_9 N o N μ u1 (nI 0) else none)
set_option maxHeartbeats 4000000 in
set_option maxRecDepth 100000 in
theorem c_Pt_loseOldest (N : Nat) {l : Launch} {G : zG} {μ : zM} {o : Nat} (hc : zc o = 2)  {out : zM} (h : f_Pt_loseOldest N μ o  = some out) : zMV l G yX2_loseOldest cX2_loseOldest 3 none 0 [.ref (G.2.2.1 o 0)] μ out := by
  refine zMV.of (by decide) (Nat.le_of_ble_eq_true rfl) (fun p e s m args below meth c Q ls cx hI hl hret => ?_)
  obtain ⟨hx, hb, hml, hown, hts, hK, hR⟩ := id cx
  have hl : lv_has ls 3 [(0, .ref (G.2.2.1 o 0))] := hl
  unfold f_Pt_loseOldest at h
  refine lv_aload_n hx hb dX2_loseOldest_0 rfl (lv_at hl 0 rfl) ?_
  refine g2_0 cx hI hc rfl w_60 dX2_loseOldest_1 ?_
  refine lv_iconst (v := (nI 0)) hx hb dX2_loseOldest_4 (by decide) ?_
  obtain ⟨u1, eu1⟩ : ∃ z : Nat, z = (μ o).2.2 1 0 := ⟨_, rfl⟩
  have h := bnd_el h eu1
  obtain ⟨g2, h⟩ := gd_el h
  refine zr_aald (t0 := 3) (C := RX6) (f := fun i => G.2.2.1 ((μ o).2.2 1 i) 0) cx hI (k2_1 hc) rfl (z2_1 hc _) rfl rfl (by decide) dX2_loseOldest_5 ?_
  refine zaa eu1 ?_
  refine lv_astore_n (lv' := [(1, .ref (G.2.2.1 u1 0)), (0, .ref (G.2.2.1 o 0))]) hx hb dX2_loseOldest_6 rfl hl (by decide) rfl (fun ls hl => ?_)
  refine lv_iconst (v := (nI 0)) hx hb dX2_loseOldest_7 (by decide) ?_
  refine lv_istore_n (lv' := [(2, .int (nI 0)), (1, .ref (G.2.2.1 u1 0)), (0, .ref (G.2.2.1 o 0))]) hx hb dX2_loseOldest_8 rfl hl (by decide) rfl (fun ls hl => ?_)
  exact t_Pt_loseOldest_9 N hc cx hret N μ u1 (nI 0) g2 h hI (lv_sub hl [2, 1, 0] rfl)
def f_Pt_keep_13 (N : Nat) (o : Nat) (o2 : Nat)  (μ : zM) : Option zM :=
  if zin ((μ o).1 0 1) 6 then bnd ((μ o).2.2 1 (((μ o).1 0 1).toNatClampNeg)) (fun u3 => if zc u3 = 6 then if o2 ≠ u3 then (f_St_takeFrom (μ u3) (μ o2)).bind (fun q6 => bnd (zset μ u3 q6) (fun μ7 => bnd (zset μ7 o (zI (μ7 o) 0 1 (((μ7 o).1 0 1) + (nI 1)))) (fun μ8 => some μ8))) else none else none) else none
set_option maxHeartbeats 4000000 in
set_option maxRecDepth 100000 in
theorem t_Pt_keep_13 (N : Nat) {p : Program} {l : Launch} {e : Env} {s : State} {m : MethodId} {args : Array Value} {below : List Frame} {meth : Method} {c : Code} {Q : State → Prop} {G : zG} {o : Nat} (hc : zc o = 2) {o2 : Nat} (hc2 : zc o2 = 6) {out : zM} (cx : zCX p (zrm 2) s m args c RX2 cX2_keep 2 2 G) (hret : zRv p l e (zrm 2) s m args below meth c cX2_keep G Q out)   : ∀ (μ : zM), f_Pt_keep_13 N o o2 μ = some out → ∀ {H : Heap} {locs : List Loc} {ls : Array Slot}, zIW G s μ H locs → lv_has ls 2 [(0, .ref (G.2.2.1 o 0)), (1, .ref (G.2.2.1 o2 0))] → W p l e (zrm 2) s m args below meth c H locs 0 0 Q (F0 m 13 ls []) := by
  obtain ⟨hx, hb, hml, hown, hts, hK, hR⟩ := id cx
  intro μ  h H locs ls hI hl
  unfold f_Pt_keep_13 at h
  refine lv_aload_n hx hb dX2_keep_13 rfl (lv_at hl 0 rfl) ?_
  refine g2_0 cx hI hc rfl w_60 dX2_keep_14 ?_
  refine lv_aload_n hx hb dX2_keep_17 rfl (lv_at hl 0 rfl) ?_
  refine g2_1 cx hI hc rfl w_157 dX2_keep_18 ?_
  obtain ⟨g2, h⟩ := gd_el h
  obtain ⟨u3, eu3⟩ : ∃ z : Nat, z = (μ o).2.2 1 (((μ o).1 0 1).toNatClampNeg) := ⟨_, rfl⟩
  have h := bnd_el h eu3
  obtain ⟨g4, h⟩ := gd_el h
  refine zr_aald (t0 := 3) (C := RX6) (f := fun i => G.2.2.1 ((μ o).2.2 1 i) 0) cx hI (k2_1 hc) rfl (z2_1 hc _) rfl rfl g2 dX2_keep_21 ?_
  refine zaa eu3 ?_
  refine lv_aload_n hx hb dX2_keep_22 rfl (lv_at hl 1 rfl) ?_
  obtain ⟨g5, h⟩ := gd_el h
  obtain ⟨q6, hq6, h⟩ := bi_el h
  obtain ⟨μ7, eμ7⟩ : ∃ z : zM, z = zset μ u3 q6 := ⟨_, rfl⟩
  have h := bnd_el h eμ7
  refine zcVv (As := [.ref (G.2.2.1 o2 0)]) cx hI (c_St_takeFrom g4 rfl hc2 rfl g5 hq6 eμ7.symm) mt_yX6_takeFrom mv_yX6_takeFrom w_162 (by omega) (k6_0 g4) (zv6 g4) rfl hl.1 rfl (Nat.le_of_ble_eq_true rfl) dX2_keep_23 (fun H locs hI => ?_)
  refine lv_aload_n hx hb dX2_keep_26 rfl (lv_at hl 0 rfl) ?_
  refine lv_dup hx hb dX2_keep_27 rfl ?_
  refine g2_1 cx hI hc rfl w_157 dX2_keep_28 ?_
  refine lv_iconst (v := (nI 1)) hx hb dX2_keep_31 (by decide) ?_
  refine lv_iadd hx hb dX2_keep_32 ?_
  obtain ⟨μ8, eμ8⟩ : ∃ z : zM, z = zset μ7 o (zI (μ7 o) 0 1 (((μ7 o).1 0 1) + (nI 1))) := ⟨_, rfl⟩
  have h := bnd_el h eμ8
  refine p2_1 cx hI hc rfl w_157 eμ8.symm dX2_keep_33 (fun H locs hI => ?_)
  obtain rfl := Option.some.inj h
  exact hret _ _ _ _ dX2_keep_36 hI
def f_Pt_keep (N : Nat) (μ : zM) (o : Nat) (o2 : Nat) : Option zM :=
  (if ((μ o).1 0 1) < (nI 6) then f_Pt_keep_13 N o o2 μ else (f_Pt_loseOldest N μ o).bind (fun q9 => f_Pt_keep_13 N o o2 q9))
set_option maxHeartbeats 4000000 in
set_option maxRecDepth 100000 in
theorem c_Pt_keep (N : Nat) {l : Launch} {G : zG} {μ : zM} {o : Nat} (hc : zc o = 2) {o2 : Nat} (hc2 : zc o2 = 6)  {out : zM} (h : f_Pt_keep N μ o o2  = some out) : zMV l G yX2_keep cX2_keep 2 none 2 [.ref (G.2.2.1 o 0), .ref (G.2.2.1 o2 0)] μ out := by
  refine zMV.of (by decide) (Nat.le_of_ble_eq_true rfl) (fun p e s m args below meth c Q ls cx hI hl hret => ?_)
  obtain ⟨hx, hb, hml, hown, hts, hK, hR⟩ := id cx
  have hl : lv_has ls 2 [(0, .ref (G.2.2.1 o 0)), (1, .ref (G.2.2.1 o2 0))] := hl
  unfold f_Pt_keep at h
  refine lv_aload_n hx hb dX2_keep_0 rfl (lv_at hl 0 rfl) ?_
  refine g2_1 cx hI hc rfl w_157 dX2_keep_1 ?_
  refine lv_bipush (v := (nI 6)) hx hb dX2_keep_4 (by decide) ?_
  refine lv_icmp_lt (tgt := 13) hx hb dX2_keep_6 (by decide) (fun c1 => ?_) (fun c1 => ?_)
  · have h := it_p h c1
    exact t_Pt_keep_13 N hc hc2 cx hret μ h hI hl
  · have h := it_n h c1
    refine lv_aload_n hx hb dX2_keep_9 rfl (lv_at hl 0 rfl) ?_
    obtain ⟨q9, hq9, h⟩ := bi_el h
    refine zcVv (As := []) cx hI (c_Pt_loseOldest N hc hq9) mt_yX2_loseOldest mv_yX2_loseOldest w_158 (by omega) (k2_0 hc) (zv2 hc) rfl hl.1 rfl (Nat.le_of_ble_eq_true rfl) dX2_keep_10 (fun H locs hI => ?_)
    exact t_Pt_keep_13 N hc hc2 cx hret q9 h hI hl
def f_Pt_bringBack (μ : zM) (o : Nat) : Option (Int32 × zM) :=
  (if nI 0 < ((μ o).1 0 1) then bnd (zset μ o (zI (μ o) 0 1 (((μ o).1 0 1) - (nI 1)))) (fun μ2 => if zin ((μ2 o).1 0 1) 6 then bnd ((μ2 o).2.2 1 (((μ2 o).1 0 1).toNatClampNeg)) (fun u4 => if zc u4 = 6 then if u4 ≠ 0 then (f_St_takeFrom (μ2 0) (μ2 u4)).bind (fun q7 => bnd (zset μ2 0 q7) (fun μ8 => some ((nI 1), μ8))) else none else none) else none) else some ((nI 0), μ))
set_option maxHeartbeats 4000000 in
set_option maxRecDepth 100000 in
theorem c_Pt_bringBack {l : Launch} {G : zG} {μ : zM} {o : Nat} (hc : zc o = 2)  {out : (Int32 × zM)} (h : f_Pt_bringBack μ o  = some out) : zMI l G yX2_bringBack cX2_bringBack 2 (some .boolean) 2 [.ref (G.2.2.1 o 0), .ref (G.2.2.1 0 0)] μ out.1 out.2 := by
  refine zMI.of (by decide) (Nat.le_of_ble_eq_true rfl) (fun p e s m args below meth c Q ls cx hI hl hret => ?_)
  obtain ⟨hx, hb, hml, hown, hts, hK, hR⟩ := id cx
  have hl : lv_has ls 2 [(0, .ref (G.2.2.1 o 0)), (1, .ref (G.2.2.1 0 0))] := hl
  unfold f_Pt_bringBack at h
  refine lv_aload_n hx hb dX2_bringBack_0 rfl (lv_at hl 0 rfl) ?_
  refine g2_1 cx hI hc rfl w_157 dX2_bringBack_1 ?_
  refine lv_if_gt (tgt := 9) hx hb dX2_bringBack_4 (by decide) (fun c1 => ?_) (fun c1 => ?_)
  · have h := it_p h c1
    refine lv_aload_n hx hb dX2_bringBack_9 rfl (lv_at hl 0 rfl) ?_
    refine lv_dup hx hb dX2_bringBack_10 rfl ?_
    refine g2_1 cx hI hc rfl w_157 dX2_bringBack_11 ?_
    refine lv_iconst (v := (nI 1)) hx hb dX2_bringBack_14 (by decide) ?_
    refine lv_isub hx hb dX2_bringBack_15 ?_
    obtain ⟨μ2, eμ2⟩ : ∃ z : zM, z = zset μ o (zI (μ o) 0 1 (((μ o).1 0 1) - (nI 1))) := ⟨_, rfl⟩
    have h := bnd_el h eμ2
    refine p2_1 cx hI hc rfl w_157 eμ2.symm dX2_bringBack_16 (fun H locs hI => ?_)
    refine lv_aload_n hx hb dX2_bringBack_19 rfl (lv_at hl 1 rfl) ?_
    refine lv_aload_n hx hb dX2_bringBack_20 rfl (lv_at hl 0 rfl) ?_
    refine g2_0 cx hI hc rfl w_60 dX2_bringBack_21 ?_
    refine lv_aload_n hx hb dX2_bringBack_24 rfl (lv_at hl 0 rfl) ?_
    refine g2_1 cx hI hc rfl w_157 dX2_bringBack_25 ?_
    obtain ⟨g3, h⟩ := gd_el h
    obtain ⟨u4, eu4⟩ : ∃ z : Nat, z = (μ2 o).2.2 1 (((μ2 o).1 0 1).toNatClampNeg) := ⟨_, rfl⟩
    have h := bnd_el h eu4
    obtain ⟨g5, h⟩ := gd_el h
    refine zr_aald (t0 := 3) (C := RX6) (f := fun i => G.2.2.1 ((μ2 o).2.2 1 i) 0) cx hI (k2_1 hc) rfl (z2_1 hc _) rfl rfl g3 dX2_bringBack_28 ?_
    refine zaa eu4 ?_
    obtain ⟨g6, h⟩ := gd_el h
    obtain ⟨q7, hq7, h⟩ := bi_el h
    obtain ⟨μ8, eμ8⟩ : ∃ z : zM, z = zset μ2 0 q7 := ⟨_, rfl⟩
    have h := bnd_el h eμ8
    refine zcVv (As := [.ref (G.2.2.1 u4 0)]) cx hI (c_St_takeFrom rfl rfl g5 rfl g6 hq7 eμ8.symm) mt_yX6_takeFrom mv_yX6_takeFrom w_162 (by omega) (k6_0 rfl) (zv6 rfl) rfl hl.1 rfl (Nat.le_of_ble_eq_true rfl) dX2_bringBack_29 (fun H locs hI => ?_)
    refine lv_iconst (v := (nI 1)) hx hb dX2_bringBack_32 (by decide) ?_
    obtain rfl := Option.some.inj h
    exact hret _ _ _ _ dX2_bringBack_33 (zbool (Or.inr rfl)) hI
  · have h := it_n h c1
    refine lv_iconst (v := (nI 0)) hx hb dX2_bringBack_7 (by decide) ?_
    obtain rfl := Option.some.inj h
    exact hret _ _ _ _ dX2_bringBack_8 (zbool (Or.inl rfl)) hI
def f_Pt_takeFrom_2 (N : Nat) (o : Nat) (o2 : Nat)  : Nat → zM → Int32 → Option zM
  | 0, _, _ => none
  | n + 1, μ, x2 => (if (nI 6) ≤ x2 then bnd (zset μ o (zI (μ o) 0 1 ((μ o2).1 0 1))) (fun μ2 => some μ2) else if zin x2 6 then bnd ((μ o).2.2 1 x2.toNatClampNeg) (fun u4 => if zc u4 = 6 then if zin x2 6 then bnd ((μ o2).2.2 1 x2.toNatClampNeg) (fun u7 => if zc u7 = 6 then if u7 ≠ u4 then (f_St_takeFrom (μ u4) (μ u7)).bind (fun q10 => bnd (zset μ u4 q10) (fun μ11 => bnd (x2 + (nI 1)) (fun v12 => f_Pt_takeFrom_2 N o o2 n μ11 v12))) else none else none) else none else none) else none)
set_option maxHeartbeats 4000000 in
set_option maxRecDepth 100000 in
theorem t_Pt_takeFrom_2 (N : Nat) {p : Program} {l : Launch} {e : Env} {s : State} {m : MethodId} {args : Array Value} {below : List Frame} {meth : Method} {c : Code} {Q : State → Prop} {G : zG} {o : Nat} (hc : zc o = 2) {o2 : Nat} (hc2 : zc o2 = 2) {out : zM} (cx : zCX p (zrm 2) s m args c RX2 cX2_takeFrom 3 2 G) (hret : zRv p l e (zrm 2) s m args below meth c cX2_takeFrom G Q out)   : ∀ (n : Nat) (μ : zM) (x2 : Int32), f_Pt_takeFrom_2 N o o2 n μ x2 = some out → ∀ {H : Heap} {locs : List Loc} {ls : Array Slot}, zIW G s μ H locs → lv_has ls 3 [(0, .ref (G.2.2.1 o 0)), (1, .ref (G.2.2.1 o2 0)), (2, .int x2)] → W p l e (zrm 2) s m args below meth c H locs 0 0 Q (F0 m 2 ls []) := by
  obtain ⟨hx, hb, hml, hown, hts, hK, hR⟩ := id cx
  intro n
  induction n with
  | zero =>
    intro μ x2  h
    cases h
  | succ n ih =>
    intro μ x2  h H locs ls hI hl
    rw [f_Pt_takeFrom_2] at h
    refine lv_iload_n hx hb dX2_takeFrom_2 rfl (lv_at hl 2 rfl) ?_
    refine lv_bipush (v := (nI 6)) hx hb dX2_takeFrom_3 (by decide) ?_
    refine lv_icmp_ge (tgt := 29) hx hb dX2_takeFrom_5 (by decide) (fun c1 => ?_) (fun c1 => ?_)
    · have h := it_p h c1
      refine lv_aload_n hx hb dX2_takeFrom_29 rfl (lv_at hl 0 rfl) ?_
      refine lv_aload_n hx hb dX2_takeFrom_30 rfl (lv_at hl 1 rfl) ?_
      refine g2_1 cx hI hc2 rfl w_157 dX2_takeFrom_31 ?_
      obtain ⟨μ2, eμ2⟩ : ∃ z : zM, z = zset μ o (zI (μ o) 0 1 ((μ o2).1 0 1)) := ⟨_, rfl⟩
      have h := bnd_el h eμ2
      refine p2_1 cx hI hc rfl w_157 eμ2.symm dX2_takeFrom_34 (fun H locs hI => ?_)
      obtain rfl := Option.some.inj h
      exact hret _ _ _ _ dX2_takeFrom_37 hI
    · have h := it_n h c1
      refine lv_aload_n hx hb dX2_takeFrom_8 rfl (lv_at hl 0 rfl) ?_
      refine g2_0 cx hI hc rfl w_60 dX2_takeFrom_9 ?_
      refine lv_iload_n hx hb dX2_takeFrom_12 rfl (lv_at hl 2 rfl) ?_
      obtain ⟨g3, h⟩ := gd_el h
      obtain ⟨u4, eu4⟩ : ∃ z : Nat, z = (μ o).2.2 1 x2.toNatClampNeg := ⟨_, rfl⟩
      have h := bnd_el h eu4
      obtain ⟨g5, h⟩ := gd_el h
      refine zr_aald (t0 := 3) (C := RX6) (f := fun i => G.2.2.1 ((μ o).2.2 1 i) 0) cx hI (k2_1 hc) rfl (z2_1 hc _) rfl rfl g3 dX2_takeFrom_13 ?_
      refine zaa eu4 ?_
      refine lv_aload_n hx hb dX2_takeFrom_14 rfl (lv_at hl 1 rfl) ?_
      refine g2_0 cx hI hc2 rfl w_60 dX2_takeFrom_15 ?_
      refine lv_iload_n hx hb dX2_takeFrom_18 rfl (lv_at hl 2 rfl) ?_
      obtain ⟨g6, h⟩ := gd_el h
      obtain ⟨u7, eu7⟩ : ∃ z : Nat, z = (μ o2).2.2 1 x2.toNatClampNeg := ⟨_, rfl⟩
      have h := bnd_el h eu7
      obtain ⟨g8, h⟩ := gd_el h
      refine zr_aald (t0 := 3) (C := RX6) (f := fun i => G.2.2.1 ((μ o2).2.2 1 i) 0) cx hI (k2_1 hc2) rfl (z2_1 hc2 _) rfl rfl g6 dX2_takeFrom_19 ?_
      refine zaa eu7 ?_
      obtain ⟨g9, h⟩ := gd_el h
      obtain ⟨q10, hq10, h⟩ := bi_el h
      obtain ⟨μ11, eμ11⟩ : ∃ z : zM, z = zset μ u4 q10 := ⟨_, rfl⟩
      have h := bnd_el h eμ11
      refine zcVv (As := [.ref (G.2.2.1 u7 0)]) cx hI (c_St_takeFrom g5 rfl g8 rfl g9 hq10 eμ11.symm) mt_yX6_takeFrom mv_yX6_takeFrom w_162 (by omega) (k6_0 g5) (zv6 g5) rfl hl.1 rfl (Nat.le_of_ble_eq_true rfl) dX2_takeFrom_20 (fun H locs hI => ?_)
      obtain ⟨v12, ev12⟩ : ∃ z : Int32, z = x2 + (nI 1) := ⟨_, rfl⟩
      have h := bnd_el h ev12
      refine lv_iinc (v := v12) (lv' := [(2, .int v12), (0, .ref (G.2.2.1 o 0)), (1, .ref (G.2.2.1 o2 0))]) hx hb dX2_takeFrom_23 hl (k := 2) rfl (by rw [ev12]; rfl) (by decide) rfl (fun ls hl => ?_)
      refine lv_goto (tgt := 2) hx hb dX2_takeFrom_26 (by decide) ?_
      exact ih μ11 v12 h hI (lv_sub hl [1, 2, 0] rfl)
def f_Pt_takeFrom (N : Nat) (μ : zM) (o : Nat) (o2 : Nat) : Option zM :=
  f_Pt_takeFrom_2 N o o2 N μ (nI 0)
set_option maxHeartbeats 4000000 in
set_option maxRecDepth 100000 in
theorem c_Pt_takeFrom (N : Nat) {l : Launch} {G : zG} {μ : zM} {o : Nat} (hc : zc o = 2) {o2 : Nat} (hc2 : zc o2 = 2)  {out : zM} (h : f_Pt_takeFrom N μ o o2  = some out) : zMV l G yX2_takeFrom cX2_takeFrom 3 none 2 [.ref (G.2.2.1 o 0), .ref (G.2.2.1 o2 0)] μ out := by
  refine zMV.of (by decide) (Nat.le_of_ble_eq_true rfl) (fun p e s m args below meth c Q ls cx hI hl hret => ?_)
  obtain ⟨hx, hb, hml, hown, hts, hK, hR⟩ := id cx
  have hl : lv_has ls 3 [(0, .ref (G.2.2.1 o 0)), (1, .ref (G.2.2.1 o2 0))] := hl
  unfold f_Pt_takeFrom at h
  refine lv_iconst (v := (nI 0)) hx hb dX2_takeFrom_0 (by decide) ?_
  refine lv_istore_n (lv' := [(2, .int (nI 0)), (0, .ref (G.2.2.1 o 0)), (1, .ref (G.2.2.1 o2 0))]) hx hb dX2_takeFrom_1 rfl hl (by decide) rfl (fun ls hl => ?_)
  exact t_Pt_takeFrom_2 N hc hc2 cx hret N μ (nI 0) h hI (lv_sub hl [1, 2, 0] rfl)
