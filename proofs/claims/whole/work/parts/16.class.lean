/-! the class -/
def f_RS_remembered_15 (N : Nat)  (μ : zM) (x1 : Int32) : Option (Int32 × zM) :=
  some (x1, μ)
set_option maxHeartbeats 4000000 in
set_option maxRecDepth 100000 in
theorem t_RS_remembered_15 (N : Nat) {p : Program} {l : Launch} {e : Env} {s : State} {m : MethodId} {args : Array Value} {below : List Frame} {meth : Method} {c : Code} {Q : State → Prop} {G : zG}  {out : (Int32 × zM)} (cx : zCX p (zrm 3) s m args c RX7 cX7_remembered 2 3 G) (hret : zRi p l e (zrm 3) s m args below meth c cX7_remembered G .int Q out.1 out.2)   : ∀ (μ : zM) (x1 : Int32), f_RS_remembered_15 N μ x1 = some out → ∀ {H : Heap} {locs : List Loc} {ls : Array Slot}, zIW G s μ H locs → lv_has ls 2 [(1, .int x1)] → W p l e (zrm 3) s m args below meth c H locs 0 0 Q (F0 m 15 ls []) := by
  obtain ⟨hx, hb, hml, hown, hts, hK, hR⟩ := id cx
  intro μ x1  h H locs ls hI hl
  unfold f_RS_remembered_15 at h
  refine lv_iload_n hx hb dX7_remembered_15 rfl (lv_at hl 0 rfl) ?_
  obtain rfl := Option.some.inj h
  exact hret _ _ _ _ dX7_remembered_16 rfl hI
def f_RS_remembered (N : Nat) (μ : zM) (a1 : Int32) : Option (Int32 × zM) :=
  (if a1 < nI 0 then f_RS_remembered_15 N μ a1 else (f_Pt_keep N μ 16 1).bind (fun q2 => f_RS_remembered_15 N q2 a1))
set_option maxHeartbeats 4000000 in
set_option maxRecDepth 100000 in
theorem c_RS_remembered (N : Nat) {l : Launch} {G : zG} {μ : zM}  {a1 : Int32} {out : (Int32 × zM)} (h : f_RS_remembered N μ a1 = some out) : zMI l G yX7_remembered cX7_remembered 2 (some .int) 3 [.ref (G.2.2.1 28 0), .int a1] μ out.1 out.2 := by
  refine zMI.of (by decide) (Nat.le_of_ble_eq_true rfl) (fun p e s m args below meth c Q ls cx hI hl hret => ?_)
  obtain ⟨hx, hb, hml, hown, hts, hK, hR⟩ := id cx
  have hl : lv_has ls 2 [(0, .ref (G.2.2.1 28 0)), (1, .int a1)] := hl
  unfold f_RS_remembered at h
  refine lv_iload_n hx hb dX7_remembered_0 rfl (lv_at hl 1 rfl) ?_
  refine lv_if_lt (tgt := 15) hx hb dX7_remembered_1 (by decide) (fun c1 => ?_) (fun c1 => ?_)
  · have h := it_p h c1
    exact t_RS_remembered_15 N  cx hret μ a1 h hI (lv_sub hl [1] rfl)
  · have h := it_n h c1
    refine lv_aload_n hx hb dX7_remembered_4 rfl (lv_at hl 0 rfl) ?_
    refine g7_2 cx hI rfl rfl w_21 dX7_remembered_5 ?_
    refine lv_aload_n hx hb dX7_remembered_8 rfl (lv_at hl 0 rfl) ?_
    refine g7_1 cx hI rfl rfl w_17 dX7_remembered_9 ?_
    obtain ⟨q2, hq2, h⟩ := bi_el h
    refine zcVv (As := [.ref (G.2.2.1 1 0)]) cx hI (c_Pt_keep N rfl rfl hq2) mt_yX2_keep mv_yX2_keep w_153 (by omega) (k2_0 rfl) (zv2 rfl) rfl hl.1 rfl (Nat.le_of_ble_eq_true rfl) dX7_remembered_12 (fun H locs hI => ?_)
    exact t_RS_remembered_15 N  cx hret q2 a1 h hI (lv_sub hl [1] rfl)
def f_RS_book (N : Nat) (μ : zM) (a1 : Int32) : Option (Int32 × zM) :=
  (f_St_takeFrom (μ 1) (μ 0)).bind (fun q1 => bnd (zset μ 1 q1) (fun μ2 => (f_St_addBook (μ2 0) a1).bind (fun q3 => bnd (zset μ2 0 q3.2) (fun μ4 => (f_RS_remembered N μ4 q3.1).bind (fun q5 => some (q5.1, q5.2))))))
set_option maxHeartbeats 4000000 in
set_option maxRecDepth 100000 in
theorem c_RS_book (N : Nat) {l : Launch} {G : zG} {μ : zM}  {a1 : Int32} {out : (Int32 × zM)} (h : f_RS_book N μ a1 = some out) : zMI l G yX7_book cX7_book 2 (some .int) 4 [.ref (G.2.2.1 28 0), .int a1] μ out.1 out.2 := by
  refine zMI.of (by decide) (Nat.le_of_ble_eq_true rfl) (fun p e s m args below meth c Q ls cx hI hl hret => ?_)
  obtain ⟨hx, hb, hml, hown, hts, hK, hR⟩ := id cx
  have hl : lv_has ls 2 [(0, .ref (G.2.2.1 28 0)), (1, .int a1)] := hl
  unfold f_RS_book at h
  refine lv_aload_n hx hb dX7_book_0 rfl (lv_at hl 0 rfl) ?_
  refine g7_1 cx hI rfl rfl w_17 dX7_book_1 ?_
  refine lv_aload_n hx hb dX7_book_4 rfl (lv_at hl 0 rfl) ?_
  refine g7_0 cx hI rfl rfl w_16 dX7_book_5 ?_
  obtain ⟨q1, hq1, h⟩ := bi_el h
  obtain ⟨μ2, eμ2⟩ : ∃ z : zM, z = zset μ 1 q1 := ⟨_, rfl⟩
  have h := bnd_el h eμ2
  refine zcVv (As := [.ref (G.2.2.1 0 0)]) cx hI (c_St_takeFrom rfl rfl rfl rfl (by decide) hq1 eμ2.symm) mt_yX6_takeFrom mv_yX6_takeFrom w_131 (by omega) (k6_0 rfl) (zv6 rfl) rfl hl.1 rfl (Nat.le_of_ble_eq_true rfl) dX7_book_8 (fun H locs hI => ?_)
  refine lv_aload_n hx hb dX7_book_11 rfl (lv_at hl 0 rfl) ?_
  refine lv_aload_n hx hb dX7_book_12 rfl (lv_at hl 0 rfl) ?_
  refine g7_0 cx hI rfl rfl w_16 dX7_book_13 ?_
  refine lv_iload_n hx hb dX7_book_16 rfl (lv_at hl 1 rfl) ?_
  obtain ⟨q3, hq3, h⟩ := bi_el h
  obtain ⟨μ4, eμ4⟩ : ∃ z : zM, z = zset μ2 0 q3.2 := ⟨_, rfl⟩
  have h := bnd_el h eμ4
  refine zcVi (As := [.int a1]) cx hI (c_St_addBook rfl rfl hq3 eμ4.symm) mt_yX6_addBook mv_yX6_addBook w_141 (by omega) (k6_0 rfl) (zv6 rfl) rfl hl.1 rfl (Nat.le_of_ble_eq_true rfl) dX7_book_17 (fun H locs hI => ?_)
  obtain ⟨q5, hq5, h⟩ := bi_el h
  refine zcVi (As := [.int q3.1]) cx hI (c_RS_remembered N hq5) mt_yX7_remembered mv_yX7_remembered w_149 (by omega) (k7_0 rfl) (zv7 rfl) rfl hl.1 rfl (Nat.le_of_ble_eq_true rfl) dX7_book_20 (fun H locs hI => ?_)
  obtain rfl := Option.some.inj h
  exact hret _ _ _ _ dX7_book_23 rfl hI
def f_RS_words (N : Nat) (μ : zM) (a1 : Int32) (a2 : Int32) : Option (Int32 × zM) :=
  (f_St_takeFrom (μ 1) (μ 0)).bind (fun q1 => bnd (zset μ 1 q1) (fun μ2 => (f_St_changeWords (μ2 0) a1 a2).bind (fun q3 => bnd (zset μ2 0 q3.2) (fun μ4 => (f_RS_remembered N μ4 q3.1).bind (fun q5 => some (q5.1, q5.2))))))
set_option maxHeartbeats 4000000 in
set_option maxRecDepth 100000 in
theorem c_RS_words (N : Nat) {l : Launch} {G : zG} {μ : zM}  {a1 : Int32} {a2 : Int32} {out : (Int32 × zM)} (h : f_RS_words N μ a1 a2 = some out) : zMI l G yX7_words cX7_words 3 (some .int) 4 [.ref (G.2.2.1 28 0), .int a1, .int a2] μ out.1 out.2 := by
  refine zMI.of (by decide) (Nat.le_of_ble_eq_true rfl) (fun p e s m args below meth c Q ls cx hI hl hret => ?_)
  obtain ⟨hx, hb, hml, hown, hts, hK, hR⟩ := id cx
  have hl : lv_has ls 3 [(0, .ref (G.2.2.1 28 0)), (1, .int a1), (2, .int a2)] := hl
  unfold f_RS_words at h
  refine lv_aload_n hx hb dX7_words_0 rfl (lv_at hl 0 rfl) ?_
  refine g7_1 cx hI rfl rfl w_17 dX7_words_1 ?_
  refine lv_aload_n hx hb dX7_words_4 rfl (lv_at hl 0 rfl) ?_
  refine g7_0 cx hI rfl rfl w_16 dX7_words_5 ?_
  obtain ⟨q1, hq1, h⟩ := bi_el h
  obtain ⟨μ2, eμ2⟩ : ∃ z : zM, z = zset μ 1 q1 := ⟨_, rfl⟩
  have h := bnd_el h eμ2
  refine zcVv (As := [.ref (G.2.2.1 0 0)]) cx hI (c_St_takeFrom rfl rfl rfl rfl (by decide) hq1 eμ2.symm) mt_yX6_takeFrom mv_yX6_takeFrom w_131 (by omega) (k6_0 rfl) (zv6 rfl) rfl hl.1 rfl (Nat.le_of_ble_eq_true rfl) dX7_words_8 (fun H locs hI => ?_)
  refine lv_aload_n hx hb dX7_words_11 rfl (lv_at hl 0 rfl) ?_
  refine lv_aload_n hx hb dX7_words_12 rfl (lv_at hl 0 rfl) ?_
  refine g7_0 cx hI rfl rfl w_16 dX7_words_13 ?_
  refine lv_iload_n hx hb dX7_words_16 rfl (lv_at hl 1 rfl) ?_
  refine lv_iload_n hx hb dX7_words_17 rfl (lv_at hl 2 rfl) ?_
  obtain ⟨q3, hq3, h⟩ := bi_el h
  obtain ⟨μ4, eμ4⟩ : ∃ z : zM, z = zset μ2 0 q3.2 := ⟨_, rfl⟩
  have h := bnd_el h eμ4
  refine zcVi (As := [.int a1, .int a2]) cx hI (c_St_changeWords rfl rfl hq3 eμ4.symm) mt_yX6_changeWords mv_yX6_changeWords w_195 (by omega) (k6_0 rfl) (zv6 rfl) rfl hl.1 rfl (Nat.le_of_ble_eq_true rfl) dX7_words_18 (fun H locs hI => ?_)
  obtain ⟨q5, hq5, h⟩ := bi_el h
  refine zcVi (As := [.int q3.1]) cx hI (c_RS_remembered N hq5) mt_yX7_remembered mv_yX7_remembered w_149 (by omega) (k7_0 rfl) (zv7 rfl) rfl hl.1 rfl (Nat.le_of_ble_eq_true rfl) dX7_words_21 (fun H locs hI => ?_)
  obtain rfl := Option.some.inj h
  exact hret _ _ _ _ dX7_words_24 rfl hI
def f_RS_lose (N : Nat) (μ : zM) (a1 : Int32) : Option (Int32 × zM) :=
  (f_St_takeFrom (μ 1) (μ 0)).bind (fun q1 => bnd (zset μ 1 q1) (fun μ2 => (f_St_removeBook N (μ2 0) a1).bind (fun q3 => bnd (zset μ2 0 q3.2) (fun μ4 => (f_RS_remembered N μ4 q3.1).bind (fun q5 => some (q5.1, q5.2))))))
set_option maxHeartbeats 4000000 in
set_option maxRecDepth 100000 in
theorem c_RS_lose (N : Nat) {l : Launch} {G : zG} {μ : zM}  {a1 : Int32} {out : (Int32 × zM)} (h : f_RS_lose N μ a1 = some out) : zMI l G yX7_lose cX7_lose 2 (some .int) 4 [.ref (G.2.2.1 28 0), .int a1] μ out.1 out.2 := by
  refine zMI.of (by decide) (Nat.le_of_ble_eq_true rfl) (fun p e s m args below meth c Q ls cx hI hl hret => ?_)
  obtain ⟨hx, hb, hml, hown, hts, hK, hR⟩ := id cx
  have hl : lv_has ls 2 [(0, .ref (G.2.2.1 28 0)), (1, .int a1)] := hl
  unfold f_RS_lose at h
  refine lv_aload_n hx hb dX7_lose_0 rfl (lv_at hl 0 rfl) ?_
  refine g7_1 cx hI rfl rfl w_17 dX7_lose_1 ?_
  refine lv_aload_n hx hb dX7_lose_4 rfl (lv_at hl 0 rfl) ?_
  refine g7_0 cx hI rfl rfl w_16 dX7_lose_5 ?_
  obtain ⟨q1, hq1, h⟩ := bi_el h
  obtain ⟨μ2, eμ2⟩ : ∃ z : zM, z = zset μ 1 q1 := ⟨_, rfl⟩
  have h := bnd_el h eμ2
  refine zcVv (As := [.ref (G.2.2.1 0 0)]) cx hI (c_St_takeFrom rfl rfl rfl rfl (by decide) hq1 eμ2.symm) mt_yX6_takeFrom mv_yX6_takeFrom w_131 (by omega) (k6_0 rfl) (zv6 rfl) rfl hl.1 rfl (Nat.le_of_ble_eq_true rfl) dX7_lose_8 (fun H locs hI => ?_)
  refine lv_aload_n hx hb dX7_lose_11 rfl (lv_at hl 0 rfl) ?_
  refine lv_aload_n hx hb dX7_lose_12 rfl (lv_at hl 0 rfl) ?_
  refine g7_0 cx hI rfl rfl w_16 dX7_lose_13 ?_
  refine lv_iload_n hx hb dX7_lose_16 rfl (lv_at hl 1 rfl) ?_
  obtain ⟨q3, hq3, h⟩ := bi_el h
  obtain ⟨μ4, eμ4⟩ : ∃ z : zM, z = zset μ2 0 q3.2 := ⟨_, rfl⟩
  have h := bnd_el h eμ4
  refine zcVi (As := [.int a1]) cx hI (c_St_removeBook N rfl rfl hq3 eμ4.symm) mt_yX6_removeBook mv_yX6_removeBook w_219 (by omega) (k6_0 rfl) (zv6 rfl) rfl hl.1 rfl (Nat.le_of_ble_eq_true rfl) dX7_lose_17 (fun H locs hI => ?_)
  obtain ⟨q5, hq5, h⟩ := bi_el h
  refine zcVi (As := [.int q3.1]) cx hI (c_RS_remembered N hq5) mt_yX7_remembered mv_yX7_remembered w_149 (by omega) (k7_0 rfl) (zv7 rfl) rfl hl.1 rfl (Nat.le_of_ble_eq_true rfl) dX7_lose_20 (fun H locs hI => ?_)
  obtain rfl := Option.some.inj h
  exact hret _ _ _ _ dX7_lose_23 rfl hI
def f_RS_ahead (N : Nat) (μ : zM) (a1 : Int32) (a2 : Int32) : Option (Int32 × zM) :=
  (f_St_takeFrom (μ 1) (μ 0)).bind (fun q1 => bnd (zset μ 1 q1) (fun μ2 => (f_St_turnAhead N (μ2 0) a1 a2).bind (fun q3 => bnd (zset μ2 0 q3.2) (fun μ4 => (f_RS_remembered N μ4 q3.1).bind (fun q5 => some (q5.1, q5.2))))))
set_option maxHeartbeats 4000000 in
set_option maxRecDepth 100000 in
theorem c_RS_ahead (N : Nat) {l : Launch} {G : zG} {μ : zM}  {a1 : Int32} {a2 : Int32} {out : (Int32 × zM)} (h : f_RS_ahead N μ a1 a2 = some out) : zMI l G yX7_ahead cX7_ahead 3 (some .int) 4 [.ref (G.2.2.1 28 0), .int a1, .int a2] μ out.1 out.2 := by
  refine zMI.of (by decide) (Nat.le_of_ble_eq_true rfl) (fun p e s m args below meth c Q ls cx hI hl hret => ?_)
  obtain ⟨hx, hb, hml, hown, hts, hK, hR⟩ := id cx
  have hl : lv_has ls 3 [(0, .ref (G.2.2.1 28 0)), (1, .int a1), (2, .int a2)] := hl
  unfold f_RS_ahead at h
  refine lv_aload_n hx hb dX7_ahead_0 rfl (lv_at hl 0 rfl) ?_
  refine g7_1 cx hI rfl rfl w_17 dX7_ahead_1 ?_
  refine lv_aload_n hx hb dX7_ahead_4 rfl (lv_at hl 0 rfl) ?_
  refine g7_0 cx hI rfl rfl w_16 dX7_ahead_5 ?_
  obtain ⟨q1, hq1, h⟩ := bi_el h
  obtain ⟨μ2, eμ2⟩ : ∃ z : zM, z = zset μ 1 q1 := ⟨_, rfl⟩
  have h := bnd_el h eμ2
  refine zcVv (As := [.ref (G.2.2.1 0 0)]) cx hI (c_St_takeFrom rfl rfl rfl rfl (by decide) hq1 eμ2.symm) mt_yX6_takeFrom mv_yX6_takeFrom w_131 (by omega) (k6_0 rfl) (zv6 rfl) rfl hl.1 rfl (Nat.le_of_ble_eq_true rfl) dX7_ahead_8 (fun H locs hI => ?_)
  refine lv_aload_n hx hb dX7_ahead_11 rfl (lv_at hl 0 rfl) ?_
  refine lv_aload_n hx hb dX7_ahead_12 rfl (lv_at hl 0 rfl) ?_
  refine g7_0 cx hI rfl rfl w_16 dX7_ahead_13 ?_
  refine lv_iload_n hx hb dX7_ahead_16 rfl (lv_at hl 1 rfl) ?_
  refine lv_iload_n hx hb dX7_ahead_17 rfl (lv_at hl 2 rfl) ?_
  obtain ⟨q3, hq3, h⟩ := bi_el h
  obtain ⟨μ4, eμ4⟩ : ∃ z : zM, z = zset μ2 0 q3.2 := ⟨_, rfl⟩
  have h := bnd_el h eμ4
  refine zcVi (As := [.int a1, .int a2]) cx hI (c_St_turnAhead N rfl rfl hq3 eμ4.symm) mt_yX6_turnAhead mv_yX6_turnAhead w_257 (by omega) (k6_0 rfl) (zv6 rfl) rfl hl.1 rfl (Nat.le_of_ble_eq_true rfl) dX7_ahead_18 (fun H locs hI => ?_)
  obtain ⟨q5, hq5, h⟩ := bi_el h
  refine zcVi (As := [.int q3.1]) cx hI (c_RS_remembered N hq5) mt_yX7_remembered mv_yX7_remembered w_149 (by omega) (k7_0 rfl) (zv7 rfl) rfl hl.1 rfl (Nat.le_of_ble_eq_true rfl) dX7_ahead_21 (fun H locs hI => ?_)
  obtain rfl := Option.some.inj h
  exact hret _ _ _ _ dX7_ahead_24 rfl hI
def f_RS_prior (N : Nat) (μ : zM) (a1 : Int32) : Option (Int32 × zM) :=
  (f_St_takeFrom (μ 1) (μ 0)).bind (fun q1 => bnd (zset μ 1 q1) (fun μ2 => (f_St_changePrior (μ2 0) a1).bind (fun q3 => bnd (zset μ2 0 q3.2) (fun μ4 => (f_RS_remembered N μ4 q3.1).bind (fun q5 => some (q5.1, q5.2))))))
set_option maxHeartbeats 4000000 in
set_option maxRecDepth 100000 in
theorem c_RS_prior (N : Nat) {l : Launch} {G : zG} {μ : zM}  {a1 : Int32} {out : (Int32 × zM)} (h : f_RS_prior N μ a1 = some out) : zMI l G yX7_prior cX7_prior 2 (some .int) 4 [.ref (G.2.2.1 28 0), .int a1] μ out.1 out.2 := by
  refine zMI.of (by decide) (Nat.le_of_ble_eq_true rfl) (fun p e s m args below meth c Q ls cx hI hl hret => ?_)
  obtain ⟨hx, hb, hml, hown, hts, hK, hR⟩ := id cx
  have hl : lv_has ls 2 [(0, .ref (G.2.2.1 28 0)), (1, .int a1)] := hl
  unfold f_RS_prior at h
  refine lv_aload_n hx hb dX7_prior_0 rfl (lv_at hl 0 rfl) ?_
  refine g7_1 cx hI rfl rfl w_17 dX7_prior_1 ?_
  refine lv_aload_n hx hb dX7_prior_4 rfl (lv_at hl 0 rfl) ?_
  refine g7_0 cx hI rfl rfl w_16 dX7_prior_5 ?_
  obtain ⟨q1, hq1, h⟩ := bi_el h
  obtain ⟨μ2, eμ2⟩ : ∃ z : zM, z = zset μ 1 q1 := ⟨_, rfl⟩
  have h := bnd_el h eμ2
  refine zcVv (As := [.ref (G.2.2.1 0 0)]) cx hI (c_St_takeFrom rfl rfl rfl rfl (by decide) hq1 eμ2.symm) mt_yX6_takeFrom mv_yX6_takeFrom w_131 (by omega) (k6_0 rfl) (zv6 rfl) rfl hl.1 rfl (Nat.le_of_ble_eq_true rfl) dX7_prior_8 (fun H locs hI => ?_)
  refine lv_aload_n hx hb dX7_prior_11 rfl (lv_at hl 0 rfl) ?_
  refine lv_aload_n hx hb dX7_prior_12 rfl (lv_at hl 0 rfl) ?_
  refine g7_0 cx hI rfl rfl w_16 dX7_prior_13 ?_
  refine lv_iload_n hx hb dX7_prior_16 rfl (lv_at hl 1 rfl) ?_
  obtain ⟨q3, hq3, h⟩ := bi_el h
  obtain ⟨μ4, eμ4⟩ : ∃ z : zM, z = zset μ2 0 q3.2 := ⟨_, rfl⟩
  have h := bnd_el h eμ4
  refine zcVi (As := [.int a1]) cx hI (c_St_changePrior rfl rfl hq3 eμ4.symm) mt_yX6_changePrior mv_yX6_changePrior w_286 (by omega) (k6_0 rfl) (zv6 rfl) rfl hl.1 rfl (Nat.le_of_ble_eq_true rfl) dX7_prior_17 (fun H locs hI => ?_)
  obtain ⟨q5, hq5, h⟩ := bi_el h
  refine zcVi (As := [.int q3.1]) cx hI (c_RS_remembered N hq5) mt_yX7_remembered mv_yX7_remembered w_149 (by omega) (k7_0 rfl) (zv7 rfl) rfl hl.1 rfl (Nat.le_of_ble_eq_true rfl) dX7_prior_20 (fun H locs hI => ?_)
  obtain rfl := Option.some.inj h
  exact hret _ _ _ _ dX7_prior_23 rfl hI
def f_RS_tell (N : Nat) (μ : zM) (a1 : Int32) (a2 : Int32) : Option (Int32 × zM) :=
  (f_St_takeFrom (μ 1) (μ 0)).bind (fun q1 => bnd (zset μ 1 q1) (fun μ2 => (f_St_changeRules (μ2 0) a1 a2).bind (fun q3 => bnd (zset μ2 0 q3.2) (fun μ4 => (f_RS_remembered N μ4 q3.1).bind (fun q5 => some (q5.1, q5.2))))))
set_option maxHeartbeats 4000000 in
set_option maxRecDepth 100000 in
theorem c_RS_tell (N : Nat) {l : Launch} {G : zG} {μ : zM}  {a1 : Int32} {a2 : Int32} {out : (Int32 × zM)} (h : f_RS_tell N μ a1 a2 = some out) : zMI l G yX7_tell cX7_tell 3 (some .int) 4 [.ref (G.2.2.1 28 0), .int a1, .int a2] μ out.1 out.2 := by
  refine zMI.of (by decide) (Nat.le_of_ble_eq_true rfl) (fun p e s m args below meth c Q ls cx hI hl hret => ?_)
  obtain ⟨hx, hb, hml, hown, hts, hK, hR⟩ := id cx
  have hl : lv_has ls 3 [(0, .ref (G.2.2.1 28 0)), (1, .int a1), (2, .int a2)] := hl
  unfold f_RS_tell at h
  refine lv_aload_n hx hb dX7_tell_0 rfl (lv_at hl 0 rfl) ?_
  refine g7_1 cx hI rfl rfl w_17 dX7_tell_1 ?_
  refine lv_aload_n hx hb dX7_tell_4 rfl (lv_at hl 0 rfl) ?_
  refine g7_0 cx hI rfl rfl w_16 dX7_tell_5 ?_
  obtain ⟨q1, hq1, h⟩ := bi_el h
  obtain ⟨μ2, eμ2⟩ : ∃ z : zM, z = zset μ 1 q1 := ⟨_, rfl⟩
  have h := bnd_el h eμ2
  refine zcVv (As := [.ref (G.2.2.1 0 0)]) cx hI (c_St_takeFrom rfl rfl rfl rfl (by decide) hq1 eμ2.symm) mt_yX6_takeFrom mv_yX6_takeFrom w_131 (by omega) (k6_0 rfl) (zv6 rfl) rfl hl.1 rfl (Nat.le_of_ble_eq_true rfl) dX7_tell_8 (fun H locs hI => ?_)
  refine lv_aload_n hx hb dX7_tell_11 rfl (lv_at hl 0 rfl) ?_
  refine lv_aload_n hx hb dX7_tell_12 rfl (lv_at hl 0 rfl) ?_
  refine g7_0 cx hI rfl rfl w_16 dX7_tell_13 ?_
  refine lv_iload_n hx hb dX7_tell_16 rfl (lv_at hl 1 rfl) ?_
  refine lv_iload_n hx hb dX7_tell_17 rfl (lv_at hl 2 rfl) ?_
  obtain ⟨q3, hq3, h⟩ := bi_el h
  obtain ⟨μ4, eμ4⟩ : ∃ z : zM, z = zset μ2 0 q3.2 := ⟨_, rfl⟩
  have h := bnd_el h eμ4
  refine zcVi (As := [.int a1, .int a2]) cx hI (c_St_changeRules rfl rfl hq3 eμ4.symm) mt_yX6_changeRules mv_yX6_changeRules w_302 (by omega) (k6_0 rfl) (zv6 rfl) rfl hl.1 rfl (Nat.le_of_ble_eq_true rfl) dX7_tell_18 (fun H locs hI => ?_)
  obtain ⟨q5, hq5, h⟩ := bi_el h
  refine zcVi (As := [.int q3.1]) cx hI (c_RS_remembered N hq5) mt_yX7_remembered mv_yX7_remembered w_149 (by omega) (k7_0 rfl) (zv7 rfl) rfl hl.1 rfl (Nat.le_of_ble_eq_true rfl) dX7_tell_21 (fun H locs hI => ?_)
  obtain rfl := Option.some.inj h
  exact hret _ _ _ _ dX7_tell_24 rfl hI
def f_RS_move (N : Nat) (μ : zM) (a1 : Int32) (a2 : Int32) : Option (Int32 × zM) :=
  (f_St_takeFrom (μ 1) (μ 0)).bind (fun q1 => bnd (zset μ 1 q1) (fun μ2 => (f_St_moveBook N (μ2 0) a1 a2).bind (fun q3 => bnd (zset μ2 0 q3.2) (fun μ4 => (f_RS_remembered N μ4 q3.1).bind (fun q5 => some (q5.1, q5.2))))))
set_option maxHeartbeats 4000000 in
set_option maxRecDepth 100000 in
theorem c_RS_move (N : Nat) {l : Launch} {G : zG} {μ : zM}  {a1 : Int32} {a2 : Int32} {out : (Int32 × zM)} (h : f_RS_move N μ a1 a2 = some out) : zMI l G yX7_move cX7_move 3 (some .int) 4 [.ref (G.2.2.1 28 0), .int a1, .int a2] μ out.1 out.2 := by
  refine zMI.of (by decide) (Nat.le_of_ble_eq_true rfl) (fun p e s m args below meth c Q ls cx hI hl hret => ?_)
  obtain ⟨hx, hb, hml, hown, hts, hK, hR⟩ := id cx
  have hl : lv_has ls 3 [(0, .ref (G.2.2.1 28 0)), (1, .int a1), (2, .int a2)] := hl
  unfold f_RS_move at h
  refine lv_aload_n hx hb dX7_move_0 rfl (lv_at hl 0 rfl) ?_
  refine g7_1 cx hI rfl rfl w_17 dX7_move_1 ?_
  refine lv_aload_n hx hb dX7_move_4 rfl (lv_at hl 0 rfl) ?_
  refine g7_0 cx hI rfl rfl w_16 dX7_move_5 ?_
  obtain ⟨q1, hq1, h⟩ := bi_el h
  obtain ⟨μ2, eμ2⟩ : ∃ z : zM, z = zset μ 1 q1 := ⟨_, rfl⟩
  have h := bnd_el h eμ2
  refine zcVv (As := [.ref (G.2.2.1 0 0)]) cx hI (c_St_takeFrom rfl rfl rfl rfl (by decide) hq1 eμ2.symm) mt_yX6_takeFrom mv_yX6_takeFrom w_131 (by omega) (k6_0 rfl) (zv6 rfl) rfl hl.1 rfl (Nat.le_of_ble_eq_true rfl) dX7_move_8 (fun H locs hI => ?_)
  refine lv_aload_n hx hb dX7_move_11 rfl (lv_at hl 0 rfl) ?_
  refine lv_aload_n hx hb dX7_move_12 rfl (lv_at hl 0 rfl) ?_
  refine g7_0 cx hI rfl rfl w_16 dX7_move_13 ?_
  refine lv_iload_n hx hb dX7_move_16 rfl (lv_at hl 1 rfl) ?_
  refine lv_iload_n hx hb dX7_move_17 rfl (lv_at hl 2 rfl) ?_
  obtain ⟨q3, hq3, h⟩ := bi_el h
  obtain ⟨μ4, eμ4⟩ : ∃ z : zM, z = zset μ2 0 q3.2 := ⟨_, rfl⟩
  have h := bnd_el h eμ4
  refine zcVi (As := [.int a1, .int a2]) cx hI (c_St_moveBook N rfl rfl hq3 eμ4.symm) mt_yX6_moveBook mv_yX6_moveBook w_333 (by omega) (k6_0 rfl) (zv6 rfl) rfl hl.1 rfl (Nat.le_of_ble_eq_true rfl) dX7_move_18 (fun H locs hI => ?_)
  obtain ⟨q5, hq5, h⟩ := bi_el h
  refine zcVi (As := [.int q3.1]) cx hI (c_RS_remembered N hq5) mt_yX7_remembered mv_yX7_remembered w_149 (by omega) (k7_0 rfl) (zv7 rfl) rfl hl.1 rfl (Nat.le_of_ble_eq_true rfl) dX7_move_21 (fun H locs hI => ?_)
  obtain rfl := Option.some.inj h
  exact hret _ _ _ _ dX7_move_24 rfl hI
def f_RS_seekBestOrGrown_32 (N : Nat)  (μ : zM) : Option zM :=
  some μ
set_option maxHeartbeats 4000000 in
set_option maxRecDepth 100000 in
theorem t_RS_seekBestOrGrown_32 (N : Nat) {p : Program} {l : Launch} {e : Env} {s : State} {m : MethodId} {args : Array Value} {below : List Frame} {meth : Method} {c : Code} {Q : State → Prop} {G : zG}  {out : zM} (cx : zCX p (zrm 93) s m args c RX7 cX7_seekBestOrGrown 2 93 G) (hret : zRv p l e (zrm 93) s m args below meth c cX7_seekBestOrGrown G Q out)   : ∀ (μ : zM), f_RS_seekBestOrGrown_32 N μ = some out → ∀ {H : Heap} {locs : List Loc} {ls : Array Slot}, zIW G s μ H locs → lv_has ls 2 [] → W p l e (zrm 93) s m args below meth c H locs 0 0 Q (F0 m 32 ls []) := by
  obtain ⟨hx, hb, hml, hown, hts, hK, hR⟩ := id cx
  intro μ  h H locs ls hI hl
  unfold f_RS_seekBestOrGrown_32 at h
  obtain rfl := Option.some.inj h
  exact hret _ _ _ _ dX7_seekBestOrGrown_32 hI
def f_RS_seekBestOrGrown (N : Nat) (μ : zM) (a1 : Int32) : Option zM :=
  (f_Se_prepare N μ).bind (fun q1 => (if a1 = nI 0 then (f_Se_seekLeast N q1).bind (fun q3 => f_RS_seekBestOrGrown_32 N q3) else (f_Se_grow N q1).bind (fun q4 => f_RS_seekBestOrGrown_32 N q4)))
set_option maxHeartbeats 4000000 in
set_option maxRecDepth 100000 in
theorem c_RS_seekBestOrGrown (N : Nat) {l : Launch} {G : zG} {μ : zM}  {a1 : Int32} {out : zM} (h : f_RS_seekBestOrGrown N μ a1 = some out) : zMV l G yX7_seekBestOrGrown cX7_seekBestOrGrown 2 none 93 [.ref (G.2.2.1 28 0), .int a1] μ out := by
  refine zMV.of (by decide) (Nat.le_of_ble_eq_true rfl) (fun p e s m args below meth c Q ls cx hI hl hret => ?_)
  obtain ⟨hx, hb, hml, hown, hts, hK, hR⟩ := id cx
  have hl : lv_has ls 2 [(0, .ref (G.2.2.1 28 0)), (1, .int a1)] := hl
  unfold f_RS_seekBestOrGrown at h
  refine lv_aload_n hx hb dX7_seekBestOrGrown_0 rfl (lv_at hl 0 rfl) ?_
  refine g7_9 cx hI rfl rfl w_39 dX7_seekBestOrGrown_1 ?_
  refine lv_aload_n hx hb dX7_seekBestOrGrown_4 rfl (lv_at hl 0 rfl) ?_
  refine g7_0 cx hI rfl rfl w_16 dX7_seekBestOrGrown_5 ?_
  obtain ⟨q1, hq1, h⟩ := bi_el h
  refine zcVv (As := [.ref (G.2.2.1 0 0)]) cx hI (c_Se_prepare N hq1) mt_yX4_prepare mv_yX4_prepare w_355 (by omega) (k4_0 rfl) (zv4 rfl) rfl hl.1 rfl (Nat.le_of_ble_eq_true rfl) dX7_seekBestOrGrown_8 (fun H locs hI => ?_)
  refine lv_iload_n hx hb dX7_seekBestOrGrown_11 rfl (lv_at hl 1 rfl) ?_
  refine lv_if_eq (tgt := 25) hx hb dX7_seekBestOrGrown_12 (by decide) (fun c2 => ?_) (fun c2 => ?_)
  · have h := it_p h c2
    refine lv_aload_n hx hb dX7_seekBestOrGrown_25 rfl (lv_at hl 0 rfl) ?_
    refine g7_9 cx hI rfl rfl w_39 dX7_seekBestOrGrown_26 ?_
    obtain ⟨q3, hq3, h⟩ := bi_el h
    refine zcVv (As := []) cx hI (c_Se_seekLeast N hq3) mt_yX4_seekLeast mv_yX4_seekLeast w_430 (by omega) (k4_0 rfl) (zv4 rfl) rfl hl.1 rfl (Nat.le_of_ble_eq_true rfl) dX7_seekBestOrGrown_29 (fun H locs hI => ?_)
    exact t_RS_seekBestOrGrown_32 N  cx hret q3 h hI (lv_sub hl [] rfl)
  · have h := it_n h c2
    refine lv_aload_n hx hb dX7_seekBestOrGrown_15 rfl (lv_at hl 0 rfl) ?_
    refine g7_9 cx hI rfl rfl w_39 dX7_seekBestOrGrown_16 ?_
    obtain ⟨q4, hq4, h⟩ := bi_el h
    refine zcVv (As := []) cx hI (c_Se_grow N hq4) mt_yX4_grow mv_yX4_grow w_389 (by omega) (k4_0 rfl) (zv4 rfl) rfl hl.1 rfl (Nat.le_of_ble_eq_true rfl) dX7_seekBestOrGrown_19 (fun H locs hI => ?_)
    refine lv_goto (tgt := 32) hx hb dX7_seekBestOrGrown_22 (by decide) ?_
    exact t_RS_seekBestOrGrown_32 N  cx hret q4 h hI (lv_sub hl [] rfl)
def f_RS_settle_9 (N : Nat)  (μ : zM) : Option (Int32 × zM) :=
  some ((-1 : Int32), μ)
set_option maxHeartbeats 4000000 in
set_option maxRecDepth 100000 in
theorem t_RS_settle_9 (N : Nat) {p : Program} {l : Launch} {e : Env} {s : State} {m : MethodId} {args : Array Value} {below : List Frame} {meth : Method} {c : Code} {Q : State → Prop} {G : zG}  {out : (Int32 × zM)} (cx : zCX p (zrm 94) s m args c RX7 cX7_settle 2 94 G) (hret : zRi p l e (zrm 94) s m args below meth c cX7_settle G .int Q out.1 out.2)   : ∀ (μ : zM), f_RS_settle_9 N μ = some out → ∀ {H : Heap} {locs : List Loc} {ls : Array Slot}, zIW G s μ H locs → lv_has ls 2 [] → W p l e (zrm 94) s m args below meth c H locs 0 0 Q (F0 m 9 ls []) := by
  obtain ⟨hx, hb, hml, hown, hts, hK, hR⟩ := id cx
  intro μ  h H locs ls hI hl
  unfold f_RS_settle_9 at h
  refine lv_iconst (v := (-1 : Int32)) hx hb dX7_settle_9 (by decide) ?_
  obtain rfl := Option.some.inj h
  exact hret _ _ _ _ dX7_settle_10 rfl hI
def f_RS_settle_35 (N : Nat)  (μ : zM) (s0 : Int32) : Option (Int32 × zM) :=
  (f_RS_seekBestOrGrown N μ s0).bind (fun q5 => (f_St_takeFrom (q5 1) (q5 0)).bind (fun q6 => bnd (zset q5 1 q6) (fun μ7 => (f_St_changeOrder N (μ7 0) ((μ7 23).1 11)).bind (fun q8 => bnd (zset μ7 0 q8.2) (fun μ9 => (f_RS_remembered N μ9 q8.1).bind (fun q10 => some (q10.1, q10.2)))))))
set_option maxHeartbeats 4000000 in
set_option maxRecDepth 100000 in
theorem t_RS_settle_35 (N : Nat) {p : Program} {l : Launch} {e : Env} {s : State} {m : MethodId} {args : Array Value} {below : List Frame} {meth : Method} {c : Code} {Q : State → Prop} {G : zG}  {out : (Int32 × zM)} (cx : zCX p (zrm 94) s m args c RX7 cX7_settle 2 94 G) (hret : zRi p l e (zrm 94) s m args below meth c cX7_settle G .int Q out.1 out.2)   : ∀ (μ : zM) (s0 : Int32), f_RS_settle_35 N μ s0 = some out → ∀ {H : Heap} {locs : List Loc} {ls : Array Slot}, zIW G s μ H locs → lv_has ls 2 [(0, .ref (G.2.2.1 28 0))] → W p l e (zrm 94) s m args below meth c H locs 0 0 Q (F0 m 35 ls [.int s0, .ref (G.2.2.1 28 0)]) := by
  obtain ⟨hx, hb, hml, hown, hts, hK, hR⟩ := id cx
  intro μ s0  h H locs ls hI hl
  unfold f_RS_settle_35 at h
  obtain ⟨q5, hq5, h⟩ := bi_el h
  refine zcVv (As := [.int s0]) cx hI (c_RS_seekBestOrGrown N hq5) mt_yX7_seekBestOrGrown mv_yX7_seekBestOrGrown w_351 (by omega) (k7_0 rfl) (zv7 rfl) rfl hl.1 rfl (Nat.le_of_ble_eq_true rfl) dX7_settle_35 (fun H locs hI => ?_)
  refine lv_aload_n hx hb dX7_settle_38 rfl (lv_at hl 0 rfl) ?_
  refine g7_1 cx hI rfl rfl w_17 dX7_settle_39 ?_
  refine lv_aload_n hx hb dX7_settle_42 rfl (lv_at hl 0 rfl) ?_
  refine g7_0 cx hI rfl rfl w_16 dX7_settle_43 ?_
  obtain ⟨q6, hq6, h⟩ := bi_el h
  obtain ⟨μ7, eμ7⟩ : ∃ z : zM, z = zset q5 1 q6 := ⟨_, rfl⟩
  have h := bnd_el h eμ7
  refine zcVv (As := [.ref (G.2.2.1 0 0)]) cx hI (c_St_takeFrom rfl rfl rfl rfl (by decide) hq6 eμ7.symm) mt_yX6_takeFrom mv_yX6_takeFrom w_131 (by omega) (k6_0 rfl) (zv6 rfl) rfl hl.1 rfl (Nat.le_of_ble_eq_true rfl) dX7_settle_46 (fun H locs hI => ?_)
  refine lv_aload_n hx hb dX7_settle_49 rfl (lv_at hl 0 rfl) ?_
  refine lv_aload_n hx hb dX7_settle_50 rfl (lv_at hl 0 rfl) ?_
  refine g7_0 cx hI rfl rfl w_16 dX7_settle_51 ?_
  refine lv_aload_n hx hb dX7_settle_54 rfl (lv_at hl 0 rfl) ?_
  refine g7_9 cx hI rfl rfl w_39 dX7_settle_55 ?_
  refine g4_10 cx hI rfl rfl w_350 dX7_settle_58 ?_
  obtain ⟨q8, hq8, h⟩ := bi_el h
  obtain ⟨μ9, eμ9⟩ : ∃ z : zM, z = zset μ7 0 q8.2 := ⟨_, rfl⟩
  have h := bnd_el h eμ9
  refine zcVi (As := [.ref (G.2.2.1 23 11)]) cx hI (c_St_changeOrder N rfl rfl (k4_11 rfl) (z4_11 rfl) rfl (by decide) hq8 eμ9.symm) mt_yX6_changeOrder mv_yX6_changeOrder w_453 (by omega) (k6_0 rfl) (zv6 rfl) rfl hl.1 rfl (Nat.le_of_ble_eq_true rfl) dX7_settle_61 (fun H locs hI => ?_)
  obtain ⟨q10, hq10, h⟩ := bi_el h
  refine zcVi (As := [.int q8.1]) cx hI (c_RS_remembered N hq10) mt_yX7_remembered mv_yX7_remembered w_149 (by omega) (k7_0 rfl) (zv7 rfl) rfl hl.1 rfl (Nat.le_of_ble_eq_true rfl) dX7_settle_64 (fun H locs hI => ?_)
  obtain rfl := Option.some.inj h
  exact hret _ _ _ _ dX7_settle_67 rfl hI
def f_RS_settle (N : Nat) (μ : zM) (a1 : Int32) : Option (Int32 × zM) :=
  (if a1 < nI 0 then f_RS_settle_9 N μ else (if a1 ≤ (nI 1) then (if ((μ 0).1 0 3) = nI 0 then some ((-2 : Int32), μ) else (if a1 = (nI 1) then f_RS_settle_35 N μ (nI 1) else f_RS_settle_35 N μ (nI 0))) else f_RS_settle_9 N μ))
set_option maxHeartbeats 4000000 in
set_option maxRecDepth 100000 in
theorem c_RS_settle (N : Nat) {l : Launch} {G : zG} {μ : zM}  {a1 : Int32} {out : (Int32 × zM)} (h : f_RS_settle N μ a1 = some out) : zMI l G yX7_settle cX7_settle 2 (some .int) 94 [.ref (G.2.2.1 28 0), .int a1] μ out.1 out.2 := by
  refine zMI.of (by decide) (Nat.le_of_ble_eq_true rfl) (fun p e s m args below meth c Q ls cx hI hl hret => ?_)
  obtain ⟨hx, hb, hml, hown, hts, hK, hR⟩ := id cx
  have hl : lv_has ls 2 [(0, .ref (G.2.2.1 28 0)), (1, .int a1)] := hl
  unfold f_RS_settle at h
  refine lv_iload_n hx hb dX7_settle_0 rfl (lv_at hl 1 rfl) ?_
  refine lv_if_lt (tgt := 9) hx hb dX7_settle_1 (by decide) (fun c1 => ?_) (fun c1 => ?_)
  · have h := it_p h c1
    exact t_RS_settle_9 N  cx hret μ h hI (lv_sub hl [] rfl)
  · have h := it_n h c1
    refine lv_iload_n hx hb dX7_settle_4 rfl (lv_at hl 1 rfl) ?_
    refine lv_iconst (v := (nI 1)) hx hb dX7_settle_5 (by decide) ?_
    refine lv_icmp_le (tgt := 11) hx hb dX7_settle_6 (by decide) (fun c2 => ?_) (fun c2 => ?_)
    · have h := it_p h c2
      refine lv_aload_n hx hb dX7_settle_11 rfl (lv_at hl 0 rfl) ?_
      refine g7_0 cx hI rfl rfl w_16 dX7_settle_12 ?_
      refine g6_3 cx hI rfl rfl w_349 dX7_settle_15 ?_
      refine lv_if_ne (tgt := 24) hx hb dX7_settle_18 (by decide) (fun c3 => ?_) (fun c3 => ?_)
      · have h := it_n h c3
        refine lv_aload_n hx hb dX7_settle_24 rfl (lv_at hl 0 rfl) ?_
        refine lv_iload_n hx hb dX7_settle_25 rfl (lv_at hl 1 rfl) ?_
        refine lv_iconst (v := (nI 1)) hx hb dX7_settle_26 (by decide) ?_
        refine lv_icmp_ne (tgt := 34) hx hb dX7_settle_27 (by decide) (fun c4 => ?_) (fun c4 => ?_)
        · have h := it_n h c4
          refine lv_iconst (v := (nI 0)) hx hb dX7_settle_34 (by decide) ?_
          exact t_RS_settle_35 N  cx hret μ (nI 0) h hI (lv_sub hl [0] rfl)
        · have h := it_p h c4
          refine lv_iconst (v := (nI 1)) hx hb dX7_settle_30 (by decide) ?_
          refine lv_goto (tgt := 35) hx hb dX7_settle_31 (by decide) ?_
          exact t_RS_settle_35 N  cx hret μ (nI 1) h hI (lv_sub hl [0] rfl)
      · have h := it_p h c3
        refine lv_bipush (v := (-2 : Int32)) hx hb dX7_settle_21 (by decide) ?_
        obtain rfl := Option.some.inj h
        exact hret _ _ _ _ dX7_settle_23 rfl hI
    · have h := it_n h c2
      exact t_RS_settle_9 N  cx hret μ h hI (lv_sub hl [] rfl)
def f_RS_place_21 (N : Nat)  (μ : zM) : Option (Int32 × zM) :=
  some ((-1 : Int32), μ)
set_option maxHeartbeats 4000000 in
set_option maxRecDepth 100000 in
theorem t_RS_place_21 (N : Nat) {p : Program} {l : Launch} {e : Env} {s : State} {m : MethodId} {args : Array Value} {below : List Frame} {meth : Method} {c : Code} {Q : State → Prop} {G : zG}  {out : (Int32 × zM)} (cx : zCX p (zrm 3) s m args c RX7 cX7_place 3 3 G) (hret : zRi p l e (zrm 3) s m args below meth c cX7_place G .int Q out.1 out.2)   : ∀ (μ : zM), f_RS_place_21 N μ = some out → ∀ {H : Heap} {locs : List Loc} {ls : Array Slot}, zIW G s μ H locs → lv_has ls 3 [] → W p l e (zrm 3) s m args below meth c H locs 0 0 Q (F0 m 21 ls []) := by
  obtain ⟨hx, hb, hml, hown, hts, hK, hR⟩ := id cx
  intro μ  h H locs ls hI hl
  unfold f_RS_place_21 at h
  refine lv_iconst (v := (-1 : Int32)) hx hb dX7_place_21 (by decide) ?_
  obtain rfl := Option.some.inj h
  exact hret _ _ _ _ dX7_place_22 rfl hI
def f_RS_place (N : Nat) (μ : zM) (a1 : Int32) (a2 : Int32) : Option (Int32 × zM) :=
  (f_St_isBook (μ 0) a1).bind (fun q1 => (if q1 = nI 0 then f_RS_place_21 N μ else (if a2 < nI 0 then f_RS_place_21 N μ else (if a2 ≤ (nI 6) then (f_Rd_readOrder N (μ 21) (μ 0)).bind (fun q5 => bnd (zset μ 21 q5) (fun μ6 => (if a2 = (nI 0) then if zin a1 7 then some ((μ6 0).1 3 a1.toNatClampNeg, μ6) else none else if a2 = (nI 1) then if zin a1 7 then (f_J_bitCount ((μ6 21).1 7 a1.toNatClampNeg)).bind (fun q11 => some (q11, μ6)) else none else if a2 = (nI 2) then if zin a1 7 then (f_J_bitCount ((μ6 21).1 8 a1.toNatClampNeg)).bind (fun q14 => some (q14, μ6)) else none else if a2 = (nI 3) then if zin a1 7 then (f_J_bitCount ((μ6 21).1 9 a1.toNatClampNeg)).bind (fun q17 => some (q17, μ6)) else none else if a2 = (nI 4) then if zin a1 7 then some ((μ6 21).1 7 a1.toNatClampNeg, μ6) else none else if a2 = (nI 5) then if zin a1 7 then some ((μ6 21).1 9 a1.toNatClampNeg, μ6) else none else (f_Rd_knownAhead (μ6 21) (a1 + (nI 1))).bind (fun q22 => some (q22, μ6))))) else f_RS_place_21 N μ))))
set_option maxHeartbeats 4000000 in
set_option maxRecDepth 100000 in
theorem c_RS_place (N : Nat) {l : Launch} {G : zG} {μ : zM}  {a1 : Int32} {a2 : Int32} {out : (Int32 × zM)} (h : f_RS_place N μ a1 a2 = some out) : zMI l G yX7_place cX7_place 3 (some .int) 3 [.ref (G.2.2.1 28 0), .int a1, .int a2] μ out.1 out.2 := by
  refine zMI.of (by decide) (Nat.le_of_ble_eq_true rfl) (fun p e s m args below meth c Q ls cx hI hl hret => ?_)
  obtain ⟨hx, hb, hml, hown, hts, hK, hR⟩ := id cx
  have hl : lv_has ls 3 [(0, .ref (G.2.2.1 28 0)), (1, .int a1), (2, .int a2)] := hl
  unfold f_RS_place at h
  refine lv_aload_n hx hb dX7_place_0 rfl (lv_at hl 0 rfl) ?_
  refine g7_0 cx hI rfl rfl w_16 dX7_place_1 ?_
  refine lv_iload_n hx hb dX7_place_4 rfl (lv_at hl 1 rfl) ?_
  obtain ⟨q1, hq1, h⟩ := bi_el h
  refine zcVi (As := [.int a1]) cx hI (c_St_isBook rfl rfl hq1) mt_yX6_isBook mv_yX6_isBook w_543 (by omega) (k6_0 rfl) (zv6 rfl) rfl hl.1 rfl (Nat.le_of_ble_eq_true rfl) dX7_place_5 (fun H locs hI => ?_)
  refine lv_if_eq (tgt := 21) hx hb dX7_place_8 (by decide) (fun c2 => ?_) (fun c2 => ?_)
  · have h := it_p h c2
    exact t_RS_place_21 N  cx hret μ h hI (lv_sub hl [] rfl)
  · have h := it_n h c2
    refine lv_iload_n hx hb dX7_place_11 rfl (lv_at hl 2 rfl) ?_
    refine lv_if_lt (tgt := 21) hx hb dX7_place_12 (by decide) (fun c3 => ?_) (fun c3 => ?_)
    · have h := it_p h c3
      exact t_RS_place_21 N  cx hret μ h hI (lv_sub hl [] rfl)
    · have h := it_n h c3
      refine lv_iload_n hx hb dX7_place_15 rfl (lv_at hl 2 rfl) ?_
      refine lv_bipush (v := (nI 6)) hx hb dX7_place_16 (by decide) ?_
      refine lv_icmp_le (tgt := 23) hx hb dX7_place_18 (by decide) (fun c4 => ?_) (fun c4 => ?_)
      · have h := it_p h c4
        refine lv_aload_n hx hb dX7_place_23 rfl (lv_at hl 0 rfl) ?_
        refine g7_8 cx hI rfl rfl w_35 dX7_place_24 ?_
        refine lv_aload_n hx hb dX7_place_27 rfl (lv_at hl 0 rfl) ?_
        refine g7_0 cx hI rfl rfl w_16 dX7_place_28 ?_
        obtain ⟨q5, hq5, h⟩ := bi_el h
        obtain ⟨μ6, eμ6⟩ : ∃ z : zM, z = zset μ 21 q5 := ⟨_, rfl⟩
        have h := bnd_el h eμ6
        refine zcVv (As := [.ref (G.2.2.1 0 0)]) cx hI (c_Rd_readOrder N rfl rfl rfl rfl (by decide) hq5 eμ6.symm) mt_yX3_readOrder mv_yX3_readOrder w_544 (by omega) (k3_0 rfl) (zv3 rfl) rfl hl.1 rfl (Nat.le_of_ble_eq_true rfl) dX7_place_31 (fun H locs hI => ?_)
        refine lv_iload_n hx hb dX7_place_34 rfl (lv_at hl 2 rfl) ?_
        by_cases c7 : a2 = (nI 0)
        · have h := it_p h c7
          refine lv_tableIn (off := 37) (tgt := 72) hx hb dX7_place_35 (by rw [c7]; decide) (by rw [c7]; decide) (by rw [c7]; rfl) (by decide) ?_
          refine lv_aload_n hx hb dX7_place_72 rfl (lv_at hl 0 rfl) ?_
          refine g7_0 cx hI rfl rfl w_16 dX7_place_73 ?_
          refine g6_2 cx hI rfl rfl w_539 dX7_place_76 ?_
          refine lv_iload_n hx hb dX7_place_79 rfl (lv_at hl 1 rfl) ?_
          obtain ⟨g8, h⟩ := gd_el h
          refine zr_iald cx hI (k6_3 rfl) rfl (z6_3 rfl) rfl g8 dX7_place_80 ?_
          obtain rfl := Option.some.inj h
          exact hret _ _ _ _ dX7_place_81 rfl hI
        · have h := it_n h c7
          by_cases c9 : a2 = (nI 1)
          · have h := it_p h c9
            refine lv_tableIn (off := 47) (tgt := 82) hx hb dX7_place_35 (by rw [c9]; decide) (by rw [c9]; decide) (by rw [c9]; rfl) (by decide) ?_
            refine lv_aload_n hx hb dX7_place_82 rfl (lv_at hl 0 rfl) ?_
            refine g7_8 cx hI rfl rfl w_35 dX7_place_83 ?_
            refine g3_6 cx hI rfl rfl w_540 dX7_place_86 ?_
            refine lv_iload_n hx hb dX7_place_89 rfl (lv_at hl 1 rfl) ?_
            obtain ⟨g10, h⟩ := gd_el h
            refine zr_iald cx hI (k3_7 rfl) rfl (z3_7 rfl) rfl g10 dX7_place_90 ?_
            obtain ⟨q11, hq11, h⟩ := bi_el h
            refine zcSi (As := [.int ((μ6 21).1 7 a1.toNatClampNeg)]) cx hI (c_J_bitCount  hq11) mt_yJ6_bitCount_0f7a4 ms_yJ6_bitCount_0f7a4 w_552 (by omega) rfl hl.1 rfl (Nat.le_of_ble_eq_true rfl) dX7_place_91 (fun H locs hI => ?_)
            obtain rfl := Option.some.inj h
            exact hret _ _ _ _ dX7_place_94 rfl hI
          · have h := it_n h c9
            by_cases c12 : a2 = (nI 2)
            · have h := it_p h c12
              refine lv_tableIn (off := 60) (tgt := 95) hx hb dX7_place_35 (by rw [c12]; decide) (by rw [c12]; decide) (by rw [c12]; rfl) (by decide) ?_
              refine lv_aload_n hx hb dX7_place_95 rfl (lv_at hl 0 rfl) ?_
              refine g7_8 cx hI rfl rfl w_35 dX7_place_96 ?_
              refine g3_7 cx hI rfl rfl w_541 dX7_place_99 ?_
              refine lv_iload_n hx hb dX7_place_102 rfl (lv_at hl 1 rfl) ?_
              obtain ⟨g13, h⟩ := gd_el h
              refine zr_iald cx hI (k3_8 rfl) rfl (z3_8 rfl) rfl g13 dX7_place_103 ?_
              obtain ⟨q14, hq14, h⟩ := bi_el h
              refine zcSi (As := [.int ((μ6 21).1 8 a1.toNatClampNeg)]) cx hI (c_J_bitCount  hq14) mt_yJ6_bitCount_0f7a4 ms_yJ6_bitCount_0f7a4 w_552 (by omega) rfl hl.1 rfl (Nat.le_of_ble_eq_true rfl) dX7_place_104 (fun H locs hI => ?_)
              obtain rfl := Option.some.inj h
              exact hret _ _ _ _ dX7_place_107 rfl hI
            · have h := it_n h c12
              by_cases c15 : a2 = (nI 3)
              · have h := it_p h c15
                refine lv_tableIn (off := 73) (tgt := 108) hx hb dX7_place_35 (by rw [c15]; decide) (by rw [c15]; decide) (by rw [c15]; rfl) (by decide) ?_
                refine lv_aload_n hx hb dX7_place_108 rfl (lv_at hl 0 rfl) ?_
                refine g7_8 cx hI rfl rfl w_35 dX7_place_109 ?_
                refine g3_8 cx hI rfl rfl w_542 dX7_place_112 ?_
                refine lv_iload_n hx hb dX7_place_115 rfl (lv_at hl 1 rfl) ?_
                obtain ⟨g16, h⟩ := gd_el h
                refine zr_iald cx hI (k3_9 rfl) rfl (z3_9 rfl) rfl g16 dX7_place_116 ?_
                obtain ⟨q17, hq17, h⟩ := bi_el h
                refine zcSi (As := [.int ((μ6 21).1 9 a1.toNatClampNeg)]) cx hI (c_J_bitCount  hq17) mt_yJ6_bitCount_0f7a4 ms_yJ6_bitCount_0f7a4 w_552 (by omega) rfl hl.1 rfl (Nat.le_of_ble_eq_true rfl) dX7_place_117 (fun H locs hI => ?_)
                obtain rfl := Option.some.inj h
                exact hret _ _ _ _ dX7_place_120 rfl hI
              · have h := it_n h c15
                by_cases c18 : a2 = (nI 4)
                · have h := it_p h c18
                  refine lv_tableIn (off := 86) (tgt := 121) hx hb dX7_place_35 (by rw [c18]; decide) (by rw [c18]; decide) (by rw [c18]; rfl) (by decide) ?_
                  refine lv_aload_n hx hb dX7_place_121 rfl (lv_at hl 0 rfl) ?_
                  refine g7_8 cx hI rfl rfl w_35 dX7_place_122 ?_
                  refine g3_6 cx hI rfl rfl w_540 dX7_place_125 ?_
                  refine lv_iload_n hx hb dX7_place_128 rfl (lv_at hl 1 rfl) ?_
                  obtain ⟨g19, h⟩ := gd_el h
                  refine zr_iald cx hI (k3_7 rfl) rfl (z3_7 rfl) rfl g19 dX7_place_129 ?_
                  obtain rfl := Option.some.inj h
                  exact hret _ _ _ _ dX7_place_130 rfl hI
                · have h := it_n h c18
                  by_cases c20 : a2 = (nI 5)
                  · have h := it_p h c20
                    refine lv_tableIn (off := 96) (tgt := 131) hx hb dX7_place_35 (by rw [c20]; decide) (by rw [c20]; decide) (by rw [c20]; rfl) (by decide) ?_
                    refine lv_aload_n hx hb dX7_place_131 rfl (lv_at hl 0 rfl) ?_
                    refine g7_8 cx hI rfl rfl w_35 dX7_place_132 ?_
                    refine g3_8 cx hI rfl rfl w_542 dX7_place_135 ?_
                    refine lv_iload_n hx hb dX7_place_138 rfl (lv_at hl 1 rfl) ?_
                    obtain ⟨g21, h⟩ := gd_el h
                    refine zr_iald cx hI (k3_9 rfl) rfl (z3_9 rfl) rfl g21 dX7_place_139 ?_
                    obtain rfl := Option.some.inj h
                    exact hret _ _ _ _ dX7_place_140 rfl hI
                  · have h := it_n h c20
                    refine lv_tableOut (tgt := 141) hx hb dX7_place_35 (by have tc7 := tn c7 (i := 0) rfl; have tc9 := tn c9 (i := 1) rfl; have tc12 := tn c12 (i := 2) rfl; have tc15 := tn c15 (i := 3) rfl; have tc18 := tn c18 (i := 4) rfl; have tc20 := tn c20 (i := 5) rfl; omega) (by decide) ?_
                    refine lv_aload_n hx hb dX7_place_141 rfl (lv_at hl 0 rfl) ?_
                    refine g7_8 cx hI rfl rfl w_35 dX7_place_142 ?_
                    refine lv_iload_n hx hb dX7_place_145 rfl (lv_at hl 1 rfl) ?_
                    refine lv_iconst (v := (nI 1)) hx hb dX7_place_146 (by decide) ?_
                    refine lv_iadd hx hb dX7_place_147 ?_
                    obtain ⟨q22, hq22, h⟩ := bi_el h
                    refine zcVi (As := [.int (a1 + (nI 1))]) cx hI (c_Rd_knownAhead rfl rfl hq22) mt_yX3_knownAhead mv_yX3_knownAhead w_553 (by omega) (k3_0 rfl) (zv3 rfl) rfl hl.1 rfl (Nat.le_of_ble_eq_true rfl) dX7_place_148 (fun H locs hI => ?_)
                    obtain rfl := Option.some.inj h
                    exact hret _ _ _ _ dX7_place_151 rfl hI
      · have h := it_n h c4
        exact t_RS_place_21 N  cx hret μ h hI (lv_sub hl [] rfl)
def f_RS_firstWith_2 (N : Nat) (μ : zM) (rw : (Nat → Int32))  : Nat → Int32 → Int32 → Option Int32
  | 0, _, _ => none
  | n + 1, x2, x3 => (if ((μ 0).1 0 3) ≤ x3 then some (-4 : Int32) else if zin x3 7 then (f_RS_hasBit (rw x3.toNatClampNeg) x2).bind (fun q3 => (if q3 = nI 0 then bnd (x3 + (nI 1)) (fun v5 => f_RS_firstWith_2 N μ rw n x2 v5) else some x3)) else none)
set_option maxHeartbeats 4000000 in
set_option maxRecDepth 100000 in
theorem t_RS_firstWith_2 (N : Nat) {p : Program} {l : Launch} {e : Env} {s : State} {m : MethodId} {args : Array Value} {below : List Frame} {meth : Method} {c : Code} {Q : State → Prop} {G : zG} {μ : zM} {oa ja : Nat} {rw : Nat → Int32} (hka : (oa, ja) ∈ zK) (hea : ∀ S : zOb, zcell G oa ja S = .inl (G.2.1 0, 7, .inl (S.1 ja))) (hra : (μ oa).1 ja = rw) {out : Int32} (cx : zCX p (zrm 1) s m args c RX7 cX7_firstWith 4 1 G) (hret : zRi p l e (zrm 1) s m args below meth c cX7_firstWith G .int Q out μ)   : ∀ (n : Nat) (x2 : Int32) (x3 : Int32), f_RS_firstWith_2 N μ rw n x2 x3 = some out → ∀ {H : Heap} {locs : List Loc} {ls : Array Slot}, zIW G s μ H locs → lv_has ls 4 [(0, .ref (G.2.2.1 28 0)), (1, .ref (G.2.2.1 oa ja)), (2, .int x2), (3, .int x3)] → W p l e (zrm 1) s m args below meth c H locs 0 0 Q (F0 m 2 ls []) := by
  obtain ⟨hx, hb, hml, hown, hts, hK, hR⟩ := id cx
  intro n
  induction n with
  | zero =>
    intro x2 x3  h
    cases h
  | succ n ih =>
    intro x2 x3  h H locs ls hI hl
    rw [f_RS_firstWith_2] at h
    refine lv_iload_n hx hb dX7_firstWith_2 rfl (lv_at hl 3 rfl) ?_
    refine lv_aload_n hx hb dX7_firstWith_3 rfl (lv_at hl 0 rfl) ?_
    refine g7_0 cx hI rfl rfl w_16 dX7_firstWith_4 ?_
    refine g6_3 cx hI rfl rfl w_349 dX7_firstWith_7 ?_
    refine lv_icmp_ge (tgt := 31) hx hb dX7_firstWith_10 (by decide) (fun c1 => ?_) (fun c1 => ?_)
    · have h := it_p h c1
      refine lv_bipush (v := (-4 : Int32)) hx hb dX7_firstWith_31 (by decide) ?_
      obtain rfl := Option.some.inj h
      exact hret _ _ _ _ dX7_firstWith_33 rfl hI
    · have h := it_n h c1
      refine lv_aload_n hx hb dX7_firstWith_13 rfl (lv_at hl 1 rfl) ?_
      refine lv_iload_n hx hb dX7_firstWith_14 rfl (lv_at hl 3 rfl) ?_
      obtain ⟨g2, h⟩ := gd_el h
      refine zr_iaA cx hI hka hra hea rfl g2 dX7_firstWith_15 ?_
      refine lv_iload_n hx hb dX7_firstWith_16 rfl (lv_at hl 2 rfl) ?_
      obtain ⟨q3, hq3, h⟩ := bi_el h
      refine zcSi (As := [.int (rw x3.toNatClampNeg), .int x2]) cx hI (c_RS_hasBit  hq3) mt_yX7_hasBit ms_yX7_hasBit w_567 (by omega) rfl hl.1 rfl (Nat.le_of_ble_eq_true rfl) dX7_firstWith_17 (fun H locs hI => ?_)
      refine lv_if_eq (tgt := 25) hx hb dX7_firstWith_20 (by decide) (fun c4 => ?_) (fun c4 => ?_)
      · have h := it_p h c4
        obtain ⟨v5, ev5⟩ : ∃ z : Int32, z = x3 + (nI 1) := ⟨_, rfl⟩
        have h := bnd_el h ev5
        refine lv_iinc (v := v5) (lv' := [(3, .int v5), (0, .ref (G.2.2.1 28 0)), (1, .ref (G.2.2.1 oa ja)), (2, .int x2)]) hx hb dX7_firstWith_25 hl (k := 3) rfl (by rw [ev5]; rfl) (by decide) rfl (fun ls hl => ?_)
        refine lv_goto (tgt := 2) hx hb dX7_firstWith_28 (by decide) ?_
        exact ih x2 v5 h hI (lv_sub hl [1, 2, 3, 0] rfl)
      · have h := it_n h c4
        refine lv_iload_n hx hb dX7_firstWith_23 rfl (lv_at hl 3 rfl) ?_
        obtain rfl := Option.some.inj h
        exact hret _ _ _ _ dX7_firstWith_24 rfl hI
def f_RS_firstWith (N : Nat) (μ : zM) (rw : (Nat → Int32)) (a2 : Int32) : Option Int32 :=
  f_RS_firstWith_2 N μ rw N a2 (nI 0)
set_option maxHeartbeats 4000000 in
set_option maxRecDepth 100000 in
theorem c_RS_firstWith (N : Nat) {l : Launch} {G : zG} {μ : zM} {oa ja : Nat} {rw : Nat → Int32} (hka : (oa, ja) ∈ zK) (hea : ∀ S : zOb, zcell G oa ja S = .inl (G.2.1 0, 7, .inl (S.1 ja))) (hra : (μ oa).1 ja = rw) {a2 : Int32} {out : Int32} (h : f_RS_firstWith N μ rw a2 = some out) : zMI l G yX7_firstWith cX7_firstWith 4 (some .int) 1 [.ref (G.2.2.1 28 0), .ref (G.2.2.1 oa ja), .int a2] μ out μ := by
  refine zMI.of (by decide) (Nat.le_of_ble_eq_true rfl) (fun p e s m args below meth c Q ls cx hI hl hret => ?_)
  obtain ⟨hx, hb, hml, hown, hts, hK, hR⟩ := id cx
  have hl : lv_has ls 4 [(0, .ref (G.2.2.1 28 0)), (1, .ref (G.2.2.1 oa ja)), (2, .int a2)] := hl
  unfold f_RS_firstWith at h
  refine lv_iconst (v := (nI 0)) hx hb dX7_firstWith_0 (by decide) ?_
  refine lv_istore_n (lv' := [(3, .int (nI 0)), (0, .ref (G.2.2.1 28 0)), (1, .ref (G.2.2.1 oa ja)), (2, .int a2)]) hx hb dX7_firstWith_1 rfl hl (by decide) rfl (fun ls hl => ?_)
  exact t_RS_firstWith_2 N hka hea hra cx hret N a2 (nI 0) h hI (lv_sub hl [1, 2, 3, 0] rfl)
def f_RS_howManyWith_31 (N : Nat) (μ : zM) (rw : (Nat → Int32)) (k5 : Int32 → Int32 → Int32 → Option Int32) (x2 : Int32) (x3 : Int32) (x4 : Int32) : Option Int32 :=
  bnd (x4 + (nI 1)) (fun v5 => k5 x2 x3 v5)
set_option maxHeartbeats 4000000 in
set_option maxRecDepth 100000 in
theorem t_RS_howManyWith_31 (N : Nat) {p : Program} {l : Launch} {e : Env} {s : State} {m : MethodId} {args : Array Value} {below : List Frame} {meth : Method} {c : Code} {Q : State → Prop} {G : zG} {μ : zM} {oa ja : Nat} {rw : Nat → Int32} (hka : (oa, ja) ∈ zK) (hea : ∀ S : zOb, zcell G oa ja S = .inl (G.2.1 0, 7, .inl (S.1 ja))) (hra : (μ oa).1 ja = rw) {out : Int32} (cx : zCX p (zrm 1) s m args c RX7 cX7_howManyWith 5 1 G) (hret : zRi p l e (zrm 1) s m args below meth c cX7_howManyWith G .int Q out μ) {k5 : Int32 → Int32 → Int32 → Option Int32} (hk5 : ∀ (x2 : Int32) (x3 : Int32) (x4 : Int32), k5 x2 x3 x4 = some out → ∀ {H : Heap} {locs : List Loc} {ls : Array Slot}, zIW G s μ H locs → lv_has ls 5 [(0, .ref (G.2.2.1 28 0)), (1, .ref (G.2.2.1 oa ja)), (2, .int x2), (3, .int x3), (4, .int x4)] → W p l e (zrm 1) s m args below meth c H locs 0 0 Q (F0 m 5 ls [])) : ∀ (x2 : Int32) (x3 : Int32) (x4 : Int32), f_RS_howManyWith_31 N μ rw k5 x2 x3 x4 = some out → ∀ {H : Heap} {locs : List Loc} {ls : Array Slot}, zIW G s μ H locs → lv_has ls 5 [(0, .ref (G.2.2.1 28 0)), (1, .ref (G.2.2.1 oa ja)), (2, .int x2), (3, .int x3), (4, .int x4)] → W p l e (zrm 1) s m args below meth c H locs 0 0 Q (F0 m 31 ls []) := by
  obtain ⟨hx, hb, hml, hown, hts, hK, hR⟩ := id cx
  intro x2 x3 x4  h H locs ls hI hl
  unfold f_RS_howManyWith_31 at h
  obtain ⟨v5, ev5⟩ : ∃ z : Int32, z = x4 + (nI 1) := ⟨_, rfl⟩
  have h := bnd_el h ev5
  refine lv_iinc (v := v5) (lv' := [(4, .int v5), (0, .ref (G.2.2.1 28 0)), (1, .ref (G.2.2.1 oa ja)), (2, .int x2), (3, .int x3)]) hx hb dX7_howManyWith_31 hl (k := 4) rfl (by rw [ev5]; rfl) (by decide) rfl (fun ls hl => ?_)
  refine lv_goto (tgt := 5) hx hb dX7_howManyWith_34 (by decide) ?_
  exact hk5 x2 x3 v5 h hI (lv_sub hl [1, 2, 3, 4, 0] rfl)
def f_RS_howManyWith_5 (N : Nat) (μ : zM) (rw : (Nat → Int32))  : Nat → Int32 → Int32 → Int32 → Option Int32
  | 0, _, _, _ => none
  | n + 1, x2, x3, x4 => (if ((μ 0).1 0 3) ≤ x4 then some x3 else if zin x4 7 then (f_RS_hasBit (rw x4.toNatClampNeg) x2).bind (fun q3 => (if q3 = nI 0 then f_RS_howManyWith_31 N μ rw (f_RS_howManyWith_5 N μ rw n) x2 x3 x4 else bnd (x3 + (nI 1)) (fun v6 => f_RS_howManyWith_31 N μ rw (f_RS_howManyWith_5 N μ rw n) x2 v6 x4))) else none)
set_option maxHeartbeats 4000000 in
set_option maxRecDepth 100000 in
theorem t_RS_howManyWith_5 (N : Nat) {p : Program} {l : Launch} {e : Env} {s : State} {m : MethodId} {args : Array Value} {below : List Frame} {meth : Method} {c : Code} {Q : State → Prop} {G : zG} {μ : zM} {oa ja : Nat} {rw : Nat → Int32} (hka : (oa, ja) ∈ zK) (hea : ∀ S : zOb, zcell G oa ja S = .inl (G.2.1 0, 7, .inl (S.1 ja))) (hra : (μ oa).1 ja = rw) {out : Int32} (cx : zCX p (zrm 1) s m args c RX7 cX7_howManyWith 5 1 G) (hret : zRi p l e (zrm 1) s m args below meth c cX7_howManyWith G .int Q out μ)   : ∀ (n : Nat) (x2 : Int32) (x3 : Int32) (x4 : Int32), f_RS_howManyWith_5 N μ rw n x2 x3 x4 = some out → ∀ {H : Heap} {locs : List Loc} {ls : Array Slot}, zIW G s μ H locs → lv_has ls 5 [(0, .ref (G.2.2.1 28 0)), (1, .ref (G.2.2.1 oa ja)), (2, .int x2), (3, .int x3), (4, .int x4)] → W p l e (zrm 1) s m args below meth c H locs 0 0 Q (F0 m 5 ls []) := by
  obtain ⟨hx, hb, hml, hown, hts, hK, hR⟩ := id cx
  intro n
  induction n with
  | zero =>
    intro x2 x3 x4  h
    cases h
  | succ n ih =>
    intro x2 x3 x4  h H locs ls hI hl
    rw [f_RS_howManyWith_5] at h
    refine lv_iload hx hb dX7_howManyWith_5 (lv_at hl 4 rfl) ?_
    refine lv_aload_n hx hb dX7_howManyWith_7 rfl (lv_at hl 0 rfl) ?_
    refine g7_0 cx hI rfl rfl w_16 dX7_howManyWith_8 ?_
    refine g6_3 cx hI rfl rfl w_349 dX7_howManyWith_11 ?_
    refine lv_icmp_ge (tgt := 37) hx hb dX7_howManyWith_14 (by decide) (fun c1 => ?_) (fun c1 => ?_)
    · have h := it_p h c1
      refine lv_iload_n hx hb dX7_howManyWith_37 rfl (lv_at hl 3 rfl) ?_
      obtain rfl := Option.some.inj h
      exact hret _ _ _ _ dX7_howManyWith_38 rfl hI
    · have h := it_n h c1
      refine lv_aload_n hx hb dX7_howManyWith_17 rfl (lv_at hl 1 rfl) ?_
      refine lv_iload hx hb dX7_howManyWith_18 (lv_at hl 4 rfl) ?_
      obtain ⟨g2, h⟩ := gd_el h
      refine zr_iaA cx hI hka hra hea rfl g2 dX7_howManyWith_20 ?_
      refine lv_iload_n hx hb dX7_howManyWith_21 rfl (lv_at hl 2 rfl) ?_
      obtain ⟨q3, hq3, h⟩ := bi_el h
      refine zcSi (As := [.int (rw x4.toNatClampNeg), .int x2]) cx hI (c_RS_hasBit  hq3) mt_yX7_hasBit ms_yX7_hasBit w_567 (by omega) rfl hl.1 rfl (Nat.le_of_ble_eq_true rfl) dX7_howManyWith_22 (fun H locs hI => ?_)
      refine lv_if_eq (tgt := 31) hx hb dX7_howManyWith_25 (by decide) (fun c4 => ?_) (fun c4 => ?_)
      · have h := it_p h c4
        exact t_RS_howManyWith_31 N hka hea hra cx hret ih x2 x3 x4 h hI hl
      · have h := it_n h c4
        obtain ⟨v6, ev6⟩ : ∃ z : Int32, z = x3 + (nI 1) := ⟨_, rfl⟩
        have h := bnd_el h ev6
        refine lv_iinc (v := v6) (lv' := [(3, .int v6), (0, .ref (G.2.2.1 28 0)), (1, .ref (G.2.2.1 oa ja)), (2, .int x2), (4, .int x4)]) hx hb dX7_howManyWith_28 hl (k := 3) rfl (by rw [ev6]; rfl) (by decide) rfl (fun ls hl => ?_)
        exact t_RS_howManyWith_31 N hka hea hra cx hret ih x2 v6 x4 h hI (lv_sub hl [1, 2, 3, 0, 4] rfl)
def f_RS_howManyWith (N : Nat) (μ : zM) (rw : (Nat → Int32)) (a2 : Int32) : Option Int32 :=
  f_RS_howManyWith_5 N μ rw N a2 (nI 0) (nI 0)
set_option maxHeartbeats 4000000 in
set_option maxRecDepth 100000 in
theorem c_RS_howManyWith (N : Nat) {l : Launch} {G : zG} {μ : zM} {oa ja : Nat} {rw : Nat → Int32} (hka : (oa, ja) ∈ zK) (hea : ∀ S : zOb, zcell G oa ja S = .inl (G.2.1 0, 7, .inl (S.1 ja))) (hra : (μ oa).1 ja = rw) {a2 : Int32} {out : Int32} (h : f_RS_howManyWith N μ rw a2 = some out) : zMI l G yX7_howManyWith cX7_howManyWith 5 (some .int) 1 [.ref (G.2.2.1 28 0), .ref (G.2.2.1 oa ja), .int a2] μ out μ := by
  refine zMI.of (by decide) (Nat.le_of_ble_eq_true rfl) (fun p e s m args below meth c Q ls cx hI hl hret => ?_)
  obtain ⟨hx, hb, hml, hown, hts, hK, hR⟩ := id cx
  have hl : lv_has ls 5 [(0, .ref (G.2.2.1 28 0)), (1, .ref (G.2.2.1 oa ja)), (2, .int a2)] := hl
  unfold f_RS_howManyWith at h
  refine lv_iconst (v := (nI 0)) hx hb dX7_howManyWith_0 (by decide) ?_
  refine lv_istore_n (lv' := [(3, .int (nI 0)), (0, .ref (G.2.2.1 28 0)), (1, .ref (G.2.2.1 oa ja)), (2, .int a2)]) hx hb dX7_howManyWith_1 rfl hl (by decide) rfl (fun ls hl => ?_)
  refine lv_iconst (v := (nI 0)) hx hb dX7_howManyWith_2 (by decide) ?_
  refine lv_istore (lv' := [(4, .int (nI 0)), (3, .int (nI 0)), (0, .ref (G.2.2.1 28 0)), (1, .ref (G.2.2.1 oa ja)), (2, .int a2)]) hx hb dX7_howManyWith_3 hl (by decide) rfl (fun ls hl => ?_)
  exact t_RS_howManyWith_5 N hka hea hra cx hret N a2 (nI 0) (nI 0) h hI (lv_sub hl [2, 3, 4, 1, 0] rfl)
def f_RS_word_19 (N : Nat)  (μ : zM) : Option (Int32 × zM) :=
  some ((-1 : Int32), μ)
set_option maxHeartbeats 4000000 in
set_option maxRecDepth 100000 in
theorem t_RS_word_19 (N : Nat) {p : Program} {l : Launch} {e : Env} {s : State} {m : MethodId} {args : Array Value} {below : List Frame} {meth : Method} {c : Code} {Q : State → Prop} {G : zG}  {out : (Int32 × zM)} (cx : zCX p (zrm 3) s m args c RX7 cX7_word 3 3 G) (hret : zRi p l e (zrm 3) s m args below meth c cX7_word G .int Q out.1 out.2)   : ∀ (μ : zM), f_RS_word_19 N μ = some out → ∀ {H : Heap} {locs : List Loc} {ls : Array Slot}, zIW G s μ H locs → lv_has ls 3 [] → W p l e (zrm 3) s m args below meth c H locs 0 0 Q (F0 m 19 ls []) := by
  obtain ⟨hx, hb, hml, hown, hts, hK, hR⟩ := id cx
  intro μ  h H locs ls hI hl
  unfold f_RS_word_19 at h
  refine lv_iconst (v := (-1 : Int32)) hx hb dX7_word_19 (by decide) ?_
  obtain rfl := Option.some.inj h
  exact hret _ _ _ _ dX7_word_20 rfl hI
def f_RS_word (N : Nat) (μ : zM) (a1 : Int32) (a2 : Int32) : Option (Int32 × zM) :=
  (if a1 < nI 0 then f_RS_word_19 N μ else (if (nI 20) ≤ a1 then f_RS_word_19 N μ else (if a2 < nI 0 then f_RS_word_19 N μ else (if a2 ≤ (nI 4) then (f_Rd_readOrder N (μ 21) (μ 0)).bind (fun q5 => bnd (zset μ 21 q5) (fun μ6 => (if a2 = (nI 0) then (f_RS_firstWith N μ6 ((μ6 21).1 7) a1).bind (fun q8 => some (q8, μ6)) else if a2 = (nI 1) then (f_Rd_strengthBehindAll (μ6 21) a1).bind (fun q10 => some (q10, μ6)) else if a2 = (nI 2) then (f_RS_howManyWith N μ6 ((μ6 21).1 7) a1).bind (fun q12 => some (q12, μ6)) else if a2 = (nI 3) then (f_RS_howManyWith N μ6 ((μ6 21).1 9) a1).bind (fun q14 => some (q14, μ6)) else (f_RS_howManyWith N μ6 ((μ6 0).1 1) a1).bind (fun q15 => some (q15, μ6))))) else f_RS_word_19 N μ))))
set_option maxHeartbeats 4000000 in
set_option maxRecDepth 100000 in
theorem c_RS_word (N : Nat) {l : Launch} {G : zG} {μ : zM}  {a1 : Int32} {a2 : Int32} {out : (Int32 × zM)} (h : f_RS_word N μ a1 a2 = some out) : zMI l G yX7_word cX7_word 3 (some .int) 3 [.ref (G.2.2.1 28 0), .int a1, .int a2] μ out.1 out.2 := by
  refine zMI.of (by decide) (Nat.le_of_ble_eq_true rfl) (fun p e s m args below meth c Q ls cx hI hl hret => ?_)
  obtain ⟨hx, hb, hml, hown, hts, hK, hR⟩ := id cx
  have hl : lv_has ls 3 [(0, .ref (G.2.2.1 28 0)), (1, .int a1), (2, .int a2)] := hl
  unfold f_RS_word at h
  refine lv_iload_n hx hb dX7_word_0 rfl (lv_at hl 1 rfl) ?_
  refine lv_if_lt (tgt := 19) hx hb dX7_word_1 (by decide) (fun c1 => ?_) (fun c1 => ?_)
  · have h := it_p h c1
    exact t_RS_word_19 N  cx hret μ h hI (lv_sub hl [] rfl)
  · have h := it_n h c1
    refine lv_iload_n hx hb dX7_word_4 rfl (lv_at hl 1 rfl) ?_
    refine lv_bipush (v := (nI 20)) hx hb dX7_word_5 (by decide) ?_
    refine lv_icmp_ge (tgt := 19) hx hb dX7_word_7 (by decide) (fun c2 => ?_) (fun c2 => ?_)
    · have h := it_p h c2
      exact t_RS_word_19 N  cx hret μ h hI (lv_sub hl [] rfl)
    · have h := it_n h c2
      refine lv_iload_n hx hb dX7_word_10 rfl (lv_at hl 2 rfl) ?_
      refine lv_if_lt (tgt := 19) hx hb dX7_word_11 (by decide) (fun c3 => ?_) (fun c3 => ?_)
      · have h := it_p h c3
        exact t_RS_word_19 N  cx hret μ h hI (lv_sub hl [] rfl)
      · have h := it_n h c3
        refine lv_iload_n hx hb dX7_word_14 rfl (lv_at hl 2 rfl) ?_
        refine lv_iconst (v := (nI 4)) hx hb dX7_word_15 (by decide) ?_
        refine lv_icmp_le (tgt := 21) hx hb dX7_word_16 (by decide) (fun c4 => ?_) (fun c4 => ?_)
        · have h := it_p h c4
          refine lv_aload_n hx hb dX7_word_21 rfl (lv_at hl 0 rfl) ?_
          refine g7_8 cx hI rfl rfl w_35 dX7_word_22 ?_
          refine lv_aload_n hx hb dX7_word_25 rfl (lv_at hl 0 rfl) ?_
          refine g7_0 cx hI rfl rfl w_16 dX7_word_26 ?_
          obtain ⟨q5, hq5, h⟩ := bi_el h
          obtain ⟨μ6, eμ6⟩ : ∃ z : zM, z = zset μ 21 q5 := ⟨_, rfl⟩
          have h := bnd_el h eμ6
          refine zcVv (As := [.ref (G.2.2.1 0 0)]) cx hI (c_Rd_readOrder N rfl rfl rfl rfl (by decide) hq5 eμ6.symm) mt_yX3_readOrder mv_yX3_readOrder w_544 (by omega) (k3_0 rfl) (zv3 rfl) rfl hl.1 rfl (Nat.le_of_ble_eq_true rfl) dX7_word_29 (fun H locs hI => ?_)
          refine lv_iload_n hx hb dX7_word_32 rfl (lv_at hl 2 rfl) ?_
          by_cases c7 : a2 = (nI 0)
          · have h := it_p h c7
            refine lv_tableIn (off := 31) (tgt := 64) hx hb dX7_word_33 (by rw [c7]; decide) (by rw [c7]; decide) (by rw [c7]; rfl) (by decide) ?_
            refine lv_aload_n hx hb dX7_word_64 rfl (lv_at hl 0 rfl) ?_
            refine lv_aload_n hx hb dX7_word_65 rfl (lv_at hl 0 rfl) ?_
            refine g7_8 cx hI rfl rfl w_35 dX7_word_66 ?_
            refine g3_6 cx hI rfl rfl w_540 dX7_word_69 ?_
            refine lv_iload_n hx hb dX7_word_72 rfl (lv_at hl 1 rfl) ?_
            obtain ⟨q8, hq8, h⟩ := bi_el h
            refine zcVi (As := [.ref (G.2.2.1 21 7), .int a1]) cx hI (c_RS_firstWith N (k3_7 rfl) (z3_7 rfl) rfl hq8) mt_yX7_firstWith mv_yX7_firstWith w_563 (by omega) (k7_0 rfl) (zv7 rfl) rfl hl.1 rfl (Nat.le_of_ble_eq_true rfl) dX7_word_73 (fun H locs hI => ?_)
            obtain rfl := Option.some.inj h
            exact hret _ _ _ _ dX7_word_76 rfl hI
          · have h := it_n h c7
            by_cases c9 : a2 = (nI 1)
            · have h := it_p h c9
              refine lv_tableIn (off := 44) (tgt := 77) hx hb dX7_word_33 (by rw [c9]; decide) (by rw [c9]; decide) (by rw [c9]; rfl) (by decide) ?_
              refine lv_aload_n hx hb dX7_word_77 rfl (lv_at hl 0 rfl) ?_
              refine g7_8 cx hI rfl rfl w_35 dX7_word_78 ?_
              refine lv_iload_n hx hb dX7_word_81 rfl (lv_at hl 1 rfl) ?_
              obtain ⟨q10, hq10, h⟩ := bi_el h
              refine zcVi (As := [.int a1]) cx hI (c_Rd_strengthBehindAll rfl rfl hq10) mt_yX3_strengthBehindAll mv_yX3_strengthBehindAll w_568 (by omega) (k3_0 rfl) (zv3 rfl) rfl hl.1 rfl (Nat.le_of_ble_eq_true rfl) dX7_word_82 (fun H locs hI => ?_)
              obtain rfl := Option.some.inj h
              exact hret _ _ _ _ dX7_word_85 rfl hI
            · have h := it_n h c9
              by_cases c11 : a2 = (nI 2)
              · have h := it_p h c11
                refine lv_tableIn (off := 53) (tgt := 86) hx hb dX7_word_33 (by rw [c11]; decide) (by rw [c11]; decide) (by rw [c11]; rfl) (by decide) ?_
                refine lv_aload_n hx hb dX7_word_86 rfl (lv_at hl 0 rfl) ?_
                refine lv_aload_n hx hb dX7_word_87 rfl (lv_at hl 0 rfl) ?_
                refine g7_8 cx hI rfl rfl w_35 dX7_word_88 ?_
                refine g3_6 cx hI rfl rfl w_540 dX7_word_91 ?_
                refine lv_iload_n hx hb dX7_word_94 rfl (lv_at hl 1 rfl) ?_
                obtain ⟨q12, hq12, h⟩ := bi_el h
                refine zcVi (As := [.ref (G.2.2.1 21 7), .int a1]) cx hI (c_RS_howManyWith N (k3_7 rfl) (z3_7 rfl) rfl hq12) mt_yX7_howManyWith mv_yX7_howManyWith w_572 (by omega) (k7_0 rfl) (zv7 rfl) rfl hl.1 rfl (Nat.le_of_ble_eq_true rfl) dX7_word_95 (fun H locs hI => ?_)
                obtain rfl := Option.some.inj h
                exact hret _ _ _ _ dX7_word_98 rfl hI
              · have h := it_n h c11
                by_cases c13 : a2 = (nI 3)
                · have h := it_p h c13
                  refine lv_tableIn (off := 66) (tgt := 99) hx hb dX7_word_33 (by rw [c13]; decide) (by rw [c13]; decide) (by rw [c13]; rfl) (by decide) ?_
                  refine lv_aload_n hx hb dX7_word_99 rfl (lv_at hl 0 rfl) ?_
                  refine lv_aload_n hx hb dX7_word_100 rfl (lv_at hl 0 rfl) ?_
                  refine g7_8 cx hI rfl rfl w_35 dX7_word_101 ?_
                  refine g3_8 cx hI rfl rfl w_542 dX7_word_104 ?_
                  refine lv_iload_n hx hb dX7_word_107 rfl (lv_at hl 1 rfl) ?_
                  obtain ⟨q14, hq14, h⟩ := bi_el h
                  refine zcVi (As := [.ref (G.2.2.1 21 9), .int a1]) cx hI (c_RS_howManyWith N (k3_9 rfl) (z3_9 rfl) rfl hq14) mt_yX7_howManyWith mv_yX7_howManyWith w_572 (by omega) (k7_0 rfl) (zv7 rfl) rfl hl.1 rfl (Nat.le_of_ble_eq_true rfl) dX7_word_108 (fun H locs hI => ?_)
                  obtain rfl := Option.some.inj h
                  exact hret _ _ _ _ dX7_word_111 rfl hI
                · have h := it_n h c13
                  refine lv_tableOut (tgt := 112) hx hb dX7_word_33 (by have tc7 := tn c7 (i := 0) rfl; have tc9 := tn c9 (i := 1) rfl; have tc11 := tn c11 (i := 2) rfl; have tc13 := tn c13 (i := 3) rfl; omega) (by decide) ?_
                  refine lv_aload_n hx hb dX7_word_112 rfl (lv_at hl 0 rfl) ?_
                  refine lv_aload_n hx hb dX7_word_113 rfl (lv_at hl 0 rfl) ?_
                  refine g7_0 cx hI rfl rfl w_16 dX7_word_114 ?_
                  refine g6_0 cx hI rfl rfl w_562 dX7_word_117 ?_
                  refine lv_iload_n hx hb dX7_word_120 rfl (lv_at hl 1 rfl) ?_
                  obtain ⟨q15, hq15, h⟩ := bi_el h
                  refine zcVi (As := [.ref (G.2.2.1 0 1), .int a1]) cx hI (c_RS_howManyWith N (k6_1 rfl) (z6_1 rfl) rfl hq15) mt_yX7_howManyWith mv_yX7_howManyWith w_572 (by omega) (k7_0 rfl) (zv7 rfl) rfl hl.1 rfl (Nat.le_of_ble_eq_true rfl) dX7_word_121 (fun H locs hI => ?_)
                  obtain rfl := Option.some.inj h
                  exact hret _ _ _ _ dX7_word_124 rfl hI
        · have h := it_n h c4
          exact t_RS_word_19 N  cx hret μ h hI (lv_sub hl [] rfl)
def f_RS_told_20 (N : Nat) (μ : zM)   : Option Int32 :=
  some (-1 : Int32)
set_option maxHeartbeats 4000000 in
set_option maxRecDepth 100000 in
theorem t_RS_told_20 (N : Nat) {p : Program} {l : Launch} {e : Env} {s : State} {m : MethodId} {args : Array Value} {below : List Frame} {meth : Method} {c : Code} {Q : State → Prop} {G : zG} {μ : zM}  {out : Int32} (cx : zCX p (zrm 2) s m args c RX7 cX7_told 3 2 G) (hret : zRi p l e (zrm 2) s m args below meth c cX7_told G .int Q out μ)   : f_RS_told_20 N μ  = some out → ∀ {H : Heap} {locs : List Loc} {ls : Array Slot}, zIW G s μ H locs → lv_has ls 3 [] → W p l e (zrm 2) s m args below meth c H locs 0 0 Q (F0 m 20 ls []) := by
  obtain ⟨hx, hb, hml, hown, hts, hK, hR⟩ := id cx
  intro   h H locs ls hI hl
  unfold f_RS_told_20 at h
  refine lv_iconst (v := (-1 : Int32)) hx hb dX7_told_20 (by decide) ?_
  obtain rfl := Option.some.inj h
  exact hret _ _ _ _ dX7_told_21 rfl hI
def f_RS_told (N : Nat) (μ : zM) (a1 : Int32) (a2 : Int32) : Option Int32 :=
  (f_St_isBook (μ 0) a1).bind (fun q1 => (if q1 = nI 0 then f_RS_told_20 N μ else (if a2 < nI 0 then f_RS_told_20 N μ else (if a2 ≤ (nI 3) then (if a2 = (nI 0) then if zin a1 7 then some ((μ 0).1 1 a1.toNatClampNeg) else none else if a2 = (nI 1) then if zin a1 7 then some ((μ 0).1 2 a1.toNatClampNeg) else none else if a2 = (nI 2) then (f_St_leaders N (μ 0) a1).bind (fun q10 => some q10) else (f_St_placeOf N (μ 0) a1).bind (fun q11 => some q11)) else f_RS_told_20 N μ))))
set_option maxHeartbeats 4000000 in
set_option maxRecDepth 100000 in
theorem c_RS_told (N : Nat) {l : Launch} {G : zG} {μ : zM}  {a1 : Int32} {a2 : Int32} {out : Int32} (h : f_RS_told N μ a1 a2 = some out) : zMI l G yX7_told cX7_told 3 (some .int) 2 [.ref (G.2.2.1 28 0), .int a1, .int a2] μ out μ := by
  refine zMI.of (by decide) (Nat.le_of_ble_eq_true rfl) (fun p e s m args below meth c Q ls cx hI hl hret => ?_)
  obtain ⟨hx, hb, hml, hown, hts, hK, hR⟩ := id cx
  have hl : lv_has ls 3 [(0, .ref (G.2.2.1 28 0)), (1, .int a1), (2, .int a2)] := hl
  unfold f_RS_told at h
  refine lv_aload_n hx hb dX7_told_0 rfl (lv_at hl 0 rfl) ?_
  refine g7_0 cx hI rfl rfl w_16 dX7_told_1 ?_
  refine lv_iload_n hx hb dX7_told_4 rfl (lv_at hl 1 rfl) ?_
  obtain ⟨q1, hq1, h⟩ := bi_el h
  refine zcVi (As := [.int a1]) cx hI (c_St_isBook rfl rfl hq1) mt_yX6_isBook mv_yX6_isBook w_543 (by omega) (k6_0 rfl) (zv6 rfl) rfl hl.1 rfl (Nat.le_of_ble_eq_true rfl) dX7_told_5 (fun H locs hI => ?_)
  refine lv_if_eq (tgt := 20) hx hb dX7_told_8 (by decide) (fun c2 => ?_) (fun c2 => ?_)
  · have h := it_p h c2
    exact t_RS_told_20 N  cx hret  h hI (lv_sub hl [] rfl)
  · have h := it_n h c2
    refine lv_iload_n hx hb dX7_told_11 rfl (lv_at hl 2 rfl) ?_
    refine lv_if_lt (tgt := 20) hx hb dX7_told_12 (by decide) (fun c3 => ?_) (fun c3 => ?_)
    · have h := it_p h c3
      exact t_RS_told_20 N  cx hret  h hI (lv_sub hl [] rfl)
    · have h := it_n h c3
      refine lv_iload_n hx hb dX7_told_15 rfl (lv_at hl 2 rfl) ?_
      refine lv_iconst (v := (nI 3)) hx hb dX7_told_16 (by decide) ?_
      refine lv_icmp_le (tgt := 22) hx hb dX7_told_17 (by decide) (fun c4 => ?_) (fun c4 => ?_)
      · have h := it_p h c4
        refine lv_iload_n hx hb dX7_told_22 rfl (lv_at hl 2 rfl) ?_
        by_cases c5 : a2 = (nI 0)
        · have h := it_p h c5
          refine lv_tableIn (off := 25) (tgt := 48) hx hb dX7_told_23 (by rw [c5]; decide) (by rw [c5]; decide) (by rw [c5]; rfl) (by decide) ?_
          refine lv_aload_n hx hb dX7_told_48 rfl (lv_at hl 0 rfl) ?_
          refine g7_0 cx hI rfl rfl w_16 dX7_told_49 ?_
          refine g6_0 cx hI rfl rfl w_562 dX7_told_52 ?_
          refine lv_iload_n hx hb dX7_told_55 rfl (lv_at hl 1 rfl) ?_
          obtain ⟨g6, h⟩ := gd_el h
          refine zr_iald cx hI (k6_1 rfl) rfl (z6_1 rfl) rfl g6 dX7_told_56 ?_
          obtain rfl := Option.some.inj h
          exact hret _ _ _ _ dX7_told_57 rfl hI
        · have h := it_n h c5
          by_cases c7 : a2 = (nI 1)
          · have h := it_p h c7
            refine lv_tableIn (off := 35) (tgt := 58) hx hb dX7_told_23 (by rw [c7]; decide) (by rw [c7]; decide) (by rw [c7]; rfl) (by decide) ?_
            refine lv_aload_n hx hb dX7_told_58 rfl (lv_at hl 0 rfl) ?_
            refine g7_0 cx hI rfl rfl w_16 dX7_told_59 ?_
            refine g6_1 cx hI rfl rfl w_585 dX7_told_62 ?_
            refine lv_iload_n hx hb dX7_told_65 rfl (lv_at hl 1 rfl) ?_
            obtain ⟨g8, h⟩ := gd_el h
            refine zr_iald cx hI (k6_2 rfl) rfl (z6_2 rfl) rfl g8 dX7_told_66 ?_
            obtain rfl := Option.some.inj h
            exact hret _ _ _ _ dX7_told_67 rfl hI
          · have h := it_n h c7
            by_cases c9 : a2 = (nI 2)
            · have h := it_p h c9
              refine lv_tableIn (off := 45) (tgt := 68) hx hb dX7_told_23 (by rw [c9]; decide) (by rw [c9]; decide) (by rw [c9]; rfl) (by decide) ?_
              refine lv_aload_n hx hb dX7_told_68 rfl (lv_at hl 0 rfl) ?_
              refine g7_0 cx hI rfl rfl w_16 dX7_told_69 ?_
              refine lv_iload_n hx hb dX7_told_72 rfl (lv_at hl 1 rfl) ?_
              obtain ⟨q10, hq10, h⟩ := bi_el h
              refine zcVi (As := [.int a1]) cx hI (c_St_leaders N rfl rfl hq10) mt_yX6_leaders mv_yX6_leaders w_586 (by omega) (k6_0 rfl) (zv6 rfl) rfl hl.1 rfl (Nat.le_of_ble_eq_true rfl) dX7_told_73 (fun H locs hI => ?_)
              obtain rfl := Option.some.inj h
              exact hret _ _ _ _ dX7_told_76 rfl hI
            · have h := it_n h c9
              refine lv_tableOut (tgt := 77) hx hb dX7_told_23 (by have tc5 := tn c5 (i := 0) rfl; have tc7 := tn c7 (i := 1) rfl; have tc9 := tn c9 (i := 2) rfl; omega) (by decide) ?_
              refine lv_aload_n hx hb dX7_told_77 rfl (lv_at hl 0 rfl) ?_
              refine g7_0 cx hI rfl rfl w_16 dX7_told_78 ?_
              refine lv_iload_n hx hb dX7_told_81 rfl (lv_at hl 1 rfl) ?_
              obtain ⟨q11, hq11, h⟩ := bi_el h
              refine zcVi (As := [.int a1]) cx hI (c_St_placeOf N rfl rfl hq11) mt_yX6_placeOf mv_yX6_placeOf w_587 (by omega) (k6_0 rfl) (zv6 rfl) rfl hl.1 rfl (Nat.le_of_ble_eq_true rfl) dX7_told_82 (fun H locs hI => ?_)
              obtain rfl := Option.some.inj h
              exact hret _ _ _ _ dX7_told_85 rfl hI
      · have h := it_n h c4
        exact t_RS_told_20 N  cx hret  h hI (lv_sub hl [] rfl)
def f_RS_countOfReading_103 (N : Nat)  (μ : zM) (s0 : Int32) : Option (Int32 × zM) :=
  some (s0, μ)
set_option maxHeartbeats 4000000 in
set_option maxRecDepth 100000 in
theorem t_RS_countOfReading_103 (N : Nat) {p : Program} {l : Launch} {e : Env} {s : State} {m : MethodId} {args : Array Value} {below : List Frame} {meth : Method} {c : Code} {Q : State → Prop} {G : zG}  {out : (Int32 × zM)} (cx : zCX p (zrm 3) s m args c RX7 cX7_countOfReading 3 3 G) (hret : zRi p l e (zrm 3) s m args below meth c cX7_countOfReading G .int Q out.1 out.2)   : ∀ (μ : zM) (s0 : Int32), f_RS_countOfReading_103 N μ s0 = some out → ∀ {H : Heap} {locs : List Loc} {ls : Array Slot}, zIW G s μ H locs → lv_has ls 3 [] → W p l e (zrm 3) s m args below meth c H locs 0 0 Q (F0 m 103 ls [.int s0]) := by
  obtain ⟨hx, hb, hml, hown, hts, hK, hR⟩ := id cx
  intro μ s0  h H locs ls hI hl
  unfold f_RS_countOfReading_103 at h
  obtain rfl := Option.some.inj h
  exact hret _ _ _ _ dX7_countOfReading_103 rfl hI
def f_RS_countOfReading_113 (N : Nat)  (μ : zM) (s0 : Int32) : Option (Int32 × zM) :=
  some (s0, μ)
set_option maxHeartbeats 4000000 in
set_option maxRecDepth 100000 in
theorem t_RS_countOfReading_113 (N : Nat) {p : Program} {l : Launch} {e : Env} {s : State} {m : MethodId} {args : Array Value} {below : List Frame} {meth : Method} {c : Code} {Q : State → Prop} {G : zG}  {out : (Int32 × zM)} (cx : zCX p (zrm 3) s m args c RX7 cX7_countOfReading 3 3 G) (hret : zRi p l e (zrm 3) s m args below meth c cX7_countOfReading G .int Q out.1 out.2)   : ∀ (μ : zM) (s0 : Int32), f_RS_countOfReading_113 N μ s0 = some out → ∀ {H : Heap} {locs : List Loc} {ls : Array Slot}, zIW G s μ H locs → lv_has ls 3 [] → W p l e (zrm 3) s m args below meth c H locs 0 0 Q (F0 m 113 ls [.int s0]) := by
  obtain ⟨hx, hb, hml, hown, hts, hK, hR⟩ := id cx
  intro μ s0  h H locs ls hI hl
  unfold f_RS_countOfReading_113 at h
  obtain rfl := Option.some.inj h
  exact hret _ _ _ _ dX7_countOfReading_113 rfl hI
def f_RS_countOfReading_43 (N : Nat)  (μ : zM) (x1 : Int32) (s0 : Int32) : Option (Int32 × zM) :=
  (if x1 = (nI 6) then (f_Rd_peak N (μ 21)).bind (fun q6 => some (q6, μ)) else if x1 = (nI 7) then (f_Rd_loss N (μ 21)).bind (fun q8 => some (q8, μ)) else if x1 = (nI 8) then (f_St_holds N (μ 0)).bind (fun q10 => (if q10 = nI 0 then f_RS_countOfReading_103 N μ (nI 0) else f_RS_countOfReading_103 N μ (nI 1))) else (if s0 = nI 0 then f_RS_countOfReading_113 N μ (nI 0) else f_RS_countOfReading_113 N μ (nI 1)))
set_option maxHeartbeats 4000000 in
set_option maxRecDepth 100000 in
theorem t_RS_countOfReading_43 (N : Nat) {p : Program} {l : Launch} {e : Env} {s : State} {m : MethodId} {args : Array Value} {below : List Frame} {meth : Method} {c : Code} {Q : State → Prop} {G : zG}  {out : (Int32 × zM)} (cx : zCX p (zrm 3) s m args c RX7 cX7_countOfReading 3 3 G) (hret : zRi p l e (zrm 3) s m args below meth c cX7_countOfReading G .int Q out.1 out.2)   : ∀ (μ : zM) (x1 : Int32) (s0 : Int32), f_RS_countOfReading_43 N μ x1 s0 = some out → ∀ {H : Heap} {locs : List Loc} {ls : Array Slot}, zIW G s μ H locs → lv_has ls 3 [(0, .ref (G.2.2.1 28 0)), (1, .int x1)] → W p l e (zrm 3) s m args below meth c H locs 0 0 Q (F0 m 43 ls [.int s0]) := by
  obtain ⟨hx, hb, hml, hown, hts, hK, hR⟩ := id cx
  intro μ x1 s0  h H locs ls hI hl
  unfold f_RS_countOfReading_43 at h
  refine lv_istore_n (lv' := [(2, .int s0), (0, .ref (G.2.2.1 28 0)), (1, .int x1)]) hx hb dX7_countOfReading_43 rfl hl (by decide) rfl (fun ls hl => ?_)
  refine lv_iload_n hx hb dX7_countOfReading_44 rfl (lv_at hl 2 rfl) ?_
  by_cases c5 : x1 = (nI 6)
  · have h := it_p h c5
    refine lv_tableIn (off := 27) (tgt := 72) hx hb dX7_countOfReading_45 (by rw [c5]; decide) (by rw [c5]; decide) (by rw [c5]; rfl) (by decide) ?_
    refine lv_aload_n hx hb dX7_countOfReading_72 rfl (lv_at hl 1 rfl) ?_
    refine g7_8 cx hI rfl rfl w_35 dX7_countOfReading_73 ?_
    obtain ⟨q6, hq6, h⟩ := bi_el h
    refine zcVi (As := []) cx hI (c_Rd_peak N rfl rfl hq6) mt_yX3_peak mv_yX3_peak w_611 (by omega) (k3_0 rfl) (zv3 rfl) rfl hl.1 rfl (Nat.le_of_ble_eq_true rfl) dX7_countOfReading_76 (fun H locs hI => ?_)
    obtain rfl := Option.some.inj h
    exact hret _ _ _ _ dX7_countOfReading_79 rfl hI
  · have h := it_n h c5
    by_cases c7 : x1 = (nI 7)
    · have h := it_p h c7
      refine lv_tableIn (off := 35) (tgt := 80) hx hb dX7_countOfReading_45 (by rw [c7]; decide) (by rw [c7]; decide) (by rw [c7]; rfl) (by decide) ?_
      refine lv_aload_n hx hb dX7_countOfReading_80 rfl (lv_at hl 1 rfl) ?_
      refine g7_8 cx hI rfl rfl w_35 dX7_countOfReading_81 ?_
      obtain ⟨q8, hq8, h⟩ := bi_el h
      refine zcVi (As := []) cx hI (c_Rd_loss N rfl rfl hq8) mt_yX3_loss mv_yX3_loss w_612 (by omega) (k3_0 rfl) (zv3 rfl) rfl hl.1 rfl (Nat.le_of_ble_eq_true rfl) dX7_countOfReading_84 (fun H locs hI => ?_)
      obtain rfl := Option.some.inj h
      exact hret _ _ _ _ dX7_countOfReading_87 rfl hI
    · have h := it_n h c7
      by_cases c9 : x1 = (nI 8)
      · have h := it_p h c9
        refine lv_tableIn (off := 43) (tgt := 88) hx hb dX7_countOfReading_45 (by rw [c9]; decide) (by rw [c9]; decide) (by rw [c9]; rfl) (by decide) ?_
        refine lv_aload_n hx hb dX7_countOfReading_88 rfl (lv_at hl 1 rfl) ?_
        refine g7_0 cx hI rfl rfl w_16 dX7_countOfReading_89 ?_
        obtain ⟨q10, hq10, h⟩ := bi_el h
        refine zcVi (As := []) cx hI (c_St_holds N rfl rfl hq10) mt_yX6_holds mv_yX6_holds w_606 (by omega) (k6_0 rfl) (zv6 rfl) rfl hl.1 rfl (Nat.le_of_ble_eq_true rfl) dX7_countOfReading_92 (fun H locs hI => ?_)
        refine lv_if_eq (tgt := 102) hx hb dX7_countOfReading_95 (by decide) (fun c11 => ?_) (fun c11 => ?_)
        · have h := it_p h c11
          refine lv_iconst (v := (nI 0)) hx hb dX7_countOfReading_102 (by decide) ?_
          exact t_RS_countOfReading_103 N  cx hret μ (nI 0) h hI (lv_sub hl [] rfl)
        · have h := it_n h c11
          refine lv_iconst (v := (nI 1)) hx hb dX7_countOfReading_98 (by decide) ?_
          refine lv_goto (tgt := 103) hx hb dX7_countOfReading_99 (by decide) ?_
          exact t_RS_countOfReading_103 N  cx hret μ (nI 1) h hI (lv_sub hl [] rfl)
      · have h := it_n h c9
        refine lv_tableOut (tgt := 104) hx hb dX7_countOfReading_45 (by have tc5 := tn c5 (i := 6) rfl; have tc7 := tn c7 (i := 7) rfl; have tc9 := tn c9 (i := 8) rfl; omega) (by decide) ?_
        refine lv_iload_n hx hb dX7_countOfReading_104 rfl (lv_at hl 0 rfl) ?_
        refine lv_if_eq (tgt := 112) hx hb dX7_countOfReading_105 (by decide) (fun c12 => ?_) (fun c12 => ?_)
        · have h := it_p h c12
          refine lv_iconst (v := (nI 0)) hx hb dX7_countOfReading_112 (by decide) ?_
          exact t_RS_countOfReading_113 N  cx hret μ (nI 0) h hI (lv_sub hl [] rfl)
        · have h := it_n h c12
          refine lv_iconst (v := (nI 1)) hx hb dX7_countOfReading_108 (by decide) ?_
          refine lv_goto (tgt := 113) hx hb dX7_countOfReading_109 (by decide) ?_
          exact t_RS_countOfReading_113 N  cx hret μ (nI 1) h hI (lv_sub hl [] rfl)
def f_RS_countOfReading_42 (N : Nat)  (μ : zM) (x1 : Int32) : Option (Int32 × zM) :=
  f_RS_countOfReading_43 N μ x1 (nI 0)
set_option maxHeartbeats 4000000 in
set_option maxRecDepth 100000 in
theorem t_RS_countOfReading_42 (N : Nat) {p : Program} {l : Launch} {e : Env} {s : State} {m : MethodId} {args : Array Value} {below : List Frame} {meth : Method} {c : Code} {Q : State → Prop} {G : zG}  {out : (Int32 × zM)} (cx : zCX p (zrm 3) s m args c RX7 cX7_countOfReading 3 3 G) (hret : zRi p l e (zrm 3) s m args below meth c cX7_countOfReading G .int Q out.1 out.2)   : ∀ (μ : zM) (x1 : Int32), f_RS_countOfReading_42 N μ x1 = some out → ∀ {H : Heap} {locs : List Loc} {ls : Array Slot}, zIW G s μ H locs → lv_has ls 3 [(0, .ref (G.2.2.1 28 0)), (1, .int x1)] → W p l e (zrm 3) s m args below meth c H locs 0 0 Q (F0 m 42 ls []) := by
  obtain ⟨hx, hb, hml, hown, hts, hK, hR⟩ := id cx
  intro μ x1  h H locs ls hI hl
  unfold f_RS_countOfReading_42 at h
  refine lv_iconst (v := (nI 0)) hx hb dX7_countOfReading_42 (by decide) ?_
  exact t_RS_countOfReading_43 N  cx hret μ x1 (nI 0) h hI hl
def f_RS_countOfReading (N : Nat) (μ : zM) (a1 : Int32) : Option (Int32 × zM) :=
  (f_Rd_readOrder N (μ 21) (μ 0)).bind (fun q1 => bnd (zset μ 21 q1) (fun μ2 => (f_St_holds N (μ2 0)).bind (fun q3 => (if q3 = nI 0 then f_RS_countOfReading_42 N μ2 a1 else (f_Rd_peak N (μ2 21)).bind (fun q13 => (if ((μ2 0).1 0 6) < q13 then f_RS_countOfReading_42 N μ2 a1 else f_RS_countOfReading_43 N μ2 a1 (nI 1)))))))
set_option maxHeartbeats 4000000 in
set_option maxRecDepth 100000 in
theorem c_RS_countOfReading (N : Nat) {l : Launch} {G : zG} {μ : zM}  {a1 : Int32} {out : (Int32 × zM)} (h : f_RS_countOfReading N μ a1 = some out) : zMI l G yX7_countOfReading cX7_countOfReading 3 (some .int) 3 [.ref (G.2.2.1 28 0), .int a1] μ out.1 out.2 := by
  refine zMI.of (by decide) (Nat.le_of_ble_eq_true rfl) (fun p e s m args below meth c Q ls cx hI hl hret => ?_)
  obtain ⟨hx, hb, hml, hown, hts, hK, hR⟩ := id cx
  have hl : lv_has ls 3 [(0, .ref (G.2.2.1 28 0)), (1, .int a1)] := hl
  unfold f_RS_countOfReading at h
  refine lv_aload_n hx hb dX7_countOfReading_0 rfl (lv_at hl 0 rfl) ?_
  refine g7_8 cx hI rfl rfl w_35 dX7_countOfReading_1 ?_
  refine lv_aload_n hx hb dX7_countOfReading_4 rfl (lv_at hl 0 rfl) ?_
  refine g7_0 cx hI rfl rfl w_16 dX7_countOfReading_5 ?_
  obtain ⟨q1, hq1, h⟩ := bi_el h
  obtain ⟨μ2, eμ2⟩ : ∃ z : zM, z = zset μ 21 q1 := ⟨_, rfl⟩
  have h := bnd_el h eμ2
  refine zcVv (As := [.ref (G.2.2.1 0 0)]) cx hI (c_Rd_readOrder N rfl rfl rfl rfl (by decide) hq1 eμ2.symm) mt_yX3_readOrder mv_yX3_readOrder w_544 (by omega) (k3_0 rfl) (zv3 rfl) rfl hl.1 rfl (Nat.le_of_ble_eq_true rfl) dX7_countOfReading_8 (fun H locs hI => ?_)
  refine lv_aload_n hx hb dX7_countOfReading_11 rfl (lv_at hl 0 rfl) ?_
  refine g7_0 cx hI rfl rfl w_16 dX7_countOfReading_12 ?_
  obtain ⟨q3, hq3, h⟩ := bi_el h
  refine zcVi (As := []) cx hI (c_St_holds N rfl rfl hq3) mt_yX6_holds mv_yX6_holds w_606 (by omega) (k6_0 rfl) (zv6 rfl) rfl hl.1 rfl (Nat.le_of_ble_eq_true rfl) dX7_countOfReading_15 (fun H locs hI => ?_)
  refine lv_if_eq (tgt := 42) hx hb dX7_countOfReading_18 (by decide) (fun c4 => ?_) (fun c4 => ?_)
  · have h := it_p h c4
    exact t_RS_countOfReading_42 N  cx hret μ2 a1 h hI hl
  · have h := it_n h c4
    refine lv_aload_n hx hb dX7_countOfReading_21 rfl (lv_at hl 0 rfl) ?_
    refine g7_8 cx hI rfl rfl w_35 dX7_countOfReading_22 ?_
    obtain ⟨q13, hq13, h⟩ := bi_el h
    refine zcVi (As := []) cx hI (c_Rd_peak N rfl rfl hq13) mt_yX3_peak mv_yX3_peak w_611 (by omega) (k3_0 rfl) (zv3 rfl) rfl hl.1 rfl (Nat.le_of_ble_eq_true rfl) dX7_countOfReading_25 (fun H locs hI => ?_)
    refine lv_aload_n hx hb dX7_countOfReading_28 rfl (lv_at hl 0 rfl) ?_
    refine g7_0 cx hI rfl rfl w_16 dX7_countOfReading_29 ?_
    refine g6_6 cx hI rfl rfl w_598 dX7_countOfReading_32 ?_
    refine lv_icmp_gt (tgt := 42) hx hb dX7_countOfReading_35 (by decide) (fun c14 => ?_) (fun c14 => ?_)
    · have h := it_p h c14
      exact t_RS_countOfReading_42 N  cx hret μ2 a1 h hI hl
    · have h := it_n h c14
      refine lv_iconst (v := (nI 1)) hx hb dX7_countOfReading_38 (by decide) ?_
      refine lv_goto (tgt := 43) hx hb dX7_countOfReading_39 (by decide) ?_
      exact t_RS_countOfReading_43 N  cx hret μ2 a1 (nI 1) h hI hl
def f_RS_count_142 (N : Nat)  (μ : zM) (s0 : Int32) : Option (Int32 × zM) :=
  some (s0, μ)
set_option maxHeartbeats 4000000 in
set_option maxRecDepth 100000 in
theorem t_RS_count_142 (N : Nat) {p : Program} {l : Launch} {e : Env} {s : State} {m : MethodId} {args : Array Value} {below : List Frame} {meth : Method} {c : Code} {Q : State → Prop} {G : zG}  {out : (Int32 × zM)} (cx : zCX p (zrm 4) s m args c RX7 cX7_count 2 4 G) (hret : zRi p l e (zrm 4) s m args below meth c cX7_count G .int Q out.1 out.2)   : ∀ (μ : zM) (s0 : Int32), f_RS_count_142 N μ s0 = some out → ∀ {H : Heap} {locs : List Loc} {ls : Array Slot}, zIW G s μ H locs → lv_has ls 2 [] → W p l e (zrm 4) s m args below meth c H locs 0 0 Q (F0 m 142 ls [.int s0]) := by
  obtain ⟨hx, hb, hml, hown, hts, hK, hR⟩ := id cx
  intro μ s0  h H locs ls hI hl
  unfold f_RS_count_142 at h
  obtain rfl := Option.some.inj h
  exact hret _ _ _ _ dX7_count_142 rfl hI
def f_RS_count_133 (N : Nat)  (μ : zM) : Option (Int32 × zM) :=
  f_RS_count_142 N μ (-1 : Int32)
set_option maxHeartbeats 4000000 in
set_option maxRecDepth 100000 in
theorem t_RS_count_133 (N : Nat) {p : Program} {l : Launch} {e : Env} {s : State} {m : MethodId} {args : Array Value} {below : List Frame} {meth : Method} {c : Code} {Q : State → Prop} {G : zG}  {out : (Int32 × zM)} (cx : zCX p (zrm 4) s m args c RX7 cX7_count 2 4 G) (hret : zRi p l e (zrm 4) s m args below meth c cX7_count G .int Q out.1 out.2)   : ∀ (μ : zM), f_RS_count_133 N μ = some out → ∀ {H : Heap} {locs : List Loc} {ls : Array Slot}, zIW G s μ H locs → lv_has ls 2 [] → W p l e (zrm 4) s m args below meth c H locs 0 0 Q (F0 m 133 ls []) := by
  obtain ⟨hx, hb, hml, hown, hts, hK, hR⟩ := id cx
  intro μ  h H locs ls hI hl
  unfold f_RS_count_133 at h
  refine lv_iconst (v := (-1 : Int32)) hx hb dX7_count_133 (by decide) ?_
  refine lv_goto (tgt := 142) hx hb dX7_count_134 (by decide) ?_
  exact t_RS_count_142 N  cx hret μ (-1 : Int32) h hI hl
def f_RS_count_123 (N : Nat)  (μ : zM) (x1 : Int32) : Option (Int32 × zM) :=
  (if x1 < nI 0 then f_RS_count_133 N μ else (if x1 ≤ (nI 10) then (f_RS_countOfReading N μ x1).bind (fun q11 => f_RS_count_142 N q11.2 q11.1) else f_RS_count_133 N μ))
set_option maxHeartbeats 4000000 in
set_option maxRecDepth 100000 in
theorem t_RS_count_123 (N : Nat) {p : Program} {l : Launch} {e : Env} {s : State} {m : MethodId} {args : Array Value} {below : List Frame} {meth : Method} {c : Code} {Q : State → Prop} {G : zG}  {out : (Int32 × zM)} (cx : zCX p (zrm 4) s m args c RX7 cX7_count 2 4 G) (hret : zRi p l e (zrm 4) s m args below meth c cX7_count G .int Q out.1 out.2)   : ∀ (μ : zM) (x1 : Int32), f_RS_count_123 N μ x1 = some out → ∀ {H : Heap} {locs : List Loc} {ls : Array Slot}, zIW G s μ H locs → lv_has ls 2 [(0, .ref (G.2.2.1 28 0)), (1, .int x1)] → W p l e (zrm 4) s m args below meth c H locs 0 0 Q (F0 m 123 ls []) := by
  obtain ⟨hx, hb, hml, hown, hts, hK, hR⟩ := id cx
  intro μ x1  h H locs ls hI hl
  unfold f_RS_count_123 at h
  refine lv_iload_n hx hb dX7_count_123 rfl (lv_at hl 1 rfl) ?_
  refine lv_if_lt (tgt := 133) hx hb dX7_count_124 (by decide) (fun c9 => ?_) (fun c9 => ?_)
  · have h := it_p h c9
    exact t_RS_count_133 N  cx hret μ h hI (lv_sub hl [] rfl)
  · have h := it_n h c9
    refine lv_iload_n hx hb dX7_count_127 rfl (lv_at hl 1 rfl) ?_
    refine lv_bipush (v := (nI 10)) hx hb dX7_count_128 (by decide) ?_
    refine lv_icmp_le (tgt := 137) hx hb dX7_count_130 (by decide) (fun c10 => ?_) (fun c10 => ?_)
    · have h := it_p h c10
      refine lv_aload_n hx hb dX7_count_137 rfl (lv_at hl 0 rfl) ?_
      refine lv_iload_n hx hb dX7_count_138 rfl (lv_at hl 1 rfl) ?_
      obtain ⟨q11, hq11, h⟩ := bi_el h
      refine zcVi (As := [.int x1]) cx hI (c_RS_countOfReading N hq11) mt_yX7_countOfReading mv_yX7_countOfReading w_602 (by omega) (k7_0 rfl) (zv7 rfl) rfl hl.1 rfl (Nat.le_of_ble_eq_true rfl) dX7_count_139 (fun H locs hI => ?_)
      exact t_RS_count_142 N  cx hret q11.2 q11.1 h hI (lv_sub hl [] rfl)
    · have h := it_n h c10
      exact t_RS_count_133 N  cx hret μ h hI (lv_sub hl [] rfl)
def f_RS_count (N : Nat) (μ : zM) (a1 : Int32) : Option (Int32 × zM) :=
  (if a1 = (nI 0) then some ((μ 0).1 0 3, μ) else if a1 = (nI 1) then some ((μ 0).1 0 4, μ) else if a1 = (nI 2) then some ((μ 0).1 0 5, μ) else if a1 = (nI 3) then some ((μ 0).1 0 6, μ) else if a1 = (nI 4) then some ((μ 0).1 0 7, μ) else if a1 = (nI 5) then (f_St_number N (μ 0) ((μ 0).1 3)).bind (fun q7 => some (q7, μ)) else if a1 = (nI 6) then f_RS_count_123 N μ a1 else if a1 = (nI 7) then f_RS_count_123 N μ a1 else if a1 = (nI 8) then f_RS_count_123 N μ a1 else if a1 = (nI 9) then f_RS_count_123 N μ a1 else if a1 = (nI 10) then some ((μ 16).1 0 1, μ) else f_RS_count_123 N μ a1)
set_option maxHeartbeats 4000000 in
set_option maxRecDepth 100000 in
theorem c_RS_count (N : Nat) {l : Launch} {G : zG} {μ : zM}  {a1 : Int32} {out : (Int32 × zM)} (h : f_RS_count N μ a1 = some out) : zMI l G yX7_count cX7_count 2 (some .int) 4 [.ref (G.2.2.1 28 0), .int a1] μ out.1 out.2 := by
  refine zMI.of (by decide) (Nat.le_of_ble_eq_true rfl) (fun p e s m args below meth c Q ls cx hI hl hret => ?_)
  obtain ⟨hx, hb, hml, hown, hts, hK, hR⟩ := id cx
  have hl : lv_has ls 2 [(0, .ref (G.2.2.1 28 0)), (1, .int a1)] := hl
  unfold f_RS_count at h
  refine lv_iload_n hx hb dX7_count_0 rfl (lv_at hl 1 rfl) ?_
  by_cases c1 : a1 = (nI 0)
  · have h := it_p h c1
    refine lv_tableIn (off := 59) (tgt := 60) hx hb dX7_count_1 (by rw [c1]; decide) (by rw [c1]; decide) (by rw [c1]; rfl) (by decide) ?_
    refine lv_aload_n hx hb dX7_count_60 rfl (lv_at hl 0 rfl) ?_
    refine g7_0 cx hI rfl rfl w_16 dX7_count_61 ?_
    refine g6_3 cx hI rfl rfl w_349 dX7_count_64 ?_
    obtain rfl := Option.some.inj h
    exact hret _ _ _ _ dX7_count_67 rfl hI
  · have h := it_n h c1
    by_cases c2 : a1 = (nI 1)
    · have h := it_p h c2
      refine lv_tableIn (off := 67) (tgt := 68) hx hb dX7_count_1 (by rw [c2]; decide) (by rw [c2]; decide) (by rw [c2]; rfl) (by decide) ?_
      refine lv_aload_n hx hb dX7_count_68 rfl (lv_at hl 0 rfl) ?_
      refine g7_0 cx hI rfl rfl w_16 dX7_count_69 ?_
      refine g6_4 cx hI rfl rfl w_596 dX7_count_72 ?_
      obtain rfl := Option.some.inj h
      exact hret _ _ _ _ dX7_count_75 rfl hI
    · have h := it_n h c2
      by_cases c3 : a1 = (nI 2)
      · have h := it_p h c3
        refine lv_tableIn (off := 75) (tgt := 76) hx hb dX7_count_1 (by rw [c3]; decide) (by rw [c3]; decide) (by rw [c3]; rfl) (by decide) ?_
        refine lv_aload_n hx hb dX7_count_76 rfl (lv_at hl 0 rfl) ?_
        refine g7_0 cx hI rfl rfl w_16 dX7_count_77 ?_
        refine g6_5 cx hI rfl rfl w_597 dX7_count_80 ?_
        obtain rfl := Option.some.inj h
        exact hret _ _ _ _ dX7_count_83 rfl hI
      · have h := it_n h c3
        by_cases c4 : a1 = (nI 3)
        · have h := it_p h c4
          refine lv_tableIn (off := 83) (tgt := 84) hx hb dX7_count_1 (by rw [c4]; decide) (by rw [c4]; decide) (by rw [c4]; rfl) (by decide) ?_
          refine lv_aload_n hx hb dX7_count_84 rfl (lv_at hl 0 rfl) ?_
          refine g7_0 cx hI rfl rfl w_16 dX7_count_85 ?_
          refine g6_6 cx hI rfl rfl w_598 dX7_count_88 ?_
          obtain rfl := Option.some.inj h
          exact hret _ _ _ _ dX7_count_91 rfl hI
        · have h := it_n h c4
          by_cases c5 : a1 = (nI 4)
          · have h := it_p h c5
            refine lv_tableIn (off := 91) (tgt := 92) hx hb dX7_count_1 (by rw [c5]; decide) (by rw [c5]; decide) (by rw [c5]; rfl) (by decide) ?_
            refine lv_aload_n hx hb dX7_count_92 rfl (lv_at hl 0 rfl) ?_
            refine g7_0 cx hI rfl rfl w_16 dX7_count_93 ?_
            refine g6_7 cx hI rfl rfl w_599 dX7_count_96 ?_
            obtain rfl := Option.some.inj h
            exact hret _ _ _ _ dX7_count_99 rfl hI
          · have h := it_n h c5
            by_cases c6 : a1 = (nI 5)
            · have h := it_p h c6
              refine lv_tableIn (off := 99) (tgt := 100) hx hb dX7_count_1 (by rw [c6]; decide) (by rw [c6]; decide) (by rw [c6]; rfl) (by decide) ?_
              refine lv_aload_n hx hb dX7_count_100 rfl (lv_at hl 0 rfl) ?_
              refine g7_0 cx hI rfl rfl w_16 dX7_count_101 ?_
              refine lv_aload_n hx hb dX7_count_104 rfl (lv_at hl 0 rfl) ?_
              refine g7_0 cx hI rfl rfl w_16 dX7_count_105 ?_
              refine g6_2 cx hI rfl rfl w_539 dX7_count_108 ?_
              obtain ⟨q7, hq7, h⟩ := bi_el h
              refine zcVi (As := [.ref (G.2.2.1 0 3)]) cx hI (c_St_number N rfl rfl (k6_3 rfl) (z6_3 rfl) rfl hq7) mt_yX6_number mv_yX6_number w_601 (by omega) (k6_0 rfl) (zv6 rfl) rfl hl.1 rfl (Nat.le_of_ble_eq_true rfl) dX7_count_111 (fun H locs hI => ?_)
              obtain rfl := Option.some.inj h
              exact hret _ _ _ _ dX7_count_114 rfl hI
            · have h := it_n h c6
              by_cases c8 : a1 = (nI 6)
              · have h := it_p h c8
                refine lv_tableIn (off := 122) (tgt := 123) hx hb dX7_count_1 (by rw [c8]; decide) (by rw [c8]; decide) (by rw [c8]; rfl) (by decide) ?_
                exact t_RS_count_123 N  cx hret μ a1 h hI hl
              · have h := it_n h c8
                by_cases c12 : a1 = (nI 7)
                · have h := it_p h c12
                  refine lv_tableIn (off := 122) (tgt := 123) hx hb dX7_count_1 (by rw [c12]; decide) (by rw [c12]; decide) (by rw [c12]; rfl) (by decide) ?_
                  exact t_RS_count_123 N  cx hret μ a1 h hI hl
                · have h := it_n h c12
                  by_cases c13 : a1 = (nI 8)
                  · have h := it_p h c13
                    refine lv_tableIn (off := 122) (tgt := 123) hx hb dX7_count_1 (by rw [c13]; decide) (by rw [c13]; decide) (by rw [c13]; rfl) (by decide) ?_
                    exact t_RS_count_123 N  cx hret μ a1 h hI hl
                  · have h := it_n h c13
                    by_cases c14 : a1 = (nI 9)
                    · have h := it_p h c14
                      refine lv_tableIn (off := 122) (tgt := 123) hx hb dX7_count_1 (by rw [c14]; decide) (by rw [c14]; decide) (by rw [c14]; rfl) (by decide) ?_
                      exact t_RS_count_123 N  cx hret μ a1 h hI hl
                    · have h := it_n h c14
                      by_cases c15 : a1 = (nI 10)
                      · have h := it_p h c15
                        refine lv_tableIn (off := 114) (tgt := 115) hx hb dX7_count_1 (by rw [c15]; decide) (by rw [c15]; decide) (by rw [c15]; rfl) (by decide) ?_
                        refine lv_aload_n hx hb dX7_count_115 rfl (lv_at hl 0 rfl) ?_
                        refine g7_2 cx hI rfl rfl w_21 dX7_count_116 ?_
                        refine g2_1 cx hI rfl rfl w_600 dX7_count_119 ?_
                        obtain rfl := Option.some.inj h
                        exact hret _ _ _ _ dX7_count_122 rfl hI
                      · have h := it_n h c15
                        refine lv_tableOut (tgt := 123) hx hb dX7_count_1 (by have tc1 := tn c1 (i := 0) rfl; have tc2 := tn c2 (i := 1) rfl; have tc3 := tn c3 (i := 2) rfl; have tc4 := tn c4 (i := 3) rfl; have tc5 := tn c5 (i := 4) rfl; have tc6 := tn c6 (i := 5) rfl; have tc8 := tn c8 (i := 6) rfl; have tc12 := tn c12 (i := 7) rfl; have tc13 := tn c13 (i := 8) rfl; have tc14 := tn c14 (i := 9) rfl; have tc15 := tn c15 (i := 10) rfl; omega) (by decide) ?_
                        exact t_RS_count_123 N  cx hret μ a1 h hI hl
def f_RS_best_9 (N : Nat)  (μ : zM) : Option (Int32 × zM) :=
  some ((-1 : Int32), μ)
set_option maxHeartbeats 4000000 in
set_option maxRecDepth 100000 in
theorem t_RS_best_9 (N : Nat) {p : Program} {l : Launch} {e : Env} {s : State} {m : MethodId} {args : Array Value} {below : List Frame} {meth : Method} {c : Code} {Q : State → Prop} {G : zG}  {out : (Int32 × zM)} (cx : zCX p (zrm 94) s m args c RX7 cX7_best 2 94 G) (hret : zRi p l e (zrm 94) s m args below meth c cX7_best G .int Q out.1 out.2)   : ∀ (μ : zM), f_RS_best_9 N μ = some out → ∀ {H : Heap} {locs : List Loc} {ls : Array Slot}, zIW G s μ H locs → lv_has ls 2 [] → W p l e (zrm 94) s m args below meth c H locs 0 0 Q (F0 m 9 ls []) := by
  obtain ⟨hx, hb, hml, hown, hts, hK, hR⟩ := id cx
  intro μ  h H locs ls hI hl
  unfold f_RS_best_9 at h
  refine lv_iconst (v := (-1 : Int32)) hx hb dX7_best_9 (by decide) ?_
  obtain rfl := Option.some.inj h
  exact hret _ _ _ _ dX7_best_10 rfl hI
def f_RS_best_22 (N : Nat)  (μ : zM) (x1 : Int32) (s0 : Int32) : Option (Int32 × zM) :=
  (f_RS_seekBestOrGrown N μ s0).bind (fun q4 => (if (x1 - x1 / (nI 3) * (nI 3)) = (nI 0) then (f_St_number N (q4 0) ((q4 23).1 11)).bind (fun q6 => some (q6, q4)) else if (x1 - x1 / (nI 3) * (nI 3)) = (nI 1) then some ((q4 23).1 0 11, q4) else some ((q4 23).1 0 12, q4)))
set_option maxHeartbeats 4000000 in
set_option maxRecDepth 100000 in
theorem t_RS_best_22 (N : Nat) {p : Program} {l : Launch} {e : Env} {s : State} {m : MethodId} {args : Array Value} {below : List Frame} {meth : Method} {c : Code} {Q : State → Prop} {G : zG}  {out : (Int32 × zM)} (cx : zCX p (zrm 94) s m args c RX7 cX7_best 2 94 G) (hret : zRi p l e (zrm 94) s m args below meth c cX7_best G .int Q out.1 out.2)   : ∀ (μ : zM) (x1 : Int32) (s0 : Int32), f_RS_best_22 N μ x1 s0 = some out → ∀ {H : Heap} {locs : List Loc} {ls : Array Slot}, zIW G s μ H locs → lv_has ls 2 [(0, .ref (G.2.2.1 28 0)), (1, .int x1)] → W p l e (zrm 94) s m args below meth c H locs 0 0 Q (F0 m 22 ls [.int s0, .ref (G.2.2.1 28 0)]) := by
  obtain ⟨hx, hb, hml, hown, hts, hK, hR⟩ := id cx
  intro μ x1 s0  h H locs ls hI hl
  unfold f_RS_best_22 at h
  obtain ⟨q4, hq4, h⟩ := bi_el h
  refine zcVv (As := [.int s0]) cx hI (c_RS_seekBestOrGrown N hq4) mt_yX7_seekBestOrGrown mv_yX7_seekBestOrGrown w_351 (by omega) (k7_0 rfl) (zv7 rfl) rfl hl.1 rfl (Nat.le_of_ble_eq_true rfl) dX7_best_22 (fun H locs hI => ?_)
  refine lv_iload_n hx hb dX7_best_25 rfl (lv_at hl 1 rfl) ?_
  refine lv_iconst (v := (nI 3)) hx hb dX7_best_26 (by decide) ?_
  refine lv_irem hx hb dX7_best_27 (by decide) ?_
  by_cases c5 : (x1 - x1 / (nI 3) * (nI 3)) = (nI 0)
  · have h := it_p h c5
    refine lv_lookup (off := 28) (tgt := 56) hx hb dX7_best_28 (by decide) (by rw [c5]; rfl) (by decide) ?_
    refine lv_aload_n hx hb dX7_best_56 rfl (lv_at hl 0 rfl) ?_
    refine g7_0 cx hI rfl rfl w_16 dX7_best_57 ?_
    refine lv_aload_n hx hb dX7_best_60 rfl (lv_at hl 0 rfl) ?_
    refine g7_9 cx hI rfl rfl w_39 dX7_best_61 ?_
    refine g4_10 cx hI rfl rfl w_350 dX7_best_64 ?_
    obtain ⟨q6, hq6, h⟩ := bi_el h
    refine zcVi (As := [.ref (G.2.2.1 23 11)]) cx hI (c_St_number N rfl rfl (k4_11 rfl) (z4_11 rfl) rfl hq6) mt_yX6_number mv_yX6_number w_601 (by omega) (k6_0 rfl) (zv6 rfl) rfl hl.1 rfl (Nat.le_of_ble_eq_true rfl) dX7_best_67 (fun H locs hI => ?_)
    obtain rfl := Option.some.inj h
    exact hret _ _ _ _ dX7_best_70 rfl hI
  · have h := it_n h c5
    by_cases c7 : (x1 - x1 / (nI 3) * (nI 3)) = (nI 1)
    · have h := it_p h c7
      refine lv_lookup (off := 43) (tgt := 71) hx hb dX7_best_28 (by decide) (by rw [c7]; rfl) (by decide) ?_
      refine lv_aload_n hx hb dX7_best_71 rfl (lv_at hl 0 rfl) ?_
      refine g7_9 cx hI rfl rfl w_39 dX7_best_72 ?_
      refine g4_11 cx hI rfl rfl w_621 dX7_best_75 ?_
      obtain rfl := Option.some.inj h
      exact hret _ _ _ _ dX7_best_78 rfl hI
    · have h := it_n h c7
      refine lv_lookup (off := 51) (tgt := 79) hx hb dX7_best_28 (by decide) (by have tc5 := tn c5 (i := 0) rfl; have tc7 := tn c7 (i := 1) rfl; generalize ((x1 - x1 / (nI 3) * (nI 3))).toInt = z at tc5 tc7 ⊢; simp [Op.lookupswitch.offset, tc5, Ne.symm tc5, tc7, Ne.symm tc7]) (by decide) ?_
      refine lv_aload_n hx hb dX7_best_79 rfl (lv_at hl 0 rfl) ?_
      refine g7_9 cx hI rfl rfl w_39 dX7_best_80 ?_
      refine g4_12 cx hI rfl rfl w_622 dX7_best_83 ?_
      obtain rfl := Option.some.inj h
      exact hret _ _ _ _ dX7_best_86 rfl hI
def f_RS_best (N : Nat) (μ : zM) (a1 : Int32) : Option (Int32 × zM) :=
  (if a1 < nI 0 then f_RS_best_9 N μ else (if a1 ≤ (nI 5) then (if a1 ≤ (nI 2) then f_RS_best_22 N μ a1 (nI 0) else f_RS_best_22 N μ a1 (nI 1)) else f_RS_best_9 N μ))
set_option maxHeartbeats 4000000 in
set_option maxRecDepth 100000 in
theorem c_RS_best (N : Nat) {l : Launch} {G : zG} {μ : zM}  {a1 : Int32} {out : (Int32 × zM)} (h : f_RS_best N μ a1 = some out) : zMI l G yX7_best cX7_best 2 (some .int) 94 [.ref (G.2.2.1 28 0), .int a1] μ out.1 out.2 := by
  refine zMI.of (by decide) (Nat.le_of_ble_eq_true rfl) (fun p e s m args below meth c Q ls cx hI hl hret => ?_)
  obtain ⟨hx, hb, hml, hown, hts, hK, hR⟩ := id cx
  have hl : lv_has ls 2 [(0, .ref (G.2.2.1 28 0)), (1, .int a1)] := hl
  unfold f_RS_best at h
  refine lv_iload_n hx hb dX7_best_0 rfl (lv_at hl 1 rfl) ?_
  refine lv_if_lt (tgt := 9) hx hb dX7_best_1 (by decide) (fun c1 => ?_) (fun c1 => ?_)
  · have h := it_p h c1
    exact t_RS_best_9 N  cx hret μ h hI (lv_sub hl [] rfl)
  · have h := it_n h c1
    refine lv_iload_n hx hb dX7_best_4 rfl (lv_at hl 1 rfl) ?_
    refine lv_iconst (v := (nI 5)) hx hb dX7_best_5 (by decide) ?_
    refine lv_icmp_le (tgt := 11) hx hb dX7_best_6 (by decide) (fun c2 => ?_) (fun c2 => ?_)
    · have h := it_p h c2
      refine lv_aload_n hx hb dX7_best_11 rfl (lv_at hl 0 rfl) ?_
      refine lv_iload_n hx hb dX7_best_12 rfl (lv_at hl 1 rfl) ?_
      refine lv_iconst (v := (nI 2)) hx hb dX7_best_13 (by decide) ?_
      refine lv_icmp_le (tgt := 21) hx hb dX7_best_14 (by decide) (fun c3 => ?_) (fun c3 => ?_)
      · have h := it_p h c3
        refine lv_iconst (v := (nI 0)) hx hb dX7_best_21 (by decide) ?_
        exact t_RS_best_22 N  cx hret μ a1 (nI 0) h hI hl
      · have h := it_n h c3
        refine lv_iconst (v := (nI 1)) hx hb dX7_best_17 (by decide) ?_
        refine lv_goto (tgt := 22) hx hb dX7_best_18 (by decide) ?_
        exact t_RS_best_22 N  cx hret μ a1 (nI 1) h hI hl
    · have h := it_n h c2
      exact t_RS_best_9 N  cx hret μ h hI (lv_sub hl [] rfl)
def f_RS_many_9 (N : Nat)  (μ : zM) : Option (Int32 × zM) :=
  some ((-1 : Int32), μ)
set_option maxHeartbeats 4000000 in
set_option maxRecDepth 100000 in
theorem t_RS_many_9 (N : Nat) {p : Program} {l : Launch} {e : Env} {s : State} {m : MethodId} {args : Array Value} {below : List Frame} {meth : Method} {c : Code} {Q : State → Prop} {G : zG}  {out : (Int32 × zM)} (cx : zCX p (zrm 92) s m args c RX7 cX7_many 2 92 G) (hret : zRi p l e (zrm 92) s m args below meth c cX7_many G .int Q out.1 out.2)   : ∀ (μ : zM), f_RS_many_9 N μ = some out → ∀ {H : Heap} {locs : List Loc} {ls : Array Slot}, zIW G s μ H locs → lv_has ls 2 [] → W p l e (zrm 92) s m args below meth c H locs 0 0 Q (F0 m 9 ls []) := by
  obtain ⟨hx, hb, hml, hown, hts, hK, hR⟩ := id cx
  intro μ  h H locs ls hI hl
  unfold f_RS_many_9 at h
  refine lv_iconst (v := (-1 : Int32)) hx hb dX7_many_9 (by decide) ?_
  obtain rfl := Option.some.inj h
  exact hret _ _ _ _ dX7_many_10 rfl hI
def f_RS_many_41 (N : Nat)  (μ : zM) : Option (Int32 × zM) :=
  (f_Se_seek N μ).bind (fun q5 => some ((q5 23).1 0 9, q5))
set_option maxHeartbeats 4000000 in
set_option maxRecDepth 100000 in
theorem t_RS_many_41 (N : Nat) {p : Program} {l : Launch} {e : Env} {s : State} {m : MethodId} {args : Array Value} {below : List Frame} {meth : Method} {c : Code} {Q : State → Prop} {G : zG}  {out : (Int32 × zM)} (cx : zCX p (zrm 92) s m args c RX7 cX7_many 2 92 G) (hret : zRi p l e (zrm 92) s m args below meth c cX7_many G .int Q out.1 out.2)   : ∀ (μ : zM), f_RS_many_41 N μ = some out → ∀ {H : Heap} {locs : List Loc} {ls : Array Slot}, zIW G s μ H locs → lv_has ls 2 [(0, .ref (G.2.2.1 28 0))] → W p l e (zrm 92) s m args below meth c H locs 0 0 Q (F0 m 41 ls []) := by
  obtain ⟨hx, hb, hml, hown, hts, hK, hR⟩ := id cx
  intro μ  h H locs ls hI hl
  unfold f_RS_many_41 at h
  refine lv_aload_n hx hb dX7_many_41 rfl (lv_at hl 0 rfl) ?_
  refine g7_9 cx hI rfl rfl w_39 dX7_many_42 ?_
  obtain ⟨q5, hq5, h⟩ := bi_el h
  refine zcVv (As := []) cx hI (c_Se_seek N hq5) mt_yX4_seek mv_yX4_seek w_634 (by omega) (k4_0 rfl) (zv4 rfl) rfl hl.1 rfl (Nat.le_of_ble_eq_true rfl) dX7_many_45 (fun H locs hI => ?_)
  refine lv_aload_n hx hb dX7_many_48 rfl (lv_at hl 0 rfl) ?_
  refine g7_9 cx hI rfl rfl w_39 dX7_many_49 ?_
  refine g4_9 cx hI rfl rfl w_632 dX7_many_52 ?_
  obtain rfl := Option.some.inj h
  exact hret _ _ _ _ dX7_many_55 rfl hI
def f_RS_many (N : Nat) (μ : zM) (a1 : Int32) : Option (Int32 × zM) :=
  (if a1 < nI 0 then f_RS_many_9 N μ else (if a1 ≤ (nI 1) then (f_Se_prepare N μ).bind (fun q3 => (if a1 = (nI 1) then (f_Se_limitFresh N q3 ((q3 0).1 0 6)).bind (fun q6 => f_RS_many_41 N q6) else f_RS_many_41 N q3)) else f_RS_many_9 N μ))
set_option maxHeartbeats 4000000 in
set_option maxRecDepth 100000 in
theorem c_RS_many (N : Nat) {l : Launch} {G : zG} {μ : zM}  {a1 : Int32} {out : (Int32 × zM)} (h : f_RS_many N μ a1 = some out) : zMI l G yX7_many cX7_many 2 (some .int) 92 [.ref (G.2.2.1 28 0), .int a1] μ out.1 out.2 := by
  refine zMI.of (by decide) (Nat.le_of_ble_eq_true rfl) (fun p e s m args below meth c Q ls cx hI hl hret => ?_)
  obtain ⟨hx, hb, hml, hown, hts, hK, hR⟩ := id cx
  have hl : lv_has ls 2 [(0, .ref (G.2.2.1 28 0)), (1, .int a1)] := hl
  unfold f_RS_many at h
  refine lv_iload_n hx hb dX7_many_0 rfl (lv_at hl 1 rfl) ?_
  refine lv_if_lt (tgt := 9) hx hb dX7_many_1 (by decide) (fun c1 => ?_) (fun c1 => ?_)
  · have h := it_p h c1
    exact t_RS_many_9 N  cx hret μ h hI (lv_sub hl [] rfl)
  · have h := it_n h c1
    refine lv_iload_n hx hb dX7_many_4 rfl (lv_at hl 1 rfl) ?_
    refine lv_iconst (v := (nI 1)) hx hb dX7_many_5 (by decide) ?_
    refine lv_icmp_le (tgt := 11) hx hb dX7_many_6 (by decide) (fun c2 => ?_) (fun c2 => ?_)
    · have h := it_p h c2
      refine lv_aload_n hx hb dX7_many_11 rfl (lv_at hl 0 rfl) ?_
      refine g7_9 cx hI rfl rfl w_39 dX7_many_12 ?_
      refine lv_aload_n hx hb dX7_many_15 rfl (lv_at hl 0 rfl) ?_
      refine g7_0 cx hI rfl rfl w_16 dX7_many_16 ?_
      obtain ⟨q3, hq3, h⟩ := bi_el h
      refine zcVv (As := [.ref (G.2.2.1 0 0)]) cx hI (c_Se_prepare N hq3) mt_yX4_prepare mv_yX4_prepare w_355 (by omega) (k4_0 rfl) (zv4 rfl) rfl hl.1 rfl (Nat.le_of_ble_eq_true rfl) dX7_many_19 (fun H locs hI => ?_)
      refine lv_iload_n hx hb dX7_many_22 rfl (lv_at hl 1 rfl) ?_
      refine lv_iconst (v := (nI 1)) hx hb dX7_many_23 (by decide) ?_
      refine lv_icmp_ne (tgt := 41) hx hb dX7_many_24 (by decide) (fun c4 => ?_) (fun c4 => ?_)
      · have h := it_n h c4
        exact t_RS_many_41 N  cx hret q3 h hI (lv_sub hl [0] rfl)
      · have h := it_p h c4
        refine lv_aload_n hx hb dX7_many_27 rfl (lv_at hl 0 rfl) ?_
        refine g7_9 cx hI rfl rfl w_39 dX7_many_28 ?_
        refine lv_aload_n hx hb dX7_many_31 rfl (lv_at hl 0 rfl) ?_
        refine g7_0 cx hI rfl rfl w_16 dX7_many_32 ?_
        refine g6_6 cx hI rfl rfl w_598 dX7_many_35 ?_
        obtain ⟨q6, hq6, h⟩ := bi_el h
        refine zcVv (As := [.int ((q3 0).1 0 6)]) cx hI (c_Se_limitFresh N hq6) mt_yX4_limitFresh mv_yX4_limitFresh w_633 (by omega) (k4_0 rfl) (zv4 rfl) rfl hl.1 rfl (Nat.le_of_ble_eq_true rfl) dX7_many_38 (fun H locs hI => ?_)
        exact t_RS_many_41 N  cx hret q6 h hI (lv_sub hl [0] rfl)
    · have h := it_n h c2
      exact t_RS_many_9 N  cx hret μ h hI (lv_sub hl [] rfl)
def f_RS_fit_76 (N : Nat)  (μ : zM) (s0 : Int32) : Option (Int32 × zM) :=
  some (s0, μ)
set_option maxHeartbeats 4000000 in
set_option maxRecDepth 100000 in
theorem t_RS_fit_76 (N : Nat) {p : Program} {l : Launch} {e : Env} {s : State} {m : MethodId} {args : Array Value} {below : List Frame} {meth : Method} {c : Code} {Q : State → Prop} {G : zG}  {out : (Int32 × zM)} (cx : zCX p (zrm 92) s m args c RX7 cX7_fit 2 92 G) (hret : zRi p l e (zrm 92) s m args below meth c cX7_fit G .int Q out.1 out.2)   : ∀ (μ : zM) (s0 : Int32), f_RS_fit_76 N μ s0 = some out → ∀ {H : Heap} {locs : List Loc} {ls : Array Slot}, zIW G s μ H locs → lv_has ls 2 [] → W p l e (zrm 92) s m args below meth c H locs 0 0 Q (F0 m 76 ls [.int s0]) := by
  obtain ⟨hx, hb, hml, hown, hts, hK, hR⟩ := id cx
  intro μ s0  h H locs ls hI hl
  unfold f_RS_fit_76 at h
  obtain rfl := Option.some.inj h
  exact hret _ _ _ _ dX7_fit_76 rfl hI
def f_RS_fit (N : Nat) (μ : zM) (a1 : Int32) : Option (Int32 × zM) :=
  (if nI 0 ≤ a1 then (f_Se_prepare N μ).bind (fun q2 => (f_Se_limitFresh N q2 ((q2 0).1 0 6)).bind (fun q3 => bnd (zset q3 23 (zI (q3 23) 0 8 a1)) (fun μ4 => (f_Se_seek N μ4).bind (fun q5 => (if ((q5 23).1 0 9) ≤ a1 then f_RS_fit_76 N q5 (-4 : Int32) else (f_St_number N (q5 0) ((q5 23).1 11)).bind (fun q7 => f_RS_fit_76 N q5 q7)))))) else some ((-1 : Int32), μ))
set_option maxHeartbeats 4000000 in
set_option maxRecDepth 100000 in
theorem c_RS_fit (N : Nat) {l : Launch} {G : zG} {μ : zM}  {a1 : Int32} {out : (Int32 × zM)} (h : f_RS_fit N μ a1 = some out) : zMI l G yX7_fit cX7_fit 2 (some .int) 92 [.ref (G.2.2.1 28 0), .int a1] μ out.1 out.2 := by
  refine zMI.of (by decide) (Nat.le_of_ble_eq_true rfl) (fun p e s m args below meth c Q ls cx hI hl hret => ?_)
  obtain ⟨hx, hb, hml, hown, hts, hK, hR⟩ := id cx
  have hl : lv_has ls 2 [(0, .ref (G.2.2.1 28 0)), (1, .int a1)] := hl
  unfold f_RS_fit at h
  refine lv_iload_n hx hb dX7_fit_0 rfl (lv_at hl 1 rfl) ?_
  refine lv_if_ge (tgt := 6) hx hb dX7_fit_1 (by decide) (fun c1 => ?_) (fun c1 => ?_)
  · have h := it_p h c1
    refine lv_aload_n hx hb dX7_fit_6 rfl (lv_at hl 0 rfl) ?_
    refine g7_9 cx hI rfl rfl w_39 dX7_fit_7 ?_
    refine lv_aload_n hx hb dX7_fit_10 rfl (lv_at hl 0 rfl) ?_
    refine g7_0 cx hI rfl rfl w_16 dX7_fit_11 ?_
    obtain ⟨q2, hq2, h⟩ := bi_el h
    refine zcVv (As := [.ref (G.2.2.1 0 0)]) cx hI (c_Se_prepare N hq2) mt_yX4_prepare mv_yX4_prepare w_355 (by omega) (k4_0 rfl) (zv4 rfl) rfl hl.1 rfl (Nat.le_of_ble_eq_true rfl) dX7_fit_14 (fun H locs hI => ?_)
    refine lv_aload_n hx hb dX7_fit_17 rfl (lv_at hl 0 rfl) ?_
    refine g7_9 cx hI rfl rfl w_39 dX7_fit_18 ?_
    refine lv_aload_n hx hb dX7_fit_21 rfl (lv_at hl 0 rfl) ?_
    refine g7_0 cx hI rfl rfl w_16 dX7_fit_22 ?_
    refine g6_6 cx hI rfl rfl w_598 dX7_fit_25 ?_
    obtain ⟨q3, hq3, h⟩ := bi_el h
    refine zcVv (As := [.int ((q2 0).1 0 6)]) cx hI (c_Se_limitFresh N hq3) mt_yX4_limitFresh mv_yX4_limitFresh w_633 (by omega) (k4_0 rfl) (zv4 rfl) rfl hl.1 rfl (Nat.le_of_ble_eq_true rfl) dX7_fit_28 (fun H locs hI => ?_)
    refine lv_aload_n hx hb dX7_fit_31 rfl (lv_at hl 0 rfl) ?_
    refine g7_9 cx hI rfl rfl w_39 dX7_fit_32 ?_
    refine lv_iload_n hx hb dX7_fit_35 rfl (lv_at hl 1 rfl) ?_
    obtain ⟨μ4, eμ4⟩ : ∃ z : zM, z = zset q3 23 (zI (q3 23) 0 8 a1) := ⟨_, rfl⟩
    have h := bnd_el h eμ4
    refine p4_8 cx hI rfl rfl w_643 eμ4.symm dX7_fit_36 (fun H locs hI => ?_)
    refine lv_aload_n hx hb dX7_fit_39 rfl (lv_at hl 0 rfl) ?_
    refine g7_9 cx hI rfl rfl w_39 dX7_fit_40 ?_
    obtain ⟨q5, hq5, h⟩ := bi_el h
    refine zcVv (As := []) cx hI (c_Se_seek N hq5) mt_yX4_seek mv_yX4_seek w_634 (by omega) (k4_0 rfl) (zv4 rfl) rfl hl.1 rfl (Nat.le_of_ble_eq_true rfl) dX7_fit_43 (fun H locs hI => ?_)
    refine lv_aload_n hx hb dX7_fit_46 rfl (lv_at hl 0 rfl) ?_
    refine g7_9 cx hI rfl rfl w_39 dX7_fit_47 ?_
    refine g4_9 cx hI rfl rfl w_632 dX7_fit_50 ?_
    refine lv_iload_n hx hb dX7_fit_53 rfl (lv_at hl 1 rfl) ?_
    refine lv_icmp_le (tgt := 74) hx hb dX7_fit_54 (by decide) (fun c6 => ?_) (fun c6 => ?_)
    · have h := it_p h c6
      refine lv_bipush (v := (-4 : Int32)) hx hb dX7_fit_74 (by decide) ?_
      exact t_RS_fit_76 N  cx hret q5 (-4 : Int32) h hI (lv_sub hl [] rfl)
    · have h := it_n h c6
      refine lv_aload_n hx hb dX7_fit_57 rfl (lv_at hl 0 rfl) ?_
      refine g7_0 cx hI rfl rfl w_16 dX7_fit_58 ?_
      refine lv_aload_n hx hb dX7_fit_61 rfl (lv_at hl 0 rfl) ?_
      refine g7_9 cx hI rfl rfl w_39 dX7_fit_62 ?_
      refine g4_10 cx hI rfl rfl w_350 dX7_fit_65 ?_
      obtain ⟨q7, hq7, h⟩ := bi_el h
      refine zcVi (As := [.ref (G.2.2.1 23 11)]) cx hI (c_St_number N rfl rfl (k4_11 rfl) (z4_11 rfl) rfl hq7) mt_yX6_number mv_yX6_number w_601 (by omega) (k6_0 rfl) (zv6 rfl) rfl hl.1 rfl (Nat.le_of_ble_eq_true rfl) dX7_fit_68 (fun H locs hI => ?_)
      refine lv_goto (tgt := 76) hx hb dX7_fit_71 (by decide) ?_
      exact t_RS_fit_76 N  cx hret q5 q7 h hI (lv_sub hl [] rfl)
  · have h := it_n h c1
    refine lv_iconst (v := (-1 : Int32)) hx hb dX7_fit_4 (by decide) ?_
    obtain rfl := Option.some.inj h
    exact hret _ _ _ _ dX7_fit_5 rfl hI
def f_RS_placesWith_44 (N : Nat) (μ : zM) (k4 : Int32 → Int32 → Int32 → Option Int32) (x1 : Int32) (x2 : Int32) (x3 : Int32) : Option Int32 :=
  bnd (x3 + (nI 1)) (fun v6 => k4 x1 x2 v6)
set_option maxHeartbeats 4000000 in
set_option maxRecDepth 100000 in
theorem t_RS_placesWith_44 (N : Nat) {p : Program} {l : Launch} {e : Env} {s : State} {m : MethodId} {args : Array Value} {below : List Frame} {meth : Method} {c : Code} {Q : State → Prop} {G : zG} {μ : zM}  {out : Int32} (cx : zCX p (zrm 2) s m args c RX7 cX7_placesWith 4 2 G) (hret : zRi p l e (zrm 2) s m args below meth c cX7_placesWith G .int Q out μ) {k4 : Int32 → Int32 → Int32 → Option Int32} (hk4 : ∀ (x1 : Int32) (x2 : Int32) (x3 : Int32), k4 x1 x2 x3 = some out → ∀ {H : Heap} {locs : List Loc} {ls : Array Slot}, zIW G s μ H locs → lv_has ls 4 [(0, .ref (G.2.2.1 28 0)), (1, .int x1), (2, .int x2), (3, .int x3)] → W p l e (zrm 2) s m args below meth c H locs 0 0 Q (F0 m 4 ls [])) : ∀ (x1 : Int32) (x2 : Int32) (x3 : Int32), f_RS_placesWith_44 N μ k4 x1 x2 x3 = some out → ∀ {H : Heap} {locs : List Loc} {ls : Array Slot}, zIW G s μ H locs → lv_has ls 4 [(0, .ref (G.2.2.1 28 0)), (1, .int x1), (2, .int x2), (3, .int x3)] → W p l e (zrm 2) s m args below meth c H locs 0 0 Q (F0 m 44 ls []) := by
  obtain ⟨hx, hb, hml, hown, hts, hK, hR⟩ := id cx
  intro x1 x2 x3  h H locs ls hI hl
  unfold f_RS_placesWith_44 at h
  obtain ⟨v6, ev6⟩ : ∃ z : Int32, z = x3 + (nI 1) := ⟨_, rfl⟩
  have h := bnd_el h ev6
  refine lv_iinc (v := v6) (lv' := [(3, .int v6), (0, .ref (G.2.2.1 28 0)), (1, .int x1), (2, .int x2)]) hx hb dX7_placesWith_44 hl (k := 3) rfl (by rw [ev6]; rfl) (by decide) rfl (fun ls hl => ?_)
  refine lv_goto (tgt := 4) hx hb dX7_placesWith_47 (by decide) ?_
  exact hk4 x1 x2 v6 h hI (lv_sub hl [1, 2, 3, 0] rfl)
def f_RS_placesWith_4 (N : Nat) (μ : zM)  : Nat → Int32 → Int32 → Int32 → Option Int32
  | 0, _, _, _ => none
  | n + 1, x1, x2, x3 => (if ((μ 0).1 0 3) ≤ x3 then some x2 else if zin x3 7 then (f_St_wordsThatCount (μ 0) ((μ 0).1 3 x3.toNatClampNeg)).bind (fun q3 => (f_RS_hasBit q3 x1).bind (fun q4 => (if q4 = nI 0 then f_RS_placesWith_44 N μ (f_RS_placesWith_4 N μ n) x1 x2 x3 else bnd (x2 ||| ((nI 1) <<< (x3 &&& 31))) (fun v7 => f_RS_placesWith_44 N μ (f_RS_placesWith_4 N μ n) x1 v7 x3)))) else none)
set_option maxHeartbeats 4000000 in
set_option maxRecDepth 100000 in
theorem t_RS_placesWith_4 (N : Nat) {p : Program} {l : Launch} {e : Env} {s : State} {m : MethodId} {args : Array Value} {below : List Frame} {meth : Method} {c : Code} {Q : State → Prop} {G : zG} {μ : zM}  {out : Int32} (cx : zCX p (zrm 2) s m args c RX7 cX7_placesWith 4 2 G) (hret : zRi p l e (zrm 2) s m args below meth c cX7_placesWith G .int Q out μ)   : ∀ (n : Nat) (x1 : Int32) (x2 : Int32) (x3 : Int32), f_RS_placesWith_4 N μ n x1 x2 x3 = some out → ∀ {H : Heap} {locs : List Loc} {ls : Array Slot}, zIW G s μ H locs → lv_has ls 4 [(0, .ref (G.2.2.1 28 0)), (1, .int x1), (2, .int x2), (3, .int x3)] → W p l e (zrm 2) s m args below meth c H locs 0 0 Q (F0 m 4 ls []) := by
  obtain ⟨hx, hb, hml, hown, hts, hK, hR⟩ := id cx
  intro n
  induction n with
  | zero =>
    intro x1 x2 x3  h
    cases h
  | succ n ih =>
    intro x1 x2 x3  h H locs ls hI hl
    rw [f_RS_placesWith_4] at h
    refine lv_iload_n hx hb dX7_placesWith_4 rfl (lv_at hl 3 rfl) ?_
    refine lv_aload_n hx hb dX7_placesWith_5 rfl (lv_at hl 0 rfl) ?_
    refine g7_0 cx hI rfl rfl w_16 dX7_placesWith_6 ?_
    refine g6_3 cx hI rfl rfl w_349 dX7_placesWith_9 ?_
    refine lv_icmp_ge (tgt := 50) hx hb dX7_placesWith_12 (by decide) (fun c1 => ?_) (fun c1 => ?_)
    · have h := it_p h c1
      refine lv_iload_n hx hb dX7_placesWith_50 rfl (lv_at hl 2 rfl) ?_
      obtain rfl := Option.some.inj h
      exact hret _ _ _ _ dX7_placesWith_51 rfl hI
    · have h := it_n h c1
      refine lv_aload_n hx hb dX7_placesWith_15 rfl (lv_at hl 0 rfl) ?_
      refine g7_0 cx hI rfl rfl w_16 dX7_placesWith_16 ?_
      refine lv_aload_n hx hb dX7_placesWith_19 rfl (lv_at hl 0 rfl) ?_
      refine g7_0 cx hI rfl rfl w_16 dX7_placesWith_20 ?_
      refine g6_2 cx hI rfl rfl w_539 dX7_placesWith_23 ?_
      refine lv_iload_n hx hb dX7_placesWith_26 rfl (lv_at hl 3 rfl) ?_
      obtain ⟨g2, h⟩ := gd_el h
      refine zr_iald cx hI (k6_3 rfl) rfl (z6_3 rfl) rfl g2 dX7_placesWith_27 ?_
      obtain ⟨q3, hq3, h⟩ := bi_el h
      refine zcVi (As := [.int ((μ 0).1 3 x3.toNatClampNeg)]) cx hI (c_St_wordsThatCount rfl rfl hq3) mt_yX6_wordsThatCount mv_yX6_wordsThatCount w_656 (by omega) (k6_0 rfl) (zv6 rfl) rfl hl.1 rfl (Nat.le_of_ble_eq_true rfl) dX7_placesWith_28 (fun H locs hI => ?_)
      refine lv_iload_n hx hb dX7_placesWith_31 rfl (lv_at hl 1 rfl) ?_
      obtain ⟨q4, hq4, h⟩ := bi_el h
      refine zcSi (As := [.int q3, .int x1]) cx hI (c_RS_hasBit  hq4) mt_yX7_hasBit ms_yX7_hasBit w_567 (by omega) rfl hl.1 rfl (Nat.le_of_ble_eq_true rfl) dX7_placesWith_32 (fun H locs hI => ?_)
      refine lv_if_eq (tgt := 44) hx hb dX7_placesWith_35 (by decide) (fun c5 => ?_) (fun c5 => ?_)
      · have h := it_p h c5
        exact t_RS_placesWith_44 N  cx hret ih x1 x2 x3 h hI hl
      · have h := it_n h c5
        refine lv_iload_n hx hb dX7_placesWith_38 rfl (lv_at hl 2 rfl) ?_
        refine lv_iconst (v := (nI 1)) hx hb dX7_placesWith_39 (by decide) ?_
        refine lv_iload_n hx hb dX7_placesWith_40 rfl (lv_at hl 3 rfl) ?_
        refine lv_ishl hx hb dX7_placesWith_41 ?_
        refine lv_ior hx hb dX7_placesWith_42 ?_
        refine lv_topi (fun v7 ev7 => ?_)
        have h := bnd_el h ev7
        refine lv_istore_n (lv' := [(2, .int v7), (0, .ref (G.2.2.1 28 0)), (1, .int x1), (3, .int x3)]) hx hb dX7_placesWith_43 rfl hl (by decide) rfl (fun ls hl => ?_)
        exact t_RS_placesWith_44 N  cx hret ih x1 v7 x3 h hI (lv_sub hl [1, 2, 0, 3] rfl)
def f_RS_placesWith (N : Nat) (μ : zM) (a1 : Int32) : Option Int32 :=
  f_RS_placesWith_4 N μ N a1 (nI 0) (nI 0)
set_option maxHeartbeats 4000000 in
set_option maxRecDepth 100000 in
theorem c_RS_placesWith (N : Nat) {l : Launch} {G : zG} {μ : zM}  {a1 : Int32} {out : Int32} (h : f_RS_placesWith N μ a1 = some out) : zMI l G yX7_placesWith cX7_placesWith 4 (some .int) 2 [.ref (G.2.2.1 28 0), .int a1] μ out μ := by
  refine zMI.of (by decide) (Nat.le_of_ble_eq_true rfl) (fun p e s m args below meth c Q ls cx hI hl hret => ?_)
  obtain ⟨hx, hb, hml, hown, hts, hK, hR⟩ := id cx
  have hl : lv_has ls 4 [(0, .ref (G.2.2.1 28 0)), (1, .int a1)] := hl
  unfold f_RS_placesWith at h
  refine lv_iconst (v := (nI 0)) hx hb dX7_placesWith_0 (by decide) ?_
  refine lv_istore_n (lv' := [(2, .int (nI 0)), (0, .ref (G.2.2.1 28 0)), (1, .int a1)]) hx hb dX7_placesWith_1 rfl hl (by decide) rfl (fun ls hl => ?_)
  refine lv_iconst (v := (nI 0)) hx hb dX7_placesWith_2 (by decide) ?_
  refine lv_istore_n (lv' := [(3, .int (nI 0)), (2, .int (nI 0)), (0, .ref (G.2.2.1 28 0)), (1, .int a1)]) hx hb dX7_placesWith_3 rfl hl (by decide) rfl (fun ls hl => ?_)
  exact t_RS_placesWith_4 N  cx hret N a1 (nI 0) (nI 0) h hI (lv_sub hl [2, 3, 1, 0] rfl)
def f_RS_waysToKeep_86 (N : Nat) (k16 : zM → Int32 → Int32 → Int32 → Int32 → Option (Int32 × zM)) (μ : zM) (x1 : Int32) (x2 : Int32) (x3 : Int32) (x4 : Int32) : Option (Int32 × zM) :=
  bnd (x4 + (nI 1)) (fun v5 => k16 μ x1 x2 x3 v5)
set_option maxHeartbeats 4000000 in
set_option maxRecDepth 100000 in
theorem t_RS_waysToKeep_86 (N : Nat) {p : Program} {l : Launch} {e : Env} {s : State} {m : MethodId} {args : Array Value} {below : List Frame} {meth : Method} {c : Code} {Q : State → Prop} {G : zG}  {out : (Int32 × zM)} (cx : zCX p (zrm 3) s m args c RX7 cX7_waysToKeep 7 3 G) (hret : zRi p l e (zrm 3) s m args below meth c cX7_waysToKeep G .int Q out.1 out.2) {k16 : zM → Int32 → Int32 → Int32 → Int32 → Option (Int32 × zM)} (hk16 : ∀ (μ : zM) (x1 : Int32) (x2 : Int32) (x3 : Int32) (x4 : Int32), k16 μ x1 x2 x3 x4 = some out → ∀ {H : Heap} {locs : List Loc} {ls : Array Slot}, zIW G s μ H locs → lv_has ls 7 [(0, .ref (G.2.2.1 28 0)), (1, .int x1), (2, .int x2), (3, .int x3), (4, .int x4)] → W p l e (zrm 3) s m args below meth c H locs 0 0 Q (F0 m 16 ls [])) : ∀ (μ : zM) (x1 : Int32) (x2 : Int32) (x3 : Int32) (x4 : Int32), f_RS_waysToKeep_86 N k16 μ x1 x2 x3 x4 = some out → ∀ {H : Heap} {locs : List Loc} {ls : Array Slot}, zIW G s μ H locs → lv_has ls 7 [(0, .ref (G.2.2.1 28 0)), (1, .int x1), (2, .int x2), (3, .int x3), (4, .int x4)] → W p l e (zrm 3) s m args below meth c H locs 0 0 Q (F0 m 86 ls []) := by
  obtain ⟨hx, hb, hml, hown, hts, hK, hR⟩ := id cx
  intro μ x1 x2 x3 x4  h H locs ls hI hl
  unfold f_RS_waysToKeep_86 at h
  obtain ⟨v5, ev5⟩ : ∃ z : Int32, z = x4 + (nI 1) := ⟨_, rfl⟩
  have h := bnd_el h ev5
  refine lv_iinc (v := v5) (lv' := [(4, .int v5), (0, .ref (G.2.2.1 28 0)), (1, .int x1), (2, .int x2), (3, .int x3)]) hx hb dX7_waysToKeep_86 hl (k := 4) rfl (by rw [ev5]; rfl) (by decide) rfl (fun ls hl => ?_)
  refine lv_goto (tgt := 16) hx hb dX7_waysToKeep_89 (by decide) ?_
  exact hk16 μ x1 x2 x3 v5 h hI (lv_sub hl [1, 2, 3, 4, 0] rfl)
def f_RS_waysToKeep_16 (N : Nat)  : Nat → zM → Int32 → Int32 → Int32 → Int32 → Option (Int32 × zM)
  | 0, _, _, _, _, _ => none
  | n + 1, μ, x1, x2, x3, x4 => (if ((nI 1) <<< (((μ 0).1 0 3) &&& 31)) ≤ x4 then some (x3, μ) else (if (x4 &&& (x1 ^^^ (-1 : Int32))) = nI 0 then (f_Rd_keepsWordMetAt N (μ 21) x4).bind (fun q6 => bnd (zset μ 21 q6.2) (fun μ7 => (if q6.1 = nI 0 then f_RS_waysToKeep_86 N (f_RS_waysToKeep_16 N n) μ7 x1 x2 x3 x4 else (f_J_bitCount x4).bind (fun q9 => (f_J_bitCount x1).bind (fun q10 => bnd (q10 - q9) (fun v11 => (f_RS_power N ((nI 10) - x2) q9).bind (fun q12 => (f_RS_power N x2 v11).bind (fun q13 => bnd (x3 + (q12 * q13)) (fun v14 => f_RS_waysToKeep_86 N (f_RS_waysToKeep_16 N n) μ7 x1 x2 v14 x4))))))))) else f_RS_waysToKeep_86 N (f_RS_waysToKeep_16 N n) μ x1 x2 x3 x4))
set_option maxHeartbeats 4000000 in
set_option maxRecDepth 100000 in
theorem t_RS_waysToKeep_16 (N : Nat) {p : Program} {l : Launch} {e : Env} {s : State} {m : MethodId} {args : Array Value} {below : List Frame} {meth : Method} {c : Code} {Q : State → Prop} {G : zG}  {out : (Int32 × zM)} (cx : zCX p (zrm 3) s m args c RX7 cX7_waysToKeep 7 3 G) (hret : zRi p l e (zrm 3) s m args below meth c cX7_waysToKeep G .int Q out.1 out.2)   : ∀ (n : Nat) (μ : zM) (x1 : Int32) (x2 : Int32) (x3 : Int32) (x4 : Int32), f_RS_waysToKeep_16 N n μ x1 x2 x3 x4 = some out → ∀ {H : Heap} {locs : List Loc} {ls : Array Slot}, zIW G s μ H locs → lv_has ls 7 [(0, .ref (G.2.2.1 28 0)), (1, .int x1), (2, .int x2), (3, .int x3), (4, .int x4)] → W p l e (zrm 3) s m args below meth c H locs 0 0 Q (F0 m 16 ls []) := by
  obtain ⟨hx, hb, hml, hown, hts, hK, hR⟩ := id cx
  intro n
  induction n with
  | zero =>
    intro μ x1 x2 x3 x4  h
    cases h
  | succ n ih =>
    intro μ x1 x2 x3 x4  h H locs ls hI hl
    rw [f_RS_waysToKeep_16] at h
    refine lv_iload hx hb dX7_waysToKeep_16 (lv_at hl 4 rfl) ?_
    refine lv_iconst (v := (nI 1)) hx hb dX7_waysToKeep_18 (by decide) ?_
    refine lv_aload_n hx hb dX7_waysToKeep_19 rfl (lv_at hl 0 rfl) ?_
    refine g7_0 cx hI rfl rfl w_16 dX7_waysToKeep_20 ?_
    refine g6_3 cx hI rfl rfl w_349 dX7_waysToKeep_23 ?_
    refine lv_ishl hx hb dX7_waysToKeep_26 ?_
    refine lv_icmp_ge (tgt := 92) hx hb dX7_waysToKeep_27 (by decide) (fun c3 => ?_) (fun c3 => ?_)
    · have h := it_p h c3
      refine lv_iload_n hx hb dX7_waysToKeep_92 rfl (lv_at hl 3 rfl) ?_
      obtain rfl := Option.some.inj h
      exact hret _ _ _ _ dX7_waysToKeep_93 rfl hI
    · have h := it_n h c3
      refine lv_iload hx hb dX7_waysToKeep_30 (lv_at hl 4 rfl) ?_
      refine lv_iload_n hx hb dX7_waysToKeep_32 rfl (lv_at hl 1 rfl) ?_
      refine lv_iconst (v := (-1 : Int32)) hx hb dX7_waysToKeep_33 (by decide) ?_
      refine lv_ixor hx hb dX7_waysToKeep_34 ?_
      refine lv_iand hx hb dX7_waysToKeep_35 ?_
      refine lv_if_ne (tgt := 86) hx hb dX7_waysToKeep_36 (by decide) (fun c4 => ?_) (fun c4 => ?_)
      · have h := it_n h c4
        exact t_RS_waysToKeep_86 N  cx hret ih μ x1 x2 x3 x4 h hI hl
      · have h := it_p h c4
        refine lv_aload_n hx hb dX7_waysToKeep_39 rfl (lv_at hl 0 rfl) ?_
        refine g7_8 cx hI rfl rfl w_35 dX7_waysToKeep_40 ?_
        refine lv_iload hx hb dX7_waysToKeep_43 (lv_at hl 4 rfl) ?_
        obtain ⟨q6, hq6, h⟩ := bi_el h
        obtain ⟨μ7, eμ7⟩ : ∃ z : zM, z = zset μ 21 q6.2 := ⟨_, rfl⟩
        have h := bnd_el h eμ7
        refine zcVi (As := [.int x4]) cx hI (c_Rd_keepsWordMetAt N rfl rfl hq6 eμ7.symm) mt_yX3_keepsWordMetAt mv_yX3_keepsWordMetAt w_662 (by omega) (k3_0 rfl) (zv3 rfl) rfl hl.1 rfl (Nat.le_of_ble_eq_true rfl) dX7_waysToKeep_45 (fun H locs hI => ?_)
        refine lv_if_eq (tgt := 86) hx hb dX7_waysToKeep_48 (by decide) (fun c8 => ?_) (fun c8 => ?_)
        · have h := it_p h c8
          exact t_RS_waysToKeep_86 N  cx hret ih μ7 x1 x2 x3 x4 h hI hl
        · have h := it_n h c8
          refine lv_iload hx hb dX7_waysToKeep_51 (lv_at hl 4 rfl) ?_
          obtain ⟨q9, hq9, h⟩ := bi_el h
          refine zcSi (As := [.int x4]) cx hI (c_J_bitCount  hq9) mt_yJ6_bitCount_0f7a4 ms_yJ6_bitCount_0f7a4 w_552 (by omega) rfl hl.1 rfl (Nat.le_of_ble_eq_true rfl) dX7_waysToKeep_53 (fun H locs hI => ?_)
          refine lv_istore (lv' := [(5, .int q9), (0, .ref (G.2.2.1 28 0)), (1, .int x1), (2, .int x2), (3, .int x3), (4, .int x4)]) hx hb dX7_waysToKeep_56 hl (by decide) rfl (fun ls hl => ?_)
          refine lv_iload_n hx hb dX7_waysToKeep_58 rfl (lv_at hl 2 rfl) ?_
          obtain ⟨q10, hq10, h⟩ := bi_el h
          refine zcSi (As := [.int x1]) cx hI (c_J_bitCount  hq10) mt_yJ6_bitCount_0f7a4 ms_yJ6_bitCount_0f7a4 w_552 (by omega) rfl hl.1 rfl (Nat.le_of_ble_eq_true rfl) dX7_waysToKeep_59 (fun H locs hI => ?_)
          refine lv_iload hx hb dX7_waysToKeep_62 (lv_at hl 0 rfl) ?_
          refine lv_isub hx hb dX7_waysToKeep_64 ?_
          refine lv_topi (fun v11 ev11 => ?_)
          have h := bnd_el h ev11
          refine lv_istore (lv' := [(6, .int v11), (5, .int q9), (0, .ref (G.2.2.1 28 0)), (1, .int x1), (2, .int x2), (3, .int x3), (4, .int x4)]) hx hb dX7_waysToKeep_65 hl (by decide) rfl (fun ls hl => ?_)
          refine lv_iload_n hx hb dX7_waysToKeep_67 rfl (lv_at hl 5 rfl) ?_
          refine lv_bipush (v := (nI 10)) hx hb dX7_waysToKeep_68 (by decide) ?_
          refine lv_iload_n hx hb dX7_waysToKeep_70 rfl (lv_at hl 4 rfl) ?_
          refine lv_isub hx hb dX7_waysToKeep_71 ?_
          refine lv_iload hx hb dX7_waysToKeep_72 (lv_at hl 1 rfl) ?_
          obtain ⟨q12, hq12, h⟩ := bi_el h
          refine zcSi (As := [.int ((nI 10) - x2), .int q9]) cx hI (c_RS_power N hq12) mt_yX7_power ms_yX7_power w_666 (by omega) rfl hl.1 rfl (Nat.le_of_ble_eq_true rfl) dX7_waysToKeep_74 (fun H locs hI => ?_)
          refine lv_iload_n hx hb dX7_waysToKeep_77 rfl (lv_at hl 4 rfl) ?_
          refine lv_iload hx hb dX7_waysToKeep_78 (lv_at hl 0 rfl) ?_
          obtain ⟨q13, hq13, h⟩ := bi_el h
          refine zcSi (As := [.int x2, .int v11]) cx hI (c_RS_power N hq13) mt_yX7_power ms_yX7_power w_666 (by omega) rfl hl.1 rfl (Nat.le_of_ble_eq_true rfl) dX7_waysToKeep_80 (fun H locs hI => ?_)
          refine lv_imul hx hb dX7_waysToKeep_83 ?_
          refine lv_iadd hx hb dX7_waysToKeep_84 ?_
          refine lv_topi (fun v14 ev14 => ?_)
          have h := bnd_el h ev14
          refine lv_istore_n (lv' := [(3, .int v14), (6, .int v11), (5, .int q9), (0, .ref (G.2.2.1 28 0)), (1, .int x1), (2, .int x2), (4, .int x4)]) hx hb dX7_waysToKeep_85 rfl hl (by decide) rfl (fun ls hl => ?_)
          exact t_RS_waysToKeep_86 N  cx hret ih μ7 x1 x2 v14 x4 h hI (lv_sub hl [3, 4, 5, 0, 6] rfl)
def f_RS_waysToKeep (N : Nat) (μ : zM) (a1 : Int32) (a2 : Int32) : Option (Int32 × zM) :=
  (f_Rd_begin N (μ 21) (μ 0)).bind (fun q1 => bnd (zset μ 21 q1) (fun μ2 => f_RS_waysToKeep_16 N N μ2 a1 a2 (nI 0) (nI 0)))
set_option maxHeartbeats 4000000 in
set_option maxRecDepth 100000 in
theorem c_RS_waysToKeep (N : Nat) {l : Launch} {G : zG} {μ : zM}  {a1 : Int32} {a2 : Int32} {out : (Int32 × zM)} (h : f_RS_waysToKeep N μ a1 a2 = some out) : zMI l G yX7_waysToKeep cX7_waysToKeep 7 (some .int) 3 [.ref (G.2.2.1 28 0), .int a1, .int a2] μ out.1 out.2 := by
  refine zMI.of (by decide) (Nat.le_of_ble_eq_true rfl) (fun p e s m args below meth c Q ls cx hI hl hret => ?_)
  obtain ⟨hx, hb, hml, hown, hts, hK, hR⟩ := id cx
  have hl : lv_has ls 7 [(0, .ref (G.2.2.1 28 0)), (1, .int a1), (2, .int a2)] := hl
  unfold f_RS_waysToKeep at h
  refine lv_aload_n hx hb dX7_waysToKeep_0 rfl (lv_at hl 0 rfl) ?_
  refine g7_8 cx hI rfl rfl w_35 dX7_waysToKeep_1 ?_
  refine lv_aload_n hx hb dX7_waysToKeep_4 rfl (lv_at hl 0 rfl) ?_
  refine g7_0 cx hI rfl rfl w_16 dX7_waysToKeep_5 ?_
  obtain ⟨q1, hq1, h⟩ := bi_el h
  obtain ⟨μ2, eμ2⟩ : ∃ z : zM, z = zset μ 21 q1 := ⟨_, rfl⟩
  have h := bnd_el h eμ2
  refine zcVv (As := [.ref (G.2.2.1 0 0)]) cx hI (c_Rd_begin N rfl rfl rfl rfl (by decide) hq1 eμ2.symm) mt_yX3_begin mv_yX3_begin w_661 (by omega) (k3_0 rfl) (zv3 rfl) rfl hl.1 rfl (Nat.le_of_ble_eq_true rfl) dX7_waysToKeep_8 (fun H locs hI => ?_)
  refine lv_iconst (v := (nI 0)) hx hb dX7_waysToKeep_11 (by decide) ?_
  refine lv_istore_n (lv' := [(3, .int (nI 0)), (0, .ref (G.2.2.1 28 0)), (1, .int a1), (2, .int a2)]) hx hb dX7_waysToKeep_12 rfl hl (by decide) rfl (fun ls hl => ?_)
  refine lv_iconst (v := (nI 0)) hx hb dX7_waysToKeep_13 (by decide) ?_
  refine lv_istore (lv' := [(4, .int (nI 0)), (3, .int (nI 0)), (0, .ref (G.2.2.1 28 0)), (1, .int a1), (2, .int a2)]) hx hb dX7_waysToKeep_14 hl (by decide) rfl (fun ls hl => ?_)
  exact t_RS_waysToKeep_16 N  cx hret N μ2 a1 a2 (nI 0) (nI 0) h hI (lv_sub hl [2, 3, 4, 1, 0] rfl)
def f_RS_kept_29 (N : Nat)  (μ : zM) : Option (Int32 × zM) :=
  some ((-1 : Int32), μ)
set_option maxHeartbeats 4000000 in
set_option maxRecDepth 100000 in
theorem t_RS_kept_29 (N : Nat) {p : Program} {l : Launch} {e : Env} {s : State} {m : MethodId} {args : Array Value} {below : List Frame} {meth : Method} {c : Code} {Q : State → Prop} {G : zG}  {out : (Int32 × zM)} (cx : zCX p (zrm 4) s m args c RX7 cX7_kept 8 4 G) (hret : zRi p l e (zrm 4) s m args below meth c cX7_kept G .int Q out.1 out.2)   : ∀ (μ : zM), f_RS_kept_29 N μ = some out → ∀ {H : Heap} {locs : List Loc} {ls : Array Slot}, zIW G s μ H locs → lv_has ls 8 [] → W p l e (zrm 4) s m args below meth c H locs 0 0 Q (F0 m 29 ls []) := by
  obtain ⟨hx, hb, hml, hown, hts, hK, hR⟩ := id cx
  intro μ  h H locs ls hI hl
  unfold f_RS_kept_29 at h
  refine lv_iconst (v := (-1 : Int32)) hx hb dX7_kept_29 (by decide) ?_
  obtain rfl := Option.some.inj h
  exact hret _ _ _ _ dX7_kept_30 rfl hI
def f_RS_kept_86 (N : Nat)  (μ : zM) (x7 : Int32) (s0 : Int32) : Option (Int32 × zM) :=
  if ¬ x7 = nI 0 then some (s0 / x7, μ) else none
set_option maxHeartbeats 4000000 in
set_option maxRecDepth 100000 in
theorem t_RS_kept_86 (N : Nat) {p : Program} {l : Launch} {e : Env} {s : State} {m : MethodId} {args : Array Value} {below : List Frame} {meth : Method} {c : Code} {Q : State → Prop} {G : zG}  {out : (Int32 × zM)} (cx : zCX p (zrm 4) s m args c RX7 cX7_kept 8 4 G) (hret : zRi p l e (zrm 4) s m args below meth c cX7_kept G .int Q out.1 out.2)   : ∀ (μ : zM) (x7 : Int32) (s0 : Int32), f_RS_kept_86 N μ x7 s0 = some out → ∀ {H : Heap} {locs : List Loc} {ls : Array Slot}, zIW G s μ H locs → lv_has ls 8 [(7, .int x7)] → W p l e (zrm 4) s m args below meth c H locs 0 0 Q (F0 m 86 ls [.int s0]) := by
  obtain ⟨hx, hb, hml, hown, hts, hK, hR⟩ := id cx
  intro μ x7 s0  h H locs ls hI hl
  unfold f_RS_kept_86 at h
  refine lv_iload hx hb dX7_kept_86 (lv_at hl 0 rfl) ?_
  obtain ⟨g15, h⟩ := gd_el h
  refine lv_idiv hx hb dX7_kept_88 g15 ?_
  obtain rfl := Option.some.inj h
  exact hret _ _ _ _ dX7_kept_89 rfl hI
def f_RS_kept (N : Nat) (μ : zM) (a1 : Int32) (a2 : Int32) (a3 : Int32) : Option (Int32 × zM) :=
  (if a1 < nI 0 then f_RS_kept_29 N μ else (if (nI 20) ≤ a1 then f_RS_kept_29 N μ else (if a2 < nI 0 then f_RS_kept_29 N μ else (if (nI 10) < a2 then f_RS_kept_29 N μ else (if a3 < nI 0 then f_RS_kept_29 N μ else (if a3 ≤ (nI 1) then (f_RS_placesWith N μ a1).bind (fun q7 => (f_RS_waysToKeep N μ q7 a2).bind (fun q8 => bnd q8.1 (fun v9 => (f_J_bitCount q7).bind (fun q10 => (f_RS_power N (nI 10) q10).bind (fun q11 => (f_RS_greatestDivisor N v9 q11).bind (fun q12 => (if q12 = nI 0 then some ((-1 : Int32), q8.2) else (if a3 = nI 0 then f_RS_kept_86 N q8.2 q12 v9 else f_RS_kept_86 N q8.2 q12 q11)))))))) else f_RS_kept_29 N μ))))))
set_option maxHeartbeats 4000000 in
set_option maxRecDepth 100000 in
theorem c_RS_kept (N : Nat) {l : Launch} {G : zG} {μ : zM}  {a1 : Int32} {a2 : Int32} {a3 : Int32} {out : (Int32 × zM)} (h : f_RS_kept N μ a1 a2 a3 = some out) : zMI l G yX7_kept cX7_kept 8 (some .int) 4 [.ref (G.2.2.1 28 0), .int a1, .int a2, .int a3] μ out.1 out.2 := by
  refine zMI.of (by decide) (Nat.le_of_ble_eq_true rfl) (fun p e s m args below meth c Q ls cx hI hl hret => ?_)
  obtain ⟨hx, hb, hml, hown, hts, hK, hR⟩ := id cx
  have hl : lv_has ls 8 [(0, .ref (G.2.2.1 28 0)), (1, .int a1), (2, .int a2), (3, .int a3)] := hl
  unfold f_RS_kept at h
  refine lv_iload_n hx hb dX7_kept_0 rfl (lv_at hl 1 rfl) ?_
  refine lv_if_lt (tgt := 29) hx hb dX7_kept_1 (by decide) (fun c1 => ?_) (fun c1 => ?_)
  · have h := it_p h c1
    exact t_RS_kept_29 N  cx hret μ h hI (lv_sub hl [] rfl)
  · have h := it_n h c1
    refine lv_iload_n hx hb dX7_kept_4 rfl (lv_at hl 1 rfl) ?_
    refine lv_bipush (v := (nI 20)) hx hb dX7_kept_5 (by decide) ?_
    refine lv_icmp_ge (tgt := 29) hx hb dX7_kept_7 (by decide) (fun c2 => ?_) (fun c2 => ?_)
    · have h := it_p h c2
      exact t_RS_kept_29 N  cx hret μ h hI (lv_sub hl [] rfl)
    · have h := it_n h c2
      refine lv_iload_n hx hb dX7_kept_10 rfl (lv_at hl 2 rfl) ?_
      refine lv_if_lt (tgt := 29) hx hb dX7_kept_11 (by decide) (fun c3 => ?_) (fun c3 => ?_)
      · have h := it_p h c3
        exact t_RS_kept_29 N  cx hret μ h hI (lv_sub hl [] rfl)
      · have h := it_n h c3
        refine lv_iload_n hx hb dX7_kept_14 rfl (lv_at hl 2 rfl) ?_
        refine lv_bipush (v := (nI 10)) hx hb dX7_kept_15 (by decide) ?_
        refine lv_icmp_gt (tgt := 29) hx hb dX7_kept_17 (by decide) (fun c4 => ?_) (fun c4 => ?_)
        · have h := it_p h c4
          exact t_RS_kept_29 N  cx hret μ h hI (lv_sub hl [] rfl)
        · have h := it_n h c4
          refine lv_iload_n hx hb dX7_kept_20 rfl (lv_at hl 3 rfl) ?_
          refine lv_if_lt (tgt := 29) hx hb dX7_kept_21 (by decide) (fun c5 => ?_) (fun c5 => ?_)
          · have h := it_p h c5
            exact t_RS_kept_29 N  cx hret μ h hI (lv_sub hl [] rfl)
          · have h := it_n h c5
            refine lv_iload_n hx hb dX7_kept_24 rfl (lv_at hl 3 rfl) ?_
            refine lv_iconst (v := (nI 1)) hx hb dX7_kept_25 (by decide) ?_
            refine lv_icmp_le (tgt := 31) hx hb dX7_kept_26 (by decide) (fun c6 => ?_) (fun c6 => ?_)
            · have h := it_p h c6
              refine lv_aload_n hx hb dX7_kept_31 rfl (lv_at hl 0 rfl) ?_
              refine lv_iload_n hx hb dX7_kept_32 rfl (lv_at hl 1 rfl) ?_
              obtain ⟨q7, hq7, h⟩ := bi_el h
              refine zcVi (As := [.int a1]) cx hI (c_RS_placesWith N hq7) mt_yX7_placesWith mv_yX7_placesWith w_652 (by omega) (k7_0 rfl) (zv7 rfl) rfl hl.1 rfl (Nat.le_of_ble_eq_true rfl) dX7_kept_33 (fun H locs hI => ?_)
              refine lv_istore (lv' := [(4, .int q7), (0, .ref (G.2.2.1 28 0)), (1, .int a1), (2, .int a2), (3, .int a3)]) hx hb dX7_kept_36 hl (by decide) rfl (fun ls hl => ?_)
              refine lv_aload_n hx hb dX7_kept_38 rfl (lv_at hl 1 rfl) ?_
              refine lv_iload hx hb dX7_kept_39 (lv_at hl 0 rfl) ?_
              refine lv_iload_n hx hb dX7_kept_41 rfl (lv_at hl 3 rfl) ?_
              obtain ⟨q8, hq8, h⟩ := bi_el h
              refine zcVi (As := [.int q7, .int a2]) cx hI (c_RS_waysToKeep N hq8) mt_yX7_waysToKeep mv_yX7_waysToKeep w_657 (by omega) (k7_0 rfl) (zv7 rfl) rfl hl.1 rfl (Nat.le_of_ble_eq_true rfl) dX7_kept_42 (fun H locs hI => ?_)
              refine lv_topi (fun v9 ev9 => ?_)
              have h := bnd_el h ev9
              refine lv_istore (lv' := [(5, .int v9), (4, .int q7), (0, .ref (G.2.2.1 28 0)), (1, .int a1), (2, .int a2), (3, .int a3)]) hx hb dX7_kept_45 hl (by decide) rfl (fun ls hl => ?_)
              refine lv_bipush (v := (nI 10)) hx hb dX7_kept_47 (by decide) ?_
              refine lv_iload hx hb dX7_kept_49 (lv_at hl 1 rfl) ?_
              obtain ⟨q10, hq10, h⟩ := bi_el h
              refine zcSi (As := [.int q7]) cx hI (c_J_bitCount  hq10) mt_yJ6_bitCount_0f7a4 ms_yJ6_bitCount_0f7a4 w_552 (by omega) rfl hl.1 rfl (Nat.le_of_ble_eq_true rfl) dX7_kept_51 (fun H locs hI => ?_)
              obtain ⟨q11, hq11, h⟩ := bi_el h
              refine zcSi (As := [.int (nI 10), .int q10]) cx hI (c_RS_power N hq11) mt_yX7_power ms_yX7_power w_666 (by omega) rfl hl.1 rfl (Nat.le_of_ble_eq_true rfl) dX7_kept_54 (fun H locs hI => ?_)
              refine lv_istore (lv' := [(6, .int q11), (5, .int v9), (4, .int q7), (0, .ref (G.2.2.1 28 0)), (1, .int a1), (2, .int a2), (3, .int a3)]) hx hb dX7_kept_57 hl (by decide) rfl (fun ls hl => ?_)
              refine lv_iload hx hb dX7_kept_59 (lv_at hl 1 rfl) ?_
              refine lv_iload hx hb dX7_kept_61 (lv_at hl 0 rfl) ?_
              obtain ⟨q12, hq12, h⟩ := bi_el h
              refine zcSi (As := [.int v9, .int q11]) cx hI (c_RS_greatestDivisor N hq12) mt_yX7_greatestDivisor ms_yX7_greatestDivisor w_669 (by omega) rfl hl.1 rfl (Nat.le_of_ble_eq_true rfl) dX7_kept_63 (fun H locs hI => ?_)
              refine lv_istore (lv' := [(7, .int q12), (6, .int q11), (5, .int v9), (4, .int q7), (0, .ref (G.2.2.1 28 0)), (1, .int a1), (2, .int a2), (3, .int a3)]) hx hb dX7_kept_66 hl (by decide) rfl (fun ls hl => ?_)
              refine lv_iload hx hb dX7_kept_68 (lv_at hl 0 rfl) ?_
              refine lv_if_ne (tgt := 75) hx hb dX7_kept_70 (by decide) (fun c13 => ?_) (fun c13 => ?_)
              · have h := it_n h c13
                refine lv_iload_n hx hb dX7_kept_75 rfl (lv_at hl 7 rfl) ?_
                refine lv_if_ne (tgt := 84) hx hb dX7_kept_76 (by decide) (fun c14 => ?_) (fun c14 => ?_)
                · have h := it_n h c14
                  refine lv_iload hx hb dX7_kept_84 (lv_at hl 1 rfl) ?_
                  exact t_RS_kept_86 N  cx hret q8.2 q12 q11 h hI (lv_sub hl [0] rfl)
                · have h := it_p h c14
                  refine lv_iload hx hb dX7_kept_79 (lv_at hl 2 rfl) ?_
                  refine lv_goto (tgt := 86) hx hb dX7_kept_81 (by decide) ?_
                  exact t_RS_kept_86 N  cx hret q8.2 q12 v9 h hI (lv_sub hl [0] rfl)
              · have h := it_p h c13
                refine lv_iconst (v := (-1 : Int32)) hx hb dX7_kept_73 (by decide) ?_
                obtain rfl := Option.some.inj h
                exact hret _ _ _ _ dX7_kept_74 rfl hI
            · have h := it_n h c6
              exact t_RS_kept_29 N  cx hret μ h hI (lv_sub hl [] rfl)
def f_RS_writeNote_175 (N : Nat) (k64 : zM → Int32 → Option zM) (μ : zM) (x1 : Int32) : Option zM :=
  bnd (x1 + (nI 1)) (fun v18 => k64 μ v18)
set_option maxHeartbeats 4000000 in
set_option maxRecDepth 100000 in
theorem t_RS_writeNote_175 (N : Nat) {p : Program} {l : Launch} {e : Env} {s : State} {m : MethodId} {args : Array Value} {below : List Frame} {meth : Method} {c : Code} {Q : State → Prop} {G : zG}  {out : zM} (cx : zCX p (zrm 4) s m args c RX7 cX7_writeNote 2 4 G) (hret : zRv p l e (zrm 4) s m args below meth c cX7_writeNote G Q out) {k64 : zM → Int32 → Option zM} (hk64 : ∀ (μ : zM) (x1 : Int32), k64 μ x1 = some out → ∀ {H : Heap} {locs : List Loc} {ls : Array Slot}, zIW G s μ H locs → lv_has ls 2 [(0, .ref (G.2.2.1 28 0)), (1, .int x1)] → W p l e (zrm 4) s m args below meth c H locs 0 0 Q (F0 m 64 ls [])) : ∀ (μ : zM) (x1 : Int32), f_RS_writeNote_175 N k64 μ x1 = some out → ∀ {H : Heap} {locs : List Loc} {ls : Array Slot}, zIW G s μ H locs → lv_has ls 2 [(0, .ref (G.2.2.1 28 0)), (1, .int x1)] → W p l e (zrm 4) s m args below meth c H locs 0 0 Q (F0 m 175 ls []) := by
  obtain ⟨hx, hb, hml, hown, hts, hK, hR⟩ := id cx
  intro μ x1  h H locs ls hI hl
  unfold f_RS_writeNote_175 at h
  obtain ⟨v18, ev18⟩ : ∃ z : Int32, z = x1 + (nI 1) := ⟨_, rfl⟩
  have h := bnd_el h ev18
  refine lv_iinc (v := v18) (lv' := [(1, .int v18), (0, .ref (G.2.2.1 28 0))]) hx hb dX7_writeNote_175 hl (k := 1) rfl (by rw [ev18]; rfl) (by decide) rfl (fun ls hl => ?_)
  refine lv_goto (tgt := 64) hx hb dX7_writeNote_178 (by decide) ?_
  exact hk64 μ v18 h hI (lv_sub hl [1, 0] rfl)
def f_RS_writeNote_89 (N : Nat) (k64 : zM → Int32 → Option zM) (μ : zM) (x1 : Int32) : Option zM :=
  if zin x1 7 then (f_Le_addNumber (zlen 18) (μ 18) ((μ 0).1 3 x1.toNatClampNeg)).bind (fun q8 => bnd (zset μ 18 q8) (fun μ9 => (f_Le_add (zlen 18) (μ9 18) (nI 43)).bind (fun q10 => bnd (zset μ9 18 q10.2) (fun μ11 => if zin x1 7 then (f_J_bitCount ((μ11 21).1 7 x1.toNatClampNeg)).bind (fun q13 => (f_Le_addNumber (zlen 18) (μ11 18) q13).bind (fun q14 => bnd (zset μ11 18 q14) (fun μ15 => if zin x1 7 then (if ((μ15 21).1 9 x1.toNatClampNeg) = nI 0 then f_RS_writeNote_175 N k64 μ15 x1 else (f_Le_add (zlen 18) (μ15 18) (nI 45)).bind (fun q19 => bnd (zset μ15 18 q19.2) (fun μ20 => if zin x1 7 then (f_J_bitCount ((μ20 21).1 9 x1.toNatClampNeg)).bind (fun q22 => (f_Le_addNumber (zlen 18) (μ20 18) q22).bind (fun q23 => bnd (zset μ20 18 q23) (fun μ24 => f_RS_writeNote_175 N k64 μ24 x1))) else none))) else none))) else none)))) else none
set_option maxHeartbeats 4000000 in
set_option maxRecDepth 100000 in
theorem t_RS_writeNote_89 (N : Nat) {p : Program} {l : Launch} {e : Env} {s : State} {m : MethodId} {args : Array Value} {below : List Frame} {meth : Method} {c : Code} {Q : State → Prop} {G : zG}  {out : zM} (cx : zCX p (zrm 4) s m args c RX7 cX7_writeNote 2 4 G) (hret : zRv p l e (zrm 4) s m args below meth c cX7_writeNote G Q out) {k64 : zM → Int32 → Option zM} (hk64 : ∀ (μ : zM) (x1 : Int32), k64 μ x1 = some out → ∀ {H : Heap} {locs : List Loc} {ls : Array Slot}, zIW G s μ H locs → lv_has ls 2 [(0, .ref (G.2.2.1 28 0)), (1, .int x1)] → W p l e (zrm 4) s m args below meth c H locs 0 0 Q (F0 m 64 ls [])) : ∀ (μ : zM) (x1 : Int32), f_RS_writeNote_89 N k64 μ x1 = some out → ∀ {H : Heap} {locs : List Loc} {ls : Array Slot}, zIW G s μ H locs → lv_has ls 2 [(0, .ref (G.2.2.1 28 0)), (1, .int x1)] → W p l e (zrm 4) s m args below meth c H locs 0 0 Q (F0 m 89 ls []) := by
  obtain ⟨hx, hb, hml, hown, hts, hK, hR⟩ := id cx
  intro μ x1  h H locs ls hI hl
  unfold f_RS_writeNote_89 at h
  refine lv_aload_n hx hb dX7_writeNote_89 rfl (lv_at hl 0 rfl) ?_
  refine g7_7 cx hI rfl rfl w_31 dX7_writeNote_90 ?_
  refine lv_aload_n hx hb dX7_writeNote_93 rfl (lv_at hl 0 rfl) ?_
  refine g7_0 cx hI rfl rfl w_16 dX7_writeNote_94 ?_
  refine g6_2 cx hI rfl rfl w_539 dX7_writeNote_97 ?_
  refine lv_iload_n hx hb dX7_writeNote_100 rfl (lv_at hl 1 rfl) ?_
  obtain ⟨g7, h⟩ := gd_el h
  refine zr_iald cx hI (k6_3 rfl) rfl (z6_3 rfl) rfl g7 dX7_writeNote_101 ?_
  obtain ⟨q8, hq8, h⟩ := bi_el h
  obtain ⟨μ9, eμ9⟩ : ∃ z : zM, z = zset μ 18 q8 := ⟨_, rfl⟩
  have h := bnd_el h eμ9
  refine zcVv (As := [.int ((μ 0).1 3 x1.toNatClampNeg)]) cx hI (c_Le_addNumber rfl rfl hq8 eμ9.symm) mt_yX0_addNumber mv_yX0_addNumber w_740 (by omega) (k0_0 rfl) (zv0 rfl) rfl hl.1 rfl (Nat.le_of_ble_eq_true rfl) dX7_writeNote_102 (fun H locs hI => ?_)
  refine lv_aload_n hx hb dX7_writeNote_105 rfl (lv_at hl 0 rfl) ?_
  refine g7_7 cx hI rfl rfl w_31 dX7_writeNote_106 ?_
  refine lv_bipush (v := (nI 43)) hx hb dX7_writeNote_109 (by decide) ?_
  obtain ⟨q10, hq10, h⟩ := bi_el h
  obtain ⟨μ11, eμ11⟩ : ∃ z : zM, z = zset μ9 18 q10.2 := ⟨_, rfl⟩
  have h := bnd_el h eμ11
  refine zcVi (As := [.int (nI 43)]) cx hI (c_Le_add rfl rfl hq10 eμ11.symm) mt_yX0_add mv_yX0_add w_735 (by omega) (k0_0 rfl) (zv0 rfl) rfl hl.1 rfl (Nat.le_of_ble_eq_true rfl) dX7_writeNote_111 (fun H locs hI => ?_)
  refine lv_pop hx hb dX7_writeNote_114 rfl ?_
  refine lv_aload_n hx hb dX7_writeNote_115 rfl (lv_at hl 0 rfl) ?_
  refine g7_7 cx hI rfl rfl w_31 dX7_writeNote_116 ?_
  refine lv_aload_n hx hb dX7_writeNote_119 rfl (lv_at hl 0 rfl) ?_
  refine g7_8 cx hI rfl rfl w_35 dX7_writeNote_120 ?_
  refine g3_6 cx hI rfl rfl w_540 dX7_writeNote_123 ?_
  refine lv_iload_n hx hb dX7_writeNote_126 rfl (lv_at hl 1 rfl) ?_
  obtain ⟨g12, h⟩ := gd_el h
  refine zr_iald cx hI (k3_7 rfl) rfl (z3_7 rfl) rfl g12 dX7_writeNote_127 ?_
  obtain ⟨q13, hq13, h⟩ := bi_el h
  refine zcSi (As := [.int ((μ11 21).1 7 x1.toNatClampNeg)]) cx hI (c_J_bitCount  hq13) mt_yJ6_bitCount_0f7a4 ms_yJ6_bitCount_0f7a4 w_552 (by omega) rfl hl.1 rfl (Nat.le_of_ble_eq_true rfl) dX7_writeNote_128 (fun H locs hI => ?_)
  obtain ⟨q14, hq14, h⟩ := bi_el h
  obtain ⟨μ15, eμ15⟩ : ∃ z : zM, z = zset μ11 18 q14 := ⟨_, rfl⟩
  have h := bnd_el h eμ15
  refine zcVv (As := [.int q13]) cx hI (c_Le_addNumber rfl rfl hq14 eμ15.symm) mt_yX0_addNumber mv_yX0_addNumber w_740 (by omega) (k0_0 rfl) (zv0 rfl) rfl hl.1 rfl (Nat.le_of_ble_eq_true rfl) dX7_writeNote_131 (fun H locs hI => ?_)
  refine lv_aload_n hx hb dX7_writeNote_134 rfl (lv_at hl 0 rfl) ?_
  refine g7_8 cx hI rfl rfl w_35 dX7_writeNote_135 ?_
  refine g3_8 cx hI rfl rfl w_542 dX7_writeNote_138 ?_
  refine lv_iload_n hx hb dX7_writeNote_141 rfl (lv_at hl 1 rfl) ?_
  obtain ⟨g16, h⟩ := gd_el h
  refine zr_iald cx hI (k3_9 rfl) rfl (z3_9 rfl) rfl g16 dX7_writeNote_142 ?_
  refine lv_if_eq (tgt := 175) hx hb dX7_writeNote_143 (by decide) (fun c17 => ?_) (fun c17 => ?_)
  · have h := it_p h c17
    exact t_RS_writeNote_175 N  cx hret hk64 μ15 x1 h hI hl
  · have h := it_n h c17
    refine lv_aload_n hx hb dX7_writeNote_146 rfl (lv_at hl 0 rfl) ?_
    refine g7_7 cx hI rfl rfl w_31 dX7_writeNote_147 ?_
    refine lv_bipush (v := (nI 45)) hx hb dX7_writeNote_150 (by decide) ?_
    obtain ⟨q19, hq19, h⟩ := bi_el h
    obtain ⟨μ20, eμ20⟩ : ∃ z : zM, z = zset μ15 18 q19.2 := ⟨_, rfl⟩
    have h := bnd_el h eμ20
    refine zcVi (As := [.int (nI 45)]) cx hI (c_Le_add rfl rfl hq19 eμ20.symm) mt_yX0_add mv_yX0_add w_735 (by omega) (k0_0 rfl) (zv0 rfl) rfl hl.1 rfl (Nat.le_of_ble_eq_true rfl) dX7_writeNote_152 (fun H locs hI => ?_)
    refine lv_pop hx hb dX7_writeNote_155 rfl ?_
    refine lv_aload_n hx hb dX7_writeNote_156 rfl (lv_at hl 0 rfl) ?_
    refine g7_7 cx hI rfl rfl w_31 dX7_writeNote_157 ?_
    refine lv_aload_n hx hb dX7_writeNote_160 rfl (lv_at hl 0 rfl) ?_
    refine g7_8 cx hI rfl rfl w_35 dX7_writeNote_161 ?_
    refine g3_8 cx hI rfl rfl w_542 dX7_writeNote_164 ?_
    refine lv_iload_n hx hb dX7_writeNote_167 rfl (lv_at hl 1 rfl) ?_
    obtain ⟨g21, h⟩ := gd_el h
    refine zr_iald cx hI (k3_9 rfl) rfl (z3_9 rfl) rfl g21 dX7_writeNote_168 ?_
    obtain ⟨q22, hq22, h⟩ := bi_el h
    refine zcSi (As := [.int ((μ20 21).1 9 x1.toNatClampNeg)]) cx hI (c_J_bitCount  hq22) mt_yJ6_bitCount_0f7a4 ms_yJ6_bitCount_0f7a4 w_552 (by omega) rfl hl.1 rfl (Nat.le_of_ble_eq_true rfl) dX7_writeNote_169 (fun H locs hI => ?_)
    obtain ⟨q23, hq23, h⟩ := bi_el h
    obtain ⟨μ24, eμ24⟩ : ∃ z : zM, z = zset μ20 18 q23 := ⟨_, rfl⟩
    have h := bnd_el h eμ24
    refine zcVv (As := [.int q22]) cx hI (c_Le_addNumber rfl rfl hq23 eμ24.symm) mt_yX0_addNumber mv_yX0_addNumber w_740 (by omega) (k0_0 rfl) (zv0 rfl) rfl hl.1 rfl (Nat.le_of_ble_eq_true rfl) dX7_writeNote_172 (fun H locs hI => ?_)
    exact t_RS_writeNote_175 N  cx hret hk64 μ24 x1 h hI hl
def f_RS_writeNote_64 (N : Nat)  : Nat → zM → Int32 → Option zM
  | 0, _, _ => none
  | n + 1, μ, x1 => (if ((μ 0).1 0 3) ≤ x1 then some μ else (if x1 ≤ nI 0 then f_RS_writeNote_89 N (f_RS_writeNote_64 N n) μ x1 else (f_Le_add (zlen 18) (μ 18) (nI 32)).bind (fun q25 => bnd (zset μ 18 q25.2) (fun μ26 => f_RS_writeNote_89 N (f_RS_writeNote_64 N n) μ26 x1))))
set_option maxHeartbeats 4000000 in
set_option maxRecDepth 100000 in
theorem t_RS_writeNote_64 (N : Nat) {p : Program} {l : Launch} {e : Env} {s : State} {m : MethodId} {args : Array Value} {below : List Frame} {meth : Method} {c : Code} {Q : State → Prop} {G : zG}  {out : zM} (cx : zCX p (zrm 4) s m args c RX7 cX7_writeNote 2 4 G) (hret : zRv p l e (zrm 4) s m args below meth c cX7_writeNote G Q out)   : ∀ (n : Nat) (μ : zM) (x1 : Int32), f_RS_writeNote_64 N n μ x1 = some out → ∀ {H : Heap} {locs : List Loc} {ls : Array Slot}, zIW G s μ H locs → lv_has ls 2 [(0, .ref (G.2.2.1 28 0)), (1, .int x1)] → W p l e (zrm 4) s m args below meth c H locs 0 0 Q (F0 m 64 ls []) := by
  obtain ⟨hx, hb, hml, hown, hts, hK, hR⟩ := id cx
  intro n
  induction n with
  | zero =>
    intro μ x1  h
    cases h
  | succ n ih =>
    intro μ x1  h H locs ls hI hl
    rw [f_RS_writeNote_64] at h
    refine lv_iload_n hx hb dX7_writeNote_64 rfl (lv_at hl 1 rfl) ?_
    refine lv_aload_n hx hb dX7_writeNote_65 rfl (lv_at hl 0 rfl) ?_
    refine g7_0 cx hI rfl rfl w_16 dX7_writeNote_66 ?_
    refine g6_3 cx hI rfl rfl w_349 dX7_writeNote_69 ?_
    refine lv_icmp_ge (tgt := 181) hx hb dX7_writeNote_72 (by decide) (fun c5 => ?_) (fun c5 => ?_)
    · have h := it_p h c5
      obtain rfl := Option.some.inj h
      exact hret _ _ _ _ dX7_writeNote_181 hI
    · have h := it_n h c5
      refine lv_iload_n hx hb dX7_writeNote_75 rfl (lv_at hl 1 rfl) ?_
      refine lv_if_le (tgt := 89) hx hb dX7_writeNote_76 (by decide) (fun c6 => ?_) (fun c6 => ?_)
      · have h := it_p h c6
        exact t_RS_writeNote_89 N  cx hret ih μ x1 h hI hl
      · have h := it_n h c6
        refine lv_aload_n hx hb dX7_writeNote_79 rfl (lv_at hl 0 rfl) ?_
        refine g7_7 cx hI rfl rfl w_31 dX7_writeNote_80 ?_
        refine lv_bipush (v := (nI 32)) hx hb dX7_writeNote_83 (by decide) ?_
        obtain ⟨q25, hq25, h⟩ := bi_el h
        obtain ⟨μ26, eμ26⟩ : ∃ z : zM, z = zset μ 18 q25.2 := ⟨_, rfl⟩
        have h := bnd_el h eμ26
        refine zcVi (As := [.int (nI 32)]) cx hI (c_Le_add rfl rfl hq25 eμ26.symm) mt_yX0_add mv_yX0_add w_735 (by omega) (k0_0 rfl) (zv0 rfl) rfl hl.1 rfl (Nat.le_of_ble_eq_true rfl) dX7_writeNote_85 (fun H locs hI => ?_)
        refine lv_pop hx hb dX7_writeNote_88 rfl ?_
        exact t_RS_writeNote_89 N  cx hret ih μ26 x1 h hI hl
def f_RS_writeNote_51 (N : Nat)  (μ : zM) : Option zM :=
  (f_Rd_readOrder N (μ 21) (μ 0)).bind (fun q3 => bnd (zset μ 21 q3) (fun μ4 => f_RS_writeNote_64 N N μ4 (nI 0)))
set_option maxHeartbeats 4000000 in
set_option maxRecDepth 100000 in
theorem t_RS_writeNote_51 (N : Nat) {p : Program} {l : Launch} {e : Env} {s : State} {m : MethodId} {args : Array Value} {below : List Frame} {meth : Method} {c : Code} {Q : State → Prop} {G : zG}  {out : zM} (cx : zCX p (zrm 4) s m args c RX7 cX7_writeNote 2 4 G) (hret : zRv p l e (zrm 4) s m args below meth c cX7_writeNote G Q out)   : ∀ (μ : zM), f_RS_writeNote_51 N μ = some out → ∀ {H : Heap} {locs : List Loc} {ls : Array Slot}, zIW G s μ H locs → lv_has ls 2 [(0, .ref (G.2.2.1 28 0))] → W p l e (zrm 4) s m args below meth c H locs 0 0 Q (F0 m 51 ls []) := by
  obtain ⟨hx, hb, hml, hown, hts, hK, hR⟩ := id cx
  intro μ  h H locs ls hI hl
  unfold f_RS_writeNote_51 at h
  refine lv_aload_n hx hb dX7_writeNote_51 rfl (lv_at hl 0 rfl) ?_
  refine g7_8 cx hI rfl rfl w_35 dX7_writeNote_52 ?_
  refine lv_aload_n hx hb dX7_writeNote_55 rfl (lv_at hl 0 rfl) ?_
  refine g7_0 cx hI rfl rfl w_16 dX7_writeNote_56 ?_
  obtain ⟨q3, hq3, h⟩ := bi_el h
  obtain ⟨μ4, eμ4⟩ : ∃ z : zM, z = zset μ 21 q3 := ⟨_, rfl⟩
  have h := bnd_el h eμ4
  refine zcVv (As := [.ref (G.2.2.1 0 0)]) cx hI (c_Rd_readOrder N rfl rfl rfl rfl (by decide) hq3 eμ4.symm) mt_yX3_readOrder mv_yX3_readOrder w_544 (by omega) (k3_0 rfl) (zv3 rfl) rfl hl.1 rfl (Nat.le_of_ble_eq_true rfl) dX7_writeNote_59 (fun H locs hI => ?_)
  refine lv_iconst (v := (nI 0)) hx hb dX7_writeNote_62 (by decide) ?_
  refine lv_istore_n (lv' := [(1, .int (nI 0)), (0, .ref (G.2.2.1 28 0))]) hx hb dX7_writeNote_63 rfl hl (by decide) rfl (fun ls hl => ?_)
  exact t_RS_writeNote_64 N  cx hret N μ4 (nI 0) h hI (lv_sub hl [1, 0] rfl)
def f_RS_writeNote_20 (N : Nat)  : Nat → zM → Int32 → Option zM
  | 0, _, _ => none
  | n + 1, μ, x1 => (if (zsl 0) ≤ x1 then f_RS_writeNote_51 N μ else if zin x1 (zlenS.getD 0 0) then (f_Le_add (zlen 18) (μ 18) (zch 0 x1.toNatClampNeg)).bind (fun q29 => bnd (zset μ 18 q29.2) (fun μ30 => bnd (x1 + (nI 1)) (fun v31 => f_RS_writeNote_20 N n μ30 v31))) else none)
set_option maxHeartbeats 4000000 in
set_option maxRecDepth 100000 in
theorem t_RS_writeNote_20 (N : Nat) {p : Program} {l : Launch} {e : Env} {s : State} {m : MethodId} {args : Array Value} {below : List Frame} {meth : Method} {c : Code} {Q : State → Prop} {G : zG}  {out : zM} (cx : zCX p (zrm 4) s m args c RX7 cX7_writeNote 2 4 G) (hret : zRv p l e (zrm 4) s m args below meth c cX7_writeNote G Q out)   : ∀ (n : Nat) (μ : zM) (x1 : Int32), f_RS_writeNote_20 N n μ x1 = some out → ∀ {H : Heap} {locs : List Loc} {ls : Array Slot}, zIW G s μ H locs → lv_has ls 2 [(0, .ref (G.2.2.1 28 0)), (1, .int x1)] → W p l e (zrm 4) s m args below meth c H locs 0 0 Q (F0 m 20 ls []) := by
  obtain ⟨hx, hb, hml, hown, hts, hK, hR⟩ := id cx
  intro n
  induction n with
  | zero =>
    intro μ x1  h
    cases h
  | succ n ih =>
    intro μ x1  h H locs ls hI hl
    rw [f_RS_writeNote_20] at h
    refine lv_iload_n hx hb dX7_writeNote_20 rfl (lv_at hl 1 rfl) ?_
    refine zr_ldcwS hx hb hown hK.2.2.1.1 dX7_writeNote_21 ?_
    refine zcVs (As := []) cx hI (by decide) (c_J_length (by decide)) mt_J_length mv_J_length w_686 (by omega) rfl hl.1 rfl (Nat.le_of_ble_eq_true rfl) dX7_writeNote_24 (fun H locs hI => ?_)
    refine lv_icmp_ge (tgt := 51) hx hb dX7_writeNote_27 (by decide) (fun c27 => ?_) (fun c27 => ?_)
    · have h := it_p h c27
      exact t_RS_writeNote_51 N  cx hret μ h hI (lv_sub hl [0] rfl)
    · have h := it_n h c27
      refine lv_aload_n hx hb dX7_writeNote_30 rfl (lv_at hl 0 rfl) ?_
      refine g7_7 cx hI rfl rfl w_31 dX7_writeNote_31 ?_
      refine zr_ldcwS hx hb hown hK.2.2.1.1 dX7_writeNote_34 ?_
      refine lv_iload_n hx hb dX7_writeNote_37 rfl (lv_at hl 1 rfl) ?_
      obtain ⟨g28, h⟩ := gd_el h
      refine zcVs (As := [.int x1]) cx hI (by decide) (c_J_charAt (by decide) g28) mt_J_charAt mv_J_charAt w_698 (by omega) rfl hl.1 rfl (Nat.le_of_ble_eq_true rfl) dX7_writeNote_38 (fun H locs hI => ?_)
      obtain ⟨q29, hq29, h⟩ := bi_el h
      obtain ⟨μ30, eμ30⟩ : ∃ z : zM, z = zset μ 18 q29.2 := ⟨_, rfl⟩
      have h := bnd_el h eμ30
      refine zcVi (As := [.int (zch 0 x1.toNatClampNeg)]) cx hI (c_Le_add rfl rfl hq29 eμ30.symm) mt_yX0_add mv_yX0_add w_735 (by omega) (k0_0 rfl) (zv0 rfl) rfl hl.1 rfl (Nat.le_of_ble_eq_true rfl) dX7_writeNote_41 (fun H locs hI => ?_)
      refine lv_pop hx hb dX7_writeNote_44 rfl ?_
      obtain ⟨v31, ev31⟩ : ∃ z : Int32, z = x1 + (nI 1) := ⟨_, rfl⟩
      have h := bnd_el h ev31
      refine lv_iinc (v := v31) (lv' := [(1, .int v31), (0, .ref (G.2.2.1 28 0))]) hx hb dX7_writeNote_45 hl (k := 1) rfl (by rw [ev31]; rfl) (by decide) rfl (fun ls hl => ?_)
      refine lv_goto (tgt := 20) hx hb dX7_writeNote_48 (by decide) ?_
      exact ih μ30 v31 h hI (lv_sub hl [1, 0] rfl)
def f_RS_writeNote (N : Nat) (μ : zM) : Option zM :=
  bnd (zset μ 18 (zI (μ 18) 0 1 (nI 0))) (fun μ1 => (if ((μ1 0).1 0 3) = nI 0 then f_RS_writeNote_20 N N μ1 (nI 0) else f_RS_writeNote_51 N μ1))
set_option maxHeartbeats 4000000 in
set_option maxRecDepth 100000 in
theorem c_RS_writeNote (N : Nat) {l : Launch} {G : zG} {μ : zM}   {out : zM} (h : f_RS_writeNote N μ  = some out) : zMV l G yX7_writeNote cX7_writeNote 2 none 4 [.ref (G.2.2.1 28 0)] μ out := by
  refine zMV.of (by decide) (Nat.le_of_ble_eq_true rfl) (fun p e s m args below meth c Q ls cx hI hl hret => ?_)
  obtain ⟨hx, hb, hml, hown, hts, hK, hR⟩ := id cx
  have hl : lv_has ls 2 [(0, .ref (G.2.2.1 28 0))] := hl
  unfold f_RS_writeNote at h
  refine lv_aload_n hx hb dX7_writeNote_0 rfl (lv_at hl 0 rfl) ?_
  refine g7_7 cx hI rfl rfl w_31 dX7_writeNote_1 ?_
  refine lv_iconst (v := (nI 0)) hx hb dX7_writeNote_4 (by decide) ?_
  obtain ⟨μ1, eμ1⟩ : ∃ z : zM, z = zset μ 18 (zI (μ 18) 0 1 (nI 0)) := ⟨_, rfl⟩
  have h := bnd_el h eμ1
  refine p0_1 cx hI rfl rfl w_681 eμ1.symm dX7_writeNote_5 (fun H locs hI => ?_)
  refine lv_aload_n hx hb dX7_writeNote_8 rfl (lv_at hl 0 rfl) ?_
  refine g7_0 cx hI rfl rfl w_16 dX7_writeNote_9 ?_
  refine g6_3 cx hI rfl rfl w_349 dX7_writeNote_12 ?_
  refine lv_if_ne (tgt := 51) hx hb dX7_writeNote_15 (by decide) (fun c2 => ?_) (fun c2 => ?_)
  · have h := it_n h c2
    exact t_RS_writeNote_51 N  cx hret μ1 h hI hl
  · have h := it_p h c2
    refine lv_iconst (v := (nI 0)) hx hb dX7_writeNote_18 (by decide) ?_
    refine lv_istore_n (lv' := [(1, .int (nI 0)), (0, .ref (G.2.2.1 28 0))]) hx hb dX7_writeNote_19 rfl hl (by decide) rfl (fun ls hl => ?_)
    exact t_RS_writeNote_20 N  cx hret N μ1 (nI 0) h hI (lv_sub hl [1, 0] rfl)
def f_RS_letter_34 (N : Nat)  (μ : zM) (s0 : Int32) : Option (Int32 × zM) :=
  some (s0, μ)
set_option maxHeartbeats 4000000 in
set_option maxRecDepth 100000 in
theorem t_RS_letter_34 (N : Nat) {p : Program} {l : Launch} {e : Env} {s : State} {m : MethodId} {args : Array Value} {below : List Frame} {meth : Method} {c : Code} {Q : State → Prop} {G : zG}  {out : (Int32 × zM)} (cx : zCX p (zrm 5) s m args c RX7 cX7_letter 2 5 G) (hret : zRi p l e (zrm 5) s m args below meth c cX7_letter G .int Q out.1 out.2)   : ∀ (μ : zM) (s0 : Int32), f_RS_letter_34 N μ s0 = some out → ∀ {H : Heap} {locs : List Loc} {ls : Array Slot}, zIW G s μ H locs → lv_has ls 2 [] → W p l e (zrm 5) s m args below meth c H locs 0 0 Q (F0 m 34 ls [.int s0]) := by
  obtain ⟨hx, hb, hml, hown, hts, hK, hR⟩ := id cx
  intro μ s0  h H locs ls hI hl
  unfold f_RS_letter_34 at h
  obtain rfl := Option.some.inj h
  exact hret _ _ _ _ dX7_letter_34 rfl hI
def f_RS_letter (N : Nat) (μ : zM) (a1 : Int32) : Option (Int32 × zM) :=
  (if nI 0 ≤ a1 then (f_RS_writeNote N μ).bind (fun q2 => (if ((q2 18).1 0 1) ≤ a1 then f_RS_letter_34 N q2 (-4 : Int32) else (f_Le_at (zlen 18) (q2 18) a1).bind (fun q4 => f_RS_letter_34 N q2 q4))) else some ((-1 : Int32), μ))
set_option maxHeartbeats 4000000 in
set_option maxRecDepth 100000 in
theorem c_RS_letter (N : Nat) {l : Launch} {G : zG} {μ : zM}  {a1 : Int32} {out : (Int32 × zM)} (h : f_RS_letter N μ a1 = some out) : zMI l G yX7_letter cX7_letter 2 (some .int) 5 [.ref (G.2.2.1 28 0), .int a1] μ out.1 out.2 := by
  refine zMI.of (by decide) (Nat.le_of_ble_eq_true rfl) (fun p e s m args below meth c Q ls cx hI hl hret => ?_)
  obtain ⟨hx, hb, hml, hown, hts, hK, hR⟩ := id cx
  have hl : lv_has ls 2 [(0, .ref (G.2.2.1 28 0)), (1, .int a1)] := hl
  unfold f_RS_letter at h
  refine lv_iload_n hx hb dX7_letter_0 rfl (lv_at hl 1 rfl) ?_
  refine lv_if_ge (tgt := 6) hx hb dX7_letter_1 (by decide) (fun c1 => ?_) (fun c1 => ?_)
  · have h := it_p h c1
    refine lv_aload_n hx hb dX7_letter_6 rfl (lv_at hl 0 rfl) ?_
    obtain ⟨q2, hq2, h⟩ := bi_el h
    refine zcVv (As := []) cx hI (c_RS_writeNote N hq2) mt_yX7_writeNote mv_yX7_writeNote w_682 (by omega) (k7_0 rfl) (zv7 rfl) rfl hl.1 rfl (Nat.le_of_ble_eq_true rfl) dX7_letter_7 (fun H locs hI => ?_)
    refine lv_iload_n hx hb dX7_letter_10 rfl (lv_at hl 1 rfl) ?_
    refine lv_aload_n hx hb dX7_letter_11 rfl (lv_at hl 0 rfl) ?_
    refine g7_7 cx hI rfl rfl w_31 dX7_letter_12 ?_
    refine g0_1 cx hI rfl rfl w_681 dX7_letter_15 ?_
    refine lv_icmp_ge (tgt := 32) hx hb dX7_letter_18 (by decide) (fun c3 => ?_) (fun c3 => ?_)
    · have h := it_p h c3
      refine lv_bipush (v := (-4 : Int32)) hx hb dX7_letter_32 (by decide) ?_
      exact t_RS_letter_34 N  cx hret q2 (-4 : Int32) h hI (lv_sub hl [] rfl)
    · have h := it_n h c3
      refine lv_aload_n hx hb dX7_letter_21 rfl (lv_at hl 0 rfl) ?_
      refine g7_7 cx hI rfl rfl w_31 dX7_letter_22 ?_
      refine lv_iload_n hx hb dX7_letter_25 rfl (lv_at hl 1 rfl) ?_
      obtain ⟨q4, hq4, h⟩ := bi_el h
      refine zcVi (As := [.int a1]) cx hI (c_Le_at rfl rfl hq4) mt_yX0_at mv_yX0_at w_745 (by omega) (k0_0 rfl) (zv0 rfl) rfl hl.1 rfl (Nat.le_of_ble_eq_true rfl) dX7_letter_26 (fun H locs hI => ?_)
      refine lv_goto (tgt := 34) hx hb dX7_letter_29 (by decide) ?_
      exact t_RS_letter_34 N  cx hret q2 q4 h hI (lv_sub hl [] rfl)
  · have h := it_n h c1
    refine lv_iconst (v := (-1 : Int32)) hx hb dX7_letter_4 (by decide) ?_
    obtain rfl := Option.some.inj h
    exact hret _ _ _ _ dX7_letter_5 rfl hI
def f_RS_type_12  (μ : zM) : Option (Int32 × zM) :=
  some ((-1 : Int32), μ)
set_option maxHeartbeats 4000000 in
set_option maxRecDepth 100000 in
theorem t_RS_type_12  {p : Program} {l : Launch} {e : Env} {s : State} {m : MethodId} {args : Array Value} {below : List Frame} {meth : Method} {c : Code} {Q : State → Prop} {G : zG}  {out : (Int32 × zM)} (cx : zCX p (zrm 1) s m args c RX7 cX7_type 2 1 G) (hret : zRi p l e (zrm 1) s m args below meth c cX7_type G .int Q out.1 out.2)   : ∀ (μ : zM), f_RS_type_12 μ = some out → ∀ {H : Heap} {locs : List Loc} {ls : Array Slot}, zIW G s μ H locs → lv_has ls 2 [] → W p l e (zrm 1) s m args below meth c H locs 0 0 Q (F0 m 12 ls []) := by
  obtain ⟨hx, hb, hml, hown, hts, hK, hR⟩ := id cx
  intro μ  h H locs ls hI hl
  unfold f_RS_type_12 at h
  refine lv_iconst (v := (-1 : Int32)) hx hb dX7_type_12 (by decide) ?_
  obtain rfl := Option.some.inj h
  exact hret _ _ _ _ dX7_type_13 rfl hI
def f_RS_type_44  (μ : zM) (s0 : Int32) : Option (Int32 × zM) :=
  some (s0, μ)
set_option maxHeartbeats 4000000 in
set_option maxRecDepth 100000 in
theorem t_RS_type_44  {p : Program} {l : Launch} {e : Env} {s : State} {m : MethodId} {args : Array Value} {below : List Frame} {meth : Method} {c : Code} {Q : State → Prop} {G : zG}  {out : (Int32 × zM)} (cx : zCX p (zrm 1) s m args c RX7 cX7_type 2 1 G) (hret : zRi p l e (zrm 1) s m args below meth c cX7_type G .int Q out.1 out.2)   : ∀ (μ : zM) (s0 : Int32), f_RS_type_44 μ s0 = some out → ∀ {H : Heap} {locs : List Loc} {ls : Array Slot}, zIW G s μ H locs → lv_has ls 2 [] → W p l e (zrm 1) s m args below meth c H locs 0 0 Q (F0 m 44 ls [.int s0]) := by
  obtain ⟨hx, hb, hml, hown, hts, hK, hR⟩ := id cx
  intro μ s0  h H locs ls hI hl
  unfold f_RS_type_44 at h
  obtain rfl := Option.some.inj h
  exact hret _ _ _ _ dX7_type_44 rfl hI
def f_RS_type (μ : zM) (a1 : Int32) : Option (Int32 × zM) :=
  (if a1 < (nI 32) then f_RS_type_12 μ else (if a1 ≤ (nI 126) then (f_Le_add (zlen 19) (μ 19) ((a1.toUInt32 % 65536).toInt32)).bind (fun q3 => bnd (zset μ 19 q3.2) (fun μ4 => (if q3.1 = nI 0 then f_RS_type_44 μ4 (-3 : Int32) else f_RS_type_44 μ4 ((μ4 19).1 0 1)))) else f_RS_type_12 μ))
set_option maxHeartbeats 4000000 in
set_option maxRecDepth 100000 in
theorem c_RS_type {l : Launch} {G : zG} {μ : zM}  {a1 : Int32} {out : (Int32 × zM)} (h : f_RS_type μ a1 = some out) : zMI l G yX7_type cX7_type 2 (some .int) 1 [.ref (G.2.2.1 28 0), .int a1] μ out.1 out.2 := by
  refine zMI.of (by decide) (Nat.le_of_ble_eq_true rfl) (fun p e s m args below meth c Q ls cx hI hl hret => ?_)
  obtain ⟨hx, hb, hml, hown, hts, hK, hR⟩ := id cx
  have hl : lv_has ls 2 [(0, .ref (G.2.2.1 28 0)), (1, .int a1)] := hl
  unfold f_RS_type at h
  refine lv_iload_n hx hb dX7_type_0 rfl (lv_at hl 1 rfl) ?_
  refine lv_bipush (v := (nI 32)) hx hb dX7_type_1 (by decide) ?_
  refine lv_icmp_lt (tgt := 12) hx hb dX7_type_3 (by decide) (fun c1 => ?_) (fun c1 => ?_)
  · have h := it_p h c1
    exact t_RS_type_12  cx hret μ h hI (lv_sub hl [] rfl)
  · have h := it_n h c1
    refine lv_iload_n hx hb dX7_type_6 rfl (lv_at hl 1 rfl) ?_
    refine lv_bipush (v := (nI 126)) hx hb dX7_type_7 (by decide) ?_
    refine lv_icmp_le (tgt := 14) hx hb dX7_type_9 (by decide) (fun c2 => ?_) (fun c2 => ?_)
    · have h := it_p h c2
      refine lv_aload_n hx hb dX7_type_14 rfl (lv_at hl 0 rfl) ?_
      refine g7_6 cx hI rfl rfl w_27 dX7_type_15 ?_
      refine g1_0 cx hI rfl rfl w_770 dX7_type_18 ?_
      refine lv_iload_n hx hb dX7_type_21 rfl (lv_at hl 1 rfl) ?_
      refine lv_i2c hx hb dX7_type_22 rfl ?_
      obtain ⟨q3, hq3, h⟩ := bi_el h
      obtain ⟨μ4, eμ4⟩ : ∃ z : zM, z = zset μ 19 q3.2 := ⟨_, rfl⟩
      have h := bnd_el h eμ4
      refine zcVi (As := [.int ((a1.toUInt32 % 65536).toInt32)]) cx hI (c_Le_add rfl rfl hq3 eμ4.symm) mt_yX0_add mv_yX0_add w_735 (by omega) (k0_0 rfl) (zv0 rfl) rfl hl.1 rfl (Nat.le_of_ble_eq_true rfl) dX7_type_23 (fun H locs hI => ?_)
      refine lv_if_eq (tgt := 42) hx hb dX7_type_26 (by decide) (fun c5 => ?_) (fun c5 => ?_)
      · have h := it_p h c5
        refine lv_bipush (v := (-3 : Int32)) hx hb dX7_type_42 (by decide) ?_
        exact t_RS_type_44  cx hret μ4 (-3 : Int32) h hI (lv_sub hl [] rfl)
      · have h := it_n h c5
        refine lv_aload_n hx hb dX7_type_29 rfl (lv_at hl 0 rfl) ?_
        refine g7_6 cx hI rfl rfl w_27 dX7_type_30 ?_
        refine g1_0 cx hI rfl rfl w_770 dX7_type_33 ?_
        refine g0_1 cx hI rfl rfl w_681 dX7_type_36 ?_
        refine lv_goto (tgt := 44) hx hb dX7_type_39 (by decide) ?_
        exact t_RS_type_44  cx hret μ4 ((μ4 19).1 0 1) h hI (lv_sub hl [] rfl)
    · have h := it_n h c2
      exact t_RS_type_12  cx hret μ h hI (lv_sub hl [] rfl)
def f_RS_read (N : Nat) (μ : zM) : Option (Int32 × zM) :=
  (f_Pa_parses N μ).bind (fun q1 => bnd q1.1 (fun v2 => bnd (zset q1.2 19 (zI (q1.2 19) 0 1 (nI 0))) (fun μ3 => (if v2 = nI 0 then some ((-20 : Int32) - ((μ3 20).1 0 2), μ3) else (f_Pt_keep N μ3 16 0).bind (fun q5 => (f_St_takeFrom (q5 0) (q5 3)).bind (fun q6 => bnd (zset q5 0 q6) (fun μ7 => some ((μ7 0).1 0 3, μ7))))))))
set_option maxHeartbeats 4000000 in
set_option maxRecDepth 100000 in
theorem c_RS_read (N : Nat) {l : Launch} {G : zG} {μ : zM}   {out : (Int32 × zM)} (h : f_RS_read N μ  = some out) : zMI l G yX7_read cX7_read 2 (some .int) 7 [.ref (G.2.2.1 28 0)] μ out.1 out.2 := by
  refine zMI.of (by decide) (Nat.le_of_ble_eq_true rfl) (fun p e s m args below meth c Q ls cx hI hl hret => ?_)
  obtain ⟨hx, hb, hml, hown, hts, hK, hR⟩ := id cx
  have hl : lv_has ls 2 [(0, .ref (G.2.2.1 28 0))] := hl
  unfold f_RS_read at h
  refine lv_aload_n hx hb dX7_read_0 rfl (lv_at hl 0 rfl) ?_
  refine g7_6 cx hI rfl rfl w_27 dX7_read_1 ?_
  refine lv_aload_n hx hb dX7_read_4 rfl (lv_at hl 0 rfl) ?_
  refine g7_0 cx hI rfl rfl w_16 dX7_read_5 ?_
  obtain ⟨q1, hq1, h⟩ := bi_el h
  refine zcVi (As := [.ref (G.2.2.1 0 0)]) cx hI (c_Pa_parses N hq1) mt_yX1_parses mv_yX1_parses w_784 (by omega) (k1_0 rfl) (zv1 rfl) rfl hl.1 rfl (Nat.le_of_ble_eq_true rfl) dX7_read_8 (fun H locs hI => ?_)
  refine lv_topi (fun v2 ev2 => ?_)
  have h := bnd_el h ev2
  refine lv_istore_n (lv' := [(1, .int v2), (0, .ref (G.2.2.1 28 0))]) hx hb dX7_read_11 rfl hl (by decide) rfl (fun ls hl => ?_)
  refine lv_aload_n hx hb dX7_read_12 rfl (lv_at hl 1 rfl) ?_
  refine g7_6 cx hI rfl rfl w_27 dX7_read_13 ?_
  refine g1_0 cx hI rfl rfl w_770 dX7_read_16 ?_
  refine lv_iconst (v := (nI 0)) hx hb dX7_read_19 (by decide) ?_
  obtain ⟨μ3, eμ3⟩ : ∃ z : zM, z = zset q1.2 19 (zI (q1.2 19) 0 1 (nI 0)) := ⟨_, rfl⟩
  have h := bnd_el h eμ3
  refine p0_1 cx hI rfl rfl w_681 eμ3.symm dX7_read_20 (fun H locs hI => ?_)
  refine lv_iload_n hx hb dX7_read_23 rfl (lv_at hl 0 rfl) ?_
  refine lv_if_ne (tgt := 38) hx hb dX7_read_24 (by decide) (fun c4 => ?_) (fun c4 => ?_)
  · have h := it_n h c4
    refine lv_aload_n hx hb dX7_read_38 rfl (lv_at hl 1 rfl) ?_
    refine g7_2 cx hI rfl rfl w_21 dX7_read_39 ?_
    refine lv_aload_n hx hb dX7_read_42 rfl (lv_at hl 1 rfl) ?_
    refine g7_0 cx hI rfl rfl w_16 dX7_read_43 ?_
    obtain ⟨q5, hq5, h⟩ := bi_el h
    refine zcVv (As := [.ref (G.2.2.1 0 0)]) cx hI (c_Pt_keep N rfl rfl hq5) mt_yX2_keep mv_yX2_keep w_153 (by omega) (k2_0 rfl) (zv2 rfl) rfl hl.1 rfl (Nat.le_of_ble_eq_true rfl) dX7_read_46 (fun H locs hI => ?_)
    refine lv_aload_n hx hb dX7_read_49 rfl (lv_at hl 1 rfl) ?_
    refine g7_0 cx hI rfl rfl w_16 dX7_read_50 ?_
    refine lv_aload_n hx hb dX7_read_53 rfl (lv_at hl 1 rfl) ?_
    refine g7_6 cx hI rfl rfl w_27 dX7_read_54 ?_
    refine g1_1 cx hI rfl rfl w_783 dX7_read_57 ?_
    obtain ⟨q6, hq6, h⟩ := bi_el h
    obtain ⟨μ7, eμ7⟩ : ∃ z : zM, z = zset q5 0 q6 := ⟨_, rfl⟩
    have h := bnd_el h eμ7
    refine zcVv (As := [.ref (G.2.2.1 3 0)]) cx hI (c_St_takeFrom rfl rfl rfl rfl (by decide) hq6 eμ7.symm) mt_yX6_takeFrom mv_yX6_takeFrom w_131 (by omega) (k6_0 rfl) (zv6 rfl) rfl hl.1 rfl (Nat.le_of_ble_eq_true rfl) dX7_read_60 (fun H locs hI => ?_)
    refine lv_aload_n hx hb dX7_read_63 rfl (lv_at hl 1 rfl) ?_
    refine g7_0 cx hI rfl rfl w_16 dX7_read_64 ?_
    refine g6_3 cx hI rfl rfl w_349 dX7_read_67 ?_
    obtain rfl := Option.some.inj h
    exact hret _ _ _ _ dX7_read_70 rfl hI
  · have h := it_p h c4
    refine lv_bipush (v := (-20 : Int32)) hx hb dX7_read_27 (by decide) ?_
    refine lv_aload_n hx hb dX7_read_29 rfl (lv_at hl 1 rfl) ?_
    refine g7_6 cx hI rfl rfl w_27 dX7_read_30 ?_
    refine g1_2 cx hI rfl rfl w_782 dX7_read_33 ?_
    refine lv_isub hx hb dX7_read_36 ?_
    obtain rfl := Option.some.inj h
    exact hret _ _ _ _ dX7_read_37 rfl hI
def f_RS_takeTurn_192 (N : Nat)  (μ : zM) : Option zM :=
  some μ
set_option maxHeartbeats 4000000 in
set_option maxRecDepth 100000 in
theorem t_RS_takeTurn_192 (N : Nat) {p : Program} {l : Launch} {e : Env} {s : State} {m : MethodId} {args : Array Value} {below : List Frame} {meth : Method} {c : Code} {Q : State → Prop} {G : zG}  {out : zM} (cx : zCX p (zrm 3) s m args c RX7 cX7_takeTurn 5 3 G) (hret : zRv p l e (zrm 3) s m args below meth c cX7_takeTurn G Q out)   : ∀ (μ : zM), f_RS_takeTurn_192 N μ = some out → ∀ {H : Heap} {locs : List Loc} {ls : Array Slot}, zIW G s μ H locs → lv_has ls 5 [] → W p l e (zrm 3) s m args below meth c H locs 0 0 Q (F0 m 192 ls []) := by
  obtain ⟨hx, hb, hml, hown, hts, hK, hR⟩ := id cx
  intro μ  h H locs ls hI hl
  unfold f_RS_takeTurn_192 at h
  obtain rfl := Option.some.inj h
  exact hret _ _ _ _ dX7_takeTurn_192 hI
def f_RS_takeTurn_104 (N : Nat)  (μ : zM) (x2 : Int32) : Option zM :=
  (f_St_addBook (μ 0) x2).bind (fun q10 => bnd (zset μ 0 q10.2) (fun μ11 => f_RS_takeTurn_192 N μ11))
set_option maxHeartbeats 4000000 in
set_option maxRecDepth 100000 in
theorem t_RS_takeTurn_104 (N : Nat) {p : Program} {l : Launch} {e : Env} {s : State} {m : MethodId} {args : Array Value} {below : List Frame} {meth : Method} {c : Code} {Q : State → Prop} {G : zG}  {out : zM} (cx : zCX p (zrm 3) s m args c RX7 cX7_takeTurn 5 3 G) (hret : zRv p l e (zrm 3) s m args below meth c cX7_takeTurn G Q out)   : ∀ (μ : zM) (x2 : Int32), f_RS_takeTurn_104 N μ x2 = some out → ∀ {H : Heap} {locs : List Loc} {ls : Array Slot}, zIW G s μ H locs → lv_has ls 5 [(0, .ref (G.2.2.1 28 0)), (2, .int x2)] → W p l e (zrm 3) s m args below meth c H locs 0 0 Q (F0 m 104 ls []) := by
  obtain ⟨hx, hb, hml, hown, hts, hK, hR⟩ := id cx
  intro μ x2  h H locs ls hI hl
  unfold f_RS_takeTurn_104 at h
  refine lv_aload_n hx hb dX7_takeTurn_104 rfl (lv_at hl 0 rfl) ?_
  refine g7_0 cx hI rfl rfl w_16 dX7_takeTurn_105 ?_
  refine lv_iload_n hx hb dX7_takeTurn_108 rfl (lv_at hl 1 rfl) ?_
  obtain ⟨q10, hq10, h⟩ := bi_el h
  obtain ⟨μ11, eμ11⟩ : ∃ z : zM, z = zset μ 0 q10.2 := ⟨_, rfl⟩
  have h := bnd_el h eμ11
  refine zcVi (As := [.int x2]) cx hI (c_St_addBook rfl rfl hq10 eμ11.symm) mt_yX6_addBook mv_yX6_addBook w_141 (by omega) (k6_0 rfl) (zv6 rfl) rfl hl.1 rfl (Nat.le_of_ble_eq_true rfl) dX7_takeTurn_109 (fun H locs hI => ?_)
  refine lv_pop hx hb dX7_takeTurn_112 rfl ?_
  refine lv_goto (tgt := 192) hx hb dX7_takeTurn_113 (by decide) ?_
  exact t_RS_takeTurn_192 N  cx hret μ11 h hI (lv_sub hl [] rfl)
def f_RS_takeTurn_143 (N : Nat)  (μ : zM) (x3 : Int32) (x4 : Int32) : Option zM :=
  (f_St_moveBook N (μ 0) x3 x4).bind (fun q20 => bnd (zset μ 0 q20.2) (fun μ21 => f_RS_takeTurn_192 N μ21))
set_option maxHeartbeats 4000000 in
set_option maxRecDepth 100000 in
theorem t_RS_takeTurn_143 (N : Nat) {p : Program} {l : Launch} {e : Env} {s : State} {m : MethodId} {args : Array Value} {below : List Frame} {meth : Method} {c : Code} {Q : State → Prop} {G : zG}  {out : zM} (cx : zCX p (zrm 3) s m args c RX7 cX7_takeTurn 5 3 G) (hret : zRv p l e (zrm 3) s m args below meth c cX7_takeTurn G Q out)   : ∀ (μ : zM) (x3 : Int32) (x4 : Int32), f_RS_takeTurn_143 N μ x3 x4 = some out → ∀ {H : Heap} {locs : List Loc} {ls : Array Slot}, zIW G s μ H locs → lv_has ls 5 [(0, .ref (G.2.2.1 28 0)), (3, .int x3), (4, .int x4)] → W p l e (zrm 3) s m args below meth c H locs 0 0 Q (F0 m 143 ls []) := by
  obtain ⟨hx, hb, hml, hown, hts, hK, hR⟩ := id cx
  intro μ x3 x4  h H locs ls hI hl
  unfold f_RS_takeTurn_143 at h
  refine lv_aload_n hx hb dX7_takeTurn_143 rfl (lv_at hl 0 rfl) ?_
  refine g7_0 cx hI rfl rfl w_16 dX7_takeTurn_144 ?_
  refine lv_iload_n hx hb dX7_takeTurn_147 rfl (lv_at hl 1 rfl) ?_
  refine lv_iload hx hb dX7_takeTurn_148 (lv_at hl 2 rfl) ?_
  obtain ⟨q20, hq20, h⟩ := bi_el h
  obtain ⟨μ21, eμ21⟩ : ∃ z : zM, z = zset μ 0 q20.2 := ⟨_, rfl⟩
  have h := bnd_el h eμ21
  refine zcVi (As := [.int x3, .int x4]) cx hI (c_St_moveBook N rfl rfl hq20 eμ21.symm) mt_yX6_moveBook mv_yX6_moveBook w_333 (by omega) (k6_0 rfl) (zv6 rfl) rfl hl.1 rfl (Nat.le_of_ble_eq_true rfl) dX7_takeTurn_150 (fun H locs hI => ?_)
  refine lv_pop hx hb dX7_takeTurn_153 rfl ?_
  refine lv_goto (tgt := 192) hx hb dX7_takeTurn_154 (by decide) ?_
  exact t_RS_takeTurn_192 N  cx hret μ21 h hI (lv_sub hl [] rfl)
def f_RS_takeTurn (N : Nat) (μ : zM) : Option zM :=
  (f_St_goOn (μ 0)).bind (fun q1 => bnd (zset μ 0 q1) (fun μ2 => bnd (((μ2 0).1 0 8) / (nI 65536)) (fun v3 => (f_St_goOn (μ2 0)).bind (fun q4 => bnd (zset μ2 0 q4) (fun μ5 => bnd ((((μ5 0).1 0 8) / (nI 2048)) - (((μ5 0).1 0 8) / (nI 2048)) / (nI 1048576) * (nI 1048576)) (fun v6 => bnd ((v3 / (nI 8)) - (v3 / (nI 8)) / (nI 7) * (nI 7)) (fun v7 => bnd ((v3 / (nI 64)) - (v3 / (nI 64)) / (nI 7) * (nI 7)) (fun v8 => (if (v3 - v3 / (nI 8) * (nI 8)) = (nI 0) then f_RS_takeTurn_104 N μ5 v6 else if (v3 - v3 / (nI 8) * (nI 8)) = (nI 1) then f_RS_takeTurn_104 N μ5 v6 else if (v3 - v3 / (nI 8) * (nI 8)) = (nI 2) then (f_St_changeWords (μ5 0) v7 v6).bind (fun q14 => bnd (zset μ5 0 q14.2) (fun μ15 => f_RS_takeTurn_192 N μ15)) else if (v3 - v3 / (nI 8) * (nI 8)) = (nI 3) then (f_St_turnAhead N (μ5 0) v7 v8).bind (fun q17 => bnd (zset μ5 0 q17.2) (fun μ18 => f_RS_takeTurn_192 N μ18)) else if (v3 - v3 / (nI 8) * (nI 8)) = (nI 4) then f_RS_takeTurn_143 N μ5 v7 v8 else if (v3 - v3 / (nI 8) * (nI 8)) = (nI 5) then f_RS_takeTurn_143 N μ5 v7 v8 else if (v3 - v3 / (nI 8) * (nI 8)) = (nI 6) then (f_St_changeRules (μ5 0) (nI 0) (((v3 / (nI 8)) - (v3 / (nI 8)) / (nI 4) * (nI 4)) + (nI 1))).bind (fun q24 => bnd (zset μ5 0 q24.2) (fun μ25 => f_RS_takeTurn_192 N μ25)) else (f_St_changeRules (μ5 0) (nI 2) ((v3 / (nI 8)) - (v3 / (nI 8)) / (nI 3) * (nI 3))).bind (fun q26 => bnd (zset μ5 0 q26.2) (fun μ27 => f_RS_takeTurn_192 N μ27)))))))))))
set_option maxHeartbeats 4000000 in
set_option maxRecDepth 100000 in
theorem c_RS_takeTurn (N : Nat) {l : Launch} {G : zG} {μ : zM}   {out : zM} (h : f_RS_takeTurn N μ  = some out) : zMV l G yX7_takeTurn cX7_takeTurn 5 none 3 [.ref (G.2.2.1 28 0)] μ out := by
  refine zMV.of (by decide) (Nat.le_of_ble_eq_true rfl) (fun p e s m args below meth c Q ls cx hI hl hret => ?_)
  obtain ⟨hx, hb, hml, hown, hts, hK, hR⟩ := id cx
  have hl : lv_has ls 5 [(0, .ref (G.2.2.1 28 0))] := hl
  unfold f_RS_takeTurn at h
  refine lv_aload_n hx hb dX7_takeTurn_0 rfl (lv_at hl 0 rfl) ?_
  refine g7_0 cx hI rfl rfl w_16 dX7_takeTurn_1 ?_
  obtain ⟨q1, hq1, h⟩ := bi_el h
  obtain ⟨μ2, eμ2⟩ : ∃ z : zM, z = zset μ 0 q1 := ⟨_, rfl⟩
  have h := bnd_el h eμ2
  refine zcVv (As := []) cx hI (c_St_goOn rfl rfl hq1 eμ2.symm) mt_yX6_goOn mv_yX6_goOn w_906 (by omega) (k6_0 rfl) (zv6 rfl) rfl hl.1 rfl (Nat.le_of_ble_eq_true rfl) dX7_takeTurn_4 (fun H locs hI => ?_)
  refine lv_aload_n hx hb dX7_takeTurn_7 rfl (lv_at hl 0 rfl) ?_
  refine g7_0 cx hI rfl rfl w_16 dX7_takeTurn_8 ?_
  refine g6_8 cx hI rfl rfl w_903 dX7_takeTurn_11 ?_
  refine lv_ldcw (v := (nI 65536)) hx hb hown (hts _ w_904) dX7_takeTurn_14 ?_
  refine lv_idiv hx hb dX7_takeTurn_17 (by decide) ?_
  refine lv_topi (fun v3 ev3 => ?_)
  have h := bnd_el h ev3
  refine lv_istore_n (lv' := [(1, .int v3), (0, .ref (G.2.2.1 28 0))]) hx hb dX7_takeTurn_18 rfl hl (by decide) rfl (fun ls hl => ?_)
  refine lv_aload_n hx hb dX7_takeTurn_19 rfl (lv_at hl 1 rfl) ?_
  refine g7_0 cx hI rfl rfl w_16 dX7_takeTurn_20 ?_
  obtain ⟨q4, hq4, h⟩ := bi_el h
  obtain ⟨μ5, eμ5⟩ : ∃ z : zM, z = zset μ2 0 q4 := ⟨_, rfl⟩
  have h := bnd_el h eμ5
  refine zcVv (As := []) cx hI (c_St_goOn rfl rfl hq4 eμ5.symm) mt_yX6_goOn mv_yX6_goOn w_906 (by omega) (k6_0 rfl) (zv6 rfl) rfl hl.1 rfl (Nat.le_of_ble_eq_true rfl) dX7_takeTurn_23 (fun H locs hI => ?_)
  refine lv_aload_n hx hb dX7_takeTurn_26 rfl (lv_at hl 1 rfl) ?_
  refine g7_0 cx hI rfl rfl w_16 dX7_takeTurn_27 ?_
  refine g6_8 cx hI rfl rfl w_903 dX7_takeTurn_30 ?_
  refine lv_sipush (v := (nI 2048)) hx hb dX7_takeTurn_33 (by decide) ?_
  refine lv_idiv hx hb dX7_takeTurn_36 (by decide) ?_
  refine lv_ldcw (v := (nI 1048576)) hx hb hown (hts _ w_905) dX7_takeTurn_37 ?_
  refine lv_irem hx hb dX7_takeTurn_40 (by decide) ?_
  refine lv_topi (fun v6 ev6 => ?_)
  have h := bnd_el h ev6
  refine lv_istore_n (lv' := [(2, .int v6), (1, .int v3), (0, .ref (G.2.2.1 28 0))]) hx hb dX7_takeTurn_41 rfl hl (by decide) rfl (fun ls hl => ?_)
  refine lv_iload_n hx hb dX7_takeTurn_42 rfl (lv_at hl 1 rfl) ?_
  refine lv_bipush (v := (nI 8)) hx hb dX7_takeTurn_43 (by decide) ?_
  refine lv_idiv hx hb dX7_takeTurn_45 (by decide) ?_
  refine lv_bipush (v := (nI 7)) hx hb dX7_takeTurn_46 (by decide) ?_
  refine lv_irem hx hb dX7_takeTurn_48 (by decide) ?_
  refine lv_topi (fun v7 ev7 => ?_)
  have h := bnd_el h ev7
  refine lv_istore_n (lv' := [(3, .int v7), (2, .int v6), (1, .int v3), (0, .ref (G.2.2.1 28 0))]) hx hb dX7_takeTurn_49 rfl hl (by decide) rfl (fun ls hl => ?_)
  refine lv_iload_n hx hb dX7_takeTurn_50 rfl (lv_at hl 2 rfl) ?_
  refine lv_bipush (v := (nI 64)) hx hb dX7_takeTurn_51 (by decide) ?_
  refine lv_idiv hx hb dX7_takeTurn_53 (by decide) ?_
  refine lv_bipush (v := (nI 7)) hx hb dX7_takeTurn_54 (by decide) ?_
  refine lv_irem hx hb dX7_takeTurn_56 (by decide) ?_
  refine lv_topi (fun v8 ev8 => ?_)
  have h := bnd_el h ev8
  refine lv_istore (lv' := [(4, .int v8), (3, .int v7), (2, .int v6), (1, .int v3), (0, .ref (G.2.2.1 28 0))]) hx hb dX7_takeTurn_57 hl (by decide) rfl (fun ls hl => ?_)
  refine lv_iload_n hx hb dX7_takeTurn_59 rfl (lv_at hl 3 rfl) ?_
  refine lv_bipush (v := (nI 8)) hx hb dX7_takeTurn_60 (by decide) ?_
  refine lv_irem hx hb dX7_takeTurn_62 (by decide) ?_
  by_cases c9 : (v3 - v3 / (nI 8) * (nI 8)) = (nI 0)
  · have h := it_p h c9
    refine lv_tableIn (off := 41) (tgt := 104) hx hb dX7_takeTurn_63 (by rw [c9]; decide) (by rw [c9]; decide) (by rw [c9]; rfl) (by decide) ?_
    exact t_RS_takeTurn_104 N  cx hret μ5 v6 h hI (lv_sub hl [4, 2] rfl)
  · have h := it_n h c9
    by_cases c12 : (v3 - v3 / (nI 8) * (nI 8)) = (nI 1)
    · have h := it_p h c12
      refine lv_tableIn (off := 41) (tgt := 104) hx hb dX7_takeTurn_63 (by rw [c12]; decide) (by rw [c12]; decide) (by rw [c12]; rfl) (by decide) ?_
      exact t_RS_takeTurn_104 N  cx hret μ5 v6 h hI (lv_sub hl [4, 2] rfl)
    · have h := it_n h c12
      by_cases c13 : (v3 - v3 / (nI 8) * (nI 8)) = (nI 2)
      · have h := it_p h c13
        refine lv_tableIn (off := 53) (tgt := 116) hx hb dX7_takeTurn_63 (by rw [c13]; decide) (by rw [c13]; decide) (by rw [c13]; rfl) (by decide) ?_
        refine lv_aload_n hx hb dX7_takeTurn_116 rfl (lv_at hl 4 rfl) ?_
        refine g7_0 cx hI rfl rfl w_16 dX7_takeTurn_117 ?_
        refine lv_iload_n hx hb dX7_takeTurn_120 rfl (lv_at hl 1 rfl) ?_
        refine lv_iload_n hx hb dX7_takeTurn_121 rfl (lv_at hl 2 rfl) ?_
        obtain ⟨q14, hq14, h⟩ := bi_el h
        obtain ⟨μ15, eμ15⟩ : ∃ z : zM, z = zset μ5 0 q14.2 := ⟨_, rfl⟩
        have h := bnd_el h eμ15
        refine zcVi (As := [.int v7, .int v6]) cx hI (c_St_changeWords rfl rfl hq14 eμ15.symm) mt_yX6_changeWords mv_yX6_changeWords w_195 (by omega) (k6_0 rfl) (zv6 rfl) rfl hl.1 rfl (Nat.le_of_ble_eq_true rfl) dX7_takeTurn_122 (fun H locs hI => ?_)
        refine lv_pop hx hb dX7_takeTurn_125 rfl ?_
        refine lv_goto (tgt := 192) hx hb dX7_takeTurn_126 (by decide) ?_
        exact t_RS_takeTurn_192 N  cx hret μ15 h hI (lv_sub hl [] rfl)
      · have h := it_n h c13
        by_cases c16 : (v3 - v3 / (nI 8) * (nI 8)) = (nI 3)
        · have h := it_p h c16
          refine lv_tableIn (off := 66) (tgt := 129) hx hb dX7_takeTurn_63 (by rw [c16]; decide) (by rw [c16]; decide) (by rw [c16]; rfl) (by decide) ?_
          refine lv_aload_n hx hb dX7_takeTurn_129 rfl (lv_at hl 4 rfl) ?_
          refine g7_0 cx hI rfl rfl w_16 dX7_takeTurn_130 ?_
          refine lv_iload_n hx hb dX7_takeTurn_133 rfl (lv_at hl 1 rfl) ?_
          refine lv_iload hx hb dX7_takeTurn_134 (lv_at hl 0 rfl) ?_
          obtain ⟨q17, hq17, h⟩ := bi_el h
          obtain ⟨μ18, eμ18⟩ : ∃ z : zM, z = zset μ5 0 q17.2 := ⟨_, rfl⟩
          have h := bnd_el h eμ18
          refine zcVi (As := [.int v7, .int v8]) cx hI (c_St_turnAhead N rfl rfl hq17 eμ18.symm) mt_yX6_turnAhead mv_yX6_turnAhead w_257 (by omega) (k6_0 rfl) (zv6 rfl) rfl hl.1 rfl (Nat.le_of_ble_eq_true rfl) dX7_takeTurn_136 (fun H locs hI => ?_)
          refine lv_pop hx hb dX7_takeTurn_139 rfl ?_
          refine lv_goto (tgt := 192) hx hb dX7_takeTurn_140 (by decide) ?_
          exact t_RS_takeTurn_192 N  cx hret μ18 h hI (lv_sub hl [] rfl)
        · have h := it_n h c16
          by_cases c19 : (v3 - v3 / (nI 8) * (nI 8)) = (nI 4)
          · have h := it_p h c19
            refine lv_tableIn (off := 80) (tgt := 143) hx hb dX7_takeTurn_63 (by rw [c19]; decide) (by rw [c19]; decide) (by rw [c19]; rfl) (by decide) ?_
            exact t_RS_takeTurn_143 N  cx hret μ5 v7 v8 h hI (lv_sub hl [4, 1, 0] rfl)
          · have h := it_n h c19
            by_cases c22 : (v3 - v3 / (nI 8) * (nI 8)) = (nI 5)
            · have h := it_p h c22
              refine lv_tableIn (off := 80) (tgt := 143) hx hb dX7_takeTurn_63 (by rw [c22]; decide) (by rw [c22]; decide) (by rw [c22]; rfl) (by decide) ?_
              exact t_RS_takeTurn_143 N  cx hret μ5 v7 v8 h hI (lv_sub hl [4, 1, 0] rfl)
            · have h := it_n h c22
              by_cases c23 : (v3 - v3 / (nI 8) * (nI 8)) = (nI 6)
              · have h := it_p h c23
                refine lv_tableIn (off := 94) (tgt := 157) hx hb dX7_takeTurn_63 (by rw [c23]; decide) (by rw [c23]; decide) (by rw [c23]; rfl) (by decide) ?_
                refine lv_aload_n hx hb dX7_takeTurn_157 rfl (lv_at hl 4 rfl) ?_
                refine g7_0 cx hI rfl rfl w_16 dX7_takeTurn_158 ?_
                refine lv_iconst (v := (nI 0)) hx hb dX7_takeTurn_161 (by decide) ?_
                refine lv_iload_n hx hb dX7_takeTurn_162 rfl (lv_at hl 3 rfl) ?_
                refine lv_bipush (v := (nI 8)) hx hb dX7_takeTurn_163 (by decide) ?_
                refine lv_idiv hx hb dX7_takeTurn_165 (by decide) ?_
                refine lv_iconst (v := (nI 4)) hx hb dX7_takeTurn_166 (by decide) ?_
                refine lv_irem hx hb dX7_takeTurn_167 (by decide) ?_
                refine lv_iconst (v := (nI 1)) hx hb dX7_takeTurn_168 (by decide) ?_
                refine lv_iadd hx hb dX7_takeTurn_169 ?_
                obtain ⟨q24, hq24, h⟩ := bi_el h
                obtain ⟨μ25, eμ25⟩ : ∃ z : zM, z = zset μ5 0 q24.2 := ⟨_, rfl⟩
                have h := bnd_el h eμ25
                refine zcVi (As := [.int (nI 0), .int (((v3 / (nI 8)) - (v3 / (nI 8)) / (nI 4) * (nI 4)) + (nI 1))]) cx hI (c_St_changeRules rfl rfl hq24 eμ25.symm) mt_yX6_changeRules mv_yX6_changeRules w_302 (by omega) (k6_0 rfl) (zv6 rfl) rfl hl.1 rfl (Nat.le_of_ble_eq_true rfl) dX7_takeTurn_170 (fun H locs hI => ?_)
                refine lv_pop hx hb dX7_takeTurn_173 rfl ?_
                refine lv_goto (tgt := 192) hx hb dX7_takeTurn_174 (by decide) ?_
                exact t_RS_takeTurn_192 N  cx hret μ25 h hI (lv_sub hl [] rfl)
              · have h := it_n h c23
                refine lv_tableOut (tgt := 177) hx hb dX7_takeTurn_63 (by have tc9 := tn c9 (i := 0) rfl; have tc12 := tn c12 (i := 1) rfl; have tc13 := tn c13 (i := 2) rfl; have tc16 := tn c16 (i := 3) rfl; have tc19 := tn c19 (i := 4) rfl; have tc22 := tn c22 (i := 5) rfl; have tc23 := tn c23 (i := 6) rfl; omega) (by decide) ?_
                refine lv_aload_n hx hb dX7_takeTurn_177 rfl (lv_at hl 4 rfl) ?_
                refine g7_0 cx hI rfl rfl w_16 dX7_takeTurn_178 ?_
                refine lv_iconst (v := (nI 2)) hx hb dX7_takeTurn_181 (by decide) ?_
                refine lv_iload_n hx hb dX7_takeTurn_182 rfl (lv_at hl 3 rfl) ?_
                refine lv_bipush (v := (nI 8)) hx hb dX7_takeTurn_183 (by decide) ?_
                refine lv_idiv hx hb dX7_takeTurn_185 (by decide) ?_
                refine lv_iconst (v := (nI 3)) hx hb dX7_takeTurn_186 (by decide) ?_
                refine lv_irem hx hb dX7_takeTurn_187 (by decide) ?_
                obtain ⟨q26, hq26, h⟩ := bi_el h
                obtain ⟨μ27, eμ27⟩ : ∃ z : zM, z = zset μ5 0 q26.2 := ⟨_, rfl⟩
                have h := bnd_el h eμ27
                refine zcVi (As := [.int (nI 2), .int ((v3 / (nI 8)) - (v3 / (nI 8)) / (nI 3) * (nI 3))]) cx hI (c_St_changeRules rfl rfl hq26 eμ27.symm) mt_yX6_changeRules mv_yX6_changeRules w_302 (by omega) (k6_0 rfl) (zv6 rfl) rfl hl.1 rfl (Nat.le_of_ble_eq_true rfl) dX7_takeTurn_188 (fun H locs hI => ?_)
                refine lv_pop hx hb dX7_takeTurn_191 rfl ?_
                exact t_RS_takeTurn_192 N  cx hret μ27 h hI (lv_sub hl [] rfl)
def f_RS_drift_11 (N : Nat)  (μ : zM) : Option (Int32 × zM) :=
  some ((-1 : Int32), μ)
set_option maxHeartbeats 4000000 in
set_option maxRecDepth 100000 in
theorem t_RS_drift_11 (N : Nat) {p : Program} {l : Launch} {e : Env} {s : State} {m : MethodId} {args : Array Value} {below : List Frame} {meth : Method} {c : Code} {Q : State → Prop} {G : zG}  {out : (Int32 × zM)} (cx : zCX p (zrm 4) s m args c RX7 cX7_drift 3 4 G) (hret : zRi p l e (zrm 4) s m args below meth c cX7_drift G .int Q out.1 out.2)   : ∀ (μ : zM), f_RS_drift_11 N μ = some out → ∀ {H : Heap} {locs : List Loc} {ls : Array Slot}, zIW G s μ H locs → lv_has ls 3 [] → W p l e (zrm 4) s m args below meth c H locs 0 0 Q (F0 m 11 ls []) := by
  obtain ⟨hx, hb, hml, hown, hts, hK, hR⟩ := id cx
  intro μ  h H locs ls hI hl
  unfold f_RS_drift_11 at h
  refine lv_iconst (v := (-1 : Int32)) hx hb dX7_drift_11 (by decide) ?_
  obtain rfl := Option.some.inj h
  exact hret _ _ _ _ dX7_drift_12 rfl hI
def f_RS_drift_15 (N : Nat)  : Nat → zM → Int32 → Int32 → Option (Int32 × zM)
  | 0, _, _, _ => none
  | n + 1, μ, x1, x2 => (if x1 ≤ x2 then some ((μ 0).1 0 3, μ) else (f_Pt_keep N μ 16 0).bind (fun q4 => (f_RS_takeTurn N q4).bind (fun q5 => bnd (x2 + (nI 1)) (fun v6 => f_RS_drift_15 N n q5 x1 v6))))
set_option maxHeartbeats 4000000 in
set_option maxRecDepth 100000 in
theorem t_RS_drift_15 (N : Nat) {p : Program} {l : Launch} {e : Env} {s : State} {m : MethodId} {args : Array Value} {below : List Frame} {meth : Method} {c : Code} {Q : State → Prop} {G : zG}  {out : (Int32 × zM)} (cx : zCX p (zrm 4) s m args c RX7 cX7_drift 3 4 G) (hret : zRi p l e (zrm 4) s m args below meth c cX7_drift G .int Q out.1 out.2)   : ∀ (n : Nat) (μ : zM) (x1 : Int32) (x2 : Int32), f_RS_drift_15 N n μ x1 x2 = some out → ∀ {H : Heap} {locs : List Loc} {ls : Array Slot}, zIW G s μ H locs → lv_has ls 3 [(0, .ref (G.2.2.1 28 0)), (1, .int x1), (2, .int x2)] → W p l e (zrm 4) s m args below meth c H locs 0 0 Q (F0 m 15 ls []) := by
  obtain ⟨hx, hb, hml, hown, hts, hK, hR⟩ := id cx
  intro n
  induction n with
  | zero =>
    intro μ x1 x2  h
    cases h
  | succ n ih =>
    intro μ x1 x2  h H locs ls hI hl
    rw [f_RS_drift_15] at h
    refine lv_iload_n hx hb dX7_drift_15 rfl (lv_at hl 2 rfl) ?_
    refine lv_iload_n hx hb dX7_drift_16 rfl (lv_at hl 1 rfl) ?_
    refine lv_icmp_ge (tgt := 41) hx hb dX7_drift_17 (by decide) (fun c3 => ?_) (fun c3 => ?_)
    · have h := it_p h c3
      refine lv_aload_n hx hb dX7_drift_41 rfl (lv_at hl 0 rfl) ?_
      refine g7_0 cx hI rfl rfl w_16 dX7_drift_42 ?_
      refine g6_3 cx hI rfl rfl w_349 dX7_drift_45 ?_
      obtain rfl := Option.some.inj h
      exact hret _ _ _ _ dX7_drift_48 rfl hI
    · have h := it_n h c3
      refine lv_aload_n hx hb dX7_drift_20 rfl (lv_at hl 0 rfl) ?_
      refine g7_2 cx hI rfl rfl w_21 dX7_drift_21 ?_
      refine lv_aload_n hx hb dX7_drift_24 rfl (lv_at hl 0 rfl) ?_
      refine g7_0 cx hI rfl rfl w_16 dX7_drift_25 ?_
      obtain ⟨q4, hq4, h⟩ := bi_el h
      refine zcVv (As := [.ref (G.2.2.1 0 0)]) cx hI (c_Pt_keep N rfl rfl hq4) mt_yX2_keep mv_yX2_keep w_153 (by omega) (k2_0 rfl) (zv2 rfl) rfl hl.1 rfl (Nat.le_of_ble_eq_true rfl) dX7_drift_28 (fun H locs hI => ?_)
      refine lv_aload_n hx hb dX7_drift_31 rfl (lv_at hl 0 rfl) ?_
      obtain ⟨q5, hq5, h⟩ := bi_el h
      refine zcVv (As := []) cx hI (c_RS_takeTurn N hq5) mt_yX7_takeTurn mv_yX7_takeTurn w_899 (by omega) (k7_0 rfl) (zv7 rfl) rfl hl.1 rfl (Nat.le_of_ble_eq_true rfl) dX7_drift_32 (fun H locs hI => ?_)
      obtain ⟨v6, ev6⟩ : ∃ z : Int32, z = x2 + (nI 1) := ⟨_, rfl⟩
      have h := bnd_el h ev6
      refine lv_iinc (v := v6) (lv' := [(2, .int v6), (0, .ref (G.2.2.1 28 0)), (1, .int x1)]) hx hb dX7_drift_35 hl (k := 2) rfl (by rw [ev6]; rfl) (by decide) rfl (fun ls hl => ?_)
      refine lv_goto (tgt := 15) hx hb dX7_drift_38 (by decide) ?_
      exact ih q5 x1 v6 h hI (lv_sub hl [1, 2, 0] rfl)
def f_RS_drift (N : Nat) (μ : zM) (a1 : Int32) : Option (Int32 × zM) :=
  (if a1 < (nI 1) then f_RS_drift_11 N μ else (if a1 ≤ (nI 40) then f_RS_drift_15 N N μ a1 (nI 0) else f_RS_drift_11 N μ))
set_option maxHeartbeats 4000000 in
set_option maxRecDepth 100000 in
theorem c_RS_drift (N : Nat) {l : Launch} {G : zG} {μ : zM}  {a1 : Int32} {out : (Int32 × zM)} (h : f_RS_drift N μ a1 = some out) : zMI l G yX7_drift cX7_drift 3 (some .int) 4 [.ref (G.2.2.1 28 0), .int a1] μ out.1 out.2 := by
  refine zMI.of (by decide) (Nat.le_of_ble_eq_true rfl) (fun p e s m args below meth c Q ls cx hI hl hret => ?_)
  obtain ⟨hx, hb, hml, hown, hts, hK, hR⟩ := id cx
  have hl : lv_has ls 3 [(0, .ref (G.2.2.1 28 0)), (1, .int a1)] := hl
  unfold f_RS_drift at h
  refine lv_iload_n hx hb dX7_drift_0 rfl (lv_at hl 1 rfl) ?_
  refine lv_iconst (v := (nI 1)) hx hb dX7_drift_1 (by decide) ?_
  refine lv_icmp_lt (tgt := 11) hx hb dX7_drift_2 (by decide) (fun c1 => ?_) (fun c1 => ?_)
  · have h := it_p h c1
    exact t_RS_drift_11 N  cx hret μ h hI (lv_sub hl [] rfl)
  · have h := it_n h c1
    refine lv_iload_n hx hb dX7_drift_5 rfl (lv_at hl 1 rfl) ?_
    refine lv_bipush (v := (nI 40)) hx hb dX7_drift_6 (by decide) ?_
    refine lv_icmp_le (tgt := 13) hx hb dX7_drift_8 (by decide) (fun c2 => ?_) (fun c2 => ?_)
    · have h := it_p h c2
      refine lv_iconst (v := (nI 0)) hx hb dX7_drift_13 (by decide) ?_
      refine lv_istore_n (lv' := [(2, .int (nI 0)), (0, .ref (G.2.2.1 28 0)), (1, .int a1)]) hx hb dX7_drift_14 rfl hl (by decide) rfl (fun ls hl => ?_)
      exact t_RS_drift_15 N  cx hret N μ a1 (nI 0) h hI (lv_sub hl [1, 2, 0] rfl)
    · have h := it_n h c2
      exact t_RS_drift_11 N  cx hret μ h hI (lv_sub hl [] rfl)
def f_RS_undo_26  (μ : zM) (s0 : Int32) : Option (Int32 × zM) :=
  some (s0, μ)
set_option maxHeartbeats 4000000 in
set_option maxRecDepth 100000 in
theorem t_RS_undo_26  {p : Program} {l : Launch} {e : Env} {s : State} {m : MethodId} {args : Array Value} {below : List Frame} {meth : Method} {c : Code} {Q : State → Prop} {G : zG}  {out : (Int32 × zM)} (cx : zCX p (zrm 3) s m args c RX7 cX7_undo 1 3 G) (hret : zRi p l e (zrm 3) s m args below meth c cX7_undo G .int Q out.1 out.2)   : ∀ (μ : zM) (s0 : Int32), f_RS_undo_26 μ s0 = some out → ∀ {H : Heap} {locs : List Loc} {ls : Array Slot}, zIW G s μ H locs → lv_has ls 1 [] → W p l e (zrm 3) s m args below meth c H locs 0 0 Q (F0 m 26 ls [.int s0]) := by
  obtain ⟨hx, hb, hml, hown, hts, hK, hR⟩ := id cx
  intro μ s0  h H locs ls hI hl
  unfold f_RS_undo_26 at h
  obtain rfl := Option.some.inj h
  exact hret _ _ _ _ dX7_undo_26 rfl hI
def f_RS_undo (μ : zM) : Option (Int32 × zM) :=
  (f_Pt_bringBack μ 16).bind (fun q1 => (if q1.1 = nI 0 then f_RS_undo_26 q1.2 (-4 : Int32) else f_RS_undo_26 q1.2 ((q1.2 16).1 0 1)))
set_option maxHeartbeats 4000000 in
set_option maxRecDepth 100000 in
theorem c_RS_undo {l : Launch} {G : zG} {μ : zM}   {out : (Int32 × zM)} (h : f_RS_undo μ  = some out) : zMI l G yX7_undo cX7_undo 1 (some .int) 3 [.ref (G.2.2.1 28 0)] μ out.1 out.2 := by
  refine zMI.of (by decide) (Nat.le_of_ble_eq_true rfl) (fun p e s m args below meth c Q ls cx hI hl hret => ?_)
  obtain ⟨hx, hb, hml, hown, hts, hK, hR⟩ := id cx
  have hl : lv_has ls 1 [(0, .ref (G.2.2.1 28 0))] := hl
  unfold f_RS_undo at h
  refine lv_aload_n hx hb dX7_undo_0 rfl (lv_at hl 0 rfl) ?_
  refine g7_2 cx hI rfl rfl w_21 dX7_undo_1 ?_
  refine lv_aload_n hx hb dX7_undo_4 rfl (lv_at hl 0 rfl) ?_
  refine g7_0 cx hI rfl rfl w_16 dX7_undo_5 ?_
  obtain ⟨q1, hq1, h⟩ := bi_el h
  refine zcVi (As := [.ref (G.2.2.1 0 0)]) cx hI (c_Pt_bringBack rfl hq1) mt_yX2_bringBack mv_yX2_bringBack w_935 (by omega) (k2_0 rfl) (zv2 rfl) rfl hl.1 rfl (Nat.le_of_ble_eq_true rfl) dX7_undo_8 (fun H locs hI => ?_)
  refine lv_if_eq (tgt := 24) hx hb dX7_undo_11 (by decide) (fun c2 => ?_) (fun c2 => ?_)
  · have h := it_p h c2
    refine lv_bipush (v := (-4 : Int32)) hx hb dX7_undo_24 (by decide) ?_
    exact t_RS_undo_26  cx hret q1.2 (-4 : Int32) h hI (lv_sub hl [] rfl)
  · have h := it_n h c2
    refine lv_aload_n hx hb dX7_undo_14 rfl (lv_at hl 0 rfl) ?_
    refine g7_2 cx hI rfl rfl w_21 dX7_undo_15 ?_
    refine g2_1 cx hI rfl rfl w_600 dX7_undo_18 ?_
    refine lv_goto (tgt := 26) hx hb dX7_undo_21 (by decide) ?_
    exact t_RS_undo_26  cx hret q1.2 ((q1.2 16).1 0 1) h hI (lv_sub hl [] rfl)
def f_RS_seed (μ : zM) (a1 : Int32) : Option (Int32 × zM) :=
  (if nI 0 ≤ a1 then bnd ((μ 0).1 0 8) (fun v2 => bnd (zset μ 0 (zI (μ 0) 0 8 a1)) (fun μ3 => some (v2, μ3))) else some ((-1 : Int32), μ))
set_option maxHeartbeats 4000000 in
set_option maxRecDepth 100000 in
theorem c_RS_seed {l : Launch} {G : zG} {μ : zM}  {a1 : Int32} {out : (Int32 × zM)} (h : f_RS_seed μ a1 = some out) : zMI l G yX7_seed cX7_seed 3 (some .int) 0 [.ref (G.2.2.1 28 0), .int a1] μ out.1 out.2 := by
  refine zMI.of (by decide) (Nat.le_of_ble_eq_true rfl) (fun p e s m args below meth c Q ls cx hI hl hret => ?_)
  obtain ⟨hx, hb, hml, hown, hts, hK, hR⟩ := id cx
  have hl : lv_has ls 3 [(0, .ref (G.2.2.1 28 0)), (1, .int a1)] := hl
  unfold f_RS_seed at h
  refine lv_iload_n hx hb dX7_seed_0 rfl (lv_at hl 1 rfl) ?_
  refine lv_if_ge (tgt := 6) hx hb dX7_seed_1 (by decide) (fun c1 => ?_) (fun c1 => ?_)
  · have h := it_p h c1
    refine lv_aload_n hx hb dX7_seed_6 rfl (lv_at hl 0 rfl) ?_
    refine g7_0 cx hI rfl rfl w_16 dX7_seed_7 ?_
    refine g6_8 cx hI rfl rfl w_903 dX7_seed_10 ?_
    refine lv_topi (fun v2 ev2 => ?_)
    have h := bnd_el h ev2
    refine lv_istore_n (lv' := [(2, .int v2), (0, .ref (G.2.2.1 28 0)), (1, .int a1)]) hx hb dX7_seed_13 rfl hl (by decide) rfl (fun ls hl => ?_)
    refine lv_aload_n hx hb dX7_seed_14 rfl (lv_at hl 1 rfl) ?_
    refine g7_0 cx hI rfl rfl w_16 dX7_seed_15 ?_
    refine lv_iload_n hx hb dX7_seed_18 rfl (lv_at hl 2 rfl) ?_
    obtain ⟨μ3, eμ3⟩ : ∃ z : zM, z = zset μ 0 (zI (μ 0) 0 8 a1) := ⟨_, rfl⟩
    have h := bnd_el h eμ3
    refine p6_8 cx hI rfl rfl w_903 eμ3.symm dX7_seed_19 (fun H locs hI => ?_)
    refine lv_iload_n hx hb dX7_seed_22 rfl (lv_at hl 0 rfl) ?_
    obtain rfl := Option.some.inj h
    exact hret _ _ _ _ dX7_seed_23 rfl hI
  · have h := it_n h c1
    refine lv_iconst (v := (-1 : Int32)) hx hb dX7_seed_4 (by decide) ?_
    obtain rfl := Option.some.inj h
    exact hret _ _ _ _ dX7_seed_5 rfl hI
def f_RS_image (N : Nat) (μ : zM) : Option (Int32 × zM) :=
  (f_St_takeFrom (μ 2) (μ 0)).bind (fun q1 => bnd (zset μ 2 q1) (fun μ2 => (f_Pt_takeFrom N μ2 17 16).bind (fun q3 => bnd (zset q3 28 (zI (q3 28) 0 5 (nI 1))) (fun μ4 => some ((nI 1), μ4)))))
set_option maxHeartbeats 4000000 in
set_option maxRecDepth 100000 in
theorem c_RS_image (N : Nat) {l : Launch} {G : zG} {μ : zM}   {out : (Int32 × zM)} (h : f_RS_image N μ  = some out) : zMI l G yX7_image cX7_image 1 (some .int) 3 [.ref (G.2.2.1 28 0)] μ out.1 out.2 := by
  refine zMI.of (by decide) (Nat.le_of_ble_eq_true rfl) (fun p e s m args below meth c Q ls cx hI hl hret => ?_)
  obtain ⟨hx, hb, hml, hown, hts, hK, hR⟩ := id cx
  have hl : lv_has ls 1 [(0, .ref (G.2.2.1 28 0))] := hl
  unfold f_RS_image at h
  refine lv_aload_n hx hb dX7_image_0 rfl (lv_at hl 0 rfl) ?_
  refine g7_3 cx hI rfl rfl w_22 dX7_image_1 ?_
  refine lv_aload_n hx hb dX7_image_4 rfl (lv_at hl 0 rfl) ?_
  refine g7_0 cx hI rfl rfl w_16 dX7_image_5 ?_
  obtain ⟨q1, hq1, h⟩ := bi_el h
  obtain ⟨μ2, eμ2⟩ : ∃ z : zM, z = zset μ 2 q1 := ⟨_, rfl⟩
  have h := bnd_el h eμ2
  refine zcVv (As := [.ref (G.2.2.1 0 0)]) cx hI (c_St_takeFrom rfl rfl rfl rfl (by decide) hq1 eμ2.symm) mt_yX6_takeFrom mv_yX6_takeFrom w_131 (by omega) (k6_0 rfl) (zv6 rfl) rfl hl.1 rfl (Nat.le_of_ble_eq_true rfl) dX7_image_8 (fun H locs hI => ?_)
  refine lv_aload_n hx hb dX7_image_11 rfl (lv_at hl 0 rfl) ?_
  refine g7_4 cx hI rfl rfl w_23 dX7_image_12 ?_
  refine lv_aload_n hx hb dX7_image_15 rfl (lv_at hl 0 rfl) ?_
  refine g7_2 cx hI rfl rfl w_21 dX7_image_16 ?_
  obtain ⟨q3, hq3, h⟩ := bi_el h
  refine zcVv (As := [.ref (G.2.2.1 16 0)]) cx hI (c_Pt_takeFrom N rfl rfl hq3) mt_yX2_takeFrom mv_yX2_takeFrom w_956 (by omega) (k2_0 rfl) (zv2 rfl) rfl hl.1 rfl (Nat.le_of_ble_eq_true rfl) dX7_image_19 (fun H locs hI => ?_)
  refine lv_aload_n hx hb dX7_image_22 rfl (lv_at hl 0 rfl) ?_
  refine lv_iconst (v := (nI 1)) hx hb dX7_image_23 (by decide) ?_
  obtain ⟨μ4, eμ4⟩ : ∃ z : zM, z = zset q3 28 (zI (q3 28) 0 5 (nI 1)) := ⟨_, rfl⟩
  have h := bnd_el h eμ4
  refine p7_5 cx hI rfl rfl (by decide) (by decide) w_955 eμ4.symm dX7_image_24 (fun H locs hI => ?_)
  refine lv_iconst (v := (nI 1)) hx hb dX7_image_27 (by decide) ?_
  obtain rfl := Option.some.inj h
  exact hret _ _ _ _ dX7_image_28 rfl hI
def f_RS_restore (N : Nat) (μ : zM) : Option (Int32 × zM) :=
  (if ((μ 28).1 0 5) = nI 0 then some ((-4 : Int32), μ) else (f_St_takeFrom (μ 0) (μ 2)).bind (fun q2 => bnd (zset μ 0 q2) (fun μ3 => (f_Pt_takeFrom N μ3 16 17).bind (fun q4 => some ((nI 1), q4)))))
set_option maxHeartbeats 4000000 in
set_option maxRecDepth 100000 in
theorem c_RS_restore (N : Nat) {l : Launch} {G : zG} {μ : zM}   {out : (Int32 × zM)} (h : f_RS_restore N μ  = some out) : zMI l G yX7_restore cX7_restore 1 (some .int) 3 [.ref (G.2.2.1 28 0)] μ out.1 out.2 := by
  refine zMI.of (by decide) (Nat.le_of_ble_eq_true rfl) (fun p e s m args below meth c Q ls cx hI hl hret => ?_)
  obtain ⟨hx, hb, hml, hown, hts, hK, hR⟩ := id cx
  have hl : lv_has ls 1 [(0, .ref (G.2.2.1 28 0))] := hl
  unfold f_RS_restore at h
  refine lv_aload_n hx hb dX7_restore_0 rfl (lv_at hl 0 rfl) ?_
  refine g7_5 cx hI rfl rfl w_955 dX7_restore_1 ?_
  refine lv_if_ne (tgt := 10) hx hb dX7_restore_4 (by decide) (fun c1 => ?_) (fun c1 => ?_)
  · have h := it_n h c1
    refine lv_aload_n hx hb dX7_restore_10 rfl (lv_at hl 0 rfl) ?_
    refine g7_0 cx hI rfl rfl w_16 dX7_restore_11 ?_
    refine lv_aload_n hx hb dX7_restore_14 rfl (lv_at hl 0 rfl) ?_
    refine g7_3 cx hI rfl rfl w_22 dX7_restore_15 ?_
    obtain ⟨q2, hq2, h⟩ := bi_el h
    obtain ⟨μ3, eμ3⟩ : ∃ z : zM, z = zset μ 0 q2 := ⟨_, rfl⟩
    have h := bnd_el h eμ3
    refine zcVv (As := [.ref (G.2.2.1 2 0)]) cx hI (c_St_takeFrom rfl rfl rfl rfl (by decide) hq2 eμ3.symm) mt_yX6_takeFrom mv_yX6_takeFrom w_131 (by omega) (k6_0 rfl) (zv6 rfl) rfl hl.1 rfl (Nat.le_of_ble_eq_true rfl) dX7_restore_18 (fun H locs hI => ?_)
    refine lv_aload_n hx hb dX7_restore_21 rfl (lv_at hl 0 rfl) ?_
    refine g7_2 cx hI rfl rfl w_21 dX7_restore_22 ?_
    refine lv_aload_n hx hb dX7_restore_25 rfl (lv_at hl 0 rfl) ?_
    refine g7_4 cx hI rfl rfl w_23 dX7_restore_26 ?_
    obtain ⟨q4, hq4, h⟩ := bi_el h
    refine zcVv (As := [.ref (G.2.2.1 17 0)]) cx hI (c_Pt_takeFrom N rfl rfl hq4) mt_yX2_takeFrom mv_yX2_takeFrom w_956 (by omega) (k2_0 rfl) (zv2 rfl) rfl hl.1 rfl (Nat.le_of_ble_eq_true rfl) dX7_restore_29 (fun H locs hI => ?_)
    refine lv_iconst (v := (nI 1)) hx hb dX7_restore_32 (by decide) ?_
    obtain rfl := Option.some.inj h
    exact hret _ _ _ _ dX7_restore_33 rfl hI
  · have h := it_p h c1
    refine lv_bipush (v := (-4 : Int32)) hx hb dX7_restore_7 (by decide) ?_
    obtain rfl := Option.some.inj h
    exact hret _ _ _ _ dX7_restore_9 rfl hI
def f_RS_faultOfRow_14 (μ : zM)   : Option Int32 :=
  some (-1 : Int32)
set_option maxHeartbeats 4000000 in
set_option maxRecDepth 100000 in
theorem t_RS_faultOfRow_14  {p : Program} {l : Launch} {e : Env} {s : State} {m : MethodId} {args : Array Value} {below : List Frame} {meth : Method} {c : Code} {Q : State → Prop} {G : zG} {μ : zM}  {out : Int32} (cx : zCX p (zrm 1) s m args c RX7 cX7_faultOfRow 5 1 G) (hret : zRi p l e (zrm 1) s m args below meth c cX7_faultOfRow G .int Q out μ)   : f_RS_faultOfRow_14 μ  = some out → ∀ {H : Heap} {locs : List Loc} {ls : Array Slot}, zIW G s μ H locs → lv_has ls 5 [] → W p l e (zrm 1) s m args below meth c H locs 0 0 Q (F0 m 14 ls []) := by
  obtain ⟨hx, hb, hml, hown, hts, hK, hR⟩ := id cx
  intro   h H locs ls hI hl
  unfold f_RS_faultOfRow_14 at h
  refine lv_iconst (v := (-1 : Int32)) hx hb dX7_faultOfRow_14 (by decide) ?_
  obtain rfl := Option.some.inj h
  exact hret _ _ _ _ dX7_faultOfRow_15 rfl hI
def f_RS_faultOfRow_69 (μ : zM)  (s0 : Int32) : Option Int32 :=
  some s0
set_option maxHeartbeats 4000000 in
set_option maxRecDepth 100000 in
theorem t_RS_faultOfRow_69  {p : Program} {l : Launch} {e : Env} {s : State} {m : MethodId} {args : Array Value} {below : List Frame} {meth : Method} {c : Code} {Q : State → Prop} {G : zG} {μ : zM}  {out : Int32} (cx : zCX p (zrm 1) s m args c RX7 cX7_faultOfRow 5 1 G) (hret : zRi p l e (zrm 1) s m args below meth c cX7_faultOfRow G .int Q out μ)   : ∀ (s0 : Int32), f_RS_faultOfRow_69 μ s0 = some out → ∀ {H : Heap} {locs : List Loc} {ls : Array Slot}, zIW G s μ H locs → lv_has ls 5 [] → W p l e (zrm 1) s m args below meth c H locs 0 0 Q (F0 m 69 ls [.int s0]) := by
  obtain ⟨hx, hb, hml, hown, hts, hK, hR⟩ := id cx
  intro s0  h H locs ls hI hl
  unfold f_RS_faultOfRow_69 at h
  obtain rfl := Option.some.inj h
  exact hret _ _ _ _ dX7_faultOfRow_69 rfl hI
def f_RS_faultOfRow (μ : zM) (a1 : Int32) (a2 : Int32) (a3 : Int32) (a4 : Int32) : Option Int32 :=
  (f_RS_isSheet a1).bind (fun q1 => (if q1 = nI 0 then f_RS_faultOfRow_14 μ else (f_RS_isLane a2).bind (fun q3 => (if q3 = nI 0 then f_RS_faultOfRow_14 μ else if zin a1 4 then (if ((μ (24 + a1.toNatClampNeg)).1 0 1) = (-1 : Int32) then some (-11 : Int32) else if zin a1 4 then (if ((μ (24 + a1.toNatClampNeg)).1 0 1) = a2 then if zin a1 4 then (f_Sh_has (μ (24 + a1.toNatClampNeg)) a3 a4).bind (fun q10 => (if q10 = nI 0 then f_RS_faultOfRow_69 μ (-13 : Int32) else f_RS_faultOfRow_69 μ (nI 0))) else none else some (-12 : Int32)) else none) else none))))
set_option maxHeartbeats 4000000 in
set_option maxRecDepth 100000 in
theorem c_RS_faultOfRow {l : Launch} {G : zG} {μ : zM}  {a1 : Int32} {a2 : Int32} {a3 : Int32} {a4 : Int32} {out : Int32} (h : f_RS_faultOfRow μ a1 a2 a3 a4 = some out) : zMI l G yX7_faultOfRow cX7_faultOfRow 5 (some .int) 1 [.ref (G.2.2.1 28 0), .int a1, .int a2, .int a3, .int a4] μ out μ := by
  refine zMI.of (by decide) (Nat.le_of_ble_eq_true rfl) (fun p e s m args below meth c Q ls cx hI hl hret => ?_)
  obtain ⟨hx, hb, hml, hown, hts, hK, hR⟩ := id cx
  have hl : lv_has ls 5 [(0, .ref (G.2.2.1 28 0)), (1, .int a1), (2, .int a2), (3, .int a3), (4, .int a4)] := hl
  unfold f_RS_faultOfRow at h
  refine lv_iload_n hx hb dX7_faultOfRow_0 rfl (lv_at hl 1 rfl) ?_
  obtain ⟨q1, hq1, h⟩ := bi_el h
  refine zcSi (As := [.int a1]) cx hI (c_RS_isSheet  hq1) mt_yX7_isSheet ms_yX7_isSheet w_983 (by omega) rfl hl.1 rfl (Nat.le_of_ble_eq_true rfl) dX7_faultOfRow_1 (fun H locs hI => ?_)
  refine lv_if_eq (tgt := 14) hx hb dX7_faultOfRow_4 (by decide) (fun c2 => ?_) (fun c2 => ?_)
  · have h := it_p h c2
    exact t_RS_faultOfRow_14  cx hret  h hI (lv_sub hl [] rfl)
  · have h := it_n h c2
    refine lv_iload_n hx hb dX7_faultOfRow_7 rfl (lv_at hl 2 rfl) ?_
    obtain ⟨q3, hq3, h⟩ := bi_el h
    refine zcSi (As := [.int a2]) cx hI (c_RS_isLane  hq3) mt_yX7_isLane ms_yX7_isLane w_986 (by omega) rfl hl.1 rfl (Nat.le_of_ble_eq_true rfl) dX7_faultOfRow_8 (fun H locs hI => ?_)
    refine lv_if_ne (tgt := 16) hx hb dX7_faultOfRow_11 (by decide) (fun c4 => ?_) (fun c4 => ?_)
    · have h := it_n h c4
      refine lv_aload_n hx hb dX7_faultOfRow_16 rfl (lv_at hl 0 rfl) ?_
      refine g7_10 cx hI rfl rfl w_41 dX7_faultOfRow_17 ?_
      refine lv_iload_n hx hb dX7_faultOfRow_20 rfl (lv_at hl 1 rfl) ?_
      obtain ⟨g5, h⟩ := gd_el h
      refine zr_aald (t0 := 4) (C := RX5) (f := fun i => G.2.2.1 (24 + i) 0) cx hI (k7_11 rfl) rfl (z7_11 rfl _) rfl rfl g5 dX7_faultOfRow_21 ?_
      refine g5_1 cx hI (zc_sheet (zin_lt g5)) rfl w_982 dX7_faultOfRow_22 ?_
      refine lv_iconst (v := (-1 : Int32)) hx hb dX7_faultOfRow_25 (by decide) ?_
      refine lv_icmp_ne (tgt := 32) hx hb dX7_faultOfRow_26 (by decide) (fun c6 => ?_) (fun c6 => ?_)
      · have h := it_n h c6
        refine lv_aload_n hx hb dX7_faultOfRow_32 rfl (lv_at hl 0 rfl) ?_
        refine g7_10 cx hI rfl rfl w_41 dX7_faultOfRow_33 ?_
        refine lv_iload_n hx hb dX7_faultOfRow_36 rfl (lv_at hl 1 rfl) ?_
        obtain ⟨g7, h⟩ := gd_el h
        refine zr_aald (t0 := 4) (C := RX5) (f := fun i => G.2.2.1 (24 + i) 0) cx hI (k7_11 rfl) rfl (z7_11 rfl _) rfl rfl g7 dX7_faultOfRow_37 ?_
        refine g5_1 cx hI (zc_sheet (zin_lt g7)) rfl w_982 dX7_faultOfRow_38 ?_
        refine lv_iload_n hx hb dX7_faultOfRow_41 rfl (lv_at hl 2 rfl) ?_
        refine lv_icmp_eq (tgt := 48) hx hb dX7_faultOfRow_42 (by decide) (fun c8 => ?_) (fun c8 => ?_)
        · have h := it_p h c8
          refine lv_aload_n hx hb dX7_faultOfRow_48 rfl (lv_at hl 0 rfl) ?_
          refine g7_10 cx hI rfl rfl w_41 dX7_faultOfRow_49 ?_
          refine lv_iload_n hx hb dX7_faultOfRow_52 rfl (lv_at hl 1 rfl) ?_
          obtain ⟨g9, h⟩ := gd_el h
          refine zr_aald (t0 := 4) (C := RX5) (f := fun i => G.2.2.1 (24 + i) 0) cx hI (k7_11 rfl) rfl (z7_11 rfl _) rfl rfl g9 dX7_faultOfRow_53 ?_
          refine lv_iload_n hx hb dX7_faultOfRow_54 rfl (lv_at hl 3 rfl) ?_
          refine lv_iload hx hb dX7_faultOfRow_55 (lv_at hl 4 rfl) ?_
          obtain ⟨q10, hq10, h⟩ := bi_el h
          refine zcVi (As := [.int a3, .int a4]) cx hI (c_Sh_has (zc_sheet (zin_lt g9)) rfl hq10) mt_yX5_has mv_yX5_has w_989 (by omega) (k5_0 (zc_sheet (zin_lt g9))) (zv5 (zc_sheet (zin_lt g9))) rfl hl.1 rfl (Nat.le_of_ble_eq_true rfl) dX7_faultOfRow_57 (fun H locs hI => ?_)
          refine lv_if_eq (tgt := 67) hx hb dX7_faultOfRow_60 (by decide) (fun c11 => ?_) (fun c11 => ?_)
          · have h := it_p h c11
            refine lv_bipush (v := (-13 : Int32)) hx hb dX7_faultOfRow_67 (by decide) ?_
            exact t_RS_faultOfRow_69  cx hret (-13 : Int32) h hI (lv_sub hl [] rfl)
          · have h := it_n h c11
            refine lv_iconst (v := (nI 0)) hx hb dX7_faultOfRow_63 (by decide) ?_
            refine lv_goto (tgt := 69) hx hb dX7_faultOfRow_64 (by decide) ?_
            exact t_RS_faultOfRow_69  cx hret (nI 0) h hI (lv_sub hl [] rfl)
        · have h := it_n h c8
          refine lv_bipush (v := (-12 : Int32)) hx hb dX7_faultOfRow_45 (by decide) ?_
          obtain rfl := Option.some.inj h
          exact hret _ _ _ _ dX7_faultOfRow_47 rfl hI
      · have h := it_p h c6
        refine lv_bipush (v := (-11 : Int32)) hx hb dX7_faultOfRow_29 (by decide) ?_
        obtain rfl := Option.some.inj h
        exact hret _ _ _ _ dX7_faultOfRow_31 rfl hI
    · have h := it_p h c4
      exact t_RS_faultOfRow_14  cx hret  h hI (lv_sub hl [] rfl)
def f_RS_seen_102 (N : Nat)  (μ : zM) : Option (Int32 × zM) :=
  some ((-2 : Int32), μ)
set_option maxHeartbeats 4000000 in
set_option maxRecDepth 100000 in
theorem t_RS_seen_102 (N : Nat) {p : Program} {l : Launch} {e : Env} {s : State} {m : MethodId} {args : Array Value} {below : List Frame} {meth : Method} {c : Code} {Q : State → Prop} {G : zG}  {out : (Int32 × zM)} (cx : zCX p (zrm 92) s m args c RX7 cX7_seen 8 92 G) (hret : zRi p l e (zrm 92) s m args below meth c cX7_seen G .int Q out.1 out.2)   : ∀ (μ : zM), f_RS_seen_102 N μ = some out → ∀ {H : Heap} {locs : List Loc} {ls : Array Slot}, zIW G s μ H locs → lv_has ls 8 [] → W p l e (zrm 92) s m args below meth c H locs 0 0 Q (F0 m 102 ls []) := by
  obtain ⟨hx, hb, hml, hown, hts, hK, hR⟩ := id cx
  intro μ  h H locs ls hI hl
  unfold f_RS_seen_102 at h
  refine lv_bipush (v := (-2 : Int32)) hx hb dX7_seen_102 (by decide) ?_
  obtain rfl := Option.some.inj h
  exact hret _ _ _ _ dX7_seen_104 rfl hI
def f_RS_seen_58 (N : Nat)  : Nat → zM → Int32 → Int32 → Int32 → Option (Int32 × zM)
  | 0, _, _, _, _ => none
  | n + 1, μ, x1, x3, x5 => (if ((μ 0).1 0 3) ≤ x5 then (f_Se_seek N μ).bind (fun q7 => some ((q7 23).1 0 9, q7)) else if zin x1 4 then if zin (x3 + x5) 24 then bnd ((μ (24 + x1.toNatClampNeg)).2.1 1 ((x3 + x5).toNatClampNeg)) (fun v10 => (if (lg_cmp v10 (0 : Int64)) < nI 0 then f_RS_seen_102 N μ else (if (lg_cmp v10 (20 : Int64)) ≤ nI 0 then (f_Se_wantFresh μ x5 v10.toInt32).bind (fun q13 => bnd (x5 + (nI 1)) (fun v14 => f_RS_seen_58 N n q13 x1 x3 v14)) else f_RS_seen_102 N μ))) else none else none)
set_option maxHeartbeats 4000000 in
set_option maxRecDepth 100000 in
theorem t_RS_seen_58 (N : Nat) {p : Program} {l : Launch} {e : Env} {s : State} {m : MethodId} {args : Array Value} {below : List Frame} {meth : Method} {c : Code} {Q : State → Prop} {G : zG}  {out : (Int32 × zM)} (cx : zCX p (zrm 92) s m args c RX7 cX7_seen 8 92 G) (hret : zRi p l e (zrm 92) s m args below meth c cX7_seen G .int Q out.1 out.2)   : ∀ (n : Nat) (μ : zM) (x1 : Int32) (x3 : Int32) (x5 : Int32), f_RS_seen_58 N n μ x1 x3 x5 = some out → ∀ {H : Heap} {locs : List Loc} {ls : Array Slot}, zIW G s μ H locs → lv_has ls 8 [(0, .ref (G.2.2.1 28 0)), (1, .int x1), (3, .int x3), (5, .int x5)] → W p l e (zrm 92) s m args below meth c H locs 0 0 Q (F0 m 58 ls []) := by
  obtain ⟨hx, hb, hml, hown, hts, hK, hR⟩ := id cx
  intro n
  induction n with
  | zero =>
    intro μ x1 x3 x5  h
    cases h
  | succ n ih =>
    intro μ x1 x3 x5  h H locs ls hI hl
    rw [f_RS_seen_58] at h
    refine lv_iload hx hb dX7_seen_58 (lv_at hl 3 rfl) ?_
    refine lv_aload_n hx hb dX7_seen_60 rfl (lv_at hl 0 rfl) ?_
    refine g7_0 cx hI rfl rfl w_16 dX7_seen_61 ?_
    refine g6_3 cx hI rfl rfl w_349 dX7_seen_64 ?_
    refine lv_icmp_ge (tgt := 123) hx hb dX7_seen_67 (by decide) (fun c6 => ?_) (fun c6 => ?_)
    · have h := it_p h c6
      refine lv_aload_n hx hb dX7_seen_123 rfl (lv_at hl 0 rfl) ?_
      refine g7_9 cx hI rfl rfl w_39 dX7_seen_124 ?_
      obtain ⟨q7, hq7, h⟩ := bi_el h
      refine zcVv (As := []) cx hI (c_Se_seek N hq7) mt_yX4_seek mv_yX4_seek w_634 (by omega) (k4_0 rfl) (zv4 rfl) rfl hl.1 rfl (Nat.le_of_ble_eq_true rfl) dX7_seen_127 (fun H locs hI => ?_)
      refine lv_aload_n hx hb dX7_seen_130 rfl (lv_at hl 0 rfl) ?_
      refine g7_9 cx hI rfl rfl w_39 dX7_seen_131 ?_
      refine g4_9 cx hI rfl rfl w_632 dX7_seen_134 ?_
      obtain rfl := Option.some.inj h
      exact hret _ _ _ _ dX7_seen_137 rfl hI
    · have h := it_n h c6
      refine lv_aload_n hx hb dX7_seen_70 rfl (lv_at hl 0 rfl) ?_
      refine g7_10 cx hI rfl rfl w_41 dX7_seen_71 ?_
      refine lv_iload_n hx hb dX7_seen_74 rfl (lv_at hl 1 rfl) ?_
      obtain ⟨g8, h⟩ := gd_el h
      refine zr_aald (t0 := 4) (C := RX5) (f := fun i => G.2.2.1 (24 + i) 0) cx hI (k7_11 rfl) rfl (z7_11 rfl _) rfl rfl g8 dX7_seen_75 ?_
      refine g5_0 cx hI (zc_sheet (zin_lt g8)) rfl w_976 dX7_seen_76 ?_
      refine lv_iload_n hx hb dX7_seen_79 rfl (lv_at hl 2 rfl) ?_
      refine lv_iload hx hb dX7_seen_80 (lv_at hl 3 rfl) ?_
      refine lv_iadd hx hb dX7_seen_82 ?_
      obtain ⟨g9, h⟩ := gd_el h
      refine zr_lald cx hI (k5_1 (zc_sheet (zin_lt g8))) rfl (z5_1 (zc_sheet (zin_lt g8))) rfl g9 dX7_seen_83 ?_
      refine lv_topl (fun v10 ev10 => ?_)
      have h := bnd_el h ev10
      refine lv_lstore (lv' := [(6, .long v10), (0, .ref (G.2.2.1 28 0)), (1, .int x1), (3, .int x3), (5, .int x5)]) hx hb dX7_seen_84 hl (by decide) rfl (fun ls hl => ?_)
      refine lv_lload hx hb dX7_seen_86 (lv_at hl 0 rfl) ?_
      refine lv_lconst (v := (0 : Int64)) hx hb dX7_seen_88 (by decide) ?_
      refine W.lcmp hx hb dX7_seen_89 ?_
      refine lv_if_lt (tgt := 102) hx hb dX7_seen_90 (by decide) (fun c11 => ?_) (fun c11 => ?_)
      · have h := it_p h c11
        exact t_RS_seen_102 N  cx hret μ h hI (lv_sub hl [] rfl)
      · have h := it_n h c11
        refine lv_lload hx hb dX7_seen_93 (lv_at hl 0 rfl) ?_
        refine lv_ldc2 (v := (20 : Int64)) hx hb hown (hts _ w_977) dX7_seen_95 ?_
        refine W.lcmp hx hb dX7_seen_98 ?_
        refine lv_if_le (tgt := 105) hx hb dX7_seen_99 (by decide) (fun c12 => ?_) (fun c12 => ?_)
        · have h := it_p h c12
          refine lv_aload_n hx hb dX7_seen_105 rfl (lv_at hl 1 rfl) ?_
          refine g7_9 cx hI rfl rfl w_39 dX7_seen_106 ?_
          refine lv_iload hx hb dX7_seen_109 (lv_at hl 4 rfl) ?_
          refine lv_lload hx hb dX7_seen_111 (lv_at hl 0 rfl) ?_
          refine lv_l2i hx hb dX7_seen_113 rfl ?_
          obtain ⟨q13, hq13, h⟩ := bi_el h
          refine zcVv (As := [.int x5, .int v10.toInt32]) cx hI (c_Se_wantFresh  hq13) mt_yX4_wantFresh mv_yX4_wantFresh w_998 (by omega) (k4_0 rfl) (zv4 rfl) rfl hl.1 rfl (Nat.le_of_ble_eq_true rfl) dX7_seen_114 (fun H locs hI => ?_)
          obtain ⟨v14, ev14⟩ : ∃ z : Int32, z = x5 + (nI 1) := ⟨_, rfl⟩
          have h := bnd_el h ev14
          refine lv_iinc (v := v14) (lv' := [(5, .int v14), (6, .long v10), (0, .ref (G.2.2.1 28 0)), (1, .int x1), (3, .int x3)]) hx hb dX7_seen_117 hl (k := 4) rfl (by rw [ev14]; rfl) (by decide) rfl (fun ls hl => ?_)
          refine lv_goto (tgt := 58) hx hb dX7_seen_120 (by decide) ?_
          exact ih q13 x1 x3 v14 h hI (lv_sub hl [2, 3, 4, 0] rfl)
        · have h := it_n h c12
          exact t_RS_seen_102 N  cx hret μ h hI (lv_sub hl [] rfl)
def f_RS_seen (N : Nat) (μ : zM) (a1 : Int32) (a2 : Int32) (a3 : Int32) : Option (Int32 × zM) :=
  (f_RS_faultOfRow μ a1 a2 a3 ((μ 0).1 0 3)).bind (fun q1 => (if q1 = nI 0 then (if ((μ 0).1 0 3) = nI 0 then some ((-2 : Int32), μ) else (f_Se_prepare N μ).bind (fun q4 => (f_Se_forgetLeaders N q4).bind (fun q5 => f_RS_seen_58 N N q5 a1 a3 (nI 0)))) else some (q1, μ)))
set_option maxHeartbeats 4000000 in
set_option maxRecDepth 100000 in
theorem c_RS_seen (N : Nat) {l : Launch} {G : zG} {μ : zM}  {a1 : Int32} {a2 : Int32} {a3 : Int32} {out : (Int32 × zM)} (h : f_RS_seen N μ a1 a2 a3 = some out) : zMI l G yX7_seen cX7_seen 8 (some .int) 92 [.ref (G.2.2.1 28 0), .int a1, .int a2, .int a3] μ out.1 out.2 := by
  refine zMI.of (by decide) (Nat.le_of_ble_eq_true rfl) (fun p e s m args below meth c Q ls cx hI hl hret => ?_)
  obtain ⟨hx, hb, hml, hown, hts, hK, hR⟩ := id cx
  have hl : lv_has ls 8 [(0, .ref (G.2.2.1 28 0)), (1, .int a1), (2, .int a2), (3, .int a3)] := hl
  unfold f_RS_seen at h
  refine lv_aload_n hx hb dX7_seen_0 rfl (lv_at hl 0 rfl) ?_
  refine lv_iload_n hx hb dX7_seen_1 rfl (lv_at hl 1 rfl) ?_
  refine lv_iload_n hx hb dX7_seen_2 rfl (lv_at hl 2 rfl) ?_
  refine lv_iload_n hx hb dX7_seen_3 rfl (lv_at hl 3 rfl) ?_
  refine lv_aload_n hx hb dX7_seen_4 rfl (lv_at hl 0 rfl) ?_
  refine g7_0 cx hI rfl rfl w_16 dX7_seen_5 ?_
  refine g6_3 cx hI rfl rfl w_349 dX7_seen_8 ?_
  obtain ⟨q1, hq1, h⟩ := bi_el h
  refine zcVi (As := [.int a1, .int a2, .int a3, .int ((μ 0).1 0 3)]) cx hI (c_RS_faultOfRow  hq1) mt_yX7_faultOfRow mv_yX7_faultOfRow w_978 (by omega) (k7_0 rfl) (zv7 rfl) rfl hl.1 rfl (Nat.le_of_ble_eq_true rfl) dX7_seen_11 (fun H locs hI => ?_)
  refine lv_istore (lv' := [(4, .int q1), (0, .ref (G.2.2.1 28 0)), (1, .int a1), (2, .int a2), (3, .int a3)]) hx hb dX7_seen_14 hl (by decide) rfl (fun ls hl => ?_)
  refine lv_iload hx hb dX7_seen_16 (lv_at hl 0 rfl) ?_
  refine lv_if_eq (tgt := 24) hx hb dX7_seen_18 (by decide) (fun c2 => ?_) (fun c2 => ?_)
  · have h := it_p h c2
    refine lv_aload_n hx hb dX7_seen_24 rfl (lv_at hl 1 rfl) ?_
    refine g7_0 cx hI rfl rfl w_16 dX7_seen_25 ?_
    refine g6_3 cx hI rfl rfl w_349 dX7_seen_28 ?_
    refine lv_if_ne (tgt := 37) hx hb dX7_seen_31 (by decide) (fun c3 => ?_) (fun c3 => ?_)
    · have h := it_n h c3
      refine lv_aload_n hx hb dX7_seen_37 rfl (lv_at hl 1 rfl) ?_
      refine g7_9 cx hI rfl rfl w_39 dX7_seen_38 ?_
      refine lv_aload_n hx hb dX7_seen_41 rfl (lv_at hl 1 rfl) ?_
      refine g7_0 cx hI rfl rfl w_16 dX7_seen_42 ?_
      obtain ⟨q4, hq4, h⟩ := bi_el h
      refine zcVv (As := [.ref (G.2.2.1 0 0)]) cx hI (c_Se_prepare N hq4) mt_yX4_prepare mv_yX4_prepare w_355 (by omega) (k4_0 rfl) (zv4 rfl) rfl hl.1 rfl (Nat.le_of_ble_eq_true rfl) dX7_seen_45 (fun H locs hI => ?_)
      refine lv_aload_n hx hb dX7_seen_48 rfl (lv_at hl 1 rfl) ?_
      refine g7_9 cx hI rfl rfl w_39 dX7_seen_49 ?_
      obtain ⟨q5, hq5, h⟩ := bi_el h
      refine zcVv (As := []) cx hI (c_Se_forgetLeaders N hq5) mt_yX4_forgetLeaders mv_yX4_forgetLeaders w_994 (by omega) (k4_0 rfl) (zv4 rfl) rfl hl.1 rfl (Nat.le_of_ble_eq_true rfl) dX7_seen_52 (fun H locs hI => ?_)
      refine lv_iconst (v := (nI 0)) hx hb dX7_seen_55 (by decide) ?_
      refine lv_istore (lv' := [(5, .int (nI 0)), (4, .int q1), (0, .ref (G.2.2.1 28 0)), (1, .int a1), (2, .int a2), (3, .int a3)]) hx hb dX7_seen_56 hl (by decide) rfl (fun ls hl => ?_)
      exact t_RS_seen_58 N  cx hret N q5 a1 a3 (nI 0) h hI (lv_sub hl [2, 3, 5, 0] rfl)
    · have h := it_p h c3
      refine lv_bipush (v := (-2 : Int32)) hx hb dX7_seen_34 (by decide) ?_
      obtain rfl := Option.some.inj h
      exact hret _ _ _ _ dX7_seen_36 rfl hI
  · have h := it_n h c2
    refine lv_iload hx hb dX7_seen_21 (lv_at hl 0 rfl) ?_
    obtain rfl := Option.some.inj h
    exact hret _ _ _ _ dX7_seen_23 rfl hI
def f_RS_film_38 (N : Nat)  : Nat → zM → Int32 → Int32 → Int32 → Option (Int32 × zM)
  | 0, _, _, _, _ => none
  | n + 1, μ, x1, x3, x5 => (if ((μ 0).1 0 3) ≤ x5 then some ((μ 0).1 0 3, μ) else if zin x1 4 then if zin x5 7 then (f_J_bitCount ((μ 21).1 7 x5.toNatClampNeg)).bind (fun q8 => (f_Sh_put (μ (24 + x1.toNatClampNeg)) (x3 + x5) q8.toInt64).bind (fun q9 => bnd (zset μ (24 + x1.toNatClampNeg) q9) (fun μ10 => bnd (x5 + (nI 1)) (fun v11 => f_RS_film_38 N n μ10 x1 x3 v11)))) else none else none)
set_option maxHeartbeats 4000000 in
set_option maxRecDepth 100000 in
theorem t_RS_film_38 (N : Nat) {p : Program} {l : Launch} {e : Env} {s : State} {m : MethodId} {args : Array Value} {below : List Frame} {meth : Method} {c : Code} {Q : State → Prop} {G : zG}  {out : (Int32 × zM)} (cx : zCX p (zrm 3) s m args c RX7 cX7_film 6 3 G) (hret : zRi p l e (zrm 3) s m args below meth c cX7_film G .int Q out.1 out.2)   : ∀ (n : Nat) (μ : zM) (x1 : Int32) (x3 : Int32) (x5 : Int32), f_RS_film_38 N n μ x1 x3 x5 = some out → ∀ {H : Heap} {locs : List Loc} {ls : Array Slot}, zIW G s μ H locs → lv_has ls 6 [(0, .ref (G.2.2.1 28 0)), (1, .int x1), (3, .int x3), (5, .int x5)] → W p l e (zrm 3) s m args below meth c H locs 0 0 Q (F0 m 38 ls []) := by
  obtain ⟨hx, hb, hml, hown, hts, hK, hR⟩ := id cx
  intro n
  induction n with
  | zero =>
    intro μ x1 x3 x5  h
    cases h
  | succ n ih =>
    intro μ x1 x3 x5  h H locs ls hI hl
    rw [f_RS_film_38] at h
    refine lv_iload hx hb dX7_film_38 (lv_at hl 3 rfl) ?_
    refine lv_aload_n hx hb dX7_film_40 rfl (lv_at hl 0 rfl) ?_
    refine g7_0 cx hI rfl rfl w_16 dX7_film_41 ?_
    refine g6_3 cx hI rfl rfl w_349 dX7_film_44 ?_
    refine lv_icmp_ge (tgt := 83) hx hb dX7_film_47 (by decide) (fun c5 => ?_) (fun c5 => ?_)
    · have h := it_p h c5
      refine lv_aload_n hx hb dX7_film_83 rfl (lv_at hl 0 rfl) ?_
      refine g7_0 cx hI rfl rfl w_16 dX7_film_84 ?_
      refine g6_3 cx hI rfl rfl w_349 dX7_film_87 ?_
      obtain rfl := Option.some.inj h
      exact hret _ _ _ _ dX7_film_90 rfl hI
    · have h := it_n h c5
      refine lv_aload_n hx hb dX7_film_50 rfl (lv_at hl 0 rfl) ?_
      refine g7_10 cx hI rfl rfl w_41 dX7_film_51 ?_
      refine lv_iload_n hx hb dX7_film_54 rfl (lv_at hl 1 rfl) ?_
      obtain ⟨g6, h⟩ := gd_el h
      refine zr_aald (t0 := 4) (C := RX5) (f := fun i => G.2.2.1 (24 + i) 0) cx hI (k7_11 rfl) rfl (z7_11 rfl _) rfl rfl g6 dX7_film_55 ?_
      refine lv_iload_n hx hb dX7_film_56 rfl (lv_at hl 2 rfl) ?_
      refine lv_iload hx hb dX7_film_57 (lv_at hl 3 rfl) ?_
      refine lv_iadd hx hb dX7_film_59 ?_
      refine lv_aload_n hx hb dX7_film_60 rfl (lv_at hl 0 rfl) ?_
      refine g7_8 cx hI rfl rfl w_35 dX7_film_61 ?_
      refine g3_6 cx hI rfl rfl w_540 dX7_film_64 ?_
      refine lv_iload hx hb dX7_film_67 (lv_at hl 3 rfl) ?_
      obtain ⟨g7, h⟩ := gd_el h
      refine zr_iald cx hI (k3_7 rfl) rfl (z3_7 rfl) rfl g7 dX7_film_69 ?_
      obtain ⟨q8, hq8, h⟩ := bi_el h
      refine zcSi (As := [.int ((μ 21).1 7 x5.toNatClampNeg)]) cx hI (c_J_bitCount  hq8) mt_yJ6_bitCount_0f7a4 ms_yJ6_bitCount_0f7a4 w_552 (by omega) rfl hl.1 rfl (Nat.le_of_ble_eq_true rfl) dX7_film_70 (fun H locs hI => ?_)
      refine lv_i2l hx hb dX7_film_73 rfl ?_
      obtain ⟨q9, hq9, h⟩ := bi_el h
      obtain ⟨μ10, eμ10⟩ : ∃ z : zM, z = zset μ (24 + x1.toNatClampNeg) q9 := ⟨_, rfl⟩
      have h := bnd_el h eμ10
      refine zcVv (As := [.int (x3 + x5), .long q8.toInt64]) cx hI (c_Sh_put (zc_sheet (zin_lt g6)) rfl hq9 eμ10.symm) mt_yX5_put mv_yX5_put w_1018 (by omega) (k5_0 (zc_sheet (zin_lt g6))) (zv5 (zc_sheet (zin_lt g6))) rfl hl.1 rfl (Nat.le_of_ble_eq_true rfl) dX7_film_74 (fun H locs hI => ?_)
      obtain ⟨v11, ev11⟩ : ∃ z : Int32, z = x5 + (nI 1) := ⟨_, rfl⟩
      have h := bnd_el h ev11
      refine lv_iinc (v := v11) (lv' := [(5, .int v11), (0, .ref (G.2.2.1 28 0)), (1, .int x1), (3, .int x3)]) hx hb dX7_film_77 hl (k := 3) rfl (by rw [ev11]; rfl) (by decide) rfl (fun ls hl => ?_)
      refine lv_goto (tgt := 38) hx hb dX7_film_80 (by decide) ?_
      exact ih μ10 x1 x3 v11 h hI (lv_sub hl [1, 2, 3, 0] rfl)
def f_RS_film (N : Nat) (μ : zM) (a1 : Int32) (a2 : Int32) (a3 : Int32) : Option (Int32 × zM) :=
  (f_RS_faultOfRow μ a1 a2 a3 ((μ 0).1 0 3)).bind (fun q1 => (if q1 = nI 0 then (f_Rd_readOrder N (μ 21) (μ 0)).bind (fun q3 => bnd (zset μ 21 q3) (fun μ4 => f_RS_film_38 N N μ4 a1 a3 (nI 0))) else some (q1, μ)))
set_option maxHeartbeats 4000000 in
set_option maxRecDepth 100000 in
theorem c_RS_film (N : Nat) {l : Launch} {G : zG} {μ : zM}  {a1 : Int32} {a2 : Int32} {a3 : Int32} {out : (Int32 × zM)} (h : f_RS_film N μ a1 a2 a3 = some out) : zMI l G yX7_film cX7_film 6 (some .int) 3 [.ref (G.2.2.1 28 0), .int a1, .int a2, .int a3] μ out.1 out.2 := by
  refine zMI.of (by decide) (Nat.le_of_ble_eq_true rfl) (fun p e s m args below meth c Q ls cx hI hl hret => ?_)
  obtain ⟨hx, hb, hml, hown, hts, hK, hR⟩ := id cx
  have hl : lv_has ls 6 [(0, .ref (G.2.2.1 28 0)), (1, .int a1), (2, .int a2), (3, .int a3)] := hl
  unfold f_RS_film at h
  refine lv_aload_n hx hb dX7_film_0 rfl (lv_at hl 0 rfl) ?_
  refine lv_iload_n hx hb dX7_film_1 rfl (lv_at hl 1 rfl) ?_
  refine lv_iload_n hx hb dX7_film_2 rfl (lv_at hl 2 rfl) ?_
  refine lv_iload_n hx hb dX7_film_3 rfl (lv_at hl 3 rfl) ?_
  refine lv_aload_n hx hb dX7_film_4 rfl (lv_at hl 0 rfl) ?_
  refine g7_0 cx hI rfl rfl w_16 dX7_film_5 ?_
  refine g6_3 cx hI rfl rfl w_349 dX7_film_8 ?_
  obtain ⟨q1, hq1, h⟩ := bi_el h
  refine zcVi (As := [.int a1, .int a2, .int a3, .int ((μ 0).1 0 3)]) cx hI (c_RS_faultOfRow  hq1) mt_yX7_faultOfRow mv_yX7_faultOfRow w_978 (by omega) (k7_0 rfl) (zv7 rfl) rfl hl.1 rfl (Nat.le_of_ble_eq_true rfl) dX7_film_11 (fun H locs hI => ?_)
  refine lv_istore (lv' := [(4, .int q1), (0, .ref (G.2.2.1 28 0)), (1, .int a1), (2, .int a2), (3, .int a3)]) hx hb dX7_film_14 hl (by decide) rfl (fun ls hl => ?_)
  refine lv_iload hx hb dX7_film_16 (lv_at hl 0 rfl) ?_
  refine lv_if_eq (tgt := 24) hx hb dX7_film_18 (by decide) (fun c2 => ?_) (fun c2 => ?_)
  · have h := it_p h c2
    refine lv_aload_n hx hb dX7_film_24 rfl (lv_at hl 1 rfl) ?_
    refine g7_8 cx hI rfl rfl w_35 dX7_film_25 ?_
    refine lv_aload_n hx hb dX7_film_28 rfl (lv_at hl 1 rfl) ?_
    refine g7_0 cx hI rfl rfl w_16 dX7_film_29 ?_
    obtain ⟨q3, hq3, h⟩ := bi_el h
    obtain ⟨μ4, eμ4⟩ : ∃ z : zM, z = zset μ 21 q3 := ⟨_, rfl⟩
    have h := bnd_el h eμ4
    refine zcVv (As := [.ref (G.2.2.1 0 0)]) cx hI (c_Rd_readOrder N rfl rfl rfl rfl (by decide) hq3 eμ4.symm) mt_yX3_readOrder mv_yX3_readOrder w_544 (by omega) (k3_0 rfl) (zv3 rfl) rfl hl.1 rfl (Nat.le_of_ble_eq_true rfl) dX7_film_32 (fun H locs hI => ?_)
    refine lv_iconst (v := (nI 0)) hx hb dX7_film_35 (by decide) ?_
    refine lv_istore (lv' := [(5, .int (nI 0)), (4, .int q1), (0, .ref (G.2.2.1 28 0)), (1, .int a1), (2, .int a2), (3, .int a3)]) hx hb dX7_film_36 hl (by decide) rfl (fun ls hl => ?_)
    exact t_RS_film_38 N  cx hret N μ4 a1 a3 (nI 0) h hI (lv_sub hl [2, 3, 5, 0] rfl)
  · have h := it_n h c2
    refine lv_iload hx hb dX7_film_21 (lv_at hl 0 rfl) ?_
    obtain rfl := Option.some.inj h
    exact hret _ _ _ _ dX7_film_23 rfl hI
def f_RS_sheet_20 (N : Nat)  (μ : zM) : Option (Int32 × zM) :=
  some ((-1 : Int32), μ)
set_option maxHeartbeats 4000000 in
set_option maxRecDepth 100000 in
theorem t_RS_sheet_20 (N : Nat) {p : Program} {l : Launch} {e : Env} {s : State} {m : MethodId} {args : Array Value} {below : List Frame} {meth : Method} {c : Code} {Q : State → Prop} {G : zG}  {out : (Int32 × zM)} (cx : zCX p (zrm 1) s m args c RX7 cX7_sheet 4 1 G) (hret : zRi p l e (zrm 1) s m args below meth c cX7_sheet G .int Q out.1 out.2)   : ∀ (μ : zM), f_RS_sheet_20 N μ = some out → ∀ {H : Heap} {locs : List Loc} {ls : Array Slot}, zIW G s μ H locs → lv_has ls 4 [] → W p l e (zrm 1) s m args below meth c H locs 0 0 Q (F0 m 20 ls []) := by
  obtain ⟨hx, hb, hml, hown, hts, hK, hR⟩ := id cx
  intro μ  h H locs ls hI hl
  unfold f_RS_sheet_20 at h
  refine lv_iconst (v := (-1 : Int32)) hx hb dX7_sheet_20 (by decide) ?_
  obtain rfl := Option.some.inj h
  exact hret _ _ _ _ dX7_sheet_21 rfl hI
def f_RS_sheet (N : Nat) (μ : zM) (a1 : Int32) (a2 : Int32) (a3 : Int32) : Option (Int32 × zM) :=
  (f_RS_isSheet a1).bind (fun q1 => (if q1 = nI 0 then f_RS_sheet_20 N μ else (f_RS_isLane a2).bind (fun q3 => (if q3 = nI 0 then f_RS_sheet_20 N μ else (if a3 ≤ (nI 24) then (if nI 0 ≤ a3 then if zin a1 4 then (f_Sh_renew N (μ (24 + a1.toNatClampNeg)) a2 a3).bind (fun q8 => bnd (zset μ (24 + a1.toNatClampNeg) q8) (fun μ9 => some (a3, μ9))) else none else some ((-14 : Int32), μ)) else f_RS_sheet_20 N μ)))))
set_option maxHeartbeats 4000000 in
set_option maxRecDepth 100000 in
theorem c_RS_sheet (N : Nat) {l : Launch} {G : zG} {μ : zM}  {a1 : Int32} {a2 : Int32} {a3 : Int32} {out : (Int32 × zM)} (h : f_RS_sheet N μ a1 a2 a3 = some out) : zMI l G yX7_sheet cX7_sheet 4 (some .int) 1 [.ref (G.2.2.1 28 0), .int a1, .int a2, .int a3] μ out.1 out.2 := by
  refine zMI.of (by decide) (Nat.le_of_ble_eq_true rfl) (fun p e s m args below meth c Q ls cx hI hl hret => ?_)
  obtain ⟨hx, hb, hml, hown, hts, hK, hR⟩ := id cx
  have hl : lv_has ls 4 [(0, .ref (G.2.2.1 28 0)), (1, .int a1), (2, .int a2), (3, .int a3)] := hl
  unfold f_RS_sheet at h
  refine lv_iload_n hx hb dX7_sheet_0 rfl (lv_at hl 1 rfl) ?_
  obtain ⟨q1, hq1, h⟩ := bi_el h
  refine zcSi (As := [.int a1]) cx hI (c_RS_isSheet  hq1) mt_yX7_isSheet ms_yX7_isSheet w_983 (by omega) rfl hl.1 rfl (Nat.le_of_ble_eq_true rfl) dX7_sheet_1 (fun H locs hI => ?_)
  refine lv_if_eq (tgt := 20) hx hb dX7_sheet_4 (by decide) (fun c2 => ?_) (fun c2 => ?_)
  · have h := it_p h c2
    exact t_RS_sheet_20 N  cx hret μ h hI (lv_sub hl [] rfl)
  · have h := it_n h c2
    refine lv_iload_n hx hb dX7_sheet_7 rfl (lv_at hl 2 rfl) ?_
    obtain ⟨q3, hq3, h⟩ := bi_el h
    refine zcSi (As := [.int a2]) cx hI (c_RS_isLane  hq3) mt_yX7_isLane ms_yX7_isLane w_986 (by omega) rfl hl.1 rfl (Nat.le_of_ble_eq_true rfl) dX7_sheet_8 (fun H locs hI => ?_)
    refine lv_if_eq (tgt := 20) hx hb dX7_sheet_11 (by decide) (fun c4 => ?_) (fun c4 => ?_)
    · have h := it_p h c4
      exact t_RS_sheet_20 N  cx hret μ h hI (lv_sub hl [] rfl)
    · have h := it_n h c4
      refine lv_iload_n hx hb dX7_sheet_14 rfl (lv_at hl 3 rfl) ?_
      refine lv_bipush (v := (nI 24)) hx hb dX7_sheet_15 (by decide) ?_
      refine lv_icmp_le (tgt := 22) hx hb dX7_sheet_17 (by decide) (fun c5 => ?_) (fun c5 => ?_)
      · have h := it_p h c5
        refine lv_iload_n hx hb dX7_sheet_22 rfl (lv_at hl 3 rfl) ?_
        refine lv_if_ge (tgt := 29) hx hb dX7_sheet_23 (by decide) (fun c6 => ?_) (fun c6 => ?_)
        · have h := it_p h c6
          refine lv_aload_n hx hb dX7_sheet_29 rfl (lv_at hl 0 rfl) ?_
          refine g7_10 cx hI rfl rfl w_41 dX7_sheet_30 ?_
          refine lv_iload_n hx hb dX7_sheet_33 rfl (lv_at hl 1 rfl) ?_
          obtain ⟨g7, h⟩ := gd_el h
          refine zr_aald (t0 := 4) (C := RX5) (f := fun i => G.2.2.1 (24 + i) 0) cx hI (k7_11 rfl) rfl (z7_11 rfl _) rfl rfl g7 dX7_sheet_34 ?_
          refine lv_iload_n hx hb dX7_sheet_35 rfl (lv_at hl 2 rfl) ?_
          refine lv_iload_n hx hb dX7_sheet_36 rfl (lv_at hl 3 rfl) ?_
          obtain ⟨q8, hq8, h⟩ := bi_el h
          obtain ⟨μ9, eμ9⟩ : ∃ z : zM, z = zset μ (24 + a1.toNatClampNeg) q8 := ⟨_, rfl⟩
          have h := bnd_el h eμ9
          refine zcVv (As := [.int a2, .int a3]) cx hI (c_Sh_renew N (zc_sheet (zin_lt g7)) rfl hq8 eμ9.symm) mt_yX5_renew mv_yX5_renew w_1034 (by omega) (k5_0 (zc_sheet (zin_lt g7))) (zv5 (zc_sheet (zin_lt g7))) rfl hl.1 rfl (Nat.le_of_ble_eq_true rfl) dX7_sheet_37 (fun H locs hI => ?_)
          refine lv_iload_n hx hb dX7_sheet_40 rfl (lv_at hl 3 rfl) ?_
          obtain rfl := Option.some.inj h
          exact hret _ _ _ _ dX7_sheet_41 rfl hI
        · have h := it_n h c6
          refine lv_bipush (v := (-14 : Int32)) hx hb dX7_sheet_26 (by decide) ?_
          obtain rfl := Option.some.inj h
          exact hret _ _ _ _ dX7_sheet_28 rfl hI
      · have h := it_n h c5
        exact t_RS_sheet_20 N  cx hret μ h hI (lv_sub hl [] rfl)
def f_RS_drop (N : Nat) (μ : zM) (a1 : Int32) : Option (Int32 × zM) :=
  (f_RS_isSheet a1).bind (fun q1 => (if q1 = nI 0 then some ((-1 : Int32), μ) else if zin a1 4 then (if ((μ (24 + a1.toNatClampNeg)).1 0 1) = (-1 : Int32) then some ((-11 : Int32), μ) else if zin a1 4 then bnd ((μ (24 + a1.toNatClampNeg)).1 0 2) (fun v6 => if zin a1 4 then (f_Sh_renew N (μ (24 + a1.toNatClampNeg)) (-1 : Int32) (nI 0)).bind (fun q8 => bnd (zset μ (24 + a1.toNatClampNeg) q8) (fun μ9 => some (v6, μ9))) else none) else none) else none))
set_option maxHeartbeats 4000000 in
set_option maxRecDepth 100000 in
theorem c_RS_drop (N : Nat) {l : Launch} {G : zG} {μ : zM}  {a1 : Int32} {out : (Int32 × zM)} (h : f_RS_drop N μ a1 = some out) : zMI l G yX7_drop cX7_drop 3 (some .int) 1 [.ref (G.2.2.1 28 0), .int a1] μ out.1 out.2 := by
  refine zMI.of (by decide) (Nat.le_of_ble_eq_true rfl) (fun p e s m args below meth c Q ls cx hI hl hret => ?_)
  obtain ⟨hx, hb, hml, hown, hts, hK, hR⟩ := id cx
  have hl : lv_has ls 3 [(0, .ref (G.2.2.1 28 0)), (1, .int a1)] := hl
  unfold f_RS_drop at h
  refine lv_iload_n hx hb dX7_drop_0 rfl (lv_at hl 1 rfl) ?_
  obtain ⟨q1, hq1, h⟩ := bi_el h
  refine zcSi (As := [.int a1]) cx hI (c_RS_isSheet  hq1) mt_yX7_isSheet ms_yX7_isSheet w_983 (by omega) rfl hl.1 rfl (Nat.le_of_ble_eq_true rfl) dX7_drop_1 (fun H locs hI => ?_)
  refine lv_if_ne (tgt := 9) hx hb dX7_drop_4 (by decide) (fun c2 => ?_) (fun c2 => ?_)
  · have h := it_n h c2
    refine lv_aload_n hx hb dX7_drop_9 rfl (lv_at hl 0 rfl) ?_
    refine g7_10 cx hI rfl rfl w_41 dX7_drop_10 ?_
    refine lv_iload_n hx hb dX7_drop_13 rfl (lv_at hl 1 rfl) ?_
    obtain ⟨g3, h⟩ := gd_el h
    refine zr_aald (t0 := 4) (C := RX5) (f := fun i => G.2.2.1 (24 + i) 0) cx hI (k7_11 rfl) rfl (z7_11 rfl _) rfl rfl g3 dX7_drop_14 ?_
    refine g5_1 cx hI (zc_sheet (zin_lt g3)) rfl w_982 dX7_drop_15 ?_
    refine lv_iconst (v := (-1 : Int32)) hx hb dX7_drop_18 (by decide) ?_
    refine lv_icmp_ne (tgt := 25) hx hb dX7_drop_19 (by decide) (fun c4 => ?_) (fun c4 => ?_)
    · have h := it_n h c4
      refine lv_aload_n hx hb dX7_drop_25 rfl (lv_at hl 0 rfl) ?_
      refine g7_10 cx hI rfl rfl w_41 dX7_drop_26 ?_
      refine lv_iload_n hx hb dX7_drop_29 rfl (lv_at hl 1 rfl) ?_
      obtain ⟨g5, h⟩ := gd_el h
      refine zr_aald (t0 := 4) (C := RX5) (f := fun i => G.2.2.1 (24 + i) 0) cx hI (k7_11 rfl) rfl (z7_11 rfl _) rfl rfl g5 dX7_drop_30 ?_
      refine g5_2 cx hI (zc_sheet (zin_lt g5)) rfl w_1046 dX7_drop_31 ?_
      refine lv_topi (fun v6 ev6 => ?_)
      have h := bnd_el h ev6
      refine lv_istore_n (lv' := [(2, .int v6), (0, .ref (G.2.2.1 28 0)), (1, .int a1)]) hx hb dX7_drop_34 rfl hl (by decide) rfl (fun ls hl => ?_)
      refine lv_aload_n hx hb dX7_drop_35 rfl (lv_at hl 1 rfl) ?_
      refine g7_10 cx hI rfl rfl w_41 dX7_drop_36 ?_
      refine lv_iload_n hx hb dX7_drop_39 rfl (lv_at hl 2 rfl) ?_
      obtain ⟨g7, h⟩ := gd_el h
      refine zr_aald (t0 := 4) (C := RX5) (f := fun i => G.2.2.1 (24 + i) 0) cx hI (k7_11 rfl) rfl (z7_11 rfl _) rfl rfl g7 dX7_drop_40 ?_
      refine lv_iconst (v := (-1 : Int32)) hx hb dX7_drop_41 (by decide) ?_
      refine lv_iconst (v := (nI 0)) hx hb dX7_drop_42 (by decide) ?_
      obtain ⟨q8, hq8, h⟩ := bi_el h
      obtain ⟨μ9, eμ9⟩ : ∃ z : zM, z = zset μ (24 + a1.toNatClampNeg) q8 := ⟨_, rfl⟩
      have h := bnd_el h eμ9
      refine zcVv (As := [.int (-1 : Int32), .int (nI 0)]) cx hI (c_Sh_renew N (zc_sheet (zin_lt g7)) rfl hq8 eμ9.symm) mt_yX5_renew mv_yX5_renew w_1034 (by omega) (k5_0 (zc_sheet (zin_lt g7))) (zv5 (zc_sheet (zin_lt g7))) rfl hl.1 rfl (Nat.le_of_ble_eq_true rfl) dX7_drop_43 (fun H locs hI => ?_)
      refine lv_iload_n hx hb dX7_drop_46 rfl (lv_at hl 0 rfl) ?_
      obtain rfl := Option.some.inj h
      exact hret _ _ _ _ dX7_drop_47 rfl hI
    · have h := it_p h c4
      refine lv_bipush (v := (-11 : Int32)) hx hb dX7_drop_22 (by decide) ?_
      obtain rfl := Option.some.inj h
      exact hret _ _ _ _ dX7_drop_24 rfl hI
  · have h := it_p h c2
    refine lv_iconst (v := (-1 : Int32)) hx hb dX7_drop_7 (by decide) ?_
    obtain rfl := Option.some.inj h
    exact hret _ _ _ _ dX7_drop_8 rfl hI
def f_RS_item (μ : zM) (a1 : Int32) (a2 : Int32) (a3 : Int32) (a4 : Int64) : Option (Int32 × zM) :=
  (f_RS_faultOfRow μ a1 a2 a3 (nI 1)).bind (fun q1 => (if q1 = nI 0 then if zin a1 4 then (f_Sh_put (μ (24 + a1.toNatClampNeg)) a3 a4).bind (fun q4 => bnd (zset μ (24 + a1.toNatClampNeg) q4) (fun μ5 => some ((nI 1), μ5))) else none else some (q1, μ)))
set_option maxHeartbeats 4000000 in
set_option maxRecDepth 100000 in
theorem c_RS_item {l : Launch} {G : zG} {μ : zM}  {a1 : Int32} {a2 : Int32} {a3 : Int32} {a4 : Int64} {out : (Int32 × zM)} (h : f_RS_item μ a1 a2 a3 a4 = some out) : zMI l G yX7_item cX7_item 7 (some .int) 2 [.ref (G.2.2.1 28 0), .int a1, .int a2, .int a3, .long a4] μ out.1 out.2 := by
  refine zMI.of (by decide) (Nat.le_of_ble_eq_true rfl) (fun p e s m args below meth c Q ls cx hI hl hret => ?_)
  obtain ⟨hx, hb, hml, hown, hts, hK, hR⟩ := id cx
  have hl : lv_has ls 7 [(0, .ref (G.2.2.1 28 0)), (1, .int a1), (2, .int a2), (3, .int a3), (4, .long a4)] := hl
  unfold f_RS_item at h
  refine lv_aload_n hx hb dX7_item_0 rfl (lv_at hl 0 rfl) ?_
  refine lv_iload_n hx hb dX7_item_1 rfl (lv_at hl 1 rfl) ?_
  refine lv_iload_n hx hb dX7_item_2 rfl (lv_at hl 2 rfl) ?_
  refine lv_iload_n hx hb dX7_item_3 rfl (lv_at hl 3 rfl) ?_
  refine lv_iconst (v := (nI 1)) hx hb dX7_item_4 (by decide) ?_
  obtain ⟨q1, hq1, h⟩ := bi_el h
  refine zcVi (As := [.int a1, .int a2, .int a3, .int (nI 1)]) cx hI (c_RS_faultOfRow  hq1) mt_yX7_faultOfRow mv_yX7_faultOfRow w_978 (by omega) (k7_0 rfl) (zv7 rfl) rfl hl.1 rfl (Nat.le_of_ble_eq_true rfl) dX7_item_5 (fun H locs hI => ?_)
  refine lv_istore (lv' := [(6, .int q1), (0, .ref (G.2.2.1 28 0)), (1, .int a1), (2, .int a2), (3, .int a3), (4, .long a4)]) hx hb dX7_item_8 hl (by decide) rfl (fun ls hl => ?_)
  refine lv_iload hx hb dX7_item_10 (lv_at hl 0 rfl) ?_
  refine lv_if_eq (tgt := 18) hx hb dX7_item_12 (by decide) (fun c2 => ?_) (fun c2 => ?_)
  · have h := it_p h c2
    refine lv_aload_n hx hb dX7_item_18 rfl (lv_at hl 1 rfl) ?_
    refine g7_10 cx hI rfl rfl w_41 dX7_item_19 ?_
    refine lv_iload_n hx hb dX7_item_22 rfl (lv_at hl 2 rfl) ?_
    obtain ⟨g3, h⟩ := gd_el h
    refine zr_aald (t0 := 4) (C := RX5) (f := fun i => G.2.2.1 (24 + i) 0) cx hI (k7_11 rfl) rfl (z7_11 rfl _) rfl rfl g3 dX7_item_23 ?_
    refine lv_iload_n hx hb dX7_item_24 rfl (lv_at hl 4 rfl) ?_
    refine lv_lload hx hb dX7_item_25 (lv_at hl 5 rfl) ?_
    obtain ⟨q4, hq4, h⟩ := bi_el h
    obtain ⟨μ5, eμ5⟩ : ∃ z : zM, z = zset μ (24 + a1.toNatClampNeg) q4 := ⟨_, rfl⟩
    have h := bnd_el h eμ5
    refine zcVv (As := [.int a3, .long a4]) cx hI (c_Sh_put (zc_sheet (zin_lt g3)) rfl hq4 eμ5.symm) mt_yX5_put mv_yX5_put w_1018 (by omega) (k5_0 (zc_sheet (zin_lt g3))) (zv5 (zc_sheet (zin_lt g3))) rfl hl.1 rfl (Nat.le_of_ble_eq_true rfl) dX7_item_27 (fun H locs hI => ?_)
    refine lv_iconst (v := (nI 1)) hx hb dX7_item_30 (by decide) ?_
    obtain rfl := Option.some.inj h
    exact hret _ _ _ _ dX7_item_31 rfl hI
  · have h := it_n h c2
    refine lv_iload hx hb dX7_item_15 (lv_at hl 0 rfl) ?_
    obtain rfl := Option.some.inj h
    exact hret _ _ _ _ dX7_item_17 rfl hI
def f_RS_copy_14  (μ : zM) : Option (Int32 × zM) :=
  some ((-1 : Int32), μ)
set_option maxHeartbeats 4000000 in
set_option maxRecDepth 100000 in
theorem t_RS_copy_14  {p : Program} {l : Launch} {e : Env} {s : State} {m : MethodId} {args : Array Value} {below : List Frame} {meth : Method} {c : Code} {Q : State → Prop} {G : zG}  {out : (Int32 × zM)} (cx : zCX p (zrm 1) s m args c RX7 cX7_copy 8 1 G) (hret : zRi p l e (zrm 1) s m args below meth c cX7_copy G .int Q out.1 out.2)   : ∀ (μ : zM), f_RS_copy_14 μ = some out → ∀ {H : Heap} {locs : List Loc} {ls : Array Slot}, zIW G s μ H locs → lv_has ls 8 [] → W p l e (zrm 1) s m args below meth c H locs 0 0 Q (F0 m 14 ls []) := by
  obtain ⟨hx, hb, hml, hown, hts, hK, hR⟩ := id cx
  intro μ  h H locs ls hI hl
  unfold f_RS_copy_14 at h
  refine lv_iconst (v := (-1 : Int32)) hx hb dX7_copy_14 (by decide) ?_
  obtain rfl := Option.some.inj h
  exact hret _ _ _ _ dX7_copy_15 rfl hI
def f_RS_copy_50  (μ : zM) : Option (Int32 × zM) :=
  some ((-11 : Int32), μ)
set_option maxHeartbeats 4000000 in
set_option maxRecDepth 100000 in
theorem t_RS_copy_50  {p : Program} {l : Launch} {e : Env} {s : State} {m : MethodId} {args : Array Value} {below : List Frame} {meth : Method} {c : Code} {Q : State → Prop} {G : zG}  {out : (Int32 × zM)} (cx : zCX p (zrm 1) s m args c RX7 cX7_copy 8 1 G) (hret : zRi p l e (zrm 1) s m args below meth c cX7_copy G .int Q out.1 out.2)   : ∀ (μ : zM), f_RS_copy_50 μ = some out → ∀ {H : Heap} {locs : List Loc} {ls : Array Slot}, zIW G s μ H locs → lv_has ls 8 [] → W p l e (zrm 1) s m args below meth c H locs 0 0 Q (F0 m 50 ls []) := by
  obtain ⟨hx, hb, hml, hown, hts, hK, hR⟩ := id cx
  intro μ  h H locs ls hI hl
  unfold f_RS_copy_50 at h
  refine lv_bipush (v := (-11 : Int32)) hx hb dX7_copy_50 (by decide) ?_
  obtain rfl := Option.some.inj h
  exact hret _ _ _ _ dX7_copy_52 rfl hI
def f_RS_copy_92  (μ : zM) : Option (Int32 × zM) :=
  some ((-13 : Int32), μ)
set_option maxHeartbeats 4000000 in
set_option maxRecDepth 100000 in
theorem t_RS_copy_92  {p : Program} {l : Launch} {e : Env} {s : State} {m : MethodId} {args : Array Value} {below : List Frame} {meth : Method} {c : Code} {Q : State → Prop} {G : zG}  {out : (Int32 × zM)} (cx : zCX p (zrm 1) s m args c RX7 cX7_copy 8 1 G) (hret : zRi p l e (zrm 1) s m args below meth c cX7_copy G .int Q out.1 out.2)   : ∀ (μ : zM), f_RS_copy_92 μ = some out → ∀ {H : Heap} {locs : List Loc} {ls : Array Slot}, zIW G s μ H locs → lv_has ls 8 [] → W p l e (zrm 1) s m args below meth c H locs 0 0 Q (F0 m 92 ls []) := by
  obtain ⟨hx, hb, hml, hown, hts, hK, hR⟩ := id cx
  intro μ  h H locs ls hI hl
  unfold f_RS_copy_92 at h
  refine lv_bipush (v := (-13 : Int32)) hx hb dX7_copy_92 (by decide) ?_
  obtain rfl := Option.some.inj h
  exact hret _ _ _ _ dX7_copy_94 rfl hI
def f_RS_copy (μ : zM) (a1 : Int32) (a2 : Int32) (a3 : Int32) (a4 : Int32) (a5 : Int32) : Option (Int32 × zM) :=
  (f_RS_isSheet a1).bind (fun q1 => (if q1 = nI 0 then f_RS_copy_14 μ else (f_RS_isSheet a3).bind (fun q3 => (if q3 = nI 0 then f_RS_copy_14 μ else if zin a1 4 then if zin a3 4 then (if ((μ (24 + a1.toNatClampNeg)).1 0 1) = (-1 : Int32) then f_RS_copy_50 μ else (if ((μ (24 + a3.toNatClampNeg)).1 0 1) = (-1 : Int32) then f_RS_copy_50 μ else (if ((μ (24 + a1.toNatClampNeg)).1 0 1) = ((μ (24 + a3.toNatClampNeg)).1 0 1) then (f_Sh_has (μ (24 + a1.toNatClampNeg)) a2 a5).bind (fun q10 => (if q10 = nI 0 then f_RS_copy_92 μ else (f_Sh_has (μ (24 + a3.toNatClampNeg)) a4 a5).bind (fun q12 => (if q12 = nI 0 then f_RS_copy_92 μ else if ¬ a2 < nI 0 then if ¬ a4 < nI 0 then if ¬ a5 < nI 0 then if a2.toNatClampNeg + a5.toNatClampNeg ≤ 24 then if a4.toNatClampNeg + a5.toNatClampNeg ≤ 24 then bnd (zset μ (24 + a3.toNatClampNeg) (zLr (μ (24 + a3.toNatClampNeg)) 1 (va_cpy ((μ (24 + a1.toNatClampNeg)).2.1 1) ((μ (24 + a3.toNatClampNeg)).2.1 1) (a2.toNatClampNeg) (a4.toNatClampNeg) (a5.toNatClampNeg)))) (fun μ19 => some (a5, μ19)) else none else none else none else none else none)))) else some ((-12 : Int32), μ)))) else none else none))))
set_option maxHeartbeats 4000000 in
set_option maxRecDepth 100000 in
theorem c_RS_copy {l : Launch} {G : zG} {μ : zM}  {a1 : Int32} {a2 : Int32} {a3 : Int32} {a4 : Int32} {a5 : Int32} {out : (Int32 × zM)} (h : f_RS_copy μ a1 a2 a3 a4 a5 = some out) : zMI l G yX7_copy cX7_copy 8 (some .int) 1 [.ref (G.2.2.1 28 0), .int a1, .int a2, .int a3, .int a4, .int a5] μ out.1 out.2 := by
  refine zMI.of (by decide) (Nat.le_of_ble_eq_true rfl) (fun p e s m args below meth c Q ls cx hI hl hret => ?_)
  obtain ⟨hx, hb, hml, hown, hts, hK, hR⟩ := id cx
  have hl : lv_has ls 8 [(0, .ref (G.2.2.1 28 0)), (1, .int a1), (2, .int a2), (3, .int a3), (4, .int a4), (5, .int a5)] := hl
  unfold f_RS_copy at h
  refine lv_iload_n hx hb dX7_copy_0 rfl (lv_at hl 1 rfl) ?_
  obtain ⟨q1, hq1, h⟩ := bi_el h
  refine zcSi (As := [.int a1]) cx hI (c_RS_isSheet  hq1) mt_yX7_isSheet ms_yX7_isSheet w_983 (by omega) rfl hl.1 rfl (Nat.le_of_ble_eq_true rfl) dX7_copy_1 (fun H locs hI => ?_)
  refine lv_if_eq (tgt := 14) hx hb dX7_copy_4 (by decide) (fun c2 => ?_) (fun c2 => ?_)
  · have h := it_p h c2
    exact t_RS_copy_14  cx hret μ h hI (lv_sub hl [] rfl)
  · have h := it_n h c2
    refine lv_iload_n hx hb dX7_copy_7 rfl (lv_at hl 3 rfl) ?_
    obtain ⟨q3, hq3, h⟩ := bi_el h
    refine zcSi (As := [.int a3]) cx hI (c_RS_isSheet  hq3) mt_yX7_isSheet ms_yX7_isSheet w_983 (by omega) rfl hl.1 rfl (Nat.le_of_ble_eq_true rfl) dX7_copy_8 (fun H locs hI => ?_)
    refine lv_if_ne (tgt := 16) hx hb dX7_copy_11 (by decide) (fun c4 => ?_) (fun c4 => ?_)
    · have h := it_n h c4
      refine lv_aload_n hx hb dX7_copy_16 rfl (lv_at hl 0 rfl) ?_
      refine g7_10 cx hI rfl rfl w_41 dX7_copy_17 ?_
      refine lv_iload_n hx hb dX7_copy_20 rfl (lv_at hl 1 rfl) ?_
      obtain ⟨g5, h⟩ := gd_el h
      refine zr_aald (t0 := 4) (C := RX5) (f := fun i => G.2.2.1 (24 + i) 0) cx hI (k7_11 rfl) rfl (z7_11 rfl _) rfl rfl g5 dX7_copy_21 ?_
      refine lv_astore (lv' := [(6, .ref (G.2.2.1 (24 + a1.toNatClampNeg) 0)), (0, .ref (G.2.2.1 28 0)), (1, .int a1), (2, .int a2), (3, .int a3), (4, .int a4), (5, .int a5)]) hx hb dX7_copy_22 hl (by decide) rfl (fun ls hl => ?_)
      refine lv_aload_n hx hb dX7_copy_24 rfl (lv_at hl 1 rfl) ?_
      refine g7_10 cx hI rfl rfl w_41 dX7_copy_25 ?_
      refine lv_iload_n hx hb dX7_copy_28 rfl (lv_at hl 4 rfl) ?_
      obtain ⟨g6, h⟩ := gd_el h
      refine zr_aald (t0 := 4) (C := RX5) (f := fun i => G.2.2.1 (24 + i) 0) cx hI (k7_11 rfl) rfl (z7_11 rfl _) rfl rfl g6 dX7_copy_29 ?_
      refine lv_astore (lv' := [(7, .ref (G.2.2.1 (24 + a3.toNatClampNeg) 0)), (6, .ref (G.2.2.1 (24 + a1.toNatClampNeg) 0)), (0, .ref (G.2.2.1 28 0)), (1, .int a1), (2, .int a2), (3, .int a3), (4, .int a4), (5, .int a5)]) hx hb dX7_copy_30 hl (by decide) rfl (fun ls hl => ?_)
      refine lv_aload hx hb dX7_copy_32 (lv_at hl 1 rfl) ?_
      refine g5_1 cx hI (zc_sheet (zin_lt g5)) rfl w_982 dX7_copy_34 ?_
      refine lv_iconst (v := (-1 : Int32)) hx hb dX7_copy_37 (by decide) ?_
      refine lv_icmp_eq (tgt := 50) hx hb dX7_copy_38 (by decide) (fun c7 => ?_) (fun c7 => ?_)
      · have h := it_p h c7
        exact t_RS_copy_50  cx hret μ h hI (lv_sub hl [] rfl)
      · have h := it_n h c7
        refine lv_aload hx hb dX7_copy_41 (lv_at hl 0 rfl) ?_
        refine g5_1 cx hI (zc_sheet (zin_lt g6)) rfl w_982 dX7_copy_43 ?_
        refine lv_iconst (v := (-1 : Int32)) hx hb dX7_copy_46 (by decide) ?_
        refine lv_icmp_ne (tgt := 53) hx hb dX7_copy_47 (by decide) (fun c8 => ?_) (fun c8 => ?_)
        · have h := it_n h c8
          refine lv_aload hx hb dX7_copy_53 (lv_at hl 1 rfl) ?_
          refine g5_1 cx hI (zc_sheet (zin_lt g5)) rfl w_982 dX7_copy_55 ?_
          refine lv_aload hx hb dX7_copy_58 (lv_at hl 0 rfl) ?_
          refine g5_1 cx hI (zc_sheet (zin_lt g6)) rfl w_982 dX7_copy_60 ?_
          refine lv_icmp_eq (tgt := 69) hx hb dX7_copy_63 (by decide) (fun c9 => ?_) (fun c9 => ?_)
          · have h := it_p h c9
            refine lv_aload hx hb dX7_copy_69 (lv_at hl 1 rfl) ?_
            refine lv_iload_n hx hb dX7_copy_71 rfl (lv_at hl 4 rfl) ?_
            refine lv_iload hx hb dX7_copy_72 (lv_at hl 7 rfl) ?_
            obtain ⟨q10, hq10, h⟩ := bi_el h
            refine zcVi (As := [.int a2, .int a5]) cx hI (c_Sh_has (zc_sheet (zin_lt g5)) rfl hq10) mt_yX5_has mv_yX5_has w_989 (by omega) (k5_0 (zc_sheet (zin_lt g5))) (zv5 (zc_sheet (zin_lt g5))) rfl hl.1 rfl (Nat.le_of_ble_eq_true rfl) dX7_copy_74 (fun H locs hI => ?_)
            refine lv_if_eq (tgt := 92) hx hb dX7_copy_77 (by decide) (fun c11 => ?_) (fun c11 => ?_)
            · have h := it_p h c11
              exact t_RS_copy_92  cx hret μ h hI (lv_sub hl [] rfl)
            · have h := it_n h c11
              refine lv_aload hx hb dX7_copy_80 (lv_at hl 0 rfl) ?_
              refine lv_iload hx hb dX7_copy_82 (lv_at hl 6 rfl) ?_
              refine lv_iload hx hb dX7_copy_84 (lv_at hl 7 rfl) ?_
              obtain ⟨q12, hq12, h⟩ := bi_el h
              refine zcVi (As := [.int a4, .int a5]) cx hI (c_Sh_has (zc_sheet (zin_lt g6)) rfl hq12) mt_yX5_has mv_yX5_has w_989 (by omega) (k5_0 (zc_sheet (zin_lt g6))) (zv5 (zc_sheet (zin_lt g6))) rfl hl.1 rfl (Nat.le_of_ble_eq_true rfl) dX7_copy_86 (fun H locs hI => ?_)
              refine lv_if_ne (tgt := 95) hx hb dX7_copy_89 (by decide) (fun c13 => ?_) (fun c13 => ?_)
              · have h := it_n h c13
                refine lv_aload hx hb dX7_copy_95 (lv_at hl 1 rfl) ?_
                refine g5_0 cx hI (zc_sheet (zin_lt g5)) rfl w_976 dX7_copy_97 ?_
                refine lv_iload_n hx hb dX7_copy_100 rfl (lv_at hl 4 rfl) ?_
                refine lv_aload hx hb dX7_copy_101 (lv_at hl 0 rfl) ?_
                refine g5_0 cx hI (zc_sheet (zin_lt g6)) rfl w_976 dX7_copy_103 ?_
                refine lv_iload hx hb dX7_copy_106 (lv_at hl 6 rfl) ?_
                refine lv_iload hx hb dX7_copy_108 (lv_at hl 7 rfl) ?_
                obtain ⟨g14, h⟩ := gd_el h
                obtain ⟨g15, h⟩ := gd_el h
                obtain ⟨g16, h⟩ := gd_el h
                obtain ⟨g17, h⟩ := gd_el h
                obtain ⟨g18, h⟩ := gd_el h
                obtain ⟨μ19, eμ19⟩ : ∃ z : zM, z = zset μ (24 + a3.toNatClampNeg) (zLr (μ (24 + a3.toNatClampNeg)) 1 (va_cpy ((μ (24 + a1.toNatClampNeg)).2.1 1) ((μ (24 + a3.toNatClampNeg)).2.1 1) (a2.toNatClampNeg) (a4.toNatClampNeg) (a5.toNatClampNeg))) := ⟨_, rfl⟩
                have h := bnd_el h eμ19
                refine zr_cpl cx hI hl.1 (k5_1 (zc_sheet (zin_lt g5))) rfl (z5_1 (zc_sheet (zin_lt g5))) (k5_1 (zc_sheet (zin_lt g6))) rfl (z5_1 (zc_sheet (zin_lt g6))) w_1066 (by omega) g14 g15 g16 g17 g18 (Nat.le_of_ble_eq_true rfl) eμ19.symm dX7_copy_110 (fun H locs hI => ?_)
                refine lv_iload hx hb dX7_copy_113 (lv_at hl 7 rfl) ?_
                obtain rfl := Option.some.inj h
                exact hret _ _ _ _ dX7_copy_115 rfl hI
              · have h := it_p h c13
                exact t_RS_copy_92  cx hret μ h hI (lv_sub hl [] rfl)
          · have h := it_n h c9
            refine lv_bipush (v := (-12 : Int32)) hx hb dX7_copy_66 (by decide) ?_
            obtain rfl := Option.some.inj h
            exact hret _ _ _ _ dX7_copy_68 rfl hI
        · have h := it_p h c8
          exact t_RS_copy_50  cx hret μ h hI (lv_sub hl [] rfl)
    · have h := it_p h c4
      exact t_RS_copy_14  cx hret μ h hI (lv_sub hl [] rfl)
