/-! STRING CONSTANTS (number k < 4: none, steady, growing, doubling): length(), charAt(i), loading them -/
/-- a String constant comes back -/
def zMS (l : Launch) (G : zG) (y : MethodName) (cc : ByteArray) (nL : Nat) (ret : Option FieldType) (d : Nat) (av : List Value) (μ : zM) (k : Nat) : Prop :=
  Met l y (zws y cc nL ret) (zrm d) (va_Pc av (zPre G μ)) (va_Qr (fun (ν : zM) => ν = μ) (fun ν a t => a = G.2.2.2.1 k ∧ va_P G.1 vwCl (zw G ν) t.heap) (zA G)) 0 0 (zA G)
def zRs (p : Program) (l : Launch) (e : Env) (R : Room) (s : State) (m : MethodId) (args : Array Value) (below : List Frame) (meth : Method) (c : Code) (cc : ByteArray) (G : zG) (Q : State → Prop) (k : Nat) (μ : zM) : Prop := ∀ (pc : Nat) (ls : Array Slot) (H : Heap) (locs : List Loc), decode cc pc = .ok (.areturn, 1) → zIW G s μ H locs → W p l e R s m args below meth c H locs 0 0 Q (F0 m pc ls [.ref (G.2.2.2.1 k)])
theorem zMS.of {l : Launch} {G : zG} {y : MethodName} {cc : ByteArray} {nL d : Nat} {C : String} {av : List Value} {μ : zM} {k : Nat} (hy : plainName y.cls = true) (hla : (lg_sl av).length ≤ nL)
    (body : ∀ p e s m args below meth c (Q : State → Prop) (ls : Array Slot), zCX p (zrm d) s m args c y.cls cc nL d G → zIW G s μ s.heap [] → lv_has ls nL (lv_args 0 av) → zRs p l e (zrm d) s m args below meth c cc G Q k μ → W p l e (zrm d) s m args below meth c s.heap [] 0 0 Q (F0 m 0 ls [])) : zMS l G y cc nL (some (.object C)) d av μ k := by
  refine Met.ofW (cc := cc) (maxL := nL) (ret := some (.object C)) hy rfl ?_
  intro p e s m args below meth c s₁ B hml hv
  obtain ⟨rfl, hK, hP⟩ := hv
  have hts : ∀ w ∈ zws y cc nL (some (.object C)), w.before av.toArray s = true := atoms_spec (ws := zws y cc nL (some (.object C))) B.pre
  have hlocks := B.notSynchronized
  have hl := lv_entry av (n := nL) hla
  have hent : entryFrame m av.toArray nL = F0 m 0 ((lg_sl av ++ List.replicate (nL - (lg_sl av).length) Slot.unset).toArray) [] := by
    rw [lg_entry_eq]
  rw [hent]
  refine body p e s m av.toArray below meth c _ _ ⟨B.exec, B.bytes, hml, findClass_of_methodNamed B.named, fun w hw => hts w (List.mem_cons_of_mem _ hw), hK, rfl⟩ ⟨hP, va_S.rf⟩ hl ?_
  intro pc ls H locs hdg hI
  exact W.aret B.exec B.bytes B.returns (Or.inl ⟨C, rfl⟩) (Or.inr ⟨_, rfl⟩) (fun t ht hW => ⟨⟨μ, _, rfl, rfl, rfl, by show va_P G.1 vwCl (zw G μ) t.heap; rw [ht]; exact hI.1⟩, hI.2.F ht⟩) hI.2.2.2 hdg
section ZS
variable {p : Program} {l : Launch} {e : Env} {R : Room} {s : State} {m : MethodId} {args : Array Value} {below : List Frame} {meth : Method} {c : Code} {H : Heap} {locs : List Loc} {Q : State → Prop} {cc : ByteArray} {pc : Nat} {ls : Array Slot} {rest st : List Value} {own : String} {nL d : Nat} {G : zG} {μ μ' : zM} {y : MethodName} {C : String} {bytes : ByteArray} {maxL n index d' k : Nat} {ret : Option FieldType} {As av : List Value}
theorem zr_ldcwS {tx : String} {q : Nat} (hexec : p.tables.exec = Jvm.exec) (hb : c.code = cc) (hown : s.vm.findClass own = some m.cls) (hZ : vk_R own index tx q s) (hdg : decode cc pc = .ok (.ldc_w index, 3))
    (kk : W p l e R s m args below meth c H locs 0 0 Q (F0 m (pc + 3) ls (.ref q :: rest))) : W p l e R s m args below meth c H locs 0 0 Q (F0 m pc ls rest) := by
  intro T hT X
  obtain ⟨t, a1, b1⟩ := kk T hT X
  refine ⟨t, ?_, b1⟩
  have hdg' : decode c.code (F0 m pc ls rest).pc = .ok (.ldc_w index, 3) := by rw [hb]; exact hdg
  obtain ⟨k, cf, i, a', hk, hcf, hcp, -, hr, hev'⟩ := Cond.stringRef_spec (args := #[]) hown hZ.1
  cases hZ.2.symm.trans hev'
  obtain ⟨k', hk', he⟩ := X.warmed.alike.2.2 _ _ hk
  have hr' : k'.resolved[index]? = some (some (.string q)) := by
    rcases X.warmed.entry hk hk' index with h | ⟨h, -⟩
    · rw [h]; exact hr
    · rw [hr] at h; cases h
  jvm_step X.here [hexec, hdg', ldc_w.wp_string (e := e) (s := T) (f := F0 m pc ls rest) X.here.top hk' (by rw [he]; exact hcf) hcp hr']
  exact a1
theorem zpreVs (cx : zCX p R s m args c own cc nL d G) (hI : zIW G s μ H locs) (hk : k < 4) : PreV s H RJ0 (G.2.2.2.1 k) (va_Pc (.ref (G.2.2.2.1 k) :: As) (zPre G μ)) As := by
  refine ⟨zblind, ?_, fun U hU hW => ⟨rfl, ?_, ?_⟩⟩
  · exact vk_recv cx.2.2.2.2.2.1.2.2.2.2.1 hk hI.2
  · exact cx.2.2.2.2.2.1.into hI.2 hU hW
  · rw [hU]; exact hI.1
theorem zcVs {r : Int32} (cx : zCX p R s m args c own cc nL d G) (hI : zIW G s μ H locs) (hk : k < 4) (hM : zMI l G y bytes maxL ret d' (.ref (G.2.2.2.1 k) :: As) μ r μ') (hm : zMth y RJ0 bytes maxL ret n) (hi : Cond.instanceMethod y ∈ wsL_law ∧ Cond.selects RJ0 y y ∈ wsL_law) (hl : Cond.methodLink own index y ∈ wsL_law) (hd : d' < d) (hn : As.length = n) (hsz : ls.size = nL) (hst : st = As.reverse ++ .ref (G.2.2.2.1 k) :: rest) (hcat : (rest.map fun v => v.category).sum ≤ 8) (hdg : decode cc pc = .ok (.invokevirtual index, 3))
    (kk : ∀ (H1 : Heap) (locs1 : List Loc), zIW G s μ' H1 locs1 → W p l e R s m args below meth c H1 locs1 0 0 Q (F0 m (pc + 3) ls (.int r :: rest))) : W p l e R s m args below meth c H locs 0 0 Q (F0 m pc ls st) := by
  have hb := zcb cx hm hl hd
  have hts := cx.2.2.2.2.1
  subst hst
  refine va_calli (va_runV (As := As) (rest := rest) ⟨cx.1, cx.2.1, cx.2.2.1, cx.2.2.2.1, hts⟩ hM ⟨hb, hts _ hi.1, hts _ hi.2⟩ (zpreVs cx hI hk) rfl hn hsz rfl (lv_room hcat) hdg ⟨Nat.zero_le _, Nat.zero_le _⟩) hI.2 (fun q _ h => h) (fun q h => h) (fun r1 u t H1 locs1 ht hvm hw hB hz1 hk1 hS => ?_)
  obtain ⟨e1, e2⟩ := hw
  subst e1; subst e2
  rw [ht] at hB
  exact kk H1 locs1 ⟨hB, hS⟩
/-- a static call that answers a String constant -/
theorem zcSs (cx : zCX p R s m args c own cc nL d G) (hI : zIW G s μ H locs) (hM : zMS l G y bytes maxL ret d' As μ k) (hm : zMth y C bytes maxL ret n) (hi : Cond.static y ∈ wsL_law) (hl : Cond.methodLink own index y ∈ wsL_law) (hd : d' < d) (hn : As.length = n) (hsz : ls.size = nL) (hst : st = As.reverse ++ rest) (hcat : (rest.map fun v => v.category).sum ≤ 8) (hdg : decode cc pc = .ok (.invokestatic index, 3))
    (kk : ∀ (H1 : Heap) (locs1 : List Loc), zIW G s μ H1 locs1 → W p l e R s m args below meth c H1 locs1 0 0 Q (F0 m (pc + 3) ls (.ref (G.2.2.2.1 k) :: rest))) : W p l e R s m args below meth c H locs 0 0 Q (F0 m pc ls st) := by
  have hb := zcb cx hm hl hd
  have hts := cx.2.2.2.2.1
  subst hst
  refine va_callr (va_runS (As := As) (rest := rest) ⟨cx.1, cx.2.1, cx.2.2.1, cx.2.2.2.1, hts⟩ hM ⟨hb, hts _ hi⟩ (zpreS cx hI) rfl hn hsz rfl (lv_room hcat) hdg ⟨Nat.zero_le _, Nat.zero_le _⟩) hI.2 (fun q _ h => h) (fun q h => h) (fun u ra t H1 locs1 ht hvm hw hB hz1 hk1 hS => ?_)
  obtain ⟨e1, e2⟩ := hB
  subst hw; subst e1
  rw [ht] at e2
  exact kk H1 locs1 ⟨e2, hS⟩
end ZS
theorem c_J_coder {l : Launch} {G : zG} {μ : zM} {k : Nat} (hk : k < 4) : zMI l G yJ0_coder_7d493 cJ0_coder_7d493 1 (some .byte) 0 [.ref (G.2.2.2.1 k)] μ 0 μ := by
  refine zMI.of (by decide) (Nat.le_of_ble_eq_true rfl) (fun p e s m args below meth c Q ls cx hI hl hret => ?_)
  obtain ⟨hx, hb, hml, hown, hts, hK, hR⟩ := id cx
  have hl : lv_has ls 1 [(0, .ref (G.2.2.2.1 k))] := hl
  obtain ⟨c1, c2, c3⟩ := hK.2.2.2.2
  refine va_gets hx hb c2 hI.2 hown (hts (.fieldLink RJ0 38 "java/lang/String" "COMPACT_STRINGS" "Z") (by decide +kernel)) (fun _ h => h) dJ0_coder_7d493_0 ?_
  refine lv_if_eq (tgt := 13) hx hb dJ0_coder_7d493_3 (by decide) (fun q => absurd q (by decide)) (fun _ => ?_)
  refine lv_aload_n hx hb dJ0_coder_7d493_6 rfl (lv_at hl 0 rfl) ?_
  refine vk_getf hx hb (c1.1 k hk).2.1 hI.2 hown (hts (.fieldLink RJ0 15 "java/lang/String" "coder" "B") (by decide +kernel)) (fun _ h => h) dJ0_coder_7d493_7 ?_
  refine lv_goto (tgt := 14) hx hb dJ0_coder_7d493_10 (by decide) ?_
  exact hret _ _ _ _ dJ0_coder_7d493_14 (by decide) hI
theorem c_J_isLatin1 {l : Launch} {G : zG} {μ : zM} {k : Nat} (hk : k < 4) : zMI l G yJ0_isLatin1_aae02 cJ0_isLatin1_aae02 1 (some .boolean) 0 [.ref (G.2.2.2.1 k)] μ 1 μ := by
  refine zMI.of (by decide) (Nat.le_of_ble_eq_true rfl) (fun p e s m args below meth c Q ls cx hI hl hret => ?_)
  obtain ⟨hx, hb, hml, hown, hts, hK, hR⟩ := id cx
  have hl : lv_has ls 1 [(0, .ref (G.2.2.2.1 k))] := hl
  obtain ⟨c1, c2, c3⟩ := hK.2.2.2.2
  refine va_gets hx hb c2 hI.2 hown (hts (.fieldLink RJ0 38 "java/lang/String" "COMPACT_STRINGS" "Z") (by decide +kernel)) (fun _ h => h) dJ0_isLatin1_aae02_0 ?_
  refine lv_if_eq (tgt := 17) hx hb dJ0_isLatin1_aae02_3 (by decide) (fun q => absurd q (by decide)) (fun _ => ?_)
  refine lv_aload_n hx hb dJ0_isLatin1_aae02_6 rfl (lv_at hl 0 rfl) ?_
  refine vk_getf hx hb (c1.1 k hk).2.1 hI.2 hown (hts (.fieldLink RJ0 15 "java/lang/String" "coder" "B") (by decide +kernel)) (fun _ h => h) dJ0_isLatin1_aae02_7 ?_
  refine lv_if_ne (tgt := 17) hx hb dJ0_isLatin1_aae02_10 (by decide) (fun q => absurd rfl q) (fun _ => ?_)
  refine lv_iconst (v := 1) hx hb dJ0_isLatin1_aae02_13 (by decide) ?_
  refine lv_goto (tgt := 18) hx hb dJ0_isLatin1_aae02_14 (by decide) ?_
  exact hret _ _ _ _ dJ0_isLatin1_aae02_18 (by decide) hI
theorem mt_J_coder : zMth yJ0_coder_7d493 RJ0 cJ0_coder_7d493 1 (some .byte) 0 := ⟨by decide +kernel, by decide, by decide +kernel, by decide +kernel⟩
theorem mt_J_isLatin1 : zMth yJ0_isLatin1_aae02 RJ0 cJ0_isLatin1_aae02 1 (some .boolean) 0 := ⟨by decide +kernel, by decide, by decide +kernel, by decide +kernel⟩
theorem mt_J_length : zMth yJ0_length_8abf5 RJ0 cJ0_length_8abf5 1 (some .int) 0 := ⟨by decide +kernel, by decide, by decide +kernel, by decide +kernel⟩
theorem mt_J_charAt : zMth yJ0_charAt_5068e RJ0 cJ0_charAt_5068e 2 (some .char) 1 := ⟨by decide +kernel, by decide, by decide +kernel, by decide +kernel⟩
theorem mt_J_charAt1 : zMth yJ1_charAt_3b067 RJ1 cJ1_charAt_3b067 2 (some .char) 2 := ⟨by decide +kernel, by decide, by decide +kernel, by decide +kernel⟩
theorem mt_J_ck0 : zMth yJ0_checkIndex_df160 RJ0 cJ0_checkIndex_df160 2 none 2 := ⟨by decide +kernel, by decide, by decide +kernel, by decide +kernel⟩
theorem mt_J_ck3 : zMth yJ3_checkIndex_8e157 RJ3 cJ3_checkIndex_8e157 3 (some .int) 3 := ⟨by decide +kernel, by decide, by decide +kernel, by decide +kernel⟩
theorem mv_J_length : Cond.instanceMethod yJ0_length_8abf5 ∈ wsL_law ∧ Cond.selects RJ0 yJ0_length_8abf5 yJ0_length_8abf5 ∈ wsL_law := by decide +kernel
theorem mv_J_charAt : Cond.instanceMethod yJ0_charAt_5068e ∈ wsL_law ∧ Cond.selects RJ0 yJ0_charAt_5068e yJ0_charAt_5068e ∈ wsL_law := by decide +kernel
def zsl (k : Nat) : Int32 := Int32.ofNat (zlenS.getD k 0)
theorem zsl_0 : ∀ k, k < 4 → zsl k >>> ((0 : Int32) &&& 31) = zsl k := by decide +kernel
theorem c_J_length {l : Launch} {G : zG} {μ : zM} {k : Nat} (hk : k < 4) : zMI l G yJ0_length_8abf5 cJ0_length_8abf5 1 (some .int) 1 [.ref (G.2.2.2.1 k)] μ (zsl k) μ := by
  refine zMI.of (by decide) (Nat.le_of_ble_eq_true rfl) (fun p e s m args below meth c Q ls cx hI hl hret => ?_)
  obtain ⟨hx, hb, hml, hown, hts, hK, hR⟩ := id cx
  have hl : lv_has ls 1 [(0, .ref (G.2.2.2.1 k))] := hl
  obtain ⟨c1, c2, c3⟩ := hK.2.2.2.2
  refine lv_aload_n hx hb dJ0_length_8abf5_0 rfl (lv_at hl 0 rfl) ?_
  refine vk_getf hx hb (c1.1 k hk).2.2.1 hI.2 hown (hts (.fieldLink RJ0 9 "java/lang/String" "value" "[B") (by decide +kernel)) (fun _ h => h) dJ0_length_8abf5_1 ?_
  refine va_tlen (v := zsl k) hx hb (c1.1 k hk).2.2.2 hI.2 rfl dJ0_length_8abf5_4 ?_
  refine lv_aload_n hx hb dJ0_length_8abf5_5 rfl (lv_at hl 0 rfl) ?_
  refine zcVs (As := []) cx hI hk (c_J_coder hk) mt_J_coder (by decide +kernel) (by decide +kernel) (by omega) rfl hl.1 rfl (Nat.le_of_ble_eq_true rfl) dJ0_length_8abf5_6 (fun H locs hI => ?_)
  refine lv_ishr hx hb dJ0_length_8abf5_9 ?_
  rw [zsl_0 k hk]
  exact hret _ _ _ _ dJ0_length_8abf5_10 rfl hI
theorem c_J_ck3 {l : Launch} {G : zG} {μ : zM} {i n : Int32} {v : Value} (hv : v = .null ∨ ∃ t, v = .ref t) (h0 : ¬ i < 0) (hn : i < n) : zMI l G yJ3_checkIndex_8e157 cJ3_checkIndex_8e157 3 (some .int) 0 [.int i, .int n, v] μ i μ := by
  rcases hv with rfl | ⟨t, rfl⟩
  · refine zMI.of (by decide) (Nat.le_of_ble_eq_true rfl) (fun p e s m args below meth c Q ls cx hI hl hret => ?_)
    obtain ⟨hx, hb, hml, hown, hts, hK, hR⟩ := id cx
    have hl : lv_has ls 3 [(0, .int i), (1, .int n), (2, .null)] := hl
    refine lv_iload_n hx hb dJ3_checkIndex_8e157_0 rfl (lv_at hl 0 rfl) ?_
    refine lv_if_lt (tgt := 9) hx hb dJ3_checkIndex_8e157_1 (by decide) (fun q => absurd q h0) (fun _ => ?_)
    refine lv_iload_n hx hb dJ3_checkIndex_8e157_4 rfl (lv_at hl 0 rfl) ?_
    refine lv_iload_n hx hb dJ3_checkIndex_8e157_5 rfl (lv_at hl 1 rfl) ?_
    refine lv_icmp_lt (tgt := 16) hx hb dJ3_checkIndex_8e157_6 (by decide) (fun _ => ?_) (fun q => absurd hn q)
    refine lv_iload_n hx hb dJ3_checkIndex_8e157_16 rfl (lv_at hl 0 rfl) ?_
    exact hret _ _ _ _ dJ3_checkIndex_8e157_17 rfl hI
  · refine zMI.of (by decide) (Nat.le_of_ble_eq_true rfl) (fun p e s m args below meth c Q ls cx hI hl hret => ?_)
    obtain ⟨hx, hb, hml, hown, hts, hK, hR⟩ := id cx
    have hl : lv_has ls 3 [(0, .int i), (1, .int n), (2, .ref t)] := hl
    refine lv_iload_n hx hb dJ3_checkIndex_8e157_0 rfl (lv_at hl 0 rfl) ?_
    refine lv_if_lt (tgt := 9) hx hb dJ3_checkIndex_8e157_1 (by decide) (fun q => absurd q h0) (fun _ => ?_)
    refine lv_iload_n hx hb dJ3_checkIndex_8e157_4 rfl (lv_at hl 0 rfl) ?_
    refine lv_iload_n hx hb dJ3_checkIndex_8e157_5 rfl (lv_at hl 1 rfl) ?_
    refine lv_icmp_lt (tgt := 16) hx hb dJ3_checkIndex_8e157_6 (by decide) (fun _ => ?_) (fun q => absurd hn q)
    refine lv_iload_n hx hb dJ3_checkIndex_8e157_16 rfl (lv_at hl 0 rfl) ?_
    exact hret _ _ _ _ dJ3_checkIndex_8e157_17 rfl hI
theorem c_J_ck0 {l : Launch} {G : zG} {μ : zM} {i n : Int32} (h0 : ¬ i < 0) (hn : i < n) : zMV l G yJ0_checkIndex_df160 cJ0_checkIndex_df160 2 none 1 [.int i, .int n] μ μ := by
  refine zMV.of (by decide) (Nat.le_of_ble_eq_true rfl) (fun p e s m args below meth c Q ls cx hI hl hret => ?_)
  obtain ⟨hx, hb, hml, hown, hts, hK, hR⟩ := id cx
  have hl : lv_has ls 2 [(0, .int i), (1, .int n)] := hl
  obtain ⟨c1, c2, c3⟩ := hK.2.2.2.2
  refine lv_iload_n hx hb dJ0_checkIndex_df160_0 rfl (lv_at hl 0 rfl) ?_
  refine lv_iload_n hx hb dJ0_checkIndex_df160_1 rfl (lv_at hl 1 rfl) ?_
  rcases c3 with c3 | ⟨t, c3⟩
  · refine va_gets hx hb c3 hI.2 hown (hts (.fieldLink RJ0 1053 "jdk/internal/util/Preconditions" "SIOOBE_FORMATTER" "Ljava/util/function/BiFunction;") (by decide +kernel)) (fun _ h => h) dJ0_checkIndex_df160_2 ?_
    refine zcSi (As := [.int i, .int n, .null]) cx hI (c_J_ck3 (Or.inl rfl) h0 hn) mt_J_ck3 (by decide +kernel) (by decide +kernel) (by omega) rfl hl.1 rfl (Nat.le_of_ble_eq_true rfl) dJ0_checkIndex_df160_5 (fun H locs hI => ?_)
    refine lv_pop hx hb dJ0_checkIndex_df160_8 rfl ?_
    exact hret _ _ _ _ dJ0_checkIndex_df160_9 hI
  · refine va_gets hx hb c3 hI.2 hown (hts (.fieldLink RJ0 1053 "jdk/internal/util/Preconditions" "SIOOBE_FORMATTER" "Ljava/util/function/BiFunction;") (by decide +kernel)) (fun _ h => h) dJ0_checkIndex_df160_2 ?_
    refine zcSi (As := [.int i, .int n, .ref t]) cx hI (c_J_ck3 (Or.inr ⟨t, rfl⟩) h0 hn) mt_J_ck3 (by decide +kernel) (by decide +kernel) (by omega) rfl hl.1 rfl (Nat.le_of_ble_eq_true rfl) dJ0_checkIndex_df160_5 (fun H locs hI => ?_)
    refine lv_pop hx hb dJ0_checkIndex_df160_8 rfl ?_
    exact hret _ _ _ _ dJ0_checkIndex_df160_9 hI
def zch (k i : Nat) : Int32 := (((zbytS.getD k []).getD i 0 &&& 255).toUInt32 % 65536).toInt32
theorem zsl_lt {k : Nat} (hk : k < 4) {i : Int32} (h : zin i (zlenS.getD k 0)) : ¬ i < 0 ∧ i < zsl k := by
  have h1 : ¬ i < 0 := fun q => h (Or.inl q)
  have h2 : i.toNatClampNeg < zlenS.getD k 0 := zin_lt h
  refine ⟨h1, ?_⟩
  have hb : zlenS.getD k 0 < 2 ^ 31 := by
    have : ∀ k, k < 4 → zlenS.getD k 0 < 2 ^ 31 := by decide +kernel
    exact this k hk
  obtain ⟨j, hj, rfl⟩ := nI_of h1
  rw [nI_clamp hj] at h2
  exact nI_lt h2 hb
theorem c_J_charAt1 {l : Launch} {G : zG} {μ : zM} {k : Nat} (hk : k < 4) {i : Int32} (hi : zin i (zlenS.getD k 0)) : zMI l G yJ1_charAt_3b067 cJ1_charAt_3b067 2 (some .char) 2 [.ref (G.2.2.2.2 k), .int i] μ (zch k i.toNatClampNeg) μ := by
  refine zMI.of (by decide) (Nat.le_of_ble_eq_true rfl) (fun p e s m args below meth c Q ls cx hI hl hret => ?_)
  obtain ⟨hx, hb, hml, hown, hts, hK, hR⟩ := id cx
  have hl : lv_has ls 2 [(0, .ref (G.2.2.2.2 k)), (1, .int i)] := hl
  obtain ⟨c1, c2, c3⟩ := hK.2.2.2.2
  refine lv_iload_n hx hb dJ1_charAt_3b067_0 rfl (lv_at hl 1 rfl) ?_
  refine lv_aload_n hx hb dJ1_charAt_3b067_1 rfl (lv_at hl 0 rfl) ?_
  refine va_tlen (v := zsl k) hx hb (c1.1 k hk).2.2.2 hI.2 rfl dJ1_charAt_3b067_2 ?_
  refine zcSv (As := [.int i, .int (zsl k)]) cx hI (c_J_ck0 (zsl_lt hk hi).1 (zsl_lt hk hi).2) mt_J_ck0 (by decide +kernel) (by decide +kernel) (by omega) rfl hl.1 rfl (Nat.le_of_ble_eq_true rfl) dJ1_charAt_3b067_3 (fun H locs hI => ?_)
  refine lv_aload_n hx hb dJ1_charAt_3b067_6 rfl (lv_at hl 0 rfl) ?_
  refine lv_iload_n hx hb dJ1_charAt_3b067_7 rfl (lv_at hl 1 rfl) ?_
  refine va_tb (v := .int ((zbytS.getD k []).getD i.toNatClampNeg 0)) hx hb (c1.1 k hk).2.2.2 hI.2 hi rfl dJ1_charAt_3b067_8 ?_
  refine lv_sipush (v := 255) hx hb dJ1_charAt_3b067_9 (by decide) ?_
  refine lv_iand hx hb dJ1_charAt_3b067_12 ?_
  refine lv_i2c hx hb dJ1_charAt_3b067_13 rfl ?_
  exact hret _ _ _ _ dJ1_charAt_3b067_14 (pk_nc _) hI
theorem c_J_charAt {l : Launch} {G : zG} {μ : zM} {k : Nat} (hk : k < 4) {i : Int32} (hi : zin i (zlenS.getD k 0)) : zMI l G yJ0_charAt_5068e cJ0_charAt_5068e 2 (some .char) 3 [.ref (G.2.2.2.1 k), .int i] μ (zch k i.toNatClampNeg) μ := by
  refine zMI.of (by decide) (Nat.le_of_ble_eq_true rfl) (fun p e s m args below meth c Q ls cx hI hl hret => ?_)
  obtain ⟨hx, hb, hml, hown, hts, hK, hR⟩ := id cx
  have hl : lv_has ls 2 [(0, .ref (G.2.2.2.1 k)), (1, .int i)] := hl
  obtain ⟨c1, c2, c3⟩ := hK.2.2.2.2
  refine lv_aload_n hx hb dJ0_charAt_5068e_0 rfl (lv_at hl 0 rfl) ?_
  refine zcVs (As := []) cx hI hk (c_J_isLatin1 hk) mt_J_isLatin1 (by decide +kernel) (by decide +kernel) (by omega) rfl hl.1 rfl (Nat.le_of_ble_eq_true rfl) dJ0_charAt_5068e_1 (fun H locs hI => ?_)
  refine lv_if_eq (tgt := 16) hx hb dJ0_charAt_5068e_4 (by decide) (fun q => absurd q (by decide)) (fun _ => ?_)
  refine lv_aload_n hx hb dJ0_charAt_5068e_7 rfl (lv_at hl 0 rfl) ?_
  refine vk_getf hx hb (c1.1 k hk).2.2.1 hI.2 hown (hts (.fieldLink RJ0 9 "java/lang/String" "value" "[B") (by decide +kernel)) (fun _ h => h) dJ0_charAt_5068e_8 ?_
  refine lv_iload_n hx hb dJ0_charAt_5068e_11 rfl (lv_at hl 1 rfl) ?_
  refine zcSi (As := [.ref (G.2.2.2.2 k), .int i]) cx hI (c_J_charAt1 hk hi) mt_J_charAt1 (by decide +kernel) (by decide +kernel) (by omega) rfl hl.1 rfl (Nat.le_of_ble_eq_true rfl) dJ0_charAt_5068e_12 (fun H locs hI => ?_)
  exact hret _ _ _ _ dJ0_charAt_5068e_15 (pk_nc _) hI
