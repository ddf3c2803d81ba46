/-! CALLS: by a contract zMI, zML, zMV of the callee; the ends of a method; a contract out of a walk -/
theorem zblind {G : zG} {μ : zM} {av : List Value} : FrameBlind (va_Pc av (zPre G μ)) := fun a U g mk q => ⟨q.1, q.2.1.calling, q.2.2⟩
section ZC
variable {p : Program} {l : Launch} {e : Env} {R : Room} {s : State} {m : MethodId} {args : Array Value} {below : List Frame} {meth : Method} {c : Code} {H : Heap} {locs : List Loc} {Q : State → Prop} {cc : ByteArray} {pc : Nat} {ls : Array Slot} {rest st : List Value} {own : String} {nL d : Nat} {G : zG} {μ μ' : zM} {y : MethodName} {C : String} {bytes : ByteArray} {maxL n index d' o : Nat} {ret : Option FieldType} {As av : List Value}
theorem zcb (cx : zCX p R s m args c own cc nL d G) (hm : zMth y C bytes maxL ret n) (hl : Cond.methodLink own index y ∈ wsL_law) (hd : d' < d) : CallB R s args own index y bytes maxL ret (zws y bytes maxL ret) (zrm d') 0 0 n := by
  obtain ⟨hx, hb, hml, hown, hts, hK, hR⟩ := cx
  obtain ⟨⟨h1, h2, h3, h4⟩, h5, h6, h7⟩ := hm
  refine callB_of n hts (zgoodIn (fun w hw => ?_)) rfl rfl rfl (by rw [h1]; exact hts _ h6) (hts _ hl) ⟨h2, h3, h4⟩ ?_
  · rcases List.mem_cons.mp hw with h | h
    · rw [h]; exact h7
    · exact h
  · rw [hR]
    refine ⟨hd, ?_⟩
    show 8 + (maxL + 11) + 40 * d' ≤ 40 * d
    omega
theorem zcn {host : String} (cx : zCX p R s m args c own cc nL d G) (hm : zMth y C bytes maxL ret n) (hl : va_Nw (.methodLinkNest own index y host) s) (hd : d' < d) : va_CN R s args own index y host bytes maxL ret (zws y bytes maxL ret) (zrm d') 0 0 n := by
  obtain ⟨hx, hb, hml, hown, hts, hK, hR⟩ := cx
  obtain ⟨⟨h1, h2, h3, h4⟩, h5, h6, h7⟩ := hm
  refine va_cnB n hts (zgoodIn (fun w hw => ?_)) rfl rfl rfl hl (by rw [h1]; exact hts _ h6) ⟨h2, h3, h4⟩ ?_
  · rcases List.mem_cons.mp hw with h | h
    · rw [h]; exact h7
    · exact h
  · rw [hR]
    refine ⟨hd, ?_⟩
    show 8 + (maxL + 11) + 40 * d' ≤ 40 * d
    omega
theorem zpreS (cx : zCX p R s m args c own cc nL d G) (hI : zIW G s μ H locs) : PreS s H (va_Pc As (zPre G μ)) As := by
  refine ⟨zblind, fun U hU hW => ⟨rfl, ?_, ?_⟩⟩
  · exact cx.2.2.2.2.2.1.into hI.2 hU hW
  · rw [hU]; exact hI.1
theorem zpreV (cx : zCX p R s m args c own cc nL d G) (hI : zIW G s μ H locs) {T : u_T} {N : Nat} (ho : (o, 0) ∈ zK) (hc : vwCl[zc o]? = some (C, T, N)) : PreV s H C (G.2.2.1 o 0) (va_Pc (.ref (G.2.2.1 o 0) :: As) (zPre G μ)) As := by
  refine ⟨zblind, ?_, fun U hU hW => ⟨rfl, ?_, ?_⟩⟩
  · obtain ⟨q0, hq⟩ := zK_at ho
    obtain ⟨fs, hfs⟩ := zcell_0 (G := G) (o := o) (S := μ o)
    have e := zw_at (G := G) (μ := μ) hq
    rw [hfs] at e
    exact va_recv cx.2.2.2.2.2.1.1 hI.1 hc e
  · exact cx.2.2.2.2.2.1.into hI.2 hU hW
  · rw [hU]; exact hI.1
theorem zcVi {r : Int32} {T : u_T} {N : Nat} (cx : zCX p R s m args c own cc nL d G) (hI : zIW G s μ H locs) (hM : zMI l G y bytes maxL ret d' (.ref (G.2.2.1 o 0) :: As) μ r μ') (hm : zMth y C bytes maxL ret n) (hi : Cond.instanceMethod y ∈ wsL_law ∧ Cond.selects C y y ∈ wsL_law) (hl : Cond.methodLink own index y ∈ wsL_law) (hd : d' < d) (ho : (o, 0) ∈ zK) (hc : vwCl[zc o]? = some (C, T, N)) (hn : As.length = n) (hsz : ls.size = nL) (hst : st = As.reverse ++ .ref (G.2.2.1 o 0) :: rest) (hcat : (rest.map fun v => v.category).sum ≤ 8) (hdg : decode cc pc = .ok (.invokevirtual index, 3))
    (kk : ∀ (H1 : Heap) (locs1 : List Loc), zIW G s μ' H1 locs1 → W p l e R s m args below meth c H1 locs1 0 0 Q (F0 m (pc + 3) ls (.int r :: rest))) : W p l e R s m args below meth c H locs 0 0 Q (F0 m pc ls st) := by
  have hb := zcb cx hm hl hd
  have hts := cx.2.2.2.2.1
  subst hst
  refine va_calli (va_runV (As := As) (rest := rest) ⟨cx.1, cx.2.1, cx.2.2.1, cx.2.2.2.1, hts⟩ hM ⟨hb, hts _ hi.1, hts _ hi.2⟩ (zpreV cx hI ho hc) rfl hn hsz rfl (lv_room hcat) hdg ⟨Nat.zero_le _, Nat.zero_le _⟩) hI.2 (fun q _ h => h) (fun q h => h) (fun r1 u t H1 locs1 ht hvm hw hB hz1 hk1 hS => ?_)
  obtain ⟨e1, e2⟩ := hw
  subst e1; subst e2
  rw [ht] at hB
  exact kk H1 locs1 ⟨hB, hS⟩
theorem zcVl {r : Int64} {T : u_T} {N : Nat} (cx : zCX p R s m args c own cc nL d G) (hI : zIW G s μ H locs) (hM : zML l G y bytes maxL ret d' (.ref (G.2.2.1 o 0) :: As) μ r μ') (hm : zMth y C bytes maxL ret n) (hi : Cond.instanceMethod y ∈ wsL_law ∧ Cond.selects C y y ∈ wsL_law) (hl : Cond.methodLink own index y ∈ wsL_law) (hd : d' < d) (ho : (o, 0) ∈ zK) (hc : vwCl[zc o]? = some (C, T, N)) (hn : As.length = n) (hsz : ls.size = nL) (hst : st = As.reverse ++ .ref (G.2.2.1 o 0) :: rest) (hcat : (rest.map fun v => v.category).sum ≤ 8) (hdg : decode cc pc = .ok (.invokevirtual index, 3))
    (kk : ∀ (H1 : Heap) (locs1 : List Loc), zIW G s μ' H1 locs1 → W p l e R s m args below meth c H1 locs1 0 0 Q (F0 m (pc + 3) ls (.long r :: rest))) : W p l e R s m args below meth c H locs 0 0 Q (F0 m pc ls st) := by
  have hb := zcb cx hm hl hd
  have hts := cx.2.2.2.2.1
  subst hst
  refine va_calll (va_runV (As := As) (rest := rest) ⟨cx.1, cx.2.1, cx.2.2.1, cx.2.2.2.1, hts⟩ hM ⟨hb, hts _ hi.1, hts _ hi.2⟩ (zpreV cx hI ho hc) rfl hn hsz rfl (lv_room hcat) hdg ⟨Nat.zero_le _, Nat.zero_le _⟩) hI.2 (fun q _ h => h) (fun q h => h) (fun r1 u t H1 locs1 ht hvm hw hB hz1 hk1 hS => ?_)
  obtain ⟨e1, e2⟩ := hw
  subst e1; subst e2
  rw [ht] at hB
  exact kk H1 locs1 ⟨hB, hS⟩
theorem zcVv {T : u_T} {N : Nat} (cx : zCX p R s m args c own cc nL d G) (hI : zIW G s μ H locs) (hM : zMV l G y bytes maxL ret d' (.ref (G.2.2.1 o 0) :: As) μ μ') (hm : zMth y C bytes maxL ret n) (hi : Cond.instanceMethod y ∈ wsL_law ∧ Cond.selects C y y ∈ wsL_law) (hl : Cond.methodLink own index y ∈ wsL_law) (hd : d' < d) (ho : (o, 0) ∈ zK) (hc : vwCl[zc o]? = some (C, T, N)) (hn : As.length = n) (hsz : ls.size = nL) (hst : st = As.reverse ++ .ref (G.2.2.1 o 0) :: rest) (hcat : (rest.map fun v => v.category).sum ≤ 8) (hdg : decode cc pc = .ok (.invokevirtual index, 3))
    (kk : ∀ (H1 : Heap) (locs1 : List Loc), zIW G s μ' H1 locs1 → W p l e R s m args below meth c H1 locs1 0 0 Q (F0 m (pc + 3) ls rest)) : W p l e R s m args below meth c H locs 0 0 Q (F0 m pc ls st) := by
  have hb := zcb cx hm hl hd
  have hts := cx.2.2.2.2.1
  subst hst
  refine va_callv (va_runV (As := As) (rest := rest) ⟨cx.1, cx.2.1, cx.2.2.1, cx.2.2.2.1, hts⟩ hM ⟨hb, hts _ hi.1, hts _ hi.2⟩ (zpreV cx hI ho hc) rfl hn hsz rfl (lv_room hcat) hdg ⟨Nat.zero_le _, Nat.zero_le _⟩) hI.2 (fun q _ h => h) (fun q h => h) (fun u t H1 locs1 ht hvm hw hB hz1 hk1 hS => ?_)
  subst hw
  rw [ht] at hB
  exact kk H1 locs1 ⟨hB, hS⟩
theorem zcSi {r : Int32} (cx : zCX p R s m args c own cc nL d G) (hI : zIW G s μ H locs) (hM : zMI l G y bytes maxL ret d' As μ r μ') (hm : zMth y C bytes maxL ret n) (hi : Cond.static y ∈ wsL_law) (hl : Cond.methodLink own index y ∈ wsL_law) (hd : d' < d) (hn : As.length = n) (hsz : ls.size = nL) (hst : st = As.reverse ++ rest) (hcat : (rest.map fun v => v.category).sum ≤ 8) (hdg : decode cc pc = .ok (.invokestatic index, 3))
    (kk : ∀ (H1 : Heap) (locs1 : List Loc), zIW G s μ' H1 locs1 → W p l e R s m args below meth c H1 locs1 0 0 Q (F0 m (pc + 3) ls (.int r :: rest))) : W p l e R s m args below meth c H locs 0 0 Q (F0 m pc ls st) := by
  have hb := zcb cx hm hl hd
  have hts := cx.2.2.2.2.1
  subst hst
  refine va_calli (va_runS (As := As) (rest := rest) ⟨cx.1, cx.2.1, cx.2.2.1, cx.2.2.2.1, hts⟩ hM ⟨hb, hts _ hi⟩ (zpreS cx hI) rfl hn hsz rfl (lv_room hcat) hdg ⟨Nat.zero_le _, Nat.zero_le _⟩) hI.2 (fun q _ h => h) (fun q h => h) (fun r1 u t H1 locs1 ht hvm hw hB hz1 hk1 hS => ?_)
  obtain ⟨e1, e2⟩ := hw
  subst e1; subst e2
  rw [ht] at hB
  exact kk H1 locs1 ⟨hB, hS⟩
theorem zcSl {r : Int64} (cx : zCX p R s m args c own cc nL d G) (hI : zIW G s μ H locs) (hM : zML l G y bytes maxL ret d' As μ r μ') (hm : zMth y C bytes maxL ret n) (hi : Cond.static y ∈ wsL_law) (hl : Cond.methodLink own index y ∈ wsL_law) (hd : d' < d) (hn : As.length = n) (hsz : ls.size = nL) (hst : st = As.reverse ++ rest) (hcat : (rest.map fun v => v.category).sum ≤ 8) (hdg : decode cc pc = .ok (.invokestatic index, 3))
    (kk : ∀ (H1 : Heap) (locs1 : List Loc), zIW G s μ' H1 locs1 → W p l e R s m args below meth c H1 locs1 0 0 Q (F0 m (pc + 3) ls (.long r :: rest))) : W p l e R s m args below meth c H locs 0 0 Q (F0 m pc ls st) := by
  have hb := zcb cx hm hl hd
  have hts := cx.2.2.2.2.1
  subst hst
  refine va_calll (va_runS (As := As) (rest := rest) ⟨cx.1, cx.2.1, cx.2.2.1, cx.2.2.2.1, hts⟩ hM ⟨hb, hts _ hi⟩ (zpreS cx hI) rfl hn hsz rfl (lv_room hcat) hdg ⟨Nat.zero_le _, Nat.zero_le _⟩) hI.2 (fun q _ h => h) (fun q h => h) (fun r1 u t H1 locs1 ht hvm hw hB hz1 hk1 hS => ?_)
  obtain ⟨e1, e2⟩ := hw
  subst e1; subst e2
  rw [ht] at hB
  exact kk H1 locs1 ⟨hB, hS⟩
theorem zcSv (cx : zCX p R s m args c own cc nL d G) (hI : zIW G s μ H locs) (hM : zMV l G y bytes maxL ret d' As μ μ') (hm : zMth y C bytes maxL ret n) (hi : Cond.static y ∈ wsL_law) (hl : Cond.methodLink own index y ∈ wsL_law) (hd : d' < d) (hn : As.length = n) (hsz : ls.size = nL) (hst : st = As.reverse ++ rest) (hcat : (rest.map fun v => v.category).sum ≤ 8) (hdg : decode cc pc = .ok (.invokestatic index, 3))
    (kk : ∀ (H1 : Heap) (locs1 : List Loc), zIW G s μ' H1 locs1 → W p l e R s m args below meth c H1 locs1 0 0 Q (F0 m (pc + 3) ls rest)) : W p l e R s m args below meth c H locs 0 0 Q (F0 m pc ls st) := by
  have hb := zcb cx hm hl hd
  have hts := cx.2.2.2.2.1
  subst hst
  refine va_callv (va_runS (As := As) (rest := rest) ⟨cx.1, cx.2.1, cx.2.2.1, cx.2.2.2.1, hts⟩ hM ⟨hb, hts _ hi⟩ (zpreS cx hI) rfl hn hsz rfl (lv_room hcat) hdg ⟨Nat.zero_le _, Nat.zero_le _⟩) hI.2 (fun q _ h => h) (fun q h => h) (fun u t H1 locs1 ht hvm hw hB hz1 hk1 hS => ?_)
  subst hw
  rw [ht] at hB
  exact kk H1 locs1 ⟨hB, hS⟩
/-- a nest mate's private static method -/
theorem zcNi {r : Int32} {host : String} (cx : zCX p R s m args c own cc nL d G) (hI : zIW G s μ H locs) (hM : zMI l G y bytes maxL ret d' As μ r μ') (hm : zMth y C bytes maxL ret n) (hi : Cond.static y ∈ wsL_law) (hl : va_Nw (.methodLinkNest own index y host) s) (hd : d' < d) (hn : As.length = n) (hsz : ls.size = nL) (hst : st = As.reverse ++ rest) (hcat : (rest.map fun v => v.category).sum ≤ 8) (hdg : decode cc pc = .ok (.invokestatic index, 3))
    (kk : ∀ (H1 : Heap) (locs1 : List Loc), zIW G s μ' H1 locs1 → W p l e R s m args below meth c H1 locs1 0 0 Q (F0 m (pc + 3) ls (.int r :: rest))) : W p l e R s m args below meth c H locs 0 0 Q (F0 m pc ls st) := by
  have hb := zcn cx hm hl hd
  have hts := cx.2.2.2.2.1
  subst hst
  refine va_calli (va_runSN (As := As) (rest := rest) ⟨cx.1, cx.2.1, cx.2.2.1, cx.2.2.2.1, hts⟩ hM ⟨hb, hts _ hi, trivial⟩ (zpreS cx hI) rfl hn hsz rfl (lv_room hcat) hdg ⟨Nat.zero_le _, Nat.zero_le _⟩) hI.2 (fun q _ h => h) (fun q h => h) (fun r1 u t H1 locs1 ht hvm hw hB hz1 hk1 hS => ?_)
  obtain ⟨e1, e2⟩ := hw
  subst e1; subst e2
  rw [ht] at hB
  exact kk H1 locs1 ⟨hB, hS⟩
/-- Math.max -/
theorem zcmax {x z : Int32} (cx : zCX p R s m args c own cc nL d G) (hsz : ls.size = nL) (hl : Cond.methodLink own index Lib.Math.max.name ∈ wsL_law) (hd : 1 ≤ d) (hcat : (rest.map fun v => v.category).sum ≤ 8) (hdg : decode cc pc = .ok (.invokestatic index, 3))
    (kk : W p l e R s m args below meth c H locs 0 0 Q (F0 m (pc + 3) ls (.int (if x < z then z else x) :: rest))) : W p l e R s m args below meth c H locs 0 0 Q (F0 m pc ls (.int z :: .int x :: rest)) := by
  obtain ⟨hx, hb, hml, hown, hts, hK, hR⟩ := cx
  exact va_mmax hx hb (hml.trans hsz.symm) hown (hts _ hl) (hts _ (by decide +kernel)) (hts _ (by decide +kernel)) (hts _ (by decide +kernel)) (by rw [hR]; exact hd) (by rw [hR]; show _ ≤ 40 * d; omega) (Nat.zero_le _) (Nat.zero_le _) hdg kk
/-- the end of a method that answers an int -/
def zRi (p : Program) (l : Launch) (e : Env) (R : Room) (s : State) (m : MethodId) (args : Array Value) (below : List Frame) (meth : Method) (c : Code) (cc : ByteArray) (G : zG) (ty : FieldType) (Q : State → Prop) (r : Int32) (μ : zM) : Prop := ∀ (pc : Nat) (ls : Array Slot) (H : Heap) (locs : List Loc), decode cc pc = .ok (.ireturn, 1) → narrow ty (.int r) = .int r → zIW G s μ H locs → W p l e R s m args below meth c H locs 0 0 Q (F0 m pc ls [.int r])
def zRl (p : Program) (l : Launch) (e : Env) (R : Room) (s : State) (m : MethodId) (args : Array Value) (below : List Frame) (meth : Method) (c : Code) (cc : ByteArray) (G : zG) (Q : State → Prop) (r : Int64) (μ : zM) : Prop := ∀ (pc : Nat) (ls : Array Slot) (H : Heap) (locs : List Loc), decode cc pc = .ok (.lreturn, 1) → zIW G s μ H locs → W p l e R s m args below meth c H locs 0 0 Q (F0 m pc ls [.long r])
def zRv (p : Program) (l : Launch) (e : Env) (R : Room) (s : State) (m : MethodId) (args : Array Value) (below : List Frame) (meth : Method) (c : Code) (cc : ByteArray) (G : zG) (Q : State → Prop) (μ : zM) : Prop := ∀ (pc : Nat) (ls : Array Slot) (H : Heap) (locs : List Loc), decode cc pc = .ok (.return_, 1) → zIW G s μ H locs → W p l e R s m args below meth c H locs 0 0 Q (F0 m pc ls [])
end ZC
/-- a contract out of a walk of the method's body -/
theorem zMI.of {l : Launch} {G : zG} {y : MethodName} {cc : ByteArray} {nL d : Nat} {ty : FieldType} {av : List Value} {μ μ' : zM} {r : Int32} (hy : plainName y.cls = true) (hla : (lg_sl av).length ≤ nL)
    (body : ∀ p e s m args below meth c (Q : State → Prop) (ls : Array Slot), zCX p (zrm d) s m args c y.cls cc nL d G → zIW G s μ s.heap [] → lv_has ls nL (lv_args 0 av) → zRi p l e (zrm d) s m args below meth c cc G ty Q r μ' → W p l e (zrm d) s m args below meth c s.heap [] 0 0 Q (F0 m 0 ls [])) : zMI l G y cc nL (some ty) d av μ r μ' := by
  refine Met.ofW (cc := cc) (maxL := nL) (ret := some ty) hy rfl ?_
  intro p e s m args below meth c s₁ B hml hv
  obtain ⟨rfl, hK, hP⟩ := hv
  have hts : ∀ w ∈ zws y cc nL (some ty), w.before av.toArray s = true := atoms_spec (ws := zws y cc nL (some ty)) B.pre
  have hlocks := B.notSynchronized
  have hl := lv_entry av (n := nL) hla
  have hent : entryFrame m av.toArray nL = F0 m 0 ((lg_sl av ++ List.replicate (nL - (lg_sl av).length) Slot.unset).toArray) [] := by
    rw [lg_entry_eq]
  rw [hent]
  refine body p e s m av.toArray below meth c _ _ ⟨B.exec, B.bytes, hml, findClass_of_methodNamed B.named, fun w hw => hts w (List.mem_cons_of_mem _ hw), hK, rfl⟩ ⟨hP, va_S.rf⟩ hl ?_
  intro pc ls H locs hdg hn hI
  exact W.zret B.exec B.bytes B.returns hn (fun t ht hW => ⟨⟨r, μ', rfl, ⟨rfl, rfl⟩, by show va_P G.1 vwCl (zw G μ') t.heap; rw [ht]; exact hI.1⟩, hI.2.F ht⟩) hI.2.2.2 hdg
theorem zML.of {l : Launch} {G : zG} {y : MethodName} {cc : ByteArray} {nL d : Nat} {av : List Value} {μ μ' : zM} {r : Int64} (hy : plainName y.cls = true) (hla : (lg_sl av).length ≤ nL)
    (body : ∀ p e s m args below meth c (Q : State → Prop) (ls : Array Slot), zCX p (zrm d) s m args c y.cls cc nL d G → zIW G s μ s.heap [] → lv_has ls nL (lv_args 0 av) → zRl p l e (zrm d) s m args below meth c cc G Q r μ' → W p l e (zrm d) s m args below meth c s.heap [] 0 0 Q (F0 m 0 ls [])) : zML l G y cc nL (some .long) d av μ r μ' := by
  refine Met.ofW (cc := cc) (maxL := nL) (ret := some .long) hy rfl ?_
  intro p e s m args below meth c s₁ B hml hv
  obtain ⟨rfl, hK, hP⟩ := hv
  have hts : ∀ w ∈ zws y cc nL (some .long), w.before av.toArray s = true := atoms_spec (ws := zws y cc nL (some .long)) B.pre
  have hlocks := B.notSynchronized
  have hl := lv_entry av (n := nL) hla
  have hent : entryFrame m av.toArray nL = F0 m 0 ((lg_sl av ++ List.replicate (nL - (lg_sl av).length) Slot.unset).toArray) [] := by
    rw [lg_entry_eq]
  rw [hent]
  refine body p e s m av.toArray below meth c _ _ ⟨B.exec, B.bytes, hml, findClass_of_methodNamed B.named, fun w hw => hts w (List.mem_cons_of_mem _ hw), hK, rfl⟩ ⟨hP, va_S.rf⟩ hl ?_
  intro pc ls H locs hdg hI
  exact W.lret B.exec B.bytes B.returns (fun t ht hW => ⟨⟨r, μ', rfl, ⟨rfl, rfl⟩, by show va_P G.1 vwCl (zw G μ') t.heap; rw [ht]; exact hI.1⟩, hI.2.F ht⟩) hI.2.2.2 hdg
theorem zMV.of {l : Launch} {G : zG} {y : MethodName} {cc : ByteArray} {nL d : Nat} {av : List Value} {μ μ' : zM} (hy : plainName y.cls = true) (hla : (lg_sl av).length ≤ nL)
    (body : ∀ p e s m args below meth c (Q : State → Prop) (ls : Array Slot), zCX p (zrm d) s m args c y.cls cc nL d G → zIW G s μ s.heap [] → lv_has ls nL (lv_args 0 av) → zRv p l e (zrm d) s m args below meth c cc G Q μ' → W p l e (zrm d) s m args below meth c s.heap [] 0 0 Q (F0 m 0 ls [])) : zMV l G y cc nL none d av μ μ' := by
  refine Met.ofW (cc := cc) (maxL := nL) (ret := none) hy rfl ?_
  intro p e s m args below meth c s₁ B hml hv
  obtain ⟨rfl, hK, hP⟩ := hv
  have hts : ∀ w ∈ zws y cc nL none, w.before av.toArray s = true := atoms_spec (ws := zws y cc nL none) B.pre
  have hlocks := B.notSynchronized
  have hl := lv_entry av (n := nL) hla
  have hent : entryFrame m av.toArray nL = F0 m 0 ((lg_sl av ++ List.replicate (nL - (lg_sl av).length) Slot.unset).toArray) [] := by
    rw [lg_entry_eq]
  rw [hent]
  refine body p e s m av.toArray below meth c _ _ ⟨B.exec, B.bytes, hml, findClass_of_methodNamed B.named, fun w hw => hts w (List.mem_cons_of_mem _ hw), hK, rfl⟩ ⟨hP, va_S.rf⟩ hl ?_
  intro pc ls H locs hdg hI
  exact W.vret B.exec B.bytes B.returns (fun t ht hW => ⟨⟨μ', rfl, rfl, by show va_P G.1 vwCl (zw G μ') t.heap; rw [ht]; exact hI.1⟩, hI.2.F ht⟩) hI.2.2.2 hdg
