/-! CONSTRUCTORS: what they take as given (zKC), their contracts (zMC): an object's blank cell becomes its cells B a, at the addresses a -/
abbrev zE : Type := va_G × (Nat → ClassId)
def zNestC (U : State) : Prop := (va_Nw (.methodLinkNest RX7 11 yX6_init zhost) U ∧ va_Nw (.methodLinkNest RX2 17 yX6_init zhost) U ∧ va_Nw (.methodLinkNest RX1 22 yX6_init zhost) U) ∧ (va_Nw (.methodLinkNest RX7 34 yX1_init zhost) U ∧ va_Nw (.methodLinkNest RX7 50 yX3_init zhost) U ∧ va_Nw (.methodLinkNest RX4 11 yX3_init zhost) U) ∧ va_Nw (.methodLinkNest RX7 57 yX4_init zhost) U ∧ va_Nw (.methodLinkNest RX7 68 yX5_init zhost) U
def zKC (E : zE) (U : State) : Prop := va_K E.1 vwCl (ztys E.2) U ∧ zNestC U ∧ va_AO RX6 U ∧ va_AO RX5 U ∧ va_AOA .int U
theorem zKC.into {E : zE} {s U : State} (h : zKC E s) (hW : s.WarmedH U.vm) : zKC E U := by
  obtain ⟨h1, ⟨⟨n1, n2, n3⟩, ⟨n4, n5, n6⟩, n7, n8⟩, a1, a2, a3⟩ := h
  exact ⟨va_K.moved hW.alike h1, ⟨⟨va_Nw.warmM hW n1, va_Nw.warmM hW n2, va_Nw.warmM hW n3⟩, ⟨va_Nw.warmM hW n4, va_Nw.warmM hW n5, va_Nw.warmM hW n6⟩, va_Nw.warmM hW n7, va_Nw.warmM hW n8⟩, a1.moved hW.alike, a2.moved hW.alike, a3.moved hW.alike⟩
theorem zKC.calling {E : zE} {U : State} {g : JFrame} {mk : MethodId} {a : Array Value} (h : zKC E U) : zKC E (U.calling g mk a) := by
  obtain ⟨h1, ⟨⟨n1, n2, n3⟩, ⟨n4, n5, n6⟩, n7, n8⟩, a1, a2, a3⟩ := h
  exact ⟨va_K.moved (u := U) (U := U.calling g mk a) (Vm.Alike.refl U.vm) h1, ⟨⟨va_Nw.same rfl (u := U) rfl n1, va_Nw.same rfl (u := U) rfl n2, va_Nw.same rfl (u := U) rfl n3⟩, ⟨va_Nw.same rfl (u := U) rfl n4, va_Nw.same rfl (u := U) rfl n5, va_Nw.same rfl (u := U) rfl n6⟩, va_Nw.same rfl (u := U) rfl n7, va_Nw.same rfl (u := U) rfl n8⟩, a1.moved (u := U) (U := U.calling g mk a) (Vm.Alike.refl U.vm), a2.moved (u := U) (U := U.calling g mk a) (Vm.Alike.refl U.vm), a3.moved (u := U) (U := U.calling g mk a) (Vm.Alike.refl U.vm)⟩
def zrc (d mc ms : Nat) : Room := { frames := d, cells := mc, slots := ms, locals := 40 * d }
def zPreC (E : zE) (h0 sz ci : Nat) (fs : List Value) : State → Prop := fun U => zKC E U ∧ U.heap.size = sz ∧ va_P E.1 vwCl [(h0, .inr (ci, fs))] U.heap
def zMC (l : Launch) (E : zE) (y : MethodName) (cc : ByteArray) (nL d mc ms ci : Nat) (fs ext : List Value) (h0 sz : Nat) (B : (Nat → Nat) → va_W) : Prop :=
  Met l y (zws y cc nL none) (zrc d mc ms) (va_Pc (.ref h0 :: ext) (zPreC E h0 sz ci fs)) (va_Qv (fun a : Nat → Nat => a 0 = h0) (fun a t => va_P E.1 vwCl (B a) t.heap ∧ va_D (va_A [(h0, .inr (ci, fs))] sz) (B a)) (va_A [(h0, .inr (ci, fs))] sz)) mc ms (va_A [(h0, .inr (ci, fs))] sz)
def zCC (p : Program) (R : Room) (s : State) (m : MethodId) (args : Array Value) (meth : Method) (c : Code) (own : String) (cc : ByteArray) (nL : Nat) (E : zE) (A : Nat → Prop) : Prop :=
  p.tables.exec = Jvm.exec ∧ c.code = cc ∧ c.maxLocals = nL ∧ s.vm.findClass own = some m.cls ∧ (∀ w ∈ wsL_law, w.before args s = true) ∧ zKC E s ∧ (∀ q : Nat, s.heap.size ≤ q → A q)
theorem zMC.of {l : Launch} {E : zE} {y : MethodName} {cc : ByteArray} {nL d mc ms ci : Nat} {fs ext : List Value} {h0 sz : Nat} {B : (Nat → Nat) → va_W} (hy : plainName y.cls = true) (hyn : y.name = "<init>") (hla : (lg_sl (.ref h0 :: ext)).length ≤ nL)
    (body : ∀ p e s m args below meth c (Q : State → Prop) (ls : Array Slot) (A : Nat → Prop), zCC p (zrc d mc ms) s m args meth c y.cls cc nL E A → meth.name = "<init>" → va_P E.1 vwCl [(h0, .inr (ci, fs))] s.heap → va_D A [(h0, .inr (ci, fs))] → va_S A s.heap s.heap [] → lv_has ls nL (lv_args 0 (.ref h0 :: ext)) →
      (∀ (pc : Nat) (ls : Array Slot) (H : Heap) (locs : List Loc) (a : Nat → Nat), decode cc pc = .ok (.return_, 1) → a 0 = h0 → va_P E.1 vwCl (B a) H → va_D A (B a) → va_S A s.heap H locs → W p l e (zrc d mc ms) s m args below meth c H locs mc ms Q (F0 m pc ls [])) →
      W p l e (zrc d mc ms) s m args below meth c s.heap [] 0 0 Q (F0 m 0 ls [])) : zMC l E y cc nL d mc ms ci fs ext h0 sz B := by
  refine Met.ofW (cc := cc) (maxL := nL) (ret := none) hy rfl ?_
  intro p e s m args below meth c s₁ Bd hml hv
  obtain ⟨rfl, hK, hsz, hP⟩ := hv
  have hts : ∀ w ∈ zws y cc nL none, w.before (Value.ref h0 :: ext).toArray s = true := atoms_spec (ws := zws y cc nL none) Bd.pre
  have hlocks := Bd.notSynchronized
  have hl := lv_entry (.ref h0 :: ext) (n := nL) hla
  have hent : entryFrame m (Value.ref h0 :: ext).toArray nL = F0 m 0 ((lg_sl (.ref h0 :: ext) ++ List.replicate (nL - (lg_sl (.ref h0 :: ext)).length) Slot.unset).toArray) [] := by
    rw [lg_entry_eq]
  rw [hent]
  subst hsz
  have hin : meth.name = "<init>" := (name_of_methodNamed Bd.named Bd.method).1.trans hyn
  refine body p e s m (Value.ref h0 :: ext).toArray below meth c _ _ (va_A [(h0, .inr (ci, fs))] s.heap.size) ⟨Bd.exec, Bd.bytes, hml, findClass_of_methodNamed Bd.named, fun w hw => hts w (List.mem_cons_of_mem _ hw), hK, fun q h => Or.inr h⟩ hin hP ?_ va_S.rf hl ?_
  · refine ⟨fun i j p q hi hj e => ?_, fun k q hq => Or.inl ⟨k, q.2, hq⟩⟩
    have h1 : i < 1 := (List.getElem?_eq_some_iff.mp hi).1
    have h2 : j < 1 := (List.getElem?_eq_some_iff.mp hj).1
    omega
  · intro pc ls H locs a hdg ha hB hDB hS
    exact W.vret Bd.exec Bd.bytes Bd.returns (fun t ht hW => ⟨⟨a, rfl, ha, by show va_P E.1 vwCl (B a) t.heap; rw [ht]; exact hB, hDB⟩, hS.F ht⟩) hS.2.2 hdg
theorem zn_join {A : Nat → Prop} {D : va_G} {X w1 : va_W} {q : Nat} {e0 : va_E} {H H1 : Heap} (hP : va_P D vwCl (X ++ [(q, e0)]) H) (hD : va_D A (X ++ [(q, e0)])) (hk : ∀ q' : Nat, q' < H.size → ¬ va_A [(q, e0)] H.size q' → H1[q']? = H[q']?) (hF : ∀ q', va_A [(q, e0)] H.size q' → A q') (hP1 : va_P D vwCl w1 H1) (hD1 : va_D (va_A [(q, e0)] H.size) w1) : va_P D vwCl (X ++ w1) H1 ∧ va_D A (X ++ w1) := by
  have hx : ∀ (i : Nat) (x : Nat × va_E), X[i]? = some x → (X ++ [(q, e0)])[i]? = some x := fun i x h => by rw [List.getElem?_append_left (List.getElem?_eq_some_iff.mp h).1]; exact h
  have hq : (X ++ [(q, e0)])[X.length]? = some (q, e0) := by simp
  have hlt : ∀ (i : Nat) (x : Nat × va_E), X[i]? = some x → x.1 < H.size := fun i x h => (hP i x (hx i x h)).lt
  have hne : ∀ (i : Nat) (x : Nat × va_E), X[i]? = some x → ¬ va_A [(q, e0)] H.size x.1 := by
    intro i x h g
    rcases g with ⟨k, e, hk⟩ | g
    · have hk0 : k = 0 := by
        have := (List.getElem?_eq_some_iff.mp hk).1
        simp at this
        exact this
      subst hk0
      have e1 : x.1 = q := (congrArg Prod.fst (Option.some.inj hk)).symm
      have := hD.1 i X.length x (q, e0) (hx i x h) hq e1
      have h2 := (List.getElem?_eq_some_iff.mp h).1
      omega
    · exact absurd (hlt i x h) (by omega)
  refine ⟨va_P.app (fun k x h => (hP k x (hx k x h)).kept (hk _ (hlt k x h) (hne k x h))) hP1, va_D.app ⟨fun i j x y hi hj e => hD.1 i j x y (hx i x hi) (hx j y hj) e, fun k x h => hD.2 k x (hx k x h)⟩ (hD1.weaken (fun _ _ _ h => hF _ h)) (fun i j x y hi hj e => hne i x hi (by rw [e]; exact hD1.2 j y hj))⟩
section ZN
variable {p : Program} {l : Launch} {e : Env} {R : Room} {s : State} {m : MethodId} {args : Array Value} {below : List Frame} {meth : Method} {c : Code} {H : Heap} {locs : List Loc} {cells slots : Nat} {Q : State → Prop} {cc : ByteArray} {pc : Nat} {ls : Array Slot} {rest st : List Value} {own : String} {nL : Nat} {E : zE} {A : Nat → Prop} {X : va_W} {y : MethodName} {C : String} {bytes : ByteArray} {maxL n index d mc ms q ci : Nat} {fs ext : List Value} {B : (Nat → Nat) → va_W}
theorem zpreC (cx : zCC p R s m args meth c own cc nL E A) (hP : va_P E.1 vwCl (X ++ [(q, .inr (ci, fs))]) H) : PreS s H (va_Pc (.ref q :: ext) (zPreC E q H.size ci fs)) (.ref q :: ext) := by
  refine ⟨fun a U g mk q => ⟨q.1, q.2.1.calling, q.2.2⟩, fun U hU hW => ⟨rfl, cx.2.2.2.2.2.1.into hW, by rw [hU], ?_⟩⟩
  rw [hU]
  intro k x hk
  refine hP (X.length + k) x ?_
  rw [List.getElem?_append_right (by omega)]
  rw [show X.length + k - X.length = k by omega]
  exact hk
theorem zn_F (cx : zCC p R s m args meth c own cc nL E A) (hD : va_D A (X ++ [(q, .inr (ci, fs))])) (hS : va_S A s.heap H locs) : ∀ q', va_A [(q, .inr (ci, fs))] H.size q' → A q' := by
  intro q' h
  rcases h with ⟨k, e, hk⟩ | h
  · refine hD.2 (X.length + k) (q', e) ?_
    rw [List.getElem?_append_right (by omega), show X.length + k - X.length = k by omega]
    exact hk
  · exact cx.2.2.2.2.2.2 q' (Nat.le_trans hS.1 h)
theorem zn_callN {host : String} (cx : zCC p R s m args meth c own cc nL E A) (hP : va_P E.1 vwCl (X ++ [(q, .inr (ci, fs))]) H) (hD : va_D A (X ++ [(q, .inr (ci, fs))])) (hS : va_S A s.heap H locs) (hM : ∀ sz, zMC l E y bytes maxL d mc ms ci fs ext q sz B) (hm : zMth y C bytes maxL none n) (hi : Cond.instanceMethod y ∈ wsL_law) (hy1 : y.name = "<init>") (hl : va_Nw (.methodLinkNest own index y host) s) (hR : d + 1 ≤ R.frames ∧ 8 + (maxL + 11) + 40 * d ≤ R.locals) (hf : cells + mc ≤ R.cells ∧ slots + ms ≤ R.slots) (hn : ext.length = n) (hsz : ls.size = nL) (hst : st = ext.reverse ++ .ref q :: rest) (hcat : (rest.map fun v => v.category).sum ≤ 8) (hdg : decode cc pc = .ok (.invokespecial index, 3))
    (kk : ∀ (a : Nat → Nat) (H1 : Heap) (locs1 : List Loc), a 0 = q → va_P E.1 vwCl (X ++ B a) H1 → va_D A (X ++ B a) → va_S A s.heap H1 locs1 → W p l e R s m args below meth c H1 locs1 (cells + mc) (slots + ms) Q (F0 m (pc + 3) ls rest)) : W p l e R s m args below meth c H locs cells slots Q (F0 m pc ls st) := by
  have hts := cx.2.2.2.2.1
  obtain ⟨⟨m1, m2, m3, m4⟩, m5, m6, m7⟩ := hm
  have hb : va_CN R s args own index y host bytes maxL none (zws y bytes maxL none) (zrc d mc ms) mc ms n := va_cnB n hts (zgoodIn (fun w hw => by
    rcases List.mem_cons.mp hw with h | h
    · rw [h]; exact m7
    · exact h)) rfl rfl rfl hl (by rw [m1]; exact hts _ m6) ⟨m2, m3, m4⟩ hR
  have hFc := zn_F cx hD hS
  subst hst
  refine va_callv (va_runIN (b := q) (As := ext) (rest := rest) ⟨cx.1, cx.2.1, cx.2.2.1, cx.2.2.2.1, hts⟩ (hM H.size) ⟨hb, hy1, hts _ hi⟩ (zpreC cx hP) rfl hn hsz rfl (lv_room hcat) hdg hf) hS (fun q _ h => hFc q h) hFc (fun u t H1 locs1 ht hvm hw hB hz1 hk1 hS1 => ?_)
  obtain ⟨hP1, hD1⟩ := hB
  rw [ht] at hP1
  obtain ⟨hP2, hD2⟩ := zn_join hP hD hk1 hFc hP1 hD1
  exact kk u H1 locs1 hw hP2 hD2 hS1
theorem zn_callI (cx : zCC p R s m args meth c own cc nL E A) (hP : va_P E.1 vwCl (X ++ [(q, .inr (ci, fs))]) H) (hD : va_D A (X ++ [(q, .inr (ci, fs))])) (hS : va_S A s.heap H locs) (hM : ∀ sz, zMC l E y bytes maxL d mc ms ci fs ext q sz B) (hm : zMth y C bytes maxL none n) (hi : Cond.instanceMethod y ∈ wsL_law) (hy1 : y.name = "<init>") (hl : Cond.methodLink own index y ∈ wsL_law) (hR : d + 1 ≤ R.frames ∧ 8 + (maxL + 11) + 40 * d ≤ R.locals) (hf : cells + mc ≤ R.cells ∧ slots + ms ≤ R.slots) (hn : ext.length = n) (hsz : ls.size = nL) (hst : st = ext.reverse ++ .ref q :: rest) (hcat : (rest.map fun v => v.category).sum ≤ 8) (hdg : decode cc pc = .ok (.invokespecial index, 3))
    (kk : ∀ (a : Nat → Nat) (H1 : Heap) (locs1 : List Loc), a 0 = q → va_P E.1 vwCl (X ++ B a) H1 → va_D A (X ++ B a) → va_S A s.heap H1 locs1 → W p l e R s m args below meth c H1 locs1 (cells + mc) (slots + ms) Q (F0 m (pc + 3) ls rest)) : W p l e R s m args below meth c H locs cells slots Q (F0 m pc ls st) := by
  have hts := cx.2.2.2.2.1
  obtain ⟨⟨m1, m2, m3, m4⟩, m5, m6, m7⟩ := hm
  have hb : CallB R s args own index y bytes maxL none (zws y bytes maxL none) (zrc d mc ms) mc ms n := callB_of n hts (zgoodIn (fun w hw => by
    rcases List.mem_cons.mp hw with h | h
    · rw [h]; exact m7
    · exact h)) rfl rfl rfl (by rw [m1]; exact hts _ m6) (hts _ hl) ⟨m2, m3, m4⟩ hR
  have hFc := zn_F cx hD hS
  subst hst
  refine va_callv (va_runI (b := q) (As := ext) (rest := rest) ⟨cx.1, cx.2.1, cx.2.2.1, cx.2.2.2.1, hts⟩ (hM H.size) ⟨hb, hy1, hts _ hi⟩ (zpreC cx hP) rfl hn hsz rfl (lv_room hcat) hdg hf) hS (fun q _ h => hFc q h) hFc (fun u t H1 locs1 ht hvm hw hB hz1 hk1 hS1 => ?_)
  obtain ⟨hP1, hD1⟩ := hB
  rw [ht] at hP1
  obtain ⟨hP2, hD2⟩ := zn_join hP hD hk1 hFc hP1 hD1
  exact kk u H1 locs1 hw hP2 hD2 hS1
/-- an array of a class that is known -/
theorem zn_newa {ws : va_W} {atype : ArrayType} {ty : FieldType} (t0 : Nat) {k0 : Nat} (cx : zCC p R s m args meth c own cc nL E A) (hP : va_P E.1 vwCl ws H) (hD : va_D A ws) (hS : va_S A s.heap H locs) (harr : Cond.arrayClass (newarray.typeOf atype) ∈ wsL_law) (hty : newarray.typeOf atype = ty) (hno : ∀ C, ty ≠ .object C) (ht : (ztys E.2)[t0]? = some (E.2 k0, ty)) {n : Int32} {N' : Nat} {a0 : vp_A} (ha : ∀ cA : ClassId, vp_cell cA a0 = arrV cA N' (fun _ => defaultValue ty)) (hn : ¬ n < 0) (hN : n.toNatClampNeg = N') (hbytes : N' * componentBytes ty ≤ 536870912) (hcells : cells + 1 ≤ R.cells) (hslots : slots + N' ≤ R.slots) (hdg : decode cc pc = .ok (.newarray atype, 2))
    (kk : ∀ (q : Nat) (H1 : Heap), va_P E.1 vwCl (ws ++ [(q, .inl (E.2 k0, a0))]) H1 → va_D A (ws ++ [(q, .inl (E.2 k0, a0))]) → va_S A s.heap H1 locs → W p l e R s m args below meth c H1 locs (cells + 1) (slots + N') Q (F0 m (pc + 2) ls (.ref q :: rest))) : W p l e R s m args below meth c H locs cells slots Q (F0 m pc ls (.int n :: rest)) := by
  obtain ⟨hx, hb, hml, hown, hts, hK, hA⟩ := cx
  refine va_newa (atype := atype) hx hb (hts _ harr) hty hK.1 hP hD hS hA ha hn hN hbytes hcells hslots hdg (fun q cA H1 hK1 hP1 hD1 hS1 => ?_)
  have h1 := (hK1.2 (ztys E.2).length (cA, ty) (by simp)).2
  have h2 := (hK.1.2 t0 _ ht).2
  have e : cA = E.2 k0 := by
    cases ty with
    | object C => exact absurd rfl (hno C)
    | _ => exact Option.some.inj (h1.symm.trans h2)
  subst e
  exact kk q H1 hP1 hD1 hS1
/-- an array of references of a class that is known -/
theorem zn_newq {ws : va_W} {C : String} (t0 : Nat) {k0 : Nat} (cx : zCC p R s m args meth c own cc nL E A) (hP : va_P E.1 vwCl ws H) (hD : va_D A ws) (hS : va_S A s.heap H locs) (hcl : Cond.classLink own index C ∈ wsL_law) (hover : va_AO C s) (ht : (ztys E.2)[t0]? = some (E.2 k0, .object C)) {n : Int32} {N' : Nat} (hn : ¬ n < 0) (hN : n.toNatClampNeg = N') (hbytes : N' * 4 ≤ 536870912) (hcells : cells + 1 ≤ R.cells) (hslots : slots + N' ≤ R.slots) (hdg : decode cc pc = .ok (.anewarray index, 3))
    (kk : ∀ (q : Nat) (H1 : Heap), va_P E.1 vwCl (ws ++ [(q, .inl (E.2 k0, N', .inr (.inr (.inr (.inr (fun _ => none))))))]) H1 → va_D A (ws ++ [(q, .inl (E.2 k0, N', .inr (.inr (.inr (.inr (fun _ => none))))))]) → va_S A s.heap H1 locs → W p l e R s m args below meth c H1 locs (cells + 1) (slots + N') Q (F0 m (pc + 3) ls (.ref q :: rest))) : W p l e R s m args below meth c H locs cells slots Q (F0 m pc ls (.int n :: rest)) := by
  obtain ⟨hx, hb, hml, hown, hts, hK, hA⟩ := cx
  refine va_newq hx hb hown (hts _ hcl) hover hK.1 hP hD hS hA hn hN hbytes hcells hslots hdg (fun q cA H1 hK1 hP1 hD1 hS1 => ?_)
  obtain ⟨k1, c1, f1, f2, f3, f4⟩ := (hK1.2 (ztys E.2).length (cA, .object C) (by simp)).2
  obtain ⟨k2, c2, g1, g2, g3, g4⟩ := (hK.1.2 t0 _ ht).2
  have e : cA = E.2 k0 := Option.some.inj (f4.symm.trans g4)
  subst e
  exact kk q H1 hP1 hD1 hS1
end ZN
