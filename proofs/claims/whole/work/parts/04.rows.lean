/-! WHAT EVERY CONTRACT TAKES AS GIVEN OF THE MACHINE (zKX), the world's rows, the calls -/
def zNest (U : State) : Prop := va_Nw (.methodLinkNest RX6 73 yX7_hasBit zhost) U ∧ va_Nw (.methodLinkNest RX4 112 yX7_hasBit zhost) U ∧ va_Nw (.methodLinkNest RX1 118 yX7_hasBit zhost) U
def zlenS : List Nat := [4, 6, 7, 8]
def zbytS : List (List Int32) := [[110, 111, 110, 101], [115, 116, 101, 97, 100, 121], [103, 114, 111, 119, 105, 110, 103], [100, 111, 117, 98, 108, 105, 110, 103]]
def zStr (G : zG) (U : State) (H : Heap) : Prop := vk_S 4 zlenS zbytS G.2.2.2.1 G.2.2.2.2 (zA G) U H ∧ va_Z RJ0 "COMPACT_STRINGS" "Z" (.int 1) (zA G) U H ∧ va_Zq RJ3 "SIOOBE_FORMATTER" "Ljava/util/function/BiFunction;" (zA G) U H
def zRef (G : zG) (U : State) : Prop := vk_R RX7 337 "none" (G.2.2.2.1 0) U ∧ vk_R RX1 79 "steady" (G.2.2.2.1 1) U ∧ vk_R RX1 81 "growing" (G.2.2.2.1 2) U ∧ vk_R RX1 83 "doubling" (G.2.2.2.1 3) U
def zinj (G : zG) : Prop := ∀ κ ∈ zK, ∀ κ' ∈ zK, G.2.2.1 κ.1 κ.2 = G.2.2.1 κ'.1 κ'.2 → κ = κ'
def zKX (G : zG) (U : State) : Prop := va_K G.1 vwCl (ztys G.2.1) U ∧ zNest U ∧ zRef G U ∧ zinj G ∧ zStr G U U.heap
theorem zKX.into {G : zG} {s U : State} {H : Heap} {locs : List Loc} (h : zKX G s) (hS : va_S (zA G) s.heap H locs) (hU : U.heap = H) (hW : s.WarmedH U.vm) : zKX G U := by
  obtain ⟨h1, ⟨n1, n2, n3⟩, ⟨r1, r2, r3, r4⟩, h4, c1, c2, c3⟩ := h
  refine ⟨va_K.moved hW.alike h1, ⟨va_Nw.warmM hW n1, va_Nw.warmM hW n2, va_Nw.warmM hW n3⟩, ⟨r1.warm hW, r2.warm hW, r3.warm hW, r4.warm hW⟩, h4, ?_⟩
  rw [hU]
  exact ⟨(c1.kept hS.2.1).moved hW.alike, (c2.kept hS.2.1).moved hW.alike, (c3.kept hS.2.1).moved hW.alike⟩
theorem zKX.calling {G : zG} {U : State} {g : JFrame} {mk : MethodId} {a : Array Value} (h : zKX G U) : zKX G (U.calling g mk a) := by
  obtain ⟨h1, ⟨n1, n2, n3⟩, ⟨r1, r2, r3, r4⟩, h4, c1, c2, c3⟩ := h
  exact ⟨va_K.moved (u := U) (U := U.calling g mk a) (Vm.Alike.refl U.vm) h1, ⟨va_Nw.same rfl (u := U) rfl n1, va_Nw.same rfl (u := U) rfl n2, va_Nw.same rfl (u := U) rfl n3⟩, ⟨r1.same (u := U) rfl, r2.same (u := U) rfl, r3.same (u := U) rfl, r4.same (u := U) rfl⟩, h4, c1.moved (u := U) (U := U.calling g mk a) (Vm.Alike.refl U.vm), c2.moved (u := U) (U := U.calling g mk a) (Vm.Alike.refl U.vm), c3.moved (u := U) (U := U.calling g mk a) (Vm.Alike.refl U.vm)⟩
def zrm (d : Nat) : Room := { frames := d, cells := 0, slots := 0, locals := 40 * d }
abbrev zws (y : MethodName) (cc : ByteArray) (nL : Nat) (ret : Option FieldType) : List Cond := .code y cc nL ret :: wsL_law
def zPre (G : zG) (μ : zM) : State → Prop := fun U => zKX G U ∧ va_P G.1 vwCl (zw G μ) U.heap
/-- an int (boolean, char) comes back, the memory becomes μ' -/
def zMI (l : Launch) (G : zG) (y : MethodName) (cc : ByteArray) (nL : Nat) (ret : Option FieldType) (d : Nat) (av : List Value) (μ : zM) (r : Int32) (μ' : zM) : Prop :=
  Met l y (zws y cc nL ret) (zrm d) (va_Pc av (zPre G μ)) (va_Qi (fun (r' : Int32) (ν : zM) => r' = r ∧ ν = μ') (fun ν t => va_P G.1 vwCl (zw G ν) t.heap) (zA G)) 0 0 (zA G)
def zML (l : Launch) (G : zG) (y : MethodName) (cc : ByteArray) (nL : Nat) (ret : Option FieldType) (d : Nat) (av : List Value) (μ : zM) (r : Int64) (μ' : zM) : Prop :=
  Met l y (zws y cc nL ret) (zrm d) (va_Pc av (zPre G μ)) (va_Ql (fun (r' : Int64) (ν : zM) => r' = r ∧ ν = μ') (fun ν t => va_P G.1 vwCl (zw G ν) t.heap) (zA G)) 0 0 (zA G)
def zMV (l : Launch) (G : zG) (y : MethodName) (cc : ByteArray) (nL : Nat) (ret : Option FieldType) (d : Nat) (av : List Value) (μ : zM) (μ' : zM) : Prop :=
  Met l y (zws y cc nL ret) (zrm d) (va_Pc av (zPre G μ)) (va_Qv (fun (ν : zM) => ν = μ') (fun ν t => va_P G.1 vwCl (zw G ν) t.heap) (zA G)) 0 0 (zA G)
def zCX (p : Program) (R : Room) (s : State) (m : MethodId) (args : Array Value) (c : Code) (own : String) (cc : ByteArray) (nL d : Nat) (G : zG) : Prop :=
  p.tables.exec = Jvm.exec ∧ c.code = cc ∧ c.maxLocals = nL ∧ s.vm.findClass own = some m.cls ∧ (∀ w ∈ wsL_law, w.before args s = true) ∧ zKX G s ∧ R = zrm d
def zIW (G : zG) (s : State) (μ : zM) (H : Heap) (locs : List Loc) : Prop := va_P G.1 vwCl (zw G μ) H ∧ va_S (zA G) s.heap H locs
theorem zgood : wsL_law.all goodWord = true := by decide +kernel
theorem zgoodIn {ws : List Cond} (h : ∀ w ∈ ws, w ∈ wsL_law) : GoodIn wsL_law ws := fun w hw => ⟨h w hw, good_of_word (List.all_eq_true.mp zgood w (h w hw))⟩
theorem zD {G : zG} {μ : zM} (h : zinj G) : va_D (zA G) (zw G μ) := by
  refine ⟨fun i j x y hi hj e => ?_, fun k q hq => ?_⟩
  · unfold zw at hi hj
    rw [List.getElem?_map] at hi hj
    cases h1 : zK[i]? with
    | none => rw [h1] at hi; cases hi
    | some κ =>
      cases h2 : zK[j]? with
      | none => rw [h2] at hj; cases hj
      | some κ' =>
        rw [h1] at hi
        rw [h2] at hj
        cases hi
        cases hj
        have ek := h κ (List.mem_of_getElem? h1) κ' (List.mem_of_getElem? h2) e
        subst ek
        exact zK_inj h1 h2
  · unfold zw at hq
    rw [List.getElem?_map] at hq
    cases h1 : zK[k]? with
    | none => rw [h1] at hq; cases hq
    | some κ =>
      rw [h1] at hq
      cases hq
      exact ⟨κ, List.mem_of_getElem? h1, rfl⟩
/-- a method of a class, in the tables: callable by its name -/
def zMth (y : MethodName) (C : String) (cc : ByteArray) (nL : Nat) (ret : Option FieldType) (n : Nat) : Prop :=
  (y.cls = C ∧ y.cls ≠ "java/lang/invoke/MethodHandle" ∧ y.cls ≠ "java/lang/invoke/VarHandle" ∧ (parseMethodDescriptor y.desc).map (fun d => d.parameters.length) = some n) ∧ nL ≤ 21 ∧ Cond.initialized C ∈ wsL_law ∧ Cond.code y cc nL ret ∈ wsL_law
section ZR
variable {p : Program} {l : Launch} {e : Env} {R : Room} {s : State} {m : MethodId} {args : Array Value} {below : List Frame} {meth : Method} {c : Code} {H : Heap} {locs : List Loc} {Q : State → Prop} {cc : ByteArray} {pc : Nat} {ls : Array Slot} {rest : List Value} {own : String} {nL d : Nat} {G : zG} {μ μ' : zM} {S : zOb}
theorem zr_get {ci k o index : Nat} {C : String} {T : u_T} {N : Nat} {fs : List Value} {v : Value} (cx : zCX p R s m args c own cc nL d G) (hI : zIW G s μ H locs) (ho : (o, 0) ∈ zK) (hS : μ o = S) (he : zcell G o 0 S = .inr (ci, fs)) (hc : vwCl[ci]? = some (C, T, N)) (hin : ∀ w ∈ u_ws C T N, w ∈ wsL_law) (hk : k < N) (hl : Cond.fieldLink own index (T k).1 (T k).2.1 (T k).2.2.1 ∈ wsL_law) (hv : fs[k]? = some v) (hdg : decode cc pc = .ok (.getfield index, 3))
    (kk : W p l e R s m args below meth c H locs 0 0 Q (F0 m (pc + 3) ls (v :: rest))) : W p l e R s m args below meth c H locs 0 0 Q (F0 m pc ls (.ref (G.2.2.1 o 0) :: rest)) := by
  obtain ⟨hx, hb, hml, hown, hts, hK, hR⟩ := cx
  obtain ⟨q0, hq⟩ := zK_at ho
  have e := zw_at (G := G) (μ := μ) hq
  rw [hS, he] at e
  exact va_get hx hb hts hin hown hK.1 hI.1 q0 e hc k hk (hts _ hl) (fun _ h => h) hv hdg kk
theorem zr_put {ci k o index : Nat} {C : String} {T : u_T} {N : Nat} {fs : List Value} {x : Int32} {ty : FieldType} {tf : Nat → FieldType} (cx : zCX p R s m args c own cc nL d G) (hI : zIW G s μ H locs) (ho : (o, 0) ∈ zK) (hS : μ o = S) (he : zcell G o 0 S = .inr (ci, fs)) (hc : vwCl[ci]? = some (C, T, N)) (hin : ∀ w ∈ u_ws C T N, w ∈ wsL_law) (hty : ∀ k, k < N → parseFieldDescriptor (T k).2.2.1 = some (tf k)) (hnm : ∀ a, a < N → ∀ b, b < N → a ≠ b → (T a).2.1 ≠ (T b).2.1) (hk : k < N) (hl : Cond.fieldLink own index (T k).1 (T k).2.1 (T k).2.2.1 ∈ wsL_law) (hfin : (T k).2.2.2 = false) (htk : tf k = ty) (hn : narrow ty (.int x) = .int x) (hfit : fits ty (.int x) = true) (hlen : k < fs.length) (he' : zcell G o 0 (zI S 0 k x) = .inr (ci, fs.set k (.int x))) (hμ : zset μ o (zI S 0 k x) = μ') (hdg : decode cc pc = .ok (.putfield index, 3))
    (kk : ∀ (H1 : Heap) (locs1 : List Loc), zIW G s μ' H1 locs1 → W p l e R s m args below meth c H1 locs1 0 0 Q (F0 m (pc + 3) ls rest)) : W p l e R s m args below meth c H locs 0 0 Q (F0 m pc ls (.int x :: .ref (G.2.2.1 o 0) :: rest)) := by
  obtain ⟨hx, hb, hml, hown, hts, hK, hR⟩ := cx
  obtain ⟨q0, hq⟩ := zK_at ho
  have e := zw_at (G := G) (μ := μ) hq
  rw [hS, he] at e
  refine va_put hx hb hts hin tf hty hnm hown hK.1 hI.1 (zD hK.2.2.2.1) hI.2 q0 e hc k hk (hts _ hl) (fun _ h => h) hfin (by rw [hty k hk, htk]) hn hfit hlen hdg (fun H1 locs1 hP _ hS1 => ?_)
  have e2 := zw_set (G := G) (μ := μ) hq he' (fun j' hj => by rw [hS]; exact zcell_I hj)
  rw [e2, hμ] at hP
  exact kk H1 locs1 ⟨hP, hS1⟩
theorem zr_iald {o j n : Nat} {i : Int32} (cx : zCX p R s m args c own cc nL d G) (hI : zIW G s μ H locs) (ho : (o, j) ∈ zK) (hS : μ o = S) (he : ∀ S, zcell G o j S = .inl (G.2.1 0, n, .inl (S.1 j))) {k : Nat} (hk : i.toNatClampNeg = k) (hin : zin i n) (hdg : decode cc pc = .ok (.iaload, 1))
    (kk : W p l e R s m args below meth c H locs 0 0 Q (F0 m (pc + 1) ls (.int (S.1 j k) :: rest))) : W p l e R s m args below meth c H locs 0 0 Q (F0 m pc ls (.int i :: .ref (G.2.2.1 o j) :: rest)) := by
  subst hk
  obtain ⟨hx, hb, hml, hown, hts, hK, hR⟩ := cx
  obtain ⟨q0, hq⟩ := zK_at ho
  have e := zw_at (G := G) (μ := μ) hq
  rw [hS, he] at e
  exact va_iald hx hb hK.1 hI.1 q0 0 e rfl hin hdg kk
theorem zr_iast {o j n : Nat} {i x : Int32} (cx : zCX p R s m args c own cc nL d G) (hI : zIW G s μ H locs) (ho : (o, j) ∈ zK) (hS : μ o = S) (he : ∀ S, zcell G o j S = .inl (G.2.1 0, n, .inl (S.1 j))) {k : Nat} (hk : i.toNatClampNeg = k) (hin : zin i n) (hμ : zset μ o (zI S j k x) = μ') (hdg : decode cc pc = .ok (.iastore, 1))
    (kk : ∀ (H1 : Heap) (locs1 : List Loc), zIW G s μ' H1 locs1 → W p l e R s m args below meth c H1 locs1 0 0 Q (F0 m (pc + 1) ls rest)) : W p l e R s m args below meth c H locs 0 0 Q (F0 m pc ls (.int x :: .int i :: .ref (G.2.2.1 o j) :: rest)) := by
  subst hk
  obtain ⟨hx, hb, hml, hown, hts, hK, hR⟩ := cx
  obtain ⟨q0, hq⟩ := zK_at ho
  have e := zw_at (G := G) (μ := μ) hq
  rw [hS, he] at e
  refine va_iast hx hb hK.1 hI.1 (zD hK.2.2.2.1) hI.2 q0 0 e rfl hin hdg (fun H1 locs1 hP _ hS1 => ?_)
  have e2 := zw_set (G := G) (μ := μ) (S' := zI S j i.toNatClampNeg x) hq (by rw [he, zI_s]) (fun j' hj => by rw [hS]; exact zcell_I hj)
  rw [e2, hμ] at hP
  exact kk H1 locs1 ⟨hP, hS1⟩
theorem zr_cald {o j n : Nat} {i : Int32} (cx : zCX p R s m args c own cc nL d G) (hI : zIW G s μ H locs) (ho : (o, j) ∈ zK) (hS : μ o = S) (he : ∀ S, zcell G o j S = .inl (G.2.1 1, n, .inl (S.1 j))) {k : Nat} (hk : i.toNatClampNeg = k) (hin : zin i n) (hdg : decode cc pc = .ok (.caload, 1))
    (kk : W p l e R s m args below meth c H locs 0 0 Q (F0 m (pc + 1) ls (.int (S.1 j k) :: rest))) : W p l e R s m args below meth c H locs 0 0 Q (F0 m pc ls (.int i :: .ref (G.2.2.1 o j) :: rest)) := by
  subst hk
  obtain ⟨hx, hb, hml, hown, hts, hK, hR⟩ := cx
  obtain ⟨q0, hq⟩ := zK_at ho
  have e := zw_at (G := G) (μ := μ) hq
  rw [hS, he] at e
  exact va_cald hx hb hK.1 hI.1 q0 1 e rfl hin hdg kk
theorem zr_cast {o j n : Nat} {i x : Int32} (cx : zCX p R s m args c own cc nL d G) (hI : zIW G s μ H locs) (ho : (o, j) ∈ zK) (hS : μ o = S) (he : ∀ S, zcell G o j S = .inl (G.2.1 1, n, .inl (S.1 j))) {k : Nat} (hk : i.toNatClampNeg = k) (hin : zin i n) (hμ : zset μ o (zI S j k (vp_nar .char x)) = μ') (hdg : decode cc pc = .ok (.castore, 1))
    (kk : ∀ (H1 : Heap) (locs1 : List Loc), zIW G s μ' H1 locs1 → W p l e R s m args below meth c H1 locs1 0 0 Q (F0 m (pc + 1) ls rest)) : W p l e R s m args below meth c H locs 0 0 Q (F0 m pc ls (.int x :: .int i :: .ref (G.2.2.1 o j) :: rest)) := by
  subst hk
  obtain ⟨hx, hb, hml, hown, hts, hK, hR⟩ := cx
  obtain ⟨q0, hq⟩ := zK_at ho
  have e := zw_at (G := G) (μ := μ) hq
  rw [hS, he] at e
  refine va_cast hx hb hK.1 hI.1 (zD hK.2.2.2.1) hI.2 q0 1 e rfl hin hdg (fun H1 locs1 hP _ hS1 => ?_)
  have e2 := zw_set (G := G) (μ := μ) (S' := zI S j i.toNatClampNeg (vp_nar .char x)) hq (by rw [he, zI_s]) (fun j' hj => by rw [hS]; exact zcell_I hj)
  rw [e2, hμ] at hP
  exact kk H1 locs1 ⟨hP, hS1⟩
theorem zr_clen {o j n : Nat} (cx : zCX p R s m args c own cc nL d G) (hI : zIW G s μ H locs) (ho : (o, j) ∈ zK) (hS : μ o = S) (he : ∀ S, zcell G o j S = .inl (G.2.1 1, n, .inl (S.1 j))) (hdg : decode cc pc = .ok (.arraylength, 1))
    (kk : W p l e R s m args below meth c H locs 0 0 Q (F0 m (pc + 1) ls (.int (Int32.ofNat n) :: rest))) : W p l e R s m args below meth c H locs 0 0 Q (F0 m pc ls (.ref (G.2.2.1 o j) :: rest)) := by
  obtain ⟨hx, hb, hml, hown, hts, hK, hR⟩ := cx
  obtain ⟨q0, hq⟩ := zK_at ho
  have e := zw_at (G := G) (μ := μ) hq
  rw [hS, he] at e
  exact va_alen hx hb hK.1 hI.1 q0 1 e rfl rfl hdg kk
theorem zr_lald {o j n : Nat} {i : Int32} (cx : zCX p R s m args c own cc nL d G) (hI : zIW G s μ H locs) (ho : (o, j) ∈ zK) (hS : μ o = S) (he : ∀ S, zcell G o j S = .inl (G.2.1 2, n, .inr (.inl (S.2.1 j)))) {k : Nat} (hk : i.toNatClampNeg = k) (hin : zin i n) (hdg : decode cc pc = .ok (.laload, 1))
    (kk : W p l e R s m args below meth c H locs 0 0 Q (F0 m (pc + 1) ls (.long (S.2.1 j k) :: rest))) : W p l e R s m args below meth c H locs 0 0 Q (F0 m pc ls (.int i :: .ref (G.2.2.1 o j) :: rest)) := by
  subst hk
  obtain ⟨hx, hb, hml, hown, hts, hK, hR⟩ := cx
  obtain ⟨q0, hq⟩ := zK_at ho
  have e := zw_at (G := G) (μ := μ) hq
  rw [hS, he] at e
  exact va_lald hx hb hK.1 hI.1 q0 2 e rfl hin hdg kk
theorem zr_last {o j n : Nat} {i : Int32} {x : Int64} (cx : zCX p R s m args c own cc nL d G) (hI : zIW G s μ H locs) (ho : (o, j) ∈ zK) (hS : μ o = S) (he : ∀ S, zcell G o j S = .inl (G.2.1 2, n, .inr (.inl (S.2.1 j)))) {k : Nat} (hk : i.toNatClampNeg = k) (hin : zin i n) (hμ : zset μ o (zL S j k x) = μ') (hdg : decode cc pc = .ok (.lastore, 1))
    (kk : ∀ (H1 : Heap) (locs1 : List Loc), zIW G s μ' H1 locs1 → W p l e R s m args below meth c H1 locs1 0 0 Q (F0 m (pc + 1) ls rest)) : W p l e R s m args below meth c H locs 0 0 Q (F0 m pc ls (.long x :: .int i :: .ref (G.2.2.1 o j) :: rest)) := by
  subst hk
  obtain ⟨hx, hb, hml, hown, hts, hK, hR⟩ := cx
  obtain ⟨q0, hq⟩ := zK_at ho
  have e := zw_at (G := G) (μ := μ) hq
  rw [hS, he] at e
  refine va_last hx hb hK.1 hI.1 (zD hK.2.2.2.1) hI.2 q0 2 e rfl hin hdg (fun H1 locs1 hP _ hS1 => ?_)
  have e2 := zw_set (G := G) (μ := μ) (S' := zL S j i.toNatClampNeg x) hq (by rw [he, zL_s]) (fun j' hj => by rw [hS]; exact zcell_L hj)
  rw [e2, hμ] at hP
  exact kk H1 locs1 ⟨hP, hS1⟩
/-- rows of references: the states of a past, the sheets -/
theorem zr_aald {o j n t0 : Nat} {i : Int32} {cA : ClassId} {C : String} {f : Nat → Nat} (cx : zCX p R s m args c own cc nL d G) (hI : zIW G s μ H locs) (ho : (o, j) ∈ zK) (hS : μ o = S) (he : zcell G o j S = .inl (cA, n, .inr (.inr (.inr (.inr (fun i => some (f i))))))) (ht : (ztys G.2.1)[t0]? = some (cA, .object C)) {k : Nat} (hk : i.toNatClampNeg = k) (hin : zin i n) (hdg : decode cc pc = .ok (.aaload, 1))
    (kk : W p l e R s m args below meth c H locs 0 0 Q (F0 m (pc + 1) ls (.ref (f k) :: rest))) : W p l e R s m args below meth c H locs 0 0 Q (F0 m pc ls (.int i :: .ref (G.2.2.1 o j) :: rest)) := by
  subst hk
  obtain ⟨hx, hb, hml, hown, hts, hK, hR⟩ := cx
  obtain ⟨q0, hq⟩ := zK_at ho
  have e := zw_at (G := G) (μ := μ) hq
  rw [hS, he] at e
  exact va_aldq hx hb hK.1 hI.1 q0 t0 e ht hin hdg kk
/-- rows of rows: due -/
theorem zr_gald {o j n t0 : Nat} {i : Int32} {cA : ClassId} {f : Nat → Nat} (cx : zCX p R s m args c own cc nL d G) (hI : zIW G s μ H locs) (ho : (o, j) ∈ zK) (hS : μ o = S) (he : zcell G o j S = .inl (cA, n, .inr (.inr (.inr (.inr (fun i => some (f i))))))) (ht : (ztys G.2.1)[t0]? = some (cA, .array .int)) {k : Nat} (hk : i.toNatClampNeg = k) (hin : zin i n) (hdg : decode cc pc = .ok (.aaload, 1))
    (kk : W p l e R s m args below meth c H locs 0 0 Q (F0 m (pc + 1) ls (.ref (f k) :: rest))) : W p l e R s m args below meth c H locs 0 0 Q (F0 m pc ls (.int i :: .ref (G.2.2.1 o j) :: rest)) := by
  subst hk
  obtain ⟨hx, hb, hml, hown, hts, hK, hR⟩ := cx
  obtain ⟨q0, hq⟩ := zK_at ho
  have e := zw_at (G := G) (μ := μ) hq
  rw [hS, he] at e
  have hlt : i.toNatClampNeg < n := Nat.not_le.mp fun q => hin (Or.inr q)
  exact W.aald (v := va_rf (some (f i.toNatClampNeg))) (ty := .array .int) hx hb (hI.1 q0 _ e) ((hK.1.2 t0 _ ht).1 n (fun j => va_rf (some (f j)))) rfl (fun q => by cases q) (by show ¬ (i < 0 ∨ (arrV _ _ _).slots.size ≤ _); rw [arrV_size]; exact hin) (by show (arrV _ _ _).slots[_]? = _; rw [arrV_read _ _ hlt]) rfl rfl hdg kk
/-- a state comes into a past's row -/
theorem zr_aast {o j n ov : Nat} {i : Int32} (cx : zCX p R s m args c own cc nL d G) (hI : zIW G s μ H locs) (ho : (o, j) ∈ zK) (hS : μ o = S) (he : ∀ S, zcell G o j S = .inl (G.2.1 3, n, .inr (.inr (.inr (.inr (fun i => some (G.2.2.1 (S.2.2 j i) 0))))))) (hov : (ov, 0) ∈ zK) (hcv : zc ov = 6) {k : Nat} (hk : i.toNatClampNeg = k) (hin : zin i n) (hμ : zset μ o (zR S j k ov) = μ') (hdg : decode cc pc = .ok (.aastore, 1))
    (kk : ∀ (H1 : Heap) (locs1 : List Loc), zIW G s μ' H1 locs1 → W p l e R s m args below meth c H1 locs1 0 0 Q (F0 m (pc + 1) ls rest)) : W p l e R s m args below meth c H locs 0 0 Q (F0 m pc ls (.ref (G.2.2.1 ov 0) :: .int i :: .ref (G.2.2.1 o j) :: rest)) := by
  subst hk
  obtain ⟨hx, hb, hml, hown, hts, hK, hR⟩ := cx
  obtain ⟨q0, hq⟩ := zK_at ho
  obtain ⟨qk, hqk⟩ := zK_at hov
  have e := zw_at (G := G) (μ := μ) hq
  rw [hS, he] at e
  have ev := zw_at (G := G) (μ := μ) hqk
  obtain ⟨fs, hfs⟩ := zcell_0 (G := G) (o := ov) (S := μ ov)
  rw [hfs, hcv] at ev
  refine va_astq (r := (RX6, TX6, 9)) hx hb hK.1 hI.1 (zD hK.2.2.2.1) hI.2 q0 3 qk 6 e rfl ev rfl hin hdg (fun H1 locs1 hP _ hS1 => ?_)
  have e2 := zw_set (G := G) (μ := μ) (S' := zR S j i.toNatClampNeg ov) (e' := .inl (G.2.1 3, n, .inr (.inr (.inr (.inr (va_up (fun i => some (G.2.2.1 (S.2.2 j i) 0)) i.toNatClampNeg (some (G.2.2.1 ov 0)))))))) hq (by
    rw [he, zR_s]
    congr 7
    funext k
    unfold va_up
    split <;> rfl) (fun j' hj => by rw [hS]; exact zcell_R hj)
  rw [e2, hμ] at hP
  exact kk H1 locs1 ⟨hP, hS1⟩
/-- System.arraycopy of ints -/
theorem zr_cpi {o j n o' j' n' index : Nat} {S1 : zOb} {sp dp k : Int32} (cx : zCX p R s m args c own cc nL d G) (hI : zIW G s μ H locs) (hsz : ls.size = nL) (ho : (o, j) ∈ zK) (hS : μ o = S) (he : ∀ S, zcell G o j S = .inl (G.2.1 0, n, .inl (S.1 j))) (ho' : (o', j') ∈ zK) (hS' : μ o' = S1) (he' : ∀ S, zcell G o' j' S = .inl (G.2.1 0, n', .inl (S.1 j')))
    (hl : Cond.methodLink own index arraycopyName ∈ wsL_law) (hd : 1 ≤ d) (h1 : ¬ sp < 0) (h2 : ¬ dp < 0) (h3 : ¬ k < 0) (h4 : sp.toNatClampNeg + k.toNatClampNeg ≤ n) (h5 : dp.toNatClampNeg + k.toNatClampNeg ≤ n') (hrm : (rest.map fun v => v.category).sum ≤ 8) (hμ : zset μ o' (zIr S1 j' (va_cpy (S.1 j) (S1.1 j') sp.toNatClampNeg dp.toNatClampNeg k.toNatClampNeg)) = μ') (hdg : decode cc pc = .ok (.invokestatic index, 3))
    (kk : ∀ (H1 : Heap) (locs1 : List Loc), zIW G s μ' H1 locs1 → W p l e R s m args below meth c H1 locs1 0 0 Q (F0 m (pc + 3) ls rest)) : W p l e R s m args below meth c H locs 0 0 Q (F0 m pc ls (.int k :: .int dp :: .ref (G.2.2.1 o' j') :: .int sp :: .ref (G.2.2.1 o j) :: rest)) := by
  obtain ⟨hx, hb, hml, hown, hts, hK, hR⟩ := cx
  obtain ⟨q0, hq⟩ := zK_at ho
  obtain ⟨q1, hq1⟩ := zK_at ho'
  have e := zw_at (G := G) (μ := μ) hq
  rw [hS, he] at e
  have e1 := zw_at (G := G) (μ := μ) hq1
  rw [hS', he'] at e1
  have hnf : nativeFrameWords "java/lang/System" "arraycopy" 5 ≤ 20 := by decide +kernel
  refine va_copyi hx hb (hml.trans hsz.symm) hown (hts _ hl) (hts (.native arraycopyName) (by decide +kernel)) (hts (.static arraycopyName) (by decide +kernel)) (hts (.initialized "java/lang/System") (by decide +kernel)) hK.1 hI.1 (zD hK.2.2.2.1) hI.2 q0 q1 0 0 e e1 rfl rfl rfl h1 h2 h3 h4 h5 (fun i _ => rfl) (by rw [hR]; exact hd) (by rw [hR]; show _ + (nativeFrameWords "java/lang/System" "arraycopy" 5 + 11) ≤ 40 * d; omega) hdg (fun H1 locs1 hP _ hS1 => ?_)
  have e2 := zw_set (G := G) (μ := μ) (S' := zIr S1 j' (va_cpy (S.1 j) (S1.1 j') sp.toNatClampNeg dp.toNatClampNeg k.toNatClampNeg)) hq1 (by rw [he', zIr_s]) (fun j'' hj => by rw [hS']; exact zcell_Ir hj)
  rw [e2, hμ] at hP
  exact kk H1 locs1 ⟨hP, hS1⟩
/-- System.arraycopy of longs -/
theorem zr_cpl {o j n o' j' n' index : Nat} {S1 : zOb} {sp dp k : Int32} (cx : zCX p R s m args c own cc nL d G) (hI : zIW G s μ H locs) (hsz : ls.size = nL) (ho : (o, j) ∈ zK) (hS : μ o = S) (he : ∀ S, zcell G o j S = .inl (G.2.1 2, n, .inr (.inl (S.2.1 j)))) (ho' : (o', j') ∈ zK) (hS' : μ o' = S1) (he' : ∀ S, zcell G o' j' S = .inl (G.2.1 2, n', .inr (.inl (S.2.1 j'))))
    (hl : Cond.methodLink own index arraycopyName ∈ wsL_law) (hd : 1 ≤ d) (h1 : ¬ sp < 0) (h2 : ¬ dp < 0) (h3 : ¬ k < 0) (h4 : sp.toNatClampNeg + k.toNatClampNeg ≤ n) (h5 : dp.toNatClampNeg + k.toNatClampNeg ≤ n') (hrm : (rest.map fun v => v.category).sum ≤ 8) (hμ : zset μ o' (zLr S1 j' (va_cpy (S.2.1 j) (S1.2.1 j') sp.toNatClampNeg dp.toNatClampNeg k.toNatClampNeg)) = μ') (hdg : decode cc pc = .ok (.invokestatic index, 3))
    (kk : ∀ (H1 : Heap) (locs1 : List Loc), zIW G s μ' H1 locs1 → W p l e R s m args below meth c H1 locs1 0 0 Q (F0 m (pc + 3) ls rest)) : W p l e R s m args below meth c H locs 0 0 Q (F0 m pc ls (.int k :: .int dp :: .ref (G.2.2.1 o' j') :: .int sp :: .ref (G.2.2.1 o j) :: rest)) := by
  obtain ⟨hx, hb, hml, hown, hts, hK, hR⟩ := cx
  obtain ⟨q0, hq⟩ := zK_at ho
  obtain ⟨q1, hq1⟩ := zK_at ho'
  have e := zw_at (G := G) (μ := μ) hq
  rw [hS, he] at e
  have e1 := zw_at (G := G) (μ := μ) hq1
  rw [hS', he'] at e1
  have hnf : nativeFrameWords "java/lang/System" "arraycopy" 5 ≤ 20 := by decide +kernel
  refine va_copyl hx hb (hml.trans hsz.symm) hown (hts _ hl) (hts (.native arraycopyName) (by decide +kernel)) (hts (.static arraycopyName) (by decide +kernel)) (hts (.initialized "java/lang/System") (by decide +kernel)) hK.1 hI.1 (zD hK.2.2.2.1) hI.2 q0 q1 2 2 e e1 rfl rfl rfl h1 h2 h3 h4 h5 (fun i _ => rfl) (by rw [hR]; exact hd) (by rw [hR]; show _ + (nativeFrameWords "java/lang/System" "arraycopy" 5 + 11) ≤ 40 * d; omega) hdg (fun H1 locs1 hP _ hS1 => ?_)
  have e2 := zw_set (G := G) (μ := μ) (S' := zLr S1 j' (va_cpy (S.2.1 j) (S1.2.1 j') sp.toNatClampNeg dp.toNatClampNeg k.toNatClampNeg)) hq1 (by rw [he', zLr_s]) (fun j'' hj => by rw [hS']; exact zcell_Lr hj)
  rw [e2, hμ] at hP
  exact kk H1 locs1 ⟨hP, hS1⟩
end ZR
