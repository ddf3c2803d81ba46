/-! THE CONSTRUCTORS: what each makes, its contract -/
section ZN2
variable {p : Program} {l : Launch} {e : Env} {R : Room} {s : State} {m : MethodId} {args : Array Value} {below : List Frame} {meth : Method} {c : Code} {H : Heap} {locs : List Loc} {cells slots : Nat} {Q : State → Prop} {cc : ByteArray} {pc : Nat} {ls : Array Slot} {rest st : List Value} {own : String} {nL : Nat} {E : zE} {A : Nat → Prop} {ws : va_W}
theorem zn_oi {k0 q : Nat} (cx : zCC p R s m args meth c own cc nL E A) (hl : Cond.methodLink own k0 objectInit ∈ wsL_law) (hsz : ls.size = nL) (h1 : 1 ≤ R.frames) (h2 : 12 ≤ R.locals) (hdg : decode cc pc = .ok (.invokespecial k0, 3)) (kk : W p l e R s m args below meth c H locs cells slots Q (F0 m (pc + 3) ls [])) : W p l e R s m args below meth c H locs cells slots Q (F0 m pc ls [.ref q]) := by
  obtain ⟨hx, hb, hml, hown, hts, -, -⟩ := cx
  exact W.objInit hx hb hown (hts _ hl) (hts _ w_11) (hts _ w_12) rfl (by rw [hml]; exact hsz) rfl hdg h1 h2 (W.eq (g2 := F0 m (pc + 3) ls []) rfl kk)
theorem zn_putF {C : String} {T : u_T} {N ci a index : Nat} {fs : List Value} {v : Value} {ty : FieldType} {tf : Nat → FieldType} (k q0 : Nat) (cx : zCC p R s m args meth c own cc nL E A) (hi : meth.name = "<init>") (hP : va_P E.1 vwCl ws H) (hD : va_D A ws) (hS : va_S A s.heap H locs) (hws : ∀ w ∈ u_ws C T N, w ∈ wsL_law) (hty : ∀ k, k < N → parseFieldDescriptor (T k).2.2.1 = some (tf k)) (hnm : ∀ a, a < N → ∀ b, b < N → a ≠ b → (T a).2.1 ≠ (T b).2.1) (he : ws[q0]? = some (a, .inr (ci, fs))) (hc : vwCl[ci]? = some (C, T, N)) (hk : k < N) (hl : Cond.fieldLink own index (T k).1 (T k).2.1 (T k).2.2.1 ∈ wsL_law) (hfin : (T k).2.2.2 = true) (hdecl : (T k).1 = own) (htk : tf k = ty) (hn : narrow ty v = v) (hfit : fits ty v = true) (hlen : k < fs.length) (hdg : decode cc pc = .ok (.putfield index, 3)) (kk : ∀ (H1 : Heap) (locs1 : List Loc), va_P E.1 vwCl (ws.set q0 (a, .inr (ci, fs.set k v))) H1 → va_D A (ws.set q0 (a, .inr (ci, fs.set k v))) → va_S A s.heap H1 locs1 → W p l e R s m args below meth c H1 locs1 cells slots Q (F0 m (pc + 3) ls rest)) : W p l e R s m args below meth c H locs cells slots Q (F0 m pc ls (v :: .ref a :: rest)) :=
  va_putF cx.1 cx.2.1 cx.2.2.2.2.1 hws tf hty hnm cx.2.2.2.1 cx.2.2.2.2.2.1.1 hP hD hS q0 he hc k hk (cx.2.2.2.2.1 _ hl) (fun _ h => h) hfin hi hdecl (by rw [hty k hk, htk]) hn hfit hlen hdg kk
theorem zn_put {C : String} {T : u_T} {N ci a index : Nat} {fs : List Value} {v : Value} {ty : FieldType} {tf : Nat → FieldType} (k q0 : Nat) (cx : zCC p R s m args meth c own cc nL E A) (hP : va_P E.1 vwCl ws H) (hD : va_D A ws) (hS : va_S A s.heap H locs) (hws : ∀ w ∈ u_ws C T N, w ∈ wsL_law) (hty : ∀ k, k < N → parseFieldDescriptor (T k).2.2.1 = some (tf k)) (hnm : ∀ a, a < N → ∀ b, b < N → a ≠ b → (T a).2.1 ≠ (T b).2.1) (he : ws[q0]? = some (a, .inr (ci, fs))) (hc : vwCl[ci]? = some (C, T, N)) (hk : k < N) (hl : Cond.fieldLink own index (T k).1 (T k).2.1 (T k).2.2.1 ∈ wsL_law) (hfin : (T k).2.2.2 = false) (htk : tf k = ty) (hn : narrow ty v = v) (hfit : fits ty v = true) (hlen : k < fs.length) (hdg : decode cc pc = .ok (.putfield index, 3)) (kk : ∀ (H1 : Heap) (locs1 : List Loc), va_P E.1 vwCl (ws.set q0 (a, .inr (ci, fs.set k v))) H1 → va_D A (ws.set q0 (a, .inr (ci, fs.set k v))) → va_S A s.heap H1 locs1 → W p l e R s m args below meth c H1 locs1 cells slots Q (F0 m (pc + 3) ls rest)) : W p l e R s m args below meth c H locs cells slots Q (F0 m pc ls (v :: .ref a :: rest)) :=
  va_put cx.1 cx.2.1 cx.2.2.2.2.1 hws tf hty hnm cx.2.2.2.1 cx.2.2.2.2.2.1.1 hP hD hS q0 he hc k hk (cx.2.2.2.2.1 _ hl) (fun _ h => h) hfin (by rw [hty k hk, htk]) hn hfit hlen hdg kk
theorem zn_get {C : String} {T : u_T} {N ci a index : Nat} {fs : List Value} {v : Value} (k q0 : Nat) (cx : zCC p R s m args meth c own cc nL E A) (hP : va_P E.1 vwCl ws H) (hws : ∀ w ∈ u_ws C T N, w ∈ wsL_law) (he : ws[q0]? = some (a, .inr (ci, fs))) (hc : vwCl[ci]? = some (C, T, N)) (hk : k < N) (hl : Cond.fieldLink own index (T k).1 (T k).2.1 (T k).2.2.1 ∈ wsL_law) (hv : fs[k]? = some v) (hdg : decode cc pc = .ok (.getfield index, 3)) (kk : W p l e R s m args below meth c H locs cells slots Q (F0 m (pc + 3) ls (v :: rest))) : W p l e R s m args below meth c H locs cells slots Q (F0 m pc ls (.ref a :: rest)) :=
  va_get cx.1 cx.2.1 cx.2.2.2.2.1 hws cx.2.2.2.1 cx.2.2.2.2.2.1.1 hP q0 he hc k hk (cx.2.2.2.2.1 _ hl) (fun _ h => h) hv hdg kk
theorem zn_new {C : String} {T : u_T} {N index : Nat} {fs : List Value} {tf : Nat → FieldType} (ci : Nat) (cx : zCC p R s m args meth c own cc nL E A) (hP : va_P E.1 vwCl ws H) (hD : va_D A ws) (hS : va_S A s.heap H locs) (hws : ∀ w ∈ u_ws C T N, w ∈ wsL_law) (hty : ∀ k, k < N → parseFieldDescriptor (T k).2.2.1 = some (tf k)) (h1 : Cond.classLink own index C ∈ wsL_law) (h2 : Cond.instantiable C N ∈ wsL_law) (h3 : Cond.initialized C ∈ wsL_law) (hc : vwCl[ci]? = some (C, T, N)) (hfs : ∀ j, j < N → defaultValue (tf j) = vp_V fs j) (hcells : cells + 1 ≤ R.cells) (hslots : slots + N ≤ R.slots) (hdg : decode cc pc = .ok (.new index, 3)) (kk : ∀ (q : Nat) (H1 : Heap), va_P E.1 vwCl (ws ++ [(q, .inr (ci, fs))]) H1 → va_D A (ws ++ [(q, .inr (ci, fs))]) → va_S A s.heap H1 locs → W p l e R s m args below meth c H1 locs (cells + 1) (slots + N) Q (F0 m (pc + 3) ls (.ref q :: rest))) : W p l e R s m args below meth c H locs cells slots Q (F0 m pc ls rest) :=
  va_new cx.1 cx.2.1 cx.2.2.2.2.1 hws tf hty cx.2.2.2.1 (cx.2.2.2.2.1 _ h1) (cx.2.2.2.2.1 _ h2) (cx.2.2.2.2.1 _ h3) cx.2.2.2.2.2.1.1 hP hD hS cx.2.2.2.2.2.2 hc hfs hcells hslots hdg kk
end ZN2
theorem dfX0 : ∀ j, j < 2 → defaultValue (tyX0 j) = vp_V [.null, .int 0] j := by
  intro j hj
  match j, hj with
  | 0, _ => rfl
  | 1, _ => rfl
  | j + 2, h => exact absurd h (by omega)
theorem dfX1 : ∀ j, j < 3 → defaultValue (tyX1 j) = vp_V [.null, .null, .int 0] j := by
  intro j hj
  match j, hj with
  | 0, _ => rfl
  | 1, _ => rfl
  | 2, _ => rfl
  | j + 3, h => exact absurd h (by omega)
theorem dfX2 : ∀ j, j < 2 → defaultValue (tyX2 j) = vp_V [.null, .int 0] j := by
  intro j hj
  match j, hj with
  | 0, _ => rfl
  | 1, _ => rfl
  | j + 2, h => exact absurd h (by omega)
theorem dfX3 : ∀ j, j < 9 → defaultValue (tyX3 j) = vp_V [.null, .null, .null, .null, .null, .int 0, .null, .null, .null] j := by
  intro j hj
  match j, hj with
  | 0, _ => rfl
  | 1, _ => rfl
  | 2, _ => rfl
  | 3, _ => rfl
  | 4, _ => rfl
  | 5, _ => rfl
  | 6, _ => rfl
  | 7, _ => rfl
  | 8, _ => rfl
  | j + 9, h => exact absurd h (by omega)
theorem dfX4 : ∀ j, j < 13 → defaultValue (tyX4 j) = vp_V [.null, .null, .null, .null, .null, .null, .int 0, .int 0, .int 0, .int 0, .null, .int 0, .int 0] j := by
  intro j hj
  match j, hj with
  | 0, _ => rfl
  | 1, _ => rfl
  | 2, _ => rfl
  | 3, _ => rfl
  | 4, _ => rfl
  | 5, _ => rfl
  | 6, _ => rfl
  | 7, _ => rfl
  | 8, _ => rfl
  | 9, _ => rfl
  | 10, _ => rfl
  | 11, _ => rfl
  | 12, _ => rfl
  | j + 13, h => exact absurd h (by omega)
theorem dfX5 : ∀ j, j < 3 → defaultValue (tyX5 j) = vp_V [.null, .int 0, .int 0] j := by
  intro j hj
  match j, hj with
  | 0, _ => rfl
  | 1, _ => rfl
  | 2, _ => rfl
  | j + 3, h => exact absurd h (by omega)
theorem dfX6 : ∀ j, j < 9 → defaultValue (tyX6 j) = vp_V [.null, .null, .null, .int 0, .int 0, .int 0, .int 0, .int 0, .int 0] j := by
  intro j hj
  match j, hj with
  | 0, _ => rfl
  | 1, _ => rfl
  | 2, _ => rfl
  | 3, _ => rfl
  | 4, _ => rfl
  | 5, _ => rfl
  | 6, _ => rfl
  | 7, _ => rfl
  | 8, _ => rfl
  | j + 9, h => exact absurd h (by omega)
theorem dfX7 : ∀ j, j < 11 → defaultValue (tyX7 j) = vp_V [.null, .null, .null, .null, .null, .int 0, .null, .null, .null, .null, .null] j := by
  intro j hj
  match j, hj with
  | 0, _ => rfl
  | 1, _ => rfl
  | 2, _ => rfl
  | 3, _ => rfl
  | 4, _ => rfl
  | 5, _ => rfl
  | 6, _ => rfl
  | 7, _ => rfl
  | 8, _ => rfl
  | 9, _ => rfl
  | 10, _ => rfl
  | j + 11, h => exact absurd h (by omega)
theorem dfX8 : ∀ j, j < 27 → defaultValue (tyX8 j) = vp_V [.null, .null, .int 0, .null, .null, .int 0, .null, .int 0, .null, .null, .null, .null, .null, .null, .null, .null, .null, .null, .null, .int 0, .int 0, .int 0, .null, .int 0, .null, .int 0, .int 0] j := by
  intro j hj
  match j, hj with
  | 0, _ => rfl
  | 1, _ => rfl
  | 2, _ => rfl
  | 3, _ => rfl
  | 4, _ => rfl
  | 5, _ => rfl
  | 6, _ => rfl
  | 7, _ => rfl
  | 8, _ => rfl
  | 9, _ => rfl
  | 10, _ => rfl
  | 11, _ => rfl
  | 12, _ => rfl
  | 13, _ => rfl
  | 14, _ => rfl
  | 15, _ => rfl
  | 16, _ => rfl
  | 17, _ => rfl
  | 18, _ => rfl
  | 19, _ => rfl
  | 20, _ => rfl
  | 21, _ => rfl
  | 22, _ => rfl
  | 23, _ => rfl
  | 24, _ => rfl
  | 25, _ => rfl
  | 26, _ => rfl
  | j + 27, h => exact absurd h (by omega)
def BX6 (E : zE) : (Nat → Nat) → va_W := fun a => [(a 0, .inr (6, [.ref (a 1), .ref (a 2), .ref (a 3), .int 0, .int 0, .int 2, .int 5, .int 0, .int 1])), (a 1, .inl (E.2 0, 7, .inl (fun _ => 0))), (a 2, .inl (E.2 0, 7, .inl (fun _ => 0))), (a 3, .inl (E.2 0, 7, .inl (fun _ => 0)))]
set_option maxHeartbeats 8000000 in
set_option maxRecDepth 100000 in
theorem c_X6_init {l : Launch} {E : zE} {h0 sz : Nat} : zMC l E yX6_init cX6_init 1 1 3 21 6 [.null, .null, .null, .int 0, .int 0, .int 0, .int 0, .int 0, .int 0] [] h0 sz (BX6 E) := by
  refine zMC.of (by decide) rfl (Nat.le_of_ble_eq_true rfl) (fun p e s m args below meth c Q ls A cx hin hP hD hS hl hret => ?_)
  have hx := cx.1
  have hb := cx.2.1
  have hl : lv_has ls 1 [(0, .ref h0)] := hl
  refine lv_aload_n hx hb dX6_init_0 rfl (lv_at hl 0 rfl) ?_
  refine zn_oi cx w_46 hl.1 (Nat.le_of_ble_eq_true rfl) (Nat.le_of_ble_eq_true rfl) dX6_init_1 ?_
  refine lv_aload_n hx hb dX6_init_4 rfl (lv_at hl 0 rfl) ?_
  refine lv_bipush (v := nI 7) hx hb dX6_init_5 (by decide) ?_
  refine zn_newa (atype := .int) (ty := .int) (k0 := 0) (N' := 7) (a0 := (7, .inl (fun _ => 0))) 0 cx hP hD hS w_47 rfl (fun C h => by cases h) rfl (fun _ => rfl) (by decide) (by decide) (Nat.le_of_ble_eq_true rfl) (Nat.le_of_ble_eq_true rfl) (Nat.le_of_ble_eq_true rfl) dX6_init_7 (fun q1 H hP hD hS => ?_)
  have hP : va_P E.1 vwCl [(h0, .inr (6, [.null, .null, .null, .int 0, .int 0, .int 0, .int 0, .int 0, .int 0])), (q1, .inl (E.2 0, 7, .inl (fun _ => 0)))] _ := hP
  have hD : va_D A [(h0, .inr (6, [.null, .null, .null, .int 0, .int 0, .int 0, .int 0, .int 0, .int 0])), (q1, .inl (E.2 0, 7, .inl (fun _ => 0)))] := hD
  refine zn_putF 0 0 cx hin hP hD hS inlX6 tyX6_ok nmX6 rfl rfl (by decide) w_48 rfl rfl rfl rfl rfl (Nat.le_of_ble_eq_true rfl) dX6_init_9 (fun H locs hP hD hS => ?_)
  have hP : va_P E.1 vwCl [(h0, .inr (6, [.ref q1, .null, .null, .int 0, .int 0, .int 0, .int 0, .int 0, .int 0])), (q1, .inl (E.2 0, 7, .inl (fun _ => 0)))] _ := hP
  have hD : va_D A [(h0, .inr (6, [.ref q1, .null, .null, .int 0, .int 0, .int 0, .int 0, .int 0, .int 0])), (q1, .inl (E.2 0, 7, .inl (fun _ => 0)))] := hD
  refine lv_aload_n hx hb dX6_init_12 rfl (lv_at hl 0 rfl) ?_
  refine lv_bipush (v := nI 7) hx hb dX6_init_13 (by decide) ?_
  refine zn_newa (atype := .int) (ty := .int) (k0 := 0) (N' := 7) (a0 := (7, .inl (fun _ => 0))) 0 cx hP hD hS w_47 rfl (fun C h => by cases h) rfl (fun _ => rfl) (by decide) (by decide) (Nat.le_of_ble_eq_true rfl) (Nat.le_of_ble_eq_true rfl) (Nat.le_of_ble_eq_true rfl) dX6_init_15 (fun q2 H hP hD hS => ?_)
  have hP : va_P E.1 vwCl [(h0, .inr (6, [.ref q1, .null, .null, .int 0, .int 0, .int 0, .int 0, .int 0, .int 0])), (q1, .inl (E.2 0, 7, .inl (fun _ => 0))), (q2, .inl (E.2 0, 7, .inl (fun _ => 0)))] _ := hP
  have hD : va_D A [(h0, .inr (6, [.ref q1, .null, .null, .int 0, .int 0, .int 0, .int 0, .int 0, .int 0])), (q1, .inl (E.2 0, 7, .inl (fun _ => 0))), (q2, .inl (E.2 0, 7, .inl (fun _ => 0)))] := hD
  refine zn_putF 1 0 cx hin hP hD hS inlX6 tyX6_ok nmX6 rfl rfl (by decide) w_49 rfl rfl rfl rfl rfl (Nat.le_of_ble_eq_true rfl) dX6_init_17 (fun H locs hP hD hS => ?_)
  have hP : va_P E.1 vwCl [(h0, .inr (6, [.ref q1, .ref q2, .null, .int 0, .int 0, .int 0, .int 0, .int 0, .int 0])), (q1, .inl (E.2 0, 7, .inl (fun _ => 0))), (q2, .inl (E.2 0, 7, .inl (fun _ => 0)))] _ := hP
  have hD : va_D A [(h0, .inr (6, [.ref q1, .ref q2, .null, .int 0, .int 0, .int 0, .int 0, .int 0, .int 0])), (q1, .inl (E.2 0, 7, .inl (fun _ => 0))), (q2, .inl (E.2 0, 7, .inl (fun _ => 0)))] := hD
  refine lv_aload_n hx hb dX6_init_20 rfl (lv_at hl 0 rfl) ?_
  refine lv_bipush (v := nI 7) hx hb dX6_init_21 (by decide) ?_
  refine zn_newa (atype := .int) (ty := .int) (k0 := 0) (N' := 7) (a0 := (7, .inl (fun _ => 0))) 0 cx hP hD hS w_47 rfl (fun C h => by cases h) rfl (fun _ => rfl) (by decide) (by decide) (Nat.le_of_ble_eq_true rfl) (Nat.le_of_ble_eq_true rfl) (Nat.le_of_ble_eq_true rfl) dX6_init_23 (fun q3 H hP hD hS => ?_)
  have hP : va_P E.1 vwCl [(h0, .inr (6, [.ref q1, .ref q2, .null, .int 0, .int 0, .int 0, .int 0, .int 0, .int 0])), (q1, .inl (E.2 0, 7, .inl (fun _ => 0))), (q2, .inl (E.2 0, 7, .inl (fun _ => 0))), (q3, .inl (E.2 0, 7, .inl (fun _ => 0)))] _ := hP
  have hD : va_D A [(h0, .inr (6, [.ref q1, .ref q2, .null, .int 0, .int 0, .int 0, .int 0, .int 0, .int 0])), (q1, .inl (E.2 0, 7, .inl (fun _ => 0))), (q2, .inl (E.2 0, 7, .inl (fun _ => 0))), (q3, .inl (E.2 0, 7, .inl (fun _ => 0)))] := hD
  refine zn_putF 2 0 cx hin hP hD hS inlX6 tyX6_ok nmX6 rfl rfl (by decide) w_50 rfl rfl rfl rfl rfl (Nat.le_of_ble_eq_true rfl) dX6_init_25 (fun H locs hP hD hS => ?_)
  have hP : va_P E.1 vwCl [(h0, .inr (6, [.ref q1, .ref q2, .ref q3, .int 0, .int 0, .int 0, .int 0, .int 0, .int 0])), (q1, .inl (E.2 0, 7, .inl (fun _ => 0))), (q2, .inl (E.2 0, 7, .inl (fun _ => 0))), (q3, .inl (E.2 0, 7, .inl (fun _ => 0)))] _ := hP
  have hD : va_D A [(h0, .inr (6, [.ref q1, .ref q2, .ref q3, .int 0, .int 0, .int 0, .int 0, .int 0, .int 0])), (q1, .inl (E.2 0, 7, .inl (fun _ => 0))), (q2, .inl (E.2 0, 7, .inl (fun _ => 0))), (q3, .inl (E.2 0, 7, .inl (fun _ => 0)))] := hD
  refine lv_aload_n hx hb dX6_init_28 rfl (lv_at hl 0 rfl) ?_
  refine lv_iconst (v := nI 2) hx hb dX6_init_29 (by decide) ?_
  refine zn_put 5 0 cx hP hD hS inlX6 tyX6_ok nmX6 rfl rfl (by decide) w_51 rfl rfl rfl rfl (Nat.le_of_ble_eq_true rfl) dX6_init_30 (fun H locs hP hD hS => ?_)
  have hP : va_P E.1 vwCl [(h0, .inr (6, [.ref q1, .ref q2, .ref q3, .int 0, .int 0, .int 2, .int 0, .int 0, .int 0])), (q1, .inl (E.2 0, 7, .inl (fun _ => 0))), (q2, .inl (E.2 0, 7, .inl (fun _ => 0))), (q3, .inl (E.2 0, 7, .inl (fun _ => 0)))] _ := hP
  have hD : va_D A [(h0, .inr (6, [.ref q1, .ref q2, .ref q3, .int 0, .int 0, .int 2, .int 0, .int 0, .int 0])), (q1, .inl (E.2 0, 7, .inl (fun _ => 0))), (q2, .inl (E.2 0, 7, .inl (fun _ => 0))), (q3, .inl (E.2 0, 7, .inl (fun _ => 0)))] := hD
  refine lv_aload_n hx hb dX6_init_33 rfl (lv_at hl 0 rfl) ?_
  refine lv_iconst (v := nI 5) hx hb dX6_init_34 (by decide) ?_
  refine zn_put 6 0 cx hP hD hS inlX6 tyX6_ok nmX6 rfl rfl (by decide) w_52 rfl rfl rfl rfl (Nat.le_of_ble_eq_true rfl) dX6_init_35 (fun H locs hP hD hS => ?_)
  have hP : va_P E.1 vwCl [(h0, .inr (6, [.ref q1, .ref q2, .ref q3, .int 0, .int 0, .int 2, .int 5, .int 0, .int 0])), (q1, .inl (E.2 0, 7, .inl (fun _ => 0))), (q2, .inl (E.2 0, 7, .inl (fun _ => 0))), (q3, .inl (E.2 0, 7, .inl (fun _ => 0)))] _ := hP
  have hD : va_D A [(h0, .inr (6, [.ref q1, .ref q2, .ref q3, .int 0, .int 0, .int 2, .int 5, .int 0, .int 0])), (q1, .inl (E.2 0, 7, .inl (fun _ => 0))), (q2, .inl (E.2 0, 7, .inl (fun _ => 0))), (q3, .inl (E.2 0, 7, .inl (fun _ => 0)))] := hD
  refine lv_aload_n hx hb dX6_init_38 rfl (lv_at hl 0 rfl) ?_
  refine lv_iconst (v := nI 0) hx hb dX6_init_39 (by decide) ?_
  refine zn_put 7 0 cx hP hD hS inlX6 tyX6_ok nmX6 rfl rfl (by decide) w_53 rfl rfl rfl rfl (Nat.le_of_ble_eq_true rfl) dX6_init_40 (fun H locs hP hD hS => ?_)
  have hP : va_P E.1 vwCl [(h0, .inr (6, [.ref q1, .ref q2, .ref q3, .int 0, .int 0, .int 2, .int 5, .int 0, .int 0])), (q1, .inl (E.2 0, 7, .inl (fun _ => 0))), (q2, .inl (E.2 0, 7, .inl (fun _ => 0))), (q3, .inl (E.2 0, 7, .inl (fun _ => 0)))] _ := hP
  have hD : va_D A [(h0, .inr (6, [.ref q1, .ref q2, .ref q3, .int 0, .int 0, .int 2, .int 5, .int 0, .int 0])), (q1, .inl (E.2 0, 7, .inl (fun _ => 0))), (q2, .inl (E.2 0, 7, .inl (fun _ => 0))), (q3, .inl (E.2 0, 7, .inl (fun _ => 0)))] := hD
  refine lv_aload_n hx hb dX6_init_43 rfl (lv_at hl 0 rfl) ?_
  refine lv_iconst (v := nI 1) hx hb dX6_init_44 (by decide) ?_
  refine zn_put 8 0 cx hP hD hS inlX6 tyX6_ok nmX6 rfl rfl (by decide) w_54 rfl rfl rfl rfl (Nat.le_of_ble_eq_true rfl) dX6_init_45 (fun H locs hP hD hS => ?_)
  have hP : va_P E.1 vwCl [(h0, .inr (6, [.ref q1, .ref q2, .ref q3, .int 0, .int 0, .int 2, .int 5, .int 0, .int 1])), (q1, .inl (E.2 0, 7, .inl (fun _ => 0))), (q2, .inl (E.2 0, 7, .inl (fun _ => 0))), (q3, .inl (E.2 0, 7, .inl (fun _ => 0)))] _ := hP
  have hD : va_D A [(h0, .inr (6, [.ref q1, .ref q2, .ref q3, .int 0, .int 0, .int 2, .int 5, .int 0, .int 1])), (q1, .inl (E.2 0, 7, .inl (fun _ => 0))), (q2, .inl (E.2 0, 7, .inl (fun _ => 0))), (q3, .inl (E.2 0, 7, .inl (fun _ => 0)))] := hD
  exact hret 48 _ _ _ (fun i => [h0, q1, q2, q3].getD i 0) dX6_init_48 rfl hP hD hS
def BX5 (E : zE) : (Nat → Nat) → va_W := fun a => [(a 0, .inr (5, [.ref (a 1), .int (-1), .int 0])), (a 1, .inl (E.2 2, 24, .inr (.inl (fun _ => 0))))]
set_option maxHeartbeats 8000000 in
set_option maxRecDepth 100000 in
theorem c_X5_init {l : Launch} {E : zE} {h0 sz : Nat} : zMC l E yX5_init cX5_init 1 1 1 24 5 [.null, .int 0, .int 0] [] h0 sz (BX5 E) := by
  refine zMC.of (by decide) rfl (Nat.le_of_ble_eq_true rfl) (fun p e s m args below meth c Q ls A cx hin hP hD hS hl hret => ?_)
  have hx := cx.1
  have hb := cx.2.1
  have hl : lv_has ls 1 [(0, .ref h0)] := hl
  refine lv_aload_n hx hb dX5_init_0 rfl (lv_at hl 0 rfl) ?_
  refine zn_oi cx w_100 hl.1 (Nat.le_of_ble_eq_true rfl) (Nat.le_of_ble_eq_true rfl) dX5_init_1 ?_
  refine lv_aload_n hx hb dX5_init_4 rfl (lv_at hl 0 rfl) ?_
  refine lv_bipush (v := nI 24) hx hb dX5_init_5 (by decide) ?_
  refine zn_newa (atype := .long) (ty := .long) (k0 := 2) (N' := 24) (a0 := (24, .inr (.inl (fun _ => 0)))) 2 cx hP hD hS w_101 rfl (fun C h => by cases h) rfl (fun _ => rfl) (by decide) (by decide) (Nat.le_of_ble_eq_true rfl) (Nat.le_of_ble_eq_true rfl) (Nat.le_of_ble_eq_true rfl) dX5_init_7 (fun q1 H hP hD hS => ?_)
  have hP : va_P E.1 vwCl [(h0, .inr (5, [.null, .int 0, .int 0])), (q1, .inl (E.2 2, 24, .inr (.inl (fun _ => 0))))] _ := hP
  have hD : va_D A [(h0, .inr (5, [.null, .int 0, .int 0])), (q1, .inl (E.2 2, 24, .inr (.inl (fun _ => 0))))] := hD
  refine zn_putF 0 0 cx hin hP hD hS inlX5 tyX5_ok nmX5 rfl rfl (by decide) w_102 rfl rfl rfl rfl rfl (Nat.le_of_ble_eq_true rfl) dX5_init_9 (fun H locs hP hD hS => ?_)
  have hP : va_P E.1 vwCl [(h0, .inr (5, [.ref q1, .int 0, .int 0])), (q1, .inl (E.2 2, 24, .inr (.inl (fun _ => 0))))] _ := hP
  have hD : va_D A [(h0, .inr (5, [.ref q1, .int 0, .int 0])), (q1, .inl (E.2 2, 24, .inr (.inl (fun _ => 0))))] := hD
  refine lv_aload_n hx hb dX5_init_12 rfl (lv_at hl 0 rfl) ?_
  refine lv_iconst (v := (-1 : Int32)) hx hb dX5_init_13 (by decide) ?_
  refine zn_put 1 0 cx hP hD hS inlX5 tyX5_ok nmX5 rfl rfl (by decide) w_103 rfl rfl rfl rfl (Nat.le_of_ble_eq_true rfl) dX5_init_14 (fun H locs hP hD hS => ?_)
  have hP : va_P E.1 vwCl [(h0, .inr (5, [.ref q1, .int (-1), .int 0])), (q1, .inl (E.2 2, 24, .inr (.inl (fun _ => 0))))] _ := hP
  have hD : va_D A [(h0, .inr (5, [.ref q1, .int (-1), .int 0])), (q1, .inl (E.2 2, 24, .inr (.inl (fun _ => 0))))] := hD
  exact hret 17 _ _ _ (fun i => [h0, q1].getD i 0) dX5_init_17 rfl hP hD hS
def BX0 (E : zE) (k : Nat) : (Nat → Nat) → va_W := fun a => [(a 0, .inr (0, [.ref (a 1), .int 0])), (a 1, .inl (E.2 1, k, .inl (fun _ => 0)))]
set_option maxHeartbeats 8000000 in
theorem c_X0_init {l : Launch} {E : zE} {k : Nat} (hk : k ≤ 90) {h0 sz : Nat} : zMC l E yX0_init cX0_init 2 1 1 k 0 [.null, .int 0] [.int (nI k)] h0 sz (BX0 E k) := by
  refine zMC.of (by decide) rfl (Nat.le_of_ble_eq_true rfl) (fun p e s m args below meth c Q ls A cx hin hP hD hS hl hret => ?_)
  have hx := cx.1
  have hb := cx.2.1
  have hl : lv_has ls 2 [(0, .ref h0), (1, .int (nI k))] := hl
  refine lv_aload_n hx hb dX0_init_0 rfl (lv_at hl 0 rfl) ?_
  refine zn_oi cx w_71 hl.1 (Nat.le_of_ble_eq_true rfl) (Nat.le_of_ble_eq_true rfl) dX0_init_1 ?_
  refine lv_aload_n hx hb dX0_init_4 rfl (lv_at hl 0 rfl) ?_
  refine lv_iload_n hx hb dX0_init_5 rfl (lv_at hl 1 rfl) ?_
  refine lv_if_ge (tgt := 13) hx hb dX0_init_6 (by decide) (fun _ => ?_) (fun q => absurd (nI_pos' (by omega)) q)
  refine lv_iload_n hx hb dX0_init_13 rfl (lv_at hl 1 rfl) ?_
  refine zn_newa (atype := .char) (ty := .char) (k0 := 1) (N' := k) (a0 := (k, .inl (fun _ => 0))) 1 cx hP hD hS w_72 rfl (fun C h => by cases h) rfl (fun _ => rfl) (nI_pos (by omega)) (nI_clamp (by omega)) (by show k * 2 ≤ 536870912; omega) (Nat.le_of_ble_eq_true rfl) (by show 0 + k ≤ k; omega) dX0_init_14 (fun q1 H hP hD hS => ?_)
  have hP : va_P E.1 vwCl [(h0, .inr (0, [.null, .int 0])), (q1, .inl (E.2 1, k, .inl (fun _ => 0)))] _ := hP
  have hD : va_D A [(h0, .inr (0, [.null, .int 0])), (q1, .inl (E.2 1, k, .inl (fun _ => 0)))] := hD
  refine zn_putF 0 0 cx hin hP hD hS inlX0 tyX0_ok nmX0 rfl rfl (by decide) w_73 rfl rfl rfl rfl rfl (Nat.le_of_ble_eq_true rfl) dX0_init_16 (fun H locs hP hD hS => ?_)
  have hP : va_P E.1 vwCl [(h0, .inr (0, [.ref q1, .int 0])), (q1, .inl (E.2 1, k, .inl (fun _ => 0)))] _ := hP
  have hD : va_D A [(h0, .inr (0, [.ref q1, .int 0])), (q1, .inl (E.2 1, k, .inl (fun _ => 0)))] := hD
  refine W.widen (k := 1) (n := k) (by omega) (by omega) ?_
  exact hret 19 _ _ _ (fun i => [h0, q1].getD i 0) dX0_init_19 rfl hP hD hS
def BX2 (E : zE) : (Nat → Nat) → va_W := fun a => (((((([(a 0, .inr (2, [.ref (a 1), .int 0])), (a 1, .inl (E.2 3, 6, .inr (.inr (.inr (.inr (va_up (va_up (va_up (va_up (va_up (va_up (fun _ => none) 0 (some (a 2))) 1 (some (a 6))) 2 (some (a 10))) 3 (some (a 14))) 4 (some (a 18))) 5 (some (a 22))))))))] ++ BX6 E (fun j => a (2 + j))) ++ BX6 E (fun j => a (6 + j))) ++ BX6 E (fun j => a (10 + j))) ++ BX6 E (fun j => a (14 + j))) ++ BX6 E (fun j => a (18 + j))) ++ BX6 E (fun j => a (22 + j)))
set_option maxHeartbeats 8000000 in
set_option maxRecDepth 100000 in
theorem c_X2_init {l : Launch} {E : zE} {h0 sz : Nat} : zMC l E yX2_init cX2_init 2 2 25 186 2 [.null, .int 0] [] h0 sz (BX2 E) := by
  refine zMC.of (by decide) rfl (Nat.le_of_ble_eq_true rfl) (fun p e s m args below meth c Q ls A cx hin hP hD hS hl hret => ?_)
  have hx := cx.1
  have hb := cx.2.1
  have hl : lv_has ls 2 [(0, .ref h0)] := hl
  refine lv_aload_n hx hb dX2_init_0 rfl (lv_at hl 0 rfl) ?_
  refine zn_oi cx w_58 hl.1 (Nat.le_of_ble_eq_true rfl) (Nat.le_of_ble_eq_true rfl) dX2_init_1 ?_
  refine lv_aload_n hx hb dX2_init_4 rfl (lv_at hl 0 rfl) ?_
  refine lv_bipush (v := nI 6) hx hb dX2_init_5 (by decide) ?_
  refine zn_newq (k0 := 3) (N' := 6) 3 cx hP hD hS w_59 cx.2.2.2.2.2.1.2.2.1 rfl (by decide) (by decide) (Nat.le_of_ble_eq_true rfl) (Nat.le_of_ble_eq_true rfl) (Nat.le_of_ble_eq_true rfl) dX2_init_7 (fun q1 H hP hD hS => ?_)
  have hP : va_P E.1 vwCl [(h0, .inr (2, [.null, .int 0])), (q1, .inl (E.2 3, 6, .inr (.inr (.inr (.inr (fun _ => none))))))] _ := hP
  have hD : va_D A [(h0, .inr (2, [.null, .int 0])), (q1, .inl (E.2 3, 6, .inr (.inr (.inr (.inr (fun _ => none))))))] := hD
  refine zn_putF 0 0 cx hin hP hD hS inlX2 tyX2_ok nmX2 rfl rfl (by decide) w_60 rfl rfl rfl rfl rfl (Nat.le_of_ble_eq_true rfl) dX2_init_10 (fun H locs hP hD hS => ?_)
  have hP : va_P E.1 vwCl [(h0, .inr (2, [.ref q1, .int 0])), (q1, .inl (E.2 3, 6, .inr (.inr (.inr (.inr (fun _ => none))))))] _ := hP
  have hD : va_D A [(h0, .inr (2, [.ref q1, .int 0])), (q1, .inl (E.2 3, 6, .inr (.inr (.inr (.inr (fun _ => none))))))] := hD
  refine lv_iconst (v := nI 0) hx hb dX2_init_13 (by decide) ?_
  refine lv_istore_n (lv' := [(1, .int (nI 0)), (0, .ref h0)]) hx hb dX2_init_14 rfl hl (by decide) rfl (fun ls hl => ?_)
  have hl : lv_has ls 2 [(0, .ref h0), (1, .int (nI 0))] := lv_sub hl [1, 0] rfl
  refine lv_iload_n hx hb dX2_init_15 rfl (lv_at hl 1 rfl) ?_
  refine lv_bipush (v := nI 6) hx hb dX2_init_16 (by decide) ?_
  refine lv_icmp_ge (tgt := 40) hx hb dX2_init_18 (by decide) (fun c1 => absurd c1 (by decide)) (fun _ => ?_)
  refine lv_aload_n hx hb dX2_init_21 rfl (lv_at hl 0 rfl) ?_
  refine zn_get 0 0 cx hP inlX2 rfl rfl (by decide) w_60 rfl dX2_init_22 ?_
  refine lv_iload_n hx hb dX2_init_25 rfl (lv_at hl 1 rfl) ?_
  refine zn_new 6 cx hP hD hS inlX6 tyX6_ok w_59 w_14 w_15 rfl dfX6 (Nat.le_of_ble_eq_true rfl) (Nat.le_of_ble_eq_true rfl) dX2_init_26 (fun q2 H hP hD hS => ?_)
  refine lv_dup hx hb dX2_init_29 rfl ?_
  refine zn_callN (X := [(h0, .inr (2, [.ref q1, .int 0])), (q1, .inl (E.2 3, 6, .inr (.inr (.inr (.inr (fun _ => none))))))]) (ext := []) cx hP hD hS (fun sz => c_X6_init) ⟨⟨rfl, by decide, by decide, by decide +kernel⟩, by decide, w_15, w_45⟩ w_44 rfl cx.2.2.2.2.2.1.2.1.1.2.1 ⟨Nat.le_of_ble_eq_true rfl, Nat.le_of_ble_eq_true rfl⟩ ⟨Nat.le_of_ble_eq_true rfl, Nat.le_of_ble_eq_true rfl⟩ rfl hl.1 rfl (Nat.le_of_ble_eq_true rfl) dX2_init_30 (fun a2 Hn locsn ha hPn hDn hSn => ?_)
  subst ha
  have hP := hPn
  have hD := hDn
  have hS := hSn
  have hP : va_P E.1 vwCl ([(h0, .inr (2, [.ref q1, .int 0])), (q1, .inl (E.2 3, 6, .inr (.inr (.inr (.inr (fun _ => none))))))] ++ BX6 E a2) _ := hP
  have hD : va_D A ([(h0, .inr (2, [.ref q1, .int 0])), (q1, .inl (E.2 3, 6, .inr (.inr (.inr (.inr (fun _ => none))))))] ++ BX6 E a2) := hD
  refine va_astq (r := (RX6, TX6, 9)) hx hb cx.2.2.2.2.2.1.1 hP hD hS 1 3 2 6 rfl rfl rfl rfl (zin_nI (by decide) (by decide)) dX2_init_33 (fun H locs hP hD hS => ?_)
  have hP : va_P E.1 vwCl ([(h0, .inr (2, [.ref q1, .int 0])), (q1, .inl (E.2 3, 6, .inr (.inr (.inr (.inr (va_up (fun _ => none) 0 (some (a2 0))))))))] ++ BX6 E a2) _ := hP
  have hD : va_D A ([(h0, .inr (2, [.ref q1, .int 0])), (q1, .inl (E.2 3, 6, .inr (.inr (.inr (.inr (va_up (fun _ => none) 0 (some (a2 0))))))))] ++ BX6 E a2) := hD
  refine lv_iinc (v := nI 1) (lv' := [(1, .int (nI 1)), (0, .ref h0)]) hx hb dX2_init_34 hl (k := 1) rfl (by decide) (by decide) rfl (fun ls hl => ?_)
  have hl : lv_has ls 2 [(0, .ref h0), (1, .int (nI 1))] := lv_sub hl [1, 0] rfl
  refine lv_goto (tgt := 15) hx hb dX2_init_37 (by decide) ?_
  refine lv_iload_n hx hb dX2_init_15 rfl (lv_at hl 1 rfl) ?_
  refine lv_bipush (v := nI 6) hx hb dX2_init_16 (by decide) ?_
  refine lv_icmp_ge (tgt := 40) hx hb dX2_init_18 (by decide) (fun c1 => absurd c1 (by decide)) (fun _ => ?_)
  refine lv_aload_n hx hb dX2_init_21 rfl (lv_at hl 0 rfl) ?_
  refine zn_get 0 0 cx hP inlX2 rfl rfl (by decide) w_60 rfl dX2_init_22 ?_
  refine lv_iload_n hx hb dX2_init_25 rfl (lv_at hl 1 rfl) ?_
  refine zn_new 6 cx hP hD hS inlX6 tyX6_ok w_59 w_14 w_15 rfl dfX6 (Nat.le_of_ble_eq_true rfl) (Nat.le_of_ble_eq_true rfl) dX2_init_26 (fun q3 H hP hD hS => ?_)
  refine lv_dup hx hb dX2_init_29 rfl ?_
  refine zn_callN (X := ([(h0, .inr (2, [.ref q1, .int 0])), (q1, .inl (E.2 3, 6, .inr (.inr (.inr (.inr (va_up (fun _ => none) 0 (some (a2 0))))))))] ++ BX6 E a2)) (ext := []) cx hP hD hS (fun sz => c_X6_init) ⟨⟨rfl, by decide, by decide, by decide +kernel⟩, by decide, w_15, w_45⟩ w_44 rfl cx.2.2.2.2.2.1.2.1.1.2.1 ⟨Nat.le_of_ble_eq_true rfl, Nat.le_of_ble_eq_true rfl⟩ ⟨Nat.le_of_ble_eq_true rfl, Nat.le_of_ble_eq_true rfl⟩ rfl hl.1 rfl (Nat.le_of_ble_eq_true rfl) dX2_init_30 (fun a3 Hn locsn ha hPn hDn hSn => ?_)
  subst ha
  have hP := hPn
  have hD := hDn
  have hS := hSn
  have hP : va_P E.1 vwCl (([(h0, .inr (2, [.ref q1, .int 0])), (q1, .inl (E.2 3, 6, .inr (.inr (.inr (.inr (va_up (fun _ => none) 0 (some (a2 0))))))))] ++ BX6 E a2) ++ BX6 E a3) _ := hP
  have hD : va_D A (([(h0, .inr (2, [.ref q1, .int 0])), (q1, .inl (E.2 3, 6, .inr (.inr (.inr (.inr (va_up (fun _ => none) 0 (some (a2 0))))))))] ++ BX6 E a2) ++ BX6 E a3) := hD
  refine va_astq (r := (RX6, TX6, 9)) hx hb cx.2.2.2.2.2.1.1 hP hD hS 1 3 6 6 rfl rfl rfl rfl (zin_nI (by decide) (by decide)) dX2_init_33 (fun H locs hP hD hS => ?_)
  have hP : va_P E.1 vwCl (([(h0, .inr (2, [.ref q1, .int 0])), (q1, .inl (E.2 3, 6, .inr (.inr (.inr (.inr (va_up (va_up (fun _ => none) 0 (some (a2 0))) 1 (some (a3 0))))))))] ++ BX6 E a2) ++ BX6 E a3) _ := hP
  have hD : va_D A (([(h0, .inr (2, [.ref q1, .int 0])), (q1, .inl (E.2 3, 6, .inr (.inr (.inr (.inr (va_up (va_up (fun _ => none) 0 (some (a2 0))) 1 (some (a3 0))))))))] ++ BX6 E a2) ++ BX6 E a3) := hD
  refine lv_iinc (v := nI 2) (lv' := [(1, .int (nI 2)), (0, .ref h0)]) hx hb dX2_init_34 hl (k := 1) rfl (by decide) (by decide) rfl (fun ls hl => ?_)
  have hl : lv_has ls 2 [(0, .ref h0), (1, .int (nI 2))] := lv_sub hl [1, 0] rfl
  refine lv_goto (tgt := 15) hx hb dX2_init_37 (by decide) ?_
  refine lv_iload_n hx hb dX2_init_15 rfl (lv_at hl 1 rfl) ?_
  refine lv_bipush (v := nI 6) hx hb dX2_init_16 (by decide) ?_
  refine lv_icmp_ge (tgt := 40) hx hb dX2_init_18 (by decide) (fun c1 => absurd c1 (by decide)) (fun _ => ?_)
  refine lv_aload_n hx hb dX2_init_21 rfl (lv_at hl 0 rfl) ?_
  refine zn_get 0 0 cx hP inlX2 rfl rfl (by decide) w_60 rfl dX2_init_22 ?_
  refine lv_iload_n hx hb dX2_init_25 rfl (lv_at hl 1 rfl) ?_
  refine zn_new 6 cx hP hD hS inlX6 tyX6_ok w_59 w_14 w_15 rfl dfX6 (Nat.le_of_ble_eq_true rfl) (Nat.le_of_ble_eq_true rfl) dX2_init_26 (fun q4 H hP hD hS => ?_)
  refine lv_dup hx hb dX2_init_29 rfl ?_
  refine zn_callN (X := (([(h0, .inr (2, [.ref q1, .int 0])), (q1, .inl (E.2 3, 6, .inr (.inr (.inr (.inr (va_up (va_up (fun _ => none) 0 (some (a2 0))) 1 (some (a3 0))))))))] ++ BX6 E a2) ++ BX6 E a3)) (ext := []) cx hP hD hS (fun sz => c_X6_init) ⟨⟨rfl, by decide, by decide, by decide +kernel⟩, by decide, w_15, w_45⟩ w_44 rfl cx.2.2.2.2.2.1.2.1.1.2.1 ⟨Nat.le_of_ble_eq_true rfl, Nat.le_of_ble_eq_true rfl⟩ ⟨Nat.le_of_ble_eq_true rfl, Nat.le_of_ble_eq_true rfl⟩ rfl hl.1 rfl (Nat.le_of_ble_eq_true rfl) dX2_init_30 (fun a4 Hn locsn ha hPn hDn hSn => ?_)
  subst ha
  have hP := hPn
  have hD := hDn
  have hS := hSn
  have hP : va_P E.1 vwCl ((([(h0, .inr (2, [.ref q1, .int 0])), (q1, .inl (E.2 3, 6, .inr (.inr (.inr (.inr (va_up (va_up (fun _ => none) 0 (some (a2 0))) 1 (some (a3 0))))))))] ++ BX6 E a2) ++ BX6 E a3) ++ BX6 E a4) _ := hP
  have hD : va_D A ((([(h0, .inr (2, [.ref q1, .int 0])), (q1, .inl (E.2 3, 6, .inr (.inr (.inr (.inr (va_up (va_up (fun _ => none) 0 (some (a2 0))) 1 (some (a3 0))))))))] ++ BX6 E a2) ++ BX6 E a3) ++ BX6 E a4) := hD
  refine va_astq (r := (RX6, TX6, 9)) hx hb cx.2.2.2.2.2.1.1 hP hD hS 1 3 10 6 rfl rfl rfl rfl (zin_nI (by decide) (by decide)) dX2_init_33 (fun H locs hP hD hS => ?_)
  have hP : va_P E.1 vwCl ((([(h0, .inr (2, [.ref q1, .int 0])), (q1, .inl (E.2 3, 6, .inr (.inr (.inr (.inr (va_up (va_up (va_up (fun _ => none) 0 (some (a2 0))) 1 (some (a3 0))) 2 (some (a4 0))))))))] ++ BX6 E a2) ++ BX6 E a3) ++ BX6 E a4) _ := hP
  have hD : va_D A ((([(h0, .inr (2, [.ref q1, .int 0])), (q1, .inl (E.2 3, 6, .inr (.inr (.inr (.inr (va_up (va_up (va_up (fun _ => none) 0 (some (a2 0))) 1 (some (a3 0))) 2 (some (a4 0))))))))] ++ BX6 E a2) ++ BX6 E a3) ++ BX6 E a4) := hD
  refine lv_iinc (v := nI 3) (lv' := [(1, .int (nI 3)), (0, .ref h0)]) hx hb dX2_init_34 hl (k := 1) rfl (by decide) (by decide) rfl (fun ls hl => ?_)
  have hl : lv_has ls 2 [(0, .ref h0), (1, .int (nI 3))] := lv_sub hl [1, 0] rfl
  refine lv_goto (tgt := 15) hx hb dX2_init_37 (by decide) ?_
  refine lv_iload_n hx hb dX2_init_15 rfl (lv_at hl 1 rfl) ?_
  refine lv_bipush (v := nI 6) hx hb dX2_init_16 (by decide) ?_
  refine lv_icmp_ge (tgt := 40) hx hb dX2_init_18 (by decide) (fun c1 => absurd c1 (by decide)) (fun _ => ?_)
  refine lv_aload_n hx hb dX2_init_21 rfl (lv_at hl 0 rfl) ?_
  refine zn_get 0 0 cx hP inlX2 rfl rfl (by decide) w_60 rfl dX2_init_22 ?_
  refine lv_iload_n hx hb dX2_init_25 rfl (lv_at hl 1 rfl) ?_
  refine zn_new 6 cx hP hD hS inlX6 tyX6_ok w_59 w_14 w_15 rfl dfX6 (Nat.le_of_ble_eq_true rfl) (Nat.le_of_ble_eq_true rfl) dX2_init_26 (fun q5 H hP hD hS => ?_)
  refine lv_dup hx hb dX2_init_29 rfl ?_
  refine zn_callN (X := ((([(h0, .inr (2, [.ref q1, .int 0])), (q1, .inl (E.2 3, 6, .inr (.inr (.inr (.inr (va_up (va_up (va_up (fun _ => none) 0 (some (a2 0))) 1 (some (a3 0))) 2 (some (a4 0))))))))] ++ BX6 E a2) ++ BX6 E a3) ++ BX6 E a4)) (ext := []) cx hP hD hS (fun sz => c_X6_init) ⟨⟨rfl, by decide, by decide, by decide +kernel⟩, by decide, w_15, w_45⟩ w_44 rfl cx.2.2.2.2.2.1.2.1.1.2.1 ⟨Nat.le_of_ble_eq_true rfl, Nat.le_of_ble_eq_true rfl⟩ ⟨Nat.le_of_ble_eq_true rfl, Nat.le_of_ble_eq_true rfl⟩ rfl hl.1 rfl (Nat.le_of_ble_eq_true rfl) dX2_init_30 (fun a5 Hn locsn ha hPn hDn hSn => ?_)
  subst ha
  have hP := hPn
  have hD := hDn
  have hS := hSn
  have hP : va_P E.1 vwCl (((([(h0, .inr (2, [.ref q1, .int 0])), (q1, .inl (E.2 3, 6, .inr (.inr (.inr (.inr (va_up (va_up (va_up (fun _ => none) 0 (some (a2 0))) 1 (some (a3 0))) 2 (some (a4 0))))))))] ++ BX6 E a2) ++ BX6 E a3) ++ BX6 E a4) ++ BX6 E a5) _ := hP
  have hD : va_D A (((([(h0, .inr (2, [.ref q1, .int 0])), (q1, .inl (E.2 3, 6, .inr (.inr (.inr (.inr (va_up (va_up (va_up (fun _ => none) 0 (some (a2 0))) 1 (some (a3 0))) 2 (some (a4 0))))))))] ++ BX6 E a2) ++ BX6 E a3) ++ BX6 E a4) ++ BX6 E a5) := hD
  refine va_astq (r := (RX6, TX6, 9)) hx hb cx.2.2.2.2.2.1.1 hP hD hS 1 3 14 6 rfl rfl rfl rfl (zin_nI (by decide) (by decide)) dX2_init_33 (fun H locs hP hD hS => ?_)
  have hP : va_P E.1 vwCl (((([(h0, .inr (2, [.ref q1, .int 0])), (q1, .inl (E.2 3, 6, .inr (.inr (.inr (.inr (va_up (va_up (va_up (va_up (fun _ => none) 0 (some (a2 0))) 1 (some (a3 0))) 2 (some (a4 0))) 3 (some (a5 0))))))))] ++ BX6 E a2) ++ BX6 E a3) ++ BX6 E a4) ++ BX6 E a5) _ := hP
  have hD : va_D A (((([(h0, .inr (2, [.ref q1, .int 0])), (q1, .inl (E.2 3, 6, .inr (.inr (.inr (.inr (va_up (va_up (va_up (va_up (fun _ => none) 0 (some (a2 0))) 1 (some (a3 0))) 2 (some (a4 0))) 3 (some (a5 0))))))))] ++ BX6 E a2) ++ BX6 E a3) ++ BX6 E a4) ++ BX6 E a5) := hD
  refine lv_iinc (v := nI 4) (lv' := [(1, .int (nI 4)), (0, .ref h0)]) hx hb dX2_init_34 hl (k := 1) rfl (by decide) (by decide) rfl (fun ls hl => ?_)
  have hl : lv_has ls 2 [(0, .ref h0), (1, .int (nI 4))] := lv_sub hl [1, 0] rfl
  refine lv_goto (tgt := 15) hx hb dX2_init_37 (by decide) ?_
  refine lv_iload_n hx hb dX2_init_15 rfl (lv_at hl 1 rfl) ?_
  refine lv_bipush (v := nI 6) hx hb dX2_init_16 (by decide) ?_
  refine lv_icmp_ge (tgt := 40) hx hb dX2_init_18 (by decide) (fun c1 => absurd c1 (by decide)) (fun _ => ?_)
  refine lv_aload_n hx hb dX2_init_21 rfl (lv_at hl 0 rfl) ?_
  refine zn_get 0 0 cx hP inlX2 rfl rfl (by decide) w_60 rfl dX2_init_22 ?_
  refine lv_iload_n hx hb dX2_init_25 rfl (lv_at hl 1 rfl) ?_
  refine zn_new 6 cx hP hD hS inlX6 tyX6_ok w_59 w_14 w_15 rfl dfX6 (Nat.le_of_ble_eq_true rfl) (Nat.le_of_ble_eq_true rfl) dX2_init_26 (fun q6 H hP hD hS => ?_)
  refine lv_dup hx hb dX2_init_29 rfl ?_
  refine zn_callN (X := (((([(h0, .inr (2, [.ref q1, .int 0])), (q1, .inl (E.2 3, 6, .inr (.inr (.inr (.inr (va_up (va_up (va_up (va_up (fun _ => none) 0 (some (a2 0))) 1 (some (a3 0))) 2 (some (a4 0))) 3 (some (a5 0))))))))] ++ BX6 E a2) ++ BX6 E a3) ++ BX6 E a4) ++ BX6 E a5)) (ext := []) cx hP hD hS (fun sz => c_X6_init) ⟨⟨rfl, by decide, by decide, by decide +kernel⟩, by decide, w_15, w_45⟩ w_44 rfl cx.2.2.2.2.2.1.2.1.1.2.1 ⟨Nat.le_of_ble_eq_true rfl, Nat.le_of_ble_eq_true rfl⟩ ⟨Nat.le_of_ble_eq_true rfl, Nat.le_of_ble_eq_true rfl⟩ rfl hl.1 rfl (Nat.le_of_ble_eq_true rfl) dX2_init_30 (fun a6 Hn locsn ha hPn hDn hSn => ?_)
  subst ha
  have hP := hPn
  have hD := hDn
  have hS := hSn
  have hP : va_P E.1 vwCl ((((([(h0, .inr (2, [.ref q1, .int 0])), (q1, .inl (E.2 3, 6, .inr (.inr (.inr (.inr (va_up (va_up (va_up (va_up (fun _ => none) 0 (some (a2 0))) 1 (some (a3 0))) 2 (some (a4 0))) 3 (some (a5 0))))))))] ++ BX6 E a2) ++ BX6 E a3) ++ BX6 E a4) ++ BX6 E a5) ++ BX6 E a6) _ := hP
  have hD : va_D A ((((([(h0, .inr (2, [.ref q1, .int 0])), (q1, .inl (E.2 3, 6, .inr (.inr (.inr (.inr (va_up (va_up (va_up (va_up (fun _ => none) 0 (some (a2 0))) 1 (some (a3 0))) 2 (some (a4 0))) 3 (some (a5 0))))))))] ++ BX6 E a2) ++ BX6 E a3) ++ BX6 E a4) ++ BX6 E a5) ++ BX6 E a6) := hD
  refine va_astq (r := (RX6, TX6, 9)) hx hb cx.2.2.2.2.2.1.1 hP hD hS 1 3 18 6 rfl rfl rfl rfl (zin_nI (by decide) (by decide)) dX2_init_33 (fun H locs hP hD hS => ?_)
  have hP : va_P E.1 vwCl ((((([(h0, .inr (2, [.ref q1, .int 0])), (q1, .inl (E.2 3, 6, .inr (.inr (.inr (.inr (va_up (va_up (va_up (va_up (va_up (fun _ => none) 0 (some (a2 0))) 1 (some (a3 0))) 2 (some (a4 0))) 3 (some (a5 0))) 4 (some (a6 0))))))))] ++ BX6 E a2) ++ BX6 E a3) ++ BX6 E a4) ++ BX6 E a5) ++ BX6 E a6) _ := hP
  have hD : va_D A ((((([(h0, .inr (2, [.ref q1, .int 0])), (q1, .inl (E.2 3, 6, .inr (.inr (.inr (.inr (va_up (va_up (va_up (va_up (va_up (fun _ => none) 0 (some (a2 0))) 1 (some (a3 0))) 2 (some (a4 0))) 3 (some (a5 0))) 4 (some (a6 0))))))))] ++ BX6 E a2) ++ BX6 E a3) ++ BX6 E a4) ++ BX6 E a5) ++ BX6 E a6) := hD
  refine lv_iinc (v := nI 5) (lv' := [(1, .int (nI 5)), (0, .ref h0)]) hx hb dX2_init_34 hl (k := 1) rfl (by decide) (by decide) rfl (fun ls hl => ?_)
  have hl : lv_has ls 2 [(0, .ref h0), (1, .int (nI 5))] := lv_sub hl [1, 0] rfl
  refine lv_goto (tgt := 15) hx hb dX2_init_37 (by decide) ?_
  refine lv_iload_n hx hb dX2_init_15 rfl (lv_at hl 1 rfl) ?_
  refine lv_bipush (v := nI 6) hx hb dX2_init_16 (by decide) ?_
  refine lv_icmp_ge (tgt := 40) hx hb dX2_init_18 (by decide) (fun c1 => absurd c1 (by decide)) (fun _ => ?_)
  refine lv_aload_n hx hb dX2_init_21 rfl (lv_at hl 0 rfl) ?_
  refine zn_get 0 0 cx hP inlX2 rfl rfl (by decide) w_60 rfl dX2_init_22 ?_
  refine lv_iload_n hx hb dX2_init_25 rfl (lv_at hl 1 rfl) ?_
  refine zn_new 6 cx hP hD hS inlX6 tyX6_ok w_59 w_14 w_15 rfl dfX6 (Nat.le_of_ble_eq_true rfl) (Nat.le_of_ble_eq_true rfl) dX2_init_26 (fun q7 H hP hD hS => ?_)
  refine lv_dup hx hb dX2_init_29 rfl ?_
  refine zn_callN (X := ((((([(h0, .inr (2, [.ref q1, .int 0])), (q1, .inl (E.2 3, 6, .inr (.inr (.inr (.inr (va_up (va_up (va_up (va_up (va_up (fun _ => none) 0 (some (a2 0))) 1 (some (a3 0))) 2 (some (a4 0))) 3 (some (a5 0))) 4 (some (a6 0))))))))] ++ BX6 E a2) ++ BX6 E a3) ++ BX6 E a4) ++ BX6 E a5) ++ BX6 E a6)) (ext := []) cx hP hD hS (fun sz => c_X6_init) ⟨⟨rfl, by decide, by decide, by decide +kernel⟩, by decide, w_15, w_45⟩ w_44 rfl cx.2.2.2.2.2.1.2.1.1.2.1 ⟨Nat.le_of_ble_eq_true rfl, Nat.le_of_ble_eq_true rfl⟩ ⟨Nat.le_of_ble_eq_true rfl, Nat.le_of_ble_eq_true rfl⟩ rfl hl.1 rfl (Nat.le_of_ble_eq_true rfl) dX2_init_30 (fun a7 Hn locsn ha hPn hDn hSn => ?_)
  subst ha
  have hP := hPn
  have hD := hDn
  have hS := hSn
  have hP : va_P E.1 vwCl (((((([(h0, .inr (2, [.ref q1, .int 0])), (q1, .inl (E.2 3, 6, .inr (.inr (.inr (.inr (va_up (va_up (va_up (va_up (va_up (fun _ => none) 0 (some (a2 0))) 1 (some (a3 0))) 2 (some (a4 0))) 3 (some (a5 0))) 4 (some (a6 0))))))))] ++ BX6 E a2) ++ BX6 E a3) ++ BX6 E a4) ++ BX6 E a5) ++ BX6 E a6) ++ BX6 E a7) _ := hP
  have hD : va_D A (((((([(h0, .inr (2, [.ref q1, .int 0])), (q1, .inl (E.2 3, 6, .inr (.inr (.inr (.inr (va_up (va_up (va_up (va_up (va_up (fun _ => none) 0 (some (a2 0))) 1 (some (a3 0))) 2 (some (a4 0))) 3 (some (a5 0))) 4 (some (a6 0))))))))] ++ BX6 E a2) ++ BX6 E a3) ++ BX6 E a4) ++ BX6 E a5) ++ BX6 E a6) ++ BX6 E a7) := hD
  refine va_astq (r := (RX6, TX6, 9)) hx hb cx.2.2.2.2.2.1.1 hP hD hS 1 3 22 6 rfl rfl rfl rfl (zin_nI (by decide) (by decide)) dX2_init_33 (fun H locs hP hD hS => ?_)
  have hP : va_P E.1 vwCl (((((([(h0, .inr (2, [.ref q1, .int 0])), (q1, .inl (E.2 3, 6, .inr (.inr (.inr (.inr (va_up (va_up (va_up (va_up (va_up (va_up (fun _ => none) 0 (some (a2 0))) 1 (some (a3 0))) 2 (some (a4 0))) 3 (some (a5 0))) 4 (some (a6 0))) 5 (some (a7 0))))))))] ++ BX6 E a2) ++ BX6 E a3) ++ BX6 E a4) ++ BX6 E a5) ++ BX6 E a6) ++ BX6 E a7) _ := hP
  have hD : va_D A (((((([(h0, .inr (2, [.ref q1, .int 0])), (q1, .inl (E.2 3, 6, .inr (.inr (.inr (.inr (va_up (va_up (va_up (va_up (va_up (va_up (fun _ => none) 0 (some (a2 0))) 1 (some (a3 0))) 2 (some (a4 0))) 3 (some (a5 0))) 4 (some (a6 0))) 5 (some (a7 0))))))))] ++ BX6 E a2) ++ BX6 E a3) ++ BX6 E a4) ++ BX6 E a5) ++ BX6 E a6) ++ BX6 E a7) := hD
  refine lv_iinc (v := nI 6) (lv' := [(1, .int (nI 6)), (0, .ref h0)]) hx hb dX2_init_34 hl (k := 1) rfl (by decide) (by decide) rfl (fun ls hl => ?_)
  have hl : lv_has ls 2 [(0, .ref h0), (1, .int (nI 6))] := lv_sub hl [1, 0] rfl
  refine lv_goto (tgt := 15) hx hb dX2_init_37 (by decide) ?_
  refine lv_iload_n hx hb dX2_init_15 rfl (lv_at hl 1 rfl) ?_
  refine lv_bipush (v := nI 6) hx hb dX2_init_16 (by decide) ?_
  refine lv_icmp_ge (tgt := 40) hx hb dX2_init_18 (by decide) (fun _ => ?_) (fun c1 => absurd (by decide) c1)
  exact hret 40 _ _ _ (fun i => (if i = 0 then h0 else (if i = 1 then q1 else (if i < 6 then a2 (i - 2) else (if i < 10 then a3 (i - 6) else (if i < 14 then a4 (i - 10) else (if i < 18 then a5 (i - 14) else (if i < 22 then a6 (i - 18) else (if i < 26 then a7 (i - 22) else 0))))))))) dX2_init_40 rfl hP hD hS
def BX1 (E : zE) : (Nat → Nat) → va_W := fun a => (([(a 0, .inr (1, [.ref (a 1), .ref (a 3), .int 0]))] ++ BX0 E 90 (fun j => a (1 + j))) ++ BX6 E (fun j => a (3 + j)))
set_option maxHeartbeats 8000000 in
set_option maxRecDepth 100000 in
theorem c_X1_init {l : Launch} {E : zE} {h0 sz : Nat} : zMC l E yX1_init cX1_init 1 2 6 122 1 [.null, .null, .int 0] [] h0 sz (BX1 E) := by
  refine zMC.of (by decide) rfl (Nat.le_of_ble_eq_true rfl) (fun p e s m args below meth c Q ls A cx hin hP hD hS hl hret => ?_)
  have hx := cx.1
  have hb := cx.2.1
  have hl : lv_has ls 1 [(0, .ref h0)] := hl
  refine lv_aload_n hx hb dX1_init_0 rfl (lv_at hl 0 rfl) ?_
  refine zn_oi cx w_63 hl.1 (Nat.le_of_ble_eq_true rfl) (Nat.le_of_ble_eq_true rfl) dX1_init_1 ?_
  refine lv_aload_n hx hb dX1_init_4 rfl (lv_at hl 0 rfl) ?_
  refine zn_new 0 cx hP hD hS inlX0 tyX0_ok w_64 w_29 w_30 rfl dfX0 (Nat.le_of_ble_eq_true rfl) (Nat.le_of_ble_eq_true rfl) dX1_init_5 (fun q1 H hP hD hS => ?_)
  refine lv_dup hx hb dX1_init_8 rfl ?_
  refine lv_bipush (v := nI 90) hx hb dX1_init_9 (by decide) ?_
  refine zn_callI (X := [(h0, .inr (1, [.null, .null, .int 0]))]) (ext := [.int (nI 90)]) cx hP hD hS (fun sz => c_X0_init (k := 90) (by decide)) ⟨⟨rfl, by decide, by decide, by decide +kernel⟩, by decide, w_30, w_70⟩ w_69 rfl w_68 ⟨Nat.le_of_ble_eq_true rfl, Nat.le_of_ble_eq_true rfl⟩ ⟨Nat.le_of_ble_eq_true rfl, Nat.le_of_ble_eq_true rfl⟩ rfl hl.1 rfl (Nat.le_of_ble_eq_true rfl) dX1_init_11 (fun a1 Hn locsn ha hPn hDn hSn => ?_)
  subst ha
  have hP := hPn
  have hD := hDn
  have hS := hSn
  have hP : va_P E.1 vwCl ([(h0, .inr (1, [.null, .null, .int 0]))] ++ BX0 E 90 a1) _ := hP
  have hD : va_D A ([(h0, .inr (1, [.null, .null, .int 0]))] ++ BX0 E 90 a1) := hD
  refine zn_putF 0 0 cx hin hP hD hS inlX1 tyX1_ok nmX1 rfl rfl (by decide) w_65 rfl rfl rfl rfl rfl (Nat.le_of_ble_eq_true rfl) dX1_init_14 (fun H locs hP hD hS => ?_)
  have hP : va_P E.1 vwCl ([(h0, .inr (1, [.ref (a1 0), .null, .int 0]))] ++ BX0 E 90 a1) _ := hP
  have hD : va_D A ([(h0, .inr (1, [.ref (a1 0), .null, .int 0]))] ++ BX0 E 90 a1) := hD
  refine lv_aload_n hx hb dX1_init_17 rfl (lv_at hl 0 rfl) ?_
  refine zn_new 6 cx hP hD hS inlX6 tyX6_ok w_66 w_14 w_15 rfl dfX6 (Nat.le_of_ble_eq_true rfl) (Nat.le_of_ble_eq_true rfl) dX1_init_18 (fun q2 H hP hD hS => ?_)
  refine lv_dup hx hb dX1_init_21 rfl ?_
  refine zn_callN (X := ([(h0, .inr (1, [.ref (a1 0), .null, .int 0]))] ++ BX0 E 90 a1)) (ext := []) cx hP hD hS (fun sz => c_X6_init) ⟨⟨rfl, by decide, by decide, by decide +kernel⟩, by decide, w_15, w_45⟩ w_44 rfl cx.2.2.2.2.2.1.2.1.1.2.2 ⟨Nat.le_of_ble_eq_true rfl, Nat.le_of_ble_eq_true rfl⟩ ⟨Nat.le_of_ble_eq_true rfl, Nat.le_of_ble_eq_true rfl⟩ rfl hl.1 rfl (Nat.le_of_ble_eq_true rfl) dX1_init_22 (fun a2 Hn locsn ha hPn hDn hSn => ?_)
  subst ha
  have hP := hPn
  have hD := hDn
  have hS := hSn
  have hP : va_P E.1 vwCl (([(h0, .inr (1, [.ref (a1 0), .null, .int 0]))] ++ BX0 E 90 a1) ++ BX6 E a2) _ := hP
  have hD : va_D A (([(h0, .inr (1, [.ref (a1 0), .null, .int 0]))] ++ BX0 E 90 a1) ++ BX6 E a2) := hD
  refine zn_putF 1 0 cx hin hP hD hS inlX1 tyX1_ok nmX1 rfl rfl (by decide) w_67 rfl rfl rfl rfl rfl (Nat.le_of_ble_eq_true rfl) dX1_init_25 (fun H locs hP hD hS => ?_)
  have hP : va_P E.1 vwCl (([(h0, .inr (1, [.ref (a1 0), .ref (a2 0), .int 0]))] ++ BX0 E 90 a1) ++ BX6 E a2) _ := hP
  have hD : va_D A (([(h0, .inr (1, [.ref (a1 0), .ref (a2 0), .int 0]))] ++ BX0 E 90 a1) ++ BX6 E a2) := hD
  exact hret 28 _ _ _ (fun i => (if i = 0 then h0 else (if i < 3 then a1 (i - 1) else (if i < 7 then a2 (i - 3) else 0)))) dX1_init_28 rfl hP hD hS
def BX3 (E : zE) : (Nat → Nat) → va_W := fun a => [(a 0, .inr (3, [.ref (a 1), .ref (a 2), .ref (a 3), .ref (a 4), .ref (a 5), .int 0, .ref (a 14), .ref (a 15), .ref (a 16)])), (a 1, .inl (E.2 0, 10, .inl (fun _ => 0))), (a 2, .inl (E.2 0, 8, .inl (fun _ => 0))), (a 3, .inl (E.2 0, 8, .inl (fun _ => 0))), (a 4, .inl (E.2 0, 8, .inl (fun _ => 0))), (a 5, .inl (E.2 5, 8, .inr (.inr (.inr (.inr (va_up (va_up (va_up (va_up (va_up (va_up (va_up (va_up (fun _ => none) 0 (some (a 6))) 1 (some (a 7))) 2 (some (a 8))) 3 (some (a 9))) 4 (some (a 10))) 5 (some (a 11))) 6 (some (a 12))) 7 (some (a 13)))))))), (a 6, .inl (E.2 0, 7, .inl (fun _ => 0))), (a 7, .inl (E.2 0, 7, .inl (fun _ => 0))), (a 8, .inl (E.2 0, 7, .inl (fun _ => 0))), (a 9, .inl (E.2 0, 7, .inl (fun _ => 0))), (a 10, .inl (E.2 0, 7, .inl (fun _ => 0))), (a 11, .inl (E.2 0, 7, .inl (fun _ => 0))), (a 12, .inl (E.2 0, 7, .inl (fun _ => 0))), (a 13, .inl (E.2 0, 7, .inl (fun _ => 0))), (a 14, .inl (E.2 0, 7, .inl (fun _ => 0))), (a 15, .inl (E.2 0, 7, .inl (fun _ => 0))), (a 16, .inl (E.2 0, 7, .inl (fun _ => 0)))]
def zRdH (l : Launch) (E : zE) : Prop := ∀ h0 sz, zMC l E yX3_init cX3_init 1 1 16 119 3 [.null, .null, .null, .null, .null, .int 0, .null, .null, .null] [] h0 sz (BX3 E)
def BX4 (E : zE) : (Nat → Nat) → va_W := fun a => (([(a 0, .inr (4, [.ref (a 1), .ref (a 18), .ref (a 19), .ref (a 20), .ref (a 21), .ref (a 22), .int 0, .int 0, .int 0, .int 0, .ref (a 23), .int 0, .int 0]))] ++ BX3 E (fun j => a (1 + j))) ++ [(a 18, .inl (E.2 0, 7, .inl (fun _ => 0))), (a 19, .inl (E.2 0, 7, .inl (fun _ => 0))), (a 20, .inl (E.2 0, 7, .inl (fun _ => 0))), (a 21, .inl (E.2 0, 7, .inl (fun _ => 0))), (a 22, .inl (E.2 0, 7, .inl (fun _ => 0))), (a 23, .inl (E.2 0, 7, .inl (fun _ => 0)))])
set_option maxHeartbeats 8000000 in
set_option maxRecDepth 100000 in
theorem c_X4_init {l : Launch} {E : zE} (hRd : zRdH l E) {h0 sz : Nat} : zMC l E yX4_init cX4_init 1 2 23 170 4 [.null, .null, .null, .null, .null, .null, .int 0, .int 0, .int 0, .int 0, .null, .int 0, .int 0] [] h0 sz (BX4 E) := by
  refine zMC.of (by decide) rfl (Nat.le_of_ble_eq_true rfl) (fun p e s m args below meth c Q ls A cx hin hP hD hS hl hret => ?_)
  have hx := cx.1
  have hb := cx.2.1
  have hl : lv_has ls 1 [(0, .ref h0)] := hl
  refine lv_aload_n hx hb dX4_init_0 rfl (lv_at hl 0 rfl) ?_
  refine zn_oi cx w_89 hl.1 (Nat.le_of_ble_eq_true rfl) (Nat.le_of_ble_eq_true rfl) dX4_init_1 ?_
  refine lv_aload_n hx hb dX4_init_4 rfl (lv_at hl 0 rfl) ?_
  refine zn_new 3 cx hP hD hS inlX3 tyX3_ok w_90 w_33 w_34 rfl dfX3 (Nat.le_of_ble_eq_true rfl) (Nat.le_of_ble_eq_true rfl) dX4_init_5 (fun q1 H hP hD hS => ?_)
  refine lv_dup hx hb dX4_init_8 rfl ?_
  refine zn_callN (X := [(h0, .inr (4, [.null, .null, .null, .null, .null, .null, .int 0, .int 0, .int 0, .int 0, .null, .int 0, .int 0]))]) (ext := []) cx hP hD hS (fun sz => hRd _ sz) ⟨⟨rfl, by decide, by decide, by decide +kernel⟩, by decide, w_34, w_76⟩ w_75 rfl cx.2.2.2.2.2.1.2.1.2.1.2.2 ⟨Nat.le_of_ble_eq_true rfl, Nat.le_of_ble_eq_true rfl⟩ ⟨Nat.le_of_ble_eq_true rfl, Nat.le_of_ble_eq_true rfl⟩ rfl hl.1 rfl (Nat.le_of_ble_eq_true rfl) dX4_init_9 (fun a1 Hn locsn ha hPn hDn hSn => ?_)
  subst ha
  have hP := hPn
  have hD := hDn
  have hS := hSn
  have hP : va_P E.1 vwCl ([(h0, .inr (4, [.null, .null, .null, .null, .null, .null, .int 0, .int 0, .int 0, .int 0, .null, .int 0, .int 0]))] ++ BX3 E a1) _ := hP
  have hD : va_D A ([(h0, .inr (4, [.null, .null, .null, .null, .null, .null, .int 0, .int 0, .int 0, .int 0, .null, .int 0, .int 0]))] ++ BX3 E a1) := hD
  refine zn_putF 0 0 cx hin hP hD hS inlX4 tyX4_ok nmX4 rfl rfl (by decide) w_91 rfl rfl rfl rfl rfl (Nat.le_of_ble_eq_true rfl) dX4_init_12 (fun H locs hP hD hS => ?_)
  have hP : va_P E.1 vwCl ([(h0, .inr (4, [.ref (a1 0), .null, .null, .null, .null, .null, .int 0, .int 0, .int 0, .int 0, .null, .int 0, .int 0]))] ++ BX3 E a1) _ := hP
  have hD : va_D A ([(h0, .inr (4, [.ref (a1 0), .null, .null, .null, .null, .null, .int 0, .int 0, .int 0, .int 0, .null, .int 0, .int 0]))] ++ BX3 E a1) := hD
  refine lv_aload_n hx hb dX4_init_15 rfl (lv_at hl 0 rfl) ?_
  refine lv_bipush (v := nI 7) hx hb dX4_init_16 (by decide) ?_
  refine zn_newa (atype := .int) (ty := .int) (k0 := 0) (N' := 7) (a0 := (7, .inl (fun _ => 0))) 0 cx hP hD hS w_47 rfl (fun C h => by cases h) rfl (fun _ => rfl) (by decide) (by decide) (Nat.le_of_ble_eq_true rfl) (Nat.le_of_ble_eq_true rfl) (Nat.le_of_ble_eq_true rfl) dX4_init_18 (fun q2 H hP hD hS => ?_)
  have hP : va_P E.1 vwCl (([(h0, .inr (4, [.ref (a1 0), .null, .null, .null, .null, .null, .int 0, .int 0, .int 0, .int 0, .null, .int 0, .int 0]))] ++ BX3 E a1) ++ [(q2, .inl (E.2 0, 7, .inl (fun _ => 0)))]) _ := hP
  have hD : va_D A (([(h0, .inr (4, [.ref (a1 0), .null, .null, .null, .null, .null, .int 0, .int 0, .int 0, .int 0, .null, .int 0, .int 0]))] ++ BX3 E a1) ++ [(q2, .inl (E.2 0, 7, .inl (fun _ => 0)))]) := hD
  refine zn_putF 1 0 cx hin hP hD hS inlX4 tyX4_ok nmX4 rfl rfl (by decide) w_92 rfl rfl rfl rfl rfl (Nat.le_of_ble_eq_true rfl) dX4_init_20 (fun H locs hP hD hS => ?_)
  have hP : va_P E.1 vwCl (([(h0, .inr (4, [.ref (a1 0), .ref q2, .null, .null, .null, .null, .int 0, .int 0, .int 0, .int 0, .null, .int 0, .int 0]))] ++ BX3 E a1) ++ [(q2, .inl (E.2 0, 7, .inl (fun _ => 0)))]) _ := hP
  have hD : va_D A (([(h0, .inr (4, [.ref (a1 0), .ref q2, .null, .null, .null, .null, .int 0, .int 0, .int 0, .int 0, .null, .int 0, .int 0]))] ++ BX3 E a1) ++ [(q2, .inl (E.2 0, 7, .inl (fun _ => 0)))]) := hD
  refine lv_aload_n hx hb dX4_init_23 rfl (lv_at hl 0 rfl) ?_
  refine lv_bipush (v := nI 7) hx hb dX4_init_24 (by decide) ?_
  refine zn_newa (atype := .int) (ty := .int) (k0 := 0) (N' := 7) (a0 := (7, .inl (fun _ => 0))) 0 cx hP hD hS w_47 rfl (fun C h => by cases h) rfl (fun _ => rfl) (by decide) (by decide) (Nat.le_of_ble_eq_true rfl) (Nat.le_of_ble_eq_true rfl) (Nat.le_of_ble_eq_true rfl) dX4_init_26 (fun q3 H hP hD hS => ?_)
  have hP : va_P E.1 vwCl (([(h0, .inr (4, [.ref (a1 0), .ref q2, .null, .null, .null, .null, .int 0, .int 0, .int 0, .int 0, .null, .int 0, .int 0]))] ++ BX3 E a1) ++ [(q2, .inl (E.2 0, 7, .inl (fun _ => 0))), (q3, .inl (E.2 0, 7, .inl (fun _ => 0)))]) _ := hP
  have hD : va_D A (([(h0, .inr (4, [.ref (a1 0), .ref q2, .null, .null, .null, .null, .int 0, .int 0, .int 0, .int 0, .null, .int 0, .int 0]))] ++ BX3 E a1) ++ [(q2, .inl (E.2 0, 7, .inl (fun _ => 0))), (q3, .inl (E.2 0, 7, .inl (fun _ => 0)))]) := hD
  refine zn_putF 2 0 cx hin hP hD hS inlX4 tyX4_ok nmX4 rfl rfl (by decide) w_93 rfl rfl rfl rfl rfl (Nat.le_of_ble_eq_true rfl) dX4_init_28 (fun H locs hP hD hS => ?_)
  have hP : va_P E.1 vwCl (([(h0, .inr (4, [.ref (a1 0), .ref q2, .ref q3, .null, .null, .null, .int 0, .int 0, .int 0, .int 0, .null, .int 0, .int 0]))] ++ BX3 E a1) ++ [(q2, .inl (E.2 0, 7, .inl (fun _ => 0))), (q3, .inl (E.2 0, 7, .inl (fun _ => 0)))]) _ := hP
  have hD : va_D A (([(h0, .inr (4, [.ref (a1 0), .ref q2, .ref q3, .null, .null, .null, .int 0, .int 0, .int 0, .int 0, .null, .int 0, .int 0]))] ++ BX3 E a1) ++ [(q2, .inl (E.2 0, 7, .inl (fun _ => 0))), (q3, .inl (E.2 0, 7, .inl (fun _ => 0)))]) := hD
  refine lv_aload_n hx hb dX4_init_31 rfl (lv_at hl 0 rfl) ?_
  refine lv_bipush (v := nI 7) hx hb dX4_init_32 (by decide) ?_
  refine zn_newa (atype := .int) (ty := .int) (k0 := 0) (N' := 7) (a0 := (7, .inl (fun _ => 0))) 0 cx hP hD hS w_47 rfl (fun C h => by cases h) rfl (fun _ => rfl) (by decide) (by decide) (Nat.le_of_ble_eq_true rfl) (Nat.le_of_ble_eq_true rfl) (Nat.le_of_ble_eq_true rfl) dX4_init_34 (fun q4 H hP hD hS => ?_)
  have hP : va_P E.1 vwCl (([(h0, .inr (4, [.ref (a1 0), .ref q2, .ref q3, .null, .null, .null, .int 0, .int 0, .int 0, .int 0, .null, .int 0, .int 0]))] ++ BX3 E a1) ++ [(q2, .inl (E.2 0, 7, .inl (fun _ => 0))), (q3, .inl (E.2 0, 7, .inl (fun _ => 0))), (q4, .inl (E.2 0, 7, .inl (fun _ => 0)))]) _ := hP
  have hD : va_D A (([(h0, .inr (4, [.ref (a1 0), .ref q2, .ref q3, .null, .null, .null, .int 0, .int 0, .int 0, .int 0, .null, .int 0, .int 0]))] ++ BX3 E a1) ++ [(q2, .inl (E.2 0, 7, .inl (fun _ => 0))), (q3, .inl (E.2 0, 7, .inl (fun _ => 0))), (q4, .inl (E.2 0, 7, .inl (fun _ => 0)))]) := hD
  refine zn_putF 3 0 cx hin hP hD hS inlX4 tyX4_ok nmX4 rfl rfl (by decide) w_94 rfl rfl rfl rfl rfl (Nat.le_of_ble_eq_true rfl) dX4_init_36 (fun H locs hP hD hS => ?_)
  have hP : va_P E.1 vwCl (([(h0, .inr (4, [.ref (a1 0), .ref q2, .ref q3, .ref q4, .null, .null, .int 0, .int 0, .int 0, .int 0, .null, .int 0, .int 0]))] ++ BX3 E a1) ++ [(q2, .inl (E.2 0, 7, .inl (fun _ => 0))), (q3, .inl (E.2 0, 7, .inl (fun _ => 0))), (q4, .inl (E.2 0, 7, .inl (fun _ => 0)))]) _ := hP
  have hD : va_D A (([(h0, .inr (4, [.ref (a1 0), .ref q2, .ref q3, .ref q4, .null, .null, .int 0, .int 0, .int 0, .int 0, .null, .int 0, .int 0]))] ++ BX3 E a1) ++ [(q2, .inl (E.2 0, 7, .inl (fun _ => 0))), (q3, .inl (E.2 0, 7, .inl (fun _ => 0))), (q4, .inl (E.2 0, 7, .inl (fun _ => 0)))]) := hD
  refine lv_aload_n hx hb dX4_init_39 rfl (lv_at hl 0 rfl) ?_
  refine lv_bipush (v := nI 7) hx hb dX4_init_40 (by decide) ?_
  refine zn_newa (atype := .int) (ty := .int) (k0 := 0) (N' := 7) (a0 := (7, .inl (fun _ => 0))) 0 cx hP hD hS w_47 rfl (fun C h => by cases h) rfl (fun _ => rfl) (by decide) (by decide) (Nat.le_of_ble_eq_true rfl) (Nat.le_of_ble_eq_true rfl) (Nat.le_of_ble_eq_true rfl) dX4_init_42 (fun q5 H hP hD hS => ?_)
  have hP : va_P E.1 vwCl (([(h0, .inr (4, [.ref (a1 0), .ref q2, .ref q3, .ref q4, .null, .null, .int 0, .int 0, .int 0, .int 0, .null, .int 0, .int 0]))] ++ BX3 E a1) ++ [(q2, .inl (E.2 0, 7, .inl (fun _ => 0))), (q3, .inl (E.2 0, 7, .inl (fun _ => 0))), (q4, .inl (E.2 0, 7, .inl (fun _ => 0))), (q5, .inl (E.2 0, 7, .inl (fun _ => 0)))]) _ := hP
  have hD : va_D A (([(h0, .inr (4, [.ref (a1 0), .ref q2, .ref q3, .ref q4, .null, .null, .int 0, .int 0, .int 0, .int 0, .null, .int 0, .int 0]))] ++ BX3 E a1) ++ [(q2, .inl (E.2 0, 7, .inl (fun _ => 0))), (q3, .inl (E.2 0, 7, .inl (fun _ => 0))), (q4, .inl (E.2 0, 7, .inl (fun _ => 0))), (q5, .inl (E.2 0, 7, .inl (fun _ => 0)))]) := hD
  refine zn_putF 4 0 cx hin hP hD hS inlX4 tyX4_ok nmX4 rfl rfl (by decide) w_95 rfl rfl rfl rfl rfl (Nat.le_of_ble_eq_true rfl) dX4_init_44 (fun H locs hP hD hS => ?_)
  have hP : va_P E.1 vwCl (([(h0, .inr (4, [.ref (a1 0), .ref q2, .ref q3, .ref q4, .ref q5, .null, .int 0, .int 0, .int 0, .int 0, .null, .int 0, .int 0]))] ++ BX3 E a1) ++ [(q2, .inl (E.2 0, 7, .inl (fun _ => 0))), (q3, .inl (E.2 0, 7, .inl (fun _ => 0))), (q4, .inl (E.2 0, 7, .inl (fun _ => 0))), (q5, .inl (E.2 0, 7, .inl (fun _ => 0)))]) _ := hP
  have hD : va_D A (([(h0, .inr (4, [.ref (a1 0), .ref q2, .ref q3, .ref q4, .ref q5, .null, .int 0, .int 0, .int 0, .int 0, .null, .int 0, .int 0]))] ++ BX3 E a1) ++ [(q2, .inl (E.2 0, 7, .inl (fun _ => 0))), (q3, .inl (E.2 0, 7, .inl (fun _ => 0))), (q4, .inl (E.2 0, 7, .inl (fun _ => 0))), (q5, .inl (E.2 0, 7, .inl (fun _ => 0)))]) := hD
  refine lv_aload_n hx hb dX4_init_47 rfl (lv_at hl 0 rfl) ?_
  refine lv_bipush (v := nI 7) hx hb dX4_init_48 (by decide) ?_
  refine zn_newa (atype := .int) (ty := .int) (k0 := 0) (N' := 7) (a0 := (7, .inl (fun _ => 0))) 0 cx hP hD hS w_47 rfl (fun C h => by cases h) rfl (fun _ => rfl) (by decide) (by decide) (Nat.le_of_ble_eq_true rfl) (Nat.le_of_ble_eq_true rfl) (Nat.le_of_ble_eq_true rfl) dX4_init_50 (fun q6 H hP hD hS => ?_)
  have hP : va_P E.1 vwCl (([(h0, .inr (4, [.ref (a1 0), .ref q2, .ref q3, .ref q4, .ref q5, .null, .int 0, .int 0, .int 0, .int 0, .null, .int 0, .int 0]))] ++ BX3 E a1) ++ [(q2, .inl (E.2 0, 7, .inl (fun _ => 0))), (q3, .inl (E.2 0, 7, .inl (fun _ => 0))), (q4, .inl (E.2 0, 7, .inl (fun _ => 0))), (q5, .inl (E.2 0, 7, .inl (fun _ => 0))), (q6, .inl (E.2 0, 7, .inl (fun _ => 0)))]) _ := hP
  have hD : va_D A (([(h0, .inr (4, [.ref (a1 0), .ref q2, .ref q3, .ref q4, .ref q5, .null, .int 0, .int 0, .int 0, .int 0, .null, .int 0, .int 0]))] ++ BX3 E a1) ++ [(q2, .inl (E.2 0, 7, .inl (fun _ => 0))), (q3, .inl (E.2 0, 7, .inl (fun _ => 0))), (q4, .inl (E.2 0, 7, .inl (fun _ => 0))), (q5, .inl (E.2 0, 7, .inl (fun _ => 0))), (q6, .inl (E.2 0, 7, .inl (fun _ => 0)))]) := hD
  refine zn_putF 5 0 cx hin hP hD hS inlX4 tyX4_ok nmX4 rfl rfl (by decide) w_96 rfl rfl rfl rfl rfl (Nat.le_of_ble_eq_true rfl) dX4_init_52 (fun H locs hP hD hS => ?_)
  have hP : va_P E.1 vwCl (([(h0, .inr (4, [.ref (a1 0), .ref q2, .ref q3, .ref q4, .ref q5, .ref q6, .int 0, .int 0, .int 0, .int 0, .null, .int 0, .int 0]))] ++ BX3 E a1) ++ [(q2, .inl (E.2 0, 7, .inl (fun _ => 0))), (q3, .inl (E.2 0, 7, .inl (fun _ => 0))), (q4, .inl (E.2 0, 7, .inl (fun _ => 0))), (q5, .inl (E.2 0, 7, .inl (fun _ => 0))), (q6, .inl (E.2 0, 7, .inl (fun _ => 0)))]) _ := hP
  have hD : va_D A (([(h0, .inr (4, [.ref (a1 0), .ref q2, .ref q3, .ref q4, .ref q5, .ref q6, .int 0, .int 0, .int 0, .int 0, .null, .int 0, .int 0]))] ++ BX3 E a1) ++ [(q2, .inl (E.2 0, 7, .inl (fun _ => 0))), (q3, .inl (E.2 0, 7, .inl (fun _ => 0))), (q4, .inl (E.2 0, 7, .inl (fun _ => 0))), (q5, .inl (E.2 0, 7, .inl (fun _ => 0))), (q6, .inl (E.2 0, 7, .inl (fun _ => 0)))]) := hD
  refine lv_aload_n hx hb dX4_init_55 rfl (lv_at hl 0 rfl) ?_
  refine lv_bipush (v := nI 7) hx hb dX4_init_56 (by decide) ?_
  refine zn_newa (atype := .int) (ty := .int) (k0 := 0) (N' := 7) (a0 := (7, .inl (fun _ => 0))) 0 cx hP hD hS w_47 rfl (fun C h => by cases h) rfl (fun _ => rfl) (by decide) (by decide) (Nat.le_of_ble_eq_true rfl) (Nat.le_of_ble_eq_true rfl) (Nat.le_of_ble_eq_true rfl) dX4_init_58 (fun q7 H hP hD hS => ?_)
  have hP : va_P E.1 vwCl (([(h0, .inr (4, [.ref (a1 0), .ref q2, .ref q3, .ref q4, .ref q5, .ref q6, .int 0, .int 0, .int 0, .int 0, .null, .int 0, .int 0]))] ++ BX3 E a1) ++ [(q2, .inl (E.2 0, 7, .inl (fun _ => 0))), (q3, .inl (E.2 0, 7, .inl (fun _ => 0))), (q4, .inl (E.2 0, 7, .inl (fun _ => 0))), (q5, .inl (E.2 0, 7, .inl (fun _ => 0))), (q6, .inl (E.2 0, 7, .inl (fun _ => 0))), (q7, .inl (E.2 0, 7, .inl (fun _ => 0)))]) _ := hP
  have hD : va_D A (([(h0, .inr (4, [.ref (a1 0), .ref q2, .ref q3, .ref q4, .ref q5, .ref q6, .int 0, .int 0, .int 0, .int 0, .null, .int 0, .int 0]))] ++ BX3 E a1) ++ [(q2, .inl (E.2 0, 7, .inl (fun _ => 0))), (q3, .inl (E.2 0, 7, .inl (fun _ => 0))), (q4, .inl (E.2 0, 7, .inl (fun _ => 0))), (q5, .inl (E.2 0, 7, .inl (fun _ => 0))), (q6, .inl (E.2 0, 7, .inl (fun _ => 0))), (q7, .inl (E.2 0, 7, .inl (fun _ => 0)))]) := hD
  refine zn_putF 10 0 cx hin hP hD hS inlX4 tyX4_ok nmX4 rfl rfl (by decide) w_97 rfl rfl rfl rfl rfl (Nat.le_of_ble_eq_true rfl) dX4_init_60 (fun H locs hP hD hS => ?_)
  have hP : va_P E.1 vwCl (([(h0, .inr (4, [.ref (a1 0), .ref q2, .ref q3, .ref q4, .ref q5, .ref q6, .int 0, .int 0, .int 0, .int 0, .ref q7, .int 0, .int 0]))] ++ BX3 E a1) ++ [(q2, .inl (E.2 0, 7, .inl (fun _ => 0))), (q3, .inl (E.2 0, 7, .inl (fun _ => 0))), (q4, .inl (E.2 0, 7, .inl (fun _ => 0))), (q5, .inl (E.2 0, 7, .inl (fun _ => 0))), (q6, .inl (E.2 0, 7, .inl (fun _ => 0))), (q7, .inl (E.2 0, 7, .inl (fun _ => 0)))]) _ := hP
  have hD : va_D A (([(h0, .inr (4, [.ref (a1 0), .ref q2, .ref q3, .ref q4, .ref q5, .ref q6, .int 0, .int 0, .int 0, .int 0, .ref q7, .int 0, .int 0]))] ++ BX3 E a1) ++ [(q2, .inl (E.2 0, 7, .inl (fun _ => 0))), (q3, .inl (E.2 0, 7, .inl (fun _ => 0))), (q4, .inl (E.2 0, 7, .inl (fun _ => 0))), (q5, .inl (E.2 0, 7, .inl (fun _ => 0))), (q6, .inl (E.2 0, 7, .inl (fun _ => 0))), (q7, .inl (E.2 0, 7, .inl (fun _ => 0)))]) := hD
  exact hret 63 _ _ _ (fun i => if i = 0 then h0 else if i < 18 then a1 (i - 1) else [q2, q3, q4, q5, q6, q7].getD (i - 18) 0) dX4_init_63 rfl hP hD hS
