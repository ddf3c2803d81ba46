/-! THE CONSTRUCTORS: what each makes, its contract -/
section ZN2
variable {p : Program} {l : Launch} {e : Env} {R : Room} {s : State} {m : MethodId} {args : Array Value} {below : List Frame} {meth : Method} {c : Code} {H : Heap} {locs : List Loc} {cells slots : Nat} {Q : State → Prop} {cc : ByteArray} {pc : Nat} {ls : Array Slot} {rest st : List Value} {own : String} {nL : Nat} {E : zE} {A : Nat → Prop} {ws : va_W}
theorem zn_oi {k0 q : Nat} (cx : zCC p R s m args meth c own cc nL E A) (hl : Cond.methodLink own k0 objectInit ∈ wsL_law) (hsz : ls.size = nL) (h1 : 1 ≤ R.frames) (h2 : 12 ≤ R.locals) (hdg : decode cc pc = .ok (.invokespecial k0, 3)) (kk : W p l e R s m args below meth c H locs cells slots Q (F0 m (pc + 3) ls [])) : W p l e R s m args below meth c H locs cells slots Q (F0 m pc ls [.ref q]) := by
  obtain ⟨hx, hb, hml, hown, hts, -, -⟩ := cx
  exact W.objInit hx hb hown (hts _ hl) (hts _ w_11) (hts _ w_12) rfl (by rw [hml]; exact hsz) rfl hdg h1 h2 (W.eq (g2 := F0 m (pc + 3) ls []) rfl kk)
theorem zn_putF {C : String} {T : u_T} {N ci a index : Nat} {fs : List Value} {v : Value} {ty : FieldType} {tf : Nat → FieldType} (k q0 : Nat) (cx : zCC p R s m args meth c own cc nL E A) (hi : meth.name = "<init>") (hP : va_P E.1 vwCl ws H) (hD : va_D A ws) (hS : va_S A s.heap H locs) (hws : ∀ w ∈ u_ws C T N, w ∈ wsL_law) (hty : ∀ k, k < N → parseFieldDescriptor (T k).2.2.1 = some (tf k)) (hnm : ∀ a, a < N → ∀ b, b < N → a ≠ b → (T a).2.1 ≠ (T b).2.1) (he : ws[q0]? = some (a, .inr (ci, fs))) (hc : vwCl[ci]? = some (C, T, N)) (hk : k < N) (hl : Cond.fieldLink own index (T k).1 (T k).2.1 (T k).2.2.1 ∈ wsL_law) (hfin : (T k).2.2.2 = true) (hdecl : (T k).1 = own) (htk : tf k = ty) (hn : narrow ty v = v) (hfit : fits ty v = true) (hlen : k < fs.length) (hdg : decode cc pc = .ok (.putfield index, 3)) (kk : ∀ (H1 : Heap) (locs1 : List Loc), va_P E.1 vwCl (ws.set q0 (a, .inr (ci, fs.set k v))) H1 → va_D A (ws.set q0 (a, .inr (ci, fs.set k v))) → va_S A s.heap H1 locs1 → W p l e R s m args below meth c H1 locs1 cells slots Q (F0 m (pc + 3) ls rest)) : W p l e R s m args below meth c H locs cells slots Q (F0 m pc ls (v :: .ref a :: rest)) :=
  va_putF cx.1 cx.2.1 cx.2.2.2.2.1 hws tf hty hnm cx.2.2.2.1 cx.2.2.2.2.2.1.1 hP hD hS q0 he hc k hk (cx.2.2.2.2.1 _ hl) (fun _ h => h) hfin hi hdecl (by rw [hty k hk, htk]) hn hfit hlen hdg kk
theorem zn_put {C : String} {T : u_T} {N ci a index : Nat} {fs : List Value} {v : Value} {ty : FieldType} {tf : Nat → FieldType} (k q0 : Nat) (cx : zCC p R s m args meth c own cc nL E A) (hP : va_P E.1 vwCl ws H) (hD : va_D A ws) (hS : va_S A s.heap H locs) (hws : ∀ w ∈ u_ws C T N, w ∈ wsL_law) (hty : ∀ k, k < N → parseFieldDescriptor (T k).2.2.1 = some (tf k)) (hnm : ∀ a, a < N → ∀ b, b < N → a ≠ b → (T a).2.1 ≠ (T b).2.1) (he : ws[q0]? = some (a, .inr (ci, fs))) (hc : vwCl[ci]? = some (C, T, N)) (hk : k < N) (hl : Cond.fieldLink own index (T k).1 (T k).2.1 (T k).2.2.1 ∈ wsL_law) (hfin : (T k).2.2.2 = false) (htk : tf k = ty) (hn : narrow ty v = v) (hfit : fits ty v = true) (hlen : k < fs.length) (hdg : decode cc pc = .ok (.putfield index, 3)) (kk : ∀ (H1 : Heap) (locs1 : List Loc), va_P E.1 vwCl (ws.set q0 (a, .inr (ci, fs.set k v))) H1 → va_D A (ws.set q0 (a, .inr (ci, fs.set k v))) → va_S A s.heap H1 locs1 → W p l e R s m args below meth c H1 locs1 cells slots Q (F0 m (pc + 3) ls rest)) : W p l e R s m args below meth c H locs cells slots Q (F0 m pc ls (v :: .ref a :: rest)) :=
  va_put cx.1 cx.2.1 cx.2.2.2.2.1 hws tf hty hnm cx.2.2.2.1 cx.2.2.2.2.2.1.1 hP hD hS q0 he hc k hk (cx.2.2.2.2.1 _ hl) (fun _ h => h) hfin (by rw [hty k hk, htk]) hn hfit hlen hdg kk
theorem zn_get {C : String} {T : u_T} {N ci a index : Nat} {fs : List Value} {v : Value} (k q0 : Nat) (cx : zCC p R s m args meth c own cc nL E A) (hP : va_P E.1 vwCl ws H) (hws : ∀ w ∈ u_ws C T N, w ∈ wsL_law) (he : ws[q0]? = some (a, .inr (ci, fs))) (hc : vwCl[ci]? = some (C, T, N)) (hk : k < N) (hl : Cond.fieldLink own index (T k).1 (T k).2.1 (T k).2.2.1 ∈ wsL_law) (hv : fs[k]? = some v) (hdg : decode cc pc = .ok (.getfield index, 3)) (kk : W p l e R s m args below meth c H locs cells slots Q (F0 m (pc + 3) ls (v :: rest))) : W p l e R s m args below meth c H locs cells slots Q (F0 m pc ls (.ref a :: rest)) :=
  va_get cx.1 cx.2.1 cx.2.2.2.2.1 hws cx.2.2.2.1 cx.2.2.2.2.2.1.1 hP q0 he hc k hk (cx.2.2.2.2.1 _ hl) (fun _ h => h) hv hdg kk
theorem zn_new {C : String} {T : u_T} {N index : Nat} {fs : List Value} {tf : Nat → FieldType} (ci : Nat) (cx : zCC p R s m args meth c own cc nL E A) (hP : va_P E.1 vwCl ws H) (hD : va_D A ws) (hS : va_S A s.heap H locs) (hws : ∀ w ∈ u_ws C T N, w ∈ wsL_law) (hty : ∀ k, k < N → parseFieldDescriptor (T k).2.2.1 = some (tf k)) (h1 : Cond.classLink own index C ∈ wsL_law) (h2 : Cond.instantiable C N ∈ wsL_law) (h3 : Cond.initialized C ∈ wsL_law) (hc : vwCl[ci]? = some (C, T, N)) (hfs : ∀ j, j < N → defaultValue (tf j) = vp_V fs j) (hcells : cells + 1 ≤ R.cells) (hslots : slots + N ≤ R.slots) (hdg : decode cc pc = .ok (.new index, 3)) (kk : ∀ (q : Nat) (H1 : Heap), va_P E.1 vwCl (ws ++ [(q, .inr (ci, fs))]) H1 → va_D A (ws ++ [(q, .inr (ci, fs))]) → va_S A s.heap H1 locs → W p l e R s m args below meth c H1 locs (cells + 1) (slots + N) Q (F0 m (pc + 3) ls (.ref q :: rest))) : W p l e R s m args below meth c H locs cells slots Q (F0 m pc ls rest) :=
  va_new cx.1 cx.2.1 cx.2.2.2.2.1 hws tf hty cx.2.2.2.1 (cx.2.2.2.2.1 _ h1) (cx.2.2.2.2.1 _ h2) (cx.2.2.2.2.1 _ h3) cx.2.2.2.2.2.1.1 hP hD hS cx.2.2.2.2.2.2 hc hfs hcells hslots hdg kk
end ZN2
theorem dfX0 : ∀ j, j < 2 → defaultValue (tyX0 j) = vp_V [.null, .int 0] j := by
  intro j hj
  match j, hj with
  | 0, _ => rfl
  | 1, _ => rfl
  | j + 2, h => exact absurd h (by omega)
theorem dfX1 : ∀ j, j < 3 → defaultValue (tyX1 j) = vp_V [.null, .null, .int 0] j := by
  intro j hj
  match j, hj with
  | 0, _ => rfl
  | 1, _ => rfl
  | 2, _ => rfl
  | j + 3, h => exact absurd h (by omega)
theorem dfX2 : ∀ j, j < 2 → defaultValue (tyX2 j) = vp_V [.null, .int 0] j := by
  intro j hj
  match j, hj with
  | 0, _ => rfl
  | 1, _ => rfl
  | j + 2, h => exact absurd h (by omega)
theorem dfX3 : ∀ j, j < 9 → defaultValue (tyX3 j) = vp_V [.null, .null, .null, .null, .null, .int 0, .null, .null, .null] j := by
  intro j hj
  match j, hj with
  | 0, _ => rfl
  | 1, _ => rfl
  | 2, _ => rfl
  | 3, _ => rfl
  | 4, _ => rfl
  | 5, _ => rfl
  | 6, _ => rfl
  | 7, _ => rfl
  | 8, _ => rfl
  | j + 9, h => exact absurd h (by omega)
theorem dfX4 : ∀ j, j < 13 → defaultValue (tyX4 j) = vp_V [.null, .null, .null, .null, .null, .null, .int 0, .int 0, .int 0, .int 0, .null, .int 0, .int 0] j := by
  intro j hj
  match j, hj with
  | 0, _ => rfl
  | 1, _ => rfl
  | 2, _ => rfl
  | 3, _ => rfl
  | 4, _ => rfl
  | 5, _ => rfl
  | 6, _ => rfl
  | 7, _ => rfl
  | 8, _ => rfl
  | 9, _ => rfl
  | 10, _ => rfl
  | 11, _ => rfl
  | 12, _ => rfl
  | j + 13, h => exact absurd h (by omega)
theorem dfX5 : ∀ j, j < 3 → defaultValue (tyX5 j) = vp_V [.null, .int 0, .int 0] j := by
  intro j hj
  match j, hj with
  | 0, _ => rfl
  | 1, _ => rfl
  | 2, _ => rfl
  | j + 3, h => exact absurd h (by omega)
theorem dfX6 : ∀ j, j < 9 → defaultValue (tyX6 j) = vp_V [.null, .null, .null, .int 0, .int 0, .int 0, .int 0, .int 0, .int 0] j := by
  intro j hj
  match j, hj with
  | 0, _ => rfl
  | 1, _ => rfl
  | 2, _ => rfl
  | 3, _ => rfl
  | 4, _ => rfl
  | 5, _ => rfl
  | 6, _ => rfl
  | 7, _ => rfl
  | 8, _ => rfl
  | j + 9, h => exact absurd h (by omega)
theorem dfX7 : ∀ j, j < 11 → defaultValue (tyX7 j) = vp_V [.null, .null, .null, .null, .null, .int 0, .null, .null, .null, .null, .null] j := by
  intro j hj
  match j, hj with
  | 0, _ => rfl
  | 1, _ => rfl
  | 2, _ => rfl
  | 3, _ => rfl
  | 4, _ => rfl
  | 5, _ => rfl
  | 6, _ => rfl
  | 7, _ => rfl
  | 8, _ => rfl
  | 9, _ => rfl
  | 10, _ => rfl
  | j + 11, h => exact absurd h (by omega)
theorem dfX8 : ∀ j, j < 27 → defaultValue (tyX8 j) = vp_V [.null, .null, .int 0, .null, .null, .int 0, .null, .int 0, .null, .null, .null, .null, .null, .null, .null, .null, .null, .null, .null, .int 0, .int 0, .int 0, .null, .int 0, .null, .int 0, .int 0] j := by
  intro j hj
  match j, hj with
  | 0, _ => rfl
  | 1, _ => rfl
  | 2, _ => rfl
  | 3, _ => rfl
  | 4, _ => rfl
  | 5, _ => rfl
  | 6, _ => rfl
  | 7, _ => rfl
  | 8, _ => rfl
  | 9, _ => rfl
  | 10, _ => rfl
  | 11, _ => rfl
  | 12, _ => rfl
  | 13, _ => rfl
  | 14, _ => rfl
  | 15, _ => rfl
  | 16, _ => rfl
  | 17, _ => rfl
  | 18, _ => rfl
  | 19, _ => rfl
  | 20, _ => rfl
  | 21, _ => rfl
  | 22, _ => rfl
  | 23, _ => rfl
  | 24, _ => rfl
  | 25, _ => rfl
  | 26, _ => rfl
  | j + 27, h => exact absurd h (by omega)
def BX6 (E : zE) : (Nat → Nat) → va_W := fun a => [(a 0, .inr (6, [.ref (a 1), .ref (a 2), .ref (a 3), .int 0, .int 0, .int 2, .int 5, .int 0, .int 1])), (a 1, .inl (E.2 0, 7, .inl (fun _ => 0))), (a 2, .inl (E.2 0, 7, .inl (fun _ => 0))), (a 3, .inl (E.2 0, 7, .inl (fun _ => 0)))]
set_option maxHeartbeats 8000000 in
set_option maxRecDepth 100000 in
theorem c_X6_init {l : Launch} {E : zE} {h0 sz : Nat} : zMC l E yX6_init cX6_init 1 1 3 21 6 [.null, .null, .null, .int 0, .int 0, .int 0, .int 0, .int 0, .int 0] [] h0 sz (BX6 E) := by
  refine zMC.of (by decide) rfl (Nat.le_of_ble_eq_true rfl) (fun p e s m args below meth c Q ls A cx hin hP hD hS hl hret => ?_)
  have hx := cx.1
  have hb := cx.2.1
  have hl : lv_has ls 1 [(0, .ref h0)] := hl
  refine lv_aload_n hx hb dX6_init_0 rfl (lv_at hl 0 rfl) ?_
  refine zn_oi cx w_46 hl.1 (Nat.le_of_ble_eq_true rfl) (Nat.le_of_ble_eq_true rfl) dX6_init_1 ?_
  refine lv_aload_n hx hb dX6_init_4 rfl (lv_at hl 0 rfl) ?_
  refine lv_bipush (v := nI 7) hx hb dX6_init_5 (by decide) ?_
  refine zn_newa (atype := .int) (ty := .int) (k0 := 0) (N' := 7) (a0 := (7, .inl (fun _ => 0))) 0 cx hP hD hS w_47 rfl (fun C h => by cases h) rfl (fun _ => rfl) (by decide) (by decide) (Nat.le_of_ble_eq_true rfl) (Nat.le_of_ble_eq_true rfl) (Nat.le_of_ble_eq_true rfl) dX6_init_7 (fun q1 H hP hD hS => ?_)
  have hP : va_P E.1 vwCl [(h0, .inr (6, [.null, .null, .null, .int 0, .int 0, .int 0, .int 0, .int 0, .int 0])), (q1, .inl (E.2 0, 7, .inl (fun _ => 0)))] H := hP
  have hD : va_D A [(h0, .inr (6, [.null, .null, .null, .int 0, .int 0, .int 0, .int 0, .int 0, .int 0])), (q1, .inl (E.2 0, 7, .inl (fun _ => 0)))] := hD
  refine zn_putF 0 0 cx hin hP hD hS inlX6 tyX6_ok nmX6 rfl rfl (by decide) w_48 rfl rfl rfl rfl rfl (Nat.le_of_ble_eq_true rfl) dX6_init_9 (fun H locs hP hD hS => ?_)
  have hP : va_P E.1 vwCl [(h0, .inr (6, [.ref q1, .null, .null, .int 0, .int 0, .int 0, .int 0, .int 0, .int 0])), (q1, .inl (E.2 0, 7, .inl (fun _ => 0)))] H := hP
  have hD : va_D A [(h0, .inr (6, [.ref q1, .null, .null, .int 0, .int 0, .int 0, .int 0, .int 0, .int 0])), (q1, .inl (E.2 0, 7, .inl (fun _ => 0)))] := hD
  refine lv_aload_n hx hb dX6_init_12 rfl (lv_at hl 0 rfl) ?_
  refine lv_bipush (v := nI 7) hx hb dX6_init_13 (by decide) ?_
  refine zn_newa (atype := .int) (ty := .int) (k0 := 0) (N' := 7) (a0 := (7, .inl (fun _ => 0))) 0 cx hP hD hS w_47 rfl (fun C h => by cases h) rfl (fun _ => rfl) (by decide) (by decide) (Nat.le_of_ble_eq_true rfl) (Nat.le_of_ble_eq_true rfl) (Nat.le_of_ble_eq_true rfl) dX6_init_15 (fun q2 H hP hD hS => ?_)
  have hP : va_P E.1 vwCl [(h0, .inr (6, [.ref q1, .null, .null, .int 0, .int 0, .int 0, .int 0, .int 0, .int 0])), (q1, .inl (E.2 0, 7, .inl (fun _ => 0))), (q2, .inl (E.2 0, 7, .inl (fun _ => 0)))] H := hP
  have hD : va_D A [(h0, .inr (6, [.ref q1, .null, .null, .int 0, .int 0, .int 0, .int 0, .int 0, .int 0])), (q1, .inl (E.2 0, 7, .inl (fun _ => 0))), (q2, .inl (E.2 0, 7, .inl (fun _ => 0)))] := hD
  refine zn_putF 1 0 cx hin hP hD hS inlX6 tyX6_ok nmX6 rfl rfl (by decide) w_49 rfl rfl rfl rfl rfl (Nat.le_of_ble_eq_true rfl) dX6_init_17 (fun H locs hP hD hS => ?_)
  have hP : va_P E.1 vwCl [(h0, .inr (6, [.ref q1, .ref q2, .null, .int 0, .int 0, .int 0, .int 0, .int 0, .int 0])), (q1, .inl (E.2 0, 7, .inl (fun _ => 0))), (q2, .inl (E.2 0, 7, .inl (fun _ => 0)))] H := hP
  have hD : va_D A [(h0, .inr (6, [.ref q1, .ref q2, .null, .int 0, .int 0, .int 0, .int 0, .int 0, .int 0])), (q1, .inl (E.2 0, 7, .inl (fun _ => 0))), (q2, .inl (E.2 0, 7, .inl (fun _ => 0)))] := hD
  refine lv_aload_n hx hb dX6_init_20 rfl (lv_at hl 0 rfl) ?_
  refine lv_bipush (v := nI 7) hx hb dX6_init_21 (by decide) ?_
  refine zn_newa (atype := .int) (ty := .int) (k0 := 0) (N' := 7) (a0 := (7, .inl (fun _ => 0))) 0 cx hP hD hS w_47 rfl (fun C h => by cases h) rfl (fun _ => rfl) (by decide) (by decide) (Nat.le_of_ble_eq_true rfl) (Nat.le_of_ble_eq_true rfl) (Nat.le_of_ble_eq_true rfl) dX6_init_23 (fun q3 H hP hD hS => ?_)
  have hP : va_P E.1 vwCl [(h0, .inr (6, [.ref q1, .ref q2, .null, .int 0, .int 0, .int 0, .int 0, .int 0, .int 0])), (q1, .inl (E.2 0, 7, .inl (fun _ => 0))), (q2, .inl (E.2 0, 7, .inl (fun _ => 0))), (q3, .inl (E.2 0, 7, .inl (fun _ => 0)))] H := hP
  have hD : va_D A [(h0, .inr (6, [.ref q1, .ref q2, .null, .int 0, .int 0, .int 0, .int 0, .int 0, .int 0])), (q1, .inl (E.2 0, 7, .inl (fun _ => 0))), (q2, .inl (E.2 0, 7, .inl (fun _ => 0))), (q3, .inl (E.2 0, 7, .inl (fun _ => 0)))] := hD
  refine zn_putF 2 0 cx hin hP hD hS inlX6 tyX6_ok nmX6 rfl rfl (by decide) w_50 rfl rfl rfl rfl rfl (Nat.le_of_ble_eq_true rfl) dX6_init_25 (fun H locs hP hD hS => ?_)
  have hP : va_P E.1 vwCl [(h0, .inr (6, [.ref q1, .ref q2, .ref q3, .int 0, .int 0, .int 0, .int 0, .int 0, .int 0])), (q1, .inl (E.2 0, 7, .inl (fun _ => 0))), (q2, .inl (E.2 0, 7, .inl (fun _ => 0))), (q3, .inl (E.2 0, 7, .inl (fun _ => 0)))] H := hP
  have hD : va_D A [(h0, .inr (6, [.ref q1, .ref q2, .ref q3, .int 0, .int 0, .int 0, .int 0, .int 0, .int 0])), (q1, .inl (E.2 0, 7, .inl (fun _ => 0))), (q2, .inl (E.2 0, 7, .inl (fun _ => 0))), (q3, .inl (E.2 0, 7, .inl (fun _ => 0)))] := hD
  refine lv_aload_n hx hb dX6_init_28 rfl (lv_at hl 0 rfl) ?_
  refine lv_iconst (v := nI 2) hx hb dX6_init_29 (by decide) ?_
  refine zn_put 5 0 cx hP hD hS inlX6 tyX6_ok nmX6 rfl rfl (by decide) w_51 rfl rfl rfl rfl (Nat.le_of_ble_eq_true rfl) dX6_init_30 (fun H locs hP hD hS => ?_)
  have hP : va_P E.1 vwCl [(h0, .inr (6, [.ref q1, .ref q2, .ref q3, .int 0, .int 0, .int 2, .int 0, .int 0, .int 0])), (q1, .inl (E.2 0, 7, .inl (fun _ => 0))), (q2, .inl (E.2 0, 7, .inl (fun _ => 0))), (q3, .inl (E.2 0, 7, .inl (fun _ => 0)))] H := hP
  have hD : va_D A [(h0, .inr (6, [.ref q1, .ref q2, .ref q3, .int 0, .int 0, .int 2, .int 0, .int 0, .int 0])), (q1, .inl (E.2 0, 7, .inl (fun _ => 0))), (q2, .inl (E.2 0, 7, .inl (fun _ => 0))), (q3, .inl (E.2 0, 7, .inl (fun _ => 0)))] := hD
  refine lv_aload_n hx hb dX6_init_33 rfl (lv_at hl 0 rfl) ?_
  refine lv_iconst (v := nI 5) hx hb dX6_init_34 (by decide) ?_
  refine zn_put 6 0 cx hP hD hS inlX6 tyX6_ok nmX6 rfl rfl (by decide) w_52 rfl rfl rfl rfl (Nat.le_of_ble_eq_true rfl) dX6_init_35 (fun H locs hP hD hS => ?_)
  have hP : va_P E.1 vwCl [(h0, .inr (6, [.ref q1, .ref q2, .ref q3, .int 0, .int 0, .int 2, .int 5, .int 0, .int 0])), (q1, .inl (E.2 0, 7, .inl (fun _ => 0))), (q2, .inl (E.2 0, 7, .inl (fun _ => 0))), (q3, .inl (E.2 0, 7, .inl (fun _ => 0)))] H := hP
  have hD : va_D A [(h0, .inr (6, [.ref q1, .ref q2, .ref q3, .int 0, .int 0, .int 2, .int 5, .int 0, .int 0])), (q1, .inl (E.2 0, 7, .inl (fun _ => 0))), (q2, .inl (E.2 0, 7, .inl (fun _ => 0))), (q3, .inl (E.2 0, 7, .inl (fun _ => 0)))] := hD
  refine lv_aload_n hx hb dX6_init_38 rfl (lv_at hl 0 rfl) ?_
  refine lv_iconst (v := nI 0) hx hb dX6_init_39 (by decide) ?_
  refine zn_put 7 0 cx hP hD hS inlX6 tyX6_ok nmX6 rfl rfl (by decide) w_53 rfl rfl rfl rfl (Nat.le_of_ble_eq_true rfl) dX6_init_40 (fun H locs hP hD hS => ?_)
  have hP : va_P E.1 vwCl [(h0, .inr (6, [.ref q1, .ref q2, .ref q3, .int 0, .int 0, .int 2, .int 5, .int 0, .int 0])), (q1, .inl (E.2 0, 7, .inl (fun _ => 0))), (q2, .inl (E.2 0, 7, .inl (fun _ => 0))), (q3, .inl (E.2 0, 7, .inl (fun _ => 0)))] H := hP
  have hD : va_D A [(h0, .inr (6, [.ref q1, .ref q2, .ref q3, .int 0, .int 0, .int 2, .int 5, .int 0, .int 0])), (q1, .inl (E.2 0, 7, .inl (fun _ => 0))), (q2, .inl (E.2 0, 7, .inl (fun _ => 0))), (q3, .inl (E.2 0, 7, .inl (fun _ => 0)))] := hD
  refine lv_aload_n hx hb dX6_init_43 rfl (lv_at hl 0 rfl) ?_
  refine lv_iconst (v := nI 1) hx hb dX6_init_44 (by decide) ?_
  refine zn_put 8 0 cx hP hD hS inlX6 tyX6_ok nmX6 rfl rfl (by decide) w_54 rfl rfl rfl rfl (Nat.le_of_ble_eq_true rfl) dX6_init_45 (fun H locs hP hD hS => ?_)
  have hP : va_P E.1 vwCl [(h0, .inr (6, [.ref q1, .ref q2, .ref q3, .int 0, .int 0, .int 2, .int 5, .int 0, .int 1])), (q1, .inl (E.2 0, 7, .inl (fun _ => 0))), (q2, .inl (E.2 0, 7, .inl (fun _ => 0))), (q3, .inl (E.2 0, 7, .inl (fun _ => 0)))] H := hP
  have hD : va_D A [(h0, .inr (6, [.ref q1, .ref q2, .ref q3, .int 0, .int 0, .int 2, .int 5, .int 0, .int 1])), (q1, .inl (E.2 0, 7, .inl (fun _ => 0))), (q2, .inl (E.2 0, 7, .inl (fun _ => 0))), (q3, .inl (E.2 0, 7, .inl (fun _ => 0)))] := hD
  exact hret 48 _ _ _ (fun i => [h0, q1, q2, q3].getD i 0) dX6_init_48 rfl hP hD hS
def BX5 (E : zE) : (Nat → Nat) → va_W := fun a => [(a 0, .inr (5, [.ref (a 1), .int (-1), .int 0])), (a 1, .inl (E.2 2, 24, .inr (.inl (fun _ => 0))))]
set_option maxHeartbeats 8000000 in
set_option maxRecDepth 100000 in
theorem c_X5_init {l : Launch} {E : zE} {h0 sz : Nat} : zMC l E yX5_init cX5_init 1 1 1 24 5 [.null, .int 0, .int 0] [] h0 sz (BX5 E) := by
  refine zMC.of (by decide) rfl (Nat.le_of_ble_eq_true rfl) (fun p e s m args below meth c Q ls A cx hin hP hD hS hl hret => ?_)
  have hx := cx.1
  have hb := cx.2.1
  have hl : lv_has ls 1 [(0, .ref h0)] := hl
  refine lv_aload_n hx hb dX5_init_0 rfl (lv_at hl 0 rfl) ?_
  refine zn_oi cx w_100 hl.1 (Nat.le_of_ble_eq_true rfl) (Nat.le_of_ble_eq_true rfl) dX5_init_1 ?_
  refine lv_aload_n hx hb dX5_init_4 rfl (lv_at hl 0 rfl) ?_
  refine lv_bipush (v := nI 24) hx hb dX5_init_5 (by decide) ?_
  refine zn_newa (atype := .long) (ty := .long) (k0 := 2) (N' := 24) (a0 := (24, .inr (.inl (fun _ => 0)))) 2 cx hP hD hS w_101 rfl (fun C h => by cases h) rfl (fun _ => rfl) (by decide) (by decide) (Nat.le_of_ble_eq_true rfl) (Nat.le_of_ble_eq_true rfl) (Nat.le_of_ble_eq_true rfl) dX5_init_7 (fun q1 H hP hD hS => ?_)
  have hP : va_P E.1 vwCl [(h0, .inr (5, [.null, .int 0, .int 0])), (q1, .inl (E.2 2, 24, .inr (.inl (fun _ => 0))))] H := hP
  have hD : va_D A [(h0, .inr (5, [.null, .int 0, .int 0])), (q1, .inl (E.2 2, 24, .inr (.inl (fun _ => 0))))] := hD
  refine zn_putF 0 0 cx hin hP hD hS inlX5 tyX5_ok nmX5 rfl rfl (by decide) w_102 rfl rfl rfl rfl rfl (Nat.le_of_ble_eq_true rfl) dX5_init_9 (fun H locs hP hD hS => ?_)
  have hP : va_P E.1 vwCl [(h0, .inr (5, [.ref q1, .int 0, .int 0])), (q1, .inl (E.2 2, 24, .inr (.inl (fun _ => 0))))] H := hP
  have hD : va_D A [(h0, .inr (5, [.ref q1, .int 0, .int 0])), (q1, .inl (E.2 2, 24, .inr (.inl (fun _ => 0))))] := hD
  refine lv_aload_n hx hb dX5_init_12 rfl (lv_at hl 0 rfl) ?_
  refine lv_iconst (v := (-1 : Int32)) hx hb dX5_init_13 (by decide) ?_
  refine zn_put 1 0 cx hP hD hS inlX5 tyX5_ok nmX5 rfl rfl (by decide) w_103 rfl rfl rfl rfl (Nat.le_of_ble_eq_true rfl) dX5_init_14 (fun H locs hP hD hS => ?_)
  have hP : va_P E.1 vwCl [(h0, .inr (5, [.ref q1, .int (-1), .int 0])), (q1, .inl (E.2 2, 24, .inr (.inl (fun _ => 0))))] H := hP
  have hD : va_D A [(h0, .inr (5, [.ref q1, .int (-1), .int 0])), (q1, .inl (E.2 2, 24, .inr (.inl (fun _ => 0))))] := hD
  exact hret 17 _ _ _ (fun i => [h0, q1].getD i 0) dX5_init_17 rfl hP hD hS
def BX0 (E : zE) (k : Nat) : (Nat → Nat) → va_W := fun a => [(a 0, .inr (0, [.ref (a 1), .int 0])), (a 1, .inl (E.2 1, k, .inl (fun _ => 0)))]
set_option maxHeartbeats 8000000 in
theorem c_X0_init {l : Launch} {E : zE} {k : Nat} (hk : k ≤ 90) {h0 sz : Nat} : zMC l E yX0_init cX0_init 2 1 1 k 0 [.null, .int 0] [.int (nI k)] h0 sz (BX0 E k) := by
  refine zMC.of (by decide) rfl (Nat.le_of_ble_eq_true rfl) (fun p e s m args below meth c Q ls A cx hin hP hD hS hl hret => ?_)
  have hx := cx.1
  have hb := cx.2.1
  have hl : lv_has ls 2 [(0, .ref h0), (1, .int (nI k))] := hl
  refine lv_aload_n hx hb dX0_init_0 rfl (lv_at hl 0 rfl) ?_
  refine zn_oi cx w_71 hl.1 (Nat.le_of_ble_eq_true rfl) (Nat.le_of_ble_eq_true rfl) dX0_init_1 ?_
  refine lv_aload_n hx hb dX0_init_4 rfl (lv_at hl 0 rfl) ?_
  refine lv_iload_n hx hb dX0_init_5 rfl (lv_at hl 1 rfl) ?_
  refine lv_if_ge (tgt := 13) hx hb dX0_init_6 (by decide) (fun _ => ?_) (fun q => absurd (nI_pos' (by omega)) q)
  refine lv_iload_n hx hb dX0_init_13 rfl (lv_at hl 1 rfl) ?_
  refine zn_newa (atype := .char) (ty := .char) (k0 := 1) (N' := k) (a0 := (k, .inl (fun _ => 0))) 1 cx hP hD hS w_72 rfl (fun C h => by cases h) rfl (fun _ => rfl) (nI_pos (by omega)) (nI_clamp (by omega)) (by show k * 2 ≤ 536870912; omega) (Nat.le_of_ble_eq_true rfl) (by show 0 + k ≤ k; omega) dX0_init_14 (fun q1 H hP hD hS => ?_)
  have hP : va_P E.1 vwCl [(h0, .inr (0, [.null, .int 0])), (q1, .inl (E.2 1, k, .inl (fun _ => 0)))] H := hP
  have hD : va_D A [(h0, .inr (0, [.null, .int 0])), (q1, .inl (E.2 1, k, .inl (fun _ => 0)))] := hD
  refine zn_putF 0 0 cx hin hP hD hS inlX0 tyX0_ok nmX0 rfl rfl (by decide) w_73 rfl rfl rfl rfl rfl (Nat.le_of_ble_eq_true rfl) dX0_init_16 (fun H locs hP hD hS => ?_)
  have hP : va_P E.1 vwCl [(h0, .inr (0, [.ref q1, .int 0])), (q1, .inl (E.2 1, k, .inl (fun _ => 0)))] H := hP
  have hD : va_D A [(h0, .inr (0, [.ref q1, .int 0])), (q1, .inl (E.2 1, k, .inl (fun _ => 0)))] := hD
  refine W.widen (k := 1) (n := k) (by omega) (by omega) ?_
  exact hret 19 _ _ _ (fun i => [h0, q1].getD i 0) dX0_init_19 rfl hP hD hS
