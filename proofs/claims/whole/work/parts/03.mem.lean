/-! THE MEMORY: an object is its ints (row 0: its fields by their slots; row k + 1: the int array in slot k), its longs, its references (as numbers of objects); the memory is the objects by number: 0 now, 1 before, 2 imageNow, 3 draft, 4 .. 15 the two pasts' states, 16 past, 17 imagePast, 18 note, 19 tape, 20 parser, 21 reading, 22 the search's reading, 23 search, 24 .. 27 sheets, 28 the class, 29 the reference -/
abbrev zOb : Type := (Nat → Nat → Int32) × (Nat → Nat → Int64) × (Nat → Nat → Nat)
abbrev zM : Type := Nat → zOb
/-- class numbers and slots; array classes; addresses; String constants: objects, bytes -/
abbrev zG : Type := va_G × (Nat → ClassId) × (Nat → Nat → Nat) × (Nat → Nat) × (Nat → Nat)
def zset (μ : zM) (o : Nat) (S : zOb) : zM := fun o' => if o' = o then S else μ o'
def zI (S : zOb) (j i : Nat) (x : Int32) : zOb := (fun j' => if j' = j then upd (S.1 j) i x else S.1 j', S.2)
def zL (S : zOb) (j i : Nat) (x : Int64) : zOb := (S.1, fun j' => if j' = j then vp_updL (S.2.1 j) i x else S.2.1 j', S.2.2)
def zR (S : zOb) (j i x : Nat) : zOb := (S.1, S.2.1, fun j' => if j' = j then va_up (S.2.2 j) i x else S.2.2 j')
def zIr (S : zOb) (j : Nat) (f : Nat → Int32) : zOb := (fun j' => if j' = j then f else S.1 j', S.2)
def zLr (S : zOb) (j : Nat) (f : Nat → Int64) : zOb := (S.1, fun j' => if j' = j then f else S.2.1 j', S.2.2)
theorem zset_s (μ : zM) (o : Nat) (S : zOb) : zset μ o S o = S := if_pos rfl
theorem zset_n (μ : zM) {o o' : Nat} (S : zOb) (h : o' ≠ o) : zset μ o S o' = μ o' := if_neg h
theorem zset_ss (μ : zM) (o : Nat) (S S' : zOb) : zset (zset μ o S) o S' = zset μ o S' := by
  funext o'
  unfold zset
  split <;> rfl
theorem zset_id (μ : zM) (o : Nat) : zset μ o (μ o) = μ := by
  funext o'
  unfold zset
  split
  · next h => rw [h]
  · rfl
theorem zset_idS {μ : zM} {o : Nat} {S : zOb} (h : μ o = S) : zset μ o S = μ := by rw [← h]; exact zset_id μ o
abbrev zin (i : Int32) (n : Nat) : Prop := ¬ (i < 0 ∨ n ≤ i.toNatClampNeg)
def zlen (o : Nat) : Nat := if o = 18 then 64 else 90
def zc (o : Nat) : Nat := if o < 16 then 6 else if o < 18 then 2 else if o < 20 then 0 else if o < 21 then 1 else if o < 23 then 3 else if o < 24 then 4 else if o < 28 then 5 else if o < 29 then 7 else 8
/-- a name for a value: bnd a f is f a -/
def bnd {α : Type} {β : Type} (a : α) (f : α → β) : β := f a
theorem bnd_el {α β : Type} {a v : α} {f : α → β} {o : β} (h : bnd a f = o) (e : v = a) : f v = o := by rw [e]; exact h
theorem gd_el {α : Type} {c : Prop} [Decidable c] {K : Option α} {o : α} (h : (if c then K else none) = some o) : c ∧ K = some o := by
  split at h
  · next hc => exact ⟨hc, h⟩
  · cases h
theorem bi_el {α β : Type} {x : Option α} {K : α → Option β} {o : β} (h : x.bind K = some o) : ∃ q, x = some q ∧ K q = some o := Option.bind_eq_some_iff.mp h

def zc0 (ad : Nat → Nat → Nat) (cA : Nat → ClassId) (o j : Nat) (S : zOb) : va_E := match j with
  | 0 => .inr (0, [.ref (ad o 1), .int (S.1 0 1)])
  | j => .inl (cA 1, zlen o, .inl (S.1 j))
def zc1 (ad : Nat → Nat → Nat) (cA : Nat → ClassId) (o j : Nat) (S : zOb) : va_E := match j with
  | 0 => .inr (1, [.ref (ad 19 0), .ref (ad 3 0), .int (S.1 0 2)])
  | _ => .inr (1, [.ref (ad 19 0), .ref (ad 3 0), .int 0])
def zc2 (ad : Nat → Nat → Nat) (cA : Nat → ClassId) (o j : Nat) (S : zOb) : va_E := match j with
  | 0 => .inr (2, [.ref (ad o 1), .int (S.1 0 1)])
  | j => .inl (cA 3, 6, .inr (.inr (.inr (.inr (fun i => some (ad (S.2.2 j i) 0))))))
def zc3 (ad : Nat → Nat → Nat) (cA : Nat → ClassId) (o j : Nat) (S : zOb) : va_E := match j with
  | 0 => .inr (3, [.ref (ad o 1), .ref (ad o 2), .ref (ad o 3), .ref (ad o 4), .ref (ad o 5), .int (S.1 0 5), .ref (ad o 7), .ref (ad o 8), .ref (ad o 9)])
  | 1 => .inl (cA 0, 10, .inl (S.1 1))
  | 2 => .inl (cA 0, 8, .inl (S.1 2))
  | 3 => .inl (cA 0, 8, .inl (S.1 3))
  | 4 => .inl (cA 0, 8, .inl (S.1 4))
  | 5 => .inl (cA 5, 8, .inr (.inr (.inr (.inr (fun i => some (ad o (10 + i)))))))
  | 7 => .inl (cA 0, 7, .inl (S.1 7))
  | 8 => .inl (cA 0, 7, .inl (S.1 8))
  | 9 => .inl (cA 0, 7, .inl (S.1 9))
  | 10 => .inl (cA 0, 7, .inl (S.1 10))
  | 11 => .inl (cA 0, 7, .inl (S.1 11))
  | 12 => .inl (cA 0, 7, .inl (S.1 12))
  | 13 => .inl (cA 0, 7, .inl (S.1 13))
  | 14 => .inl (cA 0, 7, .inl (S.1 14))
  | 15 => .inl (cA 0, 7, .inl (S.1 15))
  | 16 => .inl (cA 0, 7, .inl (S.1 16))
  | j => .inl (cA 0, 7, .inl (S.1 j))
def zc4 (ad : Nat → Nat → Nat) (cA : Nat → ClassId) (o j : Nat) (S : zOb) : va_E := match j with
  | 0 => .inr (4, [.ref (ad 22 0), .ref (ad o 2), .ref (ad o 3), .ref (ad o 4), .ref (ad o 5), .ref (ad o 6), .int (S.1 0 6), .int (S.1 0 7), .int (S.1 0 8), .int (S.1 0 9), .ref (ad o 11), .int (S.1 0 11), .int (S.1 0 12)])
  | 2 => .inl (cA 0, 7, .inl (S.1 2))
  | 3 => .inl (cA 0, 7, .inl (S.1 3))
  | 4 => .inl (cA 0, 7, .inl (S.1 4))
  | 5 => .inl (cA 0, 7, .inl (S.1 5))
  | 6 => .inl (cA 0, 7, .inl (S.1 6))
  | j => .inl (cA 0, 7, .inl (S.1 j))
def zc5 (ad : Nat → Nat → Nat) (cA : Nat → ClassId) (o j : Nat) (S : zOb) : va_E := match j with
  | 0 => .inr (5, [.ref (ad o 1), .int (S.1 0 1), .int (S.1 0 2)])
  | j => .inl (cA 2, 24, .inr (.inl (S.2.1 j)))
def zc6 (ad : Nat → Nat → Nat) (cA : Nat → ClassId) (o j : Nat) (S : zOb) : va_E := match j with
  | 0 => .inr (6, [.ref (ad o 1), .ref (ad o 2), .ref (ad o 3), .int (S.1 0 3), .int (S.1 0 4), .int (S.1 0 5), .int (S.1 0 6), .int (S.1 0 7), .int (S.1 0 8)])
  | 1 => .inl (cA 0, 7, .inl (S.1 1))
  | 2 => .inl (cA 0, 7, .inl (S.1 2))
  | j => .inl (cA 0, 7, .inl (S.1 j))
def zc7 (ad : Nat → Nat → Nat) (cA : Nat → ClassId) (o j : Nat) (S : zOb) : va_E := match j with
  | 0 => .inr (7, [.ref (ad 0 0), .ref (ad 1 0), .ref (ad 16 0), .ref (ad 2 0), .ref (ad 17 0), .int (S.1 0 5), .ref (ad 20 0), .ref (ad 18 0), .ref (ad 21 0), .ref (ad 23 0), .ref (ad o 11)])
  | j => .inl (cA 4, 4, .inr (.inr (.inr (.inr (fun i => some (ad (24 + i) 0))))))
def zc8 (ad : Nat → Nat → Nat) (cA : Nat → ClassId) (o j : Nat) (S : zOb) : va_E := match j with
  | 0 => .inr (8, [.ref (ad o 1), .ref (ad o 2), .int (S.1 0 2), .ref (ad o 4), .ref (ad o 5), .int (S.1 0 5), .ref (ad o 7), .int (S.1 0 7), .ref (ad o 9), .ref (ad o 10), .ref (ad o 11), .ref (ad o 12), .ref (ad o 13), .ref (ad o 14), .ref (ad o 15), .ref (ad o 16), .ref (ad o 17), .ref (ad o 18), .ref (ad o 19), .int (S.1 0 19), .int (S.1 0 20), .int (S.1 0 21), .ref (ad o 23), .int (S.1 0 23), .ref (ad o 25), .int (S.1 0 25), .int (S.1 0 26)])
  | 1 => .inl (cA 0, 27, .inl (S.1 1))
  | 2 => .inl (cA 0, 162, .inl (S.1 2))
  | 4 => .inl (cA 0, 27, .inl (S.1 4))
  | 5 => .inl (cA 0, 162, .inl (S.1 5))
  | 7 => .inl (cA 0, 90, .inl (S.1 7))
  | 9 => .inl (cA 0, 4, .inl (S.1 9))
  | 10 => .inl (cA 0, 4, .inl (S.1 10))
  | 11 => .inl (cA 2, 96, .inr (.inl (S.2.1 11)))
  | 12 => .inl (cA 2, 24, .inr (.inl (S.2.1 12)))
  | 13 => .inl (cA 0, 7, .inl (S.1 13))
  | 14 => .inl (cA 0, 20, .inl (S.1 14))
  | 15 => .inl (cA 0, 20, .inl (S.1 15))
  | 16 => .inl (cA 0, 7, .inl (S.1 16))
  | 17 => .inl (cA 0, 7, .inl (S.1 17))
  | 18 => .inl (cA 0, 7, .inl (S.1 18))
  | 19 => .inl (cA 0, 7, .inl (S.1 19))
  | 23 => .inl (cA 0, 64, .inl (S.1 23))
  | j => .inl (cA 0, 27, .inl (S.1 j))
def zcC (ad : Nat → Nat → Nat) (cA : Nat → ClassId) (ci o j : Nat) (S : zOb) : va_E := match ci with
  | 0 => zc0 ad cA o j S
  | 1 => zc1 ad cA o j S
  | 2 => zc2 ad cA o j S
  | 3 => zc3 ad cA o j S
  | 4 => zc4 ad cA o j S
  | 5 => zc5 ad cA o j S
  | 6 => zc6 ad cA o j S
  | 7 => zc7 ad cA o j S
  | _ => zc8 ad cA o j S
def zcell (G : zG) (o j : Nat) (S : zOb) : va_E := zcC G.2.2.1 G.2.1 (zc o) o j S
def zK : List (Nat × Nat) := [(0, 0), (0, 1), (0, 2), (0, 3), (1, 0), (1, 1), (1, 2), (1, 3), (2, 0), (2, 1), (2, 2), (2, 3), (3, 0), (3, 1), (3, 2), (3, 3), (4, 0), (4, 1), (4, 2), (4, 3), (5, 0), (5, 1), (5, 2), (5, 3), (6, 0), (6, 1), (6, 2), (6, 3), (7, 0), (7, 1), (7, 2), (7, 3), (8, 0), (8, 1), (8, 2), (8, 3), (9, 0), (9, 1), (9, 2), (9, 3), (10, 0), (10, 1), (10, 2), (10, 3), (11, 0), (11, 1), (11, 2), (11, 3), (12, 0), (12, 1), (12, 2), (12, 3), (13, 0), (13, 1), (13, 2), (13, 3), (14, 0), (14, 1), (14, 2), (14, 3), (15, 0), (15, 1), (15, 2), (15, 3), (16, 0), (16, 1), (17, 0), (17, 1), (18, 0), (18, 1), (19, 0), (19, 1), (20, 0), (21, 0), (21, 1), (21, 2), (21, 3), (21, 4), (21, 5), (21, 7), (21, 8), (21, 9), (21, 10), (21, 11), (21, 12), (21, 13), (21, 14), (21, 15), (21, 16), (21, 17), (22, 0), (22, 1), (22, 2), (22, 3), (22, 4), (22, 5), (22, 7), (22, 8), (22, 9), (22, 10), (22, 11), (22, 12), (22, 13), (22, 14), (22, 15), (22, 16), (22, 17), (23, 0), (23, 2), (23, 3), (23, 4), (23, 5), (23, 6), (23, 11), (24, 0), (24, 1), (25, 0), (25, 1), (26, 0), (26, 1), (27, 0), (27, 1), (28, 0), (28, 11), (29, 0), (29, 1), (29, 2), (29, 4), (29, 5), (29, 7), (29, 9), (29, 10), (29, 11), (29, 12), (29, 13), (29, 14), (29, 15), (29, 16), (29, 17), (29, 18), (29, 19), (29, 23), (29, 25)]
theorem zK_len : zK.length = 143 := by decide +kernel
theorem zK_inj0 : ∀ i, i < 143 → ∀ j, j < 143 → zK[i]? = zK[j]? → i = j := by decide +kernel
def zw (G : zG) (μ : zM) : va_W := zK.map (fun κ => (G.2.2.1 κ.1 κ.2, zcell G κ.1 κ.2 (μ κ.1)))
def zA (G : zG) : Nat → Prop := fun q => ∃ κ ∈ zK, q = G.2.2.1 κ.1 κ.2
theorem zK_at {o j : Nat} (h : (o, j) ∈ zK) : ∃ q0 : Nat, zK[q0]? = some (o, j) := List.getElem?_of_mem h
theorem zw_at {G : zG} {μ : zM} {o j q0 : Nat} (h : zK[q0]? = some (o, j)) : (zw G μ)[q0]? = some (G.2.2.1 o j, zcell G o j (μ o)) := by
  unfold zw
  rw [List.getElem?_map, h]
  rfl
theorem zK_inj {i j : Nat} {κ : Nat × Nat} (hi : zK[i]? = some κ) (hj : zK[j]? = some κ) : i = j := by
  have h1 := (List.getElem?_eq_some_iff.mp hi).1
  have h2 := (List.getElem?_eq_some_iff.mp hj).1
  rw [zK_len] at h1 h2
  exact zK_inj0 i h1 j h2 (hi.trans hj.symm)
theorem zw_set {G : zG} {μ : zM} {o j q0 : Nat} {S' : zOb} {e' : va_E} (h : zK[q0]? = some (o, j)) (he : zcell G o j S' = e') (hr : ∀ j', j' ≠ j → zcell G o j' S' = zcell G o j' (μ o)) : (zw G μ).set q0 (G.2.2.1 o j, e') = zw G (zset μ o S') := by
  subst he
  apply List.ext_getElem?
  intro i
  unfold zw
  rw [List.getElem?_set, List.getElem?_map, List.getElem?_map]
  by_cases hi : q0 = i
  · subst hi
    rw [if_pos rfl, List.length_map, if_pos (List.getElem?_eq_some_iff.mp h).1, h]
    simp [zset]
  · rw [if_neg hi]
    cases hz : zK[i]? with
    | none => rfl
    | some κ =>
      obtain ⟨a, b⟩ := κ
      simp only [Option.map_some]
      by_cases ha : a = o
      · subst ha
        have hb : b ≠ j := fun e => hi (zK_inj h (e ▸ hz))
        rw [zset_s, hr b hb]
      · rw [zset_n _ _ ha]
theorem zcell_dep {G : zG} {o j : Nat} {S S' : zOb} (h1 : S.1 j = S'.1 j) (h2 : S.2.1 j = S'.2.1 j) (h3 : S.2.2 j = S'.2.2 j) : zcell G o j S = zcell G o j S' := by
  unfold zcell zcC
  split
  case h_1 => unfold zc0; split <;> simp_all
  case h_2 => unfold zc1; split <;> simp_all
  case h_3 => unfold zc2; split <;> simp_all
  case h_4 => unfold zc3; split <;> simp_all
  case h_5 => unfold zc4; split <;> simp_all
  case h_6 => unfold zc5; split <;> simp_all
  case h_7 => unfold zc6; split <;> simp_all
  case h_8 => unfold zc7; split <;> simp_all
  case h_9 => unfold zc8; split <;> simp_all
theorem zcell_I {G : zG} {o j j' i : Nat} {S : zOb} {x : Int32} (h : j' ≠ j) : zcell G o j' (zI S j i x) = zcell G o j' S := zcell_dep (if_neg h) rfl rfl
theorem zcell_L {G : zG} {o j j' i : Nat} {S : zOb} {x : Int64} (h : j' ≠ j) : zcell G o j' (zL S j i x) = zcell G o j' S := zcell_dep rfl (if_neg h) rfl
theorem zcell_R {G : zG} {o j j' i x : Nat} {S : zOb} (h : j' ≠ j) : zcell G o j' (zR S j i x) = zcell G o j' S := zcell_dep rfl rfl (if_neg h)
theorem zcell_Ir {G : zG} {o j j' : Nat} {S : zOb} {f : Nat → Int32} (h : j' ≠ j) : zcell G o j' (zIr S j f) = zcell G o j' S := zcell_dep (if_neg h) rfl rfl
theorem zcell_Lr {G : zG} {o j j' : Nat} {S : zOb} {f : Nat → Int64} (h : j' ≠ j) : zcell G o j' (zLr S j f) = zcell G o j' S := zcell_dep rfl (if_neg h) rfl
theorem zI_s (S : zOb) (j i : Nat) (x : Int32) : (zI S j i x).1 j = upd (S.1 j) i x := if_pos rfl
theorem zL_s (S : zOb) (j i : Nat) (x : Int64) : (zL S j i x).2.1 j = vp_updL (S.2.1 j) i x := if_pos rfl
theorem zR_s (S : zOb) (j i x : Nat) : (zR S j i x).2.2 j = va_up (S.2.2 j) i x := if_pos rfl
theorem zIr_s (S : zOb) (j : Nat) (f : Nat → Int32) : (zIr S j f).1 j = f := if_pos rfl
theorem zLr_s (S : zOb) (j : Nat) (f : Nat → Int64) : (zLr S j f).2.1 j = f := if_pos rfl
theorem zcell_0 {G : zG} {o : Nat} {S : zOb} : ∃ fs, zcell G o 0 S = .inr (zc o, fs) := by
  unfold zcell
  have h : zc o ≤ 8 := by unfold zc; repeat' split
                          all_goals omega
  generalize zc o = ci at h ⊢
  match ci, h with
  | 0, _ => exact ⟨_, rfl⟩
  | 1, _ => exact ⟨_, rfl⟩
  | 2, _ => exact ⟨_, rfl⟩
  | 3, _ => exact ⟨_, rfl⟩
  | 4, _ => exact ⟨_, rfl⟩
  | 5, _ => exact ⟨_, rfl⟩
  | 6, _ => exact ⟨_, rfl⟩
  | 7, _ => exact ⟨_, rfl⟩
  | 8, _ => exact ⟨_, rfl⟩
  | n + 9, h => exact absurd h (by omega)
def zhost : String := "ReadingStages"
def ztys (cA : Nat → ClassId) : List (ClassId × FieldType) := [(cA 0, .int), (cA 1, .char), (cA 2, .long), (cA 3, .object RX6), (cA 4, .object RX5), (cA 5, .array .int)]

