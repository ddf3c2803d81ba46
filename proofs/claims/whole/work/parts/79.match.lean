/-! THE WORLD THAT THE CONSTRUCTORS MAKE is the memory's world -/
def zad (a b : Nat → Nat) (o j : Nat) : Nat :=
  if o = 0 then a (100 + j) else if o = 1 then a (200 + j) else if o = 2 then a (400 + j) else if o = 3 then a (603 + j) else if o < 10 then a (302 + 4 * (o - 4) + j) else if o < 16 then a (502 + 4 * (o - 10) + j) else if o = 16 then a (300 + j) else if o = 17 then a (500 + j) else if o = 18 then a (700 + j) else if o = 19 then a (601 + j) else if o = 20 then a 600 else if o = 21 then a (800 + (if j < 6 then j else if j < 10 then j + 7 else j - 4)) else if o = 22 then a (901 + (if j < 6 then j else if j < 10 then j + 7 else j - 4)) else if o = 23 then a (900 + (if j = 0 then 0 else if j < 7 then j + 16 else 23)) else if o < 28 then a (1000 + 100 * (o - 24) + j) else if o = 28 then a (if j = 0 then 0 else 1) else b (([0, 1, 2, 0, 3, 4, 0, 5, 0, 6, 7, 8, 9, 10, 11, 12, 13, 14, 15, 16, 0, 0, 0, 17, 0, 18] : List Nat).getD j 0)
def zoZ : zOb := (fun _ _ => 0, fun _ _ => 0, fun _ _ => 0)
def zoS : zOb := (fun j i => if j = 0 then (if i = 5 then 2 else if i = 6 then 5 else if i = 8 then 1 else 0) else 0, fun _ _ => 0, fun _ _ => 0)
def zoP (n : Nat) : zOb := (fun _ _ => 0, fun _ _ => 0, fun _ i => n + i)
def zoH : zOb := (fun j i => if j = 0 then (if i = 1 then -1 else 0) else 0, fun _ _ => 0, fun _ _ => 0)
def zoM : zOb := (fun j => if j = 0 then (fun i => if i = 5 then -1 else 0) else if j = 1 then (upd (upd (upd (fun _ => 0) 2 2) 3 5) 5 1) else if j = 9 then (upd (upd (upd (upd (fun _ => 0) 0 (-1)) 1 (-1)) 2 (-1)) 3 (-1)) else fun _ => 0, fun _ _ => 0, fun _ _ => 0)
def zμ0 : zM := fun o => if o < 16 then zoS else if o = 16 then zoP 4 else if o = 17 then zoP 10 else if o < 24 then zoZ else if o < 28 then zoH else if o = 28 then zoZ else zoM
theorem zq_cg {D : va_G} {cl : List vw_C} {q n : Nat} {cA : ClassId} {f g : Nat → Option Nat} {H : Heap} (h : ∀ i, i < n → f i = g i) (ha : va_at D cl (q, .inl (cA, n, .inr (.inr (.inr (.inr f))))) H) : va_at D cl (q, .inl (cA, n, .inr (.inr (.inr (.inr g))))) H := by
  have e : vp_cell cA (n, .inr (.inr (.inr (.inr f)))) = vp_cell cA (n, .inr (.inr (.inr (.inr g)))) := by
    rw [vp_cell_q, vp_cell_q]
    unfold arrV
    congr 2
    funext j
    show va_rf (f j.val) = va_rf (g j.val)
    rw [h j.val j.isLt]
  have ha' : H[q]? = some (vp_cell cA (n, .inr (.inr (.inr (.inr f))))) := ha
  show H[q]? = some (vp_cell cA (n, .inr (.inr (.inr (.inr g)))))
  rw [← e]
  exact ha'
def zX (E : zE) (a b : Nat → Nat) : va_W := [(a 0, .inr (7, [.ref (a 100), .ref (a 200), .ref (a 300), .ref (a 400), .ref (a 500), .int 0, .ref (a 600), .ref (a 700), .ref (a 800), .ref (a 900), .ref (a 1)])), (a 1, .inl (E.2 4, 4, .inr (.inr (.inr (.inr (va_up (va_up (va_up (va_up (fun _ => none) 0 (some (a 1000))) 1 (some (a 1100))) 2 (some (a 1200))) 3 (some (a 1300)))))))), (a 1300, .inr (5, [.ref (a 1301), .int (-1), .int 0])), (a 1301, .inl (E.2 2, 24, .inr (.inl (fun _ => 0)))), (a 1200, .inr (5, [.ref (a 1201), .int (-1), .int 0])), (a 1201, .inl (E.2 2, 24, .inr (.inl (fun _ => 0)))), (a 1100, .inr (5, [.ref (a 1101), .int (-1), .int 0])), (a 1101, .inl (E.2 2, 24, .inr (.inl (fun _ => 0)))), (a 1000, .inr (5, [.ref (a 1001), .int (-1), .int 0])), (a 1001, .inl (E.2 2, 24, .inr (.inl (fun _ => 0)))), (a 100, .inr (6, [.ref (a 101), .ref (a 102), .ref (a 103), .int 0, .int 0, .int 2, .int 5, .int 0, .int 1])), (a 101, .inl (E.2 0, 7, .inl (fun _ => 0))), (a 102, .inl (E.2 0, 7, .inl (fun _ => 0))), (a 103, .inl (E.2 0, 7, .inl (fun _ => 0))), (a 200, .inr (6, [.ref (a 201), .ref (a 202), .ref (a 203), .int 0, .int 0, .int 2, .int 5, .int 0, .int 1])), (a 201, .inl (E.2 0, 7, .inl (fun _ => 0))), (a 202, .inl (E.2 0, 7, .inl (fun _ => 0))), (a 203, .inl (E.2 0, 7, .inl (fun _ => 0))), (a 300, .inr (2, [.ref (a 301), .int 0])), (a 301, .inl (E.2 3, 6, .inr (.inr (.inr (.inr (va_up (va_up (va_up (va_up (va_up (va_up (fun _ => none) 0 (some (a 302))) 1 (some (a 306))) 2 (some (a 310))) 3 (some (a 314))) 4 (some (a 318))) 5 (some (a 322)))))))), (a 302, .inr (6, [.ref (a 303), .ref (a 304), .ref (a 305), .int 0, .int 0, .int 2, .int 5, .int 0, .int 1])), (a 303, .inl (E.2 0, 7, .inl (fun _ => 0))), (a 304, .inl (E.2 0, 7, .inl (fun _ => 0))), (a 305, .inl (E.2 0, 7, .inl (fun _ => 0))), (a 306, .inr (6, [.ref (a 307), .ref (a 308), .ref (a 309), .int 0, .int 0, .int 2, .int 5, .int 0, .int 1])), (a 307, .inl (E.2 0, 7, .inl (fun _ => 0))), (a 308, .inl (E.2 0, 7, .inl (fun _ => 0))), (a 309, .inl (E.2 0, 7, .inl (fun _ => 0))), (a 310, .inr (6, [.ref (a 311), .ref (a 312), .ref (a 313), .int 0, .int 0, .int 2, .int 5, .int 0, .int 1])), (a 311, .inl (E.2 0, 7, .inl (fun _ => 0))), (a 312, .inl (E.2 0, 7, .inl (fun _ => 0))), (a 313, .inl (E.2 0, 7, .inl (fun _ => 0))), (a 314, .inr (6, [.ref (a 315), .ref (a 316), .ref (a 317), .int 0, .int 0, .int 2, .int 5, .int 0, .int 1])), (a 315, .inl (E.2 0, 7, .inl (fun _ => 0))), (a 316, .inl (E.2 0, 7, .inl (fun _ => 0))), (a 317, .inl (E.2 0, 7, .inl (fun _ => 0))), (a 318, .inr (6, [.ref (a 319), .ref (a 320), .ref (a 321), .int 0, .int 0, .int 2, .int 5, .int 0, .int 1])), (a 319, .inl (E.2 0, 7, .inl (fun _ => 0))), (a 320, .inl (E.2 0, 7, .inl (fun _ => 0))), (a 321, .inl (E.2 0, 7, .inl (fun _ => 0))), (a 322, .inr (6, [.ref (a 323), .ref (a 324), .ref (a 325), .int 0, .int 0, .int 2, .int 5, .int 0, .int 1])), (a 323, .inl (E.2 0, 7, .inl (fun _ => 0))), (a 324, .inl (E.2 0, 7, .inl (fun _ => 0))), (a 325, .inl (E.2 0, 7, .inl (fun _ => 0))), (a 400, .inr (6, [.ref (a 401), .ref (a 402), .ref (a 403), .int 0, .int 0, .int 2, .int 5, .int 0, .int 1])), (a 401, .inl (E.2 0, 7, .inl (fun _ => 0))), (a 402, .inl (E.2 0, 7, .inl (fun _ => 0))), (a 403, .inl (E.2 0, 7, .inl (fun _ => 0))), (a 500, .inr (2, [.ref (a 501), .int 0])), (a 501, .inl (E.2 3, 6, .inr (.inr (.inr (.inr (va_up (va_up (va_up (va_up (va_up (va_up (fun _ => none) 0 (some (a 502))) 1 (some (a 506))) 2 (some (a 510))) 3 (some (a 514))) 4 (some (a 518))) 5 (some (a 522)))))))), (a 502, .inr (6, [.ref (a 503), .ref (a 504), .ref (a 505), .int 0, .int 0, .int 2, .int 5, .int 0, .int 1])), (a 503, .inl (E.2 0, 7, .inl (fun _ => 0))), (a 504, .inl (E.2 0, 7, .inl (fun _ => 0))), (a 505, .inl (E.2 0, 7, .inl (fun _ => 0))), (a 506, .inr (6, [.ref (a 507), .ref (a 508), .ref (a 509), .int 0, .int 0, .int 2, .int 5, .int 0, .int 1])), (a 507, .inl (E.2 0, 7, .inl (fun _ => 0))), (a 508, .inl (E.2 0, 7, .inl (fun _ => 0))), (a 509, .inl (E.2 0, 7, .inl (fun _ => 0))), (a 510, .inr (6, [.ref (a 511), .ref (a 512), .ref (a 513), .int 0, .int 0, .int 2, .int 5, .int 0, .int 1])), (a 511, .inl (E.2 0, 7, .inl (fun _ => 0))), (a 512, .inl (E.2 0, 7, .inl (fun _ => 0))), (a 513, .inl (E.2 0, 7, .inl (fun _ => 0))), (a 514, .inr (6, [.ref (a 515), .ref (a 516), .ref (a 517), .int 0, .int 0, .int 2, .int 5, .int 0, .int 1])), (a 515, .inl (E.2 0, 7, .inl (fun _ => 0))), (a 516, .inl (E.2 0, 7, .inl (fun _ => 0))), (a 517, .inl (E.2 0, 7, .inl (fun _ => 0))), (a 518, .inr (6, [.ref (a 519), .ref (a 520), .ref (a 521), .int 0, .int 0, .int 2, .int 5, .int 0, .int 1])), (a 519, .inl (E.2 0, 7, .inl (fun _ => 0))), (a 520, .inl (E.2 0, 7, .inl (fun _ => 0))), (a 521, .inl (E.2 0, 7, .inl (fun _ => 0))), (a 522, .inr (6, [.ref (a 523), .ref (a 524), .ref (a 525), .int 0, .int 0, .int 2, .int 5, .int 0, .int 1])), (a 523, .inl (E.2 0, 7, .inl (fun _ => 0))), (a 524, .inl (E.2 0, 7, .inl (fun _ => 0))), (a 525, .inl (E.2 0, 7, .inl (fun _ => 0))), (a 600, .inr (1, [.ref (a 601), .ref (a 603), .int 0])), (a 601, .inr (0, [.ref (a 602), .int 0])), (a 602, .inl (E.2 1, 90, .inl (fun _ => 0))), (a 603, .inr (6, [.ref (a 604), .ref (a 605), .ref (a 606), .int 0, .int 0, .int 2, .int 5, .int 0, .int 1])), (a 604, .inl (E.2 0, 7, .inl (fun _ => 0))), (a 605, .inl (E.2 0, 7, .inl (fun _ => 0))), (a 606, .inl (E.2 0, 7, .inl (fun _ => 0))), (a 700, .inr (0, [.ref (a 701), .int 0])), (a 701, .inl (E.2 1, 64, .inl (fun _ => 0))), (a 800, .inr (3, [.ref (a 801), .ref (a 802), .ref (a 803), .ref (a 804), .ref (a 805), .int 0, .ref (a 814), .ref (a 815), .ref (a 816)])), (a 801, .inl (E.2 0, 10, .inl (fun _ => 0))), (a 802, .inl (E.2 0, 8, .inl (fun _ => 0))), (a 803, .inl (E.2 0, 8, .inl (fun _ => 0))), (a 804, .inl (E.2 0, 8, .inl (fun _ => 0))), (a 805, .inl (E.2 5, 8, .inr (.inr (.inr (.inr (va_up (va_up (va_up (va_up (va_up (va_up (va_up (va_up (fun _ => none) 0 (some (a 806))) 1 (some (a 807))) 2 (some (a 808))) 3 (some (a 809))) 4 (some (a 810))) 5 (some (a 811))) 6 (some (a 812))) 7 (some (a 813)))))))), (a 806, .inl (E.2 0, 7, .inl (fun _ => 0))), (a 807, .inl (E.2 0, 7, .inl (fun _ => 0))), (a 808, .inl (E.2 0, 7, .inl (fun _ => 0))), (a 809, .inl (E.2 0, 7, .inl (fun _ => 0))), (a 810, .inl (E.2 0, 7, .inl (fun _ => 0))), (a 811, .inl (E.2 0, 7, .inl (fun _ => 0))), (a 812, .inl (E.2 0, 7, .inl (fun _ => 0))), (a 813, .inl (E.2 0, 7, .inl (fun _ => 0))), (a 814, .inl (E.2 0, 7, .inl (fun _ => 0))), (a 815, .inl (E.2 0, 7, .inl (fun _ => 0))), (a 816, .inl (E.2 0, 7, .inl (fun _ => 0))), (a 900, .inr (4, [.ref (a 901), .ref (a 918), .ref (a 919), .ref (a 920), .ref (a 921), .ref (a 922), .int 0, .int 0, .int 0, .int 0, .ref (a 923), .int 0, .int 0])), (a 901, .inr (3, [.ref (a 902), .ref (a 903), .ref (a 904), .ref (a 905), .ref (a 906), .int 0, .ref (a 915), .ref (a 916), .ref (a 917)])), (a 902, .inl (E.2 0, 10, .inl (fun _ => 0))), (a 903, .inl (E.2 0, 8, .inl (fun _ => 0))), (a 904, .inl (E.2 0, 8, .inl (fun _ => 0))), (a 905, .inl (E.2 0, 8, .inl (fun _ => 0))), (a 906, .inl (E.2 5, 8, .inr (.inr (.inr (.inr (va_up (va_up (va_up (va_up (va_up (va_up (va_up (va_up (fun _ => none) 0 (some (a 907))) 1 (some (a 908))) 2 (some (a 909))) 3 (some (a 910))) 4 (some (a 911))) 5 (some (a 912))) 6 (some (a 913))) 7 (some (a 914)))))))), (a 907, .inl (E.2 0, 7, .inl (fun _ => 0))), (a 908, .inl (E.2 0, 7, .inl (fun _ => 0))), (a 909, .inl (E.2 0, 7, .inl (fun _ => 0))), (a 910, .inl (E.2 0, 7, .inl (fun _ => 0))), (a 911, .inl (E.2 0, 7, .inl (fun _ => 0))), (a 912, .inl (E.2 0, 7, .inl (fun _ => 0))), (a 913, .inl (E.2 0, 7, .inl (fun _ => 0))), (a 914, .inl (E.2 0, 7, .inl (fun _ => 0))), (a 915, .inl (E.2 0, 7, .inl (fun _ => 0))), (a 916, .inl (E.2 0, 7, .inl (fun _ => 0))), (a 917, .inl (E.2 0, 7, .inl (fun _ => 0))), (a 918, .inl (E.2 0, 7, .inl (fun _ => 0))), (a 919, .inl (E.2 0, 7, .inl (fun _ => 0))), (a 920, .inl (E.2 0, 7, .inl (fun _ => 0))), (a 921, .inl (E.2 0, 7, .inl (fun _ => 0))), (a 922, .inl (E.2 0, 7, .inl (fun _ => 0))), (a 923, .inl (E.2 0, 7, .inl (fun _ => 0))), (b 0, .inr (8, [.ref (b 1), .ref (b 2), .int 0, .ref (b 3), .ref (b 4), .int (-1), .ref (b 5), .int 0, .ref (b 6), .ref (b 7), .ref (b 8), .ref (b 9), .ref (b 10), .ref (b 11), .ref (b 12), .ref (b 13), .ref (b 14), .ref (b 15), .ref (b 16), .int 0, .int 0, .int 0, .ref (b 17), .int 0, .ref (b 18), .int 0, .int 0])), (b 1, .inl (E.2 0, 27, .inl (upd (upd (upd (fun _ => 0) 2 2) 3 5) 5 1))), (b 2, .inl (E.2 0, 162, .inl (fun _ => 0))), (b 3, .inl (E.2 0, 27, .inl (fun _ => 0))), (b 4, .inl (E.2 0, 162, .inl (fun _ => 0))), (b 5, .inl (E.2 0, 90, .inl (fun _ => 0))), (b 6, .inl (E.2 0, 4, .inl (upd (upd (upd (upd (fun _ => 0) 0 (-1)) 1 (-1)) 2 (-1)) 3 (-1)))), (b 7, .inl (E.2 0, 4, .inl (fun _ => 0))), (b 8, .inl (E.2 2, 96, .inr (.inl (fun _ => 0)))), (b 9, .inl (E.2 2, 24, .inr (.inl (fun _ => 0)))), (b 10, .inl (E.2 0, 7, .inl (fun _ => 0))), (b 11, .inl (E.2 0, 20, .inl (fun _ => 0))), (b 12, .inl (E.2 0, 20, .inl (fun _ => 0))), (b 13, .inl (E.2 0, 7, .inl (fun _ => 0))), (b 14, .inl (E.2 0, 7, .inl (fun _ => 0))), (b 15, .inl (E.2 0, 7, .inl (fun _ => 0))), (b 16, .inl (E.2 0, 7, .inl (fun _ => 0))), (b 17, .inl (E.2 0, 64, .inl (fun _ => 0))), (b 18, .inl (E.2 0, 27, .inl (fun _ => 0)))]
set_option maxRecDepth 100000 in
theorem zX_eq (E : zE) (a b : Nat → Nat) : BX7 E a ++ BX8 E b = zX E a b := by
  simp only [BX7, BX8, BX6, BX5, BX4, BX3, BX2, BX1, BX0, List.cons_append, List.nil_append, Nat.reduceAdd]
  rfl
abbrev zGo (E : zE) (a b K V : Nat → Nat) : zG := (E.1, E.2, zad a b, K, V)
def zPr (E : zE) (a b K V : Nat → Nat) (k o j : Nat) : Prop := ∃ e : va_E, (zX E a b)[k]? = some (zad a b o j, e) ∧ ∀ D H, va_at D vwCl (zad a b o j, e) H → va_at D vwCl (zad a b o j, zcell (zGo E a b K V) o j (zμ0 o)) H
theorem zl_0 {E : zE} {a b K V : Nat → Nat} : zPr E a b K V 10 0 0 := ⟨_, rfl, fun _ _ h => h⟩
theorem zl_1 {E : zE} {a b K V : Nat → Nat} : zPr E a b K V 11 0 1 := ⟨_, rfl, fun _ _ h => h⟩
theorem zl_2 {E : zE} {a b K V : Nat → Nat} : zPr E a b K V 12 0 2 := ⟨_, rfl, fun _ _ h => h⟩
theorem zl_3 {E : zE} {a b K V : Nat → Nat} : zPr E a b K V 13 0 3 := ⟨_, rfl, fun _ _ h => h⟩
theorem zl_4 {E : zE} {a b K V : Nat → Nat} : zPr E a b K V 14 1 0 := ⟨_, rfl, fun _ _ h => h⟩
theorem zl_5 {E : zE} {a b K V : Nat → Nat} : zPr E a b K V 15 1 1 := ⟨_, rfl, fun _ _ h => h⟩
theorem zl_6 {E : zE} {a b K V : Nat → Nat} : zPr E a b K V 16 1 2 := ⟨_, rfl, fun _ _ h => h⟩
theorem zl_7 {E : zE} {a b K V : Nat → Nat} : zPr E a b K V 17 1 3 := ⟨_, rfl, fun _ _ h => h⟩
theorem zl_8 {E : zE} {a b K V : Nat → Nat} : zPr E a b K V 44 2 0 := ⟨_, rfl, fun _ _ h => h⟩
theorem zl_9 {E : zE} {a b K V : Nat → Nat} : zPr E a b K V 45 2 1 := ⟨_, rfl, fun _ _ h => h⟩
theorem zl_10 {E : zE} {a b K V : Nat → Nat} : zPr E a b K V 46 2 2 := ⟨_, rfl, fun _ _ h => h⟩
theorem zl_11 {E : zE} {a b K V : Nat → Nat} : zPr E a b K V 47 2 3 := ⟨_, rfl, fun _ _ h => h⟩
theorem zl_12 {E : zE} {a b K V : Nat → Nat} : zPr E a b K V 77 3 0 := ⟨_, rfl, fun _ _ h => h⟩
theorem zl_13 {E : zE} {a b K V : Nat → Nat} : zPr E a b K V 78 3 1 := ⟨_, rfl, fun _ _ h => h⟩
theorem zl_14 {E : zE} {a b K V : Nat → Nat} : zPr E a b K V 79 3 2 := ⟨_, rfl, fun _ _ h => h⟩
theorem zl_15 {E : zE} {a b K V : Nat → Nat} : zPr E a b K V 80 3 3 := ⟨_, rfl, fun _ _ h => h⟩
theorem zl_16 {E : zE} {a b K V : Nat → Nat} : zPr E a b K V 20 4 0 := ⟨_, rfl, fun _ _ h => h⟩
theorem zl_17 {E : zE} {a b K V : Nat → Nat} : zPr E a b K V 21 4 1 := ⟨_, rfl, fun _ _ h => h⟩
theorem zl_18 {E : zE} {a b K V : Nat → Nat} : zPr E a b K V 22 4 2 := ⟨_, rfl, fun _ _ h => h⟩
theorem zl_19 {E : zE} {a b K V : Nat → Nat} : zPr E a b K V 23 4 3 := ⟨_, rfl, fun _ _ h => h⟩
theorem zl_20 {E : zE} {a b K V : Nat → Nat} : zPr E a b K V 24 5 0 := ⟨_, rfl, fun _ _ h => h⟩
theorem zl_21 {E : zE} {a b K V : Nat → Nat} : zPr E a b K V 25 5 1 := ⟨_, rfl, fun _ _ h => h⟩
theorem zl_22 {E : zE} {a b K V : Nat → Nat} : zPr E a b K V 26 5 2 := ⟨_, rfl, fun _ _ h => h⟩
theorem zl_23 {E : zE} {a b K V : Nat → Nat} : zPr E a b K V 27 5 3 := ⟨_, rfl, fun _ _ h => h⟩
theorem zl_24 {E : zE} {a b K V : Nat → Nat} : zPr E a b K V 28 6 0 := ⟨_, rfl, fun _ _ h => h⟩
theorem zl_25 {E : zE} {a b K V : Nat → Nat} : zPr E a b K V 29 6 1 := ⟨_, rfl, fun _ _ h => h⟩
theorem zl_26 {E : zE} {a b K V : Nat → Nat} : zPr E a b K V 30 6 2 := ⟨_, rfl, fun _ _ h => h⟩
theorem zl_27 {E : zE} {a b K V : Nat → Nat} : zPr E a b K V 31 6 3 := ⟨_, rfl, fun _ _ h => h⟩
theorem zl_28 {E : zE} {a b K V : Nat → Nat} : zPr E a b K V 32 7 0 := ⟨_, rfl, fun _ _ h => h⟩
theorem zl_29 {E : zE} {a b K V : Nat → Nat} : zPr E a b K V 33 7 1 := ⟨_, rfl, fun _ _ h => h⟩
theorem zl_30 {E : zE} {a b K V : Nat → Nat} : zPr E a b K V 34 7 2 := ⟨_, rfl, fun _ _ h => h⟩
theorem zl_31 {E : zE} {a b K V : Nat → Nat} : zPr E a b K V 35 7 3 := ⟨_, rfl, fun _ _ h => h⟩
theorem zl_32 {E : zE} {a b K V : Nat → Nat} : zPr E a b K V 36 8 0 := ⟨_, rfl, fun _ _ h => h⟩
theorem zl_33 {E : zE} {a b K V : Nat → Nat} : zPr E a b K V 37 8 1 := ⟨_, rfl, fun _ _ h => h⟩
theorem zl_34 {E : zE} {a b K V : Nat → Nat} : zPr E a b K V 38 8 2 := ⟨_, rfl, fun _ _ h => h⟩
theorem zl_35 {E : zE} {a b K V : Nat → Nat} : zPr E a b K V 39 8 3 := ⟨_, rfl, fun _ _ h => h⟩
theorem zl_36 {E : zE} {a b K V : Nat → Nat} : zPr E a b K V 40 9 0 := ⟨_, rfl, fun _ _ h => h⟩
theorem zl_37 {E : zE} {a b K V : Nat → Nat} : zPr E a b K V 41 9 1 := ⟨_, rfl, fun _ _ h => h⟩
theorem zl_38 {E : zE} {a b K V : Nat → Nat} : zPr E a b K V 42 9 2 := ⟨_, rfl, fun _ _ h => h⟩
theorem zl_39 {E : zE} {a b K V : Nat → Nat} : zPr E a b K V 43 9 3 := ⟨_, rfl, fun _ _ h => h⟩
theorem zl_40 {E : zE} {a b K V : Nat → Nat} : zPr E a b K V 50 10 0 := ⟨_, rfl, fun _ _ h => h⟩
theorem zl_41 {E : zE} {a b K V : Nat → Nat} : zPr E a b K V 51 10 1 := ⟨_, rfl, fun _ _ h => h⟩
theorem zl_42 {E : zE} {a b K V : Nat → Nat} : zPr E a b K V 52 10 2 := ⟨_, rfl, fun _ _ h => h⟩
theorem zl_43 {E : zE} {a b K V : Nat → Nat} : zPr E a b K V 53 10 3 := ⟨_, rfl, fun _ _ h => h⟩
theorem zl_44 {E : zE} {a b K V : Nat → Nat} : zPr E a b K V 54 11 0 := ⟨_, rfl, fun _ _ h => h⟩
theorem zl_45 {E : zE} {a b K V : Nat → Nat} : zPr E a b K V 55 11 1 := ⟨_, rfl, fun _ _ h => h⟩
theorem zl_46 {E : zE} {a b K V : Nat → Nat} : zPr E a b K V 56 11 2 := ⟨_, rfl, fun _ _ h => h⟩
theorem zl_47 {E : zE} {a b K V : Nat → Nat} : zPr E a b K V 57 11 3 := ⟨_, rfl, fun _ _ h => h⟩
theorem zl_48 {E : zE} {a b K V : Nat → Nat} : zPr E a b K V 58 12 0 := ⟨_, rfl, fun _ _ h => h⟩
theorem zl_49 {E : zE} {a b K V : Nat → Nat} : zPr E a b K V 59 12 1 := ⟨_, rfl, fun _ _ h => h⟩
theorem zl_50 {E : zE} {a b K V : Nat → Nat} : zPr E a b K V 60 12 2 := ⟨_, rfl, fun _ _ h => h⟩
theorem zl_51 {E : zE} {a b K V : Nat → Nat} : zPr E a b K V 61 12 3 := ⟨_, rfl, fun _ _ h => h⟩
theorem zl_52 {E : zE} {a b K V : Nat → Nat} : zPr E a b K V 62 13 0 := ⟨_, rfl, fun _ _ h => h⟩
theorem zl_53 {E : zE} {a b K V : Nat → Nat} : zPr E a b K V 63 13 1 := ⟨_, rfl, fun _ _ h => h⟩
theorem zl_54 {E : zE} {a b K V : Nat → Nat} : zPr E a b K V 64 13 2 := ⟨_, rfl, fun _ _ h => h⟩
theorem zl_55 {E : zE} {a b K V : Nat → Nat} : zPr E a b K V 65 13 3 := ⟨_, rfl, fun _ _ h => h⟩
theorem zl_56 {E : zE} {a b K V : Nat → Nat} : zPr E a b K V 66 14 0 := ⟨_, rfl, fun _ _ h => h⟩
theorem zl_57 {E : zE} {a b K V : Nat → Nat} : zPr E a b K V 67 14 1 := ⟨_, rfl, fun _ _ h => h⟩
theorem zl_58 {E : zE} {a b K V : Nat → Nat} : zPr E a b K V 68 14 2 := ⟨_, rfl, fun _ _ h => h⟩
theorem zl_59 {E : zE} {a b K V : Nat → Nat} : zPr E a b K V 69 14 3 := ⟨_, rfl, fun _ _ h => h⟩
theorem zl_60 {E : zE} {a b K V : Nat → Nat} : zPr E a b K V 70 15 0 := ⟨_, rfl, fun _ _ h => h⟩
theorem zl_61 {E : zE} {a b K V : Nat → Nat} : zPr E a b K V 71 15 1 := ⟨_, rfl, fun _ _ h => h⟩
theorem zl_62 {E : zE} {a b K V : Nat → Nat} : zPr E a b K V 72 15 2 := ⟨_, rfl, fun _ _ h => h⟩
theorem zl_63 {E : zE} {a b K V : Nat → Nat} : zPr E a b K V 73 15 3 := ⟨_, rfl, fun _ _ h => h⟩
theorem zl_64 {E : zE} {a b K V : Nat → Nat} : zPr E a b K V 18 16 0 := ⟨_, rfl, fun _ _ h => h⟩
theorem zl_65 {E : zE} {a b K V : Nat → Nat} : zPr E a b K V 19 16 1 := by
  refine ⟨_, rfl, fun _ _ h => zq_cg (fun i hi => ?_) h⟩
  match i, hi with
  | 0, _ => rfl
  | 1, _ => rfl
  | 2, _ => rfl
  | 3, _ => rfl
  | 4, _ => rfl
  | 5, _ => rfl
  | i + 6, h => exact absurd h (by omega)
theorem zl_66 {E : zE} {a b K V : Nat → Nat} : zPr E a b K V 48 17 0 := ⟨_, rfl, fun _ _ h => h⟩
theorem zl_67 {E : zE} {a b K V : Nat → Nat} : zPr E a b K V 49 17 1 := by
  refine ⟨_, rfl, fun _ _ h => zq_cg (fun i hi => ?_) h⟩
  match i, hi with
  | 0, _ => rfl
  | 1, _ => rfl
  | 2, _ => rfl
  | 3, _ => rfl
  | 4, _ => rfl
  | 5, _ => rfl
  | i + 6, h => exact absurd h (by omega)
theorem zl_68 {E : zE} {a b K V : Nat → Nat} : zPr E a b K V 81 18 0 := ⟨_, rfl, fun _ _ h => h⟩
theorem zl_69 {E : zE} {a b K V : Nat → Nat} : zPr E a b K V 82 18 1 := ⟨_, rfl, fun _ _ h => h⟩
theorem zl_70 {E : zE} {a b K V : Nat → Nat} : zPr E a b K V 75 19 0 := ⟨_, rfl, fun _ _ h => h⟩
theorem zl_71 {E : zE} {a b K V : Nat → Nat} : zPr E a b K V 76 19 1 := ⟨_, rfl, fun _ _ h => h⟩
theorem zl_72 {E : zE} {a b K V : Nat → Nat} : zPr E a b K V 74 20 0 := ⟨_, rfl, fun _ _ h => h⟩
theorem zl_73 {E : zE} {a b K V : Nat → Nat} : zPr E a b K V 83 21 0 := ⟨_, rfl, fun _ _ h => h⟩
theorem zl_74 {E : zE} {a b K V : Nat → Nat} : zPr E a b K V 84 21 1 := ⟨_, rfl, fun _ _ h => h⟩
theorem zl_75 {E : zE} {a b K V : Nat → Nat} : zPr E a b K V 85 21 2 := ⟨_, rfl, fun _ _ h => h⟩
theorem zl_76 {E : zE} {a b K V : Nat → Nat} : zPr E a b K V 86 21 3 := ⟨_, rfl, fun _ _ h => h⟩
theorem zl_77 {E : zE} {a b K V : Nat → Nat} : zPr E a b K V 87 21 4 := ⟨_, rfl, fun _ _ h => h⟩
theorem zl_78 {E : zE} {a b K V : Nat → Nat} : zPr E a b K V 88 21 5 := by
  refine ⟨_, rfl, fun _ _ h => zq_cg (fun i hi => ?_) h⟩
  match i, hi with
  | 0, _ => rfl
  | 1, _ => rfl
  | 2, _ => rfl
  | 3, _ => rfl
  | 4, _ => rfl
  | 5, _ => rfl
  | 6, _ => rfl
  | 7, _ => rfl
  | i + 8, h => exact absurd h (by omega)
theorem zl_79 {E : zE} {a b K V : Nat → Nat} : zPr E a b K V 97 21 7 := ⟨_, rfl, fun _ _ h => h⟩
theorem zl_80 {E : zE} {a b K V : Nat → Nat} : zPr E a b K V 98 21 8 := ⟨_, rfl, fun _ _ h => h⟩
theorem zl_81 {E : zE} {a b K V : Nat → Nat} : zPr E a b K V 99 21 9 := ⟨_, rfl, fun _ _ h => h⟩
theorem zl_82 {E : zE} {a b K V : Nat → Nat} : zPr E a b K V 89 21 10 := ⟨_, rfl, fun _ _ h => h⟩
theorem zl_83 {E : zE} {a b K V : Nat → Nat} : zPr E a b K V 90 21 11 := ⟨_, rfl, fun _ _ h => h⟩
theorem zl_84 {E : zE} {a b K V : Nat → Nat} : zPr E a b K V 91 21 12 := ⟨_, rfl, fun _ _ h => h⟩
theorem zl_85 {E : zE} {a b K V : Nat → Nat} : zPr E a b K V 92 21 13 := ⟨_, rfl, fun _ _ h => h⟩
theorem zl_86 {E : zE} {a b K V : Nat → Nat} : zPr E a b K V 93 21 14 := ⟨_, rfl, fun _ _ h => h⟩
theorem zl_87 {E : zE} {a b K V : Nat → Nat} : zPr E a b K V 94 21 15 := ⟨_, rfl, fun _ _ h => h⟩
theorem zl_88 {E : zE} {a b K V : Nat → Nat} : zPr E a b K V 95 21 16 := ⟨_, rfl, fun _ _ h => h⟩
theorem zl_89 {E : zE} {a b K V : Nat → Nat} : zPr E a b K V 96 21 17 := ⟨_, rfl, fun _ _ h => h⟩
theorem zl_90 {E : zE} {a b K V : Nat → Nat} : zPr E a b K V 101 22 0 := ⟨_, rfl, fun _ _ h => h⟩
theorem zl_91 {E : zE} {a b K V : Nat → Nat} : zPr E a b K V 102 22 1 := ⟨_, rfl, fun _ _ h => h⟩
theorem zl_92 {E : zE} {a b K V : Nat → Nat} : zPr E a b K V 103 22 2 := ⟨_, rfl, fun _ _ h => h⟩
theorem zl_93 {E : zE} {a b K V : Nat → Nat} : zPr E a b K V 104 22 3 := ⟨_, rfl, fun _ _ h => h⟩
theorem zl_94 {E : zE} {a b K V : Nat → Nat} : zPr E a b K V 105 22 4 := ⟨_, rfl, fun _ _ h => h⟩
theorem zl_95 {E : zE} {a b K V : Nat → Nat} : zPr E a b K V 106 22 5 := by
  refine ⟨_, rfl, fun _ _ h => zq_cg (fun i hi => ?_) h⟩
  match i, hi with
  | 0, _ => rfl
  | 1, _ => rfl
  | 2, _ => rfl
  | 3, _ => rfl
  | 4, _ => rfl
  | 5, _ => rfl
  | 6, _ => rfl
  | 7, _ => rfl
  | i + 8, h => exact absurd h (by omega)
theorem zl_96 {E : zE} {a b K V : Nat → Nat} : zPr E a b K V 115 22 7 := ⟨_, rfl, fun _ _ h => h⟩
theorem zl_97 {E : zE} {a b K V : Nat → Nat} : zPr E a b K V 116 22 8 := ⟨_, rfl, fun _ _ h => h⟩
theorem zl_98 {E : zE} {a b K V : Nat → Nat} : zPr E a b K V 117 22 9 := ⟨_, rfl, fun _ _ h => h⟩
theorem zl_99 {E : zE} {a b K V : Nat → Nat} : zPr E a b K V 107 22 10 := ⟨_, rfl, fun _ _ h => h⟩
theorem zl_100 {E : zE} {a b K V : Nat → Nat} : zPr E a b K V 108 22 11 := ⟨_, rfl, fun _ _ h => h⟩
theorem zl_101 {E : zE} {a b K V : Nat → Nat} : zPr E a b K V 109 22 12 := ⟨_, rfl, fun _ _ h => h⟩
theorem zl_102 {E : zE} {a b K V : Nat → Nat} : zPr E a b K V 110 22 13 := ⟨_, rfl, fun _ _ h => h⟩
theorem zl_103 {E : zE} {a b K V : Nat → Nat} : zPr E a b K V 111 22 14 := ⟨_, rfl, fun _ _ h => h⟩
theorem zl_104 {E : zE} {a b K V : Nat → Nat} : zPr E a b K V 112 22 15 := ⟨_, rfl, fun _ _ h => h⟩
theorem zl_105 {E : zE} {a b K V : Nat → Nat} : zPr E a b K V 113 22 16 := ⟨_, rfl, fun _ _ h => h⟩
theorem zl_106 {E : zE} {a b K V : Nat → Nat} : zPr E a b K V 114 22 17 := ⟨_, rfl, fun _ _ h => h⟩
theorem zl_107 {E : zE} {a b K V : Nat → Nat} : zPr E a b K V 100 23 0 := ⟨_, rfl, fun _ _ h => h⟩
theorem zl_108 {E : zE} {a b K V : Nat → Nat} : zPr E a b K V 118 23 2 := ⟨_, rfl, fun _ _ h => h⟩
theorem zl_109 {E : zE} {a b K V : Nat → Nat} : zPr E a b K V 119 23 3 := ⟨_, rfl, fun _ _ h => h⟩
theorem zl_110 {E : zE} {a b K V : Nat → Nat} : zPr E a b K V 120 23 4 := ⟨_, rfl, fun _ _ h => h⟩
theorem zl_111 {E : zE} {a b K V : Nat → Nat} : zPr E a b K V 121 23 5 := ⟨_, rfl, fun _ _ h => h⟩
theorem zl_112 {E : zE} {a b K V : Nat → Nat} : zPr E a b K V 122 23 6 := ⟨_, rfl, fun _ _ h => h⟩
theorem zl_113 {E : zE} {a b K V : Nat → Nat} : zPr E a b K V 123 23 11 := ⟨_, rfl, fun _ _ h => h⟩
theorem zl_114 {E : zE} {a b K V : Nat → Nat} : zPr E a b K V 8 24 0 := ⟨_, rfl, fun _ _ h => h⟩
theorem zl_115 {E : zE} {a b K V : Nat → Nat} : zPr E a b K V 9 24 1 := ⟨_, rfl, fun _ _ h => h⟩
theorem zl_116 {E : zE} {a b K V : Nat → Nat} : zPr E a b K V 6 25 0 := ⟨_, rfl, fun _ _ h => h⟩
theorem zl_117 {E : zE} {a b K V : Nat → Nat} : zPr E a b K V 7 25 1 := ⟨_, rfl, fun _ _ h => h⟩
theorem zl_118 {E : zE} {a b K V : Nat → Nat} : zPr E a b K V 4 26 0 := ⟨_, rfl, fun _ _ h => h⟩
theorem zl_119 {E : zE} {a b K V : Nat → Nat} : zPr E a b K V 5 26 1 := ⟨_, rfl, fun _ _ h => h⟩
theorem zl_120 {E : zE} {a b K V : Nat → Nat} : zPr E a b K V 2 27 0 := ⟨_, rfl, fun _ _ h => h⟩
theorem zl_121 {E : zE} {a b K V : Nat → Nat} : zPr E a b K V 3 27 1 := ⟨_, rfl, fun _ _ h => h⟩
theorem zl_122 {E : zE} {a b K V : Nat → Nat} : zPr E a b K V 0 28 0 := ⟨_, rfl, fun _ _ h => h⟩
theorem zl_123 {E : zE} {a b K V : Nat → Nat} : zPr E a b K V 1 28 11 := by
  refine ⟨_, rfl, fun _ _ h => zq_cg (fun i hi => ?_) h⟩
  match i, hi with
  | 0, _ => rfl
  | 1, _ => rfl
  | 2, _ => rfl
  | 3, _ => rfl
  | i + 4, h => exact absurd h (by omega)
theorem zl_124 {E : zE} {a b K V : Nat → Nat} : zPr E a b K V 124 29 0 := ⟨_, rfl, fun _ _ h => h⟩
theorem zl_125 {E : zE} {a b K V : Nat → Nat} : zPr E a b K V 125 29 1 := ⟨_, rfl, fun _ _ h => h⟩
theorem zl_126 {E : zE} {a b K V : Nat → Nat} : zPr E a b K V 126 29 2 := ⟨_, rfl, fun _ _ h => h⟩
theorem zl_127 {E : zE} {a b K V : Nat → Nat} : zPr E a b K V 127 29 4 := ⟨_, rfl, fun _ _ h => h⟩
theorem zl_128 {E : zE} {a b K V : Nat → Nat} : zPr E a b K V 128 29 5 := ⟨_, rfl, fun _ _ h => h⟩
theorem zl_129 {E : zE} {a b K V : Nat → Nat} : zPr E a b K V 129 29 7 := ⟨_, rfl, fun _ _ h => h⟩
theorem zl_130 {E : zE} {a b K V : Nat → Nat} : zPr E a b K V 130 29 9 := ⟨_, rfl, fun _ _ h => h⟩
theorem zl_131 {E : zE} {a b K V : Nat → Nat} : zPr E a b K V 131 29 10 := ⟨_, rfl, fun _ _ h => h⟩
theorem zl_132 {E : zE} {a b K V : Nat → Nat} : zPr E a b K V 132 29 11 := ⟨_, rfl, fun _ _ h => h⟩
theorem zl_133 {E : zE} {a b K V : Nat → Nat} : zPr E a b K V 133 29 12 := ⟨_, rfl, fun _ _ h => h⟩
theorem zl_134 {E : zE} {a b K V : Nat → Nat} : zPr E a b K V 134 29 13 := ⟨_, rfl, fun _ _ h => h⟩
theorem zl_135 {E : zE} {a b K V : Nat → Nat} : zPr E a b K V 135 29 14 := ⟨_, rfl, fun _ _ h => h⟩
theorem zl_136 {E : zE} {a b K V : Nat → Nat} : zPr E a b K V 136 29 15 := ⟨_, rfl, fun _ _ h => h⟩
theorem zl_137 {E : zE} {a b K V : Nat → Nat} : zPr E a b K V 137 29 16 := ⟨_, rfl, fun _ _ h => h⟩
theorem zl_138 {E : zE} {a b K V : Nat → Nat} : zPr E a b K V 138 29 17 := ⟨_, rfl, fun _ _ h => h⟩
theorem zl_139 {E : zE} {a b K V : Nat → Nat} : zPr E a b K V 139 29 18 := ⟨_, rfl, fun _ _ h => h⟩
theorem zl_140 {E : zE} {a b K V : Nat → Nat} : zPr E a b K V 140 29 19 := ⟨_, rfl, fun _ _ h => h⟩
theorem zl_141 {E : zE} {a b K V : Nat → Nat} : zPr E a b K V 141 29 23 := ⟨_, rfl, fun _ _ h => h⟩
theorem zl_142 {E : zE} {a b K V : Nat → Nat} : zPr E a b K V 142 29 25 := ⟨_, rfl, fun _ _ h => h⟩
