/-! small rows for the walks -/
theorem zbool {v : Int32} (h : v = 0 ∨ v = 1) : narrow .boolean (.int v) = .int v := by
  rcases h with h | h <;> subst h <;> decide
theorem zchar {v : Int32} (h : 0 ≤ v ∧ v < 65536) : narrow .char (.int v) = .int v := by
  have h0 : (0 : Int) ≤ v.toInt := by simpa using Int32.le_iff_toInt_le.mp h.1
  have h1 : v.toInt < 65536 := by simpa using Int32.lt_iff_toInt_lt.mp h.2
  obtain ⟨n, hn⟩ : ∃ n : Nat, v.toInt = n := ⟨v.toInt.toNat, by omega⟩
  have hv : v = nI n := by
    apply Int32.toInt_inj.mp
    rw [nI_toInt (by omega)]
    exact hn
  rw [hv]
  exact (pk_charN (by omega)).1
theorem tn {x k : Int32} {i : Int} (h : ¬ x = k) (e : k.toInt = i) : x.toInt ≠ i := fun q => h (Int32.toInt_inj.mp (q.trans e.symm))
section ZM
variable {p : Program} {l : Launch} {e : Env} {R : Room} {s : State} {m : MethodId} {args : Array Value} {below : List Frame} {meth : Method} {c : Code} {H : Heap} {locs : List Loc} {Q : State → Prop} {cc : ByteArray} {pc : Nat} {ls : Array Slot} {rest : List Value} {own : String} {nL d : Nat} {G : zG} {μ μ' : zM} {S : zOb}
theorem zaa {u v : Nat} (h : u = v) (kk : W p l e R s m args below meth c H locs 0 0 Q (F0 m pc ls (.ref (G.2.2.1 u 0) :: rest))) : W p l e R s m args below meth c H locs 0 0 Q (F0 m pc ls (.ref (G.2.2.1 v 0) :: rest)) := h ▸ kk
theorem zr_iaA {o j n : Nat} {i : Int32} {rw : Nat → Int32} (cx : zCX p R s m args c own cc nL d G) (hI : zIW G s μ H locs) (ho : (o, j) ∈ zK) (hra : (μ o).1 j = rw) (he : ∀ S, zcell G o j S = .inl (G.2.1 0, n, .inl (S.1 j))) {k : Nat} (hk : i.toNatClampNeg = k) (hin : zin i n) (hdg : decode cc pc = .ok (.iaload, 1))
    (kk : W p l e R s m args below meth c H locs 0 0 Q (F0 m (pc + 1) ls (.int (rw k) :: rest))) : W p l e R s m args below meth c H locs 0 0 Q (F0 m pc ls (.int i :: .ref (G.2.2.1 o j) :: rest)) := by
  subst hra
  exact zr_iald cx hI ho rfl he hk hin hdg kk
theorem zr_cpiA {o j n o' j' n' index : Nat} {S1 : zOb} {sp dp k : Int32} {rw : Nat → Int32} (cx : zCX p R s m args c own cc nL d G) (hI : zIW G s (zset μ o' S1) H locs) (hsz : ls.size = nL) (ho : (o, j) ∈ zK) (hra : (μ o).1 j = rw) (he : ∀ S, zcell G o j S = .inl (G.2.1 0, n, .inl (S.1 j))) (hne : o ≠ o') (ho' : (o', j') ∈ zK) (he' : ∀ S, zcell G o' j' S = .inl (G.2.1 0, n', .inl (S.1 j')))
    (hl : Cond.methodLink own index arraycopyName ∈ wsL_law) (hd : 1 ≤ d) (h1 : ¬ sp < 0) (h2 : ¬ dp < 0) (h3 : ¬ k < 0) (h4 : sp.toNatClampNeg + k.toNatClampNeg ≤ n) (h5 : dp.toNatClampNeg + k.toNatClampNeg ≤ n') (hrm : (rest.map fun v => v.category).sum ≤ 8) (hμ : zset (zset μ o' S1) o' (zIr S1 j' (va_cpy rw (S1.1 j') sp.toNatClampNeg dp.toNatClampNeg k.toNatClampNeg)) = μ') (hdg : decode cc pc = .ok (.invokestatic index, 3))
    (kk : ∀ (H1 : Heap) (locs1 : List Loc), zIW G s μ' H1 locs1 → W p l e R s m args below meth c H1 locs1 0 0 Q (F0 m (pc + 3) ls rest)) : W p l e R s m args below meth c H locs 0 0 Q (F0 m pc ls (.int k :: .int dp :: .ref (G.2.2.1 o' j') :: .int sp :: .ref (G.2.2.1 o j) :: rest)) := by
  subst hra
  exact zr_cpi cx hI hsz ho (zset_n μ S1 hne) he ho' (zset_s μ o' S1) he' hl hd h1 h2 h3 h4 h5 hrm hμ hdg kk
end ZM
