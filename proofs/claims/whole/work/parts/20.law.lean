/-! THE LAW'S LOOP: every call is an operation zop_.. of both sides on a memory that the relation holds of -/
def zop_book (N : Nat) (Inv : zM → Prop) : Prop := ∀ (μ : zM) (a0 : Int32), Inv μ → ∃ (r : Int32) (μ1 : zM) (S2 : zOb), f_RS_book N μ a0 = some (r, μ1) ∧ f_Mo_book N (μ1 29) a0 = some (r, S2) ∧ Inv (zset μ1 29 S2)
def zop_words (N : Nat) (Inv : zM → Prop) : Prop := ∀ (μ : zM) (a0 : Int32) (a1 : Int32), Inv μ → ∃ (r : Int32) (μ1 : zM) (S2 : zOb), f_RS_words N μ a0 a1 = some (r, μ1) ∧ f_Mo_words N (μ1 29) a0 a1 = some (r, S2) ∧ Inv (zset μ1 29 S2)
def zop_lose (N : Nat) (Inv : zM → Prop) : Prop := ∀ (μ : zM) (a0 : Int32), Inv μ → ∃ (r : Int32) (μ1 : zM) (S2 : zOb), f_RS_lose N μ a0 = some (r, μ1) ∧ f_Mo_lose N (μ1 29) a0 = some (r, S2) ∧ Inv (zset μ1 29 S2)
def zop_ahead (N : Nat) (Inv : zM → Prop) : Prop := ∀ (μ : zM) (a0 : Int32) (a1 : Int32), Inv μ → ∃ (r : Int32) (μ1 : zM) (S2 : zOb), f_RS_ahead N μ a0 a1 = some (r, μ1) ∧ f_Mo_ahead N (μ1 29) a0 a1 = some (r, S2) ∧ Inv (zset μ1 29 S2)
def zop_prior (N : Nat) (Inv : zM → Prop) : Prop := ∀ (μ : zM) (a0 : Int32), Inv μ → ∃ (r : Int32) (μ1 : zM) (S2 : zOb), f_RS_prior N μ a0 = some (r, μ1) ∧ f_Mo_prior N (μ1 29) a0 = some (r, S2) ∧ Inv (zset μ1 29 S2)
def zop_tell (N : Nat) (Inv : zM → Prop) : Prop := ∀ (μ : zM) (a0 : Int32) (a1 : Int32), Inv μ → ∃ (r : Int32) (μ1 : zM) (S2 : zOb), f_RS_tell N μ a0 a1 = some (r, μ1) ∧ f_Mo_tell N (μ1 29) a0 a1 = some (r, S2) ∧ Inv (zset μ1 29 S2)
def zop_move (N : Nat) (Inv : zM → Prop) : Prop := ∀ (μ : zM) (a0 : Int32) (a1 : Int32), Inv μ → ∃ (r : Int32) (μ1 : zM) (S2 : zOb), f_RS_move N μ a0 a1 = some (r, μ1) ∧ f_Mo_move N (μ1 29) a0 a1 = some (r, S2) ∧ Inv (zset μ1 29 S2)
def zop_settle (N : Nat) (Inv : zM → Prop) : Prop := ∀ (μ : zM) (a0 : Int32), Inv μ → ∃ (r : Int32) (μ1 : zM) (S2 : zOb), f_RS_settle N μ a0 = some (r, μ1) ∧ f_Mo_settle N (μ1 29) a0 = some (r, S2) ∧ Inv (zset μ1 29 S2)
def zop_place (N : Nat) (Inv : zM → Prop) : Prop := ∀ (μ : zM) (a0 : Int32) (a1 : Int32), Inv μ → ∃ (r : Int32) (μ1 : zM) (S2 : zOb), f_RS_place N μ a0 a1 = some (r, μ1) ∧ f_Mo_place N (μ1 29) a0 a1 = some (r, S2) ∧ Inv (zset μ1 29 S2)
def zop_word (N : Nat) (Inv : zM → Prop) : Prop := ∀ (μ : zM) (a0 : Int32) (a1 : Int32), Inv μ → ∃ (r : Int32) (μ1 : zM) (S2 : zOb), f_RS_word N μ a0 a1 = some (r, μ1) ∧ f_Mo_word N (μ1 29) a0 a1 = some (r, S2) ∧ Inv (zset μ1 29 S2)
def zop_told (N : Nat) (Inv : zM → Prop) : Prop := ∀ (μ : zM) (a0 : Int32) (a1 : Int32), Inv μ → ∃ (r : Int32), f_RS_told N μ a0 a1 = some r ∧ f_Mo_told N (μ 29) a0 a1 = some r ∧ Inv μ
def zop_count (N : Nat) (Inv : zM → Prop) : Prop := ∀ (μ : zM) (a0 : Int32), Inv μ → ∃ (r : Int32) (μ1 : zM) (S2 : zOb), f_RS_count N μ a0 = some (r, μ1) ∧ f_Mo_count N (μ1 29) a0 = some (r, S2) ∧ Inv (zset μ1 29 S2)
def zop_best (N : Nat) (Inv : zM → Prop) : Prop := ∀ (μ : zM) (a0 : Int32), Inv μ → ∃ (r : Int32) (μ1 : zM) (S2 : zOb), f_RS_best N μ a0 = some (r, μ1) ∧ f_Mo_best N (μ1 29) a0 = some (r, S2) ∧ Inv (zset μ1 29 S2)
def zop_many (N : Nat) (Inv : zM → Prop) : Prop := ∀ (μ : zM) (a0 : Int32), Inv μ → ∃ (r : Int32) (μ1 : zM) (S2 : zOb), f_RS_many N μ a0 = some (r, μ1) ∧ f_Mo_many N (μ1 29) a0 = some (r, S2) ∧ Inv (zset μ1 29 S2)
def zop_fit (N : Nat) (Inv : zM → Prop) : Prop := ∀ (μ : zM) (a0 : Int32), Inv μ → ∃ (r : Int32) (μ1 : zM) (S2 : zOb), f_RS_fit N μ a0 = some (r, μ1) ∧ f_Mo_fit N (μ1 29) a0 = some (r, S2) ∧ Inv (zset μ1 29 S2)
def zop_kept (N : Nat) (Inv : zM → Prop) : Prop := ∀ (μ : zM) (a0 : Int32) (a1 : Int32) (a2 : Int32), Inv μ → ∃ (r : Int32) (μ1 : zM) (S2 : zOb), f_RS_kept N μ a0 a1 a2 = some (r, μ1) ∧ f_Mo_kept N (μ1 29) a0 a1 a2 = some (r, S2) ∧ Inv (zset μ1 29 S2)
def zop_letter (N : Nat) (Inv : zM → Prop) : Prop := ∀ (μ : zM) (a0 : Int32), Inv μ → ∃ (r : Int32) (μ1 : zM) (S2 : zOb), f_RS_letter N μ a0 = some (r, μ1) ∧ f_Mo_letter N (μ1 29) a0 = some (r, S2) ∧ Inv (zset μ1 29 S2)
def zop_type (N : Nat) (Inv : zM → Prop) : Prop := ∀ (μ : zM) (a0 : Int32), Inv μ → ∃ (r : Int32) (μ1 : zM) (S2 : zOb), f_RS_type μ a0 = some (r, μ1) ∧ f_Mo_type (μ1 29) a0 = some (r, S2) ∧ Inv (zset μ1 29 S2)
def zop_read (N : Nat) (Inv : zM → Prop) : Prop := ∀ (μ : zM), Inv μ → ∃ (r : Int32) (μ1 : zM) (S2 : zOb), f_RS_read N μ = some (r, μ1) ∧ f_Mo_read N (μ1 29) = some (r, S2) ∧ Inv (zset μ1 29 S2)
def zop_drift (N : Nat) (Inv : zM → Prop) : Prop := ∀ (μ : zM) (a0 : Int32), Inv μ → ∃ (r : Int32) (μ1 : zM) (S2 : zOb), f_RS_drift N μ a0 = some (r, μ1) ∧ f_Mo_drift N (μ1 29) a0 = some (r, S2) ∧ Inv (zset μ1 29 S2)
def zop_undo (N : Nat) (Inv : zM → Prop) : Prop := ∀ (μ : zM), Inv μ → ∃ (r : Int32) (μ1 : zM) (S2 : zOb), f_RS_undo μ = some (r, μ1) ∧ f_Mo_undo N (μ1 29) = some (r, S2) ∧ Inv (zset μ1 29 S2)
def zop_seed (N : Nat) (Inv : zM → Prop) : Prop := ∀ (μ : zM) (a0 : Int32), Inv μ → ∃ (r : Int32) (μ1 : zM) (S2 : zOb), f_RS_seed μ a0 = some (r, μ1) ∧ f_Mo_seed (μ1 29) a0 = some (r, S2) ∧ Inv (zset μ1 29 S2)
def zop_image (N : Nat) (Inv : zM → Prop) : Prop := ∀ (μ : zM), Inv μ → ∃ (r : Int32) (μ1 : zM) (S2 : zOb), f_RS_image N μ = some (r, μ1) ∧ f_Mo_image N (μ1 29) = some (r, S2) ∧ Inv (zset μ1 29 S2)
def zop_restore (N : Nat) (Inv : zM → Prop) : Prop := ∀ (μ : zM), Inv μ → ∃ (r : Int32) (μ1 : zM) (S2 : zOb), f_RS_restore N μ = some (r, μ1) ∧ f_Mo_restore N (μ1 29) = some (r, S2) ∧ Inv (zset μ1 29 S2)
def zop_seen (N : Nat) (Inv : zM → Prop) : Prop := ∀ (μ : zM) (a0 : Int32) (a1 : Int32) (a2 : Int32), Inv μ → ∃ (r : Int32) (μ1 : zM) (S2 : zOb), f_RS_seen N μ a0 a1 a2 = some (r, μ1) ∧ f_Mo_seen N (μ1 29) a0 a1 a2 = some (r, S2) ∧ Inv (zset μ1 29 S2)
def zop_film (N : Nat) (Inv : zM → Prop) : Prop := ∀ (μ : zM) (a0 : Int32) (a1 : Int32) (a2 : Int32), Inv μ → ∃ (r : Int32) (μ1 : zM) (S2 : zOb), f_RS_film N μ a0 a1 a2 = some (r, μ1) ∧ f_Mo_film N (μ1 29) a0 a1 a2 = some (r, S2) ∧ Inv (zset μ1 29 S2)
def zop_sheet (N : Nat) (Inv : zM → Prop) : Prop := ∀ (μ : zM) (a0 : Int32) (a1 : Int32) (a2 : Int32), Inv μ → ∃ (r : Int32) (μ1 : zM) (S2 : zOb), f_RS_sheet N μ a0 a1 a2 = some (r, μ1) ∧ f_Mo_sheet N (μ1 29) a0 a1 a2 = some (r, S2) ∧ Inv (zset μ1 29 S2)
def zop_drop (N : Nat) (Inv : zM → Prop) : Prop := ∀ (μ : zM) (a0 : Int32), Inv μ → ∃ (r : Int32) (μ1 : zM) (S2 : zOb), f_RS_drop N μ a0 = some (r, μ1) ∧ f_Mo_drop (μ1 29) a0 = some (r, S2) ∧ Inv (zset μ1 29 S2)
def zop_item (N : Nat) (Inv : zM → Prop) : Prop := ∀ (μ : zM) (a0 : Int32) (a1 : Int32) (a2 : Int32) (a3 : Int64), Inv μ → ∃ (r : Int32) (μ1 : zM) (S2 : zOb), f_RS_item μ a0 a1 a2 a3 = some (r, μ1) ∧ f_Mo_item (μ1 29) a0 a1 a2 a3 = some (r, S2) ∧ Inv (zset μ1 29 S2)
def zop_copy (N : Nat) (Inv : zM → Prop) : Prop := ∀ (μ : zM) (a0 : Int32) (a1 : Int32) (a2 : Int32) (a3 : Int32) (a4 : Int32), Inv μ → ∃ (r : Int32) (μ1 : zM) (S2 : zOb), f_RS_copy μ a0 a1 a2 a3 a4 = some (r, μ1) ∧ f_Mo_copy N (μ1 29) a0 a1 a2 a3 a4 = some (r, S2) ∧ Inv (zset μ1 29 S2)
def zops (N : Nat) (Inv : zM → Prop) : Prop := zop_book N Inv ∧ zop_words N Inv ∧ zop_lose N Inv ∧ zop_ahead N Inv ∧ zop_prior N Inv ∧ zop_tell N Inv ∧ zop_move N Inv ∧ zop_settle N Inv ∧ zop_place N Inv ∧ zop_word N Inv ∧ zop_told N Inv ∧ zop_count N Inv ∧ zop_best N Inv ∧ zop_many N Inv ∧ zop_fit N Inv ∧ zop_kept N Inv ∧ zop_letter N Inv ∧ zop_type N Inv ∧ zop_read N Inv ∧ zop_drift N Inv ∧ zop_undo N Inv ∧ zop_seed N Inv ∧ zop_image N Inv ∧ zop_restore N Inv ∧ zop_seen N Inv ∧ zop_film N Inv ∧ zop_sheet N Inv ∧ zop_drop N Inv ∧ zop_item N Inv ∧ zop_copy N Inv
def zLX (p : Program) (s : State) (m : MethodId) (args : Array Value) (c : Code) (G : zG) : Prop :=
  p.tables.exec = Jvm.exec ∧ c.code = code ∧ c.maxLocals = 4 ∧ s.vm.findClass RL = some m.cls ∧ (∀ w ∈ wsL_law, w.before args s = true) ∧ zKX G s ∧ ∀ κ ∈ zK, s.heap.size ≤ G.2.2.1 κ.1 κ.2
theorem zlVi {p : Program} {l : Launch} {e : Env} {s : State} {m : MethodId} {args : Array Value} {below : List Frame} {meth : Method} {c : Code} {H : Heap} {locs : List Loc} {cells slots : Nat} {Q : State → Prop} {pc : Nat} {ls : Array Slot} {rest st : List Value} {G : zG} {μ μ' : zM} {y : MethodName} {C : String} {bytes : ByteArray} {maxL n index d' o : Nat} {ret : Option FieldType} {As : List Value} {r : Int32} {T : u_T} {N : Nat} (lx : zLX p s m args c G) (hP : va_P G.1 vwCl (zw G μ) H) (hS : va_S (fun q : Nat => s.heap.size ≤ q) s.heap H locs) (hM : zMI l G y bytes maxL ret d' (.ref (G.2.2.1 o 0) :: As) μ r μ') (hm : zMth y C bytes maxL ret n) (hi : Cond.instanceMethod y ∈ wsL_law ∧ Cond.selects C y y ∈ wsL_law) (hl : Cond.methodLink RL index y ∈ wsL_law) (hd : d' ≤ 1000) (ho : (o, 0) ∈ zK) (hc : vwCl[zc o]? = some (C, T, N)) (hn : As.length = n) (hsz : ls.size = 4) (hst : st = As.reverse ++ .ref (G.2.2.1 o 0) :: rest) (hcat : (rest.map fun v => v.category).sum ≤ 8) (hf : cells ≤ 600000 ∧ slots ≤ 7302250) (hdg : decode code pc = .ok (.invokevirtual index, 3))
    (kk : ∀ (H1 : Heap) (locs1 : List Loc), va_P G.1 vwCl (zw G μ') H1 → va_S (fun q : Nat => s.heap.size ≤ q) s.heap H1 locs1 → W p l e room_1 s m args below meth c H1 locs1 cells slots Q (F0 m (pc + 3) ls (.int r :: rest))) : W p l e room_1 s m args below meth c H locs cells slots Q (F0 m pc ls st) := by
  obtain ⟨hx, hb, hml, hown, hts, hK, hge⟩ := lx
  obtain ⟨⟨m1, m2, m3, m4⟩, m5, m6, m7⟩ := hm
  have hcb : CallB room_1 s args RL index y bytes maxL ret (zws y bytes maxL ret) (zrm d') 0 0 n := callB_of n hts (zgoodIn (fun w hw => by
    rcases List.mem_cons.mp hw with h | h
    · rw [h]; exact m7
    · exact h)) rfl rfl rfl (by rw [m1]; exact hts _ m6) (hts _ hl) ⟨m2, m3, m4⟩ ⟨by show d' + 1 ≤ 2048; omega, by show 8 + (maxL + 11) + 40 * d' ≤ 84000; omega⟩
  have hAA : ∀ q, zA G q → s.heap.size ≤ q := fun q h => by
    obtain ⟨κ, h1, h2⟩ := h
    rw [h2]
    exact hge κ h1
  have hS0 : va_S (zA G) s.heap H [] := ⟨hS.1, fun q h _ => hS.2.1 q h (Nat.not_le.mpr h), fun _ h => absurd h List.not_mem_nil⟩
  have hpre : PreV s H C (G.2.2.1 o 0) (va_Pc (.ref (G.2.2.1 o 0) :: As) (zPre G μ)) As := by
    refine ⟨zblind, ?_, fun U hU hW => ⟨rfl, hK.into hS0 hU hW, by rw [hU]; exact hP⟩⟩
    obtain ⟨q0, hq⟩ := zK_at ho
    obtain ⟨fs, hfs⟩ := zcell_0 (G := G) (o := o) (S := μ o)
    have e := zw_at (G := G) (μ := μ) hq
    rw [hfs] at e
    exact va_recv hK.1 hP hc e
  subst hst
  refine va_calli (va_runV (As := As) (rest := rest) ⟨hx, hb, hml, hown, hts⟩ hM ⟨hcb, hts _ hi.1, hts _ hi.2⟩ hpre rfl hn hsz rfl (lv_room hcat) hdg hf) hS (fun q _ h => hAA q h) hAA (fun r1 u t H1 locs1 ht hvm hw hB hz1 hk1 hS1 => ?_)
  obtain ⟨e1, e2⟩ := hw
  subst e1; subst e2
  rw [ht] at hB
  exact kk H1 locs1 hB hS1
theorem zl_in {L i k : Nat} (hL : L ≤ 3072) (h : i + 6 ≤ L) (hk : k < 6) {x c : Int32} (hx : x = nI i) (hc : c = nI k) : vp_in (x + c) L := by
  rw [hx, hc, nI_add]
  exact vp_in_nI (by omega) (by omega)
theorem zl_gt {L i : Nat} (hL : L ≤ 3072) (hi : i ≤ 3078) {x : Int32} (hx : x = nI i) (h : ¬ (nI L - 6 < x)) : i + 6 ≤ L := by
  have h1 : (nI L - nI 6).toInt = (L : Int) - 6 := pk_sub_toInt (by omega) (by omega)
  have h2 : (nI i).toInt = (i : Int) := nI_toInt (by omega)
  have h3 : ¬ (nI L - nI 6).toInt < (nI i).toInt := fun q => h (by rw [hx]; exact Int32.lt_iff_toInt_lt.mpr q)
  omega
set_option maxHeartbeats 8000000 in
set_option maxRecDepth 100000 in
theorem law_loop {p : Program} {l : Launch} {e : Env} {s : State} {m : MethodId} {below : List Frame} {meth : Method} {c : Code} {b L : Nat} {xs : Nat → Int32} {G : zG} {N : Nat} {Inv : zM → Prop} {kc ks : Nat} (hL : L ≤ 3072) (lx : zLX p s m #[Value.ref b] c G) (hr : meth.sig.returnType = ret) (hlocks : meth.locks = false) (hX : va_X b L xs s s.heap) (hbl : b < s.heap.size) (hkc : kc ≤ 600000) (hks : ks ≤ 7302250) (ho : zops N Inv) :
    ∀ (n i : Nat) (x3 : Int32), i ≤ 3078 → 3079 ≤ i + n → x3 = nI i → ∀ (μ : zM), Inv μ → ∀ (H : Heap) (locs : List Loc), va_P G.1 vwCl (zw G μ) H → va_S (fun q : Nat => s.heap.size ≤ q) s.heap H locs → ∀ (ls : Array Slot), lv_has ls 4 [(0, .ref b), (1, .ref (G.2.2.1 28 0)), (2, .ref (G.2.2.1 29 0)), (3, .int x3)] → W p l e room_1 s m #[Value.ref b] below meth c H locs kc ks (lw_Z below #[Value.ref b] s) (F0 m 18 ls []) := by
  obtain ⟨o_book, o_words, o_lose, o_ahead, o_prior, o_tell, o_move, o_settle, o_place, o_word, o_told, o_count, o_best, o_many, o_fit, o_kept, o_letter, o_type, o_read, o_drift, o_undo, o_seed, o_image, o_restore, o_seen, o_film, o_sheet, o_drop, o_item, o_copy⟩ := ho
  obtain ⟨hx, hb, hml, hown, hts, hK, hge⟩ := id lx
  have hbA : ¬ (fun q : Nat => s.heap.size ≤ q) b := Nat.not_le.mpr hbl
  intro n
  induction n with
  | zero =>
    intro i x3 h1 h2
    exact absurd h2 (by omega)
  | succ n ih =>
    intro i x3 hi hin ex3 μ hInv H locs hP hS ls hl
    refine lv_iload_n hx hb dL_law_18 rfl (lv_at hl 3 rfl) ?_
    refine lv_aload_n hx hb dL_law_19 rfl (lv_at hl 0 rfl) ?_
    refine va_slen hx hb hX hbl hbA hS dL_law_20 ?_
    refine lv_bipush (v := 6) hx hb dL_law_21 (by decide) ?_
    refine lv_isub hx hb dL_law_23 ?_
    refine lv_icmp_gt (tgt := 1074) hx hb dL_law_24 (by decide) (fun c_1 => ?_) (fun c_1 => ?_)
    · refine lv_iconst (v := 1) hx hb dL_law_1074 (by decide) ?_
      refine va_forget (fun q hq => hS.2.2 q hq) ?_
      refine W.widen (k := 600000) (n := 7302250) hkc hks ?_
      exact lw_ret hx hb hr hlocks dL_law_1075
    · have hlt : i + 6 ≤ L := zl_gt hL hi ex3 c_1
      have tail : ∀ (μ : zM), Inv μ → ∀ (H : Heap) (locs : List Loc), va_P G.1 vwCl (zw G μ) H → va_S (fun q : Nat => s.heap.size ≤ q) s.heap H locs → W p l e room_1 s m #[Value.ref b] below meth c H locs kc ks (lw_Z below #[Value.ref b] s) (F0 m 1068 ls []) := by
        intro μ hInv H locs hP hS
        obtain ⟨v, ev⟩ : ∃ z : Int32, z = x3 + 6 := ⟨_, rfl⟩
        refine lv_iinc (v := v) (lv' := [(3, .int v), (0, .ref b), (1, .ref (G.2.2.1 28 0)), (2, .ref (G.2.2.1 29 0))]) hx hb dL_law_1068 hl (k := 3) rfl (by rw [ev]; rfl) (by decide) rfl (fun ls hl => ?_)
        refine lv_goto (tgt := 18) hx hb dL_law_1071 (by decide) ?_
        exact ih (i + 6) v (by omega) (by omega) (by rw [ev, ex3]; exact nI_add i 6) μ hInv H locs hP hS ls (lv_sub hl [1, 2, 3, 0] rfl)
      refine lv_aload_n hx hb dL_law_27 rfl (lv_at hl 0 rfl) ?_
      refine lv_iload_n hx hb dL_law_28 rfl (lv_at hl 3 rfl) ?_
      refine va_sld hx hb hX hbl hbA hS (by rw [ex3]; exact vp_in_nI (by omega) (by omega)) dL_law_29 ?_
      refine lv_bipush (v := 31) hx hb dL_law_30 (by decide) ?_
      refine lv_iand hx hb dL_law_32 ?_
      refine lv_topi (fun w ew => ?_)
      by_cases k0 : w = 0
      · refine lv_tableIn (off := 135) (tgt := 168) hx hb dL_law_33 (by rw [k0]; decide) (by rw [k0]; decide) (by rw [k0]; rfl) (by decide) ?_
        obtain ⟨r, μ1, S2, e1, e2, hI2⟩ := o_book μ (xs (x3 + 1).toNatClampNeg) hInv
        refine lv_aload_n hx hb dL_law_168 rfl (lv_at hl 1 rfl) ?_
        refine lv_aload_n hx hb dL_law_169 rfl (lv_at hl 0 rfl) ?_
        refine lv_iload_n hx hb dL_law_170 rfl (lv_at hl 3 rfl) ?_
        refine lv_iconst (v := 1) hx hb dL_law_171 (by decide) ?_
        refine lv_iadd hx hb dL_law_172 ?_
        refine va_sld hx hb hX hbl hbA hS (zl_in hL hlt (k := 1) (by decide) ex3 rfl) dL_law_173 ?_
        refine zlVi (As := [.int (xs (x3 + 1).toNatClampNeg)]) (rest := []) lx hP hS (c_RS_book N e1) mt_yX7_book mv_yX7_book w_127 (by decide) (k7_0 rfl) (zv7 rfl) rfl hl.1 rfl (Nat.le_of_ble_eq_true rfl) ⟨hkc, hks⟩ dL_law_174 (fun H locs hP hS => ?_)
        refine lv_aload_n hx hb dL_law_177 rfl (lv_at hl 2 rfl) ?_
        refine lv_aload_n hx hb dL_law_178 rfl (lv_at hl 0 rfl) ?_
        refine lv_iload_n hx hb dL_law_179 rfl (lv_at hl 3 rfl) ?_
        refine lv_iconst (v := 1) hx hb dL_law_180 (by decide) ?_
        refine lv_iadd hx hb dL_law_181 ?_
        refine va_sld hx hb hX hbl hbA hS (zl_in hL hlt (k := 1) (by decide) ex3 rfl) dL_law_182 ?_
        refine zlVi (o := 29) (As := [.int (xs (x3 + 1).toNatClampNeg)]) (rest := [.int r]) lx hP hS (c_Mo_book N (o := 29) rfl rfl  e2 rfl) mt_yX8_book mv_yX8_book w_163 (by decide) (k8_0 rfl) (zv8 rfl) rfl hl.1 rfl (Nat.le_of_ble_eq_true rfl) ⟨hkc, hks⟩ dL_law_183 (fun H locs hP hS => ?_)
        refine lv_icmp_eq (tgt := 1068) hx hb dL_law_186 (by decide) (fun _ => ?_) (fun q => absurd rfl q)
        exact tail _ hI2 H locs hP hS
      by_cases k1 : w = 1
      · refine lv_tableIn (off := 158) (tgt := 191) hx hb dL_law_33 (by rw [k1]; decide) (by rw [k1]; decide) (by rw [k1]; rfl) (by decide) ?_
        obtain ⟨r, μ1, S2, e1, e2, hI2⟩ := o_words μ (xs (x3 + 1).toNatClampNeg) (xs (x3 + 2).toNatClampNeg) hInv
        refine lv_aload_n hx hb dL_law_191 rfl (lv_at hl 1 rfl) ?_
        refine lv_aload_n hx hb dL_law_192 rfl (lv_at hl 0 rfl) ?_
        refine lv_iload_n hx hb dL_law_193 rfl (lv_at hl 3 rfl) ?_
        refine lv_iconst (v := 1) hx hb dL_law_194 (by decide) ?_
        refine lv_iadd hx hb dL_law_195 ?_
        refine va_sld hx hb hX hbl hbA hS (zl_in hL hlt (k := 1) (by decide) ex3 rfl) dL_law_196 ?_
        refine lv_aload_n hx hb dL_law_197 rfl (lv_at hl 0 rfl) ?_
        refine lv_iload_n hx hb dL_law_198 rfl (lv_at hl 3 rfl) ?_
        refine lv_iconst (v := 2) hx hb dL_law_199 (by decide) ?_
        refine lv_iadd hx hb dL_law_200 ?_
        refine va_sld hx hb hX hbl hbA hS (zl_in hL hlt (k := 2) (by decide) ex3 rfl) dL_law_201 ?_
        refine zlVi (As := [.int (xs (x3 + 1).toNatClampNeg), .int (xs (x3 + 2).toNatClampNeg)]) (rest := []) lx hP hS (c_RS_words N e1) mt_yX7_words mv_yX7_words w_191 (by decide) (k7_0 rfl) (zv7 rfl) rfl hl.1 rfl (Nat.le_of_ble_eq_true rfl) ⟨hkc, hks⟩ dL_law_202 (fun H locs hP hS => ?_)
        refine lv_aload_n hx hb dL_law_205 rfl (lv_at hl 2 rfl) ?_
        refine lv_aload_n hx hb dL_law_206 rfl (lv_at hl 0 rfl) ?_
        refine lv_iload_n hx hb dL_law_207 rfl (lv_at hl 3 rfl) ?_
        refine lv_iconst (v := 1) hx hb dL_law_208 (by decide) ?_
        refine lv_iadd hx hb dL_law_209 ?_
        refine va_sld hx hb hX hbl hbA hS (zl_in hL hlt (k := 1) (by decide) ex3 rfl) dL_law_210 ?_
        refine lv_aload_n hx hb dL_law_211 rfl (lv_at hl 0 rfl) ?_
        refine lv_iload_n hx hb dL_law_212 rfl (lv_at hl 3 rfl) ?_
        refine lv_iconst (v := 2) hx hb dL_law_213 (by decide) ?_
        refine lv_iadd hx hb dL_law_214 ?_
        refine va_sld hx hb hX hbl hbA hS (zl_in hL hlt (k := 2) (by decide) ex3 rfl) dL_law_215 ?_
        refine zlVi (o := 29) (As := [.int (xs (x3 + 1).toNatClampNeg), .int (xs (x3 + 2).toNatClampNeg)]) (rest := [.int r]) lx hP hS (c_Mo_words N (o := 29) rfl rfl  e2 rfl) mt_yX8_words mv_yX8_words w_203 (by decide) (k8_0 rfl) (zv8 rfl) rfl hl.1 rfl (Nat.le_of_ble_eq_true rfl) ⟨hkc, hks⟩ dL_law_216 (fun H locs hP hS => ?_)
        refine lv_icmp_eq (tgt := 1068) hx hb dL_law_219 (by decide) (fun _ => ?_) (fun q => absurd rfl q)
        exact tail _ hI2 H locs hP hS
      by_cases k2 : w = 2
      · refine lv_tableIn (off := 191) (tgt := 224) hx hb dL_law_33 (by rw [k2]; decide) (by rw [k2]; decide) (by rw [k2]; rfl) (by decide) ?_
        obtain ⟨r, μ1, S2, e1, e2, hI2⟩ := o_lose μ (xs (x3 + 1).toNatClampNeg) hInv
        refine lv_aload_n hx hb dL_law_224 rfl (lv_at hl 1 rfl) ?_
        refine lv_aload_n hx hb dL_law_225 rfl (lv_at hl 0 rfl) ?_
        refine lv_iload_n hx hb dL_law_226 rfl (lv_at hl 3 rfl) ?_
        refine lv_iconst (v := 1) hx hb dL_law_227 (by decide) ?_
        refine lv_iadd hx hb dL_law_228 ?_
        refine va_sld hx hb hX hbl hbA hS (zl_in hL hlt (k := 1) (by decide) ex3 rfl) dL_law_229 ?_
        refine zlVi (As := [.int (xs (x3 + 1).toNatClampNeg)]) (rest := []) lx hP hS (c_RS_lose N e1) mt_yX7_lose mv_yX7_lose w_215 (by decide) (k7_0 rfl) (zv7 rfl) rfl hl.1 rfl (Nat.le_of_ble_eq_true rfl) ⟨hkc, hks⟩ dL_law_230 (fun H locs hP hS => ?_)
        refine lv_aload_n hx hb dL_law_233 rfl (lv_at hl 2 rfl) ?_
        refine lv_aload_n hx hb dL_law_234 rfl (lv_at hl 0 rfl) ?_
        refine lv_iload_n hx hb dL_law_235 rfl (lv_at hl 3 rfl) ?_
        refine lv_iconst (v := 1) hx hb dL_law_236 (by decide) ?_
        refine lv_iadd hx hb dL_law_237 ?_
        refine va_sld hx hb hX hbl hbA hS (zl_in hL hlt (k := 1) (by decide) ex3 rfl) dL_law_238 ?_
        refine zlVi (o := 29) (As := [.int (xs (x3 + 1).toNatClampNeg)]) (rest := [.int r]) lx hP hS (c_Mo_lose N (o := 29) rfl rfl  e2 rfl) mt_yX8_lose mv_yX8_lose w_238 (by decide) (k8_0 rfl) (zv8 rfl) rfl hl.1 rfl (Nat.le_of_ble_eq_true rfl) ⟨hkc, hks⟩ dL_law_239 (fun H locs hP hS => ?_)
        refine lv_icmp_eq (tgt := 1068) hx hb dL_law_242 (by decide) (fun _ => ?_) (fun q => absurd rfl q)
        exact tail _ hI2 H locs hP hS
      by_cases k3 : w = 3
      · refine lv_tableIn (off := 214) (tgt := 247) hx hb dL_law_33 (by rw [k3]; decide) (by rw [k3]; decide) (by rw [k3]; rfl) (by decide) ?_
        obtain ⟨r, μ1, S2, e1, e2, hI2⟩ := o_ahead μ (xs (x3 + 1).toNatClampNeg) (xs (x3 + 2).toNatClampNeg) hInv
        refine lv_aload_n hx hb dL_law_247 rfl (lv_at hl 1 rfl) ?_
        refine lv_aload_n hx hb dL_law_248 rfl (lv_at hl 0 rfl) ?_
        refine lv_iload_n hx hb dL_law_249 rfl (lv_at hl 3 rfl) ?_
        refine lv_iconst (v := 1) hx hb dL_law_250 (by decide) ?_
        refine lv_iadd hx hb dL_law_251 ?_
        refine va_sld hx hb hX hbl hbA hS (zl_in hL hlt (k := 1) (by decide) ex3 rfl) dL_law_252 ?_
        refine lv_aload_n hx hb dL_law_253 rfl (lv_at hl 0 rfl) ?_
        refine lv_iload_n hx hb dL_law_254 rfl (lv_at hl 3 rfl) ?_
        refine lv_iconst (v := 2) hx hb dL_law_255 (by decide) ?_
        refine lv_iadd hx hb dL_law_256 ?_
        refine va_sld hx hb hX hbl hbA hS (zl_in hL hlt (k := 2) (by decide) ex3 rfl) dL_law_257 ?_
        refine zlVi (As := [.int (xs (x3 + 1).toNatClampNeg), .int (xs (x3 + 2).toNatClampNeg)]) (rest := []) lx hP hS (c_RS_ahead N e1) mt_yX7_ahead mv_yX7_ahead w_253 (by decide) (k7_0 rfl) (zv7 rfl) rfl hl.1 rfl (Nat.le_of_ble_eq_true rfl) ⟨hkc, hks⟩ dL_law_258 (fun H locs hP hS => ?_)
        refine lv_aload_n hx hb dL_law_261 rfl (lv_at hl 2 rfl) ?_
        refine lv_aload_n hx hb dL_law_262 rfl (lv_at hl 0 rfl) ?_
        refine lv_iload_n hx hb dL_law_263 rfl (lv_at hl 3 rfl) ?_
        refine lv_iconst (v := 1) hx hb dL_law_264 (by decide) ?_
        refine lv_iadd hx hb dL_law_265 ?_
        refine va_sld hx hb hX hbl hbA hS (zl_in hL hlt (k := 1) (by decide) ex3 rfl) dL_law_266 ?_
        refine lv_aload_n hx hb dL_law_267 rfl (lv_at hl 0 rfl) ?_
        refine lv_iload_n hx hb dL_law_268 rfl (lv_at hl 3 rfl) ?_
        refine lv_iconst (v := 2) hx hb dL_law_269 (by decide) ?_
        refine lv_iadd hx hb dL_law_270 ?_
        refine va_sld hx hb hX hbl hbA hS (zl_in hL hlt (k := 2) (by decide) ex3 rfl) dL_law_271 ?_
        refine zlVi (o := 29) (As := [.int (xs (x3 + 1).toNatClampNeg), .int (xs (x3 + 2).toNatClampNeg)]) (rest := [.int r]) lx hP hS (c_Mo_ahead N (o := 29) rfl rfl  e2 rfl) mt_yX8_ahead mv_yX8_ahead w_267 (by decide) (k8_0 rfl) (zv8 rfl) rfl hl.1 rfl (Nat.le_of_ble_eq_true rfl) ⟨hkc, hks⟩ dL_law_272 (fun H locs hP hS => ?_)
        refine lv_icmp_eq (tgt := 1068) hx hb dL_law_275 (by decide) (fun _ => ?_) (fun q => absurd rfl q)
        exact tail _ hI2 H locs hP hS
      by_cases k4 : w = 4
      · refine lv_tableIn (off := 247) (tgt := 280) hx hb dL_law_33 (by rw [k4]; decide) (by rw [k4]; decide) (by rw [k4]; rfl) (by decide) ?_
        obtain ⟨r, μ1, S2, e1, e2, hI2⟩ := o_prior μ (xs (x3 + 1).toNatClampNeg) hInv
        refine lv_aload_n hx hb dL_law_280 rfl (lv_at hl 1 rfl) ?_
        refine lv_aload_n hx hb dL_law_281 rfl (lv_at hl 0 rfl) ?_
        refine lv_iload_n hx hb dL_law_282 rfl (lv_at hl 3 rfl) ?_
        refine lv_iconst (v := 1) hx hb dL_law_283 (by decide) ?_
        refine lv_iadd hx hb dL_law_284 ?_
        refine va_sld hx hb hX hbl hbA hS (zl_in hL hlt (k := 1) (by decide) ex3 rfl) dL_law_285 ?_
        refine zlVi (As := [.int (xs (x3 + 1).toNatClampNeg)]) (rest := []) lx hP hS (c_RS_prior N e1) mt_yX7_prior mv_yX7_prior w_282 (by decide) (k7_0 rfl) (zv7 rfl) rfl hl.1 rfl (Nat.le_of_ble_eq_true rfl) ⟨hkc, hks⟩ dL_law_286 (fun H locs hP hS => ?_)
        refine lv_aload_n hx hb dL_law_289 rfl (lv_at hl 2 rfl) ?_
        refine lv_aload_n hx hb dL_law_290 rfl (lv_at hl 0 rfl) ?_
        refine lv_iload_n hx hb dL_law_291 rfl (lv_at hl 3 rfl) ?_
        refine lv_iconst (v := 1) hx hb dL_law_292 (by decide) ?_
        refine lv_iadd hx hb dL_law_293 ?_
        refine va_sld hx hb hX hbl hbA hS (zl_in hL hlt (k := 1) (by decide) ex3 rfl) dL_law_294 ?_
        refine zlVi (o := 29) (As := [.int (xs (x3 + 1).toNatClampNeg)]) (rest := [.int r]) lx hP hS (c_Mo_prior N (o := 29) rfl rfl  e2 rfl) mt_yX8_prior mv_yX8_prior w_290 (by decide) (k8_0 rfl) (zv8 rfl) rfl hl.1 rfl (Nat.le_of_ble_eq_true rfl) ⟨hkc, hks⟩ dL_law_295 (fun H locs hP hS => ?_)
        refine lv_icmp_eq (tgt := 1068) hx hb dL_law_298 (by decide) (fun _ => ?_) (fun q => absurd rfl q)
        exact tail _ hI2 H locs hP hS
      by_cases k5 : w = 5
      · refine lv_tableIn (off := 270) (tgt := 303) hx hb dL_law_33 (by rw [k5]; decide) (by rw [k5]; decide) (by rw [k5]; rfl) (by decide) ?_
        obtain ⟨r, μ1, S2, e1, e2, hI2⟩ := o_tell μ (xs (x3 + 1).toNatClampNeg) (xs (x3 + 2).toNatClampNeg) hInv
        refine lv_aload_n hx hb dL_law_303 rfl (lv_at hl 1 rfl) ?_
        refine lv_aload_n hx hb dL_law_304 rfl (lv_at hl 0 rfl) ?_
        refine lv_iload_n hx hb dL_law_305 rfl (lv_at hl 3 rfl) ?_
        refine lv_iconst (v := 1) hx hb dL_law_306 (by decide) ?_
        refine lv_iadd hx hb dL_law_307 ?_
        refine va_sld hx hb hX hbl hbA hS (zl_in hL hlt (k := 1) (by decide) ex3 rfl) dL_law_308 ?_
        refine lv_aload_n hx hb dL_law_309 rfl (lv_at hl 0 rfl) ?_
        refine lv_iload_n hx hb dL_law_310 rfl (lv_at hl 3 rfl) ?_
        refine lv_iconst (v := 2) hx hb dL_law_311 (by decide) ?_
        refine lv_iadd hx hb dL_law_312 ?_
        refine va_sld hx hb hX hbl hbA hS (zl_in hL hlt (k := 2) (by decide) ex3 rfl) dL_law_313 ?_
        refine zlVi (As := [.int (xs (x3 + 1).toNatClampNeg), .int (xs (x3 + 2).toNatClampNeg)]) (rest := []) lx hP hS (c_RS_tell N e1) mt_yX7_tell mv_yX7_tell w_298 (by decide) (k7_0 rfl) (zv7 rfl) rfl hl.1 rfl (Nat.le_of_ble_eq_true rfl) ⟨hkc, hks⟩ dL_law_314 (fun H locs hP hS => ?_)
        refine lv_aload_n hx hb dL_law_317 rfl (lv_at hl 2 rfl) ?_
        refine lv_aload_n hx hb dL_law_318 rfl (lv_at hl 0 rfl) ?_
        refine lv_iload_n hx hb dL_law_319 rfl (lv_at hl 3 rfl) ?_
        refine lv_iconst (v := 1) hx hb dL_law_320 (by decide) ?_
        refine lv_iadd hx hb dL_law_321 ?_
        refine va_sld hx hb hX hbl hbA hS (zl_in hL hlt (k := 1) (by decide) ex3 rfl) dL_law_322 ?_
        refine lv_aload_n hx hb dL_law_323 rfl (lv_at hl 0 rfl) ?_
        refine lv_iload_n hx hb dL_law_324 rfl (lv_at hl 3 rfl) ?_
        refine lv_iconst (v := 2) hx hb dL_law_325 (by decide) ?_
        refine lv_iadd hx hb dL_law_326 ?_
        refine va_sld hx hb hX hbl hbA hS (zl_in hL hlt (k := 2) (by decide) ex3 rfl) dL_law_327 ?_
        refine zlVi (o := 29) (As := [.int (xs (x3 + 1).toNatClampNeg), .int (xs (x3 + 2).toNatClampNeg)]) (rest := [.int r]) lx hP hS (c_Mo_tell N (o := 29) rfl rfl  e2 rfl) mt_yX8_tell mv_yX8_tell w_318 (by decide) (k8_0 rfl) (zv8 rfl) rfl hl.1 rfl (Nat.le_of_ble_eq_true rfl) ⟨hkc, hks⟩ dL_law_328 (fun H locs hP hS => ?_)
        refine lv_icmp_eq (tgt := 1068) hx hb dL_law_331 (by decide) (fun _ => ?_) (fun q => absurd rfl q)
        exact tail _ hI2 H locs hP hS
      by_cases k6 : w = 6
      · refine lv_tableIn (off := 303) (tgt := 336) hx hb dL_law_33 (by rw [k6]; decide) (by rw [k6]; decide) (by rw [k6]; rfl) (by decide) ?_
        obtain ⟨r, μ1, S2, e1, e2, hI2⟩ := o_move μ (xs (x3 + 1).toNatClampNeg) (xs (x3 + 2).toNatClampNeg) hInv
        refine lv_aload_n hx hb dL_law_336 rfl (lv_at hl 1 rfl) ?_
        refine lv_aload_n hx hb dL_law_337 rfl (lv_at hl 0 rfl) ?_
        refine lv_iload_n hx hb dL_law_338 rfl (lv_at hl 3 rfl) ?_
        refine lv_iconst (v := 1) hx hb dL_law_339 (by decide) ?_
        refine lv_iadd hx hb dL_law_340 ?_
        refine va_sld hx hb hX hbl hbA hS (zl_in hL hlt (k := 1) (by decide) ex3 rfl) dL_law_341 ?_
        refine lv_aload_n hx hb dL_law_342 rfl (lv_at hl 0 rfl) ?_
        refine lv_iload_n hx hb dL_law_343 rfl (lv_at hl 3 rfl) ?_
        refine lv_iconst (v := 2) hx hb dL_law_344 (by decide) ?_
        refine lv_iadd hx hb dL_law_345 ?_
        refine va_sld hx hb hX hbl hbA hS (zl_in hL hlt (k := 2) (by decide) ex3 rfl) dL_law_346 ?_
        refine zlVi (As := [.int (xs (x3 + 1).toNatClampNeg), .int (xs (x3 + 2).toNatClampNeg)]) (rest := []) lx hP hS (c_RS_move N e1) mt_yX7_move mv_yX7_move w_329 (by decide) (k7_0 rfl) (zv7 rfl) rfl hl.1 rfl (Nat.le_of_ble_eq_true rfl) ⟨hkc, hks⟩ dL_law_347 (fun H locs hP hS => ?_)
        refine lv_aload_n hx hb dL_law_350 rfl (lv_at hl 2 rfl) ?_
        refine lv_aload_n hx hb dL_law_351 rfl (lv_at hl 0 rfl) ?_
        refine lv_iload_n hx hb dL_law_352 rfl (lv_at hl 3 rfl) ?_
        refine lv_iconst (v := 1) hx hb dL_law_353 (by decide) ?_
        refine lv_iadd hx hb dL_law_354 ?_
        refine va_sld hx hb hX hbl hbA hS (zl_in hL hlt (k := 1) (by decide) ex3 rfl) dL_law_355 ?_
        refine lv_aload_n hx hb dL_law_356 rfl (lv_at hl 0 rfl) ?_
        refine lv_iload_n hx hb dL_law_357 rfl (lv_at hl 3 rfl) ?_
        refine lv_iconst (v := 2) hx hb dL_law_358 (by decide) ?_
        refine lv_iadd hx hb dL_law_359 ?_
        refine va_sld hx hb hX hbl hbA hS (zl_in hL hlt (k := 2) (by decide) ex3 rfl) dL_law_360 ?_
        refine zlVi (o := 29) (As := [.int (xs (x3 + 1).toNatClampNeg), .int (xs (x3 + 2).toNatClampNeg)]) (rest := [.int r]) lx hP hS (c_Mo_move N (o := 29) rfl rfl  e2 rfl) mt_yX8_move mv_yX8_move w_337 (by decide) (k8_0 rfl) (zv8 rfl) rfl hl.1 rfl (Nat.le_of_ble_eq_true rfl) ⟨hkc, hks⟩ dL_law_361 (fun H locs hP hS => ?_)
        refine lv_icmp_eq (tgt := 1068) hx hb dL_law_364 (by decide) (fun _ => ?_) (fun q => absurd rfl q)
        exact tail _ hI2 H locs hP hS
      by_cases k7 : w = 7
      · refine lv_tableIn (off := 336) (tgt := 369) hx hb dL_law_33 (by rw [k7]; decide) (by rw [k7]; decide) (by rw [k7]; rfl) (by decide) ?_
        obtain ⟨r, μ1, S2, e1, e2, hI2⟩ := o_settle μ (xs (x3 + 1).toNatClampNeg) hInv
        refine lv_aload_n hx hb dL_law_369 rfl (lv_at hl 1 rfl) ?_
        refine lv_aload_n hx hb dL_law_370 rfl (lv_at hl 0 rfl) ?_
        refine lv_iload_n hx hb dL_law_371 rfl (lv_at hl 3 rfl) ?_
        refine lv_iconst (v := 1) hx hb dL_law_372 (by decide) ?_
        refine lv_iadd hx hb dL_law_373 ?_
        refine va_sld hx hb hX hbl hbA hS (zl_in hL hlt (k := 1) (by decide) ex3 rfl) dL_law_374 ?_
        refine zlVi (As := [.int (xs (x3 + 1).toNatClampNeg)]) (rest := []) lx hP hS (c_RS_settle N e1) mt_yX7_settle mv_yX7_settle w_345 (by decide) (k7_0 rfl) (zv7 rfl) rfl hl.1 rfl (Nat.le_of_ble_eq_true rfl) ⟨hkc, hks⟩ dL_law_375 (fun H locs hP hS => ?_)
        refine lv_aload_n hx hb dL_law_378 rfl (lv_at hl 2 rfl) ?_
        refine lv_aload_n hx hb dL_law_379 rfl (lv_at hl 0 rfl) ?_
        refine lv_iload_n hx hb dL_law_380 rfl (lv_at hl 3 rfl) ?_
        refine lv_iconst (v := 1) hx hb dL_law_381 (by decide) ?_
        refine lv_iadd hx hb dL_law_382 ?_
        refine va_sld hx hb hX hbl hbA hS (zl_in hL hlt (k := 1) (by decide) ex3 rfl) dL_law_383 ?_
        refine zlVi (o := 29) (As := [.int (xs (x3 + 1).toNatClampNeg)]) (rest := [.int r]) lx hP hS (c_Mo_settle N (o := 29) rfl rfl  e2 rfl) mt_yX8_settle mv_yX8_settle w_461 (by decide) (k8_0 rfl) (zv8 rfl) rfl hl.1 rfl (Nat.le_of_ble_eq_true rfl) ⟨hkc, hks⟩ dL_law_384 (fun H locs hP hS => ?_)
        refine lv_icmp_eq (tgt := 1068) hx hb dL_law_387 (by decide) (fun _ => ?_) (fun q => absurd rfl q)
        exact tail _ hI2 H locs hP hS
      by_cases k8 : w = 8
      · refine lv_tableIn (off := 359) (tgt := 392) hx hb dL_law_33 (by rw [k8]; decide) (by rw [k8]; decide) (by rw [k8]; rfl) (by decide) ?_
        obtain ⟨r, μ1, S2, e1, e2, hI2⟩ := o_place μ (xs (x3 + 1).toNatClampNeg) (xs (x3 + 2).toNatClampNeg) hInv
        refine lv_aload_n hx hb dL_law_392 rfl (lv_at hl 1 rfl) ?_
        refine lv_aload_n hx hb dL_law_393 rfl (lv_at hl 0 rfl) ?_
        refine lv_iload_n hx hb dL_law_394 rfl (lv_at hl 3 rfl) ?_
        refine lv_iconst (v := 1) hx hb dL_law_395 (by decide) ?_
        refine lv_iadd hx hb dL_law_396 ?_
        refine va_sld hx hb hX hbl hbA hS (zl_in hL hlt (k := 1) (by decide) ex3 rfl) dL_law_397 ?_
        refine lv_aload_n hx hb dL_law_398 rfl (lv_at hl 0 rfl) ?_
        refine lv_iload_n hx hb dL_law_399 rfl (lv_at hl 3 rfl) ?_
        refine lv_iconst (v := 2) hx hb dL_law_400 (by decide) ?_
        refine lv_iadd hx hb dL_law_401 ?_
        refine va_sld hx hb hX hbl hbA hS (zl_in hL hlt (k := 2) (by decide) ex3 rfl) dL_law_402 ?_
        refine zlVi (As := [.int (xs (x3 + 1).toNatClampNeg), .int (xs (x3 + 2).toNatClampNeg)]) (rest := []) lx hP hS (c_RS_place N e1) mt_yX7_place mv_yX7_place w_535 (by decide) (k7_0 rfl) (zv7 rfl) rfl hl.1 rfl (Nat.le_of_ble_eq_true rfl) ⟨hkc, hks⟩ dL_law_403 (fun H locs hP hS => ?_)
        refine lv_aload_n hx hb dL_law_406 rfl (lv_at hl 2 rfl) ?_
        refine lv_aload_n hx hb dL_law_407 rfl (lv_at hl 0 rfl) ?_
        refine lv_iload_n hx hb dL_law_408 rfl (lv_at hl 3 rfl) ?_
        refine lv_iconst (v := 1) hx hb dL_law_409 (by decide) ?_
        refine lv_iadd hx hb dL_law_410 ?_
        refine va_sld hx hb hX hbl hbA hS (zl_in hL hlt (k := 1) (by decide) ex3 rfl) dL_law_411 ?_
        refine lv_aload_n hx hb dL_law_412 rfl (lv_at hl 0 rfl) ?_
        refine lv_iload_n hx hb dL_law_413 rfl (lv_at hl 3 rfl) ?_
        refine lv_iconst (v := 2) hx hb dL_law_414 (by decide) ?_
        refine lv_iadd hx hb dL_law_415 ?_
        refine va_sld hx hb hX hbl hbA hS (zl_in hL hlt (k := 2) (by decide) ex3 rfl) dL_law_416 ?_
        refine zlVi (o := 29) (As := [.int (xs (x3 + 1).toNatClampNeg), .int (xs (x3 + 2).toNatClampNeg)]) (rest := [.int r]) lx hP hS (c_Mo_place N (o := 29) rfl rfl  e2 rfl) mt_yX8_place mv_yX8_place w_554 (by decide) (k8_0 rfl) (zv8 rfl) rfl hl.1 rfl (Nat.le_of_ble_eq_true rfl) ⟨hkc, hks⟩ dL_law_417 (fun H locs hP hS => ?_)
        refine lv_icmp_eq (tgt := 1068) hx hb dL_law_420 (by decide) (fun _ => ?_) (fun q => absurd rfl q)
        exact tail _ hI2 H locs hP hS
      by_cases k9 : w = 9
      · refine lv_tableIn (off := 392) (tgt := 425) hx hb dL_law_33 (by rw [k9]; decide) (by rw [k9]; decide) (by rw [k9]; rfl) (by decide) ?_
        obtain ⟨r, μ1, S2, e1, e2, hI2⟩ := o_word μ (xs (x3 + 1).toNatClampNeg) (xs (x3 + 2).toNatClampNeg) hInv
        refine lv_aload_n hx hb dL_law_425 rfl (lv_at hl 1 rfl) ?_
        refine lv_aload_n hx hb dL_law_426 rfl (lv_at hl 0 rfl) ?_
        refine lv_iload_n hx hb dL_law_427 rfl (lv_at hl 3 rfl) ?_
        refine lv_iconst (v := 1) hx hb dL_law_428 (by decide) ?_
        refine lv_iadd hx hb dL_law_429 ?_
        refine va_sld hx hb hX hbl hbA hS (zl_in hL hlt (k := 1) (by decide) ex3 rfl) dL_law_430 ?_
        refine lv_aload_n hx hb dL_law_431 rfl (lv_at hl 0 rfl) ?_
        refine lv_iload_n hx hb dL_law_432 rfl (lv_at hl 3 rfl) ?_
        refine lv_iconst (v := 2) hx hb dL_law_433 (by decide) ?_
        refine lv_iadd hx hb dL_law_434 ?_
        refine va_sld hx hb hX hbl hbA hS (zl_in hL hlt (k := 2) (by decide) ex3 rfl) dL_law_435 ?_
        refine zlVi (As := [.int (xs (x3 + 1).toNatClampNeg), .int (xs (x3 + 2).toNatClampNeg)]) (rest := []) lx hP hS (c_RS_word N e1) mt_yX7_word mv_yX7_word w_558 (by decide) (k7_0 rfl) (zv7 rfl) rfl hl.1 rfl (Nat.le_of_ble_eq_true rfl) ⟨hkc, hks⟩ dL_law_436 (fun H locs hP hS => ?_)
        refine lv_aload_n hx hb dL_law_439 rfl (lv_at hl 2 rfl) ?_
        refine lv_aload_n hx hb dL_law_440 rfl (lv_at hl 0 rfl) ?_
        refine lv_iload_n hx hb dL_law_441 rfl (lv_at hl 3 rfl) ?_
        refine lv_iconst (v := 1) hx hb dL_law_442 (by decide) ?_
        refine lv_iadd hx hb dL_law_443 ?_
        refine va_sld hx hb hX hbl hbA hS (zl_in hL hlt (k := 1) (by decide) ex3 rfl) dL_law_444 ?_
        refine lv_aload_n hx hb dL_law_445 rfl (lv_at hl 0 rfl) ?_
        refine lv_iload_n hx hb dL_law_446 rfl (lv_at hl 3 rfl) ?_
        refine lv_iconst (v := 2) hx hb dL_law_447 (by decide) ?_
        refine lv_iadd hx hb dL_law_448 ?_
        refine va_sld hx hb hX hbl hbA hS (zl_in hL hlt (k := 2) (by decide) ex3 rfl) dL_law_449 ?_
        refine zlVi (o := 29) (As := [.int (xs (x3 + 1).toNatClampNeg), .int (xs (x3 + 2).toNatClampNeg)]) (rest := [.int r]) lx hP hS (c_Mo_word N (o := 29) rfl rfl  e2 rfl) mt_yX8_word mv_yX8_word w_576 (by decide) (k8_0 rfl) (zv8 rfl) rfl hl.1 rfl (Nat.le_of_ble_eq_true rfl) ⟨hkc, hks⟩ dL_law_450 (fun H locs hP hS => ?_)
        refine lv_icmp_eq (tgt := 1068) hx hb dL_law_453 (by decide) (fun _ => ?_) (fun q => absurd rfl q)
        exact tail _ hI2 H locs hP hS
      by_cases k10 : w = 10
      · refine lv_tableIn (off := 425) (tgt := 458) hx hb dL_law_33 (by rw [k10]; decide) (by rw [k10]; decide) (by rw [k10]; rfl) (by decide) ?_
        obtain ⟨r, e1, e2, hI2⟩ := o_told μ (xs (x3 + 1).toNatClampNeg) (xs (x3 + 2).toNatClampNeg) hInv
        refine lv_aload_n hx hb dL_law_458 rfl (lv_at hl 1 rfl) ?_
        refine lv_aload_n hx hb dL_law_459 rfl (lv_at hl 0 rfl) ?_
        refine lv_iload_n hx hb dL_law_460 rfl (lv_at hl 3 rfl) ?_
        refine lv_iconst (v := 1) hx hb dL_law_461 (by decide) ?_
        refine lv_iadd hx hb dL_law_462 ?_
        refine va_sld hx hb hX hbl hbA hS (zl_in hL hlt (k := 1) (by decide) ex3 rfl) dL_law_463 ?_
        refine lv_aload_n hx hb dL_law_464 rfl (lv_at hl 0 rfl) ?_
        refine lv_iload_n hx hb dL_law_465 rfl (lv_at hl 3 rfl) ?_
        refine lv_iconst (v := 2) hx hb dL_law_466 (by decide) ?_
        refine lv_iadd hx hb dL_law_467 ?_
        refine va_sld hx hb hX hbl hbA hS (zl_in hL hlt (k := 2) (by decide) ex3 rfl) dL_law_468 ?_
        refine zlVi (As := [.int (xs (x3 + 1).toNatClampNeg), .int (xs (x3 + 2).toNatClampNeg)]) (rest := []) lx hP hS (c_RS_told N e1) mt_yX7_told mv_yX7_told w_581 (by decide) (k7_0 rfl) (zv7 rfl) rfl hl.1 rfl (Nat.le_of_ble_eq_true rfl) ⟨hkc, hks⟩ dL_law_469 (fun H locs hP hS => ?_)
        refine lv_aload_n hx hb dL_law_472 rfl (lv_at hl 2 rfl) ?_
        refine lv_aload_n hx hb dL_law_473 rfl (lv_at hl 0 rfl) ?_
        refine lv_iload_n hx hb dL_law_474 rfl (lv_at hl 3 rfl) ?_
        refine lv_iconst (v := 1) hx hb dL_law_475 (by decide) ?_
        refine lv_iadd hx hb dL_law_476 ?_
        refine va_sld hx hb hX hbl hbA hS (zl_in hL hlt (k := 1) (by decide) ex3 rfl) dL_law_477 ?_
        refine lv_aload_n hx hb dL_law_478 rfl (lv_at hl 0 rfl) ?_
        refine lv_iload_n hx hb dL_law_479 rfl (lv_at hl 3 rfl) ?_
        refine lv_iconst (v := 2) hx hb dL_law_480 (by decide) ?_
        refine lv_iadd hx hb dL_law_481 ?_
        refine va_sld hx hb hX hbl hbA hS (zl_in hL hlt (k := 2) (by decide) ex3 rfl) dL_law_482 ?_
        refine zlVi (o := 29) (As := [.int (xs (x3 + 1).toNatClampNeg), .int (xs (x3 + 2).toNatClampNeg)]) (rest := [.int r]) lx hP hS (c_Mo_told N (o := 29) rfl rfl  e2) mt_yX8_told mv_yX8_told w_588 (by decide) (k8_0 rfl) (zv8 rfl) rfl hl.1 rfl (Nat.le_of_ble_eq_true rfl) ⟨hkc, hks⟩ dL_law_483 (fun H locs hP hS => ?_)
        refine lv_icmp_eq (tgt := 1068) hx hb dL_law_486 (by decide) (fun _ => ?_) (fun q => absurd rfl q)
        exact tail _ hI2 H locs hP hS
      by_cases k11 : w = 11
      · refine lv_tableIn (off := 458) (tgt := 491) hx hb dL_law_33 (by rw [k11]; decide) (by rw [k11]; decide) (by rw [k11]; rfl) (by decide) ?_
        obtain ⟨r, μ1, S2, e1, e2, hI2⟩ := o_count μ (xs (x3 + 1).toNatClampNeg) hInv
        refine lv_aload_n hx hb dL_law_491 rfl (lv_at hl 1 rfl) ?_
        refine lv_aload_n hx hb dL_law_492 rfl (lv_at hl 0 rfl) ?_
        refine lv_iload_n hx hb dL_law_493 rfl (lv_at hl 3 rfl) ?_
        refine lv_iconst (v := 1) hx hb dL_law_494 (by decide) ?_
        refine lv_iadd hx hb dL_law_495 ?_
        refine va_sld hx hb hX hbl hbA hS (zl_in hL hlt (k := 1) (by decide) ex3 rfl) dL_law_496 ?_
        refine zlVi (As := [.int (xs (x3 + 1).toNatClampNeg)]) (rest := []) lx hP hS (c_RS_count N e1) mt_yX7_count mv_yX7_count w_592 (by decide) (k7_0 rfl) (zv7 rfl) rfl hl.1 rfl (Nat.le_of_ble_eq_true rfl) ⟨hkc, hks⟩ dL_law_497 (fun H locs hP hS => ?_)
        refine lv_aload_n hx hb dL_law_500 rfl (lv_at hl 2 rfl) ?_
        refine lv_aload_n hx hb dL_law_501 rfl (lv_at hl 0 rfl) ?_
        refine lv_iload_n hx hb dL_law_502 rfl (lv_at hl 3 rfl) ?_
        refine lv_iconst (v := 1) hx hb dL_law_503 (by decide) ?_
        refine lv_iadd hx hb dL_law_504 ?_
        refine va_sld hx hb hX hbl hbA hS (zl_in hL hlt (k := 1) (by decide) ex3 rfl) dL_law_505 ?_
        refine zlVi (o := 29) (As := [.int (xs (x3 + 1).toNatClampNeg)]) (rest := [.int r]) lx hP hS (c_Mo_count N (o := 29) rfl rfl  e2 rfl) mt_yX8_count mv_yX8_count w_613 (by decide) (k8_0 rfl) (zv8 rfl) rfl hl.1 rfl (Nat.le_of_ble_eq_true rfl) ⟨hkc, hks⟩ dL_law_506 (fun H locs hP hS => ?_)
        refine lv_icmp_eq (tgt := 1068) hx hb dL_law_509 (by decide) (fun _ => ?_) (fun q => absurd rfl q)
        exact tail _ hI2 H locs hP hS
      by_cases k12 : w = 12
      · refine lv_tableIn (off := 481) (tgt := 514) hx hb dL_law_33 (by rw [k12]; decide) (by rw [k12]; decide) (by rw [k12]; rfl) (by decide) ?_
        obtain ⟨r, μ1, S2, e1, e2, hI2⟩ := o_best μ (xs (x3 + 1).toNatClampNeg) hInv
        refine lv_aload_n hx hb dL_law_514 rfl (lv_at hl 1 rfl) ?_
        refine lv_aload_n hx hb dL_law_515 rfl (lv_at hl 0 rfl) ?_
        refine lv_iload_n hx hb dL_law_516 rfl (lv_at hl 3 rfl) ?_
        refine lv_iconst (v := 1) hx hb dL_law_517 (by decide) ?_
        refine lv_iadd hx hb dL_law_518 ?_
        refine va_sld hx hb hX hbl hbA hS (zl_in hL hlt (k := 1) (by decide) ex3 rfl) dL_law_519 ?_
        refine zlVi (As := [.int (xs (x3 + 1).toNatClampNeg)]) (rest := []) lx hP hS (c_RS_best N e1) mt_yX7_best mv_yX7_best w_617 (by decide) (k7_0 rfl) (zv7 rfl) rfl hl.1 rfl (Nat.le_of_ble_eq_true rfl) ⟨hkc, hks⟩ dL_law_520 (fun H locs hP hS => ?_)
        refine lv_aload_n hx hb dL_law_523 rfl (lv_at hl 2 rfl) ?_
        refine lv_aload_n hx hb dL_law_524 rfl (lv_at hl 0 rfl) ?_
        refine lv_iload_n hx hb dL_law_525 rfl (lv_at hl 3 rfl) ?_
        refine lv_iconst (v := 1) hx hb dL_law_526 (by decide) ?_
        refine lv_iadd hx hb dL_law_527 ?_
        refine va_sld hx hb hX hbl hbA hS (zl_in hL hlt (k := 1) (by decide) ex3 rfl) dL_law_528 ?_
        refine zlVi (o := 29) (As := [.int (xs (x3 + 1).toNatClampNeg)]) (rest := [.int r]) lx hP hS (c_Mo_best N (o := 29) rfl rfl  e2 rfl) mt_yX8_best mv_yX8_best w_623 (by decide) (k8_0 rfl) (zv8 rfl) rfl hl.1 rfl (Nat.le_of_ble_eq_true rfl) ⟨hkc, hks⟩ dL_law_529 (fun H locs hP hS => ?_)
        refine lv_icmp_eq (tgt := 1068) hx hb dL_law_532 (by decide) (fun _ => ?_) (fun q => absurd rfl q)
        exact tail _ hI2 H locs hP hS
      by_cases k13 : w = 13
      · refine lv_tableIn (off := 504) (tgt := 537) hx hb dL_law_33 (by rw [k13]; decide) (by rw [k13]; decide) (by rw [k13]; rfl) (by decide) ?_
        obtain ⟨r, μ1, S2, e1, e2, hI2⟩ := o_many μ (xs (x3 + 1).toNatClampNeg) hInv
        refine lv_aload_n hx hb dL_law_537 rfl (lv_at hl 1 rfl) ?_
        refine lv_aload_n hx hb dL_law_538 rfl (lv_at hl 0 rfl) ?_
        refine lv_iload_n hx hb dL_law_539 rfl (lv_at hl 3 rfl) ?_
        refine lv_iconst (v := 1) hx hb dL_law_540 (by decide) ?_
        refine lv_iadd hx hb dL_law_541 ?_
        refine va_sld hx hb hX hbl hbA hS (zl_in hL hlt (k := 1) (by decide) ex3 rfl) dL_law_542 ?_
        refine zlVi (As := [.int (xs (x3 + 1).toNatClampNeg)]) (rest := []) lx hP hS (c_RS_many N e1) mt_yX7_many mv_yX7_many w_628 (by decide) (k7_0 rfl) (zv7 rfl) rfl hl.1 rfl (Nat.le_of_ble_eq_true rfl) ⟨hkc, hks⟩ dL_law_543 (fun H locs hP hS => ?_)
        refine lv_aload_n hx hb dL_law_546 rfl (lv_at hl 2 rfl) ?_
        refine lv_aload_n hx hb dL_law_547 rfl (lv_at hl 0 rfl) ?_
        refine lv_iload_n hx hb dL_law_548 rfl (lv_at hl 3 rfl) ?_
        refine lv_iconst (v := 1) hx hb dL_law_549 (by decide) ?_
        refine lv_iadd hx hb dL_law_550 ?_
        refine va_sld hx hb hX hbl hbA hS (zl_in hL hlt (k := 1) (by decide) ex3 rfl) dL_law_551 ?_
        refine zlVi (o := 29) (As := [.int (xs (x3 + 1).toNatClampNeg)]) (rest := [.int r]) lx hP hS (c_Mo_many N (o := 29) rfl rfl  e2 rfl) mt_yX8_many mv_yX8_many w_635 (by decide) (k8_0 rfl) (zv8 rfl) rfl hl.1 rfl (Nat.le_of_ble_eq_true rfl) ⟨hkc, hks⟩ dL_law_552 (fun H locs hP hS => ?_)
        refine lv_icmp_eq (tgt := 1068) hx hb dL_law_555 (by decide) (fun _ => ?_) (fun q => absurd rfl q)
        exact tail _ hI2 H locs hP hS
      by_cases k14 : w = 14
      · refine lv_tableIn (off := 527) (tgt := 560) hx hb dL_law_33 (by rw [k14]; decide) (by rw [k14]; decide) (by rw [k14]; rfl) (by decide) ?_
        obtain ⟨r, μ1, S2, e1, e2, hI2⟩ := o_fit μ (xs (x3 + 1).toNatClampNeg) hInv
        refine lv_aload_n hx hb dL_law_560 rfl (lv_at hl 1 rfl) ?_
        refine lv_aload_n hx hb dL_law_561 rfl (lv_at hl 0 rfl) ?_
        refine lv_iload_n hx hb dL_law_562 rfl (lv_at hl 3 rfl) ?_
        refine lv_iconst (v := 1) hx hb dL_law_563 (by decide) ?_
        refine lv_iadd hx hb dL_law_564 ?_
        refine va_sld hx hb hX hbl hbA hS (zl_in hL hlt (k := 1) (by decide) ex3 rfl) dL_law_565 ?_
        refine zlVi (As := [.int (xs (x3 + 1).toNatClampNeg)]) (rest := []) lx hP hS (c_RS_fit N e1) mt_yX7_fit mv_yX7_fit w_639 (by decide) (k7_0 rfl) (zv7 rfl) rfl hl.1 rfl (Nat.le_of_ble_eq_true rfl) ⟨hkc, hks⟩ dL_law_566 (fun H locs hP hS => ?_)
        refine lv_aload_n hx hb dL_law_569 rfl (lv_at hl 2 rfl) ?_
        refine lv_aload_n hx hb dL_law_570 rfl (lv_at hl 0 rfl) ?_
        refine lv_iload_n hx hb dL_law_571 rfl (lv_at hl 3 rfl) ?_
        refine lv_iconst (v := 1) hx hb dL_law_572 (by decide) ?_
        refine lv_iadd hx hb dL_law_573 ?_
        refine va_sld hx hb hX hbl hbA hS (zl_in hL hlt (k := 1) (by decide) ex3 rfl) dL_law_574 ?_
        refine zlVi (o := 29) (As := [.int (xs (x3 + 1).toNatClampNeg)]) (rest := [.int r]) lx hP hS (c_Mo_fit N (o := 29) rfl rfl  e2 rfl) mt_yX8_fit mv_yX8_fit w_644 (by decide) (k8_0 rfl) (zv8 rfl) rfl hl.1 rfl (Nat.le_of_ble_eq_true rfl) ⟨hkc, hks⟩ dL_law_575 (fun H locs hP hS => ?_)
        refine lv_icmp_eq (tgt := 1068) hx hb dL_law_578 (by decide) (fun _ => ?_) (fun q => absurd rfl q)
        exact tail _ hI2 H locs hP hS
      by_cases k15 : w = 15
      · refine lv_tableIn (off := 550) (tgt := 583) hx hb dL_law_33 (by rw [k15]; decide) (by rw [k15]; decide) (by rw [k15]; rfl) (by decide) ?_
        obtain ⟨r, μ1, S2, e1, e2, hI2⟩ := o_kept μ (xs (x3 + 1).toNatClampNeg) (xs (x3 + 2).toNatClampNeg) (xs (x3 + 3).toNatClampNeg) hInv
        refine lv_aload_n hx hb dL_law_583 rfl (lv_at hl 1 rfl) ?_
        refine lv_aload_n hx hb dL_law_584 rfl (lv_at hl 0 rfl) ?_
        refine lv_iload_n hx hb dL_law_585 rfl (lv_at hl 3 rfl) ?_
        refine lv_iconst (v := 1) hx hb dL_law_586 (by decide) ?_
        refine lv_iadd hx hb dL_law_587 ?_
        refine va_sld hx hb hX hbl hbA hS (zl_in hL hlt (k := 1) (by decide) ex3 rfl) dL_law_588 ?_
        refine lv_aload_n hx hb dL_law_589 rfl (lv_at hl 0 rfl) ?_
        refine lv_iload_n hx hb dL_law_590 rfl (lv_at hl 3 rfl) ?_
        refine lv_iconst (v := 2) hx hb dL_law_591 (by decide) ?_
        refine lv_iadd hx hb dL_law_592 ?_
        refine va_sld hx hb hX hbl hbA hS (zl_in hL hlt (k := 2) (by decide) ex3 rfl) dL_law_593 ?_
        refine lv_aload_n hx hb dL_law_594 rfl (lv_at hl 0 rfl) ?_
        refine lv_iload_n hx hb dL_law_595 rfl (lv_at hl 3 rfl) ?_
        refine lv_iconst (v := 3) hx hb dL_law_596 (by decide) ?_
        refine lv_iadd hx hb dL_law_597 ?_
        refine va_sld hx hb hX hbl hbA hS (zl_in hL hlt (k := 3) (by decide) ex3 rfl) dL_law_598 ?_
        refine zlVi (As := [.int (xs (x3 + 1).toNatClampNeg), .int (xs (x3 + 2).toNatClampNeg), .int (xs (x3 + 3).toNatClampNeg)]) (rest := []) lx hP hS (c_RS_kept N e1) mt_yX7_kept mv_yX7_kept w_648 (by decide) (k7_0 rfl) (zv7 rfl) rfl hl.1 rfl (Nat.le_of_ble_eq_true rfl) ⟨hkc, hks⟩ dL_law_599 (fun H locs hP hS => ?_)
        refine lv_aload_n hx hb dL_law_602 rfl (lv_at hl 2 rfl) ?_
        refine lv_aload_n hx hb dL_law_603 rfl (lv_at hl 0 rfl) ?_
        refine lv_iload_n hx hb dL_law_604 rfl (lv_at hl 3 rfl) ?_
        refine lv_iconst (v := 1) hx hb dL_law_605 (by decide) ?_
        refine lv_iadd hx hb dL_law_606 ?_
        refine va_sld hx hb hX hbl hbA hS (zl_in hL hlt (k := 1) (by decide) ex3 rfl) dL_law_607 ?_
        refine lv_aload_n hx hb dL_law_608 rfl (lv_at hl 0 rfl) ?_
        refine lv_iload_n hx hb dL_law_609 rfl (lv_at hl 3 rfl) ?_
        refine lv_iconst (v := 2) hx hb dL_law_610 (by decide) ?_
        refine lv_iadd hx hb dL_law_611 ?_
        refine va_sld hx hb hX hbl hbA hS (zl_in hL hlt (k := 2) (by decide) ex3 rfl) dL_law_612 ?_
        refine lv_aload_n hx hb dL_law_613 rfl (lv_at hl 0 rfl) ?_
        refine lv_iload_n hx hb dL_law_614 rfl (lv_at hl 3 rfl) ?_
        refine lv_iconst (v := 3) hx hb dL_law_615 (by decide) ?_
        refine lv_iadd hx hb dL_law_616 ?_
        refine va_sld hx hb hX hbl hbA hS (zl_in hL hlt (k := 3) (by decide) ex3 rfl) dL_law_617 ?_
        refine zlVi (o := 29) (As := [.int (xs (x3 + 1).toNatClampNeg), .int (xs (x3 + 2).toNatClampNeg), .int (xs (x3 + 3).toNatClampNeg)]) (rest := [.int r]) lx hP hS (c_Mo_kept N (o := 29) rfl rfl  e2 rfl) mt_yX8_kept mv_yX8_kept w_672 (by decide) (k8_0 rfl) (zv8 rfl) rfl hl.1 rfl (Nat.le_of_ble_eq_true rfl) ⟨hkc, hks⟩ dL_law_618 (fun H locs hP hS => ?_)
        refine lv_icmp_eq (tgt := 1068) hx hb dL_law_621 (by decide) (fun _ => ?_) (fun q => absurd rfl q)
        exact tail _ hI2 H locs hP hS
      by_cases k16 : w = 16
      · refine lv_tableIn (off := 593) (tgt := 626) hx hb dL_law_33 (by rw [k16]; decide) (by rw [k16]; decide) (by rw [k16]; rfl) (by decide) ?_
        obtain ⟨r, μ1, S2, e1, e2, hI2⟩ := o_letter μ (xs (x3 + 1).toNatClampNeg) hInv
        refine lv_aload_n hx hb dL_law_626 rfl (lv_at hl 1 rfl) ?_
        refine lv_aload_n hx hb dL_law_627 rfl (lv_at hl 0 rfl) ?_
        refine lv_iload_n hx hb dL_law_628 rfl (lv_at hl 3 rfl) ?_
        refine lv_iconst (v := 1) hx hb dL_law_629 (by decide) ?_
        refine lv_iadd hx hb dL_law_630 ?_
        refine va_sld hx hb hX hbl hbA hS (zl_in hL hlt (k := 1) (by decide) ex3 rfl) dL_law_631 ?_
        refine zlVi (As := [.int (xs (x3 + 1).toNatClampNeg)]) (rest := []) lx hP hS (c_RS_letter N e1) mt_yX7_letter mv_yX7_letter w_677 (by decide) (k7_0 rfl) (zv7 rfl) rfl hl.1 rfl (Nat.le_of_ble_eq_true rfl) ⟨hkc, hks⟩ dL_law_632 (fun H locs hP hS => ?_)
        refine lv_aload_n hx hb dL_law_635 rfl (lv_at hl 2 rfl) ?_
        refine lv_aload_n hx hb dL_law_636 rfl (lv_at hl 0 rfl) ?_
        refine lv_iload_n hx hb dL_law_637 rfl (lv_at hl 3 rfl) ?_
        refine lv_iconst (v := 1) hx hb dL_law_638 (by decide) ?_
        refine lv_iadd hx hb dL_law_639 ?_
        refine va_sld hx hb hX hbl hbA hS (zl_in hL hlt (k := 1) (by decide) ex3 rfl) dL_law_640 ?_
        refine zlVi (o := 29) (As := [.int (xs (x3 + 1).toNatClampNeg)]) (rest := [.int r]) lx hP hS (c_Mo_letter N (o := 29) rfl rfl  e2 rfl) mt_yX8_letter mv_yX8_letter w_749 (by decide) (k8_0 rfl) (zv8 rfl) rfl hl.1 rfl (Nat.le_of_ble_eq_true rfl) ⟨hkc, hks⟩ dL_law_641 (fun H locs hP hS => ?_)
        refine lv_icmp_eq (tgt := 1068) hx hb dL_law_644 (by decide) (fun _ => ?_) (fun q => absurd rfl q)
        exact tail _ hI2 H locs hP hS
      by_cases k17 : w = 17
      · refine lv_tableIn (off := 616) (tgt := 649) hx hb dL_law_33 (by rw [k17]; decide) (by rw [k17]; decide) (by rw [k17]; rfl) (by decide) ?_
        obtain ⟨r, μ1, S2, e1, e2, hI2⟩ := o_type μ (xs (x3 + 1).toNatClampNeg) hInv
        refine lv_aload_n hx hb dL_law_649 rfl (lv_at hl 1 rfl) ?_
        refine lv_aload_n hx hb dL_law_650 rfl (lv_at hl 0 rfl) ?_
        refine lv_iload_n hx hb dL_law_651 rfl (lv_at hl 3 rfl) ?_
        refine lv_iconst (v := 1) hx hb dL_law_652 (by decide) ?_
        refine lv_iadd hx hb dL_law_653 ?_
        refine va_sld hx hb hX hbl hbA hS (zl_in hL hlt (k := 1) (by decide) ex3 rfl) dL_law_654 ?_
        refine zlVi (As := [.int (xs (x3 + 1).toNatClampNeg)]) (rest := []) lx hP hS (c_RS_type  e1) mt_yX7_type mv_yX7_type w_766 (by decide) (k7_0 rfl) (zv7 rfl) rfl hl.1 rfl (Nat.le_of_ble_eq_true rfl) ⟨hkc, hks⟩ dL_law_655 (fun H locs hP hS => ?_)
        refine lv_aload_n hx hb dL_law_658 rfl (lv_at hl 2 rfl) ?_
        refine lv_aload_n hx hb dL_law_659 rfl (lv_at hl 0 rfl) ?_
        refine lv_iload_n hx hb dL_law_660 rfl (lv_at hl 3 rfl) ?_
        refine lv_iconst (v := 1) hx hb dL_law_661 (by decide) ?_
        refine lv_iadd hx hb dL_law_662 ?_
        refine va_sld hx hb hX hbl hbA hS (zl_in hL hlt (k := 1) (by decide) ex3 rfl) dL_law_663 ?_
        refine zlVi (o := 29) (As := [.int (xs (x3 + 1).toNatClampNeg)]) (rest := [.int r]) lx hP hS (c_Mo_type (o := 29) rfl rfl  e2 rfl) mt_yX8_type mv_yX8_type w_771 (by decide) (k8_0 rfl) (zv8 rfl) rfl hl.1 rfl (Nat.le_of_ble_eq_true rfl) ⟨hkc, hks⟩ dL_law_664 (fun H locs hP hS => ?_)
        refine lv_icmp_eq (tgt := 1068) hx hb dL_law_667 (by decide) (fun _ => ?_) (fun q => absurd rfl q)
        exact tail _ hI2 H locs hP hS
      by_cases k18 : w = 18
      · refine lv_tableIn (off := 639) (tgt := 672) hx hb dL_law_33 (by rw [k18]; decide) (by rw [k18]; decide) (by rw [k18]; rfl) (by decide) ?_
        obtain ⟨r, μ1, S2, e1, e2, hI2⟩ := o_read μ  hInv
        refine lv_aload_n hx hb dL_law_672 rfl (lv_at hl 1 rfl) ?_
        refine zlVi (As := []) (rest := []) lx hP hS (c_RS_read N e1) mt_yX7_read mv_yX7_read w_778 (by decide) (k7_0 rfl) (zv7 rfl) rfl hl.1 rfl (Nat.le_of_ble_eq_true rfl) ⟨hkc, hks⟩ dL_law_673 (fun H locs hP hS => ?_)
        refine lv_aload_n hx hb dL_law_676 rfl (lv_at hl 2 rfl) ?_
        refine zlVi (o := 29) (As := []) (rest := [.int r]) lx hP hS (c_Mo_read N (o := 29) rfl rfl  e2 rfl) mt_yX8_read mv_yX8_read w_848 (by decide) (k8_0 rfl) (zv8 rfl) rfl hl.1 rfl (Nat.le_of_ble_eq_true rfl) ⟨hkc, hks⟩ dL_law_677 (fun H locs hP hS => ?_)
        refine lv_icmp_eq (tgt := 1068) hx hb dL_law_680 (by decide) (fun _ => ?_) (fun q => absurd rfl q)
        exact tail _ hI2 H locs hP hS
      by_cases k19 : w = 19
      · refine lv_tableIn (off := 652) (tgt := 685) hx hb dL_law_33 (by rw [k19]; decide) (by rw [k19]; decide) (by rw [k19]; rfl) (by decide) ?_
        obtain ⟨r, μ1, S2, e1, e2, hI2⟩ := o_drift μ (xs (x3 + 1).toNatClampNeg) hInv
        refine lv_aload_n hx hb dL_law_685 rfl (lv_at hl 1 rfl) ?_
        refine lv_aload_n hx hb dL_law_686 rfl (lv_at hl 0 rfl) ?_
        refine lv_iload_n hx hb dL_law_687 rfl (lv_at hl 3 rfl) ?_
        refine lv_iconst (v := 1) hx hb dL_law_688 (by decide) ?_
        refine lv_iadd hx hb dL_law_689 ?_
        refine va_sld hx hb hX hbl hbA hS (zl_in hL hlt (k := 1) (by decide) ex3 rfl) dL_law_690 ?_
        refine zlVi (As := [.int (xs (x3 + 1).toNatClampNeg)]) (rest := []) lx hP hS (c_RS_drift N e1) mt_yX7_drift mv_yX7_drift w_895 (by decide) (k7_0 rfl) (zv7 rfl) rfl hl.1 rfl (Nat.le_of_ble_eq_true rfl) ⟨hkc, hks⟩ dL_law_691 (fun H locs hP hS => ?_)
        refine lv_aload_n hx hb dL_law_694 rfl (lv_at hl 2 rfl) ?_
        refine lv_aload_n hx hb dL_law_695 rfl (lv_at hl 0 rfl) ?_
        refine lv_iload_n hx hb dL_law_696 rfl (lv_at hl 3 rfl) ?_
        refine lv_iconst (v := 1) hx hb dL_law_697 (by decide) ?_
        refine lv_iadd hx hb dL_law_698 ?_
        refine va_sld hx hb hX hbl hbA hS (zl_in hL hlt (k := 1) (by decide) ex3 rfl) dL_law_699 ?_
        refine zlVi (o := 29) (As := [.int (xs (x3 + 1).toNatClampNeg)]) (rest := [.int r]) lx hP hS (c_Mo_drift N (o := 29) rfl rfl  e2 rfl) mt_yX8_drift mv_yX8_drift w_912 (by decide) (k8_0 rfl) (zv8 rfl) rfl hl.1 rfl (Nat.le_of_ble_eq_true rfl) ⟨hkc, hks⟩ dL_law_700 (fun H locs hP hS => ?_)
        refine lv_icmp_eq (tgt := 1068) hx hb dL_law_703 (by decide) (fun _ => ?_) (fun q => absurd rfl q)
        exact tail _ hI2 H locs hP hS
      by_cases k20 : w = 20
      · refine lv_tableIn (off := 675) (tgt := 708) hx hb dL_law_33 (by rw [k20]; decide) (by rw [k20]; decide) (by rw [k20]; rfl) (by decide) ?_
        obtain ⟨r, μ1, S2, e1, e2, hI2⟩ := o_undo μ  hInv
        refine lv_aload_n hx hb dL_law_708 rfl (lv_at hl 1 rfl) ?_
        refine zlVi (As := []) (rest := []) lx hP hS (c_RS_undo  e1) mt_yX7_undo mv_yX7_undo w_931 (by decide) (k7_0 rfl) (zv7 rfl) rfl hl.1 rfl (Nat.le_of_ble_eq_true rfl) ⟨hkc, hks⟩ dL_law_709 (fun H locs hP hS => ?_)
        refine lv_aload_n hx hb dL_law_712 rfl (lv_at hl 2 rfl) ?_
        refine zlVi (o := 29) (As := []) (rest := [.int r]) lx hP hS (c_Mo_undo N (o := 29) rfl rfl  e2 rfl) mt_yX8_undo mv_yX8_undo w_939 (by decide) (k8_0 rfl) (zv8 rfl) rfl hl.1 rfl (Nat.le_of_ble_eq_true rfl) ⟨hkc, hks⟩ dL_law_713 (fun H locs hP hS => ?_)
        refine lv_icmp_eq (tgt := 1068) hx hb dL_law_716 (by decide) (fun _ => ?_) (fun q => absurd rfl q)
        exact tail _ hI2 H locs hP hS
      by_cases k21 : w = 21
      · refine lv_tableIn (off := 688) (tgt := 721) hx hb dL_law_33 (by rw [k21]; decide) (by rw [k21]; decide) (by rw [k21]; rfl) (by decide) ?_
        obtain ⟨r, μ1, S2, e1, e2, hI2⟩ := o_seed μ (xs (x3 + 1).toNatClampNeg) hInv
        refine lv_aload_n hx hb dL_law_721 rfl (lv_at hl 1 rfl) ?_
        refine lv_aload_n hx hb dL_law_722 rfl (lv_at hl 0 rfl) ?_
        refine lv_iload_n hx hb dL_law_723 rfl (lv_at hl 3 rfl) ?_
        refine lv_iconst (v := 1) hx hb dL_law_724 (by decide) ?_
        refine lv_iadd hx hb dL_law_725 ?_
        refine va_sld hx hb hX hbl hbA hS (zl_in hL hlt (k := 1) (by decide) ex3 rfl) dL_law_726 ?_
        refine zlVi (As := [.int (xs (x3 + 1).toNatClampNeg)]) (rest := []) lx hP hS (c_RS_seed  e1) mt_yX7_seed mv_yX7_seed w_943 (by decide) (k7_0 rfl) (zv7 rfl) rfl hl.1 rfl (Nat.le_of_ble_eq_true rfl) ⟨hkc, hks⟩ dL_law_727 (fun H locs hP hS => ?_)
        refine lv_aload_n hx hb dL_law_730 rfl (lv_at hl 2 rfl) ?_
        refine lv_aload_n hx hb dL_law_731 rfl (lv_at hl 0 rfl) ?_
        refine lv_iload_n hx hb dL_law_732 rfl (lv_at hl 3 rfl) ?_
        refine lv_iconst (v := 1) hx hb dL_law_733 (by decide) ?_
        refine lv_iadd hx hb dL_law_734 ?_
        refine va_sld hx hb hX hbl hbA hS (zl_in hL hlt (k := 1) (by decide) ex3 rfl) dL_law_735 ?_
        refine zlVi (o := 29) (As := [.int (xs (x3 + 1).toNatClampNeg)]) (rest := [.int r]) lx hP hS (c_Mo_seed (o := 29) rfl rfl  e2 rfl) mt_yX8_seed mv_yX8_seed w_947 (by decide) (k8_0 rfl) (zv8 rfl) rfl hl.1 rfl (Nat.le_of_ble_eq_true rfl) ⟨hkc, hks⟩ dL_law_736 (fun H locs hP hS => ?_)
        refine lv_icmp_eq (tgt := 1068) hx hb dL_law_739 (by decide) (fun _ => ?_) (fun q => absurd rfl q)
        exact tail _ hI2 H locs hP hS
      by_cases k22 : w = 22
      · refine lv_tableIn (off := 711) (tgt := 744) hx hb dL_law_33 (by rw [k22]; decide) (by rw [k22]; decide) (by rw [k22]; rfl) (by decide) ?_
        obtain ⟨r, μ1, S2, e1, e2, hI2⟩ := o_image μ  hInv
        refine lv_aload_n hx hb dL_law_744 rfl (lv_at hl 1 rfl) ?_
        refine zlVi (As := []) (rest := []) lx hP hS (c_RS_image N e1) mt_yX7_image mv_yX7_image w_951 (by decide) (k7_0 rfl) (zv7 rfl) rfl hl.1 rfl (Nat.le_of_ble_eq_true rfl) ⟨hkc, hks⟩ dL_law_745 (fun H locs hP hS => ?_)
        refine lv_aload_n hx hb dL_law_748 rfl (lv_at hl 2 rfl) ?_
        refine zlVi (o := 29) (As := []) (rest := [.int r]) lx hP hS (c_Mo_image N (o := 29) rfl rfl  e2 rfl) mt_yX8_image mv_yX8_image w_960 (by decide) (k8_0 rfl) (zv8 rfl) rfl hl.1 rfl (Nat.le_of_ble_eq_true rfl) ⟨hkc, hks⟩ dL_law_749 (fun H locs hP hS => ?_)
        refine lv_icmp_eq (tgt := 1068) hx hb dL_law_752 (by decide) (fun _ => ?_) (fun q => absurd rfl q)
        exact tail _ hI2 H locs hP hS
      by_cases k23 : w = 23
      · refine lv_tableIn (off := 724) (tgt := 757) hx hb dL_law_33 (by rw [k23]; decide) (by rw [k23]; decide) (by rw [k23]; rfl) (by decide) ?_
        obtain ⟨r, μ1, S2, e1, e2, hI2⟩ := o_restore μ  hInv
        refine lv_aload_n hx hb dL_law_757 rfl (lv_at hl 1 rfl) ?_
        refine zlVi (As := []) (rest := []) lx hP hS (c_RS_restore N e1) mt_yX7_restore mv_yX7_restore w_964 (by decide) (k7_0 rfl) (zv7 rfl) rfl hl.1 rfl (Nat.le_of_ble_eq_true rfl) ⟨hkc, hks⟩ dL_law_758 (fun H locs hP hS => ?_)
        refine lv_aload_n hx hb dL_law_761 rfl (lv_at hl 2 rfl) ?_
        refine zlVi (o := 29) (As := []) (rest := [.int r]) lx hP hS (c_Mo_restore N (o := 29) rfl rfl  e2 rfl) mt_yX8_restore mv_yX8_restore w_968 (by decide) (k8_0 rfl) (zv8 rfl) rfl hl.1 rfl (Nat.le_of_ble_eq_true rfl) ⟨hkc, hks⟩ dL_law_762 (fun H locs hP hS => ?_)
        refine lv_icmp_eq (tgt := 1068) hx hb dL_law_765 (by decide) (fun _ => ?_) (fun q => absurd rfl q)
        exact tail _ hI2 H locs hP hS
      by_cases k24 : w = 24
      · refine lv_tableIn (off := 737) (tgt := 770) hx hb dL_law_33 (by rw [k24]; decide) (by rw [k24]; decide) (by rw [k24]; rfl) (by decide) ?_
        obtain ⟨r, μ1, S2, e1, e2, hI2⟩ := o_seen μ (xs (x3 + 1).toNatClampNeg) (xs (x3 + 2).toNatClampNeg) (xs (x3 + 3).toNatClampNeg) hInv
        refine lv_aload_n hx hb dL_law_770 rfl (lv_at hl 1 rfl) ?_
        refine lv_aload_n hx hb dL_law_771 rfl (lv_at hl 0 rfl) ?_
        refine lv_iload_n hx hb dL_law_772 rfl (lv_at hl 3 rfl) ?_
        refine lv_iconst (v := 1) hx hb dL_law_773 (by decide) ?_
        refine lv_iadd hx hb dL_law_774 ?_
        refine va_sld hx hb hX hbl hbA hS (zl_in hL hlt (k := 1) (by decide) ex3 rfl) dL_law_775 ?_
        refine lv_aload_n hx hb dL_law_776 rfl (lv_at hl 0 rfl) ?_
        refine lv_iload_n hx hb dL_law_777 rfl (lv_at hl 3 rfl) ?_
        refine lv_iconst (v := 2) hx hb dL_law_778 (by decide) ?_
        refine lv_iadd hx hb dL_law_779 ?_
        refine va_sld hx hb hX hbl hbA hS (zl_in hL hlt (k := 2) (by decide) ex3 rfl) dL_law_780 ?_
        refine lv_aload_n hx hb dL_law_781 rfl (lv_at hl 0 rfl) ?_
        refine lv_iload_n hx hb dL_law_782 rfl (lv_at hl 3 rfl) ?_
        refine lv_iconst (v := 3) hx hb dL_law_783 (by decide) ?_
        refine lv_iadd hx hb dL_law_784 ?_
        refine va_sld hx hb hX hbl hbA hS (zl_in hL hlt (k := 3) (by decide) ex3 rfl) dL_law_785 ?_
        refine zlVi (As := [.int (xs (x3 + 1).toNatClampNeg), .int (xs (x3 + 2).toNatClampNeg), .int (xs (x3 + 3).toNatClampNeg)]) (rest := []) lx hP hS (c_RS_seen N e1) mt_yX7_seen mv_yX7_seen w_972 (by decide) (k7_0 rfl) (zv7 rfl) rfl hl.1 rfl (Nat.le_of_ble_eq_true rfl) ⟨hkc, hks⟩ dL_law_786 (fun H locs hP hS => ?_)
        refine lv_aload_n hx hb dL_law_789 rfl (lv_at hl 2 rfl) ?_
        refine lv_aload_n hx hb dL_law_790 rfl (lv_at hl 0 rfl) ?_
        refine lv_iload_n hx hb dL_law_791 rfl (lv_at hl 3 rfl) ?_
        refine lv_iconst (v := 1) hx hb dL_law_792 (by decide) ?_
        refine lv_iadd hx hb dL_law_793 ?_
        refine va_sld hx hb hX hbl hbA hS (zl_in hL hlt (k := 1) (by decide) ex3 rfl) dL_law_794 ?_
        refine lv_aload_n hx hb dL_law_795 rfl (lv_at hl 0 rfl) ?_
        refine lv_iload_n hx hb dL_law_796 rfl (lv_at hl 3 rfl) ?_
        refine lv_iconst (v := 2) hx hb dL_law_797 (by decide) ?_
        refine lv_iadd hx hb dL_law_798 ?_
        refine va_sld hx hb hX hbl hbA hS (zl_in hL hlt (k := 2) (by decide) ex3 rfl) dL_law_799 ?_
        refine lv_aload_n hx hb dL_law_800 rfl (lv_at hl 0 rfl) ?_
        refine lv_iload_n hx hb dL_law_801 rfl (lv_at hl 3 rfl) ?_
        refine lv_iconst (v := 3) hx hb dL_law_802 (by decide) ?_
        refine lv_iadd hx hb dL_law_803 ?_
        refine va_sld hx hb hX hbl hbA hS (zl_in hL hlt (k := 3) (by decide) ex3 rfl) dL_law_804 ?_
        refine zlVi (o := 29) (As := [.int (xs (x3 + 1).toNatClampNeg), .int (xs (x3 + 2).toNatClampNeg), .int (xs (x3 + 3).toNatClampNeg)]) (rest := [.int r]) lx hP hS (c_Mo_seen N (o := 29) rfl rfl  e2 rfl) mt_yX8_seen mv_yX8_seen w_1002 (by decide) (k8_0 rfl) (zv8 rfl) rfl hl.1 rfl (Nat.le_of_ble_eq_true rfl) ⟨hkc, hks⟩ dL_law_805 (fun H locs hP hS => ?_)
        refine lv_icmp_eq (tgt := 1068) hx hb dL_law_808 (by decide) (fun _ => ?_) (fun q => absurd rfl q)
        exact tail _ hI2 H locs hP hS
      by_cases k25 : w = 25
      · refine lv_tableIn (off := 780) (tgt := 813) hx hb dL_law_33 (by rw [k25]; decide) (by rw [k25]; decide) (by rw [k25]; rfl) (by decide) ?_
        obtain ⟨r, μ1, S2, e1, e2, hI2⟩ := o_film μ (xs (x3 + 1).toNatClampNeg) (xs (x3 + 2).toNatClampNeg) (xs (x3 + 3).toNatClampNeg) hInv
        refine lv_aload_n hx hb dL_law_813 rfl (lv_at hl 1 rfl) ?_
        refine lv_aload_n hx hb dL_law_814 rfl (lv_at hl 0 rfl) ?_
        refine lv_iload_n hx hb dL_law_815 rfl (lv_at hl 3 rfl) ?_
        refine lv_iconst (v := 1) hx hb dL_law_816 (by decide) ?_
        refine lv_iadd hx hb dL_law_817 ?_
        refine va_sld hx hb hX hbl hbA hS (zl_in hL hlt (k := 1) (by decide) ex3 rfl) dL_law_818 ?_
        refine lv_aload_n hx hb dL_law_819 rfl (lv_at hl 0 rfl) ?_
        refine lv_iload_n hx hb dL_law_820 rfl (lv_at hl 3 rfl) ?_
        refine lv_iconst (v := 2) hx hb dL_law_821 (by decide) ?_
        refine lv_iadd hx hb dL_law_822 ?_
        refine va_sld hx hb hX hbl hbA hS (zl_in hL hlt (k := 2) (by decide) ex3 rfl) dL_law_823 ?_
        refine lv_aload_n hx hb dL_law_824 rfl (lv_at hl 0 rfl) ?_
        refine lv_iload_n hx hb dL_law_825 rfl (lv_at hl 3 rfl) ?_
        refine lv_iconst (v := 3) hx hb dL_law_826 (by decide) ?_
        refine lv_iadd hx hb dL_law_827 ?_
        refine va_sld hx hb hX hbl hbA hS (zl_in hL hlt (k := 3) (by decide) ex3 rfl) dL_law_828 ?_
        refine zlVi (As := [.int (xs (x3 + 1).toNatClampNeg), .int (xs (x3 + 2).toNatClampNeg), .int (xs (x3 + 3).toNatClampNeg)]) (rest := []) lx hP hS (c_RS_film N e1) mt_yX7_film mv_yX7_film w_1014 (by decide) (k7_0 rfl) (zv7 rfl) rfl hl.1 rfl (Nat.le_of_ble_eq_true rfl) ⟨hkc, hks⟩ dL_law_829 (fun H locs hP hS => ?_)
        refine lv_aload_n hx hb dL_law_832 rfl (lv_at hl 2 rfl) ?_
        refine lv_aload_n hx hb dL_law_833 rfl (lv_at hl 0 rfl) ?_
        refine lv_iload_n hx hb dL_law_834 rfl (lv_at hl 3 rfl) ?_
        refine lv_iconst (v := 1) hx hb dL_law_835 (by decide) ?_
        refine lv_iadd hx hb dL_law_836 ?_
        refine va_sld hx hb hX hbl hbA hS (zl_in hL hlt (k := 1) (by decide) ex3 rfl) dL_law_837 ?_
        refine lv_aload_n hx hb dL_law_838 rfl (lv_at hl 0 rfl) ?_
        refine lv_iload_n hx hb dL_law_839 rfl (lv_at hl 3 rfl) ?_
        refine lv_iconst (v := 2) hx hb dL_law_840 (by decide) ?_
        refine lv_iadd hx hb dL_law_841 ?_
        refine va_sld hx hb hX hbl hbA hS (zl_in hL hlt (k := 2) (by decide) ex3 rfl) dL_law_842 ?_
        refine lv_aload_n hx hb dL_law_843 rfl (lv_at hl 0 rfl) ?_
        refine lv_iload_n hx hb dL_law_844 rfl (lv_at hl 3 rfl) ?_
        refine lv_iconst (v := 3) hx hb dL_law_845 (by decide) ?_
        refine lv_iadd hx hb dL_law_846 ?_
        refine va_sld hx hb hX hbl hbA hS (zl_in hL hlt (k := 3) (by decide) ex3 rfl) dL_law_847 ?_
        refine zlVi (o := 29) (As := [.int (xs (x3 + 1).toNatClampNeg), .int (xs (x3 + 2).toNatClampNeg), .int (xs (x3 + 3).toNatClampNeg)]) (rest := [.int r]) lx hP hS (c_Mo_film N (o := 29) rfl rfl  e2 rfl) mt_yX8_film mv_yX8_film w_1026 (by decide) (k8_0 rfl) (zv8 rfl) rfl hl.1 rfl (Nat.le_of_ble_eq_true rfl) ⟨hkc, hks⟩ dL_law_848 (fun H locs hP hS => ?_)
        refine lv_icmp_eq (tgt := 1068) hx hb dL_law_851 (by decide) (fun _ => ?_) (fun q => absurd rfl q)
        exact tail _ hI2 H locs hP hS
      by_cases k26 : w = 26
      · refine lv_tableIn (off := 823) (tgt := 856) hx hb dL_law_33 (by rw [k26]; decide) (by rw [k26]; decide) (by rw [k26]; rfl) (by decide) ?_
        obtain ⟨r, μ1, S2, e1, e2, hI2⟩ := o_sheet μ (xs (x3 + 1).toNatClampNeg) (xs (x3 + 2).toNatClampNeg) (xs (x3 + 3).toNatClampNeg) hInv
        refine lv_aload_n hx hb dL_law_856 rfl (lv_at hl 1 rfl) ?_
        refine lv_aload_n hx hb dL_law_857 rfl (lv_at hl 0 rfl) ?_
        refine lv_iload_n hx hb dL_law_858 rfl (lv_at hl 3 rfl) ?_
        refine lv_iconst (v := 1) hx hb dL_law_859 (by decide) ?_
        refine lv_iadd hx hb dL_law_860 ?_
        refine va_sld hx hb hX hbl hbA hS (zl_in hL hlt (k := 1) (by decide) ex3 rfl) dL_law_861 ?_
        refine lv_aload_n hx hb dL_law_862 rfl (lv_at hl 0 rfl) ?_
        refine lv_iload_n hx hb dL_law_863 rfl (lv_at hl 3 rfl) ?_
        refine lv_iconst (v := 2) hx hb dL_law_864 (by decide) ?_
        refine lv_iadd hx hb dL_law_865 ?_
        refine va_sld hx hb hX hbl hbA hS (zl_in hL hlt (k := 2) (by decide) ex3 rfl) dL_law_866 ?_
        refine lv_aload_n hx hb dL_law_867 rfl (lv_at hl 0 rfl) ?_
        refine lv_iload_n hx hb dL_law_868 rfl (lv_at hl 3 rfl) ?_
        refine lv_iconst (v := 3) hx hb dL_law_869 (by decide) ?_
        refine lv_iadd hx hb dL_law_870 ?_
        refine va_sld hx hb hX hbl hbA hS (zl_in hL hlt (k := 3) (by decide) ex3 rfl) dL_law_871 ?_
        refine zlVi (As := [.int (xs (x3 + 1).toNatClampNeg), .int (xs (x3 + 2).toNatClampNeg), .int (xs (x3 + 3).toNatClampNeg)]) (rest := []) lx hP hS (c_RS_sheet N e1) mt_yX7_sheet mv_yX7_sheet w_1030 (by decide) (k7_0 rfl) (zv7 rfl) rfl hl.1 rfl (Nat.le_of_ble_eq_true rfl) ⟨hkc, hks⟩ dL_law_872 (fun H locs hP hS => ?_)
        refine lv_aload_n hx hb dL_law_875 rfl (lv_at hl 2 rfl) ?_
        refine lv_aload_n hx hb dL_law_876 rfl (lv_at hl 0 rfl) ?_
        refine lv_iload_n hx hb dL_law_877 rfl (lv_at hl 3 rfl) ?_
        refine lv_iconst (v := 1) hx hb dL_law_878 (by decide) ?_
        refine lv_iadd hx hb dL_law_879 ?_
        refine va_sld hx hb hX hbl hbA hS (zl_in hL hlt (k := 1) (by decide) ex3 rfl) dL_law_880 ?_
        refine lv_aload_n hx hb dL_law_881 rfl (lv_at hl 0 rfl) ?_
        refine lv_iload_n hx hb dL_law_882 rfl (lv_at hl 3 rfl) ?_
        refine lv_iconst (v := 2) hx hb dL_law_883 (by decide) ?_
        refine lv_iadd hx hb dL_law_884 ?_
        refine va_sld hx hb hX hbl hbA hS (zl_in hL hlt (k := 2) (by decide) ex3 rfl) dL_law_885 ?_
        refine lv_aload_n hx hb dL_law_886 rfl (lv_at hl 0 rfl) ?_
        refine lv_iload_n hx hb dL_law_887 rfl (lv_at hl 3 rfl) ?_
        refine lv_iconst (v := 3) hx hb dL_law_888 (by decide) ?_
        refine lv_iadd hx hb dL_law_889 ?_
        refine va_sld hx hb hX hbl hbA hS (zl_in hL hlt (k := 3) (by decide) ex3 rfl) dL_law_890 ?_
        refine zlVi (o := 29) (As := [.int (xs (x3 + 1).toNatClampNeg), .int (xs (x3 + 2).toNatClampNeg), .int (xs (x3 + 3).toNatClampNeg)]) (rest := [.int r]) lx hP hS (c_Mo_sheet N (o := 29) rfl rfl  e2 rfl) mt_yX8_sheet mv_yX8_sheet w_1038 (by decide) (k8_0 rfl) (zv8 rfl) rfl hl.1 rfl (Nat.le_of_ble_eq_true rfl) ⟨hkc, hks⟩ dL_law_891 (fun H locs hP hS => ?_)
        refine lv_icmp_eq (tgt := 1068) hx hb dL_law_894 (by decide) (fun _ => ?_) (fun q => absurd rfl q)
        exact tail _ hI2 H locs hP hS
      by_cases k27 : w = 27
      · refine lv_tableIn (off := 866) (tgt := 899) hx hb dL_law_33 (by rw [k27]; decide) (by rw [k27]; decide) (by rw [k27]; rfl) (by decide) ?_
        obtain ⟨r, μ1, S2, e1, e2, hI2⟩ := o_drop μ (xs (x3 + 1).toNatClampNeg) hInv
        refine lv_aload_n hx hb dL_law_899 rfl (lv_at hl 1 rfl) ?_
        refine lv_aload_n hx hb dL_law_900 rfl (lv_at hl 0 rfl) ?_
        refine lv_iload_n hx hb dL_law_901 rfl (lv_at hl 3 rfl) ?_
        refine lv_iconst (v := 1) hx hb dL_law_902 (by decide) ?_
        refine lv_iadd hx hb dL_law_903 ?_
        refine va_sld hx hb hX hbl hbA hS (zl_in hL hlt (k := 1) (by decide) ex3 rfl) dL_law_904 ?_
        refine zlVi (As := [.int (xs (x3 + 1).toNatClampNeg)]) (rest := []) lx hP hS (c_RS_drop N e1) mt_yX7_drop mv_yX7_drop w_1042 (by decide) (k7_0 rfl) (zv7 rfl) rfl hl.1 rfl (Nat.le_of_ble_eq_true rfl) ⟨hkc, hks⟩ dL_law_905 (fun H locs hP hS => ?_)
        refine lv_aload_n hx hb dL_law_908 rfl (lv_at hl 2 rfl) ?_
        refine lv_aload_n hx hb dL_law_909 rfl (lv_at hl 0 rfl) ?_
        refine lv_iload_n hx hb dL_law_910 rfl (lv_at hl 3 rfl) ?_
        refine lv_iconst (v := 1) hx hb dL_law_911 (by decide) ?_
        refine lv_iadd hx hb dL_law_912 ?_
        refine va_sld hx hb hX hbl hbA hS (zl_in hL hlt (k := 1) (by decide) ex3 rfl) dL_law_913 ?_
        refine zlVi (o := 29) (As := [.int (xs (x3 + 1).toNatClampNeg)]) (rest := [.int r]) lx hP hS (c_Mo_drop (o := 29) rfl rfl  e2 rfl) mt_yX8_drop mv_yX8_drop w_1047 (by decide) (k8_0 rfl) (zv8 rfl) rfl hl.1 rfl (Nat.le_of_ble_eq_true rfl) ⟨hkc, hks⟩ dL_law_914 (fun H locs hP hS => ?_)
        refine lv_icmp_eq (tgt := 1068) hx hb dL_law_917 (by decide) (fun _ => ?_) (fun q => absurd rfl q)
        exact tail _ hI2 H locs hP hS
      by_cases k28 : w = 28
      · refine lv_tableIn (off := 889) (tgt := 922) hx hb dL_law_33 (by rw [k28]; decide) (by rw [k28]; decide) (by rw [k28]; rfl) (by decide) ?_
        obtain ⟨r, μ1, S2, e1, e2, hI2⟩ := o_item μ (xs (x3 + 1).toNatClampNeg) (xs (x3 + 2).toNatClampNeg) (xs (x3 + 3).toNatClampNeg) (((((xs (x3 + 4).toNatClampNeg).toInt64) <<< ((32 : Int32).toInt64 &&& 63))) ||| ((((xs (x3 + 5).toNatClampNeg).toInt64) &&& ((4294967295 : Int64))))) hInv
        refine lv_aload_n hx hb dL_law_922 rfl (lv_at hl 1 rfl) ?_
        refine lv_aload_n hx hb dL_law_923 rfl (lv_at hl 0 rfl) ?_
        refine lv_iload_n hx hb dL_law_924 rfl (lv_at hl 3 rfl) ?_
        refine lv_iconst (v := 1) hx hb dL_law_925 (by decide) ?_
        refine lv_iadd hx hb dL_law_926 ?_
        refine va_sld hx hb hX hbl hbA hS (zl_in hL hlt (k := 1) (by decide) ex3 rfl) dL_law_927 ?_
        refine lv_aload_n hx hb dL_law_928 rfl (lv_at hl 0 rfl) ?_
        refine lv_iload_n hx hb dL_law_929 rfl (lv_at hl 3 rfl) ?_
        refine lv_iconst (v := 2) hx hb dL_law_930 (by decide) ?_
        refine lv_iadd hx hb dL_law_931 ?_
        refine va_sld hx hb hX hbl hbA hS (zl_in hL hlt (k := 2) (by decide) ex3 rfl) dL_law_932 ?_
        refine lv_aload_n hx hb dL_law_933 rfl (lv_at hl 0 rfl) ?_
        refine lv_iload_n hx hb dL_law_934 rfl (lv_at hl 3 rfl) ?_
        refine lv_iconst (v := 3) hx hb dL_law_935 (by decide) ?_
        refine lv_iadd hx hb dL_law_936 ?_
        refine va_sld hx hb hX hbl hbA hS (zl_in hL hlt (k := 3) (by decide) ex3 rfl) dL_law_937 ?_
        refine lv_aload_n hx hb dL_law_938 rfl (lv_at hl 0 rfl) ?_
        refine lv_iload_n hx hb dL_law_939 rfl (lv_at hl 3 rfl) ?_
        refine lv_iconst (v := 4) hx hb dL_law_940 (by decide) ?_
        refine lv_iadd hx hb dL_law_941 ?_
        refine va_sld hx hb hX hbl hbA hS (zl_in hL hlt (k := 4) (by decide) ex3 rfl) dL_law_942 ?_
        refine lv_i2l hx hb dL_law_943 rfl ?_
        refine lv_bipush (v := 32) hx hb dL_law_944 (by decide) ?_
        refine lv_lshl hx hb dL_law_946 rfl ?_
        refine lv_aload_n hx hb dL_law_947 rfl (lv_at hl 0 rfl) ?_
        refine lv_iload_n hx hb dL_law_948 rfl (lv_at hl 3 rfl) ?_
        refine lv_iconst (v := 5) hx hb dL_law_949 (by decide) ?_
        refine lv_iadd hx hb dL_law_950 ?_
        refine va_sld hx hb hX hbl hbA hS (zl_in hL hlt (k := 5) (by decide) ex3 rfl) dL_law_951 ?_
        refine lv_i2l hx hb dL_law_952 rfl ?_
        refine lv_ldc2 (v := 4294967295) hx hb hown (hts _ w_6) dL_law_953 ?_
        refine lv_land hx hb dL_law_956 ?_
        refine lv_lor hx hb dL_law_957 ?_
        refine zlVi (As := [.int (xs (x3 + 1).toNatClampNeg), .int (xs (x3 + 2).toNatClampNeg), .int (xs (x3 + 3).toNatClampNeg), .long (((((xs (x3 + 4).toNatClampNeg).toInt64) <<< ((32 : Int32).toInt64 &&& 63))) ||| ((((xs (x3 + 5).toNatClampNeg).toInt64) &&& ((4294967295 : Int64)))))]) (rest := []) lx hP hS (c_RS_item  e1) mt_yX7_item mv_yX7_item w_1051 (by decide) (k7_0 rfl) (zv7 rfl) rfl hl.1 rfl (Nat.le_of_ble_eq_true rfl) ⟨hkc, hks⟩ dL_law_958 (fun H locs hP hS => ?_)
        refine lv_aload_n hx hb dL_law_961 rfl (lv_at hl 2 rfl) ?_
        refine lv_aload_n hx hb dL_law_962 rfl (lv_at hl 0 rfl) ?_
        refine lv_iload_n hx hb dL_law_963 rfl (lv_at hl 3 rfl) ?_
        refine lv_iconst (v := 1) hx hb dL_law_964 (by decide) ?_
        refine lv_iadd hx hb dL_law_965 ?_
        refine va_sld hx hb hX hbl hbA hS (zl_in hL hlt (k := 1) (by decide) ex3 rfl) dL_law_966 ?_
        refine lv_aload_n hx hb dL_law_967 rfl (lv_at hl 0 rfl) ?_
        refine lv_iload_n hx hb dL_law_968 rfl (lv_at hl 3 rfl) ?_
        refine lv_iconst (v := 2) hx hb dL_law_969 (by decide) ?_
        refine lv_iadd hx hb dL_law_970 ?_
        refine va_sld hx hb hX hbl hbA hS (zl_in hL hlt (k := 2) (by decide) ex3 rfl) dL_law_971 ?_
        refine lv_aload_n hx hb dL_law_972 rfl (lv_at hl 0 rfl) ?_
        refine lv_iload_n hx hb dL_law_973 rfl (lv_at hl 3 rfl) ?_
        refine lv_iconst (v := 3) hx hb dL_law_974 (by decide) ?_
        refine lv_iadd hx hb dL_law_975 ?_
        refine va_sld hx hb hX hbl hbA hS (zl_in hL hlt (k := 3) (by decide) ex3 rfl) dL_law_976 ?_
        refine lv_aload_n hx hb dL_law_977 rfl (lv_at hl 0 rfl) ?_
        refine lv_iload_n hx hb dL_law_978 rfl (lv_at hl 3 rfl) ?_
        refine lv_iconst (v := 4) hx hb dL_law_979 (by decide) ?_
        refine lv_iadd hx hb dL_law_980 ?_
        refine va_sld hx hb hX hbl hbA hS (zl_in hL hlt (k := 4) (by decide) ex3 rfl) dL_law_981 ?_
        refine lv_i2l hx hb dL_law_982 rfl ?_
        refine lv_bipush (v := 32) hx hb dL_law_983 (by decide) ?_
        refine lv_lshl hx hb dL_law_985 rfl ?_
        refine lv_aload_n hx hb dL_law_986 rfl (lv_at hl 0 rfl) ?_
        refine lv_iload_n hx hb dL_law_987 rfl (lv_at hl 3 rfl) ?_
        refine lv_iconst (v := 5) hx hb dL_law_988 (by decide) ?_
        refine lv_iadd hx hb dL_law_989 ?_
        refine va_sld hx hb hX hbl hbA hS (zl_in hL hlt (k := 5) (by decide) ex3 rfl) dL_law_990 ?_
        refine lv_i2l hx hb dL_law_991 rfl ?_
        refine lv_ldc2 (v := 4294967295) hx hb hown (hts _ w_6) dL_law_992 ?_
        refine lv_land hx hb dL_law_995 ?_
        refine lv_lor hx hb dL_law_996 ?_
        refine zlVi (o := 29) (As := [.int (xs (x3 + 1).toNatClampNeg), .int (xs (x3 + 2).toNatClampNeg), .int (xs (x3 + 3).toNatClampNeg), .long (((((xs (x3 + 4).toNatClampNeg).toInt64) <<< ((32 : Int32).toInt64 &&& 63))) ||| ((((xs (x3 + 5).toNatClampNeg).toInt64) &&& ((4294967295 : Int64)))))]) (rest := [.int r]) lx hP hS (c_Mo_item (o := 29) rfl rfl  e2 rfl) mt_yX8_item mv_yX8_item w_1055 (by decide) (k8_0 rfl) (zv8 rfl) rfl hl.1 rfl (Nat.le_of_ble_eq_true rfl) ⟨hkc, hks⟩ dL_law_997 (fun H locs hP hS => ?_)
        refine lv_icmp_eq (tgt := 1068) hx hb dL_law_1000 (by decide) (fun _ => ?_) (fun q => absurd rfl q)
        exact tail _ hI2 H locs hP hS
      by_cases k29 : w = 29
      · refine lv_tableIn (off := 972) (tgt := 1005) hx hb dL_law_33 (by rw [k29]; decide) (by rw [k29]; decide) (by rw [k29]; rfl) (by decide) ?_
        obtain ⟨r, μ1, S2, e1, e2, hI2⟩ := o_copy μ (xs (x3 + 1).toNatClampNeg) (xs (x3 + 2).toNatClampNeg) (xs (x3 + 3).toNatClampNeg) (xs (x3 + 4).toNatClampNeg) (xs (x3 + 5).toNatClampNeg) hInv
        refine lv_aload_n hx hb dL_law_1005 rfl (lv_at hl 1 rfl) ?_
        refine lv_aload_n hx hb dL_law_1006 rfl (lv_at hl 0 rfl) ?_
        refine lv_iload_n hx hb dL_law_1007 rfl (lv_at hl 3 rfl) ?_
        refine lv_iconst (v := 1) hx hb dL_law_1008 (by decide) ?_
        refine lv_iadd hx hb dL_law_1009 ?_
        refine va_sld hx hb hX hbl hbA hS (zl_in hL hlt (k := 1) (by decide) ex3 rfl) dL_law_1010 ?_
        refine lv_aload_n hx hb dL_law_1011 rfl (lv_at hl 0 rfl) ?_
        refine lv_iload_n hx hb dL_law_1012 rfl (lv_at hl 3 rfl) ?_
        refine lv_iconst (v := 2) hx hb dL_law_1013 (by decide) ?_
        refine lv_iadd hx hb dL_law_1014 ?_
        refine va_sld hx hb hX hbl hbA hS (zl_in hL hlt (k := 2) (by decide) ex3 rfl) dL_law_1015 ?_
        refine lv_aload_n hx hb dL_law_1016 rfl (lv_at hl 0 rfl) ?_
        refine lv_iload_n hx hb dL_law_1017 rfl (lv_at hl 3 rfl) ?_
        refine lv_iconst (v := 3) hx hb dL_law_1018 (by decide) ?_
        refine lv_iadd hx hb dL_law_1019 ?_
        refine va_sld hx hb hX hbl hbA hS (zl_in hL hlt (k := 3) (by decide) ex3 rfl) dL_law_1020 ?_
        refine lv_aload_n hx hb dL_law_1021 rfl (lv_at hl 0 rfl) ?_
        refine lv_iload_n hx hb dL_law_1022 rfl (lv_at hl 3 rfl) ?_
        refine lv_iconst (v := 4) hx hb dL_law_1023 (by decide) ?_
        refine lv_iadd hx hb dL_law_1024 ?_
        refine va_sld hx hb hX hbl hbA hS (zl_in hL hlt (k := 4) (by decide) ex3 rfl) dL_law_1025 ?_
        refine lv_aload_n hx hb dL_law_1026 rfl (lv_at hl 0 rfl) ?_
        refine lv_iload_n hx hb dL_law_1027 rfl (lv_at hl 3 rfl) ?_
        refine lv_iconst (v := 5) hx hb dL_law_1028 (by decide) ?_
        refine lv_iadd hx hb dL_law_1029 ?_
        refine va_sld hx hb hX hbl hbA hS (zl_in hL hlt (k := 5) (by decide) ex3 rfl) dL_law_1030 ?_
        refine zlVi (As := [.int (xs (x3 + 1).toNatClampNeg), .int (xs (x3 + 2).toNatClampNeg), .int (xs (x3 + 3).toNatClampNeg), .int (xs (x3 + 4).toNatClampNeg), .int (xs (x3 + 5).toNatClampNeg)]) (rest := []) lx hP hS (c_RS_copy  e1) mt_yX7_copy mv_yX7_copy w_1062 (by decide) (k7_0 rfl) (zv7 rfl) rfl hl.1 rfl (Nat.le_of_ble_eq_true rfl) ⟨hkc, hks⟩ dL_law_1031 (fun H locs hP hS => ?_)
        refine lv_aload_n hx hb dL_law_1034 rfl (lv_at hl 2 rfl) ?_
        refine lv_aload_n hx hb dL_law_1035 rfl (lv_at hl 0 rfl) ?_
        refine lv_iload_n hx hb dL_law_1036 rfl (lv_at hl 3 rfl) ?_
        refine lv_iconst (v := 1) hx hb dL_law_1037 (by decide) ?_
        refine lv_iadd hx hb dL_law_1038 ?_
        refine va_sld hx hb hX hbl hbA hS (zl_in hL hlt (k := 1) (by decide) ex3 rfl) dL_law_1039 ?_
        refine lv_aload_n hx hb dL_law_1040 rfl (lv_at hl 0 rfl) ?_
        refine lv_iload_n hx hb dL_law_1041 rfl (lv_at hl 3 rfl) ?_
        refine lv_iconst (v := 2) hx hb dL_law_1042 (by decide) ?_
        refine lv_iadd hx hb dL_law_1043 ?_
        refine va_sld hx hb hX hbl hbA hS (zl_in hL hlt (k := 2) (by decide) ex3 rfl) dL_law_1044 ?_
        refine lv_aload_n hx hb dL_law_1045 rfl (lv_at hl 0 rfl) ?_
        refine lv_iload_n hx hb dL_law_1046 rfl (lv_at hl 3 rfl) ?_
        refine lv_iconst (v := 3) hx hb dL_law_1047 (by decide) ?_
        refine lv_iadd hx hb dL_law_1048 ?_
        refine va_sld hx hb hX hbl hbA hS (zl_in hL hlt (k := 3) (by decide) ex3 rfl) dL_law_1049 ?_
        refine lv_aload_n hx hb dL_law_1050 rfl (lv_at hl 0 rfl) ?_
        refine lv_iload_n hx hb dL_law_1051 rfl (lv_at hl 3 rfl) ?_
        refine lv_iconst (v := 4) hx hb dL_law_1052 (by decide) ?_
        refine lv_iadd hx hb dL_law_1053 ?_
        refine va_sld hx hb hX hbl hbA hS (zl_in hL hlt (k := 4) (by decide) ex3 rfl) dL_law_1054 ?_
        refine lv_aload_n hx hb dL_law_1055 rfl (lv_at hl 0 rfl) ?_
        refine lv_iload_n hx hb dL_law_1056 rfl (lv_at hl 3 rfl) ?_
        refine lv_iconst (v := 5) hx hb dL_law_1057 (by decide) ?_
        refine lv_iadd hx hb dL_law_1058 ?_
        refine va_sld hx hb hX hbl hbA hS (zl_in hL hlt (k := 5) (by decide) ex3 rfl) dL_law_1059 ?_
        refine zlVi (o := 29) (As := [.int (xs (x3 + 1).toNatClampNeg), .int (xs (x3 + 2).toNatClampNeg), .int (xs (x3 + 3).toNatClampNeg), .int (xs (x3 + 4).toNatClampNeg), .int (xs (x3 + 5).toNatClampNeg)]) (rest := [.int r]) lx hP hS (c_Mo_copy N (o := 29) rfl rfl  e2 rfl) mt_yX8_copy mv_yX8_copy w_1067 (by decide) (k8_0 rfl) (zv8 rfl) rfl hl.1 rfl (Nat.le_of_ble_eq_true rfl) ⟨hkc, hks⟩ dL_law_1060 (fun H locs hP hS => ?_)
        refine lv_icmp_eq (tgt := 1068) hx hb dL_law_1063 (by decide) (fun _ => ?_) (fun q => absurd rfl q)
        exact tail _ hI2 H locs hP hS
      refine lv_tableOut (tgt := 1068) hx hb dL_law_33 (by have t0 := tn k0 (i := 0) rfl; have t1 := tn k1 (i := 1) rfl; have t2 := tn k2 (i := 2) rfl; have t3 := tn k3 (i := 3) rfl; have t4 := tn k4 (i := 4) rfl; have t5 := tn k5 (i := 5) rfl; have t6 := tn k6 (i := 6) rfl; have t7 := tn k7 (i := 7) rfl; have t8 := tn k8 (i := 8) rfl; have t9 := tn k9 (i := 9) rfl; have t10 := tn k10 (i := 10) rfl; have t11 := tn k11 (i := 11) rfl; have t12 := tn k12 (i := 12) rfl; have t13 := tn k13 (i := 13) rfl; have t14 := tn k14 (i := 14) rfl; have t15 := tn k15 (i := 15) rfl; have t16 := tn k16 (i := 16) rfl; have t17 := tn k17 (i := 17) rfl; have t18 := tn k18 (i := 18) rfl; have t19 := tn k19 (i := 19) rfl; have t20 := tn k20 (i := 20) rfl; have t21 := tn k21 (i := 21) rfl; have t22 := tn k22 (i := 22) rfl; have t23 := tn k23 (i := 23) rfl; have t24 := tn k24 (i := 24) rfl; have t25 := tn k25 (i := 25) rfl; have t26 := tn k26 (i := 26) rfl; have t27 := tn k27 (i := 27) rfl; have t28 := tn k28 (i := 28) rfl; have t29 := tn k29 (i := 29) rfl; omega) (by decide) ?_
      exact tail μ hInv H locs hP hS
