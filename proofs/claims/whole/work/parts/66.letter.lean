/-! the note -/
def ltOK (L M : zOb) (t : Nat) : Prop := L.1 0 1 = nI t ∧ M.1 0 23 = nI t ∧ ∀ i, i < t → ∃ c, c < 128 ∧ L.1 1 i = nI c ∧ M.1 23 i = nI c
def kN (M M' : zOb) : Prop := (∀ j, j ≠ 0 → j ≠ 23 → M'.1 j = M.1 j) ∧ (∀ k, k ≠ 23 → M'.1 0 k = M.1 0 k) ∧ M'.2 = M.2
theorem kN.rf (M : zOb) : kN M M := ⟨fun _ _ _ => rfl, fun _ _ => rfl, rfl⟩
theorem kN.tr {M M' M2 : zOb} (h : kN M M') (g : kN M' M2) : kN M M2 := ⟨fun j h0 hj => (g.1 j h0 hj).trans (h.1 j h0 hj), fun k hk => (g.2.1 k hk).trans (h.2.1 k hk), g.2.2.trans h.2.2⟩
theorem kN.keep {M M' : zOb} (h : kN M M') : keepM M M' := ⟨⟨h.1 2 (by omega) (by omega), h.1 4 (by omega) (by omega), h.1 5 (by omega) (by omega), h.1 7 (by omega) (by omega), h.1 9 (by omega) (by omega), h.1 10 (by omega) (by omega), h.1 25 (by omega) (by omega)⟩, ⟨h.2.1 2 (by omega), h.2.1 5 (by omega), h.2.1 7 (by omega)⟩, h.2.2⟩
theorem wl_1 {L M : zOb} {t c : Nat} (h : ltOK L M t) (ht : t < 64) (hc : c < 128) : ∃ L' M', f_Le_add 64 L (nI c) = some (nI 1, L') ∧ f_Mo_writes M (nI c) = some M' ∧ ltOK L' M' (t + 1) ∧ kN M M' := by
  obtain ⟨h1, h2, h3⟩ := h
  have hadd := s_add (n := 64) (t := t) (c := c) (by omega) (by omega) h1 (by omega)
  rw [if_pos ht] at hadd
  refine ⟨_, zI (zI M 23 t (nI c)) 0 23 (nI (t + 1)), hadd, ?_, ⟨rfl, rfl, fun i hi => ?_⟩, ⟨fun j h0 hj => ?_, fun k hk => ?_, rfl⟩⟩
  · have z : zin (nI t) 64 := zin_nI ht (by decide)
    have e : (zI M 23 t (nI c)).1 0 23 = nI t := h2
    unfold f_Mo_writes
    rw [h2, if_pos z]
    dsimp only [bnd]
    rw [nI_clamp (by omega), e, nI_add]
  · by_cases hit : i = t
    · subst hit
      exact ⟨c, hc, upd_s _ _ _, upd_s _ _ _⟩
    · obtain ⟨c', d1, d2, d3⟩ := h3 i (by omega)
      exact ⟨c', d1, (upd_n _ _ hit).trans d2, (upd_n _ _ hit).trans d3⟩
  · rw [zI_o _ _ h0, zI_o _ _ hj]
  · rw [zI_e, upd_n _ _ hk, zI_o _ _ (by decide)]
theorem dig {v : Nat} (hv : v < 100) : ((nI 48 + (nI v - nI v / nI 10 * nI 10)).toUInt32 % 65536).toInt32 = nI (48 + v % 10) ∧ ((nI 48 + (nI v / nI 10 - nI v / nI 10 / nI 10 * nI 10)).toUInt32 % 65536).toInt32 = nI (48 + v / 10) := by
  constructor
  · rw [pk_rem (by omega) (by decide) (by decide), nI_add, i2c_nI (by omega)]
  · rw [pk_div (by omega) (by decide) (by decide), pk_rem (by omega) (by decide) (by decide), nI_add, i2c_nI (by omega), Nat.mod_eq_of_lt (by omega)]
/-- one figure, by the class as a number -/
theorem wl_0 {L M : zOb} {t v : Nat} (h : ltOK L M t) (ht : t < 64) (hv : v < 10) : ∃ L' M', f_Le_addNumber 64 L (nI v) = some L' ∧ f_Mo_writes M (nI 48 + nI v) = some M' ∧ ltOK L' M' (t + 1) ∧ kN M M' := by
  obtain ⟨L', M', e1, e2, e3, e4⟩ := wl_1 (c := 48 + v) h ht (by omega)
  refine ⟨L', M', ?_, by rw [nI_add]; exact e2, e3, e4⟩
  unfold f_Le_addNumber f_Le_addNumber_22
  rw [if_pos (nI_lt hv (by decide)), (dig (v := v) (by omega)).1, Nat.mod_eq_of_lt hv, e1]
  rfl
theorem wl_n {L M : zOb} {t v : Nat} (h : ltOK L M t) (ht : t + 1 < 64) (hv : v < 100) : ∃ L' M' t', f_Le_addNumber 64 L (nI v) = some L' ∧ f_Mo_writesNumber M (nI v) = some M' ∧ ltOK L' M' t' ∧ kN M M' ∧ t' ≤ t + 2 := by
  by_cases hv9 : v < 10
  · obtain ⟨L', M', e1, e2, e3, e4⟩ := wl_1 (c := 48 + v) h (by omega) (by omega)
    refine ⟨L', M', t + 1, ?_, ?_, e3, e4, by omega⟩
    · unfold f_Le_addNumber f_Le_addNumber_22
      rw [if_pos (nI_lt hv9 (by decide)), (dig (v := v) (by omega)).1, Nat.mod_eq_of_lt hv9, e1]
      rfl
    · unfold f_Mo_writesNumber f_Mo_writesNumber_17
      rw [if_pos (nI_le (by omega) (by decide)), pk_rem (by omega) (by decide) (by decide), nI_add, Nat.mod_eq_of_lt hv9, e2]
      rfl
  · obtain ⟨L1, M1, e1, e2, e3, e4⟩ := wl_1 (c := 48 + v / 10) h (by omega) (by omega)
    obtain ⟨L', M', g1, g2, g3, g4⟩ := wl_1 (c := 48 + v % 10) e3 (by omega) (by omega)
    refine ⟨L', M', t + 2, ?_, ?_, g3, e4.tr g4, by omega⟩
    · unfold f_Le_addNumber f_Le_addNumber_22
      rw [if_neg (nI_nlt (by omega) (by omega)), (dig hv).2, e1, Option.bind_some, (dig hv).1, g1]
      rfl
    · unfold f_Mo_writesNumber f_Mo_writesNumber_17
      rw [if_neg (nI_ge (by omega) (by omega)), pk_rem (by omega) (by decide) (by decide), pk_div (by omega) (by decide) (by decide)]
      simp only [nI_add]
      rw [e2, Option.bind_some, g2]
      rfl
/-- one place of the note -/
theorem wl_place {N p t n : Nat} (hN : 200 ≤ N) {ν : zM} {L M : zOb} {o F E : Nat → Nat} (K : zM → Int32 → Option zM) (K' : zOb → Int32 → Option zOb) (hp : p < n) (hn : n ≤ 7) (h : ltOK L M t) (ht : t + 7 ≤ 64) (ho : o p < n) (c3 : (ν 0).1 3 p = nI (o p)) (c7 : (ν 21).1 7 p = nI (F p)) (c9 : (ν 21).1 9 p = nI (E p)) (m13 : M.1 13 p = nI (o p)) (m16 : M.1 16 p = nI (F p)) (m18 : M.1 18 p = nI (E p)) (hF : F p < 2 ^ 20) (hE : E p < 2 ^ 20) : ∃ L' M' t', f_RS_writeNote_89 N K (zset ν 18 L) (nI p) = K (zset ν 18 L') (nI (p + 1)) ∧ f_Mo_writesNote_35 N K' M (nI p) = K' M' (nI (p + 1)) ∧ ltOK L' M' t' ∧ kN M M' ∧ t' ≤ t + 7 := by
  have zp : zin (nI p) 7 := zin_nI (by omega) (by decide)
  have cp : (nI p).toNatClampNeg = p := nI_clamp (by omega)
  have hl : zlen 18 = 64 := rfl
  have z0 : ∀ L, (zset ν 18 L) 0 = ν 0 := fun L => zset_n _ _ (by decide)
  have z21 : ∀ L, (zset ν 18 L) 21 = ν 21 := fun L => zset_n _ _ (by decide)
  have bF := pcb_le 20 (F p)
  have bE := pcb_le 20 (E p)
  obtain ⟨L1, M1, a1, b1, l1, k1⟩ := wl_0 (v := o p) h (by omega) (by omega)
  obtain ⟨L2, M2, a2, b2, l2, k2⟩ := wl_1 (c := 43) l1 (by omega) (by decide)
  obtain ⟨L3, M3, t3, a3, b3, l3, k3, t3b⟩ := wl_n (v := pcb 20 (F p)) l2 (by omega) (by omega)
  have q16 : M2.1 16 p = nI (F p) := by rw [(k1.tr k2).1 16 (by decide) (by decide)]; exact m16
  have q18 : M3.1 18 p = nI (E p) := by rw [((k1.tr k2).tr k3).1 18 (by decide) (by decide)]; exact m18
  have run : f_RS_writeNote_89 N K (zset ν 18 L) (nI p) = (if nI (E p) = nI 0 then f_RS_writeNote_175 N K (zset ν 18 L3) (nI p) else (f_Le_add 64 L3 (nI 45)).bind (fun q19 => (f_Le_addNumber 64 q19.2 (nI (pcb 20 (E p)))).bind (fun q23 => f_RS_writeNote_175 N K (zset ν 18 q23) (nI p)))) := by
    unfold f_RS_writeNote_89
    rw [if_pos zp, hl]
    simp only [z0, cp, c3, zset_s]
    rw [a1, Option.bind_some]
    dsimp only [bnd]
    rw [zset_s, a2, Option.bind_some, if_pos zp]
    simp only [zset_ss, cp, z21, c7, zset_s]
    rw [s_bitCount hF, Option.bind_some, a3, Option.bind_some, if_pos zp]
    simp only [zset_ss, cp, z21, c9, zset_s, if_pos zp, s_bitCount hE, Option.bind_some]
  have runM : f_Mo_writesNote_35 N K' M (nI p) = (if nI (E p) = nI 0 then f_Mo_writesNote_95 N K' M3 (nI p) else (f_Mo_writes M3 (nI 45)).bind (fun q20 => (f_Mo_sizeOf N (q20.1 18 p)).bind (fun q22 => (f_Mo_writesNumber q20 q22).bind (fun q23 => f_Mo_writesNote_95 N K' q23 (nI p))))) := by
    unfold f_Mo_writesNote_35
    rw [if_pos zp]
    simp only [cp, m13]
    rw [b1, Option.bind_some, b2, Option.bind_some, if_pos zp, q16, s_sizeOf hN hF, Option.bind_some, b3, Option.bind_some, if_pos zp, q18]
    simp only [if_pos zp]
  by_cases hz : E p = 0
  · refine ⟨L3, M3, t3, ?_, ?_, l3, (k1.tr k2).tr k3, by omega⟩
    · rw [run, if_pos (by rw [hz]), f_RS_writeNote_175]
      dsimp only [bnd]
      rw [nI_add]
    · rw [runM, if_pos (by rw [hz]), f_Mo_writesNote_95]
      dsimp only [bnd]
      rw [nI_add]
  · have hz' : ¬ nI (E p) = nI 0 := nI_n0 (by omega) (by omega)
    obtain ⟨L4, M4, a4, b4, l4, k4⟩ := wl_1 (c := 45) l3 (by omega) (by decide)
    obtain ⟨L5, M5, t5, a5, b5, l5, k5, t5b⟩ := wl_n (v := pcb 20 (E p)) l4 (by omega) (by omega)
    have r18 : M4.1 18 p = nI (E p) := by rw [k4.1 18 (by decide) (by decide)]; exact q18
    refine ⟨L5, M5, t5, ?_, ?_, l5, ((k1.tr k2).tr k3).tr (k4.tr k5), by omega⟩
    · rw [run, if_neg hz', a4, Option.bind_some]
      dsimp only
      rw [a5, Option.bind_some, f_RS_writeNote_175]
      dsimp only [bnd]
      rw [nI_add]
    · rw [runM, if_neg hz', b4, Option.bind_some, r18, s_sizeOf hN hE, Option.bind_some, b5, Option.bind_some, f_Mo_writesNote_95]
      dsimp only [bnd]
      rw [nI_add]
theorem wl_all {N n : Nat} (hN : 200 ≤ N) (hn : n ≤ 7) (hn0 : 0 < n) {ν : zM} {M0 : zOb} {o F E : Nat → Nat} (ho : ∀ p, p < n → o p < n) (c0 : (ν 0).1 0 3 = nI n) (c : ∀ p, p < n → (ν 0).1 3 p = nI (o p) ∧ (ν 21).1 7 p = nI (F p) ∧ (ν 21).1 9 p = nI (E p)) (m0 : M0.1 1 0 = nI n) (m : ∀ p, p < n → M0.1 13 p = nI (o p) ∧ M0.1 16 p = nI (F p) ∧ M0.1 18 p = nI (E p)) (hFE : ∀ p, p < n → F p < 2 ^ 20 ∧ E p < 2 ^ 20) : ∀ r p nf L M t, p + r = n → r < nf → kN M0 M → ltOK L M t → t ≤ 8 * p → ∃ L' M' t', f_RS_writeNote_64 N nf (zset ν 18 L) (nI p) = some (zset ν 18 L') ∧ f_Mo_writesNote_15 N nf M (nI p) = some M' ∧ ltOK L' M' t' ∧ kN M0 M' ∧ t' ≤ 64 := by
  have z0 : ∀ L, (zset ν 18 L) 0 = ν 0 := fun L => zset_n _ _ (by decide)
  intro r
  induction r with
  | zero =>
    intro p nf L M t hp hf hk hl ht
    obtain ⟨nf, rfl⟩ : ∃ t, nf = t + 1 := ⟨nf - 1, by omega⟩
    have e1 : M.1 1 0 = nI n := by rw [hk.1 1 (by decide) (by decide)]; exact m0
    have : p = n := by omega
    subst this
    refine ⟨L, M, t, ?_, ?_, hl, hk, by omega⟩
    · rw [f_RS_writeNote_64, z0, c0, if_pos (Int32.le_refl _)]
    · rw [f_Mo_writesNote_15, e1, if_pos (Int32.le_refl _), if_neg (nI_n0 hn0 (by omega)), f_Mo_writesNote_134]
  | succ r ih =>
    intro p nf L M t hp hf hk hl ht
    obtain ⟨nf, rfl⟩ : ∃ t, nf = t + 1 := ⟨nf - 1, by omega⟩
    have e1 : M.1 1 0 = nI n := by rw [hk.1 1 (by decide) (by decide)]; exact m0
    obtain ⟨d1, d2, d3⟩ := c p (by omega)
    obtain ⟨g1, g2, g3⟩ := m p (by omega)
    obtain ⟨f1, f2⟩ := hFE p (by omega)
    have hge : ¬ nI n ≤ nI p := nI_ge (by omega) (by omega)
    rw [f_RS_writeNote_64, z0, c0, if_neg hge, f_Mo_writesNote_15, e1, if_neg hge]
    by_cases hp0 : p = 0
    · have hle : nI p ≤ nI 0 := nI_le (by omega) (by decide)
      rw [if_pos hle, if_pos hle]
      obtain ⟨L', M', t', q1, q2, q3, q4, q5⟩ := wl_place (N := N) hN (ν := ν) (o := o) (F := F) (E := E) (f_RS_writeNote_64 N nf) (f_Mo_writesNote_15 N nf) (show p < n by omega) hn hl (by omega) (ho p (by omega)) d1 d2 d3 (by rw [hk.1 13 (by decide) (by decide)]; exact g1) (by rw [hk.1 16 (by decide) (by decide)]; exact g2) (by rw [hk.1 18 (by decide) (by decide)]; exact g3) f1 f2
      rw [q1, q2]
      exact ih (p + 1) nf L' M' t' (by omega) (by omega) (hk.tr q4) q3 (by omega)
    · have hle : ¬ nI p ≤ nI 0 := nI_ge (by omega) (by omega)
      rw [if_neg hle, if_neg hle]
      obtain ⟨L1, M1, a1, b1, l1, k1⟩ := wl_1 (c := 32) hl (by omega) (by decide)
      have hk1 := hk.tr k1
      obtain ⟨L', M', t', q1, q2, q3, q4, q5⟩ := wl_place (N := N) hN (ν := ν) (o := o) (F := F) (E := E) (f_RS_writeNote_64 N nf) (f_Mo_writesNote_15 N nf) (show p < n by omega) hn l1 (by omega) (ho p (by omega)) d1 d2 d3 (by rw [hk1.1 13 (by decide) (by decide)]; exact g1) (by rw [hk1.1 16 (by decide) (by decide)]; exact g2) (by rw [hk1.1 18 (by decide) (by decide)]; exact g3) f1 f2
      rw [zset_s, show zlen 18 = 64 from rfl, a1, Option.bind_some, b1, Option.bind_some]
      dsimp only [bnd]
      rw [zset_ss, q1, q2]
      exact ih (p + 1) nf L' M' t' (by omega) (by omega) (hk1.tr q4) q3 (by omega)
theorem zch0 : zch 0 0 = nI 110 ∧ zch 0 1 = nI 111 ∧ zch 0 2 = nI 110 ∧ zch 0 3 = nI 101 := by decide +kernel
theorem wl_none {N : Nat} (hN : 200 ≤ N) {ν : zM} {L M : zOb} (h : ltOK L M 0) : ∃ L' M', f_RS_writeNote_20 N N (zset ν 18 L) (nI 0) = f_RS_writeNote_51 N (zset ν 18 L') ∧ ((f_Mo_writes M (nI 110)).bind (fun q6 => (f_Mo_writes q6 (nI 111)).bind (fun q7 => (f_Mo_writes q7 (nI 110)).bind (fun q8 => (f_Mo_writes q8 (nI 101)).bind (fun q9 => f_Mo_writesNote_134 N q9)))) = some M') ∧ ltOK L' M' 4 ∧ kN M M' := by
  obtain ⟨y0, y1, y2, y3⟩ := zch0
  obtain ⟨N, rfl⟩ : ∃ t, N = t + 5 := ⟨N - 5, by omega⟩
  have hl : zlen 18 = 64 := rfl
  have h4 : zlenS.getD 0 0 = 4 := rfl
  have hs : zsl 0 = nI 4 := rfl
  obtain ⟨L1, M1, a1, b1, l1, k1⟩ := wl_1 (c := 110) h (by decide) (by decide)
  obtain ⟨L2, M2, a2, b2, l2, k2⟩ := wl_1 (c := 111) l1 (by decide) (by decide)
  obtain ⟨L3, M3, a3, b3, l3, k3⟩ := wl_1 (c := 110) l2 (by decide) (by decide)
  obtain ⟨L4, M4, a4, b4, l4, k4⟩ := wl_1 (c := 101) l3 (by decide) (by decide)
  have step : ∀ nf i (La Lb : zOb) (c : Int32), i < 4 → zch 0 i = c → f_Le_add 64 La c = some (nI 1, Lb) → f_RS_writeNote_20 (N + 5) (nf + 1) (zset ν 18 La) (nI i) = f_RS_writeNote_20 (N + 5) nf (zset ν 18 Lb) (nI (i + 1)) := by
    intro nf i La Lb c hi hc hadd
    have zi : zin (nI i) 4 := zin_nI hi (by decide)
    have ci : (nI i).toNatClampNeg = i := nI_clamp (by omega)
    rw [f_RS_writeNote_20, hs, if_neg (nI_ge hi (by decide)), h4, if_pos zi, ci, hc, hl, zset_s, hadd, Option.bind_some]
    dsimp only [bnd]
    rw [zset_ss, nI_add]
  refine ⟨L4, M4, ?_, ?_, l4, (k1.tr k2).tr (k3.tr k4)⟩
  · rw [step _ 0 L L1 _ (by decide) y0 a1, step _ 1 L1 L2 _ (by decide) y1 a2, step _ 2 L2 L3 _ (by decide) y2 a3, step _ 3 L3 L4 _ (by decide) y3 a4, f_RS_writeNote_20, hs, if_pos (Int32.le_refl _)]
  · rw [b1, Option.bind_some, b2, Option.bind_some, b3, Option.bind_some, b4, Option.bind_some]
    rfl
theorem s_note {N : Nat} (hN : 200 ≤ N) {μ : zM} (h : zInv μ) : ∃ R' L' M' t', f_RS_writeNote N μ = some (zset (zset μ 21 R') 18 L') ∧ f_Mo_writesNote N (μ 29) = some M' ∧ rdOK R' ∧ ltOK L' M' t' ∧ t' ≤ 64 ∧ keepM (μ 29) M' ∧ M'.1 1 = (μ 29).1 1 := by
  have h' : zInv (zset μ 29 (zI (μ 29) 0 23 (nI 0))) := inv_read0 h (keepM.fld _ (by decide) _) rfl
  obtain ⟨a, R', M1, M', hw, hS, hM, e1, r1, e2, e3, r2, rO, kM, k1, kj⟩ := s_now hN h'
  rw [zset_n _ _ (by decide)] at hS e1
  rw [zset_n _ _ (by decide)] at e1
  rw [zset_s] at hM e2 kM k1 kj
  have h7 := hw.1.1
  have c0 : (μ 0).1 0 3 = nI (a.1 0) := hS.1 0 (by decide)
  have m0 : M'.1 1 0 = nI (a.1 0) := by rw [k1]; exact hM.1 0 (by decide)
  have kM2 : keepM (μ 29) M' := (keepM.fld (μ 29) (by decide) (nI 0)).tr kM
  have l0 : ltOK (zI (μ 18) 0 1 (nI 0)) M' 0 := ⟨rfl, by rw [kj 0 (by omega)]; rfl, fun i hi => absurd hi (by omega)⟩
  have runM : f_Mo_writesNote N (μ 29) = f_Mo_writesNote_15 N N M' (nI 0) := by
    unfold f_Mo_writesNote
    dsimp only [bnd]
    rw [e2, Option.bind_some, e3, Option.bind_some]
  have z21 : ∀ L, (zset μ 18 L) 21 = μ 21 := fun L => zset_n _ _ (by decide)
  have z0 : ∀ L, (zset μ 18 L) 0 = μ 0 := fun L => zset_n _ _ (by decide)
  have run51 : ∀ L, f_RS_writeNote_51 N (zset μ 18 L) = f_RS_writeNote_64 N N (zset (zset μ 21 R') 18 L) (nI 0) := by
    intro L
    unfold f_RS_writeNote_51
    rw [z21, z0, e1, Option.bind_some]
    dsimp only [bnd]
    rw [zset_comm _ _ _ (show (18 : Nat) ≠ 21 by decide)]
  have runC : f_RS_writeNote N μ = if nI (a.1 0) = nI 0 then f_RS_writeNote_20 N N (zset μ 18 (zI (μ 18) 0 1 (nI 0))) (nI 0) else f_RS_writeNote_51 N (zset μ 18 (zI (μ 18) 0 1 (nI 0))) := by
    unfold f_RS_writeNote
    dsimp only [bnd]
    rw [z0, c0]
  by_cases hn0 : a.1 0 = 0
  · obtain ⟨L', M2, g1, g2, g3, g4⟩ := wl_none hN (ν := μ) l0
    obtain ⟨N, rfl⟩ : ∃ t, N = t + 1 := ⟨N - 1, by omega⟩
    refine ⟨R', L', M2, 4, ?_, ?_, r1.2.2.2, g3, by decide, kM2.tr g4.keep, ?_⟩
    · rw [runC, if_pos (by rw [hn0]), g1, run51, f_RS_writeNote_64, zset_n _ _ (by decide), zset_n _ _ (by decide), c0, hn0, if_pos (Int32.le_refl _)]
    · rw [runM, f_Mo_writesNote_15, m0, hn0, if_pos (Int32.le_refl _), if_pos rfl]
      exact g2
    · rw [g4.1 1 (by decide) (by decide)]; exact k1
  · obtain ⟨L', M2, t', g1, g2, g3, g4, g5⟩ := wl_all (o := a.2.2.2) (F := fun p => frN (tS a a.2.2.2 p) (sgm (aL a) (tS a a.2.2.2) p)) (E := fun p => loN (aL a) p (tS a a.2.2.2 p) (sgm (aL a) (tS a a.2.2.2) p)) hN h7 (by omega) (ν := zset μ 21 R') (M0 := M') (wf_perm hw).1 (by rw [zset_n _ _ (by decide)]; exact c0) (fun p hp => by
      rw [zset_n _ _ (by decide), zset_s]
      exact ⟨(hS.2 p hp).2.2, (r1.2.2.1 p hp).1, (r1.2.2.1 p hp).2.2⟩) m0 (fun p hp => ⟨rO p hp, (r2.2 p hp).1, (r2.2 p hp).2.2.1⟩) (fun p hp => ⟨mkb_lt _ 20, mkb_lt _ 20⟩) (a.1 0) 0 N (zI (μ 18) 0 1 (nI 0)) M' 0 (by omega) (by omega) (kN.rf _) l0 (Nat.zero_le _)
    refine ⟨R', L', M2, t', ?_, ?_, r1.2.2.2, g3, g5, kM2.tr g4.keep, ?_⟩
    · rw [runC, if_neg (nI_n0 (by omega) (by omega)), run51]
      exact g1
    · rw [runM]; exact g2
    · rw [g4.1 1 (by decide) (by decide)]; exact k1
theorem o_letter {N : Nat} (hN : 200 ≤ N) : zop_letter N zInv := by
  intro μ x h
  rcases arg_pos x with ⟨k, hk, rfl⟩ | hx
  · obtain ⟨R', L', M', t', e1, e2, rR, lt, t64, kM, k1⟩ := s_note hN h
    obtain ⟨⟨a, hw, hS, hM⟩, hJ⟩ := id h
    have inv : zInv (zset (zset (zset μ 21 R') 18 L') 29 M') := by
      refine zInv_of ⟨a, hw, ?_, by rw [k1]; exact hM⟩ (zJ_keep (fun x hx => ?_) ?_ ?_ kM hJ)
      · rw [zset_n _ _ (by decide), zset_n _ _ (by decide)]; exact hS
      · rw [zset_n _ _ (by omega), zset_n _ _ (by omega)]
      · rw [zset_n _ _ (by decide), zset_s]; exact rR
      · rw [zset_n _ _ (by decide), zset_n _ _ (by decide)]; exact hJ.2.2.2.2.2
    have z29 : (zset (zset μ 21 R') 18 L') 29 = μ 29 := by rw [zset_n _ _ (by decide), zset_n _ _ (by decide)]
    have kp : nI 0 ≤ nI k := nI_le (Nat.zero_le _) hk
    by_cases hkt : k < t'
    · obtain ⟨c, c1, c2, c3⟩ := lt.2.2 k hkt
      have zk : zin (nI k) 64 := zin_nI (by omega) (by decide)
      have ck : (nI k).toNatClampNeg = k := nI_clamp (by omega)
      refine ⟨nI c, _, M', ?_, ?_, inv⟩
      · unfold f_RS_letter f_RS_letter_34
        rw [if_pos kp, e1, Option.bind_some, zset_s, lt.1, if_neg (nI_ge hkt (by omega))]
        unfold f_Le_at f_Le_at_22
        rw [if_neg (nI_nlt (Nat.zero_le _) (by omega)), lt.1, if_neg (nI_ge hkt (by omega)), show zlen 18 = 64 from rfl, if_pos zk, ck, c2, if_pos ⟨nI_le (Nat.zero_le _) (by omega), nI_lt (by omega) (by decide)⟩]
        rfl
      · rw [z29]
        unfold f_Mo_letter f_Mo_letter_29
        rw [if_pos kp, e2, Option.bind_some, lt.2.1, if_neg (nI_ge hkt (by omega)), if_pos zk, ck, c3]
    · refine ⟨-4, _, M', ?_, ?_, inv⟩
      · unfold f_RS_letter f_RS_letter_34
        rw [if_pos kp, e1, Option.bind_some, zset_s, lt.1, if_pos (nI_le (by omega) hk)]
      · rw [z29]
        unfold f_Mo_letter f_Mo_letter_29
        rw [if_pos kp, e2, Option.bind_some, lt.2.1, if_pos (nI_le (by omega) hk)]
  · refine ⟨-1, μ, μ 29, ?_, ?_, inv_same h⟩
    · unfold f_RS_letter
      rw [if_neg hx]
    · unfold f_Mo_letter
      rw [if_neg hx]
