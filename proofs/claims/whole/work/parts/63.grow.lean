/-! the order that is put together book by book -/
def gsc (C : Nat → Bool) (F A : Nat → Nat) : Nat → Option Nat × Nat × Nat
  | 0 => (none, 0, 0)
  | k + 1 => if C k = true ∧ ((gsc C F A k).1 = none ∨ F k < (gsc C F A k).2.1 ∨ (F k = (gsc C F A k).2.1 ∧ (gsc C F A k).2.2 < A k)) then (some k, F k, A k) else gsc C F A k
def gI : Option Nat → Int32
  | none => -4
  | some k => nI k
theorem gsc_y {C : Nat → Bool} {F A : Nat → Nat} {k : Nat} (h : C k = true ∧ ((gsc C F A k).1 = none ∨ F k < (gsc C F A k).2.1 ∨ (F k = (gsc C F A k).2.1 ∧ (gsc C F A k).2.2 < A k))) : gsc C F A (k + 1) = (some k, F k, A k) := if_pos h
theorem gsc_n {C : Nat → Bool} {F A : Nat → Nat} {k : Nat} (h : ¬ (C k = true ∧ ((gsc C F A k).1 = none ∨ F k < (gsc C F A k).2.1 ∨ (F k = (gsc C F A k).2.1 ∧ (gsc C F A k).2.2 < A k)))) : gsc C F A (k + 1) = gsc C F A k := if_neg h
theorem gsc_in {C : Nat → Bool} {F A : Nat → Nat} (hF : ∀ k, F k ≤ 20) (hA : ∀ k, A k ≤ 20) : ∀ n, ((gsc C F A n).2.1 ≤ 20 ∧ (gsc C F A n).2.2 ≤ 20) ∧ ∀ b, (gsc C F A n).1 = some b → b < n ∧ C b = true := by
  intro n
  induction n with
  | zero => exact ⟨⟨Nat.zero_le _, Nat.zero_le _⟩, fun b h => absurd h (by simp [gsc])⟩
  | succ n ih =>
    by_cases h : C n = true ∧ ((gsc C F A n).1 = none ∨ F n < (gsc C F A n).2.1 ∨ (F n = (gsc C F A n).2.1 ∧ (gsc C F A n).2.2 < A n))
    · rw [gsc_y h]
      refine ⟨⟨hF n, hA n⟩, fun b hb => ?_⟩
      have : n = b := Option.some.inj hb
      subst this
      exact ⟨Nat.lt_succ_self _, h.1⟩
    · rw [gsc_n h]
      exact ⟨ih.1, fun b hb => ⟨by have := (ih.2 b hb).1; omega, (ih.2 b hb).2⟩⟩
theorem gsc_ne {C : Nat → Bool} {F A : Nat → Nat} {k : Nat} (hk : C k = true) : ∀ n, k < n → (gsc C F A n).1 ≠ none := by
  intro n
  induction n with
  | zero => intro h; exact absurd h (Nat.not_lt_zero _)
  | succ n ih =>
    intro h
    by_cases hc : C n = true ∧ ((gsc C F A n).1 = none ∨ F n < (gsc C F A n).2.1 ∨ (F n = (gsc C F A n).2.1 ∧ (gsc C F A n).2.2 < A n))
    · rw [gsc_y hc]; exact fun e => by simp at e
    · rw [gsc_n hc]
      by_cases hkn : k = n
      · subst hkn
        exact fun e => hc ⟨hk, Or.inl e⟩
      · exact ih (by omega)
def gC (a : aS) (o : Nat → Nat) (p k : Nat) : Bool := (lfN o (a.1 0) p).testBit k && decide (aLd a k &&& lfN o (a.1 0) p = 0)
def gF (a : aS) (o : Nat → Nat) (p k : Nat) : Nat := pcb 20 (frN (aN (a.2.1 k) (a.1 1)) (sgm (aL a) (tS a o) p))
def gA (a : aS) (o : Nat → Nat) (p k : Nat) : Nat := pcb 20 (agN (aN (a.2.1 k) (a.1 1)) (sgm (aL a) (tS a o) p))
abbrev gG (a : aS) (o : Nat → Nat) (p : Nat) : Nat → Option Nat × Nat × Nat := gsc (gC a o p) (gF a o p) (gA a o p)
def gPk (a : aS) (o : Nat → Nat) (p : Nat) : Nat := ((gG a o p (a.1 0)).1).getD 0
def gro (a : aS) : Nat → Nat → Nat
  | 0 => id
  | p + 1 => va_up (gro a p) p (gPk a (gro a p) p)
theorem gC_t {a : aS} {o : Nat → Nat} {p k : Nat} : gC a o p k = true ↔ (lfN o (a.1 0) p).testBit k = true ∧ aLd a k &&& lfN o (a.1 0) p = 0 := by
  unfold gC
  rw [Bool.and_eq_true, decide_eq_true_iff]
theorem gPk_ok {a : aS} (hw : wfA a) (o : Nat → Nat) {p : Nat} (hp : p < a.1 0) : (gG a o p (a.1 0)).1 = some (gPk a o p) ∧ gPk a o p < a.1 0 ∧ gC a o p (gPk a o p) = true := by
  have h7 := hw.1.1
  have h1 := lfN_pcb (o := o) h7 p
  obtain ⟨b0, -, hb0⟩ := pcb_pos (x := lfN o (a.1 0) p) (a.1 0) (by omega)
  obtain ⟨b, hbn, hb, hz⟩ := min_left (wf_acy hw) (lfN_lt o (a.1 0) p) b0 hb0
  have hne := gsc_ne (C := gC a o p) (F := gF a o p) (A := gA a o p) (gC_t.mpr ⟨hb, hz⟩) (a.1 0) hbn
  have hin := (gsc_in (C := gC a o p) (F := gF a o p) (A := gA a o p) (fun _ => pcb_le 20 _) (fun _ => pcb_le 20 _) (a.1 0)).2
  unfold gPk
  cases hg : (gG a o p (a.1 0)).1 with
  | none => exact absurd hg hne
  | some c => exact ⟨rfl, hin c hg⟩
theorem gro_ok {a : aS} (hw : wfA a) : ∀ p, p ≤ a.1 0 → (∀ q, q < p → gro a p q < a.1 0) ∧ ∀ q r, q < p → r < p → gro a p q = gro a p r → q = r := by
  intro p
  induction p with
  | zero => intro _; exact ⟨fun q hq => absurd hq (by omega), fun q r hq _ _ => absurd hq (by omega)⟩
  | succ p ih =>
    intro hp
    obtain ⟨h1, h2⟩ := ih (by omega)
    obtain ⟨-, g2, g3⟩ := gPk_ok hw (gro a p) (p := p) (by omega)
    have hb := (lfN_bit (gro a p) (a.1 0) p (gPk a (gro a p) p)).mp (gC_t.mp g3).1
    show (∀ q, q < p + 1 → va_up (gro a p) p (gPk a (gro a p) p) q < a.1 0) ∧ ∀ q r, q < p + 1 → r < p + 1 → va_up (gro a p) p (gPk a (gro a p) p) q = va_up (gro a p) p (gPk a (gro a p) p) r → q = r
    refine ⟨fun q hq => ?_, fun q r hq hr e => ?_⟩
    · by_cases hqp : q = p
      · subst hqp; rw [vu_s]; exact g2
      · rw [vu_n _ _ hqp]; exact h1 q (by omega)
    · by_cases hqp : q = p
      · by_cases hrp : r = p
        · omega
        · rw [hqp, vu_s, vu_n _ _ hrp] at e
          exact absurd e.symm (hb.2 r (by omega))
      · by_cases hrp : r = p
        · rw [hrp, vu_s, vu_n _ _ hqp] at e
          exact absurd e (hb.2 q (by omega))
        · rw [vu_n _ _ hqp, vu_n _ _ hrp] at e
          exact h2 q r (by omega) (by omega) e
abbrev grw (a : aS) : Nat → Nat := gro a (a.1 0)
theorem grw_perm {a : aS} (hw : wfA a) : perm (grw a) (a.1 0) := gro_ok hw (a.1 0) (Nat.le_refl _)
theorem gI_neg {b : Option Nat} {n : Nat} (h : ∀ k, b = some k → k < n) (hn : n ≤ 7) : gI b < nI 0 ↔ b = none := by
  cases b with
  | none => exact ⟨fun _ => rfl, fun _ => by decide⟩
  | some k =>
    have := h k rfl
    refine ⟨fun q => absurd q (nI_nlt (Nat.zero_le _) (by omega)), fun q => absurd q (by simp)⟩
/-- the class looks for the next one -/
theorem s_next22 {N p : Nat} {a : aS} {o : Nat → Nat} (hw : wfA a) {μ : zM} (hp : p ≤ 7) (h6 : (μ 23).1 0 6 = nI (a.1 0)) (hs : ∀ i, i < a.1 0 → (μ 23).1 2 i = nI (aN (a.2.1 i) (a.1 1)) ∧ (μ 23).1 3 i = nI (aLd a i)) : ∀ m k nf, k + m = a.1 0 → m < nf → f_Se_nextGrown_22 N μ nf (nI (lfN o (a.1 0) p)) (nI (liN (sgm (aL a) (tS a o) p))) (gI (gG a o p k).1) (nI (gG a o p k).2.1) (nI (gG a o p k).2.2) (nI k) = some (gI (gG a o p (a.1 0)).1) := by
  have h7 := hw.1.1
  intro m
  induction m with
  | zero =>
    intro k nf hk hf
    obtain ⟨nf, rfl⟩ : ∃ t, nf = t + 1 := ⟨nf - 1, by omega⟩
    have : k = a.1 0 := by omega
    subst this
    rw [f_Se_nextGrown_22, h6, if_pos (Int32.le_refl _)]
  | succ m ih =>
    intro k nf hk hf
    obtain ⟨nf, rfl⟩ : ∃ t, nf = t + 1 := ⟨nf - 1, by omega⟩
    have zk : zin (nI k) 7 := zin_nI (by omega) (by decide)
    have ck : (nI k).toNatClampNeg = k := nI_clamp (by omega)
    have hlf : lfN o (a.1 0) p < 2 ^ 31 := lt31 h7 (lfN_lt o (a.1 0) p)
    obtain ⟨f1, f2⟩ := fr_eq (S := aN (a.2.1 k) (a.1 1)) (σ := sgm (aL a) (tS a o) p) (aN_lt (hw.2.1 k (by omega)).1.2)
    have eF : f_J_bitCount (nI (frN (aN (a.2.1 k) (a.1 1)) (sgm (aL a) (tS a o) p))) = some (nI (gF a o p k)) := s_bitCount (mkb_lt _ 20)
    have eA : f_J_bitCount (nI (agN (aN (a.2.1 k) (a.1 1)) (sgm (aL a) (tS a o) p))) = some (nI (gA a o p k)) := s_bitCount (mkb_lt _ 20)
    obtain ⟨m1, m0⟩ := s_mayCome (μ := μ) (ld := aLd a) (b := k) (lf := lfN o (a.1 0) p) (hs k (by omega)).2 (by omega) (aLd_lt hw k (by omega)) hlf
    obtain ⟨⟨b1, b2⟩, b3⟩ := gsc_in (C := gC a o p) (F := gF a o p) (A := gA a o p) (fun _ => pcb_le 20 _) (fun _ => pcb_le 20 _) k
    have b1' : (gG a o p k).2.1 ≤ 20 := b1
    have b2' : (gG a o p k).2.2 ≤ 20 := b2
    have bF : gF a o p k ≤ 20 := pcb_le 20 _
    have bA : gA a o p k ≤ 20 := pcb_le 20 _
    have ng := gI_neg (b := (gG a o p k).1) (n := k) (fun c hc => (b3 c hc).1) (by omega)
    have stay : gG a o p (k + 1) = gG a o p k → f_Se_nextGrown_121 N μ (f_Se_nextGrown_22 N μ nf) (nI (lfN o (a.1 0) p)) (nI (liN (sgm (aL a) (tS a o) p))) (gI (gG a o p k).1) (nI (gG a o p k).2.1) (nI (gG a o p k).2.2) (nI k) = some (gI (gG a o p (a.1 0)).1) := by
      intro e
      have := ih (k + 1) nf (by omega) (by omega)
      rw [e] at this
      rw [f_Se_nextGrown_121]
      dsimp only [bnd]
      rw [nI_add]
      exact this
    have go87 : ((gG a o p k).1 = none ∨ gF a o p k < (gG a o p k).2.1 ∨ (gF a o p k = (gG a o p k).2.1 ∧ (gG a o p k).2.2 < gA a o p k)) → f_Se_nextGrown_87 N μ (f_Se_nextGrown_22 N μ nf) (nI (lfN o (a.1 0) p)) (nI (liN (sgm (aL a) (tS a o) p))) (gI (gG a o p k).1) (nI (gG a o p k).2.1) (nI (gG a o p k).2.2) (nI k) (nI (gF a o p k)) (nI (gA a o p k)) = some (gI (gG a o p (a.1 0)).1) := by
      intro hb
      rw [f_Se_nextGrown_87, f_Se_nextGrown_92, if_neg nI_1_0]
      by_cases hc : gC a o p k = true
      · rw [m1 (gC_t.mp hc), Option.bind_some, if_neg nI_1_0, f_Se_nextGrown_121]
        dsimp only [bnd]
        have := ih (k + 1) nf (by omega) (by omega)
        have e : gG a o p (k + 1) = (some k, gF a o p k, gA a o p k) := gsc_y ⟨hc, hb⟩
        rw [e] at this
        rw [nI_add]
        exact this
      · rw [m0 (fun q => hc (gC_t.mpr q)), Option.bind_some, if_pos rfl]
        exact stay (gsc_n (fun q => hc q.1))
    have go91 : ¬ ((gG a o p k).1 = none ∨ gF a o p k < (gG a o p k).2.1 ∨ (gF a o p k = (gG a o p k).2.1 ∧ (gG a o p k).2.2 < gA a o p k)) → f_Se_nextGrown_91 N μ (f_Se_nextGrown_22 N μ nf) (nI (lfN o (a.1 0) p)) (nI (liN (sgm (aL a) (tS a o) p))) (gI (gG a o p k).1) (nI (gG a o p k).2.1) (nI (gG a o p k).2.2) (nI k) (nI (gF a o p k)) (nI (gA a o p k)) = some (gI (gG a o p (a.1 0)).1) := by
      intro hb
      rw [f_Se_nextGrown_91, f_Se_nextGrown_92, if_pos rfl]
      exact stay (gsc_n (fun q => hb q.2))
    rw [f_Se_nextGrown_22, h6, if_neg (nI_ge (by omega) (by omega)), if_pos zk]
    simp only [ck, (hs k (by omega)).1, b_andN, b_and, f1, f2, eF, Option.bind_some, if_pos zk, eA]
    by_cases h0 : (gG a o p k).1 = none
    · rw [if_pos (ng.mpr h0)]
      exact go87 (Or.inl h0)
    · rw [if_neg (fun q => h0 (ng.mp q))]
      by_cases h1 : gF a o p k < (gG a o p k).2.1
      · rw [if_pos (nI_lt h1 (by omega))]
        exact go87 (Or.inr (Or.inl h1))
      · rw [if_neg (nI_nlt (by omega) (by omega))]
        by_cases h2 : gF a o p k = (gG a o p k).2.1
        · rw [if_pos (by rw [h2])]
          by_cases h3 : (gG a o p k).2.2 < gA a o p k
          · rw [if_neg (nI_ge h3 (by omega))]
            exact go87 (Or.inr (Or.inr ⟨h2, h3⟩))
          · rw [if_pos (nI_le (by omega) (by omega))]
            exact go91 (fun q => by
              rcases q with q | q | q
              · exact h0 q
              · exact h1 q
              · exact h3 q.2)
        · rw [if_neg (fun q => h2 ((nI_eq (by omega) (by omega)).mp q))]
          exact go91 (fun q => by
            rcases q with q | q | q
            · exact h0 q
            · exact h1 q
            · exact h2 q.1)
theorem s_nextGrown {N p : Nat} (hN : 200 ≤ N) {a : aS} {o : Nat → Nat} (hw : wfA a) {μ : zM} (hp : p < a.1 0) (h6 : (μ 23).1 0 6 = nI (a.1 0)) (hs : ∀ i, i < a.1 0 → (μ 23).1 2 i = nI (aN (a.2.1 i) (a.1 1)) ∧ (μ 23).1 3 i = nI (aLd a i)) (hR : rdAll (μ 22) (a.1 0) (aL a) (tS a o) p) : f_Se_nextGrown N μ (nI p) (nI (lfN o (a.1 0) p)) = some (nI (gPk a o p)) := by
  have h7 := hw.1.1
  have hkn := s_known (p := p) (by omega) (sg_lt (by omega)) (hR.2.1 p (Nat.le_refl _))
  have h22 := s_next22 (N := N) (o := o) hw (μ := μ) (p := p) (by omega) h6 hs (a.1 0) 0 N (by omega) (by omega)
  rw [(gPk_ok hw o hp).1] at h22
  unfold f_Se_nextGrown
  rw [hkn, Option.bind_some]
  exact h22
def seF (S : zOb) (n pk ls : Nat) (o : Nat → Nat) : Prop := S.1 0 11 = nI pk ∧ S.1 0 12 = nI ls ∧ ∀ p, p < n → S.1 11 p = nI (o p)
theorem s_grow11 {N : Nat} (hN : 200 ≤ N) {a : aS} (hw : wfA a) {μ : zM} : ∀ m p nf R S, p + m = a.1 0 → m < nf → S.1 0 6 = nI (a.1 0) → (∀ i, i < a.1 0 → S.1 2 i = nI (aN (a.2.1 i) (a.1 1)) ∧ S.1 3 i = nI (aLd a i)) → rdAll R (a.1 0) (aL a) (tS a (gro a p)) p → rowIs (S.1 11) (gro a p) p → ∃ R' S', f_Se_grow_11 N nf (zset (zset μ 22 R) 23 S) (nI (lfN (gro a p) (a.1 0) p)) (nI p) = some (zset (zset μ 22 R') 23 S') ∧ rdOK R' ∧ seF S' (a.1 0) (oPk a (grw a)) (oLs a (grw a)) (grw a) := by
  have h7 := hw.1.1
  intro m
  induction m with
  | zero =>
    intro p nf R S hp hf h6 hs hR hr
    obtain ⟨nf, rfl⟩ : ∃ t, nf = t + 1 := ⟨nf - 1, by omega⟩
    have : p = a.1 0 := by omega
    subst this
    have z22 : ∀ S, (zset (zset μ 22 R) 23 S) 22 = R := fun S => by rw [zset_n _ _ (by decide), zset_s]
    have pk : f_Rd_peak N R = some (nI (oPk a (grw a))) := s_peak (F := fun p => frN (tS a (grw a) p) (sgm (aL a) (tS a (grw a)) p)) hN h7 hR.1.1 (fun p hp => ⟨(hR.2.2.1 p hp).1, mkb_lt _ 20⟩)
    have ls : f_Rd_loss N R = some (nI (oLs a (grw a))) := s_loss (F := fun p => loN (aL a) p (tS a (grw a) p) (sgm (aL a) (tS a (grw a)) p)) hN h7 hR.1.1 (fun p hp => ⟨(hR.2.2.1 p hp).2.2, mkb_lt _ 20⟩)
    refine ⟨R, zI (zI S 0 11 (nI (oPk a (grw a)))) 0 12 (nI (oLs a (grw a))), ?_, hR.2.2.2, rfl, rfl, hr⟩
    rw [f_Se_grow_11, zset_s, h6, if_pos (Int32.le_refl _), z22, pk, Option.bind_some]
    dsimp only [bnd]
    rw [zset_ss, z22, ls, Option.bind_some, zset_s, zset_ss]
  | succ m ih =>
    intro p nf R S hp hf h6 hs hR hr
    obtain ⟨nf, rfl⟩ : ∃ t, nf = t + 1 := ⟨nf - 1, by omega⟩
    have z22 : ∀ S, (zset (zset μ 22 R) 23 S) 22 = R := fun S => by rw [zset_n _ _ (by decide), zset_s]
    have hng := s_nextGrown (o := gro a p) (p := p) hN hw (μ := zset (zset μ 22 R) 23 S) (by omega) (by rw [zset_s]; exact h6) (by rw [zset_s]; exact hs) (by rw [z22]; exact hR)
    obtain ⟨-, g2, g3⟩ := gPk_ok hw (gro a p) (p := p) (by omega)
    have eg : gro a (p + 1) = va_up (gro a p) p (gPk a (gro a p) p) := rfl
    generalize hk : gPk a (gro a p) p = k at hng g2 g3 eg
    have eT : tS a (gro a (p + 1)) p = aN (a.2.1 k) (a.1 1) := by rw [eg]; unfold tS; rw [vu_s]
    have hag : agr (gro a p) (gro a (p + 1)) p := by rw [eg]; exact agr_up _ _ _
    obtain ⟨R', eR, aR, kR⟩ := rdAll_s (T := tS a (gro a (p + 1))) hN (aL_wf hw) h7 (show p < a.1 0 by omega) (by rw [eT]; exact aN_lt (hw.2.1 k g2).1.2) (rdAll_cg hR (tS_ag hag))
    rw [eT] at eR
    have zk : zin (nI k) 7 := zin_nI (by omega) (by decide)
    have ck : (nI k).toNatClampNeg = k := nI_clamp (by omega)
    have zp : zin (nI p) 7 := zin_nI (by omega) (by decide)
    have cp : (nI p).toNatClampNeg = p := nI_clamp (by omega)
    obtain ⟨R2, S2, e2, r2, f2⟩ := ih (p + 1) nf R' (zI S 11 p (nI k)) (by omega) (by omega) h6 hs aR (by
      intro q hq
      rw [zI_e, eg]
      by_cases hqp : q = p
      · subst hqp; rw [upd_s, vu_s]
      · rw [upd_n _ _ hqp, vu_n _ _ hqp]; exact hr q (by omega))
    refine ⟨R2, S2, ?_, r2, f2⟩
    rw [f_Se_grow_11, zset_s, h6, if_neg (nI_ge (by omega) (by omega)), hng, Option.bind_some, if_pos (nI_le (Nat.zero_le _) (by omega)), if_pos zk, z22]
    simp only [ck, (hs k g2).1]
    rw [eR, Option.bind_some]
    dsimp only [bnd]
    rw [if_pos zp, zset_n _ _ (by decide), zset_s, cp, b_one (by omega), b_andN, nI_add]
    rw [eg, lfN_up] at e2
    have ez : zset (zset (zset (zset μ 22 R) 23 S) 22 R') 23 (zI S 11 p (nI k)) = zset (zset μ 22 R') 23 (zI S 11 p (nI k)) := by
      rw [zset_comm _ _ _ (show (23 : Nat) ≠ 22 by decide), zset_ss, zset_ss]
    rw [ez]
    exact e2
theorem s_seekGrown {N : Nat} (hN : 200 ≤ N) {μ : zM} {a : aS} (hw : wfA a) (hS : repS (μ 0) a) (hr : rdOK (μ 22)) : ∃ μ', f_RS_seekBestOrGrown N μ (nI 1) = some μ' ∧ seF (μ' 23) (a.1 0) (oPk a (grw a)) (oLs a (grw a)) (grw a) ∧ rdOK (μ' 22) ∧ ∀ x, x ≠ 22 → x ≠ 23 → μ' x = μ x := by
  have h7 := hw.1.1
  obtain ⟨R, S, ep, bR, rR, hC, hs⟩ := s_prepare hN hw hS hr
  obtain ⟨R', S', e, r', f'⟩ := s_grow11 hN hw (μ := μ) (a.1 0) 0 N R S (by omega) (by omega) hC.1.1 (fun i hi => ⟨(hC.2 i hi).1, (hC.2 i hi).2.1⟩) (rdAll_0 h7 bR rR) (fun p hp => absurd hp (by omega))
  refine ⟨zset (zset μ 22 R') 23 S', ?_, by rw [zset_s]; exact f', by rw [zset_n _ _ (by decide), zset_s]; exact r', fun x h1 h2 => by rw [zset_n _ _ h2, zset_n _ _ h1]⟩
  have e2 : (nI 1 <<< (nI (a.1 0) &&& 31)) - nI 1 = nI (2 ^ a.1 0 - 1) := by rw [b_one (by omega), pk_sub (Nat.two_pow_pos _)]
  have e' : f_Se_grow_11 N N (zset (zset μ 22 R) 23 S) (nI (2 ^ a.1 0 - 1)) (nI 0) = some (zset (zset μ 22 R') 23 S') := e
  unfold f_RS_seekBestOrGrown f_RS_seekBestOrGrown_32 f_Se_grow
  rw [ep, Option.bind_some, if_neg nI_1_0]
  dsimp only [bnd]
  rw [zset_s, hC.1.1, e2, e']
  rfl
