/-- holes found, the letters kept -/
def HlN (σ τ : ms_T) (m : Nat) (H : Iv) : Prop := HlM τ m H ∧ gi τ m 6 = gi σ m 6
theorem HlN.app {σ τ : ms_T} {m : Nat} {H : Iv} {u v w : Int} (h : HlN σ τ m H) (hw : w = ln H + 1) (hl : ln H ≤ 13) : HlN σ (sI (sI (sI τ (m + 4) (2 * ln H).toNat u) (m + 4) (2 * ln H + 1).toNat v) m 3 w) m (H ++ [(u, v)]) :=
  ⟨h.1.app hw hl, by rw [gi_nk (by omega), gi_ne (by omega), gi_ne (by omega)]; exact h.2⟩
set_option maxHeartbeats 4000000 in
theorem X9_holes6 {m : Nat} {σ : ms_T} {p lim : Int} {L : Iv} {Q : mq_T} (hm : isM σ m) (h : LsM σ m p L) (hk : ok L) (hp : 0 ≤ p) (hp2 : p + 25 ≤ 767) (hlim : -1 ≤ lim) (hlim2 : lim ≤ 4000000) (hQ : ∀ τ, Sm σ τ (inH m) → HlN σ τ m (holesL L lim) → Q none τ) : Ca n_X9_findHoles [vR (some m), vI p, vI lim] σ Q := by
  have hl := hk.1
  have hnn := ln_nn L
  have key : ∀ (k : Nat) (i z : Int) (y : Option mv_T) (τ : ms_T), 0 ≤ i → i ≤ ln L + 1 → ln L + 1 - i < k → z = hlB L lim i → Sm σ τ (inH m) → HlN σ τ m (hlH L lim i) → At n_X9_findHoles 10 [some (vR (some m)), some (vI p), some (vI lim), some (vI z), some (vI i), y] [] τ Q := by
    intro k
    induction k with
    | zero => intro i z y τ h0 h1 h2; omega
    | succ k ih =>
      intro i z y τ h0 h1 h2 hz hs hH
      have bH := hlH_bd hk (last := lim) h0 h1
      have bB := hlB_bd hk (last := lim) h0 h1
      have h110 : ∀ (y : Int) (τ : ms_T), i ≤ ln L → Sm σ τ (inH m) → HlN σ τ m (hlH L lim (i + 1)) → At n_X9_findHoles 110 [some (vR (some m)), some (vI p), some (vI lim), some (vI z), some (vI i), some (vI y)] [] τ Q := by
        intro y τ c0 hs hH
        obtain ⟨s0, g0, g1, g2, g4, g5, g11, z1, z2, z3, z4, z5, z6⟩ := hm.sm hs
        have hLs := h.eqv (τ := τ) hl (fun j _ _ => ro_sm hs (by unfold inH; omega) j)
        obtain ⟨hn, hb⟩ := hLs
        have hn' : gi τ (m + 1) p.toNat = ln L := hn
        have e2 := hlB_s (L := L) (last := lim) h0
        rw [← hz] at e2
        refine vc_X9_findHoles_110 _ _ _ _ _ _ _ _ ?_
        simp only [s0, g0, z1, hn', isS_some, true_and]
        refine ⟨by omega, by omega, fun e => ?_, fun e => ?_⟩
        · refine vc_X9_findHoles_140 _ _ _ _ _ _ _ _ _ ?_
          rw [wr_i (x := i + 1) (by omega)]
          rw [if_neg (by omega)] at e2
          exact ih (i + 1) _ _ τ (by omega) (by omega) (by omega) (by rw [e2]) hs hH
        · have hb' := hb i h0 (by omega)
          have g := hk.2 i h0 (by omega)
          rw [wr_i (x := p + 2) (by omega), wr_i (x := 2 * i) (by omega), wr_i (x := p + 2 + 2 * i) (by omega)]
          have e3 : gi τ (m + 1) (p + 2 + 2 * i).toNat = le_ L i := hb'.2
          rw [e3, wr_i (x := le_ L i + 1) (by omega)]
          refine ⟨by omega, by omega, vc_X9_findHoles_140 _ _ _ _ _ _ _ _ _ ?_⟩
          rw [wr_i (x := i + 1) (by omega)]
          rw [if_pos (by omega)] at e2
          exact ih (i + 1) _ _ τ (by omega) (by omega) (by omega) (by rw [e2]) hs hH
      have h51 : ∀ (w : Int), i ≤ ln L → min w lim = hlTo L lim i → At n_X9_findHoles 51 [some (vR (some m)), some (vI p), some (vI lim), some (vI z), some (vI i), y] [vI w] τ Q := by
        intro w c0 cw
        obtain ⟨s0, g0, g1, g2, g4, g5, g11, z1, z2, z3, z4, z5, z6⟩ := hm.sm hs
        have hc : gi τ m 3 = ln (hlH L lim i) := hH.1.1
        have e1 := hlH_s (L := L) (last := lim) h0
        rw [← hz, ← cw] at e1
        refine vc_X9_findHoles_51 _ _ _ _ _ _ _ _ _ ?_
        simp only [gs_sI, gr_sI, s0, g0, g4, z4, z1, hc, isS_some, true_and, gi_ne (show ¬ m = m + 4 by omega)]
        rw [wr_i (x := 2 * ln (hlH L lim i)) (by omega), wr_i (x := 2 * ln (hlH L lim i) + 1) (by omega), wr_i (x := ln (hlH L lim i) + 1) (by omega)]
        refine ⟨fun d => ⟨fun d2 => ?_, fun d2 => ⟨by omega, by omega, by omega, by omega, ?_⟩⟩, fun d => ⟨fun d2 => ?_, fun d2 => ⟨by omega, by omega, by omega, by omega, ?_⟩⟩⟩
        · rw [if_neg (by omega)] at e1
          exact h110 _ τ c0 hs (by rw [e1]; exact hH)
        · rw [if_pos (by omega)] at e1
          refine h110 _ _ c0 (((hs.st (Or.inr rfl)).st (Or.inr rfl)).st (Or.inl rfl)) ?_
          rw [e1, show min w lim = lim by omega]
          exact hH.app rfl (by omega)
        · rw [if_neg (by omega)] at e1
          exact h110 _ τ c0 hs (by rw [e1]; exact hH)
        · rw [if_pos (by omega)] at e1
          refine h110 _ _ c0 (((hs.st (Or.inr rfl)).st (Or.inr rfl)).st (Or.inl rfl)) ?_
          rw [e1, show min w lim = w by omega]
          exact hH.app rfl (by omega)
      obtain ⟨s0, g0, g1, g2, g4, g5, g11, z1, z2, z3, z4, z5, z6⟩ := hm.sm hs
      have hLs := h.eqv (τ := τ) hl (fun j _ _ => ro_sm hs (by unfold inH; omega) j)
      obtain ⟨hn, hb⟩ := hLs
      have hn' : gi τ (m + 1) p.toNat = ln L := hn
      refine vc_X9_findHoles_10 _ _ _ _ _ _ _ _ ?_
      simp only [s0, g0, z1, hn', isS_some, true_and]
      refine ⟨by omega, by omega, fun e => ?_, fun e => ⟨by omega, by omega, fun e2 => h51 _ (by omega) ?_, fun e2 => ?_⟩⟩
      · have ei : i = ln L + 1 := by omega
        rw [ei] at hH
        exact hQ τ hs hH
      · unfold hlTo; rw [if_neg (by omega)]
      · have hb' := hb i h0 (by omega)
        have g := hk.2 i h0 (by omega)
        rw [wr_i (x := p + 1) (by omega), wr_i (x := 2 * i) (by omega), wr_i (x := p + 1 + 2 * i) (by omega)]
        have e3 : gi τ (m + 1) (p + 1 + 2 * i).toNat = lb L i := hb'.1
        rw [e3, wr_i (x := lb L i - 1) (by omega)]
        refine ⟨by omega, by omega, h51 _ (by omega) ?_⟩
        unfold hlTo; rw [if_pos (by omega)]
  obtain ⟨s0, -⟩ := hm
  refine vc_X9_findHoles _ _ _ _ _ ⟨s0, key (ln L + 2).toNat 0 0 _ _ (by omega) (by omega) (by omega) rfl (Sm.rf.st (Or.inl rfl)) ⟨⟨gi_eq, fun i a b => ?_⟩, gi_nk (by omega)⟩⟩
  rw [hlH_0, ln_nil] at b
  omega
section M
variable {σ : ms_T} {m : Nat} {F : Fl} {S : Sa} {K : Int → Int} {n : Int} {T : Int → Int} {Q : mq_T}
theorem M_holes {p lim : Int} {L : Iv} (h : MoC σ m F S K n T) (hw : StX F S K n T) (hL : LsM σ m p L) (hk : ok L) (hp : 0 ≤ p) (hp2 : p + 25 ≤ 767) (hlim : -1 ≤ lim) (hlim2 : lim ≤ 4000000) (hQ : ∀ τ, Sm σ τ (inMo m) → MoC τ m F S K n T → HlM τ m (holesL L lim) → Q none τ) : Ca n_X9_findHoles [vR (some m), vI p, vI lim] σ Q :=
  X9_holes6 h.1 hL hk hp hp2 hlim hlim2 fun τ hs hH => by
    obtain ⟨a1, a2⟩ := h.hl hw hs (hH.2.trans h.2.2.1)
    exact hQ τ a1 a2 hH.1
theorem M_covered {i x : Int} (h : MoC σ m F S K n T) (hw : StX F S K n T) (hx : x ≤ 2147483647) (hQ : Q (some (vI (rCov S i x))) σ) : Ca n_X9_covered [vR (some m), vI i, vI x] σ Q := by
  unfold rCov at hQ
  refine vc_X9_covered _ _ _ _ _ ⟨h.1.1, M_isStation h hw (fun c => ⟨1, rfl, fun z => absurd z (by decide), fun _ => ⟨fun d => ?_, fun d => ?_⟩⟩) (fun c => ⟨0, rfl, fun _ => ?_, fun z => absurd rfl z⟩)⟩
  · rw [cif_p ⟨c, d⟩] at hQ
    obtain ⟨a1, a2, a3, a4⟩ := h.sta hw c
    obtain ⟨s0, g0, g1, g2, g4, g5, g11, z1, z2, z3, z4, z5, z6⟩ := h.1
    have hb : 202 ≤ sb i ∧ sb i ≤ 654 := by unfold sb; omega
    have hl := a2.2.1.1
    have hnn := ln_nn (cov (sts S i))
    have e1 : gi σ (m + 1) (sb i + 6).toNat = ln (cov (sts S i)) := a1.2.1.1
    refine X9_stationAt a3 (by omega) ⟨_, rfl, ?_⟩
    rw [wr_i (x := sb i + 6) (by omega)]
    simp only [s0, g0, z1, e1, isS_some, true_and]
    unfold numL at hQ
    refine ⟨fun e => ⟨by omega, by omega, fun y => ?_, fun y => ?_⟩, fun e => ⟨by omega, by omega, ?_⟩⟩
    · rw [wr_i (by omega)] at y
      rw [if_neg e, if_neg (by omega)] at hQ; exact hQ
    · rw [wr_i (by omega)] at y
      rw [wr_i (x := sb i + 6 + 1) (by omega), wr_i (x := sb i + 6 + 1 + x) (by omega)]
      refine ⟨by omega, by omega, ?_⟩
      rw [if_neg e, if_pos (by omega), td2 (by omega), tm2 (by omega)] at hQ
      have hb' := a1.2.1.2 (x / 2) (by omega) (by omega)
      by_cases e3 : x % 2 = 0
      · rw [if_pos e3, ← hb'.1, show sb i + 6 + 1 + 2 * (x / 2) = sb i + 6 + 1 + x by omega] at hQ; exact hQ
      · rw [if_neg e3, ← hb'.2, show sb i + 6 + 2 + 2 * (x / 2) = sb i + 6 + 1 + x by omega] at hQ; exact hQ
    · rw [if_pos (by omega)] at hQ; exact hQ
  · rw [cif_n fun z => d z.2] at hQ; exact hQ
  · rw [cif_n fun z => c z.1] at hQ; exact hQ
theorem M_timeHole {i x : Int} (h : MoC σ m F S K n T) (hw : StX F S K n T) (hQ : ∀ τ, Sm σ τ (inMo m) → MoC τ m F S K n T → Q (some (vI (rTHole S i x))) τ) : Ca n_X9_timeHole [vR (some m), vI i, vI x] σ Q := by
  unfold rTHole at hQ
  refine vc_X9_timeHole _ _ _ _ _ ⟨h.1.1, M_isStation h hw (fun c => ⟨1, rfl, fun z => absurd z (by decide), fun _ => ⟨fun d => ?_, fun d => ?_⟩⟩) (fun c => ⟨0, rfl, fun _ => ?_, fun z => absurd rfl z⟩)⟩
  · rw [cif_p ⟨c, d⟩] at hQ
    obtain ⟨a1, a2, a3, a4⟩ := h.sta hw c
    obtain ⟨s0, g0, g1, g2, g4, g5, g11, z1, z2, z3, z4, z5, z6⟩ := h.1
    have hb : 202 ≤ sb i ∧ sb i ≤ 654 := by unfold sb; omega
    have hn0 := hw.2.1.2.1
    have hn1 := hw.2.2.1
    have e0 : gi σ (m + 1) (0 : Int).toNat = now S := h.2.1.2.1.1.1
    refine X9_stationAt a3 (by omega) ⟨_, rfl, ?_⟩
    rw [wr_i (x := sb i + 6) (by omega)]
    simp only [s0, g0, z1, e0, isS_some, true_and]
    refine ⟨by decide, by decide, M_holes h hw a1.2.1 a2.2.1 (by omega) (by omega) (by omega) (by omega) fun τ hs hC hH => ⟨rfl, hC.1.1, ?_⟩⟩
    have hl := (ok_holes a2.2.1 (last := now S) (by omega)).1
    exact X9_holeNumber hC.1 hH hl d ⟨_, rfl, hQ τ hs hC⟩
  · rw [cif_n fun z => d z.2] at hQ; exact hQ σ Sm.rf h
  · rw [cif_n fun z => c z.1] at hQ; exact hQ σ Sm.rf h
theorem M_byteHole {i f x : Int} (h : MoC σ m F S K n T) (hw : StX F S K n T) (hQ : ∀ τ, Sm σ τ (inMo m) → MoC τ m F S K n T → Q (some (vI (rBHole F S i f x))) τ) : Ca n_X9_byteHole [vR (some m), vI i, vI f, vI x] σ Q := by
  unfold rBHole at hQ
  refine vc_X9_byteHole _ _ _ _ _ _ ⟨fun x0 => ⟨h.1.1, M_refusesOpen h hw (fun c d => ⟨0, rfl, fun _ => ⟨h.1.1, M_openAt h hw c.1 ⟨_, rfl, h.1.1, ?_⟩⟩, fun z => absurd (by decide) z⟩) (fun c d => ⟨_, rfl, fun z => absurd z (by decide), fun _ => ?_⟩) (fun c => ⟨_, rfl, fun z => absurd z (by decide), fun _ => ?_⟩)⟩, fun x0 => ⟨fun z => absurd z (by decide), fun _ => ?_⟩⟩
  · have b := opl_bd (sts S i) f
    have c0 := c.2.1
    have c2 := c.2.2
    have h30 := hw.1.2.1
    have hfl := hw.1.2.2 f c0 c2
    obtain ⟨e1, e2, e3, e4, e5⟩ := h.opn hw c.1 d b.2.1 (by rw [b.2.2 d]; exact c0)
    rw [cif_p ⟨c, x0⟩, cif_n (by omega)] at hQ
    unfold opA
    rw [if_neg (by omega)]
    refine X9_file h.1 c0 (by omega) (by decide) (by decide) ⟨_, rfl, h.1.1, ?_⟩
    rw [h.2.1.1.2 f c0 c2 0 (by decide) (by decide), wr_i (x := F.2 f 0 - 1) (by omega), wr_i (by omega)]
    refine M_holes h hw e1 e2 e3.1 e3.2 (by omega) (by omega) fun τ hs hC hH => ⟨rfl, hC.1.1, ?_⟩
    have hl := (ok_holes e2 (last := F.2 f 0 - 1) (by omega)).1
    exact X9_holeNumber hC.1 hH hl x0 ⟨_, rfl, hQ τ hs hC⟩
  · rw [cif_p ⟨c, x0⟩, cif_p d] at hQ; exact hQ σ Sm.rf h
  · rw [cif_n fun z => c z.1] at hQ; exact hQ σ Sm.rf h
  · rw [cif_n fun z => x0 z.2] at hQ; exact hQ σ Sm.rf h
end M
