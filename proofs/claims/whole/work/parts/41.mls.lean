/-! The reference's object: m, and its rows m + 1 (at) .. m + 6 (carried) -/
def isM (σ : ms_T) (m : Nat) : Prop := gs σ m = (9, 0) ∧ gr σ m 0 = some (m + 1) ∧ gr σ m 1 = some (m + 2) ∧ gr σ m 2 = some (m + 3) ∧ gr σ m 4 = some (m + 4) ∧ gr σ m 5 = some (m + 5) ∧ gr σ m 11 = some (m + 6) ∧ gs σ (m + 1) = (50, 767) ∧ gs σ (m + 2) = (50, 767) ∧ gs σ (m + 3) = (50, 28) ∧ gs σ (m + 4) = (50, 28) ∧ gs σ (m + 5) = (50, 60) ∧ gs σ (m + 6) = (50, 11)
theorem isM.sm {σ τ : ms_T} {m : Nat} {P : Nat → Prop} (h : isM σ m) (hs : Sm σ τ P) : isM τ m := by
  unfold isM at *
  simp only [hs.s, hs.r]
  exact h
/-- the row -/
def ro (σ : ms_T) (m : Nat) (i : Int) : Int := gi σ (m + 1) i.toNat
theorem ro_sm {σ τ : ms_T} {m : Nat} {P : Nat → Prop} (hs : Sm σ τ P) (h : ¬ P (m + 1)) (i : Int) : ro τ m i = ro σ m i := hs.i h
theorem ro_ne {σ : ms_T} {m c k : Nat} {v i : Int} (h : ¬ c = m + 1) : ro (sI σ c k v) m i = ro σ m i := gi_ne (fun z => h z.symm)
theorem ro_nk {σ : ms_T} {m : Nat} {j v i : Int} (h : 0 ≤ i) (h2 : 0 ≤ j) (h3 : ¬ i = j) : ro (sI σ (m + 1) j.toNat v) m i = ro σ m i := gi_nk (by omega)
theorem ro_eq {σ : ms_T} {m : Nat} {j v : Int} : ro (sI σ (m + 1) j.toNat v) m j = v := gi_eq
theorem X9_in {v lo hi : Int} {σ : ms_T} {Q : mq_T} (h1 : lo ≤ v ∧ v ≤ hi → Q (some (vI 1)) σ) (h0 : ¬ (lo ≤ v ∧ v ≤ hi) → Q (some (vI 0)) σ) : Ca n_X9_in [vI v, vI lo, vI hi] σ Q := by
  refine vc_X9_in _ _ _ _ _ ⟨fun e => ⟨Or.inl rfl, h0 (by omega)⟩, fun e => ⟨fun e2 => ⟨Or.inl rfl, h0 (by omega)⟩, fun e2 => ⟨Or.inr rfl, h1 (by omega)⟩⟩⟩
/-- a list in the row -/
def LsM (σ : ms_T) (m : Nat) (p : Int) (L : Iv) : Prop := ro σ m p = ln L ∧ ∀ i, 0 ≤ i → i < ln L → ro σ m (p + 1 + 2 * i) = lb L i ∧ ro σ m (p + 2 + 2 * i) = le_ L i
theorem LsM.eqv {σ τ : ms_T} {m : Nat} {p : Int} {L : Iv} (h : LsM σ m p L) (hl : ln L ≤ 12) (he : ∀ j, p ≤ j → j < p + 25 → ro τ m j = ro σ m j) : LsM τ m p L := by
  refine ⟨by rw [he p (by omega) (by omega)]; exact h.1, fun i a b => ?_⟩
  rw [he _ (by omega) (by omega), he _ (by omega) (by omega)]
  exact h.2 i a b
set_option maxHeartbeats 4000000 in
theorem X9_sizeOf {m : Nat} {σ : ms_T} {p : Int} {L : Iv} {Q : mq_T} (hm : isM σ m) (h : LsM σ m p L) (hk : ok L) (hp : 0 ≤ p) (hp2 : p + 2 * ln L < 767) (hQ : Q (some (vI (sizeL L))) σ) : Ca n_X9_sizeOf [vR (some m), vI p] σ Q := by
  obtain ⟨s0, g0, g1, g2, g4, g5, g11, z1, z2, z3, z4, z5, z6⟩ := hm
  obtain ⟨hn, hb⟩ := h
  have hl := hk.1
  have hnn := ln_nn L
  have key : ∀ (k : Nat) (i x : Int), 0 ≤ i → i ≤ ln L → ln L - i < k → x = smI (szF L) i → At n_X9_sizeOf 4 [some (vR (some m)), some (vI p), some (vI x), some (vI i)] [] σ Q := by
    intro k
    induction k with
    | zero => intro i x h0 h1 h2; omega
    | succ k ih =>
      intro i x h0 h1 h2 hx
      refine vc_X9_sizeOf_4 _ _ _ _ _ _ ?_
      have hn' : gi σ (m + 1) p.toNat = ln L := hn
      simp only [s0, g0, z1, hn', isS_some, true_and]
      refine ⟨by omega, by omega, fun e => ?_, fun e => ?_⟩
      · rw [hx, show i = ln L by omega]; exact hQ
      · have g := hk.2 i h0 (by omega)
        have g2 := sz_bd hk i h0 h1
        have hb' := hb i h0 (by omega)
        rw [wr_i (x := p + 2) (by omega), wr_i (x := p + 1) (by omega), wr_i (x := 2 * i) (by omega), wr_i (x := p + 2 + 2 * i) (by omega), wr_i (x := p + 1 + 2 * i) (by omega), wr_i (x := i + 1) (by omega)]
        have e1 : gi σ (m + 1) (p + 1 + 2 * i).toNat = lb L i := hb'.1
        have e2 : gi σ (m + 1) (p + 2 + 2 * i).toNat = le_ L i := hb'.2
        refine ⟨by omega, by omega, by omega, by omega, ?_⟩
        rw [e1, e2]
        refine ih _ _ (by omega) (by omega) (by omega) ?_
        rw [smI_s h0, ← hx, wr_i (x := le_ L i - lb L i) (by omega), wr_i (x := le_ L i - lb L i + 1) (by omega), wr_i (by omega)]
        unfold szF
        omega
  exact vc_X9_sizeOf _ _ _ _ (key (ln L + 1).toNat 0 0 (by omega) (ln_nn L) (by omega) rfl)
set_option maxHeartbeats 4000000 in
theorem X9_contains {m : Nat} {σ : ms_T} {p v : Int} {L : Iv} {Q : mq_T} (hm : isM σ m) (h : LsM σ m p L) (hk : ok L) (hp : 0 ≤ p) (hp2 : p + 25 ≤ 767) (hQ : Q (some (vI (hasB L v))) σ) : Ca n_X9_contains [vR (some m), vI p, vI v] σ Q := by
  obtain ⟨s0, g0, g1, g2, g4, g5, g11, z1, z2, z3, z4, z5, z6⟩ := hm
  obtain ⟨hn, hb⟩ := h
  have hl := hk.1
  have hnn := ln_nn L
  have hn' : gi σ (m + 1) p.toNat = ln L := hn
  have key : ∀ (k : Nat) (i x : Int), 0 ≤ i → i ≤ ln L → ln L - i < k → x = smI (ovF L v v) i → At n_X9_contains 5 [some (vR (some m)), some (vI p), some (vI v), some (vI x), some (vI i)] [] σ Q := by
    intro k
    induction k with
    | zero => intro i x h0 h1 h2; omega
    | succ k ih =>
      intro i x h0 h1 h2 hx
      have hh := has01 hk v i h0 h1
      rw [← hx] at hh
      refine vc_X9_contains_5 _ _ _ _ _ _ _ ?_
      simp only [s0, g0, z1, hn', isS_some, true_and]
      refine ⟨by omega, by omega, fun e => ⟨by omega, ?_⟩, fun e => ⟨fun e2 => ?_, fun e2 => ?_⟩⟩
      · have : hasB L v = x := by unfold hasB overL; rw [hx, show i = ln L by omega]
        rw [← this]; exact hQ
      · have h1' := has01 hk v (i + 1) (by omega) (by omega)
        rw [wr_i (x := i + 1) (by omega)]
        refine ih _ _ (by omega) (by omega) (by omega) ?_
        rcases hh with hh | ⟨hh, j, j1, j2, j3⟩
        · omega
        · rcases h1' with ⟨h3, h4⟩ | h3
          · exact absurd j3 (h4 j j1 (by omega))
          · omega
      · have hb' := hb i h0 (by omega)
        rw [wr_i (x := p + 2) (by omega), wr_i (x := p + 1) (by omega), wr_i (x := 2 * i) (by omega), wr_i (x := p + 2 + 2 * i) (by omega), wr_i (x := p + 1 + 2 * i) (by omega), wr_i (x := i + 1) (by omega)]
        have e1 : gi σ (m + 1) (p + 1 + 2 * i).toNat = lb L i := hb'.1
        have e3 : gi σ (m + 1) (p + 2 + 2 * i).toNat = le_ L i := hb'.2
        have g := hk.2 i h0 (by omega)
        refine ⟨by omega, by omega, by omega, by omega, ?_⟩
        rw [e1, e3]
        have hx0 : x = 0 := by omega
        have hs := smI_s (f := ovF L v v) h0
        rw [← hx, hx0] at hs
        refine X9_in (fun c => ⟨1, rfl, fun c2 => by omega, fun c2 => ?_⟩) (fun c => ⟨0, rfl, fun c2 => ?_, fun c2 => by omega⟩)
        · exact ih _ _ (by omega) (by omega) (by omega) (by rw [hs]; unfold ovF; omega)
        · exact ih _ _ (by omega) (by omega) (by omega) (by rw [hs]; unfold ovF; omega)
  exact vc_X9_contains _ _ _ _ _ (key (ln L + 1).toNat 0 0 (by omega) (ln_nn L) (by omega) rfl)
/-- the reference's holes, in its row of holes -/
def HlM (σ : ms_T) (m : Nat) (H : Iv) : Prop := gi σ m 3 = ln H ∧ ∀ i : Int, 0 ≤ i → i < ln H → gi σ (m + 4) (2 * i).toNat = lb H i ∧ gi σ (m + 4) (2 * i + 1).toNat = le_ H i
def inH (m c : Nat) : Prop := c = m ∨ c = m + 4
theorem HlM.app {τ : ms_T} {m : Nat} {H : Iv} {u v w : Int} (h : HlM τ m H) (hw : w = ln H + 1) (hl : ln H ≤ 13) : HlM (sI (sI (sI τ (m + 4) (2 * ln H).toNat u) (m + 4) (2 * ln H + 1).toNat v) m 3 w) m (H ++ [(u, v)]) := by
  have hnn := ln_nn H
  refine ⟨by rw [gi_eq, ln_app, hw], fun i a b => ?_⟩
  rw [ln_app] at b
  by_cases e : i < ln H
  · rw [lb_app a e, le_app a e]
    refine ⟨?_, ?_⟩
    · rw [gi_ne (by omega), gi_nk (by omega), gi_nk (by omega)]; exact (h.2 i a e).1
    · rw [gi_ne (by omega), gi_nk (by omega), gi_nk (by omega)]; exact (h.2 i a e).2
  · have e2 : i = ln H := by omega
    rw [lb_app' e2, le_app' e2, e2]
    refine ⟨?_, ?_⟩
    · rw [gi_ne (by omega), gi_nk (by omega), gi_eq]
    · rw [gi_ne (by omega), gi_eq]
set_option maxHeartbeats 4000000 in
theorem X9_findHoles {m : Nat} {σ : ms_T} {p lim : Int} {L : Iv} {Q : mq_T} (hm : isM σ m) (h : LsM σ m p L) (hk : ok L) (hp : 0 ≤ p) (hp2 : p + 25 ≤ 767) (hlim : -1 ≤ lim) (hlim2 : lim ≤ 4000000) (hQ : ∀ τ, Sm σ τ (inH m) → HlM τ m (holesL L lim) → Q none τ) : Ca n_X9_findHoles [vR (some m), vI p, vI lim] σ Q := by
  have hl := hk.1
  have hnn := ln_nn L
  have key : ∀ (k : Nat) (i z : Int) (y : Option mv_T) (τ : ms_T), 0 ≤ i → i ≤ ln L + 1 → ln L + 1 - i < k → z = hlB L lim i → Sm σ τ (inH m) → HlM τ m (hlH L lim i) → At n_X9_findHoles 10 [some (vR (some m)), some (vI p), some (vI lim), some (vI z), some (vI i), y] [] τ Q := by
    intro k
    induction k with
    | zero => intro i z y τ h0 h1 h2; omega
    | succ k ih =>
      intro i z y τ h0 h1 h2 hz hs hH
      have bH := hlH_bd hk (last := lim) h0 h1
      have bB := hlB_bd hk (last := lim) h0 h1
      have h110 : ∀ (y : Int) (τ : ms_T), i ≤ ln L → Sm σ τ (inH m) → HlM τ m (hlH L lim (i + 1)) → At n_X9_findHoles 110 [some (vR (some m)), some (vI p), some (vI lim), some (vI z), some (vI i), some (vI y)] [] τ Q := by
        intro y τ c0 hs hH
        obtain ⟨s0, g0, g1, g2, g4, g5, g11, z1, z2, z3, z4, z5, z6⟩ := hm.sm hs
        have hLs := h.eqv (τ := τ) hl (fun j _ _ => ro_sm hs (by unfold inH; omega) j)
        obtain ⟨hn, hb⟩ := hLs
        have hn' : gi τ (m + 1) p.toNat = ln L := hn
        have e2 := hlB_s (L := L) (last := lim) h0
        rw [← hz] at e2
        refine vc_X9_findHoles_110 _ _ _ _ _ _ _ _ ?_
        simp only [s0, g0, z1, hn', isS_some, true_and]
        refine ⟨by omega, by omega, fun e => ?_, fun e => ?_⟩
        · refine vc_X9_findHoles_140 _ _ _ _ _ _ _ _ _ ?_
          rw [wr_i (x := i + 1) (by omega)]
          rw [if_neg (by omega)] at e2
          exact ih (i + 1) _ _ τ (by omega) (by omega) (by omega) (by rw [e2]) hs hH
        · have hb' := hb i h0 (by omega)
          have g := hk.2 i h0 (by omega)
          rw [wr_i (x := p + 2) (by omega), wr_i (x := 2 * i) (by omega), wr_i (x := p + 2 + 2 * i) (by omega)]
          have e3 : gi τ (m + 1) (p + 2 + 2 * i).toNat = le_ L i := hb'.2
          rw [e3, wr_i (x := le_ L i + 1) (by omega)]
          refine ⟨by omega, by omega, vc_X9_findHoles_140 _ _ _ _ _ _ _ _ _ ?_⟩
          rw [wr_i (x := i + 1) (by omega)]
          rw [if_pos (by omega)] at e2
          exact ih (i + 1) _ _ τ (by omega) (by omega) (by omega) (by rw [e2]) hs hH
      have h51 : ∀ (w : Int), i ≤ ln L → min w lim = hlTo L lim i → At n_X9_findHoles 51 [some (vR (some m)), some (vI p), some (vI lim), some (vI z), some (vI i), y] [vI w] τ Q := by
        intro w c0 cw
        obtain ⟨s0, g0, g1, g2, g4, g5, g11, z1, z2, z3, z4, z5, z6⟩ := hm.sm hs
        have hc : gi τ m 3 = ln (hlH L lim i) := hH.1
        have e1 := hlH_s (L := L) (last := lim) h0
        rw [← hz, ← cw] at e1
        refine vc_X9_findHoles_51 _ _ _ _ _ _ _ _ _ ?_
        simp only [gs_sI, gr_sI, s0, g0, g4, z4, z1, hc, isS_some, true_and, gi_ne (show ¬ m = m + 4 by omega)]
        rw [wr_i (x := 2 * ln (hlH L lim i)) (by omega), wr_i (x := 2 * ln (hlH L lim i) + 1) (by omega), wr_i (x := ln (hlH L lim i) + 1) (by omega)]
        refine ⟨fun d => ⟨fun d2 => ?_, fun d2 => ⟨by omega, by omega, by omega, by omega, ?_⟩⟩, fun d => ⟨fun d2 => ?_, fun d2 => ⟨by omega, by omega, by omega, by omega, ?_⟩⟩⟩
        · rw [if_neg (by omega)] at e1
          exact h110 _ τ c0 hs (by rw [e1]; exact hH)
        · rw [if_pos (by omega)] at e1
          refine h110 _ _ c0 (((hs.st (Or.inr rfl)).st (Or.inr rfl)).st (Or.inl rfl)) ?_
          rw [e1, show min w lim = lim by omega]
          exact hH.app rfl (by omega)
        · rw [if_neg (by omega)] at e1
          exact h110 _ τ c0 hs (by rw [e1]; exact hH)
        · rw [if_pos (by omega)] at e1
          refine h110 _ _ c0 (((hs.st (Or.inr rfl)).st (Or.inr rfl)).st (Or.inl rfl)) ?_
          rw [e1, show min w lim = w by omega]
          exact hH.app rfl (by omega)
      obtain ⟨s0, g0, g1, g2, g4, g5, g11, z1, z2, z3, z4, z5, z6⟩ := hm.sm hs
      have hLs := h.eqv (τ := τ) hl (fun j _ _ => ro_sm hs (by unfold inH; omega) j)
      obtain ⟨hn, hb⟩ := hLs
      have hn' : gi τ (m + 1) p.toNat = ln L := hn
      refine vc_X9_findHoles_10 _ _ _ _ _ _ _ _ ?_
      simp only [s0, g0, z1, hn', isS_some, true_and]
      refine ⟨by omega, by omega, fun e => ?_, fun e => ⟨by omega, by omega, fun e2 => h51 _ (by omega) ?_, fun e2 => ?_⟩⟩
      · have ei : i = ln L + 1 := by omega
        rw [ei] at hH
        exact hQ τ hs hH
      · unfold hlTo; rw [if_neg (by omega)]
      · have hb' := hb i h0 (by omega)
        have g := hk.2 i h0 (by omega)
        rw [wr_i (x := p + 1) (by omega), wr_i (x := 2 * i) (by omega), wr_i (x := p + 1 + 2 * i) (by omega)]
        have e3 : gi τ (m + 1) (p + 1 + 2 * i).toNat = lb L i := hb'.1
        rw [e3, wr_i (x := lb L i - 1) (by omega)]
        refine ⟨by omega, by omega, h51 _ (by omega) ?_⟩
        unfold hlTo; rw [if_pos (by omega)]
  obtain ⟨s0, -⟩ := hm
  refine vc_X9_findHoles _ _ _ _ _ ⟨s0, key (ln L + 2).toNat 0 0 _ _ (by omega) (by omega) (by omega) rfl (Sm.rf.st (Or.inl rfl)) ⟨gi_eq, fun i a b => ?_⟩⟩
  rw [hlH_0, ln_nil] at b
  omega
theorem X9_holeNumber {m : Nat} {σ : ms_T} {ix : Int} {H : Iv} {Q : mq_T} (hm : isM σ m) (h : HlM σ m H) (hl : ln H ≤ 13) (hi : -1 ≤ ix) (hQ : Q (some (vI (numL H ix))) σ) : Ca n_X9_holeNumber [vR (some m), vI ix] σ Q := by
  obtain ⟨s0, g0, g1, g2, g4, g5, g11, z1, z2, z3, z4, z5, z6⟩ := hm
  obtain ⟨hn, hb⟩ := h
  have hnn := ln_nn H
  unfold numL at hQ
  refine vc_X9_holeNumber _ _ _ _ ?_
  simp only [s0, g4, z4, hn, isS_some, true_and]
  rw [wr_i (x := 2 * ln H) (by omega)]
  refine ⟨fun e => ⟨fun e2 => ?_, fun e2 => ⟨by omega, by omega, ?_⟩⟩, fun e => ?_⟩
  · rw [if_neg e, if_neg (by omega)] at hQ; exact hQ
  · rw [if_neg e, if_pos (by omega), td2 (by omega), tm2 (by omega)] at hQ
    have hb' := hb (ix / 2) (by omega) (by omega)
    by_cases e3 : ix % 2 = 0
    · rw [if_pos e3, ← hb'.1, show 2 * (ix / 2) = ix by omega] at hQ; exact hQ
    · rw [if_neg e3, ← hb'.2, show 2 * (ix / 2) + 1 = ix by omega] at hQ; exact hQ
  · rw [if_pos (by omega)] at hQ; exact hQ
