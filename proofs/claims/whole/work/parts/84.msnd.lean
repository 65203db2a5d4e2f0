section M
variable {σ : ms_T} {m : Nat} {F : Fl} {S : Sa} {K : Int → Int} {n : Int} {T : Int → Int} {Q : mq_T}
theorem X9_frames {k f a b : Int} (hm : isM σ m) (hQ : ∀ τ, Sm σ τ (fun c => c = m + 1) → (∀ j, 0 ≤ j → ¬ (6 ≤ j ∧ j ≤ 10) → ro τ m j = ro σ m j) → (ro τ m 6 = k ∧ ro τ m 7 = f ∧ ro τ m 8 = a ∧ ro τ m 9 = b ∧ ro τ m 10 = 0) → Q none τ) : Ca n_X9_frames [vR (some m), vI k, vI f, vI a, vI b] σ Q := by
  obtain ⟨s0, g0, g1, g2, g4, g5, g11, z1, z2, z3, z4, z5, z6⟩ := id hm
  refine vc_X9_frames _ _ _ _ _ _ _ ?_
  simp only [gs_sI, gr_sI, s0, g0, z1, isS_some, true_and]
  refine ⟨by decide, by decide, by decide, by decide, by decide, by decide, by decide, by decide, by decide, by decide, hQ _ ?_ (fun j j0 j1 => ?_) ⟨?_, ?_, ?_, ?_, ?_⟩⟩
  · exact Sm.st (P := fun c => c = m + 1) (Sm.st (P := fun c => c = m + 1) (Sm.st (P := fun c => c = m + 1) (Sm.st (P := fun c => c = m + 1) Sm.one rfl) rfl) rfl) rfl
  · rw [ro_nk j0 (by decide) (by omega), ro_nk j0 (by decide) (by omega), ro_nk j0 (by decide) (by omega), ro_nk j0 (by decide) (by omega), ro_nk j0 (by decide) (by omega)]
  · rw [ro_nk (by decide) (by decide) (by decide), ro_nk (by decide) (by decide) (by decide), ro_nk (by decide) (by decide) (by decide), ro_nk (by decide) (by decide) (by decide), ro_eq]
  · rw [ro_nk (by decide) (by decide) (by decide), ro_nk (by decide) (by decide) (by decide), ro_nk (by decide) (by decide) (by decide), ro_eq]
  · rw [ro_nk (by decide) (by decide) (by decide), ro_nk (by decide) (by decide) (by decide), ro_eq]
  · rw [ro_nk (by decide) (by decide) (by decide), ro_eq]
  · rw [ro_eq]
set_option maxHeartbeats 4000000 in
theorem X9_shortens {p u : Int} {H : Iv} (hm : isM σ m) (h : LsR (ro σ m) (qb p + 2) H) (hk : ok H) (h1 : 1 ≤ ln H) (h4 : ln H ≤ 4) (p0 : 0 ≤ p) (p6 : p < 6) (hQ : ∀ τ, Sm σ τ (fun c => c = m + 1) → (∀ j, 0 ≤ j → ¬ (qb p + 2 ≤ j ∧ j < qb p + 11) → ro τ m j = ro σ m j) → LsR (ro τ m) (qb p + 2) (cutL H u) → Q none τ) : Ca n_X9_shortens [vR (some m), vI (qb p), vI (u + 1)] σ Q := by
  obtain ⟨s0, g0, g1, g2, g4, g5, g11, z1, z2, z3, z4, z5, z6⟩ := id hm
  have hb : qb p = 136 + 11 * p := rfl
  have e2 : gi σ (m + 1) (qb p + 2).toNat = ln H := h.1
  have e4 : gi σ (m + 1) (qb p + 4).toNat = le_ H 0 := by
    have := (h.2 0 (by omega) (by omega)).2
    rw [show qb p + 2 + 2 + 2 * 0 = qb p + 4 by omega] at this
    exact this
  refine vc_X9_shortens _ _ _ _ _ ?_
  rw [wr_i (x := qb p + 4) (by omega), wr_i (x := qb p + 2) (by omega), wr_i (x := qb p + 3) (by omega)]
  simp only [s0, g0, z1, e2, e4, isS_some, true_and]
  rw [wr_i (x := ln H - 1) (by omega)]
  refine ⟨by omega, by omega, fun c => ⟨by omega, by omega, by omega, by omega, ?_⟩, fun c => ⟨by omega, by omega, ?_⟩⟩
  · have ec : cutL H u = tab (ln H - 1) (fun i => lb H (i + 1)) (fun i => le_ H (i + 1)) := by unfold cutL; rw [if_neg (by omega), if_neg (by omega)]
    have key : ∀ (k : Nat) (x : Int) (τ : ms_T), qb p + 3 ≤ x → x ≤ qb p + 3 + 2 * (ln H - 1) → qb p + 3 + 2 * (ln H - 1) - x < k → Sm σ τ (fun c => c = m + 1) → (∀ j, 0 ≤ j → ¬ j = qb p + 2 → ro τ m j = if qb p + 3 ≤ j ∧ j < x then ro σ m (j + 2) else ro σ m j) → ro τ m (qb p + 2) = ln H - 1 → At n_X9_shortens 38 [some (vR (some m)), some (vI (qb p)), some (vI (u + 1)), some (vI x)] [] τ Q := by
      intro k
      induction k with
      | zero => intro x τ x0 x1 x2; omega
      | succ k ih =>
        intro x τ x0 x1 x2 hs he hn
        obtain ⟨s0, g0, g1, g2, g4, g5, g11, z1, z2, z3, z4, z5, z6⟩ := hm.sm hs
        have hn' : gi τ (m + 1) (qb p + 2).toNat = ln H - 1 := hn
        refine vc_X9_shortens_38 _ _ _ _ _ _ ?_
        rw [wr_i (x := qb p + 2) (by omega)]
        simp only [s0, g0, z1, hn', isS_some, true_and]
        rw [wr_i (x := qb p + 3) (by omega), wr_i (x := 2 * (ln H - 1)) (by omega), wr_i (x := qb p + 3 + 2 * (ln H - 1)) (by omega)]
        refine ⟨by omega, by omega, fun e => ?_, fun e => ?_⟩
        · have ex : x = qb p + 3 + 2 * (ln H - 1) := by omega
          rw [ex] at he
          refine hQ τ hs (fun j j0 j1 => by rw [he j j0 (by omega), if_neg (by omega)]) ?_
          rw [ec]
          refine ⟨by rw [ln_tab (by omega)]; exact hn, fun i i0 i1 => ?_⟩
          rw [ln_tab (by omega)] at i1
          rw [lb_tab i0 i1, le_tab i0 i1, he _ (by omega) (by omega), he _ (by omega) (by omega), if_pos (by omega), if_pos (by omega)]
          have hh := h.2 (i + 1) (by omega) (by omega)
          rw [show qb p + 2 + 1 + 2 * i + 2 = qb p + 2 + 1 + 2 * (i + 1) by omega, show qb p + 2 + 2 + 2 * i + 2 = qb p + 2 + 2 + 2 * (i + 1) by omega]
          exact hh
        · have e5 : gi τ (m + 1) (x + 2).toNat = ro σ m (x + 2) := by
            have := he (x + 2) (by omega) (by omega)
            rw [if_neg (by omega)] at this
            exact this
          rw [wr_i (x := x + 2) (by omega), wr_i (x := x + 1) (by omega), e5]
          refine ⟨by omega, by omega, by omega, by omega, ih (x + 1) _ (by omega) (by omega) (by omega) (hs.st rfl) (fun j j0 j1 => ?_) (by rw [ro_nk (by omega) (by omega) (by omega)]; exact hn)⟩
          by_cases ej : j = x
          · rw [ej, ro_eq, if_pos (by omega)]
          · rw [ro_nk j0 (by omega) ej, he j j0 j1]
            by_cases z : qb p + 3 ≤ j ∧ j < x
            · rw [if_pos z, if_pos (by omega)]
            · rw [if_neg z, if_neg (by omega)]
    exact key 7 (qb p + 3) _ (by omega) (by omega) (by omega) Sm.one (fun j j0 j1 => by rw [ro_nk j0 (by omega) j1, if_neg (by omega)]) ro_eq
  · have ec : cutL H u = tab (ln H) (fun i => if i = 0 then u + 1 else lb H i) (le_ H) := by unfold cutL; rw [if_neg (by omega), if_pos (by omega)]
    refine hQ _ Sm.one (fun j j0 j1 => by rw [ro_nk j0 (by omega) (by omega)]) ?_
    rw [ec]
    refine ⟨by rw [ln_tab (by omega), ro_nk (by omega) (by omega) (by omega)]; exact h.1, fun i i0 i1 => ?_⟩
    rw [ln_tab (by omega)] at i1
    have hh := h.2 i i0 i1
    rw [lb_tab i0 i1, le_tab i0 i1]
    refine ⟨?_, ?_⟩
    · by_cases e : i = 0
      · rw [if_pos e, e, show qb p + 2 + 1 + 2 * 0 = qb p + 3 by omega, ro_eq]
      · rw [if_neg e, ro_nk (by omega) (by omega) (by omega)]; exact hh.1
    · rw [ro_nk (by omega) (by omega) (by omega)]; exact hh.2
set_option maxHeartbeats 4000000 in
theorem X9_givesTurn {L : List Rq} (hm : isM σ m) (hq : QuR (ro σ m) L) (h6 : ql L ≤ 6) (h1 : 0 < ql L) (hf : ∀ k, 0 ≤ k → k < ql L → -1 ≤ rfl_ (qg L k) ∧ 0 ≤ rst (qg L k) ∧ rst (qg L k) < 5) (hQ : ∀ τ (v : Int), Sm σ τ (fun c => c = m + 1) → v = (if 0 ≤ diQ L then diQ L else 0) → ro τ m 4 = v → ro τ m 5 = wr (1 + ro σ m (sb (rst (qg L v)) + 3)) → (∀ j, 0 ≤ j → ¬ j = 4 → ¬ j = 5 → ro τ m j = ro σ m j) → Q none τ) : Ca n_X9_givesTurn [vR (some m)] σ Q := by
  obtain ⟨s0, g0, g1, g2, g4, g5, g11, z1, z2, z3, z4, z5, z6⟩ := id hm
  have e3 : gi σ (m + 1) (3 : Int).toNat = ql L := hq.1
  have hqb : ∀ k, qb k = 136 + 11 * k := fun k => rfl
  have key : ∀ (k : Nat) (j f : Int), -1 ≤ j → j < ql L → j + 1 < k → ((j < f ∧ f < ql L ∧ rfl_ (qg L f) = -1 ∧ ∀ i, j < i → i < f → ¬ rfl_ (qg L i) = -1) ∨ (f = 0 ∧ ∀ i, j < i → i < ql L → ¬ rfl_ (qg L i) = -1)) → At n_X9_givesTurn 11 [some (vR (some m)), some (vI f), some (vI j)] [] σ Q := by
    intro k
    induction k with
    | zero => intro j f j0 j1 j2; omega
    | succ k ih =>
      intro j f j0 j1 j2 hI
      refine vc_X9_givesTurn_11 _ _ _ _ _ ⟨fun e => ?_, fun e => ⟨s0, X9_requestAt (by omega) (by omega) ⟨_, rfl, ?_⟩⟩⟩
      · have ej : j = -1 := by omega
        rw [ej] at hI
        have fv : f = (if 0 ≤ diQ L then diQ L else 0) := by
          rcases hI with ⟨a, b, c, d⟩ | ⟨a, b⟩
          · have : diQ L = f := by
              unfold diQ
              exact frI_of (by omega) b (by simpa using c) (fun i i0 i1 => by simpa using d i (by omega) i1)
            rw [this, if_pos (by omega)]
          · have : diQ L = -1 := by
              unfold diQ
              exact frI_no (fun i i0 i1 => by simpa using b i (by omega) (by omega))
            rw [this, if_neg (by omega)]; exact a
        have f0 : 0 ≤ f ∧ f < ql L := by rcases hI with ⟨a, b, c, d⟩ | ⟨a, b⟩ <;> omega
        have hff := hf f f0.1 f0.2
        simp only [gs_sI, gr_sI, s0, g0, z1, isS_some, true_and]
        refine ⟨by decide, by decide, X9_requestAt f0.1 (by omega) ⟨_, rfl, ?_⟩⟩
        have e7 : gi (sI σ (m + 1) (4 : Int).toNat f) (m + 1) (qb f).toNat = rst (qg L f) := by
          rw [gi_nk (by rw [hqb]; omega)]
          exact (hq.2.1 f f0.1 f0.2).1
        simp only [gs_sI, gr_sI, s0, g0, z1, e7, isS_some, true_and]
        have hs1 : Sm σ (sI σ (m + 1) (4 : Int).toNat f) (fun c => c = m + 1) := Sm.one
        refine ⟨by rw [hqb]; omega, by rw [hqb]; omega, X9_station (hm.sm hs1) hff.2.1 hff.2.2 (by decide) (by decide) ⟨_, rfl, ?_⟩⟩
        have hsb : sb (rst (qg L f)) = 202 + 113 * rst (qg L f) := rfl
        rw [ro_nk (by omega) (by decide) (by omega)]
        simp only [gs_sI, z1, true_and]
        refine ⟨by decide, by decide, hQ _ f (hs1.st rfl) fv (by rw [ro_nk (by decide) (by decide) (by decide), ro_eq]) ro_eq (fun i i0 i4 i5 => by rw [ro_nk i0 (by decide) i5, ro_nk i0 (by decide) i4])⟩
      · have e8 : gi σ (m + 1) (qb j + 1).toNat = rfl_ (qg L j) := (hq.2.1 j (by omega) j1).2.1
        have hfj := hf j (by omega) j1
        rw [wr_i (x := qb j + 1) (by rw [hqb]; omega), wr_i (x := j + -1) (by omega)]
        simp only [s0, g0, z1, e8, isS_some, true_and]
        refine ⟨by rw [hqb]; omega, by rw [hqb]; omega, fun y => ih (j + -1) f (by omega) (by omega) (by omega) ?_, fun y => ih (j + -1) j (by omega) (by omega) (by omega) ?_⟩
        · rcases hI with ⟨a, b, c, d⟩ | ⟨a, b⟩
          · refine Or.inl ⟨by omega, b, c, fun i i0 i1 => ?_⟩
            by_cases ei : i = j
            · rw [ei]; omega
            · exact d i (by omega) i1
          · refine Or.inr ⟨a, fun i i0 i1 => ?_⟩
            by_cases ei : i = j
            · rw [ei]; omega
            · exact b i (by omega) i1
        · exact Or.inl ⟨by omega, j1, by omega, fun i i0 i1 => by omega⟩
  refine vc_X9_givesTurn _ _ _ ?_
  simp only [s0, g0, z1, e3, isS_some, true_and]
  rw [wr_i (x := ql L - 1) (by omega)]
  exact ⟨by decide, by decide, key (ql L + 1).toNat (ql L - 1) 0 (by omega) (by omega) (by omega) (Or.inr ⟨rfl, fun i i0 i1 => by omega⟩)⟩
end M
