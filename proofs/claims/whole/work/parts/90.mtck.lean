def inTm (m c : Nat) : Prop := c = m + 1 ∨ c = m + 3 ∨ c = m + 6
section M
variable {σ : ms_T} {m : Nat} {F : Fl} {S : Sa} {K : Int → Int} {n : Int} {T : Int → Int} {Q : mq_T}
theorem sd_V (hw : SaW F S) : SaV F (sdS F S) ∧ nst (sdS F S) = nst S ∧ now (sdS F S) = now S ∧ sts (sdS F S) = sts S ∧ (0 ≤ ptQ (que S) → que (sdS F S) = stQ (que S) (ptQ (que S)) (sndR F S (qg (que S) (ptQ (que S))))) ∧ ql (que (sdS F S)) = ql (que S) := by
  have hpb := pt_bd (que S)
  have hnn := ql_nn (que S)
  unfold sdS
  by_cases c : ptQ (que S) < 0
  · rw [if_pos c]
    exact ⟨⟨hw.1, hw.2.2.1, hw.2.2.2.1, MoC.q4 (S := S) hw⟩, rfl, rfl, rfl, fun z => by omega, rfl⟩
  · rw [if_neg c]
    refine ⟨⟨hw.1, hw.2.2.1, ?_, fun k k0 k1 => ?_⟩, rfl, rfl, rfl, fun _ => rfl, ?_⟩
    · show ql (stQ _ _ _) ≤ 6
      rw [ql_st]; exact hw.2.2.2.1
    · have k1 : k < ql (stQ (que S) (ptQ (que S)) (sndR F S (qg (que S) (ptQ (que S))))) := k1
      rw [ql_st] at k1
      show ln (rho (qg (stQ (que S) (ptQ (que S)) (sndR F S (qg (que S) (ptQ (que S))))) k)) ≤ 4
      rw [qg_st (by omega) (by omega) k0]
      split
      · have h1 := (cut_le (L := rho (qg (que S) (ptQ (que S)))) (u := (sndF F (now S) (qg (que S) (ptQ (que S)))).2.2.2)).1
        have h2 := MoC.q4 hw (ptQ (que S)) (by omega) (by omega)
        show ln (cutL (rho (qg (que S) (ptQ (que S)))) (sndF F (now S) (qg (que S) (ptQ (que S)))).2.2.2) ≤ 4
        omega
      · exact MoC.q4 hw k k0 k1
    · show ql (stQ _ _ _) = _
      rw [ql_st]
theorem sdF_k (hF : FW F) (hw : SaW F S) : ((sdF F S).1 = 0 ∨ (sdF F S).1 = 1 ∨ (sdF F S).1 = 2) ∧ -1 ≤ (sdF F S).2.1 := by
  have hpb := pt_bd (que S)
  unfold sdF
  by_cases c : ptQ (que S) < 0
  · rw [if_pos c]; exact ⟨Or.inl rfl, by decide⟩
  · rw [if_neg c]
    have hr := (hw.2.2.2.2.1 (ptQ (que S)) (by omega) (by omega)).2.1
    unfold sndF
    split
    · unfold entF
      split
      · next z => exact ⟨Or.inr (Or.inr rfl), by show -1 ≤ fsF F _ _; omega⟩
      · exact ⟨Or.inr (Or.inr rfl), by show (-1 : Int) ≤ -1; decide⟩
    · exact ⟨Or.inr (Or.inl rfl), hr.1⟩
set_option maxHeartbeats 8000000 in
theorem M_tick (h : MoC σ m F S K n T) (hF : FW F) (hw : SaW F S) (hn2 : now S ≤ 2000000) (hQ : ∀ τ, Sm σ τ (inTm m) → MoC τ m F (ticS F S) (frK (tkFr F S) (tkRc S)) n T → Q none τ) : Ca n_X9_tick [vR (some m)] σ Q := by
  have hwD := SaW_drp hw
  have hfr : frW F (tkFr F S) := (SaW_tick hF hw).2
  have n0 := hw.2.1
  have hpb := pt_bd (que (drpS F S))
  refine vd_X9_tick _ _ _ ⟨h.1.1, M_drops h hF hw hn2 fun τ hs hC => ⟨rfl, hC.1.1, M_sends hC hF hwD hn2 fun τ2 hs2 hC2 e4 => ⟨rfl, ?_⟩⟩⟩
  have e1 : sdS F (drpS F S) = tkS1 F S := rfl
  have e2 : sdF F (drpS F S) = tkFr F S := rfl
  obtain ⟨v1, v2, v3, v4, v5, v6⟩ := sd_V (F := F) hwD
  have vk := sdF_k hF hwD
  rw [e1] at v1 v2 v3 v4 v5 v6 hC2
  rw [e2] at vk hC2
  have v2 : nst (tkS1 F S) = nst S := v2
  have v3 : now (tkS1 F S) = now S := v3
  have v4 : sts (tkS1 F S) = sts S := v4
  refine M_dlv hC2 hF v1 (by omega) (by omega) hfr vk.1 vk.2 e4 fun υ hs3 hC3 f4 => ?_
  rw [rcv_eq v4 v3, v2] at hC3
  have hC3 : MwC υ m F (tkS2 F S) (frK (tkFr F S) (tkRc S)) n T := hC3
  have hVX : SaV F (tkS2 F S) := dlvS_V v1 hfr
  have hsA : Sm σ υ (inTm m) := ((hs.tr hs2).wk fun c hc => Or.inl hc).tr (hs3.wk fun c hc => (by unfold inA at hc; omega))
  have eq2 : que (tkS2 F S) = que (tkS1 F S) := rfl
  have en2 : nst (tkS2 F S) = nst S := v2
  have et2 : now (tkS2 F S) = now S := v3
  -- time goes on
  have fin : ∀ (ω : ms_T) (S' : Sa), Sm σ ω (inTm m) → MwC ω m F S' (frK (tkFr F S) (tkRc S)) n T → SaV F S' → (0 ≤ ro ω m 4 → 0 < ro ω m 5) → S' = tkS3 F S → At n_X9_tick 145 [some (vR (some m)), some (vI (nst (tkS1 F S)))] [] ω Q := by
    intro ω S' hsw hCw hV' hp hS'
    obtain ⟨hm, hR, h6, hT⟩ := id hCw
    obtain ⟨s0, g0, g1, g2, g4, g5, g11, z1, z2, z3, z4, z5, z6⟩ := id hm
    have en : now S' = now S ∧ nst S' = nst S := by
      rw [hS']
      unfold tkS3
      split
      · exact ⟨et2, en2⟩
      · unfold setS
        split
        · exact ⟨et2, en2⟩
        · split
          · exact ⟨et2, en2⟩
          · exact ⟨et2, en2⟩
    have e0 : gi ω (m + 1) (0 : Int).toNat = now S := hR.2.1.1.1.trans en.1
    refine vd_X9_tick_145 _ _ _ _ ?_
    simp only [s0, g0, z1, e0, isS_some, true_and]
    rw [wr_i (x := now S + 1) (by omega)]
    have hs9 : Sm ω (sI ω (m + 1) (0 : Int).toNat (now S + 1)) (fun c => c = m + 1) := Sm.one
    have ek : ∀ j, 0 ≤ j → ¬ j = 0 → ro (sI ω (m + 1) (0 : Int).toNat (now S + 1)) m j = ro ω m j := fun j j0 j1 => ro_nk j0 (by decide) j1
    have hSW' : ∀ i, 0 ≤ i → i < nst S' → SW F (sts S' i) := hV'.2.1
    have hn := hV'.1
    have hMw : MwC (sI ω (m + 1) (0 : Int).toNat (now S + 1)) m F (ticS F S) (frK (tkFr F S) (tkRc S)) n T := by
      refine MwC.row hm h6 hT hs9 (fun c hc => Or.inl hc) ⟨hR.1.eqv hF.2.1 (fun j z => ek j (by omega) (by omega)), ?_, fun w a b => (ek _ (by omega) (by omega)).trans (hR.2.2 w a b)⟩
      have et : ticS F S = (now S + 1, nst S, sts S', que S', tot S') := by rw [hS']; rfl
      rw [et]
      refine ⟨⟨ro_eq, (ek 1 (by decide) (by decide)).trans (hR.2.1.1.2.trans en.2)⟩, hR.2.1.2.1.eqv hV'.2.2.1 hV'.2.2.2 (fun j z => ek j (by omega) (by omega)), fun i a b => ?_, fun i a b => ?_, fun w a b => (ek _ (by omega) (by omega)).trans (hR.2.1.2.2.2.2 w a b)⟩
      · have b : i < nst S' := by rw [en.2]; exact b
        exact (hR.2.1.2.2.1 i a b).loc (hSW' i a b) fun j j0 j1 => ek j (by unfold sb at j0; omega) (by unfold sb at j0; omega)
      · have a : nst S' ≤ i := by rw [en.2]; exact a
        exact (hR.2.1.2.2.2.1 i a b).eqv fun j j0 j1 => ek j (by unfold sb at j0; omega) (by unfold sb at j0; omega)
    refine ⟨by decide, by decide, by decide, by decide, hQ _ (hsw.st (Or.inl rfl)) ⟨hMw.1, ⟨hMw.2.1.1, hMw.2.1.2.1, ?_, hMw.2.1.2.2⟩, hMw.2.2⟩⟩
    rw [ek 4 (by decide) (by decide), ek 5 (by decide) (by decide)]
    exact hp
  obtain ⟨hm, hR, h6, hT⟩ := id hC3
  obtain ⟨s0, g0, g1, g2, g4, g5, g11, z1, z2, z3, z4, z5, z6⟩ := id hm
  have q1 : gi υ (m + 1) (1 : Int).toNat = nst (tkS1 F S) := hR.2.1.1.2
  have q4 : gi υ (m + 1) (4 : Int).toNat = ptQ (que (drpS F S)) := f4
  have hqu : QuR (ro υ m) (que (tkS1 F S)) := hR.2.1.2.1
  have hl6 : ql (que (tkS1 F S)) ≤ 6 := hVX.2.2.1
  have hl4 : ∀ k, 0 ≤ k → k < ql (que (tkS1 F S)) → ln (rho (qg (que (tkS1 F S)) k)) ≤ 4 := hVX.2.2.2
  refine vd_X9_tick_10 _ _ _ _ ?_
  simp only [s0, g0, z1, q1, q4, isS_some, true_and]
  refine ⟨by decide, by decide, fun _ => ⟨by decide, by decide, fun c => ?_, fun c => ⟨by decide, by decide, X9_requestAt (by omega) (by omega) ⟨_, rfl, ?_⟩⟩⟩, fun z => absurd (Int.le_refl _) z⟩
  · refine fin υ (tkS2 F S) hsA hC3 hVX (fun z => by rw [f4] at z; omega) ?_
    unfold tkS3
    rw [if_pos c]
  · have p0 : 0 ≤ ptQ (que (drpS F S)) := by omega
    have p1 : ptQ (que (drpS F S)) < ql (que (tkS1 F S)) := by rw [v6]; omega
    generalize hp : ptQ (que (drpS F S)) = p at *
    have hqb : qb p = 136 + 11 * p := rfl
    have l2 : gi υ (m + 1) (qb p + 2).toNat = ln (rho (qg (que (tkS1 F S)) p)) := (hqu.2.1 p p0 p1).2.2.1
    have h5 : rle (qg (que (tkS1 F S)) p) = ro υ m 5 := by
      have := hqu.2.2.2.2 p p0 p1
      rw [f4, if_pos rfl] at this
      exact this
    have q5 : gi υ (m + 1) (5 : Int).toNat = rle (qg (que (tkS1 F S)) p) := h5.symm
    have e3S : tkS3 F S = setS (tkS2 F S) p := by
      unfold tkS3
      rw [hp, if_neg c]
    rw [wr_i (x := qb p + 2) (by omega)]
    simp only [s0, g0, z1, l2, q4, q5, isS_some, true_and]
    refine ⟨by omega, by omega, fun y => ⟨by decide, by decide, fun y2 => ?_, fun y2 => X9_goesBehind hm hqu hl6 hl4 p0 p1 f4 (by omega) fun ω hs4 hq4 g4' he => ⟨rfl, ?_⟩⟩, fun y => ⟨by decide, by decide, X9_removes hm hqu hl6 hl4 p0 p1 fun ω hs4 hq4 t1 t2 he => ⟨rfl, ?_⟩⟩⟩
    · refine fin υ (tkS2 F S) hsA hC3 hVX (fun _ => ?_) ?_
      · have : 0 ≤ rle (qg (que (tkS1 F S)) p) := by
          rw [v5 p0, qg_st p0 (by rw [← v6]; exact p1) p0, if_pos rfl]
          have hrw := hwD.2.2.2.2.1 p p0 (by rw [← v6]; exact p1)
          have := (lf0_bd (hwD.2.2.1 _ hrw.1.1 hrw.1.2) hrw).1
          show 0 ≤ lf0 (drpS F S) (qg (que (drpS F S)) p) - 1
          omega
        omega
      · rw [e3S]
        unfold setS
        rw [eq2, if_neg y, if_neg y2]
    · have hsw4 : Sm σ ω (inTm m) := hsA.tr (hs4.wk fun c hc => by unfold inTm; omega)
      have hV' : SaV F (now (tkS2 F S), nst (tkS2 F S), sts (tkS2 F S), mvQ (que (tkS1 F S)) p, tot (tkS2 F S)) := ⟨hVX.1, hVX.2.1, by show ql (mvQ _ _) ≤ 6; rw [ql_mv p0 p1]; exact hl6, fun k k0 k1 => by
        have k1 : k < ql (mvQ (que (tkS1 F S)) p) := k1
        rw [ql_mv p0 p1] at k1
        show ln (rho (qg (mvQ (que (tkS1 F S)) p) k)) ≤ 4
        rw [qg_mv p0 p1 k0 k1]
        split
        · exact hl4 k k0 k1
        · split
          · exact hl4 (k + 1) (by omega) (by omega)
          · exact hl4 p p0 p1⟩
      refine fin ω _ hsw4 (MwC.row hm h6 hT hs4 (fun c hc => by unfold inRow; omega) ⟨hR.1.eqv hF.2.1 (fun j z => he j (by omega) (by omega) (by omega) (by omega)), hR.2.1.qw hVX hq4 (fun w a b => (he _ (by omega) (by omega) (by omega) (by omega)).trans (hR.2.1.2.2.2.2 w a b)) (fun j z => he j (by omega) (by omega) (by omega) (by omega)), fun w a b => (he _ (by omega) (by omega) (by omega) (by omega)).trans (hR.2.2 w a b)⟩) hV' (fun z => by omega) ?_
      rw [e3S]
      unfold setS
      rw [eq2, if_neg y, if_pos (Decidable.not_not.mp y2)]
    · obtain ⟨s0, g0, g1, g2, g4, g5, g11, z1, z2, z3, z4, z5, z6⟩ := hm.sm hs4
      have e14 : gi ω (m + 1) (14 : Int).toNat = tot (tkS2 F S) 3 := (he 14 (by decide) (by decide) (by decide) (by decide)).trans (hR.2.1.2.2.2.2 3 (by decide) (by decide))
      simp only [s0, g0, z1, e14, isS_some, true_and]
      refine ⟨by decide, by decide, by decide, by decide, ?_⟩
      have ek : ∀ j, 0 ≤ j → ¬ j = 14 → ro (sI ω (m + 1) (14 : Int).toNat (wr (tot (tkS2 F S) 3 + 1))) m j = ro ω m j := fun j j0 j1 => ro_nk j0 (by decide) j1
      have hs5 : Sm υ (sI ω (m + 1) (14 : Int).toNat (wr (tot (tkS2 F S) 3 + 1))) (fun c => c = m + 1) := hs4.st rfl
      have hsw5 : Sm σ (sI ω (m + 1) (14 : Int).toNat (wr (tot (tkS2 F S) 3 + 1))) (inTm m) := hsA.tr (hs5.wk fun c hc => Or.inl hc)
      have hrm4 : ∀ k, 0 ≤ k → k < ql (rmQ (que (tkS1 F S)) p) → ln (rho (qg (rmQ (que (tkS1 F S)) p) k)) ≤ 4 := fun k k0 k1 => by
        rw [ql_rm p0 p1] at k1
        rw [qg_rm p0 k0]
        split
        · exact hl4 k k0 (by omega)
        · exact hl4 (k + 1) (by omega) (by omega)
      have hrm6 : ql (rmQ (que (tkS1 F S)) p) ≤ 6 := by rw [ql_rm p0 p1]; omega
      have hV' : SaV F (now (tkS2 F S), nst (tkS2 F S), sts (tkS2 F S), rmQ (que (tkS1 F S)) p, up (tot (tkS2 F S)) 3 (wr (tot (tkS2 F S) 3 + 1))) := ⟨hVX.1, hVX.2.1, hrm6, hrm4⟩
      refine fin _ _ hsw5 (MwC.row hm h6 hT hs5 (fun c hc => Or.inl hc) ⟨hR.1.eqv hF.2.1 (fun j z => (ek j (by omega) (by omega)).trans (he j (by omega) (by omega) (by omega) (by omega))), hR.2.1.qw hVX (hq4.eqv hrm6 hrm4 fun j z => ek j (by omega) (by omega)) (fun w a b => ?_) (fun j z => (ek j (by omega) (by omega)).trans (he j (by omega) (by omega) (by omega) (by omega))), fun w a b => (ek _ (by omega) (by omega)).trans ((he _ (by omega) (by omega) (by omega) (by omega)).trans (hR.2.2 w a b))⟩) hV' (fun z => by rw [ek 4 (by decide) (by decide), (t2 f4).1] at z; omega) ?_
      · by_cases e : w = 3
        · rw [e, up_eq]; exact ro_eq
        · rw [up_ne e, ek _ (by omega) (by omega)]
          exact (he _ (by omega) (by omega) (by omega) (by omega)).trans (hR.2.1.2.2.2.2 w a b)
      · rw [e3S]
        unfold setS
        rw [eq2, if_pos (Decidable.not_not.mp y)]
end M
