theorem rcv_eq {S S' : Sa} {rc k : Int} (h1 : sts S' = sts S) (h2 : now S' = now S) : rcv S' rc k = rcv S rc k := by
  unfold rcv
  generalize k.toNat = n
  induction n with
  | zero => rfl
  | succ n ih =>
    show (if seesB (sts S' n) (now S') = true ∧ ¬ hitB (sts S' n) n (now S') = true then bOr (rcvN S' rc n) (bShl 1 n) else rcvN S' rc n) = (if seesB (sts S n) (now S) = true ∧ ¬ hitB (sts S n) n (now S) = true then bOr (rcvN S rc n) (bShl 1 n) else rcvN S rc n)
    rw [h1, h2, ih]
theorem trQ_bd (Q : List Rq) : -1 ≤ trQ Q ∧ trQ Q < ql Q ∧ (0 ≤ trQ Q → 0 < rle (qg Q (trQ Q))) := by
  have h1 := lsI_bd (p := fun i => decide (0 < rle (qg Q i))) (ql Q).toNat
  have := ql_nn Q
  unfold trQ
  refine ⟨h1.1, by omega, fun z => ?_⟩
  have := h1.2.2 z
  simpa using this
theorem trQ_none {Q : List Rq} (h : trQ Q < 0) : ∀ k, 0 ≤ k → k < ql Q → ¬ 0 < rle (qg Q k) := by
  intro k a b z
  have key : ∀ n : Nat, k < n → 0 ≤ lsI (fun i => decide (0 < rle (qg Q i))) n := by
    intro n
    induction n with
    | zero => intro h; omega
    | succ n ih =>
      intro h
      show 0 ≤ (if decide (0 < rle (qg Q (n : Int))) = true then (n : Int) else lsI (fun i => decide (0 < rle (qg Q i))) n)
      split
      · omega
      · next e =>
        by_cases e2 : k = n
        · rw [e2] at z
          exact absurd (by simpa using z) e
        · exact ih (by omega)
  have := key (ql Q).toNat (by omega)
  unfold trQ at h
  omega
/-- but for the one that is sent, none has frames left -/
theorem left0 {F : Fl} {S : Sa} (h : SaW F S) {k : Int} (k0 : 0 ≤ k) (hk : k < ql (que S)) (hne : ¬ k = ptQ (que S)) : rle (qg (que S) k) = 0 := by
  obtain ⟨-, -, -, -, h5, -, h7, -⟩ := h
  have hr := (h5 k k0 hk).2.2.2.2.2
  have ht := trQ_bd (que S)
  by_cases e : 0 ≤ trQ (que S)
  · have hp : ptQ (que S) = trQ (que S) := by unfold ptQ; rw [if_pos e]
    rw [hp] at hne
    have := ht.2.2 e
    rcases Int.lt_or_gt_of_ne hne with z | z
    · have := h7 k (trQ (que S)) k0 z ht.2.1
      omega
    · have := h7 (trQ (que S)) k e z hk
      omega
  · have := trQ_none (Q := que S) (by omega) k k0 hk
    omega
theorem mem_st {Q : List Rq} {i : Int} {r x : Rq} (h : x ∈ stQ Q i r) : x ∈ Q ∨ x = r := List.mem_or_eq_of_mem_set h
theorem SaW_tick {F : Fl} {S : Sa} (hF : FW F) (h : SaW F S) : SaW F (ticS F S) ∧ frW F (tkFr F S) := by
  have h1 := SaW_drp h
  have hb := pt_bd (que (drpS F S))
  have hlp := fun k k0 hk hne => left0 h1 (k := k) k0 hk hne
  by_cases e : ptQ (que (drpS F S)) < 0
  · have hfr : frW F (tkFr F S) := by
      unfold tkFr
      rw [if_pos e]
      exact ⟨fun z => by rcases z with z | z <;> exact absurd z (by decide), fun z => absurd z (by decide)⟩
    refine ⟨?_, hfr⟩
    have e1 : tkS1 F S = (now S, nst S, sts S, que (drpS F S), up (tot (drpS F S)) 2 (wr (tot (drpS F S) 2 + 1))) := by unfold tkS1; rw [if_pos e]
    have e3 : ticS F S = (now S + 1, nst S, dlvF (tkS1 F S) (tkFr F S) (nst S), que (drpS F S), up (tot (drpS F S)) 2 (wr (tot (drpS F S) 2 + 1))) := by
      unfold ticS tkS3
      rw [if_pos e]
      unfold tkS2 dlvS
      rw [e1]
      rfl
    rw [e3]
    rw [SaW_iff] at *
    obtain ⟨a1, a2, a3, a4, a5⟩ := h1
    refine ⟨a1, by show 0 ≤ now S + 1; have := h.2.1; omega, fun i i0 i1 => ?_, a4, rg_up a5 (rg_wr _)⟩
    show SW F (dlvF (tkS1 F S) (tkFr F S) (nst S) i)
    unfold dlvF
    split
    · refine SW_dlv ?_ hfr
      rw [e1]
      exact a3 i i0 i1
    · rw [e1]; exact a3 i i0 i1
  · have hi0 : 0 ≤ ptQ (que (drpS F S)) := by omega
    have hi1 : ptQ (que (drpS F S)) < ql (que (drpS F S)) := by omega
    generalize hid : ptQ (que (drpS F S)) = i at *
    have hrw := h1.2.2.2.2.1 i hi0 hi1
    have hsw := h1.2.2.1 _ hrw.1.1 hrw.1.2
    have hfr : frW F (tkFr F S) := by
      unfold tkFr
      rw [hid, if_neg e]
      exact frW_snd hF hrw
    refine ⟨?_, hfr⟩
    have e1 : tkS1 F S = sndS F (drpS F S) i := by unfold tkS1; rw [hid, if_neg e]
    have hq2 : que (tkS2 F S) = stQ (que (drpS F S)) i (sndR F (drpS F S) (qg (que (drpS F S)) i)) := by unfold tkS2 dlvS; rw [e1]; rfl
    have ht2 : ∀ w, 0 ≤ w → w < 5 → rg (tot (tkS2 F S) w) := by
      have h5 := h1.2.2.2.2.2.2.2
      intro w w0 w1
      unfold tkS2 dlvS
      rw [e1]
      show rg ((if rfl_ (qg (que (drpS F S)) i) = -1 then up (tot (drpS F S)) 1 (wr (tot (drpS F S) 1 + 1)) else up (tot (drpS F S)) 0 (wr (tot (drpS F S) 0 + 1))) w)
      split
      · exact rg_up h5 (rg_wr _) w w0 w1
      · exact rg_up h5 (rg_wr _) w w0 w1
    have hst2 : ∀ j, 0 ≤ j → j < nst S → SW F (sts (tkS2 F S) j) := by
      intro j j0 j1
      show SW F (dlvF (tkS1 F S) (tkFr F S) (nst S) j)
      unfold dlvF
      rw [if_pos ⟨j0, j1⟩]
      refine SW_dlv ?_ hfr
      rw [e1]
      exact h1.2.2.1 j j0 j1
    have hqr : qg (que (tkS2 F S)) i = sndR F (drpS F S) (qg (que (drpS F S)) i) := by rw [hq2, qg_st hi0 hi1 hi0, if_pos rfl]
    have hql : ql (que (tkS2 F S)) = ql (que (drpS F S)) := by rw [hq2, ql_st]
    have hqo : ∀ k, 0 ≤ k → k < ql (que (drpS F S)) → ¬ k = i → qg (que (tkS2 F S)) k = qg (que (drpS F S)) k := fun k k0 k1 hk => by rw [hq2, qg_st hi0 hi1 k0, if_neg hk]
    have hd := h1.2.2.2.2.2.1
    -- whatever becomes of it: distinct stations, at most one with frames left
    have hdist : ∀ k j, 0 ≤ k → k < j → j < ql (que (tkS2 F S)) → ¬ rst (qg (que (tkS2 F S)) k) = rst (qg (que (tkS2 F S)) j) := by
      intro k j k0 kj j1
      rw [hql] at j1
      have hh := hd k j k0 kj j1
      by_cases ek : k = i
      · rw [ek, hqr, hqo j (by omega) j1 (by omega)]
        rw [ek] at hh
        exact hh
      · rw [hqo k k0 (by omega) ek]
        by_cases ej : j = i
        · rw [ej, hqr]
          rw [ej] at hh
          exact hh
        · rw [hqo j (by omega) j1 ej]
          exact hh
    have hone : ∀ k j, 0 ≤ k → k < j → j < ql (que (tkS2 F S)) → ¬ (0 < rle (qg (que (tkS2 F S)) k) ∧ 0 < rle (qg (que (tkS2 F S)) j)) := by
      intro k j k0 kj j1 z
      rw [hql] at j1
      by_cases ek : k = i
      · have ej : ¬ j = i := by omega
        rw [hqo j (by omega) j1 ej, hlp j (by omega) j1 ej] at z
        omega
      · rw [hqo k k0 (by omega) ek, hlp k k0 (by omega) ek] at z
        omega
    have hel : ∀ k, 0 ≤ k → k < ql (que (drpS F S)) → ¬ k = i → RqW F S (qg (que (tkS2 F S)) k) := fun k k0 k1 hk => by
      rw [hqo k k0 k1 hk]
      exact RqW_nst rfl (h1.2.2.2.2.1 k k0 k1)
    have hnst : nst (ticS F S) = nst S := rfl
    have hnow : now (ticS F S) = now S + 1 := rfl
    have h3 : tkS3 F S = setS (tkS2 F S) i := by unfold tkS3; rw [hid, if_neg e]
    have hw1 := h.1
    have hw2 := h.2.1
    have hq6 := h1.2.2.2.1
    unfold ticS
    rw [h3]
    unfold setS
    rw [hqr]
    by_cases c1 : ln (rho (sndR F (drpS F S) (qg (que (drpS F S)) i))) = 0
    · rw [if_pos c1]
      refine ⟨hw1, by show 0 ≤ now S + 1; omega, hst2, ?_, fun k k0 k1 => ?_, ?_, ?_, rg_up ht2 (rg_wr _)⟩
      · show ql (rmQ (que (tkS2 F S)) i) ≤ 6
        rw [ql_rm hi0 (by rw [hql]; exact hi1), hql]
        omega
      · have k1 : k < ql (rmQ (que (tkS2 F S)) i) := k1
        rw [ql_rm hi0 (by rw [hql]; exact hi1), hql] at k1
        refine RqW_nst (S := S) rfl ?_
        show RqW F S (qg (rmQ (que (tkS2 F S)) i) k)
        rw [qg_rm hi0 k0]
        split
        · exact hel k k0 (by omega) (by omega)
        · exact hel (k + 1) (by omega) (by omega) (by omega)
      · exact (pw_iff (R := fun r r' => ¬ rst r = rst r') (Q := rmQ (que (tkS2 F S)) i)).mpr (((pw_iff (R := fun r r' => ¬ rst r = rst r') (Q := que (tkS2 F S))).mp hdist).sublist (List.eraseIdx_sublist _ _))
      · exact (pw_iff (R := fun r r' => ¬ (0 < rle r ∧ 0 < rle r')) (Q := rmQ (que (tkS2 F S)) i)).mpr (((pw_iff (R := fun r r' => ¬ (0 < rle r ∧ 0 < rle r')) (Q := que (tkS2 F S))).mp hone).sublist (List.eraseIdx_sublist _ _))
    · rw [if_neg c1]
      have hnew : RqW F S (sndR F (drpS F S) (qg (que (drpS F S)) i)) := RqW_nst rfl (RqW_snd (S := drpS F S) hF hsw hrw (by
        have := ln_nn (sndH F (now (drpS F S)) (qg (que (drpS F S)) i))
        have c2 : ¬ ln (sndH F (now (drpS F S)) (qg (que (drpS F S)) i)) = 0 := c1
        omega))
      have hall : ∀ k, 0 ≤ k → k < ql (que (drpS F S)) → RqW F S (qg (que (tkS2 F S)) k) := fun k k0 k1 => by
        by_cases ek : k = i
        · rw [ek, hqr]; exact hnew
        · exact hel k k0 k1 ek
      by_cases c2 : rle (sndR F (drpS F S) (qg (que (drpS F S)) i)) = 0
      · rw [if_pos c2]
        have hml := ql_mv hi0 (show i < ql (que (tkS2 F S)) by rw [hql]; exact hi1)
        refine ⟨hw1, by show 0 ≤ now S + 1; omega, hst2, ?_, fun k k0 k1 => ?_, ?_, ?_, ht2⟩
        · show ql (mvQ (que (tkS2 F S)) i) ≤ 6
          rw [hml, hql]
          omega
        · have k1 : k < ql (mvQ (que (tkS2 F S)) i) := k1
          rw [hml, hql] at k1
          refine RqW_nst (S := S) rfl ?_
          show RqW F S (qg (mvQ (que (tkS2 F S)) i) k)
          rw [qg_mv hi0 (by rw [hql]; exact hi1) k0 (by rw [hql]; exact k1)]
          split
          · exact hall k k0 k1
          · split
            · exact hall (k + 1) (by omega) (by rw [hql] at *; omega)
            · exact hall i hi0 hi1
        · refine (pw_iff (R := fun r r' => ¬ rst r = rst r') (Q := mvQ (que (tkS2 F S)) i)).mpr ?_
          refine List.pairwise_append.mpr ⟨((pw_iff (R := fun r r' => ¬ rst r = rst r') (Q := que (tkS2 F S))).mp hdist).sublist (List.eraseIdx_sublist _ _), List.pairwise_singleton _ _, fun a ha b hb => ?_⟩
          rw [List.mem_singleton] at hb
          rw [hb]
          have := (all_iff (P := fun a => ¬ rst a = rst (qg (que (tkS2 F S)) i)) (Q := rmQ (que (tkS2 F S)) i)).mp (fun k k0 k1 => ?_) a ha
          · exact this
          · rw [ql_rm hi0 (by rw [hql]; exact hi1)] at k1
            rw [qg_rm hi0 k0]
            split
            · exact hdist k i k0 (by omega) (by rw [hql]; exact hi1)
            · exact fun z => hdist i (k + 1) hi0 (by omega) (by omega) z.symm
        · refine (pw_iff (R := fun r r' => ¬ (0 < rle r ∧ 0 < rle r')) (Q := mvQ (que (tkS2 F S)) i)).mpr ?_
          refine List.pairwise_append.mpr ⟨((pw_iff (R := fun r r' => ¬ (0 < rle r ∧ 0 < rle r')) (Q := que (tkS2 F S))).mp hone).sublist (List.eraseIdx_sublist _ _), List.pairwise_singleton _ _, fun a ha b hb => ?_⟩
          rw [List.mem_singleton] at hb
          rw [hb, hqr]
          rintro ⟨-, z⟩
          omega
      · rw [if_neg c2]
        refine ⟨hw1, by show 0 ≤ now S + 1; omega, hst2, by rw [show que (now S + 1, nst S, sts (tkS2 F S), que (tkS2 F S), tot (tkS2 F S)) = que (tkS2 F S) from rfl, hql]; exact hq6, fun k k0 k1 => RqW_nst (S := S) rfl (hall k k0 (by rw [← hql]; exact k1)), hdist, hone, ht2⟩
def inTi (t : Nat) (k : Int) (c : Nat) : Prop := t ≤ c ∧ c < t + 30 + 16 * k.toNat
set_option maxHeartbeats 8000000 in
theorem X6_tick {t : Nat} {σ : ms_T} {S : Sa} {F : Fl} {Q : mq_T} (h : SaC σ t S) (hw : SaW F S) (hF : FlC σ 2 F) (hFW : FW F) (ht7 : 7 ≤ t) (hn : now S ≤ 2000000) (hQ : ∀ τ, Sq σ τ (inTi t (nst S)) → SaC τ t (ticS F S) → FrC τ (t + 28) (tkFr F S) (tkRc S) → Q none τ) : Ca n_X6_tick [vR (some t)] σ Q := by
  have h' := h
  obtain ⟨⟨⟨k1, k2, k3, k4, k5, k6, k7, k8, k9⟩, k10, k11⟩, e6, e2, hst, hq, ht⟩ := h
  have hn5 := hw.1.2
  have hn00 := hw.1.1
  have hno := hw.2.1
  refine vc_X6_tick _ _ _ ⟨k1, X6_dropRequests h' hw hF hFW ht7 hn (fun τ hs hC => ⟨rfl, ?_⟩)⟩
  have hsA : Sq σ τ (inTi t (nst S)) := hs.wk fun c hc => by
    rcases hc with hc | hc
    · (unfold inQu at hc; unfold inTi; omega)
    · unfold inTi; omega
  have hw1 := SaW_drp hw
  have hFτ : FlC τ 2 F := hF.ag (hsA.ag fun c hc => by unfold inF at hc; unfold inTi; omega)
  have hC' := hC
  obtain ⟨⟨⟨a1, a2, a3, a4, a5, a6, a7, a8, a9⟩, a10, a11⟩, b6, b2, bst, bq, bt⟩ := hC
  have bq' := bq
  obtain ⟨p, hp⟩ := bq
  have hp' := hp
  obtain ⟨⟨q1, q2, q3⟩, q4, q5, q6, -⟩ := hp
  simp only [a1, a4, q1, isS_some, true_and]
  have hb := pt_bd (que (drpS F S))
  have hst2 : ∀ i, 0 ≤ i → i < nst S → SW F (sts S i) := hw.2.2.1
  have hfrT := (SaW_tick hFW hw).2
  -- the end, behind the delivery
  have fin : ∀ (υ : ms_T), Sq σ υ (inTi t (nst S)) → SaC υ t (tkS3 F S) → FrC υ (t + 28) (tkFr F S) (tkRc S) → gs υ t = (6, 0) ∧ gs υ t = (6, 0) ∧ Q none (sI υ t 6 (wr (gi υ t 6 + 1))) := by
    intro υ hs2 hc2 hf2
    have u6 : gi υ t 6 = now (tkS3 F S) := hc2.2.1
    have un : now (tkS3 F S) = now S := by
      unfold tkS3
      split
      · unfold tkS2 tkS1; split <;> rfl
      · unfold setS
        split
        · unfold tkS2 tkS1; split <;> rfl
        · split
          · unfold tkS2 tkS1; split <;> rfl
          · unfold tkS2 tkS1; split <;> rfl
    have unn : nst (tkS3 F S) = nst S := by
      unfold tkS3
      split
      · unfold tkS2 tkS1; split <;> rfl
      · unfold setS
        split
        · unfold tkS2 tkS1; split <;> rfl
        · split
          · unfold tkS2 tkS1; split <;> rfl
          · unfold tkS2 tkS1; split <;> rfl
    rw [u6, un, wr_i (by omega)]
    refine ⟨hc2.1.1.1, hc2.1.1.1, hQ _ (hs2.st (by unfold inTi; omega)) ?_ (hf2.sm Sm.one (by omega))⟩
    have := hc2.noU (v := now S + 1)
    rw [unn] at this
    exact this
  refine X3_placeToSend bq' ⟨_, rfl, fun c => ?_, fun c => ?_⟩
  · have hi1 : ptQ (que (drpS F S)) < ql (que (drpS F S)) := by omega
    simp only [a1, a4, q1, q2, q3, (q6 _ c (by omega)).1, isS_some, true_and]
    refine ⟨by decide, by decide, c, by omega, X6_send hC' hw1 hp' hFτ hFW ht7 c hi1 (fun τ2 hs2 hC2 hf2 => ⟨rfl, ?_⟩)⟩
    have t1 : gs τ2 t = (6, 0) := hC2.1.1.1
    have e1 : tkS1 F S = sndS F (drpS F S) (ptQ (que (drpS F S))) := by unfold tkS1; rw [if_neg (by omega)]
    have ef : tkFr F S = sndF F (now S) (qg (que (drpS F S)) (ptQ (que (drpS F S)))) := by unfold tkFr; rw [if_neg (by omega)]
    have hf2' : FrC τ2 (t + 28) (tkFr F S) 0 := by rw [ef]; exact hf2
    refine ⟨t1, X6_deliver (S := sndS F (drpS F S) (ptQ (que (drpS F S)))) hC2 hn00 hn5 hst2 hno hn hf2' hfrT.1 (fun τ3 hs3 hC3 hf3 => ⟨rfl, ?_⟩)⟩
    have t2 : gs τ3 t = (6, 0) := hC3.1.1.1
    have hC3' : SaC τ3 t (tkS2 F S) := by unfold tkS2; rw [e1]; exact hC3
    have hq2 : que (tkS2 F S) = stQ (que (drpS F S)) (ptQ (que (drpS F S))) (sndR F (drpS F S) (qg (que (drpS F S)) (ptQ (que (drpS F S))))) := by unfold tkS2 dlvS; rw [e1]; rfl
    have hn5' : nst (tkS2 F S) ≤ 5 := by unfold tkS2 dlvS; rw [e1]; exact hn5
    refine ⟨t2, X6_settle hC3' hn5' c (by rw [hq2, ql_st]; exact hi1) (fun τ4 hs4 hC4 => ⟨rfl, ?_⟩)⟩
    have e3 : tkS3 F S = setS (tkS2 F S) (ptQ (que (drpS F S))) := by unfold tkS3; rw [if_neg (by omega)]
    have hall : Sq σ τ4 (inTi t (nst S)) := ((hsA.tr (hs2.q.wk fun c hc => ?_)).tr (hs3.q.wk fun c hc => by unfold inDl at hc; have hc : c = t + 28 ∨ (t + 30 ≤ c ∧ c < t + 30 + 16 * (nst S).toNat) := hc; unfold inTi; omega)).tr (hs4.wk fun c hc => ?_)
    · refine fin τ4 hall (by rw [e3]; exact hC4) ?_
      refine FrC.ag ?_ (hs4.ag fun c hc => by unfold inDr inQu; omega)
      have er : rcv (sndS F (drpS F S) (ptQ (que (drpS F S)))) 0 (nst S) = tkRc S := rcv_eq rfl rfl
      rw [← er]
      exact hf3
    · rcases hc with hc | hc
      · (unfold inQu at hc; unfold inTi; omega)
      · unfold inTi; omega
    · rcases hc with hc | hc
      · (unfold inQu at hc; unfold inTi; omega)
      · unfold inTi; omega
  · have cn : ptQ (que (drpS F S)) < 0 := by omega
    have e1 : tkS1 F S = (now S, nst S, sts S, que (drpS F S), up (tot (drpS F S)) 2 (wr (tot (drpS F S) 2 + 1))) := by unfold tkS1; rw [if_pos cn]
    have ef : tkFr F S = (0, -1, 0, 0) := by unfold tkFr; rw [if_pos cn]
    simp only [a1, a5, a8, isS_some, true_and]
    refine X1_fill a8 (fun τ2 hs2 hf2 => ⟨rfl, ?_⟩)
    have hC2 : SaC τ2 t (drpS F S) := hC'.ag hn5 (hs2.ag fun c hc => hc.2) hf2.1
    obtain ⟨⟨⟨c1, c2, c3, c4, c5, c6, c7, c8, c9⟩, c10, c11⟩, d6, d2, dst, dq, dt⟩ := id hC2
    have d2' := dt 2 (by omega) (by omega)
    simp only [c1, c6, c9, d2', isS_some, true_and]
    have hC3 := hC2.toU (w := 2) (v := wr (tot (drpS F S) 2 + 1)) hn5 (by omega)
    have hf3 : FrC (sI τ2 (t + 29) (2 : Int).toNat (wr (tot (drpS F S) 2 + 1))) (t + 28) (tkFr F S) 0 := by rw [ef]; exact hf2.sm Sm.one (by omega)
    refine ⟨by decide, by decide, by decide, by decide, hC3.1.1.1, X6_deliver (S := (now S, nst S, sts S, que (drpS F S), up (tot (drpS F S)) 2 (wr (tot (drpS F S) 2 + 1)))) hC3 hn00 hn5 hst2 hno hn hf3 hfrT.1 (fun τ3 hs3 hC4 hf4 => ⟨rfl, ?_⟩)⟩
    have e3 : tkS3 F S = tkS2 F S := by unfold tkS3; rw [if_pos cn]
    have hall : Sq σ τ3 (inTi t (nst S)) := ((hsA.tr (hs2.q.wk fun c hc => by unfold inTi; omega)).st (c := t + 29) (by unfold inTi; omega)).tr (hs3.q.wk fun c hc => by unfold inDl at hc; have hc : c = t + 28 ∨ (t + 30 ≤ c ∧ c < t + 30 + 16 * (nst S).toNat) := hc; unfold inTi; omega)
    have er : rcv (now S, nst S, sts S, que (drpS F S), up (tot (drpS F S)) 2 (wr (tot (drpS F S) 2 + 1))) 0 (nst S) = tkRc S := rcv_eq rfl rfl
    refine fin τ3 hall ?_ (by rw [← er]; exact hf4)
    rw [e3]
    unfold tkS2
    rw [e1]
    exact hC4
