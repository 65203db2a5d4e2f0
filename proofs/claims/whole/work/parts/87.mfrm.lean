theorem bOr_zero {x : Int} (h : rg x) : bOr x 0 = x := by
  unfold bOr
  rw [show Int32.ofInt 0 = 0 from rfl, Int32.or_zero]
  exact i32_in h
section M
variable {σ : ms_T} {m : Nat} {F : Fl} {S : Sa} {K : Int → Int} {n : Int} {T : Int → Int} {Q : mq_T}
set_option maxHeartbeats 8000000 in
theorem M_takesFrame {i rc : Int} {r : Fr} (h : MwC σ m F S (frK r rc) n T) (hF : FW F) (hV : SaV F S) (hi : stnP S i) (hr : frW F r) (hr0 : r.1 = 0 ∨ r.1 = 1 ∨ r.1 = 2) (hf1 : -1 ≤ r.2.1) (hQ : ∀ τ, Sm σ τ (inA m) → MwC τ m F (stS S i (tkF (sts S i) r)) (frK r (bOr rc (bShl 1 i))) n T → ro τ m 4 = ro σ m 4 → Q none τ) : Ca n_X9_takesFrame [vR (some m), vI i] σ Q := by
  obtain ⟨hm, hR, h6, hT⟩ := id h
  obtain ⟨s0, g0, g1, g2, g4, g5, g11, z1, z2, z3, z4, z5, z6⟩ := id hm
  have i0 := hi.1
  have i5 : i < 5 := by have := hi.2; have := hV.1.2; omega
  have hsb : sb i = 202 + 113 * i := rfl
  have hst := hR.2.1.2.2.1 i hi.1 hi.2
  have hsw := hV.2.1 i hi.1 hi.2
  have k0 : ro σ m 6 = r.1 := hR.2.2 0 (by decide) (by decide)
  have k1 : ro σ m 7 = r.2.1 := hR.2.2 1 (by decide) (by decide)
  have k2 : ro σ m 8 = r.2.2.1 := hR.2.2 2 (by decide) (by decide)
  have k3 : ro σ m 9 = r.2.2.2 := hR.2.2 3 (by decide) (by decide)
  have k4 : ro σ m 10 = rc := hR.2.2 4 (by decide) (by decide)
  have k4' : gi σ (m + 1) (10 : Int).toNat = rc := k4
  have c0 : ro σ m (sb i + 109) = ct (sts S i) 0 := by
    have := hst.2.2.2 0 (by decide) (by decide)
    rw [Int.add_zero] at this
    exact this
  refine vd_X9_takesFrame _ _ _ _ ?_
  simp only [gs_sI, gr_sI, s0, g0, z1, k4', isS_some, true_and]
  refine ⟨by decide, by decide, by decide, by decide, X9_stationAt i0 (by omega) ⟨_, rfl, ?_⟩⟩
  rw [wr_i (x := sb i + 109) (by omega)]
  have c0' : gi (sI σ (m + 1) (10 : Int).toNat (bOr rc (bShl 1 i))) (m + 1) (sb i + 109).toNat = ct (sts S i) 0 := (gi_nk (by omega)).trans c0
  simp only [gs_sI, gr_sI, s0, g0, z1, c0', isS_some, true_and]
  generalize hτ : sI (sI σ (m + 1) (10 : Int).toNat (bOr rc (bShl 1 i))) (m + 1) (sb i + 109).toNat (wr (ct (sts S i) 0 + 1)) = τ
  have hs : Sm σ τ (fun c => c = m + 1) := by rw [← hτ]; exact Sm.st (P := fun c => c = m + 1) Sm.one rfl
  have he : ∀ j, 0 ≤ j → ro τ m j = if j = sb i + 109 then wr (ct (sts S i) 0 + 1) else if j = 10 then bOr rc (bShl 1 i) else ro σ m j := fun j j0 => by rw [← hτ, ro_st j0 (by omega), ro_st j0 (by omega)]
  clear hτ
  have hs1 : StR (ro τ m) i (ctU (sts S i) 0 (wr (ct (sts S i) 0 + 1))) := hst.ctU hsw (by decide) (by decide) fun j j0 j1 => by
    rw [he j (by omega)]
    by_cases e : j = sb i + 109
    · rw [if_pos e, if_pos (by omega)]
    · rw [if_neg e, if_neg (by omega), if_neg (by omega)]
  have hw1 : SW F (ctU (sts S i) 0 (wr (ct (sts S i) 0 + 1))) := SW_ct hsw (rg_wr _)
  have hm1 := hm.sm hs
  obtain ⟨s0, g0, g1, g2, g4, g5, g11, z1, z2, z3, z4, z5, z6⟩ := id hm1
  have t6 : ro τ m 6 = r.1 := by rw [he 6 (by decide), if_neg (by omega), if_neg (by decide)]; exact k0
  have t7 : ro τ m 7 = r.2.1 := by rw [he 7 (by decide), if_neg (by omega), if_neg (by decide)]; exact k1
  have t8 : ro τ m 8 = r.2.2.1 := by rw [he 8 (by decide), if_neg (by omega), if_neg (by decide)]; exact k2
  have t9 : ro τ m 9 = r.2.2.2 := by rw [he 9 (by decide), if_neg (by omega), if_neg (by decide)]; exact k3
  have t10 : ro τ m 10 = bOr rc (bShl 1 i) := by rw [he 10 (by decide), if_neg (by omega), if_pos rfl]
  have t4 : ro τ m 4 = ro σ m 4 := by rw [he 4 (by decide), if_neg (by omega), if_neg (by decide)]
  have t6' : gi τ (m + 1) (6 : Int).toNat = r.1 := t6
  have t7' : gi τ (m + 1) (7 : Int).toNat = r.2.1 := t7
  -- the end
  have fin : ∀ υ, Sm τ υ (inA m) → StR (ro υ m) i (tkF (sts S i) r) → (∀ j, 0 ≤ j → ¬ (sb i ≤ j ∧ j < sb i + 113) → ro υ m j = ro τ m j) → Q none υ := fun υ hs2 hst2 hk => by
    have hsa : Sm σ υ (inA m) := (hs.wk fun c hc => Or.inl hc).tr hs2
    refine hQ υ hsa (MwC.row hm h6 hT hsa (fun c hc => by unfold inA at hc; unfold inRow; omega) (hR.stU hF hV hi hst2 (fun w w0 w5 => ?_) (fun j j0 j1 j2 j3 => by rw [hk j j0 j3, he j j0, if_neg (by omega), if_neg (by omega)]))) ((hk 4 (by decide) (by omega)).trans t4)
    rw [hk _ (by omega) (by omega)]
    rcases (show w = 0 ∨ w = 1 ∨ w = 2 ∨ w = 3 ∨ w = 4 by omega) with z | z | z | z | z <;> rw [z]
    · exact t6
    · exact t7
    · exact t8
    · exact t9
    · exact t10
  simp only [s0, g0, z1, t6', isS_some, true_and]
  refine ⟨by omega, by omega, by omega, by omega, by decide, by decide, fun y => ⟨by decide, by decide, fun y2 => ?_, fun y2 => X9_stationAt i0 (by omega) ⟨_, rfl, ?_⟩⟩, fun y => ?_⟩
  · refine fin τ Sm.rf ?_ (fun _ _ _ => rfl)
    unfold tkF
    rw [if_neg y, if_neg y2]
    exact hs1
  · have er : r.1 = 2 := by omega
    have hro := hr.1 (Or.inr er)
    have etk : tkF (sts S i) r = tkE (ctU (sts S i) 0 (wr (ct (sts S i) 0 + 1))) r.2.1 r.2.2.1 r.2.2.2 := by unfold tkF; rw [if_neg y, if_pos er]
    have p5 : gi τ (m + 1) (sb i + 5).toNat = sc (sts S i) 5 := hs1.1 5 (by decide) (by decide)
    rw [wr_i (x := sb i + 5) (by omega)]
    simp only [s0, g0, z1, p5, t7', isS_some, true_and]
    have go : ∀ s0' : Int, bOr (sc (sts S i) 5) s0' = sc (tkF (sts S i) r) 5 → At n_X9_takesFrame 94 [some (vR (some m)), some (vI i), none] [vI s0', vI (sc (sts S i) 5), vI (sb i + 5), vR (some (m + 1))] τ Q := fun s0' hv => by
      refine vd_X9_takesFrame_94 _ _ _ _ _ _ _ _ ?_
      simp only [z1, isS_some, true_and]
      rw [hv]
      refine ⟨by omega, by omega, X9_stationAt i0 (by omega) ⟨_, rfl, ?_⟩⟩
      have hs3 : Sm τ (sI τ (m + 1) (sb i + 5).toNat (sc (tkF (sts S i) r) 5)) (fun c => c = m + 1) := Sm.one
      have t8' : gi (sI τ (m + 1) (sb i + 5).toNat (sc (tkF (sts S i) r) 5)) (m + 1) (8 : Int).toNat = r.2.2.1 := (gi_nk (by omega)).trans t8
      have t9' : gi (sI τ (m + 1) (sb i + 5).toNat (sc (tkF (sts S i) r) 5)) (m + 1) (9 : Int).toNat = r.2.2.2 := (gi_nk (by omega)).trans t9
      have ek3 : ∀ j, 0 ≤ j → ¬ j = sb i + 5 → ro (sI τ (m + 1) (sb i + 5).toNat (sc (tkF (sts S i) r) 5)) m j = ro τ m j := fun j j0 j1 => ro_nk j0 (by omega) j1
      have hcl := hw1.2.1
      have hcl2 := hcl.1
      have hL : LsM (sI τ (m + 1) (sb i + 5).toNat (sc (tkF (sts S i) r) 5)) m (sb i + 6) (cov (sts S i)) := LsR.eqv (R := ro τ m) hs1.2.1 fun j j0 j1 => ek3 j (by omega) (by omega)
      simp only [gs_sI, gr_sI, s0, g0, z1, t8', t9', isS_some, true_and]
      rw [wr_i (x := sb i + 6) (by omega)]
      refine ⟨by decide, by decide, by decide, by decide, X9_adds (hm1.sm hs3) hL hcl (by omega) (by omega) hro.1 hro.2.1 hro.2.2 fun υ hs4 hA he4 => ⟨_, rfl, ?_⟩⟩
      have ok2 := (ok_add hcl hro.1 hro.2.1 hro.2.2).1
      have ek5 : ∀ j, 0 ≤ j → ¬ j = sb i + 5 → ¬ (sb i + 6 ≤ j ∧ j < sb i + 31) → ro υ m j = ro τ m j := fun j j0 j1 j2 => by rw [he4 j j0 (by omega), ek3 j j0 j1]
      refine fin υ ((hs3.wk fun c hc => Or.inl hc).tr hs4) ?_ (fun j j0 j1 => ek5 j j0 (by omega) (by omega))
      have hsc : ∀ w, 0 ≤ w → w < 6 → ¬ w = 5 → sc (tkF (sts S i) r) w = sc (sts S i) w := fun w w0 w6 w5 => by
        rw [etk]
        unfold tkE
        show (if r.2.1 = -1 then sc (sts S i) else up (sc (sts S i)) 5 _) w = _
        split
        · rfl
        · rw [up_ne w5]
      refine ⟨fun w w0 w6 => ?_, ?_, fun k a b => ?_, fun w w0 w4 => ?_⟩
      · by_cases e : w = 5
        · rw [e, he4 _ (by omega) (by omega), ro_eq]
        · rw [ek5 _ (by omega) (by omega) (by omega), hsc w w0 w6 e]; exact hs1.1 w w0 w6
      · rw [etk]; exact hA
      · rw [etk]
        refine ⟨by rw [ek5 _ (by omega) (by omega) (by omega)]; exact (hs1.2.2.1 k a b).1, fun z => ((hs1.2.2.1 k a b).2 z).eqv fun j j0 j1 => ?_⟩
        have := (hw1.2.2.1 k a b).2.2.1.1
        exact ek5 j (by omega) (by omega) (by omega)
      · rw [etk, ek5 _ (by omega) (by omega) (by omega)]; exact hs1.2.2.2 w w0 w4
    refine ⟨by omega, by omega, by decide, by decide, fun x => ⟨by decide, by decide, go _ ?_⟩, fun x => go _ ?_⟩
    · rw [etk]
      unfold tkE
      show _ = (if r.2.1 = -1 then sc (sts S i) else up (sc (sts S i)) 5 (bOr (sc (sts S i) 5) (bShl 1 r.2.1))) 5
      rw [if_neg (by omega), up_eq]
    · rw [bOr_zero hsw.1.2.2.2.2.2, etk]
      unfold tkE
      show _ = (if r.2.1 = -1 then sc (sts S i) else up (sc (sts S i)) 5 (bOr (sc (sts S i) 5) (bShl 1 r.2.1))) 5
      rw [if_pos (by omega)]
  · have er : r.1 = 1 := by omega
    have hro := hr.1 (Or.inl er)
    have hr2 := hr.2 er
    refine X9_takesBytes hm1 hs1 hw1 i0 i5 hr2.1 t7 t8 t9 hro.1 hro.2.1 hro.2.2 fun υ hs2 hst2 hk => ⟨rfl, fin υ hs2 ?_ hk⟩
    unfold tkF
    rw [if_pos er]
    exact hst2
end M
