theorem dlvS_s {S : Sa} {r : Fr} {i : Int} (h : 0 ≤ i) : dlvS S r (i + 1) = stS (dlvS S r i) i (dlv1 S r i) := by
  have e : dlvF S r (i + 1) = up (dlvF S r i) i (dlv1 S r i) := by
    funext j
    unfold dlvF up
    by_cases c : j = i
    · rw [if_pos c, if_pos (by omega), c]
    · rw [if_neg c]
      show (if 0 ≤ j ∧ j < i + 1 then dlv1 S r j else sts S j) = (if 0 ≤ j ∧ j < i then dlv1 S r j else sts S j)
      by_cases d : 0 ≤ j ∧ j < i
      · rw [if_pos d, if_pos (by omega)]
      · rw [if_neg d, if_neg (by omega)]
  show (now S, nst S, dlvF S r (i + 1), que S, tot S) = (now S, nst S, up (dlvF S r i) i (dlv1 S r i), que S, tot S)
  rw [e]
theorem dlvS_i {S : Sa} {r : Fr} {i : Int} : sts (dlvS S r i) i = sts S i := by
  show dlvF S r i i = sts S i
  unfold dlvF
  rw [if_neg (by omega)]
theorem dlvS_V {F : Fl} {S : Sa} {r : Fr} {i : Int} (hV : SaV F S) (hr : frW F r) : SaV F (dlvS S r i) := by
  refine ⟨hV.1, fun j j0 j1 => ?_, hV.2.2⟩
  show SW F (dlvF S r i j)
  unfold dlvF
  split
  · exact SW_dlv (hV.2.1 j j0 j1) hr
  · exact hV.2.1 j j0 j1
section M
variable {σ : ms_T} {m : Nat} {F : Fl} {S : Sa} {K : Int → Int} {n : Int} {T : Int → Int} {Q : mq_T}
set_option maxHeartbeats 8000000 in
theorem M_dlv {r : Fr} {p : Int} (h : MwC σ m F S (frK r 0) n T) (hF : FW F) (hV : SaV F S) (n0 : 0 ≤ now S) (n2 : now S ≤ 2000000) (hr : frW F r) (hr0 : r.1 = 0 ∨ r.1 = 1 ∨ r.1 = 2) (hf1 : -1 ≤ r.2.1) (e4 : ro σ m 4 = p) (hX : ∀ τ, Sm σ τ (inA m) → MwC τ m F (dlvS S r (nst S)) (frK r (rcv S 0 (nst S))) n T → ro τ m 4 = p → At n_X9_tick 10 [some (vR (some m)), some (vI (nst S))] [] τ Q) : At n_X9_tick 10 [some (vR (some m)), some (vI (0 : Int))] [] σ Q := by
  have hn := hV.1
  have key : ∀ (k : Nat) (i : Int) (τ : ms_T), 0 ≤ i → i ≤ nst S → nst S - i < k → Sm σ τ (inA m) → MwC τ m F (dlvS S r i) (frK r (rcv S 0 i)) n T → ro τ m 4 = p → At n_X9_tick 10 [some (vR (some m)), some (vI i)] [] τ Q := by
    intro k
    induction k with
    | zero => intro i τ i0 i1 i2; omega
    | succ k ih =>
      intro i τ i0 i1 i2 hs hC f4
      by_cases e : i = nst S
      · rw [e] at hC ⊢
        exact hX τ hs hC f4
      · obtain ⟨hm, hR, h6, hT⟩ := id hC
        obtain ⟨s0, g0, g1, g2, g4, g5, g11, z1, z2, z3, z4, z5, z6⟩ := id hm
        have e1 : gi τ (m + 1) (1 : Int).toNat = nst S := hR.2.1.1.2
        have e0 : gi τ (m + 1) (0 : Int).toNat = now S := hR.2.1.1.1
        have hsb : sb i = 202 + 113 * i := rfl
        have hi : stnP (dlvS S r i) i := ⟨i0, by show i < nst S; omega⟩
        have hst := hR.2.1.2.2.1 i i0 (by show i < nst S; omega)
        rw [dlvS_i] at hst
        have hsw := hV.2.1 i i0 (by omega)
        have hVi := dlvS_V (i := i) hV hr
        have hrc := rcv_s (S := S) (rc := 0) i0
        have next : ∀ υ, Sm τ υ (inA m) → MwC υ m F (dlvS S r (i + 1)) (frK r (rcv S 0 (i + 1))) n T → ro υ m 4 = p → At n_X9_tick 10 [some (vR (some m)), some (vI (wr (i + 1)))] [] υ Q := fun υ hs2 hC2 f4' => by
          rw [wr_i (by omega)]
          exact ih (i + 1) υ (by omega) (by omega) (by omega) (hs.tr hs2) hC2 f4'
        refine vd_X9_tick_10 _ _ _ _ ?_
        simp only [s0, g0, z1, e1, e0, isS_some, true_and]
        refine ⟨by decide, by decide, fun z => by omega, fun _ => ⟨by decide, by decide, X9_isInView hm hst.1 hsw i0 (by omega) n0 n2 (fun c => ⟨1, rfl, fun z => absurd z (by decide), fun _ => ?_⟩) (fun c => ⟨0, rfl, fun _ => ?_, fun z => absurd rfl z⟩)⟩⟩
        · simp only [s0, g0, z1, e0, isS_some, true_and]
          refine ⟨by decide, by decide, X9_isHit hm hst.1 i0 (by omega) n0 n2 (fun d => ⟨1, rfl, fun z => absurd z (by decide), fun _ => ⟨s0, X9_stationAt i0 (by omega) ⟨_, rfl, ?_⟩⟩⟩) (fun d => ⟨0, rfl, fun _ => ⟨s0, ?_⟩, fun z => absurd rfl z⟩)⟩
          · rw [wr_i (x := sb i + 109) (by omega), wr_i (x := sb i + 109 + 1) (by omega)]
            have c1 : gi τ (m + 1) (sb i + 109 + 1).toNat = ct (sts S i) 1 := hst.2.2.2 1 (by decide) (by decide)
            simp only [s0, g0, z1, c1, isS_some, true_and]
            have hs2 : Sm τ (sI τ (m + 1) (sb i + 109 + 1).toNat (wr (ct (sts S i) 1 + 1))) (inA m) := Sm.st Sm.rf (Or.inl rfl)
            have ed : dlv1 S r i = ctU (sts S i) 1 (wr (ct (sts S i) 1 + 1)) := by
              unfold dlv1
              rw [if_pos (seesB_iff.mpr c), if_pos (hitB_iff.mpr d)]
            rw [if_neg (fun z => z.2 (hitB_iff.mpr d))] at hrc
            refine ⟨by omega, by omega, by omega, by omega, next _ hs2 ?_ ((ro_nk (by decide) (by omega) (by omega)).trans f4)⟩
            rw [dlvS_s i0, ed, hrc]
            refine MwC.row hm h6 hT hs2 (fun c hc => by unfold inA at hc; unfold inRow; omega) (hR.stU hF hVi hi (hst.ctU hsw (by decide) (by decide) fun j j0 j1 => ro_st (by omega) (by omega)) (fun w w0 w5 => by rw [ro_nk (by omega) (by omega) (by omega)]; exact hR.2.2 w w0 w5) (fun j j0 j1 j2 j3 => ro_nk j0 (by omega) (by omega)))
          · have ed : dlv1 S r i = tkF (sts S i) r := by
              unfold dlv1
              rw [if_pos (seesB_iff.mpr c), if_neg (fun z => d (hitB_iff.mp z))]
            rw [if_pos ⟨seesB_iff.mpr c, fun z => d (hitB_iff.mp z)⟩] at hrc
            refine M_takesFrame hC hF hVi hi hr hr0 hf1 fun υ hs2 hC2 f4' => ⟨rfl, next υ hs2 ?_ (f4'.trans f4)⟩
            rw [dlvS_s i0, ed, hrc]
            rw [dlvS_i] at hC2
            exact hC2
        · have ed : dlv1 S r i = sts S i := by
            unfold dlv1
            rw [if_neg (fun z => c (seesB_iff.mp z))]
          rw [if_neg (fun z => c (seesB_iff.mp z.1))] at hrc
          refine next τ Sm.rf ?_ f4
          rw [dlvS_s i0, ed, hrc]
          have es : stS (dlvS S r i) i (sts S i) = dlvS S r i := by
            show (now S, nst S, up (dlvF S r i) i (sts S i), que S, tot S) = (now S, nst S, dlvF S r i, que S, tot S)
            have : dlvF S r i i = sts S i := dlvS_i
            rw [← this, up_same]
          rw [es]
          exact hC
  exact key (nst S + 1).toNat 0 σ (by omega) (by omega) (by omega) Sm.rf (by
    have es : dlvS S r 0 = S := by
      have : dlvF S r 0 = sts S := by
        funext j
        unfold dlvF
        rw [if_neg (by omega)]
      show (now S, nst S, dlvF S r 0, que S, tot S) = S
      rw [this]
      rfl
    rw [es]
    exact h) e4
end M
