theorem MwR.stU {R R' : Int → Int} {F : Fl} {S : Sa} {K K' : Int → Int} {i : Int} {s : St} (h : MwR R F S K) (hF : FW F) (hV : SaV F S) (hi : stnP S i) (hs : StR R' i s) (hK : LaR R' K') (he : ∀ j, 0 ≤ j → j < 767 → ¬ (6 ≤ j ∧ j ≤ 10) → ¬ (sb i ≤ j ∧ j < sb i + 113) → R' j = R j) : MwR R' F (stS S i s) K' := by
  have hn := hV.1
  have hi0 := hi.1
  have hi1 := hi.2
  have hb : 202 ≤ sb i := by unfold sb; omega
  refine ⟨h.1.eqv hF.2.1 (fun j z => he j (by omega) (by omega) (by omega) (by omega)), ⟨⟨(he 0 (by omega) (by omega) (by omega) (by omega)).trans h.2.1.1.1, (he 1 (by omega) (by omega) (by omega) (by omega)).trans h.2.1.1.2⟩, h.2.1.2.1.eqv hV.2.2.1 hV.2.2.2 (fun j z => he j (by omega) (by omega) (by omega) (by omega)), fun j a b => ?_, fun j a b => ?_, fun w a b => (he _ (by omega) (by omega) (by omega) (by omega)).trans (h.2.1.2.2.2.2 w a b)⟩, hK⟩
  · have b : j < nst S := b
    show StR R' j (up (sts S) i s j)
    by_cases e : j = i
    · rw [e, up_eq]; exact hs
    · rw [up_ne e]
      exact (h.2.1.2.2.1 j a b).loc (hV.2.1 j a b) fun k k0 k1 => he k (by unfold sb at k0; omega) (by unfold sb at *; omega) (by unfold sb at k0; omega) (by unfold sb at *; omega)
  · have a : nst S ≤ j := a
    exact (h.2.1.2.2.2.1 j a b).eqv fun k k0 k1 => he k (by unfold sb at k0; omega) (by unfold sb at *; omega) (by unfold sb at k0; omega) (by unfold sb at *; omega)
theorem StR.ctU {R R' : Int → Int} {F : Fl} {i w v : Int} {s : St} (h : StR R i s) (hw : SW F s) (w0 : 0 ≤ w) (w4 : w < 4) (he : ∀ j, sb i ≤ j → j < sb i + 113 → R' j = if j = sb i + 109 + w then v else R j) : StR R' i (ctU s w v) := by
  refine ⟨fun x a b => ?_, h.2.1.eqv fun j a b => ?_, fun k a b => ⟨?_, fun z => ((h.2.2.1 k a b).2 z).eqv fun j j0 j1 => ?_⟩, fun x a b => ?_⟩
  · rw [he _ (by omega) (by omega), if_neg (by omega)]; exact h.1 x a b
  · have := hw.2.1.1
    rw [he _ (by omega) (by omega), if_neg (by omega)]
  · rw [he _ (by omega) (by omega), if_neg (by omega)]; exact (h.2.2.1 k a b).1
  · have := (hw.2.2.1 k a b).2.2.1.1
    rw [he _ (by omega) (by omega), if_neg (by omega)]
  · show _ = up (ct s) w v x
    rw [he _ (by omega) (by omega)]
    by_cases e : x = w
    · rw [e, up_eq, if_pos rfl]
    · rw [up_ne e, if_neg (by omega)]; exact h.2.2.2 x a b
theorem StR.covU {R R' : Int → Int} {F : Fl} {i : Int} {s : St} {L : Iv} (h : StR R i s) (hw : SW F s) (hL : LsR R' (sb i + 6) L) (he : ∀ j, sb i ≤ j → j < sb i + 113 → ¬ (sb i + 6 ≤ j ∧ j < sb i + 31) → R' j = R j) : StR R' i (sc s, L, of_ s, ol s, ct s) := by
  refine ⟨fun x a b => ?_, hL, fun k a b => ⟨?_, fun z => ((h.2.2.1 k a b).2 z).eqv fun j j0 j1 => ?_⟩, fun x a b => ?_⟩
  · rw [he _ (by omega) (by omega) (by omega)]; exact h.1 x a b
  · rw [he _ (by omega) (by omega) (by omega)]; exact (h.2.2.1 k a b).1
  · have := (hw.2.2.1 k a b).2.2.1.1
    exact he _ (by omega) (by omega) (by omega)
  · rw [he _ (by omega) (by omega) (by omega)]; exact h.2.2.2 x a b
section M
variable {σ : ms_T} {m : Nat} {F : Fl} {S : Sa} {K : Int → Int} {n : Int} {T : Int → Int} {Q : mq_T}
set_option maxHeartbeats 8000000 in
theorem X9_takesBytes {i f a b : Int} {s : St} (hm : isM σ m) (h : StR (ro σ m) i s) (hw : SW F s) (i0 : 0 ≤ i) (i5 : i < 5) (f0 : 0 ≤ f) (r7 : ro σ m 7 = f) (r8 : ro σ m 8 = a) (r9 : ro σ m 9 = b) (ha : 0 ≤ a) (hab : a ≤ b) (hb : b ≤ 4000000) (hQ : ∀ τ, Sm σ τ (inA m) → StR (ro τ m) i (tkB s f a b) → (∀ j, 0 ≤ j → ¬ (sb i ≤ j ∧ j < sb i + 113) → ro τ m j = ro σ m j) → Q none τ) : Ca n_X9_takesBytes [vR (some m), vI i] σ Q := by
  obtain ⟨s0, g0, g1, g2, g4, g5, g11, z1, z2, z3, z4, z5, z6⟩ := id hm
  have hsb : sb i = 202 + 113 * i := rfl
  have e7 : gi σ (m + 1) (7 : Int).toNat = f := r7
  have e8 : gi σ (m + 1) (8 : Int).toNat = a := r8
  have e9 : gi σ (m + 1) (9 : Int).toNat = b := r9
  have bo := opl_bd s f
  refine vc_X9_takesBytes _ _ _ _ ?_
  simp only [s0, g0, z1, e7, isS_some, true_and]
  refine ⟨by decide, by decide, X9_openAt hm i0 i5 (fun k k0 k3 => (h.2.2.1 k k0 k3).1) ⟨_, rfl, fun c => ?_, fun c => ?_⟩⟩
  · have k0 : 0 ≤ opl s f := by
      unfold opA at c; split at c
      · omega
      · omega
    have eO : opA i s f = sb i + 31 + 26 * opl s f := by unfold opA; rw [if_neg (by omega)]
    have eof := bo.2.2 k0
    obtain ⟨b1, b2, b3, b4, b5⟩ := hw.2.2.1 (opl s f) k0 bo.2.1
    have hL : LsM σ m (sb i + 31 + 26 * opl s f + 1) (ol s (opl s f)) := (h.2.2.1 (opl s f) k0 bo.2.1).2 (by omega)
    have etk : tkB s f a b = (sc s, cov s, of_ s, up (ol s) (opl s f) (addL (ol s (opl s f)) a b), up (up (ct s) 3 (wr (ct s 3 + overL (ol s (opl s f)) a b))) 2 (if addN (ol s (opl s f)) a b ≤ 12 then wr (ct s 2 + (b - a + 1 - overL (ol s (opl s f)) a b)) else ct s 2)) := by
      unfold tkB; rw [if_neg (by omega)]
    rw [eO]
    simp only [s0, g0, z1, e8, e9, isS_some, true_and]
    refine ⟨by decide, by decide, by decide, by decide, ?_⟩
    have key : ∀ (k : Nat) (x : Int), a ≤ x → x ≤ b + 1 → b + 1 - x < k → At n_X9_takesBytes 41 [some (vR (some m)), some (vI i), some (vI (sb i + 31 + 26 * opl s f)), some (vI a), some (vI b), some (vI (overL (ol s (opl s f)) a (x - 1))), some (vI x)] [] σ Q := by
      intro k
      induction k with
      | zero => intro x x0 x1 x2; omega
      | succ k ih =>
        intro x x0 x1 x2
        have ob := over_nn b3 ha (x - 1)
        refine vc_X9_takesBytes_41 _ _ _ _ _ _ _ _ _ ⟨fun e => ⟨s0, ?_⟩, fun e => ⟨s0, ?_⟩⟩
        · have ex : x - 1 = b := by omega
          rw [ex] at ob ⊢
          rw [wr_i (x := sb i + 31 + 26 * opl s f + 1) (by omega)]
          refine X9_adds hm hL b3 (by omega) (by omega) ha hab hb fun τ hs hA he => ⟨_, rfl, ?_⟩
          obtain ⟨s0, g0, g1, g2, g4, g5, g11, z1, z2, z3, z4, z5, z6⟩ := hm.sm hs
          refine ⟨s0, X9_stationAt i0 (by omega) ⟨_, rfl, ?_⟩⟩
          rw [wr_i (x := sb i + 109) (by omega), wr_i (x := sb i + 109 + 2) (by omega)]
          have h2 : ro σ m (sb i + 109 + 2) = ct s 2 := h.2.2.2 2 (by decide) (by decide)
          have h3 : ro σ m (sb i + 109 + 3) = ct s 3 := h.2.2.2 3 (by decide) (by decide)
          have d2 : gi τ (m + 1) (sb i + 109 + 2).toNat = ct s 2 := (he _ (by omega) (by omega)).trans h2
          have d3 : ∀ v, gi (sI τ (m + 1) (sb i + 109 + 2).toNat v) (m + 1) (sb i + 109 + 3).toNat = ct s 3 := fun v => (gi_nk (by omega)).trans ((he _ (by omega) (by omega)).trans h3)
          have rg2 := hw.2.2.2 2 (by decide) (by decide)
          -- the two counts
          have fin : ∀ v2, v2 = (if addN (ol s (opl s f)) a b ≤ 12 then wr (ct s 2 + (b - a + 1 - overL (ol s (opl s f)) a b)) else ct s 2) → Q none (sI (sI τ (m + 1) (sb i + 109 + 2).toNat v2) (m + 1) (sb i + 109 + 3).toNat (wr (ct s 3 + overL (ol s (opl s f)) a b))) := fun v2 hv2 => by
            have ek : ∀ j, 0 ≤ j → ro (sI (sI τ (m + 1) (sb i + 109 + 2).toNat v2) (m + 1) (sb i + 109 + 3).toNat (wr (ct s 3 + overL (ol s (opl s f)) a b))) m j = if j = sb i + 109 + 3 then wr (ct s 3 + overL (ol s (opl s f)) a b) else if j = sb i + 109 + 2 then v2 else ro τ m j := fun j j0 => by rw [ro_st j0 (by omega), ro_st j0 (by omega)]
            have ek2 : ∀ j, 0 ≤ j → ¬ j = sb i + 109 + 3 → ¬ j = sb i + 109 + 2 → (j < sb i + 31 + 26 * opl s f + 1 ∨ sb i + 31 + 26 * opl s f + 1 + 25 ≤ j) → ro (sI (sI τ (m + 1) (sb i + 109 + 2).toNat v2) (m + 1) (sb i + 109 + 3).toNat (wr (ct s 3 + overL (ol s (opl s f)) a b))) m j = ro σ m j := fun j j0 j1 j2 j3 => by rw [ek j j0, if_neg j1, if_neg j2, he j j0 j3]
            refine hQ _ ((hs.st (Or.inl rfl)).st (Or.inl rfl)) ?_ (fun j j0 j1 => ek2 j j0 (by omega) (by omega) (by omega))
            rw [etk]
            refine ⟨fun x a b => ?_, h.2.1.eqv fun j a b => ?_, fun k a' b' => ?_, fun x a' b' => ?_⟩
            · rw [ek2 _ (by omega) (by omega) (by omega) (by omega)]; exact h.1 x a b
            · have := hw.2.1.1
              exact ek2 _ (by omega) (by omega) (by omega) (by omega)
            · show ro _ m (sb i + 31 + 26 * k) = of_ s k ∧ (0 ≤ of_ s k → LsR _ (sb i + 31 + 26 * k + 1) (up (ol s) (opl s f) (addL (ol s (opl s f)) a b) k))
              refine ⟨by rw [ek2 _ (by omega) (by omega) (by omega) (by omega)]; exact (h.2.2.1 k a' b').1, fun z => ?_⟩
              by_cases e : k = opl s f
              · rw [e, up_eq]
                have hok := ok_add b3 ha hab hb
                refine LsR.eqv (R := ro τ m) hA fun j j0 j1 => ?_
                have := hok.1
                rw [ek j (by omega), if_neg (by omega), if_neg (by omega)]
              · rw [up_ne e]
                have := (hw.2.2.1 k a' b').2.2.1.1
                exact ((h.2.2.1 k a' b').2 z).eqv fun j j0 j1 => ek2 j (by omega) (by omega) (by omega) (by omega)
            · show _ = up (up (ct s) 3 (wr (ct s 3 + overL (ol s (opl s f)) a b))) 2 (if addN (ol s (opl s f)) a b ≤ 12 then wr (ct s 2 + (b - a + 1 - overL (ol s (opl s f)) a b)) else ct s 2) x
              rw [← hv2]
              by_cases e2 : x = 2
              · rw [e2, up_eq, ek _ (by omega), if_neg (by omega), if_pos rfl]
              · rw [up_ne e2]
                by_cases e3 : x = 3
                · rw [e3, up_eq, ek _ (by omega), if_pos rfl]
                · rw [up_ne e3, ek2 _ (by omega) (by omega) (by omega) (by omega)]; exact h.2.2.2 x a' b'
          simp only [gs_sI, gr_sI, s0, g0, z1, d2, isS_some, true_and]
          refine ⟨by omega, by omega, fun y => ⟨by omega, by omega, X9_stationAt i0 (by omega) ⟨_, rfl, ?_⟩⟩, fun y => ⟨by omega, by omega, X9_stationAt i0 (by omega) ⟨_, rfl, ?_⟩⟩⟩
          · rw [wr_i (x := sb i + 109) (by omega), wr_i (x := sb i + 109 + 3) (by omega)]
            simp only [gs_sI, gr_sI, s0, g0, z1, d3, isS_some, true_and]
            rw [Int.add_zero, wr_i rg2]
            refine ⟨by omega, by omega, by omega, by omega, fin _ ?_⟩
            rw [if_neg (fun z => by rw [if_pos z] at y; exact absurd y (by decide))]
          · rw [wr_i (x := sb i + 109) (by omega), wr_i (x := sb i + 109 + 3) (by omega)]
            simp only [gs_sI, gr_sI, s0, g0, z1, d3, isS_some, true_and]
            rw [wr_i (x := b - a) (by omega), wr_i (x := b - a + 1) (by omega), wr_i (x := b - a + 1 - overL (ol s (opl s f)) a b) (by omega)]
            refine ⟨by omega, by omega, by omega, by omega, fin _ ?_⟩
            rw [if_pos (Decidable.byContradiction fun z => y (by rw [if_neg z]))]
        · have hbl := hasB_le b3 x
          have hos := over_s b3 (a := a) (m := x - 1) (by omega)
          rw [show x - 1 + 1 = x by omega] at hos
          have ih' := ih (x + 1) (by omega) (by omega) (by omega)
          rw [show x + 1 - 1 = x by omega, hos] at ih'
          rw [wr_i (x := sb i + 31 + 26 * opl s f + 1) (by omega)]
          refine X9_contains hm hL b3 (by omega) (by omega) ⟨_, rfl, fun y => ?_, fun y => ?_⟩
          · rw [wr_i (by omega), wr_i (by omega)]
            rw [y] at ih'
            exact ih'
          · rw [wr_i (by omega), wr_i (by omega)]
            rw [show hasB (ol s (opl s f)) x = 1 by omega] at ih'
            exact ih'
    have h0 := key (b + 2 - a).toNat a (by omega) (by omega) (by omega)
    rw [over_e b3 (by omega)] at h0
    exact h0
  · have etk : tkB s f a b = s := by
      unfold opA at c
      unfold tkB
      by_cases y : opl s f < 0
      · rw [if_pos (Or.inl y)]
      · rw [if_neg y] at c
        omega
    rw [etk] at hQ
    exact hQ σ Sm.rf h (fun _ _ _ => rfl)
end M
