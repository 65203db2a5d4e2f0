theorem LsR.mv {R R' : Int → Int} {p p' : Int} {L : Iv} (h : LsR R p L) (he : ∀ j, 0 ≤ j → j < 1 + 2 * ln L → R' (p' + j) = R (p + j)) : LsR R' p' L := by
  have := ln_nn L
  refine ⟨?_, fun i a b => ⟨?_, ?_⟩⟩
  · have := he 0 (by omega) (by omega)
    rw [Int.add_zero, Int.add_zero] at this
    rw [this]; exact h.1
  · rw [show p' + 1 + 2 * i = p' + (1 + 2 * i) by omega, he _ (by omega) (by omega), show p + (1 + 2 * i) = p + 1 + 2 * i by omega]
    exact (h.2 i a b).1
  · rw [show p' + 2 + 2 * i = p' + (2 + 2 * i) by omega, he _ (by omega) (by omega), show p + (2 + 2 * i) = p + 2 + 2 * i by omega]
    exact (h.2 i a b).2
theorem RqR.mv {R R' : Int → Int} {k k' : Int} {r : Rq} (h : RqR R k r) (h4 : ln (rho r) ≤ 4) (he : ∀ j, 0 ≤ j → j < 11 → R' (qb k' + j) = R (qb k + j)) : RqR R' k' r := by
  refine ⟨?_, ?_, h.2.2.mv fun j j0 j1 => ?_⟩
  · have := he 0 (by omega) (by omega)
    rw [Int.add_zero, Int.add_zero] at this
    rw [this]; exact h.1
  · rw [he 1 (by omega) (by omega)]; exact h.2.1
  · rw [show qb k' + 2 + j = qb k' + (2 + j) by omega, he _ (by omega) (by omega), show qb k + (2 + j) = qb k + 2 + j by omega]
theorem QuR.app {R R' : Int → Int} {L : List Rq} {r : Rq} (h : QuR R L) (h6 : ql L < 6) (h4 : ∀ k, 0 ≤ k → k < ql L → ln (rho (qg L k)) ≤ 4) (e3 : R' 3 = ql L + 1) (e4 : R' 4 = R 4) (e5 : R' 5 = R 5) (he : ∀ j, 136 ≤ j → j < qb (ql L) → R' j = R j) (hr : RqR R' (ql L) r) (hl : rle r = 0) : QuR R' (L ++ [r]) := by
  obtain ⟨a1, a2, a3, a4, a5⟩ := h
  have hnn := ql_nn L
  refine ⟨by rw [ql_app]; exact e3, fun k k0 k1 => ?_, by omega, by rw [ql_app]; omega, fun k k0 k1 => ?_⟩
  · rw [ql_app] at k1
    by_cases e : k < ql L
    · rw [qg_app k0 e]
      exact (a2 k k0 e).eqv (h4 k k0 e) fun j j0 j1 => he j (by unfold qb at j0; omega) (by unfold qb at *; omega)
    · have : k = ql L := by omega
      rw [qg_app' this, this]; exact hr
  · rw [ql_app] at k1
    rw [e4, e5]
    by_cases e : k < ql L
    · rw [qg_app k0 e]; exact a5 k k0 e
    · rw [qg_app' (by omega), hl, if_neg (by omega)]
theorem MoR.que {R R' : Int → Int} {F : Fl} {S : Sa} {K : Int → Int} {L : List Rq} (h : MoR R F S K) (hF : FW F) (hw : SaW F S) (hq : QuR R' L) (ht : 0 ≤ R' 4 → 0 < R' 5) (he : ∀ j, 0 ≤ j → j < 767 → ¬ (3 ≤ j ∧ j ≤ 5) → ¬ (136 ≤ j ∧ j < 202) → R' j = R j) : MoR R' F (quS S L) K := by
  have hn := hw.1
  refine ⟨h.1.eqv hF.2.1 (fun j z => he j (by omega) (by omega) (by omega) (by omega)), ⟨⟨(he 0 (by omega) (by omega) (by omega) (by omega)).trans h.2.1.1.1, (he 1 (by omega) (by omega) (by omega) (by omega)).trans h.2.1.1.2⟩, hq, fun j a b => ?_, fun j a b => ?_, fun w a b => (he _ (by omega) (by omega) (by omega) (by omega)).trans (h.2.1.2.2.2.2 w a b)⟩, ht, fun w a b => (he _ (by omega) (by omega) (by omega) (by omega)).trans (h.2.2.2 w a b)⟩
  · have b : j < nst S := b
    exact (h.2.1.2.2.1 j a b).loc (hw.2.2.1 j a b) fun k k0 k1 => he k (by unfold sb at k0; omega) (by unfold sb at *; omega) (by unfold sb at *; omega) (by unfold sb at *; omega)
  · have a : nst S ≤ j := a
    exact (h.2.1.2.2.2.1 j a b).eqv fun k k0 k1 => he k (by unfold sb at k0; omega) (by unfold sb at *; omega) (by unfold sb at *; omega) (by unfold sb at *; omega)
section M
variable {σ : ms_T} {m : Nat} {F : Fl} {S : Sa} {K : Int → Int} {n : Int} {T : Int → Int} {Q : mq_T}
set_option maxHeartbeats 4000000 in
theorem X9_removes {L : List Rq} {p : Int} (hm : isM σ m) (hq : QuR (ro σ m) L) (h6 : ql L ≤ 6) (h4 : ∀ k, 0 ≤ k → k < ql L → ln (rho (qg L k)) ≤ 4) (p0 : 0 ≤ p) (p1 : p < ql L) (hQ : ∀ τ, Sm σ τ (fun c => c = m + 1) → QuR (ro τ m) (rmQ L p) → (0 ≤ ro τ m 4 → 0 ≤ ro σ m 4 ∧ ro τ m 5 = ro σ m 5) → (ro σ m 4 = p → ro τ m 4 = -1 ∧ ro τ m 5 = 0) → (∀ j, 0 ≤ j → j < 767 → ¬ (3 ≤ j ∧ j ≤ 5) → ¬ (136 ≤ j ∧ j < 202) → ro τ m j = ro σ m j) → Q none τ) : Ca n_X9_removes [vR (some m), vI p] σ Q := by
  obtain ⟨a1, a2, a3, a4, a5⟩ := hq
  have hb : ∀ k, qb k = 136 + 11 * k := fun k => rfl
  -- what is left behind the moving
  have fin : ∀ τ, Sm σ τ (fun c => c = m + 1) → ro τ m 3 = ql L - 1 → (∀ j, 6 ≤ j → ro τ m j = if qb p ≤ j ∧ j < qb (ql L - 1) then ro σ m (j + 11) else ro σ m j) → (∀ j, 0 ≤ j → j < 3 → ro τ m j = ro σ m j) → ((ro σ m 4 = p → ro τ m 4 = -1 ∧ ro τ m 5 = 0) ∧ (p < ro σ m 4 → ro τ m 4 = ro σ m 4 - 1 ∧ ro τ m 5 = ro σ m 5) ∧ (ro σ m 4 < p → ro τ m 4 = ro σ m 4 ∧ ro τ m 5 = ro σ m 5)) → Q none τ := by
    intro τ hs e3 he he0 ht
    have hrm := ql_rm p0 p1
    refine hQ τ hs ⟨by rw [hrm]; exact e3, fun k k0 k1 => ?_, ?_, ?_, fun k k0 k1 => ?_⟩ (fun z => ?_) ht.1 (fun j j0 j1 j2 j3 => ?_)
    · rw [hrm] at k1
      rw [qg_rm p0 k0]
      by_cases e : k < p
      · rw [if_pos e]
        refine (a2 k k0 (by omega)).mv (h4 k k0 (by omega)) fun j j0 j1 => ?_
        rw [he _ (by rw [hb]; omega), if_neg (by rw [hb, hb]; omega)]
      · rw [if_neg e]
        refine (a2 (k + 1) (by omega) (by omega)).mv (h4 (k + 1) (by omega) (by omega)) fun j j0 j1 => ?_
        rw [he _ (by rw [hb]; omega), if_pos (by simp only [hb]; omega)]
        rw [show qb k + j + 11 = qb (k + 1) + j by simp only [hb]; omega]
    · rcases Int.lt_trichotomy (ro σ m 4) p with z | z | z
      · rw [(ht.2.2 z).1]; exact a3
      · rw [(ht.1 z).1]; omega
      · rw [(ht.2.1 z).1]; omega
    · rw [hrm]
      rcases Int.lt_trichotomy (ro σ m 4) p with z | z | z
      · rw [(ht.2.2 z).1]; omega
      · rw [(ht.1 z).1]; omega
      · rw [(ht.2.1 z).1]; omega
    · rw [hrm] at k1
      rw [qg_rm p0 k0]
      rcases Int.lt_trichotomy (ro σ m 4) p with z | z | z
      · rw [(ht.2.2 z).1, (ht.2.2 z).2]
        by_cases e : k < p
        · rw [if_pos e]; exact a5 k k0 (by omega)
        · rw [if_neg e, a5 (k + 1) (by omega) (by omega), if_neg (by omega), if_neg (by omega)]
      · rw [(ht.1 z).1, (ht.1 z).2, if_neg (show ¬ (-1 : Int) = k by omega)]
        by_cases e : k < p
        · rw [if_pos e, a5 k k0 (by omega), if_neg (by omega)]
        · rw [if_neg e, a5 (k + 1) (by omega) (by omega), if_neg (by omega)]
      · rw [(ht.2.1 z).1, (ht.2.1 z).2]
        by_cases e : k < p
        · rw [if_pos e, a5 k k0 (by omega), if_neg (by omega), if_neg (by omega)]
        · rw [if_neg e, a5 (k + 1) (by omega) (by omega)]
          by_cases e2 : ro σ m 4 = k + 1
          · rw [if_pos e2, if_pos (by omega)]
          · rw [if_neg e2, if_neg (by omega)]
    · rcases Int.lt_trichotomy (ro σ m 4) p with y | y | y
      · rw [(ht.2.2 y).1] at z; exact ⟨z, (ht.2.2 y).2⟩
      · rw [(ht.1 y).1] at z; omega
      · exact ⟨by omega, (ht.2.1 y).2⟩
    · by_cases e : j < 3
      · exact he0 j j0 e
      · rw [he j (by omega), if_neg (by simp only [hb]; omega)]
  have key : ∀ (k : Nat) (c : Int) (τ : ms_T), qb p ≤ c → c ≤ qb (ql L - 1) → qb (ql L - 1) - c < k → Sm σ τ (fun c => c = m + 1) → ro τ m 3 = ql L - 1 → (∀ j, 0 ≤ j → ¬ j = 3 → ro τ m j = if qb p ≤ j ∧ j < c then ro σ m (j + 11) else ro σ m j) → At n_X9_removes 15 [some (vR (some m)), some (vI p), some (vI c)] [] τ Q := by
    intro k
    induction k with
    | zero => intro c τ c0 c1 c2; omega
    | succ k ih =>
      intro c τ c0 c1 c2 hs e3 he
      obtain ⟨s0, g0, g1, g2, g4, g5, g11, z1, z2, z3, z4, z5, z6⟩ := hm.sm hs
      have e3' : gi τ (m + 1) (3 : Int).toNat = ql L - 1 := e3
      have cb : 136 ≤ c ∧ c ≤ 191 := by simp only [hb] at *; omega
      have e4 : ro τ m 4 = ro σ m 4 := by rw [he 4 (by omega) (by omega), if_neg (by simp only [hb]; omega)]
      have e5 : ro τ m 5 = ro σ m 5 := by rw [he 5 (by omega) (by omega), if_neg (by simp only [hb]; omega)]
      have e4' : gi τ (m + 1) (4 : Int).toNat = ro σ m 4 := e4
      refine vc_X9_removes_15 _ _ _ _ _ ?_
      simp only [s0, g0, z1, e3', isS_some, true_and]
      refine ⟨by decide, by decide, X9_requestAt (by omega) (by omega) ⟨_, rfl, fun x => ?_, fun x => ?_⟩⟩
      · have ec : c = qb (ql L - 1) := by omega
        rw [ec] at he
        have big : ∀ υ, Sm τ υ (fun c => c = m + 1) → (∀ j, 0 ≤ j → ¬ j = 4 → ¬ j = 5 → ro υ m j = ro τ m j) → ((ro σ m 4 = p → ro υ m 4 = -1 ∧ ro υ m 5 = 0) ∧ (p < ro σ m 4 → ro υ m 4 = ro σ m 4 - 1 ∧ ro υ m 5 = ro σ m 5) ∧ (ro σ m 4 < p → ro υ m 4 = ro σ m 4 ∧ ro υ m 5 = ro σ m 5)) → Q none υ := fun υ hs2 hk ht =>
          fin υ (hs.tr hs2) ((hk 3 (by omega) (by omega) (by omega)).trans e3) (fun j j6 => by rw [hk j (by omega) (by omega) (by omega)]; exact he j (by omega) (by omega)) (fun j j0 j3 => by rw [hk j (by omega) (by omega) (by omega), he j (by omega) (by omega), if_neg (by simp only [hb]; omega)]) ht
        simp only [gs_sI, gr_sI, s0, g0, z1, e4', isS_some, true_and]
        refine ⟨by decide, by decide, fun y => ⟨by decide, by decide, fun y2 => ?_, fun y2 => ⟨by decide, by decide, ?_⟩⟩, fun y => ⟨by decide, by decide, by decide, by decide, ?_⟩⟩
        · exact big τ Sm.rf (fun _ _ _ _ => rfl) ⟨fun z => absurd z y, fun z => by omega, fun z => ⟨e4, e5⟩⟩
        · rw [wr_i (x := ro σ m 4 - 1) (by omega)]
          refine ⟨by decide, by decide, big _ Sm.one (fun j j0 j4 j5 => by rw [ro_nk j0 (by decide) j4]) ⟨fun z => by omega, fun z => ⟨ro_eq, by rw [ro_nk (by decide) (by decide) (by decide)]; exact e5⟩, fun z => by omega⟩⟩
        · refine big _ (Sm.st (P := fun c => c = m + 1) Sm.one rfl) (fun j j0 j4 j5 => by rw [ro_nk j0 (by decide) j5, ro_nk j0 (by decide) j4]) ⟨fun z => ⟨by rw [ro_nk (by decide) (by decide) (by decide), ro_eq], ro_eq⟩, fun z => by omega, fun z => by omega⟩
      · have e6 : gi τ (m + 1) (c + 11).toNat = ro σ m (c + 11) := by
          have := he (c + 11) (by omega) (by omega)
          rw [if_neg (by omega)] at this
          exact this
        simp only [s0, g0, z1, isS_some, true_and]
        rw [wr_i (x := c + 11) (by omega), wr_i (x := c + 1) (by omega), e6]
        refine ⟨by omega, by omega, by omega, by omega, ih (c + 1) _ (by omega) (by omega) (by omega) (hs.st rfl) (by rw [ro_nk (by decide) (by omega) (by omega)]; exact e3) (fun j j0 j3 => ?_)⟩
        by_cases ej : j = c
        · rw [ej, ro_eq, if_pos (by omega)]
        · rw [ro_nk j0 (by omega) ej, he j j0 j3]
          by_cases z : qb p ≤ j ∧ j < c
          · rw [if_pos z, if_pos (by omega)]
          · rw [if_neg z, if_neg (by omega)]
  obtain ⟨s0, g0, g1, g2, g4, g5, g11, z1, z2, z3, z4, z5, z6⟩ := hm
  have e3 : gi σ (m + 1) (3 : Int).toNat = ql L := a1
  refine vc_X9_removes _ _ _ _ ?_
  simp only [s0, g0, z1, e3, isS_some, true_and]
  rw [wr_i (x := ql L - 1) (by omega)]
  refine ⟨by decide, by decide, by decide, by decide, X9_requestAt p0 (by omega) ⟨_, rfl, key (qb (ql L - 1) - qb p + 1).toNat _ _ (by omega) (by simp only [hb]; omega) (by simp only [hb]; omega) Sm.one ro_eq (fun j j0 j3 => by rw [ro_nk j0 (by decide) j3, if_neg (by omega)])⟩⟩
theorem MoC.q4 (hw : SaW F S) : ∀ k, 0 ≤ k → k < ql (que S) → ln (rho (qg (que S) k)) ≤ 4 := fun k a b => (hw.2.2.2.2.1 k a b).2.2.2.1.2
theorem M_withdraw {i : Int} (h : MoC σ m F S K n T) (hw : StX F S K n T) (hQ : ∀ τ, Sm σ τ (inMo m) → MoC τ m F (rWith S i).2 K n T → Q (some (vI (rWith S i).1)) τ) : Ca n_X9_withdraw [vR (some m), vI i] σ Q := by
  unfold rWith at hQ
  refine vc_X9_withdraw _ _ _ _ ⟨h.1.1, M_isStation h hw (fun c => ⟨1, rfl, fun _ => ⟨h.1.1, M_placeOf h hw ⟨_, rfl, fun d => ⟨h.1.1, ?_⟩, fun d => ?_⟩⟩, fun z => absurd (show ¬ (1 : Int) = 0 by decide) z⟩) (fun c => ⟨0, rfl, fun z => absurd rfl z, fun _ => ?_⟩)⟩
  · rw [cif_p c, cif_n (by omega)] at hQ
    have b := frI_bd (p := fun k => decide (rst (qg (que S) k) = i)) (ql (que S)).toNat
    have hnn := ql_nn (que S)
    have p1 : plQ (que S) i < ql (que S) := by
      have b2 : plQ (que S) i < ((ql (que S)).toNat : Int) := b.2.1
      omega
    refine X9_removes h.1 h.2.1.2.1.2.1 hw.2.1.2.2.2.1 (MoC.q4 hw.2.1) d p1 fun τ hs hq t1 t2 he => ⟨rfl, ?_⟩
    have hh := h.row hs (fun c hc => Or.inl hc) (h.2.1.que hw.1 hw.2.1 hq (fun z => by have := t1 z; rw [this.2]; exact h.2.1.2.2.1 this.1) he)
    obtain ⟨s0, g0, g1, g2, g4, g5, g11, z1, z2, z3, z4, z5, z6⟩ := hh.2.1
    have e3 : gi τ (m + 1) (3 : Int).toNat = ql (que S) - 1 := by
      have := hq.1
      rw [ql_rm d p1] at this
      exact this
    simp only [s0, g0, z1, e3, isS_some, true_and]
    exact ⟨by decide, by decide, hQ τ hh.1 hh.2⟩
  · rw [cif_p c, cif_p (by omega)] at hQ; exact hQ σ Sm.rf h
  · rw [cif_n c] at hQ; exact hQ σ Sm.rf h
set_option maxHeartbeats 4000000 in
theorem M_puts {i f : Int} {H : Iv} (h : MoC σ m F S K n T) (hw : StX F S K n T) (hH : HlM σ m H) (hl : ln H ≤ 13) (hQ0 : 6 ≤ ql (que S) → Q (some (vI (-3))) σ) (hQ1 : ql (que S) < 6 → ∀ τ, Sm σ τ (inMo m) → MoC τ m F (putS S i f (fst4 H)) K n T → Q (some (vI (ql (que S) + 1))) τ) : Ca n_X9_puts [vR (some m), vI i, vI f] σ Q := by
  obtain ⟨s0, g0, g1, g2, g4, g5, g11, z1, z2, z3, z4, z5, z6⟩ := h.1
  have e3 : gi σ (m + 1) (3 : Int).toNat = ql (que S) := h.2.1.2.1.2.1.1
  have q6 := hw.2.1.2.2.2.1
  have hnn := ql_nn (que S)
  have hln := ln_nn H
  have hb : qb (ql (que S)) = 136 + 11 * ql (que S) := rfl
  have eN : ln (fst4 H) = min (ln H) 4 := ln_tk (by omega) (by omega)
  refine vc_X9_puts _ _ _ _ _ ?_
  simp only [s0, g0, z1, e3, isS_some, true_and]
  refine ⟨by decide, by decide, fun c => ⟨by decide, by decide, X9_requestAt hnn (by omega) ⟨_, rfl, ?_⟩⟩, fun c => hQ0 (by omega)⟩
  rw [wr_i (x := qb (ql (que S)) + 1) (by omega), wr_i (x := qb (ql (que S)) + 2) (by omega)]
  have e33 : ∀ a b : Nat, ∀ x y : Int, gi (sI (sI σ (m + 1) a x) (m + 1) b y) m 3 = ln H := fun a b x y => by rw [gi_ne (by omega), gi_ne (by omega)]; exact hH.1
  simp only [gs_sI, gr_sI, s0, g0, z1, e33, isS_some, true_and]
  have key : ∀ (k : Nat) (c : Int) (τ : ms_T), 0 ≤ c → c ≤ 2 * ln (fst4 H) → 2 * ln (fst4 H) - c < k → Sm σ τ (fun c => c = m + 1) → (∀ j, 0 ≤ j → (j < qb (ql (que S)) ∨ qb (ql (que S)) + 11 ≤ j) → ro τ m j = ro σ m j) → (ro τ m (qb (ql (que S))) = i ∧ ro τ m (qb (ql (que S)) + 1) = f ∧ ro τ m (qb (ql (que S)) + 2) = ln (fst4 H)) → (∀ j, 0 ≤ j → j < c → ro τ m (qb (ql (que S)) + 3 + j) = gi σ (m + 4) j.toNat) → At n_X9_puts 67 [some (vR (some m)), some (vI i), some (vI f), some (vI (qb (ql (que S)))), some (vI c)] [] τ Q := by
    intro k
    induction k with
    | zero => intro c τ c0 c1 c2; omega
    | succ k ih =>
      intro c τ c0 c1 c2 hs he hr hj
      obtain ⟨s0, g0, g1, g2, g4, g5, g11, z1, z2, z3, z4, z5, z6⟩ := h.1.sm hs
      have u2 : gi τ (m + 1) (qb (ql (que S)) + 2).toNat = ln (fst4 H) := hr.2.2
      have u3 : gi τ (m + 1) (3 : Int).toNat = ql (que S) := (he 3 (by omega) (by omega)).trans e3
      refine vc_X9_puts_67 _ _ _ _ _ _ _ ?_
      rw [wr_i (x := qb (ql (que S)) + 2) (by omega), wr_i (x := qb (ql (que S)) + 3) (by omega)]
      simp only [gs_sI, gr_sI, s0, g0, g4, z1, z4, u2, u3, isS_some, true_and]
      rw [wr_i (x := 2 * ln (fst4 H)) (by omega), wr_i (x := ql (que S) + 1) (by omega)]
      refine ⟨by omega, by omega, fun e => ⟨by decide, by decide, by decide, by decide, ?_⟩, fun e => ⟨by omega, by omega, ?_⟩⟩
      · rw [gi_eq]
        have ec : c = 2 * ln (fst4 H) := by omega
        have hs2 : Sm σ (sI τ (m + 1) (3 : Int).toNat (ql (que S) + 1)) (fun c => c = m + 1) := hs.st rfl
        have ek : ∀ j, 0 ≤ j → ¬ j = 3 → ro (sI τ (m + 1) (3 : Int).toNat (ql (que S) + 1)) m j = ro τ m j := fun j j0 j3 => ro_nk j0 (by decide) j3
        have ek2 : ∀ j, 0 ≤ j → ¬ j = 3 → (j < qb (ql (que S)) ∨ qb (ql (que S)) + 11 ≤ j) → ro (sI τ (m + 1) (3 : Int).toNat (ql (que S) + 1)) m j = ro σ m j := fun j j0 j3 z => (ek j j0 j3).trans (he j j0 z)
        have hq := h.2.1.2.1.2.1.app (R' := ro (sI τ (m + 1) (3 : Int).toNat (ql (que S) + 1)) m) (r := (i, f, fst4 H, 0)) (by omega) (MoC.q4 hw.2.1) ro_eq (ek2 4 (by decide) (by decide) (by omega)) (ek2 5 (by decide) (by decide) (by omega)) (fun j j0 j1 => ek2 j (by omega) (by omega) (by omega)) ⟨by rw [ek _ (by omega) (by omega)]; exact hr.1, by rw [ek _ (by omega) (by omega)]; exact hr.2.1, by rw [ek _ (by omega) (by omega)]; exact hr.2.2, fun j j0 j1 => by
          have j1 : j < ln (fst4 H) := j1
          have hh := hH.2 j j0 (by omega)
          show ro _ m (qb (ql (que S)) + 2 + 1 + 2 * j) = lb (fst4 H) j ∧ ro _ m (qb (ql (que S)) + 2 + 2 + 2 * j) = le_ (fst4 H) j
          have f1 := hj (2 * j) (by omega) (by omega)
          have f2 := hj (2 * j + 1) (by omega) (by omega)
          rw [ek _ (by omega) (by omega), ek _ (by omega) (by omega), show qb (ql (que S)) + 2 + 1 + 2 * j = qb (ql (que S)) + 3 + 2 * j by omega, show qb (ql (que S)) + 2 + 2 + 2 * j = qb (ql (que S)) + 3 + (2 * j + 1) by omega, f1, f2, hh.1, hh.2]
          exact ⟨(lb_tk j0 (by omega)).symm, (le_tk j0 (by omega)).symm⟩⟩ rfl
        have hh := h.row hs2 (fun c hc => Or.inl hc) (h.2.1.que hw.1 hw.2.1 hq (fun z => by rw [ek2 4 (by decide) (by decide) (by omega)] at z; rw [ek2 5 (by decide) (by decide) (by omega)]; exact h.2.1.2.2.1 z) (fun j j0 j1 j2 j3 => ek2 j j0 (by omega) (by omega)))
        exact ⟨by decide, by decide, hQ1 (by omega) _ hh.1 hh.2⟩
      · rw [wr_i (x := qb (ql (que S)) + 3 + c) (by omega), wr_i (x := c + 1) (by omega), hs.i (c := m + 4) (by omega)]
        refine ⟨by omega, by omega, ih (c + 1) _ (by omega) (by omega) (by omega) (hs.st rfl) (fun j j0 z => by rw [ro_nk j0 (by omega) (by omega)]; exact he j j0 z) ⟨by rw [ro_nk (by omega) (by omega) (by omega)]; exact hr.1, by rw [ro_nk (by omega) (by omega) (by omega)]; exact hr.2.1, by rw [ro_nk (by omega) (by omega) (by omega)]; exact hr.2.2⟩ (fun j j0 j1 => ?_)⟩
        by_cases ej : j = c
        · rw [ej, ro_eq]
        · rw [ro_nk (by omega) (by omega) (by omega)]; exact hj j j0 (by omega)
  have start : ∀ v, v = ln (fst4 H) → At n_X9_puts 67 [some (vR (some m)), some (vI i), some (vI f), some (vI (qb (ql (que S)))), some (vI 0)] [] (sI (sI (sI σ (m + 1) (qb (ql (que S))).toNat i) (m + 1) (qb (ql (que S)) + 1).toNat f) (m + 1) (qb (ql (que S)) + 2).toNat v) Q := fun v hv =>
    key (2 * ln (fst4 H) + 1).toNat 0 _ (by omega) (by omega) (by omega) (Sm.st (P := fun c => c = m + 1) (Sm.st (P := fun c => c = m + 1) Sm.one rfl) rfl) (fun j j0 z => by rw [ro_nk j0 (by omega) (by omega), ro_nk j0 (by omega) (by omega), ro_nk j0 (by omega) (by omega)]) ⟨by rw [ro_nk (by omega) (by omega) (by omega), ro_nk (by omega) (by omega) (by omega), ro_eq], by rw [ro_nk (by omega) (by omega) (by omega), ro_eq], by rw [ro_eq, hv]⟩ (fun j j0 j1 => by omega)
  refine ⟨by omega, by omega, by omega, by omega, fun d => ⟨by omega, by omega, start 4 (by omega)⟩, fun d => ⟨by omega, by omega, start _ (by omega)⟩⟩
theorem M_requestDirectory {i : Int} (h : MoC σ m F S K n T) (hw : StX F S K n T) (hQ : ∀ τ, Sm σ τ (inMo m) → MoC τ m F (rReqD S i).2 K n T → Q (some (vI (rReqD S i).1)) τ) : Ca n_X9_requestDirectory [vR (some m), vI i] σ Q := by
  unfold rReqD at hQ
  refine vc_X9_requestDirectory _ _ _ _ ⟨h.1.1, M_isStation h hw (fun c => ⟨1, rfl, fun _ => ?_, fun z => absurd (show ¬ (1 : Int) = 0 by decide) z⟩) (fun c => ⟨0, rfl, fun z => absurd rfl z, fun _ => ?_⟩)⟩
  · rw [cif_p c] at hQ
    obtain ⟨a1, a2, a3, a4⟩ := h.sta hw c
    obtain ⟨s0, g0, g1, g2, g4, g5, g11, z1, z2, z3, z4, z5, z6⟩ := h.1
    have hb : 202 ≤ sb i ∧ sb i ≤ 654 := by unfold sb; omega
    have hn0 := hw.2.1.2.1
    have hn1 := hw.2.2.1
    have e0 : gi σ (m + 1) (0 : Int).toNat = now S := h.2.1.2.1.1.1
    refine X9_stationAt a3 (by omega) ⟨_, rfl, ?_⟩
    rw [wr_i (x := sb i + 6) (by omega)]
    simp only [s0, g0, z1, e0, isS_some, true_and]
    refine ⟨by decide, by decide, M_holes h hw a1.2.1 a2.2.1 (by omega) (by omega) (by omega) (by omega) fun τ hs hC hH => ⟨rfl, hC.1.1, ?_⟩⟩
    have hl := (ok_holes a2.2.1 (last := now S) (by omega)).1
    have e4 : gi τ m 3 = ln (dirH S i) := hH.1
    refine M_mayAsk hC hw (by omega) c (fun d => ⟨1, rfl, fun z => absurd z (by decide), fun _ => ⟨hC.1.1, fun e => ?_, fun e => ⟨hC.1.1, M_puts hC hw hH hl (fun e2 => ⟨_, rfl, ?_⟩) (fun e2 υ hs2 hC2 => ⟨_, rfl, ?_⟩)⟩⟩⟩) (fun d => ⟨0, rfl, fun _ => ?_, fun z => absurd rfl z⟩)
    · rw [e4] at e
      rw [cif_n fun z => by have := z.2; omega] at hQ; exact hQ τ hs hC
    · rw [e4] at e
      rw [cif_p ⟨d, by omega⟩, cif_p e2] at hQ; exact hQ τ hs hC
    · rw [e4] at e
      rw [cif_p ⟨d, by omega⟩, cif_n (by omega)] at hQ; exact hQ υ (hs.tr hs2) hC2
    · rw [cif_n fun z => d z.1] at hQ; exact hQ τ hs hC
  · rw [cif_n c] at hQ; exact hQ σ Sm.rf h
theorem M_requestFile {i f : Int} (h : MoC σ m F S K n T) (hw : StX F S K n T) (hQ : ∀ τ, Sm σ τ (inMo m) → MoC τ m F (rReqF F S i f).2 K n T → Q (some (vI (rReqF F S i f).1)) τ) : Ca n_X9_requestFile [vR (some m), vI i, vI f] σ Q := by
  unfold rReqF at hQ
  refine vc_X9_requestFile _ _ _ _ _ ⟨h.1.1, M_refusesOpen h hw (fun c d => ⟨0, rfl, fun _ => ⟨h.1.1, M_openAt h hw c.1 ⟨_, rfl, h.1.1, ?_⟩⟩, fun z => absurd (by decide) z⟩) (fun c d => ⟨_, rfl, fun z => absurd z (by decide), fun _ => ?_⟩) (fun c => ⟨_, rfl, fun z => absurd z (by decide), fun _ => ?_⟩)⟩
  · have b := opl_bd (sts S i) f
    have c0 := c.2.1
    have c2 := c.2.2
    have h30 := hw.1.2.1
    have hn1 := hw.2.2.1
    have hfl := hw.1.2.2 f c0 c2
    obtain ⟨e1, e2, e3, e4, e5⟩ := h.opn hw c.1 d b.2.1 (by rw [b.2.2 d]; exact c0)
    rw [cif_p c] at hQ
    unfold opA
    rw [if_neg (by omega)]
    refine X9_file h.1 c0 (by omega) (by decide) (by decide) ⟨_, rfl, h.1.1, ?_⟩
    rw [h.2.1.1.2 f c0 c2 0 (by decide) (by decide), wr_i (x := F.2 f 0 - 1) (by omega), wr_i (by omega)]
    refine M_holes h hw e1 e2 e3.1 e3.2 (by omega) (by omega) fun τ hs hC hH => ⟨rfl, hC.1.1, ?_⟩
    have hl := (ok_holes e2 (last := F.2 f 0 - 1) (by omega)).1
    have hno := holes_none e2 (last := F.2 f 0 - 1) (by omega) (by omega) (fun j j0 j1 => by
      have := e5 j j0 j1
      rw [b.2.2 d] at this
      omega)
    have e9 : gi τ m 3 = ln (filH F S i f) := hH.1
    have e10 : filH F S i f = holesL (ol (sts S i) (opl (sts S i) f)) (F.2 f 0 - 1) := rfl
    refine M_exists hC hw c.2 (fun x => ⟨1, rfl, fun z => absurd z (by decide), fun _ => ⟨hC.1.1, M_mayAsk hC hw (by omega) c.1 (fun y => ⟨1, rfl, fun z => absurd z (by decide), fun _ => ⟨hC.1.1, fun e => ?_, fun e => ⟨hC.1.1, M_puts hC hw hH hl (fun e2 => ⟨_, rfl, ?_⟩) (fun e2 υ hs2 hC2 => ⟨_, rfl, ?_⟩)⟩⟩⟩) (fun y => ⟨0, rfl, fun _ => ?_, fun z => absurd rfl z⟩)⟩⟩) (fun x => ⟨0, rfl, fun _ => ?_, fun z => absurd rfl z⟩)
    · rw [e9, e10] at e
      rw [cif_n fun z => z.2.2.1 (by rw [hno.mpr (by omega)]; omega)] at hQ; exact hQ τ hs hC
    · rw [e9, e10] at e
      have fp : filP F S i f := ⟨d, ⟨c0, c2, by unfold exB at x; simpa using x⟩, fun z => hno.mp (by omega) (by omega), y⟩
      rw [cif_p fp, cif_p e2] at hQ; exact hQ τ hs hC
    · rw [e9, e10] at e
      have fp : filP F S i f := ⟨d, ⟨c0, c2, by unfold exB at x; simpa using x⟩, fun z => hno.mp (by omega) (by omega), y⟩
      rw [cif_p fp, cif_n (by omega)] at hQ; exact hQ υ (hs.tr hs2) hC2
    · rw [cif_n fun z => y z.2.2.2] at hQ; exact hQ τ hs hC
    · rw [cif_n fun z => x (by unfold exB; simpa using z.2.1.2.2)] at hQ; exact hQ τ hs hC
  · rw [cif_p c, cif_n fun z => by have := z.1; omega] at hQ; exact hQ σ Sm.rf h
  · rw [cif_n c] at hQ; exact hQ σ Sm.rf h
end M
