section M
variable {σ : ms_T} {m : Nat} {F : Fl} {S : Sa} {K : Int → Int} {n : Int} {T : Int → Int} {Q : mq_T}
set_option maxHeartbeats 8000000 in
theorem X9_goesBehind {L : List Rq} {p : Int} (hm : isM σ m) (hq : QuR (ro σ m) L) (h6 : ql L ≤ 6) (h4 : ∀ k, 0 ≤ k → k < ql L → ln (rho (qg L k)) ≤ 4) (p0 : 0 ≤ p) (p1 : p < ql L) (e4 : ro σ m 4 = p) (e5 : ro σ m 5 = 0) (hQ : ∀ τ, Sm σ τ (fun c => c = m + 1 ∨ c = m + 6) → QuR (ro τ m) (mvQ L p) → ro τ m 4 = -1 → (∀ j, 0 ≤ j → j < 767 → ¬ (3 ≤ j ∧ j ≤ 5) → ¬ (136 ≤ j ∧ j < 202) → ro τ m j = ro σ m j) → Q none τ) : Ca n_X9_goesBehind [vR (some m)] σ Q := by
  have hqb : ∀ k, qb k = 136 + 11 * k := fun k => rfl
  have hrm := ql_rm p0 p1
  have hrle : rle (qg L p) = 0 := by
    have := hq.2.2.2.2 p p0 p1
    rw [e4, if_pos rfl, e5] at this
    exact this
  have key2 : ∀ (k : Nat) (c : Int) (τ : ms_T), 0 ≤ c → c ≤ 11 → 11 - c < k → Sm σ τ (fun c => c = m + 1 ∨ c = m + 6) → QuR (ro τ m) (rmQ L p) → ro τ m 4 = -1 → (∀ j, 0 ≤ j → j < 767 → ¬ (3 ≤ j ∧ j ≤ 5) → ¬ (136 ≤ j ∧ j < 202) → ro τ m j = ro σ m j) → (∀ j : Int, 0 ≤ j → j < 11 → gi τ (m + 6) j.toNat = ro σ m (qb p + j)) → (∀ j : Int, 0 ≤ j → j < c → ro τ m (qb (ql L - 1) + j) = ro σ m (qb p + j)) → At n_X9_goesBehind 50 [some (vR (some m)), some (vI (qb p)), some (vI c)] [] τ Q := by
    intro k
    induction k with
    | zero => intro c τ c0 c1 c2; omega
    | succ k ih =>
      intro c τ c0 c1 c2 hs hq2 f4 he hca hd
      obtain ⟨s0, g0, g1, g2, g4, g5, g11, z1, z2, z3, z4, z5, z6⟩ := hm.sm hs
      have e3 : gi τ (m + 1) (3 : Int).toNat = ql L - 1 := hq2.1.trans hrm
      refine vc_X9_goesBehind_50 _ _ _ _ _ ⟨fun e => ?_, fun e => ?_⟩
      · simp only [s0, g0, z1, e3, isS_some, true_and]
        rw [wr_i (x := ql L - 1 + 1) (by omega)]
        have ek : ∀ j, 0 ≤ j → ¬ j = 3 → ro (sI τ (m + 1) (3 : Int).toNat (ql L - 1 + 1)) m j = ro τ m j := fun j j0 j1 => ro_nk j0 (by decide) j1
        refine ⟨by decide, by decide, by decide, by decide, hQ _ (hs.st (Or.inl rfl)) ?_ ((ek 4 (by decide) (by decide)).trans f4) (fun j j0 j1 j2 j3 => (ek j j0 (by omega)).trans (he j j0 j1 j2 j3))⟩
        refine hq2.app (r := qg L p) (by omega) (fun k k0 k1 => ?_) (by rw [hrm]; exact ro_eq) (ek 4 (by decide) (by decide)) (ek 5 (by decide) (by decide)) (fun j j0 j1 => ek j (by omega) (by omega)) ?_ hrle
        · rw [hrm] at k1
          rw [qg_rm p0 k0]
          split
          · exact h4 k k0 (by omega)
          · exact h4 (k + 1) (by omega) (by omega)
        · rw [hrm]
          refine (hq.2.1 p p0 p1).mv (h4 p p0 p1) fun j j0 j1 => ?_
          rw [ek _ (by rw [hqb]; omega) (by rw [hqb]; omega)]
          exact hd j j0 (by omega)
      · simp only [s0, g0, g11, z1, z6, e3, isS_some, true_and]
        refine ⟨by decide, by decide, X9_requestAt (by omega) (by omega) ⟨_, rfl, ?_⟩⟩
        simp only [s0, g0, g11, z1, z6, isS_some, true_and]
        rw [wr_i (x := qb (ql L - 1) + c) (by rw [hqb]; omega), wr_i (x := c + 1) (by omega), hca c c0 (by omega)]
        have big : 136 ≤ qb (ql L - 1) + c ∧ qb (ql L - 1) + c < 202 := by rw [hqb]; omega
        have ek : ∀ j, 0 ≤ j → ¬ j = qb (ql L - 1) + c → ro (sI τ (m + 1) (qb (ql L - 1) + c).toNat (ro σ m (qb p + c))) m j = ro τ m j := fun j j0 j1 => ro_nk j0 (by omega) j1
        refine ⟨c0, by omega, by omega, by omega, ih (c + 1) _ (by omega) (by omega) (by omega) (hs.st (Or.inl rfl)) ⟨(ek 3 (by decide) (by omega)).trans hq2.1, fun k k0 k1 => ?_, hq2.2.2.eqv (ek 4 (by decide) (by omega)) (ek 5 (by decide) (by omega))⟩ ((ek 4 (by decide) (by omega)).trans f4) (fun j j0 j1 j2 j3 => (ek j j0 (by omega)).trans (he j j0 j1 j2 j3)) (fun j j0 j1 => by rw [gi_ne (by omega)]; exact hca j j0 j1) (fun j j0 j1 => ?_)⟩
        · have k1' := k1
          rw [hrm] at k1'
          refine (hq2.2.1 k k0 k1).eqv ?_ fun j j0 j1 => ek j (by rw [hqb] at j0; omega) (by rw [hqb] at j0 j1; rw [hqb]; omega)
          rw [qg_rm p0 k0]
          split
          · exact h4 k k0 (by omega)
          · exact h4 (k + 1) (by omega) (by omega)
        · by_cases ej : j = c
          · rw [ej, ro_eq]
          · rw [ek _ (by rw [hqb]; omega) (by omega)]; exact hd j j0 (by omega)
  have key1 : ∀ (k : Nat) (c : Int) (τ : ms_T), 0 ≤ c → c ≤ 11 → 11 - c < k → Sm σ τ (fun c => c = m + 6) → (∀ j : Int, 0 ≤ j → j < c → gi τ (m + 6) j.toNat = ro σ m (qb p + j)) → At n_X9_goesBehind 12 [some (vR (some m)), some (vI (qb p)), some (vI c)] [] τ Q := by
    intro k
    induction k with
    | zero => intro c τ c0 c1 c2; omega
    | succ k ih =>
      intro c τ c0 c1 c2 hs hca
      obtain ⟨s0, g0, g1, g2, g4, g5, g11, z1, z2, z3, z4, z5, z6⟩ := hm.sm hs
      have same : ∀ j, ro τ m j = ro σ m j := fun j => ro_sm hs (by omega) j
      have e44 : gi τ (m + 1) (4 : Int).toNat = p := (same 4).trans e4
      refine vc_X9_goesBehind_12 _ _ _ _ _ ⟨fun e => ?_, fun e => ?_⟩
      · simp only [s0, g0, z1, e44, isS_some, true_and]
        refine ⟨by decide, by decide, X9_removes (hm.sm hs) (hq.eqv h6 h4 fun j _ => same j) h6 h4 p0 p1 fun υ hs2 hq2 t1 t2 he => ⟨rfl, key2 12 0 υ (by omega) (by omega) (by omega) ((hs.wk fun c hc => Or.inr hc).tr (hs2.wk fun c hc => Or.inl hc)) hq2 (t2 ((same 4).trans e4)).1 (fun j j0 j1 j2 j3 => (he j j0 j1 j2 j3).trans (same j)) (fun j j0 j1 => by rw [hs2.i (by omega)]; exact hca j j0 (by omega)) (fun j j0 j1 => by omega)⟩⟩
      · simp only [s0, g0, g11, z1, z6, isS_some, true_and]
        have e6 : gi τ (m + 1) (qb p + c).toNat = ro σ m (qb p + c) := same (qb p + c)
        rw [wr_i (x := qb p + c) (by rw [hqb]; omega), wr_i (x := c + 1) (by omega), e6]
        refine ⟨by rw [hqb]; omega, by rw [hqb]; omega, c0, by omega, ih (c + 1) _ (by omega) (by omega) (by omega) (hs.st rfl) (fun j j0 j1 => ?_)⟩
        by_cases ej : j = c
        · rw [ej, gi_eq]
        · rw [gi_nk (by omega)]; exact hca j j0 (by omega)
  obtain ⟨s0, g0, g1, g2, g4, g5, g11, z1, z2, z3, z4, z5, z6⟩ := id hm
  have e44 : gi σ (m + 1) (4 : Int).toNat = p := e4
  refine vc_X9_goesBehind _ _ _ ?_
  simp only [s0, g0, z1, e44, isS_some, true_and]
  exact ⟨by decide, by decide, X9_requestAt p0 (by omega) ⟨_, rfl, key1 12 0 σ (by omega) (by omega) (by omega) Sm.rf (fun j j0 j1 => by omega)⟩⟩
end M
