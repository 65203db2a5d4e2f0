theorem wtR_le {F : Fl} {S : Sa} {r : Rq} (hF : FW F) (h : RqW F S r) : wtR F r ≤ 1280 := by
  obtain ⟨h1, h2, hk, h4, h5, h6⟩ := h
  have cb := cnF_bd (a := lb (rho r) 0) hF
  unfold wtR
  split
  · decide
  · split
    · omega
    · next c =>
      have hfl := (hF.2.2 (rfl_ r) (by omega) h2.2).1.2
      have := smI_bd (f := szF (rho r)) (n := ln (rho r)) (lo := 0) (hi := 320) (fun i i0 i1 => by
        have a := hk.2 i i0 i1
        have b := (h5 i i0 i1).2 (by omega)
        unfold szF
        omega) (by omega) (by omega) (ln (rho r)) (ln_nn _) (Int.le_refl _)
      unfold sizeL
      omega
theorem wtQ_le {F : Fl} : ∀ {Q : List Rq}, (∀ r ∈ Q, wtR F r ≤ 1280) → wtQ F Q ≤ 1280 * ql Q
  | [], _ => by show (0 : Int) ≤ 1280 * 0; omega
  | r :: Q, h => by
    have h1 := h r List.mem_cons_self
    have h2 := wtQ_le (fun x hx => h x (List.mem_cons_of_mem _ hx)) (Q := Q)
    have h3 : ql (r :: Q) = ql Q + 1 := by unfold ql; simp
    show wtR F r + wtQ F Q ≤ 1280 * ql (r :: Q)
    rw [h3]
    omega
section M
variable {σ : ms_T} {m : Nat} {F : Fl} {S : Sa} {K : Int → Int} {n : Int} {T : Int → Int} {Q : mq_T}
set_option maxHeartbeats 4000000 in
theorem M_ticksToEmpty (h : MoC σ m F S K n T) (hw : StW F S K n T) (hQ : ∀ τ, Sm σ τ (inMx m) → MoC τ m F S K n T → Q (some (vI (rToE F S))) τ) : Ca n_X9_ticksToEmpty [vR (some m)] σ Q := by
  unfold rToE at hQ
  have hn1 := hw.2.2.1
  have hF := hw.1
  refine vc_X9_ticksToEmpty _ _ _ ⟨h.1.1, X9_putsAside h.1 fun σ1 hs1 hd => ⟨rfl, ?_⟩⟩
  have h1 : MoC σ1 m F S K n T := ⟨h.1.sm hs1, h.2.1.eqv hw.1 hw.2.1 (fun j _ _ => ro_sm hs1 (by omega) j), by rw [hs1.i (by omega)]; exact h.2.2.1, fun j j0 j1 => by rw [hs1.i (by omega)]; exact h.2.2.2 j j0 j1⟩
  have key : ∀ (k : Nat) (S' : Sa) (K' : Int → Int) (j : Int) (τ : ms_T), 0 ≤ j → j + k = 1000000 → (ql (que S') ≤ 0 ∨ wtQ F (que S') + 1 ≤ k) → Sm σ1 τ (inMo m) → SaW F S' → now S' = now S + j → MoC τ m F S' K' n T → (∀ υ, Sm σ υ (inMx m) → MoC υ m F S K n T → Q (some (vI (empN F k S' j))) υ) → At n_X9_ticksToEmpty 6 [some (vR (some m)), some (vI j)] [] τ Q := by
    intro k
    induction k with
    | zero =>
      intro S' K' j τ j0 jk hwt hs hW et hC hv
      obtain ⟨s0, g0, g1, g2, g4, g5, g11, z1, z2, z3, z4, z5, z6⟩ := hC.1
      have e3 : gi τ (m + 1) (3 : Int).toNat = ql (que S') := hC.2.1.2.1.2.1.1
      have hq0 : ql (que S') ≤ 0 := by
        rcases hwt with z | z
        · exact z
        · have := wtQ_nn hF (all_iff.mp fun k k0 k1 => (hW.2.2.2.2.1 k k0 k1).2.2.1) (Q := que S')
          omega
      unfold empN at hv
      refine vc_X9_ticksToEmpty_6 _ _ _ _ ?_
      simp only [s0, g0, z1, e3, isS_some, true_and]
      refine ⟨by decide, by decide, fun _ => X9_putsBack (R := ro σ m) hC.1 (fun j j0 j1 => by rw [hs.i (by unfold inMo; omega)]; exact hd j j0 j1) fun υ hs2 hR => ⟨rfl, hv υ ?_ ?_⟩, fun z => absurd hq0 z⟩
      · exact ((hs1.wk fun c hc => by unfold inMx; omega).tr (hs.wk fun c hc => by unfold inMo at hc; unfold inMx; omega)).tr (hs2.wk fun c hc => by unfold inMx; omega)
      · exact ⟨hC.1.sm hs2, h.2.1.eqv hw.1 hw.2.1 hR, by rw [hs2.i (by omega)]; exact hC.2.2.1, fun j j0 j1 => by rw [hs2.i (by omega)]; exact hC.2.2.2 j j0 j1⟩
    | succ k ih =>
      intro S' K' j τ j0 jk hwt hs hW et hC hv
      obtain ⟨s0, g0, g1, g2, g4, g5, g11, z1, z2, z3, z4, z5, z6⟩ := hC.1
      have e3 : gi τ (m + 1) (3 : Int).toNat = ql (que S') := hC.2.1.2.1.2.1.1
      unfold empN at hv
      refine vc_X9_ticksToEmpty_6 _ _ _ _ ?_
      simp only [s0, g0, z1, e3, isS_some, true_and]
      refine ⟨by decide, by decide, fun z => X9_putsBack (R := ro σ m) hC.1 (fun j j0 j1 => by rw [hs.i (by unfold inMo; omega)]; exact hd j j0 j1) fun υ hs2 hR => ⟨rfl, ?_⟩, fun z => ?_⟩
      · rw [if_pos z] at hv
        refine hv υ ?_ ?_
        · exact ((hs1.wk fun c hc => by unfold inMx; omega).tr (hs.wk fun c hc => by unfold inMo at hc; unfold inMx; omega)).tr (hs2.wk fun c hc => by unfold inMx; omega)
        · exact ⟨hC.1.sm hs2, h.2.1.eqv hw.1 hw.2.1 hR, by rw [hs2.i (by omega)]; exact hC.2.2.1, fun j j0 j1 => by rw [hs2.i (by omega)]; exact hC.2.2.2 j j0 j1⟩
      · rw [if_neg z] at hv
        rw [wr_i (x := j + 1) (by omega)]
        have hwt2 := hwt.resolve_left z
        refine M_tick hC hF hW (by omega) fun ω hs3 hC3 => ⟨rfl, ih (ticS F S') _ (j + 1) ω (by omega) (by omega) ?_ (hs.tr (hs3.wk fun c hc => by unfold inTm at hc; unfold inMo; omega)) (SaW_tick hF hW).1 (by show now S' + 1 = _; omega) hC3 hv⟩
        rcases wt_tic hF hW with y | y
        · exact Or.inl y
        · exact Or.inr (by omega)
  refine key 1000000 S K 0 σ1 (by omega) (by omega) (Or.inr ?_) Sm.rf hw.2.1 (by omega) h1 hQ
  have := wtQ_le (F := F) (Q := que S) (all_iff.mp fun k k0 k1 => wtR_le hF (hw.2.1.2.2.2.2.1 k k0 k1))
  have := hw.2.1.2.2.2.1
  omega
end M
