def inMx (m c : Nat) : Prop := m ≤ c ∧ c ≤ m + 6
section M
variable {σ : ms_T} {m : Nat} {F : Fl} {S : Sa} {K : Int → Int} {n : Int} {T : Int → Int} {Q : mq_T}
set_option maxHeartbeats 4000000 in
theorem M_run {k : Int} (h : MoC σ m F S K n T) (hw : StW F S K n T) (hQ : ∀ τ, Sm σ τ (inMo m) → MoC τ m F (rRun F S K k).2.1 (rRun F S K k).2.2 n T → Q (some (vI (rRun F S K k).1)) τ) : Ca n_X9_run [vR (some m), vI k] σ Q := by
  unfold rRun at hQ
  have hn1 := hw.2.2.1
  have hno := hw.2.1.2.1
  obtain ⟨s0, g0, g1, g2, g4, g5, g11, z1, z2, z3, z4, z5, z6⟩ := h.1
  have e0 : gi σ (m + 1) (0 : Int).toNat = now S := h.2.1.2.1.1.1
  refine vc_X9_run _ _ _ _ (X9_in (fun d => ⟨1, rfl, fun _ => ?_, fun z => absurd (show ¬ (1 : Int) = 0 by decide) z⟩) (fun d => ⟨0, rfl, fun z => absurd rfl z, fun _ => ?_⟩))
  · rw [cif_p d] at hQ
    simp only [s0, g0, z1, e0, isS_some, true_and]
    rw [wr_i (x := now S + k) (by omega)]
    refine ⟨by decide, by decide, fun e => ?_, fun e => ?_⟩
    · rw [cif_p e] at hQ
      have key : ∀ (x : Nat) (j : Int) (τ : ms_T), 0 ≤ j → j ≤ k → k - j < x → Sm σ τ (inMo m) → MoC τ m F (ticN F j.toNat (S, K)).1 (ticN F j.toNat (S, K)).2 n T → At n_X9_run 31 [some (vR (some m)), some (vI k), some (vI j)] [] τ Q := by
        intro x
        induction x with
        | zero => intro j τ h0 h1 h2; omega
        | succ x ih =>
          intro j τ h0 h1 h2 hs hC
          obtain ⟨a1, a2, a3, a4, a5⟩ := ticN_ok (K := K) hw.1 hw.2.1 j.toNat
          obtain ⟨s0, g0, g1, g2, g4, g5, g11, z1, z2, z3, z4, z5, z6⟩ := hC.1
          have e0 : gi τ (m + 1) (0 : Int).toNat = now (ticN F j.toNat (S, K)).1 := hC.2.1.2.1.1.1
          refine vc_X9_run_31 _ _ _ _ _ ⟨fun g => ?_, fun g => ⟨s0, ?_⟩⟩
          · have ej : j = k := by omega
            simp only [s0, g0, z1, e0, isS_some, true_and]
            rw [a2, Int.toNat_of_nonneg h0, ej]
            rw [ej] at hC
            exact ⟨by decide, by decide, hQ τ hs hC⟩
          · rw [wr_i (x := j + 1) (by omega)]
            refine M_tick hC hw.1 a1 (by rw [a2]; omega) (fun υ hs2 hC2 => ⟨rfl, ?_⟩)
            refine ih (j + 1) υ (by omega) (by omega) (by omega) (hs.tr (hs2.wk fun c hc => by unfold inTm at hc; unfold inMo; omega)) ?_
            rw [show (j + 1).toNat = j.toNat + 1 by omega]
            exact hC2
      exact key (k + 1).toNat 0 σ (by omega) (by omega) (by omega) Sm.rf h
    · rw [cif_n e] at hQ; exact hQ σ Sm.rf h
  · rw [cif_n d] at hQ; exact hQ σ Sm.rf h
theorem X9_putsAside (hm : isM σ m) (hQ : ∀ τ, Sm σ τ (fun c => c = m + 2) → (∀ j : Int, 0 ≤ j → j < 767 → gi τ (m + 2) j.toNat = ro σ m j) → Q none τ) : Ca n_X9_putsAside [vR (some m)] σ Q := by
  have key : ∀ (k : Nat) (c : Int) (τ : ms_T), 0 ≤ c → c ≤ 767 → 767 - c < k → Sm σ τ (fun c => c = m + 2) → (∀ j : Int, 0 ≤ j → j < c → gi τ (m + 2) j.toNat = ro σ m j) → At n_X9_putsAside 2 [some (vR (some m)), some (vI c)] [] τ Q := by
    intro k
    induction k with
    | zero => intro c τ c0 c1 c2; omega
    | succ k ih =>
      intro c τ c0 c1 c2 hs hd
      obtain ⟨s0, g0, g1, g2, g4, g5, g11, z1, z2, z3, z4, z5, z6⟩ := hm.sm hs
      have e1 : gi τ (m + 1) c.toNat = ro σ m c := ro_sm hs (by omega) c
      refine vc_X9_putsAside_2 _ _ _ _ ⟨fun e => hQ τ hs fun j j0 j1 => hd j j0 (by omega), fun e => ?_⟩
      simp only [s0, g0, g1, z1, z2, e1, isS_some, true_and]
      rw [wr_i (x := c + 1) (by omega)]
      refine ⟨c0, by omega, c0, by omega, ih (c + 1) _ (by omega) (by omega) (by omega) (hs.st rfl) fun j j0 j1 => ?_⟩
      by_cases ej : j = c
      · rw [ej, gi_eq]
      · rw [gi_nk (by omega)]; exact hd j j0 (by omega)
  exact vc_X9_putsAside _ _ _ (key 768 0 σ (by omega) (by omega) (by omega) Sm.rf fun j j0 j1 => by omega)
theorem X9_putsBack {R : Int → Int} (hm : isM σ m) (ha : ∀ j : Int, 0 ≤ j → j < 767 → gi σ (m + 2) j.toNat = R j) (hQ : ∀ τ, Sm σ τ (fun c => c = m + 1) → (∀ j : Int, 0 ≤ j → j < 767 → ro τ m j = R j) → Q none τ) : Ca n_X9_putsBack [vR (some m)] σ Q := by
  have key : ∀ (k : Nat) (c : Int) (τ : ms_T), 0 ≤ c → c ≤ 767 → 767 - c < k → Sm σ τ (fun c => c = m + 1) → (∀ j : Int, 0 ≤ j → j < c → ro τ m j = R j) → At n_X9_putsBack 2 [some (vR (some m)), some (vI c)] [] τ Q := by
    intro k
    induction k with
    | zero => intro c τ c0 c1 c2; omega
    | succ k ih =>
      intro c τ c0 c1 c2 hs hd
      obtain ⟨s0, g0, g1, g2, g4, g5, g11, z1, z2, z3, z4, z5, z6⟩ := hm.sm hs
      refine vc_X9_putsBack_2 _ _ _ _ ⟨fun e => hQ τ hs fun j j0 j1 => hd j j0 (by omega), fun e => ?_⟩
      have e1 : gi τ (m + 2) c.toNat = R c := by rw [hs.i (by omega)]; exact ha c c0 (by omega)
      simp only [s0, g0, g1, z1, z2, e1, isS_some, true_and]
      rw [wr_i (x := c + 1) (by omega)]
      refine ⟨c0, by omega, c0, by omega, ih (c + 1) _ (by omega) (by omega) (by omega) (hs.st rfl) fun j j0 j1 => ?_⟩
      by_cases ej : j = c
      · rw [ej, ro_eq]
      · rw [ro_nk j0 c0 ej]; exact hd j j0 (by omega)
  exact vc_X9_putsBack _ _ _ (key 768 0 σ (by omega) (by omega) (by omega) Sm.rf fun j j0 j1 => by omega)
/-- back as it was -/
theorem MoC.back {τ : ms_T} {P : Nat → Prop} (h : MoC σ m F S K n T) (hw : StX F S K n T) (hs : Sm σ τ P) (hP : ∀ c, P c → inMx m c ∧ ¬ c = m + 5) (h6 : gi τ m 6 = n) (hR : ∀ j : Int, 0 ≤ j → j < 767 → ro τ m j = ro σ m j) : MoC τ m F S K n T :=
  ⟨h.1.sm hs, h.2.1.eqv hw.1 hw.2.1 hR, h6, fun i a b => by rw [hs.i fun z => (hP _ z).2 rfl]; exact h.2.2.2 i a b⟩
end M
