/-! The law: script 0, class 1, reference 232 -/
theorem case4 {nC nM L : Nat} {l3 : Int} {σ : ms_T} {Q : mq_T} (h8 : gs σ 1 = (8, 0)) (h49 : (gs σ 0).1 = 49) (hb : ∀ j : Int, 1 ≤ j → j ≤ 4 → 0 ≤ wr (l3 + j) ∧ wr (l3 + j) < ((gs σ 0).2 : Int)) (hP : ∀ Q2, Aft L nM [vI (gi σ 0 (wr (l3 + (1 : Int))).toNat), vI (gi σ 0 (wr (l3 + (2 : Int))).toNat), vI (gi σ 0 (wr (l3 + (3 : Int))).toNat), vI (gi σ 0 (wr (l3 + (4 : Int))).toNat)] σ Q2 → Ca nC [vR (some 1), vI (gi σ 0 (wr (l3 + (1 : Int))).toNat), vI (gi σ 0 (wr (l3 + (2 : Int))).toNat), vI (gi σ 0 (wr (l3 + (3 : Int))).toNat), vI (gi σ 0 (wr (l3 + (4 : Int))).toNat)] σ Q2) (step : ∀ υ, Ex L υ → At n_L_law 18 [some (vR (some 0)), some (vR (some 1)), some (vR (some 232)), some (vI (wr (l3 + (5 : Int))))] [] υ Q) : isS (some 0) fun c3 => (gs σ c3).1 = 49 ∧ 0 ≤ (wr (l3 + (1 : Int))) ∧ (wr (l3 + (1 : Int))) < ((gs σ c3).2 : Int) ∧ isS (some 0) fun c4 => (gs σ c4).1 = 49 ∧ 0 ≤ (wr (l3 + (2 : Int))) ∧ (wr (l3 + (2 : Int))) < ((gs σ c4).2 : Int) ∧ isS (some 0) fun c5 => (gs σ c5).1 = 49 ∧ 0 ≤ (wr (l3 + (3 : Int))) ∧ (wr (l3 + (3 : Int))) < ((gs σ c5).2 : Int) ∧ isS (some 0) fun c6 => (gs σ c6).1 = 49 ∧ 0 ≤ (wr (l3 + (4 : Int))) ∧ (wr (l3 + (4 : Int))) < ((gs σ c6).2 : Int) ∧ isS (some 1) fun c7 => gs σ c7 = (8, 0) ∧ Ca nC [vR (some c7), vI (gi σ c3 (wr (l3 + (1 : Int))).toNat), vI (gi σ c4 (wr (l3 + (2 : Int))).toNat), vI (gi σ c5 (wr (l3 + (3 : Int))).toNat), vI (gi σ c6 (wr (l3 + (4 : Int))).toNat)] σ fun v8 τ9 => ∃ x10, v8 = some (vI x10) ∧ isS (some 0) fun c11 => (gs τ9 c11).1 = 49 ∧ 0 ≤ (wr (l3 + (1 : Int))) ∧ (wr (l3 + (1 : Int))) < ((gs τ9 c11).2 : Int) ∧ isS (some 0) fun c12 => (gs τ9 c12).1 = 49 ∧ 0 ≤ (wr (l3 + (2 : Int))) ∧ (wr (l3 + (2 : Int))) < ((gs τ9 c12).2 : Int) ∧ isS (some 0) fun c13 => (gs τ9 c13).1 = 49 ∧ 0 ≤ (wr (l3 + (3 : Int))) ∧ (wr (l3 + (3 : Int))) < ((gs τ9 c13).2 : Int) ∧ isS (some 0) fun c14 => (gs τ9 c14).1 = 49 ∧ 0 ≤ (wr (l3 + (4 : Int))) ∧ (wr (l3 + (4 : Int))) < ((gs τ9 c14).2 : Int) ∧ isS (some 232) fun c15 => gs τ9 c15 = (9, 0) ∧ Ca nM [vR (some c15), vI (gi τ9 c11 (wr (l3 + (1 : Int))).toNat), vI (gi τ9 c12 (wr (l3 + (2 : Int))).toNat), vI (gi τ9 c13 (wr (l3 + (3 : Int))).toNat), vI (gi τ9 c14 (wr (l3 + (4 : Int))).toNat)] τ9 fun v16 τ17 => ∃ x18, v16 = some (vI x18) ∧ (x10 = x18 → At n_L_law 18 [some (vR (some 0)), some (vR (some 1)), some (vR (some 232)), some (vI (wr (l3 + (5 : Int))))] [] τ17 Q) ∧ (¬ (x10 = x18) → ((0 : Int) = 0 ∨ (0 : Int) = 1) ∧ Q (some (vI (0 : Int))) τ17) := by
  have b1 := hb 1 (by decide) (by decide)
  have b2 := hb 2 (by decide) (by decide)
  have b3 := hb 3 (by decide) (by decide)
  have b4 := hb 4 (by decide) (by decide)
  simp only [isS_some]
  refine ⟨h49, b1.1, b1.2, h49, b2.1, b2.2, h49, b3.1, b3.2, h49, b4.1, b4.2, h8, hP _ fun τ x h0 h1 h9 hM => ⟨x, rfl, ?_⟩⟩
  simp only [h0, h1]
  exact ⟨h49, b1.1, b1.2, h49, b2.1, b2.2, h49, b3.1, b3.2, h49, b4.1, b4.2, h9, hM _ fun υ hυ => ⟨x, rfl, fun _ => step υ hυ, fun z => absurd rfl z⟩⟩
theorem case2 {nC nM L : Nat} {l3 : Int} {σ : ms_T} {Q : mq_T} (h8 : gs σ 1 = (8, 0)) (h49 : (gs σ 0).1 = 49) (hb : ∀ j : Int, 1 ≤ j → j ≤ 4 → 0 ≤ wr (l3 + j) ∧ wr (l3 + j) < ((gs σ 0).2 : Int)) (hP : ∀ Q2, Aft L nM [vI (gi σ 0 (wr (l3 + (1 : Int))).toNat), vI (gi σ 0 (wr (l3 + (2 : Int))).toNat)] σ Q2 → Ca nC [vR (some 1), vI (gi σ 0 (wr (l3 + (1 : Int))).toNat), vI (gi σ 0 (wr (l3 + (2 : Int))).toNat)] σ Q2) (step : ∀ υ, Ex L υ → At n_L_law 18 [some (vR (some 0)), some (vR (some 1)), some (vR (some 232)), some (vI (wr (l3 + (5 : Int))))] [] υ Q) : isS (some 0) fun c19 => (gs σ c19).1 = 49 ∧ 0 ≤ (wr (l3 + (1 : Int))) ∧ (wr (l3 + (1 : Int))) < ((gs σ c19).2 : Int) ∧ isS (some 0) fun c20 => (gs σ c20).1 = 49 ∧ 0 ≤ (wr (l3 + (2 : Int))) ∧ (wr (l3 + (2 : Int))) < ((gs σ c20).2 : Int) ∧ isS (some 1) fun c21 => gs σ c21 = (8, 0) ∧ Ca nC [vR (some c21), vI (gi σ c19 (wr (l3 + (1 : Int))).toNat), vI (gi σ c20 (wr (l3 + (2 : Int))).toNat)] σ fun v22 τ23 => ∃ x24, v22 = some (vI x24) ∧ isS (some 0) fun c25 => (gs τ23 c25).1 = 49 ∧ 0 ≤ (wr (l3 + (1 : Int))) ∧ (wr (l3 + (1 : Int))) < ((gs τ23 c25).2 : Int) ∧ isS (some 0) fun c26 => (gs τ23 c26).1 = 49 ∧ 0 ≤ (wr (l3 + (2 : Int))) ∧ (wr (l3 + (2 : Int))) < ((gs τ23 c26).2 : Int) ∧ isS (some 232) fun c27 => gs τ23 c27 = (9, 0) ∧ Ca nM [vR (some c27), vI (gi τ23 c25 (wr (l3 + (1 : Int))).toNat), vI (gi τ23 c26 (wr (l3 + (2 : Int))).toNat)] τ23 fun v28 τ29 => ∃ x30, v28 = some (vI x30) ∧ (x24 = x30 → At n_L_law 18 [some (vR (some 0)), some (vR (some 1)), some (vR (some 232)), some (vI (wr (l3 + (5 : Int))))] [] τ29 Q) ∧ (¬ (x24 = x30) → ((0 : Int) = 0 ∨ (0 : Int) = 1) ∧ Q (some (vI (0 : Int))) τ29) := by
  have b1 := hb 1 (by decide) (by decide)
  have b2 := hb 2 (by decide) (by decide)
  have b3 := hb 3 (by decide) (by decide)
  have b4 := hb 4 (by decide) (by decide)
  simp only [isS_some]
  refine ⟨h49, b1.1, b1.2, h49, b2.1, b2.2, h8, hP _ fun τ x h0 h1 h9 hM => ⟨x, rfl, ?_⟩⟩
  simp only [h0, h1]
  exact ⟨h49, b1.1, b1.2, h49, b2.1, b2.2, h9, hM _ fun υ hυ => ⟨x, rfl, fun _ => step υ hυ, fun z => absurd rfl z⟩⟩
theorem case3 {nC nM L : Nat} {l3 : Int} {σ : ms_T} {Q : mq_T} (h8 : gs σ 1 = (8, 0)) (h49 : (gs σ 0).1 = 49) (hb : ∀ j : Int, 1 ≤ j → j ≤ 4 → 0 ≤ wr (l3 + j) ∧ wr (l3 + j) < ((gs σ 0).2 : Int)) (hP : ∀ Q2, Aft L nM [vI (gi σ 0 (wr (l3 + (1 : Int))).toNat), vI (gi σ 0 (wr (l3 + (2 : Int))).toNat), vI (gi σ 0 (wr (l3 + (3 : Int))).toNat)] σ Q2 → Ca nC [vR (some 1), vI (gi σ 0 (wr (l3 + (1 : Int))).toNat), vI (gi σ 0 (wr (l3 + (2 : Int))).toNat), vI (gi σ 0 (wr (l3 + (3 : Int))).toNat)] σ Q2) (step : ∀ υ, Ex L υ → At n_L_law 18 [some (vR (some 0)), some (vR (some 1)), some (vR (some 232)), some (vI (wr (l3 + (5 : Int))))] [] υ Q) : isS (some 0) fun c67 => (gs σ c67).1 = 49 ∧ 0 ≤ (wr (l3 + (1 : Int))) ∧ (wr (l3 + (1 : Int))) < ((gs σ c67).2 : Int) ∧ isS (some 0) fun c68 => (gs σ c68).1 = 49 ∧ 0 ≤ (wr (l3 + (2 : Int))) ∧ (wr (l3 + (2 : Int))) < ((gs σ c68).2 : Int) ∧ isS (some 0) fun c69 => (gs σ c69).1 = 49 ∧ 0 ≤ (wr (l3 + (3 : Int))) ∧ (wr (l3 + (3 : Int))) < ((gs σ c69).2 : Int) ∧ isS (some 1) fun c70 => gs σ c70 = (8, 0) ∧ Ca nC [vR (some c70), vI (gi σ c67 (wr (l3 + (1 : Int))).toNat), vI (gi σ c68 (wr (l3 + (2 : Int))).toNat), vI (gi σ c69 (wr (l3 + (3 : Int))).toNat)] σ fun v71 τ72 => ∃ x73, v71 = some (vI x73) ∧ isS (some 0) fun c74 => (gs τ72 c74).1 = 49 ∧ 0 ≤ (wr (l3 + (1 : Int))) ∧ (wr (l3 + (1 : Int))) < ((gs τ72 c74).2 : Int) ∧ isS (some 0) fun c75 => (gs τ72 c75).1 = 49 ∧ 0 ≤ (wr (l3 + (2 : Int))) ∧ (wr (l3 + (2 : Int))) < ((gs τ72 c75).2 : Int) ∧ isS (some 0) fun c76 => (gs τ72 c76).1 = 49 ∧ 0 ≤ (wr (l3 + (3 : Int))) ∧ (wr (l3 + (3 : Int))) < ((gs τ72 c76).2 : Int) ∧ isS (some 232) fun c77 => gs τ72 c77 = (9, 0) ∧ Ca nM [vR (some c77), vI (gi τ72 c74 (wr (l3 + (1 : Int))).toNat), vI (gi τ72 c75 (wr (l3 + (2 : Int))).toNat), vI (gi τ72 c76 (wr (l3 + (3 : Int))).toNat)] τ72 fun v78 τ79 => ∃ x80, v78 = some (vI x80) ∧ (x73 = x80 → At n_L_law 18 [some (vR (some 0)), some (vR (some 1)), some (vR (some 232)), some (vI (wr (l3 + (5 : Int))))] [] τ79 Q) ∧ (¬ (x73 = x80) → ((0 : Int) = 0 ∨ (0 : Int) = 1) ∧ Q (some (vI (0 : Int))) τ79) := by
  have b1 := hb 1 (by decide) (by decide)
  have b2 := hb 2 (by decide) (by decide)
  have b3 := hb 3 (by decide) (by decide)
  have b4 := hb 4 (by decide) (by decide)
  simp only [isS_some]
  refine ⟨h49, b1.1, b1.2, h49, b2.1, b2.2, h49, b3.1, b3.2, h8, hP _ fun τ x h0 h1 h9 hM => ⟨x, rfl, ?_⟩⟩
  simp only [h0, h1]
  exact ⟨h49, b1.1, b1.2, h49, b2.1, b2.2, h49, b3.1, b3.2, h9, hM _ fun υ hυ => ⟨x, rfl, fun _ => step υ hυ, fun z => absurd rfl z⟩⟩
theorem case0 {nC nM L : Nat} {l3 : Int} {σ : ms_T} {Q : mq_T} (h8 : gs σ 1 = (8, 0)) (h49 : (gs σ 0).1 = 49) (hb : ∀ j : Int, 1 ≤ j → j ≤ 4 → 0 ≤ wr (l3 + j) ∧ wr (l3 + j) < ((gs σ 0).2 : Int)) (hP : ∀ Q2, Aft L nM [] σ Q2 → Ca nC [vR (some 1)] σ Q2) (step : ∀ υ, Ex L υ → At n_L_law 18 [some (vR (some 0)), some (vR (some 1)), some (vR (some 232)), some (vI (wr (l3 + (5 : Int))))] [] υ Q) : isS (some 1) fun c105 => gs σ c105 = (8, 0) ∧ Ca nC [vR (some c105)] σ fun v106 τ107 => ∃ x108, v106 = some (vI x108) ∧ isS (some 232) fun c109 => gs τ107 c109 = (9, 0) ∧ Ca nM [vR (some c109)] τ107 fun v110 τ111 => ∃ x112, v110 = some (vI x112) ∧ (x108 = x112 → At n_L_law 18 [some (vR (some 0)), some (vR (some 1)), some (vR (some 232)), some (vI (wr (l3 + (5 : Int))))] [] τ111 Q) ∧ (¬ (x108 = x112) → ((0 : Int) = 0 ∨ (0 : Int) = 1) ∧ Q (some (vI (0 : Int))) τ111) := by
  have b1 := hb 1 (by decide) (by decide)
  have b2 := hb 2 (by decide) (by decide)
  have b3 := hb 3 (by decide) (by decide)
  have b4 := hb 4 (by decide) (by decide)
  simp only [isS_some]
  exact ⟨h8, hP _ fun τ x h0 h1 h9 hM => ⟨x, rfl, h9, hM _ fun υ hυ => ⟨x, rfl, fun _ => step υ hυ, fun z => absurd rfl z⟩⟩⟩
theorem case1 {nC nM L : Nat} {l3 : Int} {σ : ms_T} {Q : mq_T} (h8 : gs σ 1 = (8, 0)) (h49 : (gs σ 0).1 = 49) (hb : ∀ j : Int, 1 ≤ j → j ≤ 4 → 0 ≤ wr (l3 + j) ∧ wr (l3 + j) < ((gs σ 0).2 : Int)) (hP : ∀ Q2, Aft L nM [vI (gi σ 0 (wr (l3 + (1 : Int))).toNat)] σ Q2 → Ca nC [vR (some 1), vI (gi σ 0 (wr (l3 + (1 : Int))).toNat)] σ Q2) (step : ∀ υ, Ex L υ → At n_L_law 18 [some (vR (some 0)), some (vR (some 1)), some (vR (some 232)), some (vI (wr (l3 + (5 : Int))))] [] υ Q) : isS (some 0) fun c121 => (gs σ c121).1 = 49 ∧ 0 ≤ (wr (l3 + (1 : Int))) ∧ (wr (l3 + (1 : Int))) < ((gs σ c121).2 : Int) ∧ isS (some 1) fun c122 => gs σ c122 = (8, 0) ∧ Ca nC [vR (some c122), vI (gi σ c121 (wr (l3 + (1 : Int))).toNat)] σ fun v123 τ124 => ∃ x125, v123 = some (vI x125) ∧ isS (some 0) fun c126 => (gs τ124 c126).1 = 49 ∧ 0 ≤ (wr (l3 + (1 : Int))) ∧ (wr (l3 + (1 : Int))) < ((gs τ124 c126).2 : Int) ∧ isS (some 232) fun c127 => gs τ124 c127 = (9, 0) ∧ Ca nM [vR (some c127), vI (gi τ124 c126 (wr (l3 + (1 : Int))).toNat)] τ124 fun v128 τ129 => ∃ x130, v128 = some (vI x130) ∧ (x125 = x130 → At n_L_law 18 [some (vR (some 0)), some (vR (some 1)), some (vR (some 232)), some (vI (wr (l3 + (5 : Int))))] [] τ129 Q) ∧ (¬ (x125 = x130) → ((0 : Int) = 0 ∨ (0 : Int) = 1) ∧ Q (some (vI (0 : Int))) τ129) := by
  have b1 := hb 1 (by decide) (by decide)
  have b2 := hb 2 (by decide) (by decide)
  have b3 := hb 3 (by decide) (by decide)
  have b4 := hb 4 (by decide) (by decide)
  simp only [isS_some]
  refine ⟨h49, b1.1, b1.2, h8, hP _ fun τ x h0 h1 h9 hM => ⟨x, rfl, ?_⟩⟩
  simp only [h0, h1]
  exact ⟨h49, b1.1, b1.2, h9, hM _ fun υ hυ => ⟨x, rfl, fun _ => step υ hυ, fun z => absurd rfl z⟩⟩
theorem law_loop {L : Nat} (hL : L ≤ 2560) : ∀ (d : Nat) (l3 : Int) (σ : ms_T), 0 ≤ l3 → (L : Int) - l3 ≤ 5 * (d : Int) → Ex L σ → At n_L_law 18 [some (vR (some 0)), some (vR (some 1)), some (vR (some 232)), some (vI l3)] [] σ (fun v τ => v = some (vI 1) ∧ gn τ ≤ 600000 ∧ gl τ ≤ 7302250) := by
  intro d
  induction d with
  | zero =>
    intro l3 σ h0 hd hE
    have hE' := hE
    obtain ⟨F, S, K, n, T, hI⟩ := hE'
    have e0 : gs σ 0 = (49, L) := hI.2.1.1
    refine vc_L_law_18 _ _ _ _ _ _ (isS_mk rfl ⟨by rw [e0], fun _ => ⟨Or.inr rfl, rfl, hI.1⟩, fun z => ?_⟩)
    rw [e0, wr_i (x := ((49, L).2 : Int) - 5) (by show -2147483648 ≤ (L : Int) - 5 ∧ (L : Int) - 5 ≤ 2147483647; omega)] at z
    have z : ¬ ((L : Int) - 5 < l3) := z
    omega
  | succ d ih =>
    intro l3 σ h0 hd hE
    have hE' := hE
    obtain ⟨F, S, K, n, T, hI⟩ := hE'
    have e0 : gs σ 0 = (49, L) := hI.2.1.1
    refine vc_L_law_18 _ _ _ _ _ _ (isS_mk rfl ⟨by rw [e0], fun _ => ⟨Or.inr rfl, rfl, hI.1⟩, fun z => ?_⟩)
    rw [e0, wr_i (x := ((49, L).2 : Int) - 5) (by show -2147483648 ≤ (L : Int) - 5 ∧ (L : Int) - 5 ≤ 2147483647; omega)] at z
    have z : ¬ ((L : Int) - 5 < l3) := z
    have h8 : gs σ 1 = (8, 0) := hI.2.2.1.1.1
    have h49 : (gs σ 0).1 = 49 := by rw [e0]
    have hs2 : ((gs σ 0).2 : Int) = L := by rw [e0]
    have hrg : ∀ j : Int, gi σ 0 (wr (l3 + j)).toNat ≤ 2147483647 := fun j => (hI.2.1.2 _).2
    have hb : ∀ j : Int, 1 ≤ j → j ≤ 4 → 0 ≤ wr (l3 + j) ∧ wr (l3 + j) < ((gs σ 0).2 : Int) := fun j a b => by
      rw [hs2, wr_i (x := l3 + j) (by omega)]
      omega
    have step : ∀ υ, Ex L υ → At n_L_law 18 [some (vR (some 0)), some (vR (some 1)), some (vR (some 232)), some (vI (wr (l3 + (5 : Int))))] [] υ (fun v τ => v = some (vI 1) ∧ gn τ ≤ 600000 ∧ gl τ ≤ 7302250) := fun υ hυ => by
      rw [wr_i (x := l3 + 5) (by omega)]
      exact ih _ υ (by omega) (by omega) hυ
    exact isS_mk rfl ⟨h49, h0, by rw [hs2]; omega, fun _ => step σ hE, fun _ => case4 h8 h49 hb (fun Q2 hQ2 => P_addStation hE hQ2) step,
      fun _ => case2 h8 h49 hb (fun Q2 hQ2 => P_setLoss hE hQ2) step,
      fun _ => case2 h8 h49 hb (fun Q2 hQ2 => P_inView hE hQ2) step,
      fun _ => case2 h8 h49 hb (fun Q2 hQ2 => P_nextView hE hQ2) step,
      fun _ => case2 h8 h49 hb (fun Q2 hQ2 => P_receives hE hQ2) step,
      fun _ => case3 h8 h49 hb (fun Q2 hQ2 => P_store hE hQ2) step,
      fun _ => case2 h8 h49 hb (fun Q2 hQ2 => P_fileInfo hE hQ2) step,
      fun _ => case2 h8 h49 hb (fun Q2 hQ2 => P_fileByte hE hQ2) step,
      fun _ => case0 h8 h49 hb (fun Q2 hQ2 => P_fileCount hE hQ2) step,
      fun _ => case0 h8 h49 hb (fun Q2 hQ2 => P_existingCount hE hQ2) step,
      fun _ => case1 h8 h49 hb (fun Q2 hQ2 => P_directory hE hQ2) step,
      fun _ => case1 h8 h49 hb (fun Q2 hQ2 => P_unknownFiles hE hQ2) step,
      fun _ => case2 h8 h49 hb (fun Q2 hQ2 => P_covered hE (hrg 2) hQ2) step,
      fun _ => case2 h8 h49 hb (fun Q2 hQ2 => P_timeHole hE (hrg 2) hQ2) step,
      fun _ => case2 h8 h49 hb (fun Q2 hQ2 => P_open hE hQ2) step,
      fun _ => case2 h8 h49 hb (fun Q2 hQ2 => P_close hE hQ2) step,
      fun _ => case2 h8 h49 hb (fun Q2 hQ2 => P_receivedBytes hE hQ2) step,
      fun _ => case3 h8 h49 hb (fun Q2 hQ2 => P_receivedByte hE (hrg 3) hQ2) step,
      fun _ => case3 h8 h49 hb (fun Q2 hQ2 => P_byteHole hE (hrg 3) hQ2) step,
      fun _ => case1 h8 h49 hb (fun Q2 hQ2 => P_completeFiles hE hQ2) step,
      fun _ => case1 h8 h49 hb (fun Q2 hQ2 => P_requestDirectory hE hQ2) step,
      fun _ => case2 h8 h49 hb (fun Q2 hQ2 => P_requestFile hE hQ2) step,
      fun _ => case1 h8 h49 hb (fun Q2 hQ2 => P_withdraw hE hQ2) step,
      fun _ => case0 h8 h49 hb (fun Q2 hQ2 => P_queueLength hE hQ2) step,
      fun _ => case2 h8 h49 hb (fun Q2 hQ2 => P_queued hE hQ2) step,
      fun _ => case1 h8 h49 hb (fun Q2 hQ2 => P_type hE hQ2) step,
      fun _ => case0 h8 h49 hb (fun Q2 hQ2 => P_clearText hE hQ2) step,
      fun _ => case0 h8 h49 hb (fun Q2 hQ2 => P_fault hE hQ2) step,
      fun _ => case1 h8 h49 hb (fun Q2 hQ2 => P_requestText hE hQ2) step,
      fun _ => case1 h8 h49 hb (fun Q2 hQ2 => P_run hE hQ2) step,
      fun _ => case0 h8 h49 hb (fun Q2 hQ2 => P_time hE hQ2) step,
      fun _ => case1 h8 h49 hb (fun Q2 hQ2 => P_lastFrame hE hQ2) step,
      fun _ => case1 h8 h49 hb (fun Q2 hQ2 => P_total hE hQ2) step,
      fun _ => case2 h8 h49 hb (fun Q2 hQ2 => P_stationTotal hE hQ2) step,
      fun _ => case2 h8 h49 hb (fun Q2 hQ2 => P_ticksToComplete hE hQ2) step,
      fun _ => case0 h8 h49 hb (fun Q2 hQ2 => P_ticksToEmpty hE hQ2) step, trivial⟩
theorem law_ok (L : Nat) (xs : Nat → Int32) (hL : L ≤ 2560) : Ca n_L_law [vR (some 0)] (st0 L xs) (fun v τ => v = some (vI 1) ∧ gn τ ≤ 600000 ∧ gl τ ≤ 7302250) := by
  have g0 : gn (st0 L xs) = 0 := rfl
  have l0 : gl (st0 L xs) = 0 := rfl
  have s0 : gs (st0 L xs) 0 = (49, L) := rfl
  have i0 : ∀ k, rg (gi (st0 L xs) 0 k) := fun k => by
    show rg (if 0 = 0 ∧ k < L then (xs k).toInt else 0)
    by_cases e : k < L
    · rw [if_pos ⟨rfl, e⟩]
      exact ⟨by have := Int32.le_toInt (xs k); simpa using this, by have := Int32.toInt_lt (xs k); omega⟩
    · rw [if_neg (fun z => e z.2)]
      exact ⟨by decide, by decide⟩
  refine vc_L_law _ _ _ ⟨by rw [gs_alc, if_pos rfl], ?_⟩
  rw [g0]
  refine N_X8 (by rw [gn_alc, g0]) (by rw [gs_alc, if_pos (by rw [g0])]) fun τ ht hc => ⟨rfl, by rw [gs_alc, if_pos rfl], ?_⟩
  have hg : gn τ = 231 := by rw [ht.1, gn_alc, g0]
  have hl : gl τ = 1946 := by rw [ht.2.1, gl_alc, l0]
  rw [hg]
  refine N_X9 (m := 232) (by rw [gn_alc, hg]) (by rw [gs_alc, if_pos (by rw [hg])]) (fun k => by rw [gi_alc, if_pos (by rw [hg])]) fun υ hu hM h6 hr => ⟨rfl, ?_⟩
  have k0 : ∀ c, c < 232 → gs υ c = gs τ c ∧ (∀ k, gr υ c k = gr τ c k) ∧ ∀ k, gi υ c k = gi τ c k := fun c hc => ⟨by rw [hu.2.2.s hc, gs_alc, if_neg (by rw [hg]; omega)], fun k => by rw [hu.2.2.r hc, gr_alc, if_neg (by rw [hg]; omega)], fun k => by rw [hu.2.2.i hc, gi_alc, if_neg (by rw [hg]; omega)]⟩
  have t0 : gs τ 0 = (49, L) := by rw [ht.2.2.s (c := 0) (by decide), gs_alc, if_neg (by rw [g0]; decide)]; exact s0
  have t1 : ∀ k, rg (gi τ 0 k) := fun k => by rw [ht.2.2.i (c := 0) (by decide), gi_alc, if_neg (by rw [g0]; decide)]; exact i0 k
  refine law_loop hL 512 0 υ (by decide) (by omega) ⟨Fl0, Sa0, K0, 0, fun _ => 0, ⟨by rw [hu.1, gn_alc, hg]; decide, by rw [hu.2.1, gl_alc, hl]; decide⟩, ⟨by rw [(k0 0 (by decide)).1]; exact t0, fun k => by rw [(k0 0 (by decide)).2.2]; exact t1 k⟩, hc.ag ⟨by decide, by decide⟩ fun c hc => k0 c (by unfold inCl at hc; omega), mo_w0 hM h6 hr, st_w0⟩
