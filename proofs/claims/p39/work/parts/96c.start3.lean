/-! The station's constructor -/
def P7 (τ : ms_T) (a : Nat) (i : Int) : Prop := (gs τ a = (7, 0) ∧ gr τ a 7 = some (a + 1) ∧ gr τ a 8 = some (a + 4) ∧ gr τ a 9 = some (a + 5) ∧ gr τ a 10 = some (a + 6) ∧ gs τ (a + 4) = (50, 3) ∧ gs τ (a + 5) = (62, 3) ∧ gs τ (a + 6) = (50, 4)) ∧ StS τ a i frs ∧ IvC τ (a + 1) [] ∧ ∀ w, gi τ (a + 6) w = 0
theorem X7_loop {a : Nat} {i : Int} {σ : ms_T} {Q : mq_T} (hQ : ∀ τ, Nw σ τ a 15 118 → StC τ a i frs → Q none τ) : ∀ (d k : Nat) (τ : ms_T), k + d = 3 → gn τ = a + 6 + 3 * k → Nw σ τ a (6 + 3 * k) (37 + 27 * k) → P7 τ a i → (∀ j : Nat, j < k → gi τ (a + 4) j = -1 ∧ gr τ (a + 5) j = some (a + 7 + 3 * j) ∧ IvC τ (a + 7 + 3 * j) []) → At n_X7_init 44 [some (vR (some a)), some (vI i), some (vI (k : Int))] [] τ Q
  | 0, k, τ, e, hg, hn, ⟨⟨h1, h2, h3, h4, h5, h6, h7, h8⟩, hS, hI, hT⟩, hk => by
    have hk3 : k = 3 := by omega
    subst hk3
    exact vc_X7_init_44 _ _ _ _ _ ⟨fun _ => hQ τ hn ⟨⟨h1, h2, h3, h4, h5, h6, h7, h8, fun k a b => (hk k.toNat (by omega)).2.1, hI.1, fun k a b => (hk k.toNat (by omega)).2.2.1⟩, hS, hI, fun k a b => ⟨(hk k.toNat (by omega)).1, (hk k.toNat (by omega)).2.2⟩, fun w _ _ => hT _⟩, fun z => absurd (show (3 : Int) ≤ 3 by decide) z⟩
  | d + 1, k, τ, e, hg, hn, ⟨⟨h1, h2, h3, h4, h5, h6, h7, h8⟩, hS, hI, hT⟩, hk => by
    refine vc_X7_init_44 _ _ _ _ _ ⟨fun z => by omega, fun _ => ⟨h1, ?_⟩⟩
    rw [h3]
    refine ⟨by rw [h6], by omega, by rw [h6]; omega, by rw [gs_sI]; exact h1, by simp [gs_alc], ?_⟩
    rw [gn_sI, hg]
    refine N_X2 (a := a + 6 + 3 * k + 1) (by rw [gn_alc, gn_sI, hg]) (by simp [gs_alc, gn_sI, hg]) (fun j => by simp [gi_alc, gn_sI, hg]) fun υ hu hr => ⟨rfl, ?_⟩
    have e1 : ∀ c, c ≤ a + 6 + 3 * k → gs υ c = gs τ c := fun c hc => by rw [hu.2.2.s (c := c) (by omega), gs_alc, gn_sI, if_neg (by omega), gs_sI]
    have e2 : ∀ c, c ≤ a + 6 + 3 * k → ∀ j, gr υ c j = gr τ c j := fun c hc j => by rw [hu.2.2.r (c := c) (by omega), gr_alc, gn_sI, if_neg (by omega), gr_sI]
    have e3 : ∀ c, c ≤ a + 6 + 3 * k → ∀ j, gi υ c j = if c = a + 4 ∧ j = (k : Int).toNat then -1 else gi τ c j := fun c hc j => by rw [hu.2.2.i (c := c) (by omega), gi_alc, gn_sI, if_neg (by omega), gi_sI]
    have e3' : ∀ c, c ≤ a + 6 + 3 * k → ¬ c = a + 4 → ∀ j, gi υ c j = gi τ c j := fun c hc hd j => by rw [e3 c hc j, if_neg (fun z => hd z.1)]
    rw [gr_sI, h4]
    refine ⟨?_, ?_, by omega, ?_, ?_, ?_⟩
    · rw [e1 _ (by omega), h7]; decide
    · rw [e1 _ (by omega), h7]; decide
    · rw [e1 _ (by omega), h7]; omega
    · rw [hr.1.1, e1 (a + 5) (by omega), h7]; exact ⟨rfl, rfl⟩
    rw [wr_i (x := (k : Int) + 1) (by omega)]
    have ek : ((k : Int) + 1) = ((k + 1 : Nat) : Int) := by omega
    rw [ek]
    have hs : ∀ q, ¬ q = a + 3 → ¬ q = a + 4 → ¬ q = a + 5 → Ag υ (sR υ (a + 5) (k : Int).toNat (some (a + 6 + 3 * k + 1))) (inIv q) := fun q hq1 hq2 hq3 => Sq.ag (P := fun c => c = a + 5) (Sq.rf.sr rfl) fun c hc z => by unfold inIv at hc; omega
    refine X7_loop hQ d (k + 1) _ (by omega) (by rw [gn_sR, hu.1, gn_alc, gn_sI, hg]; omega) ?_ ⟨⟨?_, ?_, ?_, ?_, ?_, ?_, ?_, ?_⟩, ?_, ?_, ?_⟩ ?_
    · have h := (((hn.wI (b := a + 4) (k := (k : Int).toNat) (v := -1) (by omega)).al (kd := 2) (len := 0) (k := 3) (by have := hn.1; omega)).tr hu (by omega)).wR (b := a + 5) (k := (k : Int).toNat) (v := some (a + 6 + 3 * k + 1)) (by omega)
      exact ⟨by rw [h.1]; omega, by rw [h.2.1]; omega, h.2.2⟩
    · rw [gs_sR, e1 _ (by omega), h1]
    · rw [gr_sR, if_neg (by omega), e2 _ (by omega), h2]
    · rw [gr_sR, if_neg (by omega), e2 _ (by omega), h3]
    · rw [gr_sR, if_neg (by omega), e2 _ (by omega), h4]
    · rw [gr_sR, if_neg (by omega), e2 _ (by omega), h5]
    · rw [gs_sR, e1 _ (by omega), h6]
    · rw [gs_sR, e1 _ (by omega), h7]
    · rw [gs_sR, e1 _ (by omega), h8]
    · unfold StS at hS ⊢
      simp only [gi_sR, e3' a (by omega) (by omega)]
      exact hS
    · refine (hI.ag fun c hc => ?_).ag (hs _ (by omega) (by omega) (by omega))
      unfold inIv at hc
      exact ⟨e1 c (by omega), e2 c (by omega), e3' c (by omega) (by omega)⟩
    · intro w
      rw [gi_sR, e3' _ (by omega) (by omega)]
      exact hT w
    · intro j hj
      by_cases z : j = k
      · subst z
        have e : a + 7 + 3 * j = a + 6 + 3 * j + 1 := by omega
        refine ⟨by rw [gi_sR, e3 _ (by omega), if_pos ⟨rfl, by omega⟩], by rw [gr_sR, if_pos ⟨rfl, by omega⟩]; congr 1; omega, ?_⟩
        rw [e]
        exact hr.ag (hs _ (by omega) (by omega) (by omega))
      · refine ⟨by rw [gi_sR, e3 _ (by omega), if_neg (by omega)]; exact (hk j (by omega)).1, by rw [gr_sR, if_neg (by omega), e2 _ (by omega)]; exact (hk j (by omega)).2.1, ((hk j (by omega)).2.2.ag fun c hc => ?_).ag (hs _ (by omega) (by omega) (by omega))⟩
        unfold inIv at hc
        exact ⟨e1 c (by omega), e2 c (by omega), e3' c (by omega) (by omega)⟩
theorem N_X7 {a : Nat} {i : Int} {σ : ms_T} {Q : mq_T} (hg : gn σ = a) (hs : gs σ a = (7, 0)) (hz : ∀ k, gi σ a k = 0) (hQ : ∀ τ, Nw σ τ a 15 118 → StC τ a i frs → Q none τ) : Ca n_X7_init [vR (some a), vI i] σ Q := by
  refine vc_X7_init _ _ _ _ ?_
  have e0 : ¬ a = a + 1 := by omega
  simp only [gs_alc, hg, if_true, true_and]
  refine N_X2 (a := a + 1) (by rw [gn_alc, hg]) (by simp [gs_alc, hg]) (fun j => by simp [gi_alc, hg]) fun υ hu hr => ⟨rfl, ?_⟩
  have hgu : gn υ = a + 3 := by rw [hu.1, gn_alc, hg]
  have e1 : gs υ a = (7, 0) := by rw [hu.2.2.s (c := a) (by omega), gs_alc, hg, if_neg (by omega), hs]
  have e3 : ∀ j, gi υ a j = 0 := fun j => by rw [hu.2.2.i (c := a) (by omega), gi_alc, hg, if_neg (by omega), hz]
  have a1 : ¬ a = a + 3 + 1 := by omega
  have a2 : ¬ a = a + 3 + 1 + 1 := by omega
  have a3 : ¬ a = a + 3 + 1 + 1 + 1 := by omega
  have b2 : ¬ a + 3 + 1 = a + 3 + 1 + 1 := by omega
  have b3 : ¬ a + 3 + 1 = a + 3 + 1 + 1 + 1 := by omega
  have c3 : ¬ a + 3 + 1 + 1 = a + 3 + 1 + 1 + 1 := by omega
  have p1 : ¬ a + 3 + 1 = a := by omega
  have p2 : ¬ a + 3 + 1 + 1 = a := by omega
  have p3 : ¬ a + 3 + 1 + 1 + 1 = a := by omega
  simp [e1, gs_sR, gs_alc, gn_sR, gn_alc, hgu, a1, a2, a3, b2, b3, c3]
  refine X7_loop hQ 3 0 _ rfl (by simp only [gn_sI, gn_sR, gn_alc, hgu]) ?_ ⟨⟨?_, ?_, ?_, ?_, ?_, ?_, ?_, ?_⟩, ⟨?_, ?_, ?_, ?_, ?_, ?_, ?_⟩, ?_, ?_⟩ fun j hj => by omega
  · have h := ((((((((((Nw.rf (σ := σ) (a := a)).al (kd := 2) (len := 0) (k := 3) (by omega)).tr hu (by omega)).wR (b := a) (k := 7) (v := some (a + 1)) (by omega)).al (kd := 50) (len := 3) (k := 3) (by omega)).wR (b := a) (k := 8) (v := some (a + 3 + 1)) (by omega)).al (kd := 62) (len := 3) (k := 3) (by omega)).wR (b := a) (k := 9) (v := some (a + 3 + 1 + 1)) (by omega)).al (kd := 50) (len := 4) (k := 4) (by omega)).wR (b := a) (k := 10) (v := some (a + 3 + 1 + 1 + 1)) (by omega)).wI (b := a) (k := 0) (v := i) (by omega)
    exact h
  · simp [e1, gs_sI, gs_sR, gs_alc, gn_sR, gn_alc, hgu, a1, a2, a3, b2, b3, c3]
  · simp [gr_sI, gr_sR, gr_alc, gn_sR, gn_alc, hgu, a1, a2, a3, b2, b3, c3]
  · simp [gr_sI, gr_sR, gr_alc, gn_sR, gn_alc, hgu, a1, a2, a3, b2, b3, c3]
  · simp [gr_sI, gr_sR, gr_alc, gn_sR, gn_alc, hgu, a1, a2, a3, b2, b3, c3]
  · simp [gr_sI, gr_sR, gr_alc, gn_sR, gn_alc, hgu, a1, a2, a3, b2, b3, c3]
  · show _ = _
    simp [e1, gs_sI, gs_sR, gs_alc, gn_sR, gn_alc, hgu, a1, a2, a3, b2, b3, c3]
  · simp [e1, gs_sI, gs_sR, gs_alc, gn_sR, gn_alc, hgu, a1, a2, a3, b2, b3, c3]
  · simp [e1, gs_sI, gs_sR, gs_alc, gn_sR, gn_alc, hgu, a1, a2, a3, b2, b3, c3]
  · simp [gi_sI]
  · simp [gi_sI, gi_sR, gi_alc, gn_sR, gn_alc, hgu, a1, a2, a3, e3, sc, frs]
  · simp [gi_sI, gi_sR, gi_alc, gn_sR, gn_alc, hgu, a1, a2, a3, e3, sc, frs]
  · simp [gi_sI, gi_sR, gi_alc, gn_sR, gn_alc, hgu, a1, a2, a3, e3, sc, frs]
  · simp [gi_sI, gi_sR, gi_alc, gn_sR, gn_alc, hgu, a1, a2, a3, e3, sc, frs]
  · simp [gi_sI, gi_sR, gi_alc, gn_sR, gn_alc, hgu, a1, a2, a3, e3, sc, frs]
  · simp [gi_sI, gi_sR, gi_alc, gn_sR, gn_alc, hgu, a1, a2, a3, e3, sc, frs]
  · refine hr.ag fun c hc => ?_
    unfold inIv at hc
    have f0 : ¬ c = a := by omega
    have f1 : ¬ c = a + 3 + 1 := by omega
    have f2 : ¬ c = a + 3 + 1 + 1 := by omega
    have f3 : ¬ c = a + 3 + 1 + 1 + 1 := by omega
    exact ⟨by simp [gs_sI, gs_sR, gs_alc, gn_sR, gn_alc, hgu, f0, f1, f2, f3], fun k => by simp [gr_sI, gr_sR, gr_alc, gn_sR, gn_alc, hgu, f0, f1, f2, f3], fun k => by simp [gi_sI, gi_sR, gi_alc, gn_sR, gn_alc, hgu, f0, f1, f2, f3]⟩
  · intro w
    have q3 : ¬ a + 6 = a := by omega
    simp [gi_sI, gi_sR, gi_alc, gn_sR, gn_alc, hgu, q3]
