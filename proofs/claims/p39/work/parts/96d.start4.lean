/-! The satellite's constructor -/
def Sa0 : Sa := (0, 0, fun _ => frs, [], fun _ => 0)
def P6 (τ : ms_T) (t : Nat) : Prop := (gs τ t = (6, 0) ∧ gr τ t 0 = some 2 ∧ gr τ t 1 = some (t + 1) ∧ gr τ t 3 = some (t + 2) ∧ gr τ t 4 = some (t + 28) ∧ gr τ t 5 = some (t + 29) ∧ gs τ (t + 1) = (67, 5) ∧ gs τ (t + 28) = (1, 0) ∧ gs τ (t + 29) = (50, 5)) ∧ (gi τ t 6 = 0 ∧ gi τ t 2 = 0) ∧ QuC τ (t + 2) [] ∧ gi τ (t + 28) 0 = 0 ∧ ∀ w, gi τ (t + 29) w = 0
def SaN (τ : ms_T) (t : Nat) : Prop := SaC τ t Sa0 ∧ (∀ i : Int, 0 ≤ i → i < 5 → StC τ (sa t i) i frs) ∧ gs τ (t + 28) = (1, 0) ∧ gi τ (t + 28) 0 = 0
theorem X6_loop {t : Nat} {σ : ms_T} {Q : mq_T} (hQ : ∀ τ, Nw σ τ t 109 855 → SaN τ t → Q none τ) : ∀ (d k : Nat) (τ : ms_T), k + d = 5 → gn τ = t + 29 + 16 * k → Nw σ τ t (29 + 16 * k) (210 + 129 * k) → P6 τ t → (∀ j : Nat, j < k → gr τ (t + 1) j = some (t + 30 + 16 * j) ∧ StC τ (t + 30 + 16 * j) j frs) → At n_X6_init 48 [some (vR (some t)), some (vR (some 2)), some (vI (k : Int))] [] τ Q
  | 0, k, τ, e, hg, hn, ⟨⟨h1, h2, h3, h4, h5, h6, h7, h8, h9⟩, ⟨hi1, hi2⟩, hq, hf, ht⟩, hk => by
    have hk3 : k = 5 := by omega
    subst hk3
    have hst : ∀ i : Int, 0 ≤ i → i < 5 → StC τ (sa t i) i frs := fun i a b => by
      have h := (hk i.toNat (by omega)).2
      rw [Int.toNat_of_nonneg a] at h
      exact h
    exact vc_X6_init_48 _ _ _ _ _ ⟨fun _ => hQ τ hn ⟨⟨⟨⟨h1, h2, h3, h4, h5, h6, h7, h8, h9⟩, fun i a b => (hk i.toNat (by omega)).1, fun i a b => ⟨(hst i a b).1, (hst i a b).2.1.1⟩⟩, hi1, hi2, fun i a b => by have b : i < 0 := b; omega, hq, fun w _ _ => ht _⟩, hst, h8, hf⟩, fun z => absurd (show (5 : Int) ≤ 5 by decide) z⟩
  | d + 1, k, τ, e, hg, hn, ⟨⟨h1, h2, h3, h4, h5, h6, h7, h8, h9⟩, ⟨hi1, hi2⟩, hq, hf, ht⟩, hk => by
    refine vc_X6_init_48 _ _ _ _ _ ⟨fun z => by omega, fun _ => ⟨h1, by simp [gs_alc], ?_⟩⟩
    rw [hg]
    refine N_X7 (a := t + 29 + 16 * k + 1) (by rw [gn_alc, hg]) (by simp [gs_alc, hg]) (fun j => by simp [gi_alc, hg]) fun υ hu hr => ⟨rfl, ?_⟩
    have e1 : ∀ c, c ≤ t + 29 + 16 * k → gs υ c = gs τ c := fun c hc => by rw [hu.2.2.s (c := c) (by omega), gs_alc, if_neg (by omega)]
    have e2 : ∀ c, c ≤ t + 29 + 16 * k → ∀ j, gr υ c j = gr τ c j := fun c hc j => by rw [hu.2.2.r (c := c) (by omega), gr_alc, if_neg (by omega)]
    have e3 : ∀ c, c ≤ t + 29 + 16 * k → ∀ j, gi υ c j = gi τ c j := fun c hc j => by rw [hu.2.2.i (c := c) (by omega), gi_alc, if_neg (by omega)]
    rw [h3]
    refine ⟨?_, ?_, by omega, ?_, ?_, ?_⟩
    · rw [e1 _ (by omega), h7]; decide
    · rw [e1 _ (by omega), h7]; decide
    · rw [e1 _ (by omega), h7]; omega
    · rw [hr.1.1, e1 (t + 1) (by omega), h7]; exact ⟨rfl, rfl⟩
    rw [wr_i (x := (k : Int) + 1) (by omega)]
    have ek : ((k : Int) + 1) = ((k + 1 : Nat) : Int) := by omega
    rw [ek]
    have hs : ∀ R : Nat → Prop, (∀ c, R c → ¬ c = t + 1) → Ag υ (sR υ (t + 1) (k : Int).toNat (some (t + 29 + 16 * k + 1))) R := fun R hR => Sq.ag (P := fun c => c = t + 1) (Sq.rf.sr rfl) hR
    refine X6_loop hQ d (k + 1) _ (by omega) (by rw [gn_sR, hu.1, gn_alc, hg]; omega) ?_ ⟨⟨?_, ?_, ?_, ?_, ?_, ?_, ?_, ?_, ?_⟩, ⟨?_, ?_⟩, ?_, ?_, ?_⟩ ?_
    · have h := ((hn.al (kd := 7) (len := 0) (k := 11) (by have := hn.1; omega)).tr hu (by omega)).wR (b := t + 1) (k := (k : Int).toNat) (v := some (t + 29 + 16 * k + 1)) (by omega)
      exact ⟨by rw [h.1]; omega, by rw [h.2.1]; omega, h.2.2⟩
    · rw [gs_sR, e1 _ (by omega), h1]
    · rw [gr_sR, if_neg (by omega), e2 _ (by omega), h2]
    · rw [gr_sR, if_neg (by omega), e2 _ (by omega), h3]
    · rw [gr_sR, if_neg (by omega), e2 _ (by omega), h4]
    · rw [gr_sR, if_neg (by omega), e2 _ (by omega), h5]
    · rw [gr_sR, if_neg (by omega), e2 _ (by omega), h6]
    · rw [gs_sR, e1 _ (by omega), h7]
    · rw [gs_sR, e1 _ (by omega), h8]
    · rw [gs_sR, e1 _ (by omega), h9]
    · rw [gi_sR, e3 _ (by omega), hi1]
    · rw [gi_sR, e3 _ (by omega), hi2]
    · refine (hq.ag fun c hc => ?_).ag (hs _ fun c hc => ?_) <;> unfold inQu at hc
      · exact ⟨e1 c (by omega), e2 c (by omega), e3 c (by omega)⟩
      · omega
    · rw [gi_sR, e3 _ (by omega), hf]
    · intro w
      rw [gi_sR, e3 _ (by omega)]
      exact ht w
    · intro j hj
      by_cases z : j = k
      · subst z
        have e : t + 30 + 16 * j = t + 29 + 16 * j + 1 := by omega
        refine ⟨by rw [gr_sR, if_pos ⟨rfl, by omega⟩]; congr 1; omega, ?_⟩
        rw [e]
        exact hr.ag (hs _ fun c hc => by unfold inSt at hc; omega)
      · refine ⟨by rw [gr_sR, if_neg (by omega), e2 _ (by omega)]; exact (hk j (by omega)).1, ((hk j (by omega)).2.ag fun c hc => ?_).ag (hs _ fun c hc => by unfold inSt at hc; omega)⟩
        unfold inSt at hc
        exact ⟨e1 c (by omega), e2 c (by omega), e3 c (by omega)⟩
theorem N_X6 {t : Nat} {σ : ms_T} {Q : mq_T} (hg : gn σ = t) (hs : gs σ t = (6, 0)) (hz : ∀ k, gi σ t k = 0) (hQ : ∀ τ, Nw σ τ t 109 855 → SaN τ t → Q none τ) : Ca n_X6_init [vR (some t), vR (some 2)] σ Q := by
  refine vc_X6_init _ _ _ _ ?_
  have e0 : ¬ t = t + 1 := by omega
  have e00 : ¬ t = t + 1 + 1 := by omega
  simp only [gs_sR, gs_alc, gn_sR, gn_alc, hg, hs, if_neg e0, if_neg e00, if_true, true_and]
  refine ⟨by decide, by decide, ?_⟩
  refine N_X3 (u := t + 1 + 1) (by rw [gn_alc, gn_sR, gn_alc, hg]) (by simp [gs_alc, gn_sR, gn_alc, hg]) (fun j => by simp [gi_alc, gn_sR, gn_alc, hg]) fun υ hu hr => ⟨rfl, ?_⟩
  have hgu : gn υ = t + 27 := by rw [hu.1, gn_alc, gn_sR, gn_alc, hg]
  have hus : ∀ c, c ≤ t + 1 → gs υ c = if c = t + 1 then (67, 5) else gs σ c := fun c hc => by rw [hu.2.2.s (c := c) (by omega), gs_alc, gn_sR, gn_alc, hg, if_neg (by omega), gs_sR, gs_alc, hg]; rfl
  have hur : ∀ j, gr υ t j = if j = 1 then some (t + 1) else gr σ t j := fun j => by rw [hu.2.2.r (c := t) (by omega), gr_alc, gn_sR, gn_alc, hg, if_neg (by omega), gr_sR, gr_alc, hg, if_neg (by omega : ¬ t = t + 1)]; simp
  have hui : ∀ j, gi υ t j = 0 := fun j => by rw [hu.2.2.i (c := t) (by omega), gi_alc, gn_sR, gn_alc, hg, if_neg (by omega), gi_sR, gi_alc, hg, if_neg (by omega : ¬ t = t + 1)]; exact hz j
  have hut : gs υ t = (6, 0) := by rw [hus t (by omega), if_neg (by omega)]; exact hs
  have hu1 : gs υ (t + 1) = (67, 5) := by rw [hus (t + 1) (by omega), if_pos rfl]
  have e3 : ¬ t = t + 27 + 1 := by omega
  have hNυ : Nw σ υ t 27 199 := ((((Nw.rf (σ := σ) (a := t)).al (kd := 67) (len := 5) (k := 5) (by omega)).wR (b := t) (k := 1) (v := some (t + 1)) (by omega)).al (kd := 3) (len := 0) (k := 2) (by omega)).tr hu (by omega)
  simp only [gs_sR, gs_alc, gn_sR, gn_alc, hgu, hut, if_neg e3, if_true, true_and]
  refine N_X1 (a := t + 27 + 1) (by rw [gn_alc, gn_sR, hgu]) (by simp [gs_alc, gn_sR, hgu]) (fun j => by simp [gi_alc, gn_sR, hgu]) fun ω ho hos hoi => ⟨rfl, ?_⟩
  have hgo : gn ω = t + 28 := by rw [ho.1, gn_alc, gn_sR, hgu]
  have hNω : Nw σ ω t 28 205 := ((hNυ.wR (b := t) (k := 3) (v := some (t + 1 + 1)) (by omega)).al (kd := 1) (len := 0) (k := 6) (by omega)).tr ho (by omega)
  have hws : ∀ c, c ≤ t + 27 → gs ω c = gs υ c := fun c hc => by rw [ho.2.2.s (c := c) (by omega), gs_alc, gn_sR, hgu, if_neg (by omega), gs_sR]
  have hwr : ∀ j, gr ω t j = if j = 3 then some (t + 2) else gr υ t j := fun j => by rw [ho.2.2.r (c := t) (by omega), gr_alc, gn_sR, hgu, if_neg (by omega), gr_sR]; simp
  have hwr' : ∀ c, c ≤ t + 27 → ¬ c = t → ∀ j, gr ω c j = gr υ c j := fun c hc hd j => by rw [ho.2.2.r (c := c) (by omega), gr_alc, gn_sR, hgu, if_neg (by omega), gr_sR, if_neg (fun z => hd z.1)]
  have hwi : ∀ c, c ≤ t + 27 → ∀ j, gi ω c j = gi υ c j := fun c hc j => by rw [ho.2.2.i (c := c) (by omega), gi_alc, gn_sR, hgu, if_neg (by omega), gi_sR]
  have hwt : gs ω t = (6, 0) := by rw [hws t (by omega), hut]
  have e4 : ¬ t = t + 28 + 1 := by omega
  simp only [gs_sR, gs_alc, gn_sR, gn_alc, hgo, hwt, if_neg e4, if_true, true_and]
  refine ⟨by decide, by decide, ?_⟩
  refine X6_loop hQ 5 0 _ rfl (by simp only [gn_sR, gn_alc, hgo]) ?_ ⟨⟨?_, ?_, ?_, ?_, ?_, ?_, ?_, ?_, ?_⟩, ⟨?_, ?_⟩, ?_, ?_, ?_⟩ fun j hj => by omega
  · exact (((hNω.wR (b := t) (k := 4) (v := some (t + 27 + 1)) (by omega)).al (kd := 50) (len := 5) (k := 5) (by omega)).wR (b := t) (k := 5) (v := some (t + 28 + 1)) (by omega)).wR (b := t) (k := 0) (v := some 2) (by omega)
  · simp [gs_sR, gs_alc, gn_sR, hgo, hwt, e4]
  · simp [gr_sR]
  · simp [gr_sR, gr_alc, gn_sR, hgo, hwr, hur, e4]
  · simp [gr_sR, gr_alc, gn_sR, hgo, hwr, hur, e4]
  · simp [gr_sR, gr_alc, gn_sR, hgo, hwr, hur, e4]
  · simp [gr_sR, gr_alc, gn_sR, hgo, hwr, hur, e4]
  · simp [gs_sR, gs_alc, gn_sR, hgo, hws (t + 1) (by omega), hu1]
  · simp [gs_sR, gs_alc, gn_sR, hgo, hos]
  · simp [gs_sR, gs_alc, gn_sR, hgo]
  · simp [gi_sR, gi_alc, gn_sR, hgo, hwi t (by omega), hui, e4]
  · simp [gi_sR, gi_alc, gn_sR, hgo, hwi t (by omega), hui, e4]
  · refine hr.ag fun c hc => ?_
    unfold inQu at hc
    have f0 : ¬ c = t := by omega
    have f1 : ¬ c = t + 28 + 1 := by omega
    exact ⟨by simp [gs_sR, gs_alc, gn_sR, hgo, hws c (by omega), f0, f1], fun k => by simp [gr_sR, gr_alc, gn_sR, hgo, hwr' c (by omega) f0, f0, f1], fun k => by simp [gi_sR, gi_alc, gn_sR, hgo, hwi c (by omega), f0, f1]⟩
  · simp [gi_sR, gi_alc, gn_sR, hgo, hoi]
  · intro w
    simp [gi_sR, gi_alc, gn_sR, hgo]
