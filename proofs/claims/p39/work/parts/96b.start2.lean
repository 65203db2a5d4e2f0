/-! The queue's constructor -/
theorem X3_loop {u : Nat} {σ : ms_T} {Q : mq_T} (hQ : ∀ τ, Nw σ τ u 25 192 → QuC τ u [] → Q none τ) : ∀ (d k : Nat) (τ : ms_T), k + d = 6 → gn τ = u + 1 + 4 * k → Nw σ τ u (1 + 4 * k) (6 + 31 * k) → gs τ u = (3, 0) → gr τ u 0 = some (u + 1) → gs τ (u + 1) = (64, 6) → gi τ u 1 = 0 → (∀ j : Nat, j < k → gr τ (u + 1) j = some (u + 2 + 4 * j) ∧ isRq τ (u + 2 + 4 * j)) → At n_X3_init 15 [some (vR (some u)), some (vI (k : Int))] [] τ Q
  | 0, k, τ, e, hg, hn, h1, h2, h3, h4, h5 => by
    have hk : k = 6 := by omega
    subst hk
    refine vc_X3_init_15 _ _ _ _ ⟨fun _ => hQ τ hn ⟨fun i => i.toNat, ⟨h1, h2, h3⟩, h4, by decide, fun i h0 h6 => ⟨(h5 i.toNat (by omega)).1, show i.toNat < 6 by omega⟩, fun i j _ _ _ _ z => by have z : i.toNat = j.toNat := z; omega, fun j hj => (h5 j hj).2, fun i h0 h1 => by have h1 : i < 0 := h1; omega⟩, fun z => absurd (show (6 : Int) ≤ 6 by decide) z⟩
  | d + 1, k, τ, e, hg, hn, h1, h2, h3, h4, h5 => by
    refine vc_X3_init_15 _ _ _ _ ⟨fun z => by omega, fun _ => ⟨h1, by simp [gs_alc], ?_⟩⟩
    rw [hg]
    refine N_X4 (a := u + 1 + 4 * k + 1) (by rw [gn_alc, hg]) (by simp [gs_alc, hg]) fun υ hu hr => ⟨rfl, ?_⟩
    have e1 : ∀ c, c ≤ u + 1 + 4 * k → gs υ c = gs τ c := fun c hc => by rw [hu.2.2.s (c := c) (by omega), gs_alc, if_neg (by omega)]
    have e2 : ∀ c, c ≤ u + 1 + 4 * k → ∀ j, gr υ c j = gr τ c j := fun c hc j => by rw [hu.2.2.r (c := c) (by omega), gr_alc, if_neg (by omega)]
    have e3 : ∀ c, c ≤ u + 1 + 4 * k → ∀ j, gi υ c j = gi τ c j := fun c hc j => by rw [hu.2.2.i (c := c) (by omega), gi_alc, if_neg (by omega)]
    rw [h2]
    refine ⟨?_, ?_, by omega, ?_, ?_, ?_⟩
    · rw [e1 _ (by omega), h3]; decide
    · rw [e1 _ (by omega), h3]; decide
    · rw [e1 _ (by omega), h3]; omega
    · rw [hr.1, e1 (u + 1) (by omega), h3]; exact ⟨rfl, rfl⟩
    rw [wr_i (x := (k : Int) + 1) (by omega)]
    have ek : ((k : Int) + 1) = ((k + 1 : Nat) : Int) := by omega
    rw [ek]
    refine X3_loop hQ d (k + 1) _ (by omega) (by rw [gn_sR, hu.1, gn_alc, hg]; omega) ?_ ?_ ?_ ?_ ?_ ?_
    · have h := ((hn.al (kd := 4) (len := 0) (k := 4) (by have := hn.1; omega)).tr hu (by omega)).wR (b := u + 1) (k := (k : Int).toNat) (v := some (u + 1 + 4 * k + 1)) (by omega)
      exact ⟨by rw [h.1]; omega, by rw [h.2.1]; omega, h.2.2⟩
    · rw [gs_sR, e1 _ (by omega), h1]
    · rw [gr_sR, if_neg (by omega), e2 _ (by omega), h2]
    · rw [gs_sR, e1 _ (by omega), h3]
    · rw [gi_sR, e3 _ (by omega), h4]
    · intro j hj
      have hs : ∀ q, u + 2 ≤ q → Ag υ (sR υ (u + 1) (k : Int).toNat (some (u + 1 + 4 * k + 1))) (inRq q) := fun q hq => Sq.ag (P := fun c => c = u + 1) (Sq.rf.sr rfl) fun c hc z => by unfold inRq at hc; omega
      by_cases z : j = k
      · subst z
        refine ⟨by rw [gr_sR, if_pos ⟨rfl, by omega⟩]; congr 1; omega, ?_⟩
        have e : u + 2 + 4 * j = u + 1 + 4 * j + 1 := by omega
        rw [e]
        exact hr.ag (hs _ (by omega))
      · refine ⟨by rw [gr_sR, if_neg (by omega), e2 _ (by omega)]; exact (h5 j (by omega)).1, ((h5 j (by omega)).2.ag fun c hc => ?_).ag (hs _ (by omega))⟩
        unfold inRq at hc
        exact ⟨e1 c (by omega), e2 c (by omega), e3 c (by omega)⟩
theorem N_X3 {u : Nat} {σ : ms_T} {Q : mq_T} (hg : gn σ = u) (hs : gs σ u = (3, 0)) (hz : ∀ k, gi σ u k = 0) (hQ : ∀ τ, Nw σ τ u 25 192 → QuC τ u [] → Q none τ) : Ca n_X3_init [vR (some u)] σ Q := by
  refine vc_X3_init _ _ _ ⟨by decide, by decide, by rw [gs_alc, if_neg (by omega)]; exact hs, ?_⟩
  rw [hg]
  refine X3_loop hQ 6 0 _ rfl (by rw [gn_sR, gn_alc, hg]) ((Nw.rf.al (by omega)).wR (Nat.le_refl _)) ?_ ?_ ?_ ?_ fun j hj => by omega
  · rw [gs_sR, gs_alc, if_neg (by omega)]; exact hs
  · simp [gr_sR]
  · rw [gs_sR, gs_alc, if_pos (by omega)]; rfl
  · rw [gi_sR, gi_alc, if_neg (by omega)]; exact hz 1
