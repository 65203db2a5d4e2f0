/-! The constructors: what they make of new cells -/
def Nw (σ τ : ms_T) (a n s : Nat) : Prop := gn τ = gn σ + n ∧ gl τ = gl σ + s ∧ Ag σ τ (fun c => c < a)
theorem Ag.rf {σ : ms_T} {R : Nat → Prop} : Ag σ σ R := fun _ _ => ⟨rfl, fun _ => rfl, fun _ => rfl⟩
theorem Ag.al {σ τ : ms_T} {a kd len n : Nat} (h : Ag σ τ (fun c => c < a)) (hg : a ≤ gn τ + 1) : Ag σ (alc τ kd len n) (fun c => c < a) := fun c hc => by
  have hc' : c < a := hc
  have e : ¬ c = gn τ + 1 := by omega
  exact ⟨by rw [gs_alc, if_neg e]; exact h.s hc, fun k => by rw [gr_alc, if_neg e]; exact h.r hc k, fun k => by rw [gi_alc, if_neg e]; exact h.i hc k⟩
theorem Ag.wI {σ τ : ms_T} {a b k : Nat} {v : Int} (h : Ag σ τ (fun c => c < a)) (hb : a ≤ b) : Ag σ (sI τ b k v) (fun c => c < a) := fun c hc => by
  have hc' : c < a := hc
  exact ⟨h.s hc, fun k => h.r hc k, fun k' => by rw [gi_sI, if_neg (fun z => by have := z.1; omega)]; exact h.i hc k'⟩
theorem Ag.wR {σ τ : ms_T} {a b k : Nat} {v : Option Nat} (h : Ag σ τ (fun c => c < a)) (hb : a ≤ b) : Ag σ (sR τ b k v) (fun c => c < a) := fun c hc => by
  have hc' : c < a := hc
  exact ⟨h.s hc, fun k' => by rw [gr_sR, if_neg (fun z => by have := z.1; omega)]; exact h.r hc k', fun k => h.i hc k⟩
theorem Nw.al {σ τ : ms_T} {a n s kd len k : Nat} (h : Nw σ τ a n s) (hg : a ≤ gn σ + 1) : Nw σ (alc τ kd len k) a (n + 1) (s + k) := ⟨by rw [gn_alc, h.1, Nat.add_assoc], by rw [gl_alc, h.2.1, Nat.add_assoc], h.2.2.al (by rw [h.1]; omega)⟩
theorem Nw.wI {σ τ : ms_T} {a n s b k : Nat} {v : Int} (h : Nw σ τ a n s) (hb : a ≤ b) : Nw σ (sI τ b k v) a n s := ⟨h.1, h.2.1, h.2.2.wI hb⟩
theorem Nw.wR {σ τ : ms_T} {a n s b k : Nat} {v : Option Nat} (h : Nw σ τ a n s) (hb : a ≤ b) : Nw σ (sR τ b k v) a n s := ⟨h.1, h.2.1, h.2.2.wR hb⟩
theorem Nw.rf {σ : ms_T} {a : Nat} : Nw σ σ a 0 0 := ⟨rfl, rfl, Ag.rf⟩
theorem Nw.tr {σ τ υ : ms_T} {a b n s n' s' : Nat} (h : Nw σ τ a n s) (h' : Nw τ υ b n' s') (hb : a ≤ b) : Nw σ υ a (n + n') (s + s') := ⟨by rw [h'.1, h.1, Nat.add_assoc], by rw [h'.2.1, h.2.1, Nat.add_assoc], h.2.2.tr (h'.2.2.wk fun c hc => by have hc : c < a := hc; show c < b; omega)⟩
theorem N_X0 {a : Nat} {σ : ms_T} {Q : mq_T} (hg : gn σ = a) (hs : gs σ a = (0, 0)) (hz : ∀ k, gi σ a k = 0) (hQ : ∀ τ, Nw σ τ a 4 120 → FlC τ a (0, fun _ _ => 0) → Q none τ) : Ca n_X0_init [vR (some a)] σ Q := by
  have e2 : ¬ a = a + 1 + 1 := by omega
  have e3 : ¬ a = a + 1 + 1 + 1 := by omega
  have e4 : ¬ a = a + 1 + 1 + 1 + 1 := by omega
  refine vc_X0_init _ _ _ ?_
  simp [gs_alc, gs_sR, gn_alc, gn_sR, hg, hs, e2, e3, e4]
  refine hQ _ ?_ ⟨⟨?_, ?_⟩, ?_, fun f h0 h1 => by have h1 : f < 0 := h1; omega⟩
  · refine Nw.wR (Nw.al (Nw.wR (Nw.al (Nw.wR (Nw.al (Nw.wR (Nw.al (Nw.rf (a := a)) ?_) ?_) ?_) ?_) ?_) ?_) ?_) ?_ <;> omega
  · simp [gs_alc, gs_sR, gn_alc, gn_sR, hg, hs, e2, e3, e4]
  · simp [gs_alc, gr_alc, gs_sR, gr_sR, gn_alc, gn_sR, hg, e2, e3, e4]
  · simp [gi_alc, gi_sR, gn_alc, gn_sR, hg, hz, e2, e3, e4]
theorem N_X1 {a : Nat} {σ : ms_T} {Q : mq_T} (hg : gn σ = a) (hs : gs σ a = (1, 0)) (hz : ∀ k, gi σ a k = 0) (hQ : ∀ τ, Nw σ τ a 0 0 → gs τ a = (1, 0) → gi τ a 0 = 0 → Q none τ) : Ca n_X1_init [vR (some a)] σ Q := by
  refine vc_X1_init _ _ _ ?_
  simp [gs_sI, hs]
  exact hQ _ ⟨rfl, rfl, Ag.wI (Ag.wI Ag.rf (Nat.le_refl _)) (Nat.le_refl _)⟩ hs (by simp [gi_sI, hz])
theorem N_X2 {a : Nat} {σ : ms_T} {Q : mq_T} (hg : gn σ = a) (hs : gs σ a = (2, 0)) (hz : ∀ k, gi σ a k = 0) (hQ : ∀ τ, Nw σ τ a 2 24 → IvC τ a [] → Q none τ) : Ca n_X2_init [vR (some a)] σ Q := by
  have e2 : ¬ a = a + 1 + 1 := by omega
  have e3 : ¬ a = a + 1 + 1 + 1 := by omega
  have e4 : ¬ a = a + 1 + 1 + 1 + 1 := by omega
  refine vc_X2_init _ _ _ ?_
  simp [gs_alc, gs_sR, gn_alc, gn_sR, hg, hs, e2, e3, e4]
  refine hQ _ ?_ ⟨⟨?_, ?_⟩, ?_, fun f h0 h1 => by have h1 : f < 0 := h1; omega, fun f h0 h1 => by have h1 : f < 0 := h1; omega⟩
  · refine Nw.wR (Nw.al (Nw.wR (Nw.al (Nw.rf (a := a)) ?_) ?_) ?_) ?_ <;> omega
  · simp [gs_alc, gs_sR, gn_alc, gn_sR, hg, hs, e2, e3, e4]
  · simp [gs_alc, gr_alc, gs_sR, gr_sR, gn_alc, gn_sR, hg, e2, e3, e4]
  · simp [gi_alc, gi_sR, gn_alc, gn_sR, hg, hz, e2, e3, e4, ln]
theorem N_X4 {a : Nat} {σ : ms_T} {Q : mq_T} (hg : gn σ = a) (hs : gs σ a = (4, 0)) (hQ : ∀ τ, Nw σ τ a 3 27 → isRq τ a → Q none τ) : Ca n_X4_init [vR (some a)] σ Q := by
  refine vc_X4_init _ _ _ ?_
  simp [gs_alc, gs_sI, gn_sI, hg, hs]
  refine N_X2 (a := a + 1) (by simp [gn_alc, gn_sI, hg]) (by simp [gs_alc, gn_sI, hg]) (fun k => by simp [gi_alc, gn_sI, hg]) fun τ hn hi => ⟨rfl, ?_, ?_⟩
  · rw [hn.2.2.s (c := a) (by omega)]
    simp [gs_alc, gs_sI, gn_sI, hg, hs]
  · refine hQ _ ((Nw.tr (((Nw.rf (a := a)).wI (Nat.le_refl _)).al (by omega)) hn (by omega)).wR (Nat.le_refl _)) ⟨?_, ?_, ?_⟩
    · rw [gs_sR, hn.2.2.s (c := a) (by omega)]
      simp [gs_alc, gs_sI, gn_sI, hg, hs]
    · simp [gr_sR]
    · exact hi.1.ag (Sq.ag (P := fun c => c = a) (Sq.rf.sr rfl) fun c hc z => by unfold inIv at hc; omega)
theorem N_X5 {a : Nat} {σ : ms_T} {Q : mq_T} (hg : gn σ = a) (hs : gs σ a = (5, 0)) (hz : ∀ k, gi σ a k = 0) (hQ : ∀ τ, Nw σ τ a 4 87 → TxC τ a 0 (fun _ => 0) → Q none τ) : Ca n_X5_init [vR (some a)] σ Q := by
  refine vc_X5_init _ _ _ ?_
  simp [gs_alc, gs_sI, gs_sR, gn_sI, gn_sR, gn_alc, hg, hs]
  refine N_X2 (a := a + 2) (by simp [gn_alc, gn_sI, gn_sR, hg]) (by simp [gs_alc, gn_sI, gn_sR, gn_alc, hg]) (fun k => by simp [gi_alc, gn_sI, gn_sR, gn_alc, hg]) fun τ hn hi => ⟨rfl, ?_, ?_⟩
  · rw [hn.2.2.s (c := a) (by omega)]
    simp [gs_alc, gs_sI, gs_sR, gn_sI, gn_sR, gn_alc, hg, hs] <;> omega
  · refine hQ _ ((Nw.tr ((((((Nw.rf (a := a)).al (by omega)).wR (Nat.le_refl _)).wI (Nat.le_refl _)).al (by omega))) hn (by omega)).wR (Nat.le_refl _)) ⟨⟨?_, ?_, ?_, ?_, ?_⟩, ?_, fun i h0 h1 => by omega⟩
    · rw [gs_sR, hn.2.2.s (c := a) (by omega)]
      simp [gs_alc, gs_sI, gs_sR, gn_sI, gn_sR, gn_alc, hg, hs] <;> omega
    · rw [gr_sR, if_neg (by simp), hn.2.2.r (c := a) (by omega)]
      simp [gr_alc, gr_sI, gr_sR, gn_sI, gn_sR, gn_alc, hg, hs] <;> omega
    · simp [gr_sR]
    · rw [gs_sR, hn.2.2.s (c := a + 1) (by omega)]
      simp [gs_alc, gs_sI, gs_sR, gn_sI, gn_sR, gn_alc, hg, hs]
    · exact hi.1.ag (Sq.ag (P := fun c => c = a) (Sq.rf.sr rfl) fun c hc z => by unfold inIv at hc; omega)
    · rw [gi_sR, hn.2.2.i (c := a) (by omega)]
      simp [gi_alc, gi_sI, gi_sR, gn_sI, gn_sR, gn_alc, hg, hz] <;> omega
