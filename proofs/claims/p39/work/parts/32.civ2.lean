set_option maxHeartbeats 4000000 in
theorem X2_copyFrom {a b : Nat} {σ : ms_T} {L : Iv} {Q : mq_T} (h : isIv σ a) (h' : IvC σ b L) (hl : ln L ≤ 12) (hd : a + 2 < b ∨ b + 2 < a) (hQ : ∀ τ, Sm σ τ (inIv a) → IvC τ a L → Q none τ) : Ca n_X2_copyFrom [vR (some a), vR (some b)] σ Q := by
  have hnn := ln_nn L
  have key : ∀ (k : Nat) (i : Int) (τ : ms_T), 0 ≤ i → i ≤ ln L → ln L - i < k → Sm σ τ (inIv a) → gi τ a 2 = ln L → (∀ j : Int, 0 ≤ j → j < i → gi τ (a + 1) j.toNat = lb L j ∧ gi τ (a + 2) j.toNat = le_ L j) → At n_X2_copyFrom 10 [some (vR (some a)), some (vR (some b)), some (vI i)] [] τ Q := by
    intro k
    induction k with
    | zero => intro i τ h0 h1 h2; omega
    | succ k ih =>
      intro i τ h0 h1 h2 hs hc hx
      obtain ⟨s0, r0, r1, s1, s2⟩ := h.sm hs
      have hB := h'.sm hs (fun c hc => by unfold inIv at *; omega)
      obtain ⟨⟨t0, q0, q1, t1, t2⟩, hn, hb, he⟩ := hB
      refine vc_X2_copyFrom_10 _ _ _ _ _ ?_
      simp only [gs_sI, gr_sI, s0, s1, s2, r0, r1, t0, t1, t2, q0, q1, hc, isS_some, true_and]
      refine ⟨fun e => ?_, fun e => ⟨by omega, by omega, by omega, by omega, by omega, by omega, by omega, by omega, ?_⟩⟩
      · exact hQ _ hs ⟨h.sm hs, hc, fun j a1 a2 => (hx j a1 (by omega)).1, fun j a1 a2 => (hx j a1 (by omega)).2⟩
      · rw [wr_i (x := i + 1) (by omega), gi_ne (c' := b + 2) (by omega), hb i h0 (by omega), he i h0 (by omega)]
        refine ih (i + 1) _ (by omega) (by omega) (by omega) ((hs.st ⟨by omega, by omega⟩).st ⟨by omega, by omega⟩) ?_ ?_
        · rw [gi_ne (by omega), gi_ne (by omega)]; exact hc
        · intro j a1 a2
          by_cases e2 : j = i
          · subst e2
            rw [gi_ne (by omega), gi_eq, gi_eq]
            first | exact ⟨rfl, rfl⟩ | exact ⟨trivial, trivial⟩
          · rw [gi_ne (by omega), gi_nk (by omega), gi_nk (by omega), gi_ne (by omega)]
            exact hx j a1 (by omega)
  have h0 := h
  obtain ⟨s0, r0, r1, s1, s2⟩ := h
  obtain ⟨⟨t0, q0, q1, t1, t2⟩, hn, hb, he⟩ := h'
  refine vc_X2_copyFrom _ _ _ _ ?_
  simp only [s0, t0, isS_some, true_and]
  exact key (ln L + 1).toNat 0 _ (by omega) (ln_nn L) (by omega) (Sm.rf.st ⟨by omega, by omega⟩) (by rw [gi_eq]; exact hn) (fun j a1 a2 => by omega)
-- what lies from x on goes x - f places down
set_option maxHeartbeats 4000000 in
theorem X2_removeRange {a : Nat} {σ : ms_T} {n f x : Int} {B E : Int → Int} {Q : mq_T} (h : isIv σ a) (hn : gi σ a 2 = n) (hb : ∀ i : Int, 0 ≤ i → i < n → gi σ (a + 1) i.toNat = B i) (he : ∀ i : Int, 0 ≤ i → i < n → gi σ (a + 2) i.toNat = E i) (h12 : n ≤ 12) (h0 : 0 ≤ f) (h1 : f ≤ x) (h2 : x ≤ n) (hQ : ∀ τ, Sm σ τ (inIv a) → gi τ a 2 = n - (x - f) → (∀ i : Int, 0 ≤ i → i < n - (x - f) → gi τ (a + 1) i.toNat = (if i < f then B i else B (i + (x - f))) ∧ gi τ (a + 2) i.toNat = (if i < f then E i else E (i + (x - f)))) → Q none τ) : Ca n_X2_removeRange [vR (some a), vI f, vI x] σ Q := by
  have key : ∀ (k : Nat) (i : Int) (τ : ms_T), x ≤ i → i ≤ n → n - i < k → Sm σ τ (inIv a) → gi τ a 2 = n → (∀ j : Int, 0 ≤ j → j < n → gi τ (a + 1) j.toNat = (if f ≤ j ∧ j < i - (x - f) then B (j + (x - f)) else B j) ∧ gi τ (a + 2) j.toNat = (if f ≤ j ∧ j < i - (x - f) then E (j + (x - f)) else E j)) → At n_X2_removeRange 7 [some (vR (some a)), some (vI f), some (vI x), some (vI (x - f)), some (vI i)] [] τ Q := by
    intro k
    induction k with
    | zero => intro i τ h0 h1 h2; omega
    | succ k ih =>
      intro i τ i0 i1 i2 hs hc hx
      obtain ⟨s0, r0, r1, s1, s2⟩ := h.sm hs
      refine vc_X2_removeRange_7 _ _ _ _ _ _ _ ?_
      simp only [gs_sI, gr_sI, s0, s1, s2, r0, r1, hc, isS_some, true_and]
      rw [wr_i (x := i - (x - f)) (by omega)]
      refine ⟨fun e => ?_, fun e => ⟨by omega, by omega, by omega, by omega, by omega, by omega, by omega, by omega, ?_⟩⟩
      · refine hQ _ (hs.st ⟨by omega, by omega⟩) (by rw [gi_eq, wr_i (by omega)]) (fun j a1 a2 => ?_)
        have g := hx j a1 (by omega)
        rw [gi_ne (by omega), gi_ne (by omega), g.1, g.2]
        by_cases e2 : j < f
        · simp only [if_pos e2, if_neg (show ¬ (f ≤ j ∧ j < i - (x - f)) by omega)]
          first | exact ⟨rfl, rfl⟩ | exact ⟨trivial, trivial⟩
        · simp only [if_neg e2, if_pos (show (f ≤ j ∧ j < i - (x - f)) by omega)]
          first | exact ⟨rfl, rfl⟩ | exact ⟨trivial, trivial⟩
      · have g := hx i (by omega) (by omega)
        rw [wr_i (x := i + 1) (by omega), gi_ne (c' := a + 2) (by omega), g.1, g.2]
        simp only [if_neg (show ¬ (f ≤ i ∧ i < i - (x - f)) by omega)]
        refine ih (i + 1) _ (by omega) (by omega) (by omega) ((hs.st ⟨by omega, by omega⟩).st ⟨by omega, by omega⟩) ?_ ?_
        · rw [gi_ne (by omega), gi_ne (by omega)]; exact hc
        · intro j a1 a2
          have g2 := hx j a1 a2
          by_cases e2 : j = i - (x - f)
          · subst e2
            rw [gi_ne (by omega), gi_eq, gi_eq]
            simp only [if_pos (show (f ≤ i - (x - f) ∧ i - (x - f) < i + 1 - (x - f)) by omega)]
            rw [show i - (x - f) + (x - f) = i by omega]
            first | exact ⟨rfl, rfl⟩ | exact ⟨trivial, trivial⟩
          · rw [gi_ne (by omega), gi_nk (by omega), gi_nk (by omega), gi_ne (by omega), g2.1, g2.2]
            by_cases e3 : f ≤ j ∧ j < i - (x - f)
            · simp only [if_pos e3, if_pos (show f ≤ j ∧ j < i + 1 - (x - f) by omega)]
              first | exact ⟨rfl, rfl⟩ | exact ⟨trivial, trivial⟩
            · simp only [if_neg e3, if_neg (show ¬ (f ≤ j ∧ j < i + 1 - (x - f)) by omega)]
              first | exact ⟨rfl, rfl⟩ | exact ⟨trivial, trivial⟩
  refine vc_X2_removeRange _ _ _ _ _ ?_
  rw [wr_i (x := x - f) (by omega)]
  refine key (n + 1).toNat x σ (by omega) h2 (by omega) Sm.rf hn (fun j a1 a2 => ?_)
  simp only [if_neg (show ¬ (f ≤ j ∧ j < x - (x - f)) by omega)]
  exact ⟨hb j a1 a2, he j a1 a2⟩
set_option maxHeartbeats 4000000 in
theorem X2_insert {a : Nat} {σ : ms_T} {L : Iv} {f u v : Int} {Q : mq_T} (h : IvC σ a L) (hf : 0 ≤ f) (hf2 : f ≤ ln L) (h12 : ln L ≤ 12) (hQ0 : 12 ≤ ln L → Q (some (vI 0)) σ) (hQ1 : ln L < 12 → ∀ τ, Sm σ τ (inIv a) → IvC τ a (tab (ln L + 1) (fun i => if i < f then lb L i else if i = f then u else lb L (i - 1)) (fun i => if i < f then le_ L i else if i = f then v else le_ L (i - 1))) → Q (some (vI 1)) τ) : Ca n_X2_insert [vR (some a), vI f, vI u, vI v] σ Q := by
  obtain ⟨hi, hn, hb, he⟩ := h
  have key : ∀ (k : Nat) (i : Int) (τ : ms_T), ln L < 12 → f ≤ i → i ≤ ln L → i - f < k → Sm σ τ (inIv a) → gi τ a 2 = ln L → (∀ j : Int, 0 ≤ j → j < i → gi τ (a + 1) j.toNat = lb L j ∧ gi τ (a + 2) j.toNat = le_ L j) → (∀ j : Int, i < j → j ≤ ln L → gi τ (a + 1) j.toNat = lb L (j - 1) ∧ gi τ (a + 2) j.toNat = le_ L (j - 1)) → At n_X2_insert 17 [some (vR (some a)), some (vI f), some (vI u), some (vI v), some (vI i)] [] τ Q := by
    intro k
    induction k with
    | zero => intro i τ _ h0 h1 h2; omega
    | succ k ih =>
      intro i τ hlt i0 i1 i2 hs hc hx hy
      have hi' := hi.sm hs
      obtain ⟨s0, r0, r1, s1, s2⟩ := hi.sm hs
      refine vc_X2_insert_17 _ _ _ _ _ _ _ ?_
      simp only [gs_sI, gr_sI, s0, s1, s2, r0, r1, isS_some, true_and]
      refine ⟨fun e => ⟨by omega, by omega, by omega, by omega, by simp, ?_⟩, fun e => ?_⟩
      · have hs2 : Sm σ (sI (sI (sI τ (a + 1) f.toNat u) (a + 2) f.toNat v) a 2 (wr (gi (sI (sI τ (a + 1) f.toNat u) (a + 2) f.toNat v) a 2 + 1))) (inIv a) := ((hs.st ⟨by omega, by omega⟩).st ⟨by omega, by omega⟩).st ⟨by omega, by omega⟩
        have hln := ln_tab (n := ln L + 1) (f := fun i => if i < f then lb L i else if i = f then u else lb L (i - 1)) (g := fun i => if i < f then le_ L i else if i = f then v else le_ L (i - 1)) (by have := ln_nn L; omega)
        refine hQ1 hlt _ hs2 ⟨hi.sm hs2, ?_, fun j a1 a2 => ?_, fun j a1 a2 => ?_⟩
        · rw [gi_eq, gi_ne (by omega), gi_ne (by omega), hc, hln, wr_i (by omega)]
        · rw [hln] at a2
          rw [lb_tab a1 a2, gi_ne (by omega), gi_ne (by omega)]
          rcases Int.lt_trichotomy j f with e2 | e2 | e2
          · rw [if_pos e2, gi_nk (by omega)]; exact (hx j a1 (by omega)).1
          · rw [if_neg (by omega), if_pos e2, e2, gi_eq]
          · rw [if_neg (by omega), if_neg (by omega), gi_nk (by omega)]; exact (hy j (by omega) (by omega)).1
        · rw [hln] at a2
          rw [le_tab a1 a2, gi_ne (by omega)]
          rcases Int.lt_trichotomy j f with e2 | e2 | e2
          · rw [if_pos e2, gi_nk (by omega), gi_ne (by omega)]; exact (hx j a1 (by omega)).2
          · rw [if_neg (by omega), if_pos e2, e2, gi_eq]
          · rw [if_neg (by omega), if_neg (by omega), gi_nk (by omega), gi_ne (by omega)]; exact (hy j (by omega) (by omega)).2
      · rw [wr_i (x := i - 1) (by omega), wr_i (x := i + -1) (by omega)]
        refine ⟨by omega, by omega, by omega, by omega, by omega, by omega, by omega, by omega, ?_⟩
        have g := hx (i - 1) (by omega) (by omega)
        rw [gi_ne (c' := a + 2) (by omega), g.1, g.2]
        refine ih (i + -1) _ hlt (by omega) (by omega) (by omega) ((hs.st ⟨by omega, by omega⟩).st ⟨by omega, by omega⟩) ?_ ?_ ?_
        · rw [gi_ne (by omega), gi_ne (by omega)]; exact hc
        · intro j a1 a2
          rw [gi_ne (by omega), gi_nk (by omega), gi_nk (by omega), gi_ne (by omega)]
          exact hx j a1 (by omega)
        · intro j a1 a2
          by_cases e2 : j = i
          · subst e2
            rw [gi_ne (by omega), gi_eq, gi_eq]
            first | exact ⟨rfl, rfl⟩ | exact ⟨trivial, trivial⟩
          · rw [gi_ne (by omega), gi_nk (by omega), gi_nk (by omega), gi_ne (by omega)]
            exact hy j (by omega) a2
  have hnn := ln_nn L
  obtain ⟨s0, r0, r1, s1, s2⟩ := hi
  refine vc_X2_insert _ _ _ _ _ _ ?_
  simp only [s0, hn, true_and]
  refine ⟨fun e => key (ln L + 1).toNat (ln L) σ e hf2 (by omega) (by omega) Sm.rf hn (fun j a1 a2 => ⟨hb j a1 a2, he j a1 a2⟩) (fun j a1 a2 => by omega), fun e => ⟨by simp, hQ0 (by omega)⟩⟩
set_option maxHeartbeats 4000000 in
theorem X2_cutFirst {a : Nat} {σ : ms_T} {L : Iv} {u : Int} {Q : mq_T} (h : IvC σ a L) (hk : ok L) (hu : -1 ≤ u) (hu2 : u ≤ 2000000000) (hQ : ∀ τ, Sm σ τ (inIv a) → IvC τ a (cutL L u) → Q none τ) : Ca n_X2_cutFirst [vR (some a), vI u] σ Q := by
  have h0 := h
  obtain ⟨hi, hn, hb, he⟩ := h
  have hl := hk.1
  have hnn := ln_nn L
  have rem : 0 < ln L → ¬ u < le_ L 0 → Ca n_X2_removeRange [vR (some a), vI (0 : Int), vI (1 : Int)] σ fun v1 τ2 => v1 = none ∧ Q none τ2 := by
    intro z1 z2
    refine X2_removeRange hi hn hb he hl (by omega) (by omega) (by omega) (fun τ hs hc hx => ⟨rfl, hQ τ hs ⟨hi.sm hs, ?_, fun i b0 b1 => ?_, fun i b0 b1 => ?_⟩⟩)
    · unfold cutL
      rw [if_neg (by omega), if_neg z2, ln_tab (by omega), hc]
      omega
    · unfold cutL at b1 ⊢
      rw [if_neg (by omega), if_neg z2] at b1 ⊢
      rw [ln_tab (by omega)] at b1
      rw [lb_tab b0 b1, (hx i b0 (by omega)).1, if_neg (by omega), show i + (1 - 0) = i + 1 by omega]
    · unfold cutL at b1 ⊢
      rw [if_neg (by omega), if_neg z2] at b1 ⊢
      rw [ln_tab (by omega)] at b1
      rw [le_tab b0 b1, (hx i b0 (by omega)).2, if_neg (by omega), show i + (1 - 0) = i + 1 by omega]
  have hi0 := hi
  obtain ⟨s0, r0, r1, s1, s2⟩ := hi
  refine vc_X2_cutFirst _ _ _ _ ?_
  simp only [gs_sI, gr_sI, s0, s1, s2, r0, r1, hn, isS_some, true_and]
  refine ⟨fun e => ⟨fun e2 => ?_, fun e2 => absurd e e2⟩, fun e => ⟨by omega, by omega, fun e2 => ⟨fun e3 => absurd e3 e, fun e3 => ?_⟩, fun e2 => ⟨by omega, by omega, ?_⟩⟩⟩
  · refine hQ σ Sm.rf ?_
    unfold cutL
    rw [if_pos e]
    exact h0
  · rw [he 0 (by omega) (by omega)] at e2
    exact rem (by omega) (by omega)
  · rw [he 0 (by omega) (by omega)] at e2
    have hs : Sm σ (sI σ (a + 1) (0 : Int).toNat (wr (u + 1))) (inIv a) := Sm.rf.st ⟨by omega, by omega⟩
    refine hQ _ hs ⟨hi0.sm hs, ?_, fun i b0 b1 => ?_, fun i b0 b1 => ?_⟩
    · unfold cutL
      rw [if_neg (by omega), if_pos (by omega), ln_tab (by omega), gi_ne (by omega), hn]
    · unfold cutL at b1 ⊢
      rw [if_neg (by omega), if_pos (by omega)] at b1 ⊢
      rw [ln_tab (by omega)] at b1
      rw [lb_tab b0 b1]
      by_cases e3 : i = 0
      · subst e3
        rw [gi_eq, if_pos rfl, wr_i (by omega)]
      · rw [gi_nk (by omega), if_neg e3]
        exact hb i b0 b1
    · unfold cutL at b1 ⊢
      rw [if_neg (by omega), if_pos (by omega)] at b1 ⊢
      rw [ln_tab (by omega)] at b1
      rw [le_tab b0 b1, gi_ne (by omega)]
      exact he i b0 b1
