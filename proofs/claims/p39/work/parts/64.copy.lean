theorem gi_six {σ : ms_T} {a : Nat} {v1 v2 v3 v4 v5 v6 : Int} : gi (sI (sI (sI (sI (sI (sI σ a 1 v1) a 2 v2) a 3 v3) a 4 v4) a 5 v5) a 6 v6) a 0 = gi σ a 0 ∧ gi (sI (sI (sI (sI (sI (sI σ a 1 v1) a 2 v2) a 3 v3) a 4 v4) a 5 v5) a 6 v6) a 1 = v1 ∧ gi (sI (sI (sI (sI (sI (sI σ a 1 v1) a 2 v2) a 3 v3) a 4 v4) a 5 v5) a 6 v6) a 2 = v2 ∧ gi (sI (sI (sI (sI (sI (sI σ a 1 v1) a 2 v2) a 3 v3) a 4 v4) a 5 v5) a 6 v6) a 3 = v3 ∧ gi (sI (sI (sI (sI (sI (sI σ a 1 v1) a 2 v2) a 3 v3) a 4 v4) a 5 v5) a 6 v6) a 4 = v4 ∧ gi (sI (sI (sI (sI (sI (sI σ a 1 v1) a 2 v2) a 3 v3) a 4 v4) a 5 v5) a 6 v6) a 5 = v5 ∧ gi (sI (sI (sI (sI (sI (sI σ a 1 v1) a 2 v2) a 3 v3) a 4 v4) a 5 v5) a 6 v6) a 6 = v6 := by
  refine ⟨?_, ?_, ?_, ?_, ?_, ?_, ?_⟩ <;> simp [gi_sI]
set_option maxHeartbeats 8000000 in
theorem X7_copyFrom {a b : Nat} {σ : ms_T} {i j : Int} {s : St} {Q : mq_T} (h : isSt σ a) (hi : gi σ a 0 = i) (h' : StC σ b j s) (hd : a + 15 < b ∨ b + 15 < a) (hk : ln (cov s) ≤ 12) (hk2 : ∀ k, 0 ≤ k → k < 3 → ln (ol s k) ≤ 12) (hQ : ∀ τ, Sm σ τ (inSt a) → StC τ a i s → Q none τ) : Ca n_X7_copyFrom [vR (some a), vR (some b)] σ Q := by
  have dis : ∀ c, inSt b c → ¬ inSt a c := fun c hc => by unfold inSt at *; omega
  -- the counts
  have key2 : ∀ (k : Nat) (w : Int) (τ : ms_T), 0 ≤ w → w ≤ 4 → 4 - w < k → Sm σ τ (inSt a) → StS τ a i s → IvC τ (a + 1) (cov s) → (∀ x : Int, 0 ≤ x → x < 3 → gi τ (a + 4) x.toNat = of_ s x ∧ IvC τ (a + 7 + 3 * x.toNat) (ol s x)) → (∀ x : Int, 0 ≤ x → x < w → gi τ (a + 6) x.toNat = ct s x) → At n_X7_copyFrom 101 [some (vR (some a)), some (vR (some b)), some (vI w)] [] τ Q := by
    intro k
    induction k with
    | zero => intro w τ a0 a1 a2; omega
    | succ k ih =>
      intro w τ a0 a1 a2 hs hS hc hO hw
      have hb := h'.sm hs dis
      have hst := h.sm hs
      obtain ⟨s0, r7, r8, r9, r10, s4, s5, s6, r5, iv1, iv⟩ := hst
      obtain ⟨⟨t0, u7, u8, u9, u10, t4, t5, t6, u5, iw1, iw⟩, -, -, -, hct⟩ := hb
      refine vc_X7_copyFrom_101 _ _ _ _ _ ?_
      simp only [s0, t0, r10, u10, s6, t6, isS_some, true_and]
      refine ⟨fun e => hQ τ hs ⟨h.sm hs, hS, hc, hO, fun x x0 x1 => hw x x0 (by omega)⟩, fun e => ⟨a0, by omega, a0, by omega, ?_⟩⟩
      rw [wr_i (x := w + 1) (by omega), hct w a0 (by omega)]
      have hs2 : Sm τ (sI τ (a + 6) w.toNat (ct s w)) (fun c => c = a + 6) := Sm.one
      refine ih (w + 1) _ (by omega) (by omega) (by omega) (hs.st ⟨by omega, by omega⟩) ?_ (hc.sm hs2 fun c hc => by unfold inIv at hc; omega) (fun x x0 x1 => ⟨by rw [gi_ne (by omega)]; exact (hO x x0 x1).1, (hO x x0 x1).2.sm hs2 fun c hc => by unfold inIv at hc; omega⟩) (fun x x0 x1 => ?_)
      · unfold StS at *
        simp only [gi_ne (show ¬ a = a + 6 by omega)]
        exact hS
      · by_cases e2 : x = w
        · rw [e2, gi_eq]
        · rw [gi_nk (by omega)]; exact hw x x0 (by omega)
  have key : ∀ (k : Nat) (w : Int) (τ : ms_T), 0 ≤ w → w ≤ 3 → 3 - w < k → Sm σ τ (inSt a) → StS τ a i s → IvC τ (a + 1) (cov s) → (∀ x : Int, 0 ≤ x → x < w → gi τ (a + 4) x.toNat = of_ s x ∧ IvC τ (a + 7 + 3 * x.toNat) (ol s x)) → At n_X7_copyFrom 61 [some (vR (some a)), some (vR (some b)), some (vI w)] [] τ Q := by
    intro k
    induction k with
    | zero => intro w τ a0 a1 a2; omega
    | succ k ih =>
      intro w τ a0 a1 a2 hs hS hc hO
      have hb := h'.sm hs dis
      have hst := h.sm hs
      obtain ⟨s0, r7, r8, r9, r10, s4, s5, s6, r5, iv1, iv⟩ := hst
      obtain ⟨⟨t0, u7, u8, u9, u10, t4, t5, t6, u5, iw1, iw⟩, -, -, hob, hct⟩ := hb
      refine vc_X7_copyFrom_61 _ _ _ _ _ ?_
      refine ⟨fun e => ?_, fun e => ?_⟩
      · exact key2 5 0 τ (by omega) (by omega) (by omega) hs hS hc (fun x x0 x1 => hO x x0 (by omega)) (fun x x0 x1 => by omega)
      · simp only [gs_sI, gr_sI, s0, t0, r8, r9, u8, u9, s4, t4, s5, t5, r5 w a0 (by omega), u5 w a0 (by omega), (iv w a0 (by omega)).1, isS_some, true_and]
        rw [wr_i (x := w + 1) (by omega), (hob w a0 (by omega)).1]
        have hs2 : Sm τ (sI τ (a + 4) w.toNat (of_ s w)) (fun c => c = a + 4) := Sm.one
        refine ⟨a0, by omega, a0, by omega, by decide, by decide, a0, by omega, by decide, by decide, a0, by omega, ?_⟩
        refine X2_copyFrom ((iv w a0 (by omega)).sm hs2) ((hob w a0 (by omega)).2.sm hs2 fun c hc => by unfold inIv at hc; omega) (hk2 w a0 (by omega)) (by omega) (fun υ hs3 hL => ⟨rfl, ?_⟩)
        have hs4 : Sm τ υ (fun c => c = a + 4 ∨ inIv (a + 7 + 3 * w.toNat) c) := (hs2.wk fun c hc => Or.inl hc).tr (hs3.wk fun c hc => Or.inr hc)
        refine ih (w + 1) υ (by omega) (by omega) (by omega) (hs.tr (hs4.wk fun c hc => ?_)) ?_ (hc.sm hs4 fun c hc => by unfold inIv at *; omega) (fun x x0 x1 => ?_)
        · unfold inIv at hc; unfold inSt; omega
        · unfold StS at *
          simp only [hs4.i (show ¬ (a = a + 4 ∨ inIv (a + 7 + 3 * w.toNat) a) by unfold inIv; omega)]
          exact hS
        · by_cases e2 : x = w
          · rw [e2]
            exact ⟨by rw [hs3.i (by unfold inIv; omega), gi_eq], hL⟩
          · refine ⟨?_, (hO x x0 (by omega)).2.sm hs4 fun c hc => by unfold inIv at *; omega⟩
            rw [hs3.i (by unfold inIv; omega), gi_nk (by omega)]
            exact (hO x x0 (by omega)).1
  have hst := h
  obtain ⟨s0, r7, r8, r9, r10, s4, s5, s6, r5, iv1, iv⟩ := hst
  obtain ⟨⟨t0, u7, u8, u9, u10, t4, t5, t6, u5, iw1, iw⟩, ⟨e0, e1, e2, e3, e4, e5, e6⟩, hcb, -, -⟩ := id h'
  have hne : ¬ b = a := by omega
  refine vc_X7_copyFrom _ _ _ _ ?_
  simp only [gs_sI, gr_sI, s0, t0, r7, u7, gi_ne hne, e1, e2, e3, e4, e5, e6, iv1.1, isS_some, true_and]
  have h6 := gi_six (σ := σ) (a := a) (v1 := sc s 0) (v2 := sc s 1) (v3 := sc s 2) (v4 := sc s 3) (v5 := sc s 4) (v6 := sc s 5)
  have hs0 : Sm σ (sI (sI (sI (sI (sI (sI σ a 1 (sc s 0)) a 2 (sc s 1)) a 3 (sc s 2)) a 4 (sc s 3)) a 5 (sc s 4)) a 6 (sc s 5)) (fun c => c = a) := by
    refine (((((Sm.st ?_ ?_).st ?_).st ?_).st ?_).st ?_).st ?_
    · exact Sm.rf
    all_goals rfl
  generalize sI (sI (sI (sI (sI (sI σ a 1 (sc s 0)) a 2 (sc s 1)) a 3 (sc s 2)) a 4 (sc s 3)) a 5 (sc s 4)) a 6 (sc s 5) = υ at *
  refine X2_copyFrom (iv1.sm hs0) (hcb.sm hs0 fun c hc => by unfold inIv at hc; omega) hk (by omega) (fun τ hs hL => ⟨rfl, ?_⟩)
  refine key 4 0 τ (by omega) (by omega) (by omega) ((hs0.wk fun c hc => by unfold inSt; omega).tr (hs.wk fun c hc => by unfold inIv at hc; unfold inSt; omega)) ?_ hL (fun x x0 x1 => by omega)
  unfold StS
  have na : ¬ inIv (a + 1) a := by unfold inIv; omega
  simp only [hs.i na]
  rw [hi] at h6
  exact h6
set_option maxHeartbeats 8000000 in
theorem X3_copyFrom {u v : Nat} {σ : ms_T} {L0 L : List Rq} {Q : mq_T} (h : QuC σ u L0) (h' : QuC σ v L) (hd : u + 25 < v ∨ v + 25 < u) (hk : ∀ k, 0 ≤ k → k < ql L → ln (rho (qg L k)) ≤ 12) (hQ : ∀ τ, Sm σ τ (inQu u) → QuC τ u L → Q none τ) : Ca n_X3_copyFrom [vR (some u), vR (some v)] σ Q := by
  obtain ⟨p, ⟨h1, h2, h3⟩, h4, h5, h6, h7, h8, h9⟩ := h
  have hnn := ql_nn L
  have hv := h'
  obtain ⟨q0, ⟨-, -, -⟩, -, hL6, -⟩ := hv
  have key : ∀ (k : Nat) (i : Int) (τ : ms_T), 0 ≤ i → i ≤ ql L → ql L - i < k → Sm σ τ (inQu u) → gi τ u 1 = ql L → (∀ j : Int, 0 ≤ j → j < i → RqC τ (u + 2 + 4 * p j) (qg L j)) → At n_X3_copyFrom 10 [some (vR (some u)), some (vR (some v)), some (vI i)] [] τ Q := by
    intro k
    induction k with
    | zero => intro i τ a0 a1 a2; omega
    | succ k ih =>
      intro i τ a0 a1 a2 hs hn hR
      obtain ⟨q, ⟨g1, g2, g3⟩, g4, g5, g6, g7, g8, g9⟩ := h'.ag (hs.ag fun c hc => by unfold inQu at *; omega)
      have t1 : gs τ u = (3, 0) := by rw [hs.s]; exact h1
      have t2 : gr τ u 0 = some (u + 1) := by rw [hs.r]; exact h2
      have t3 : gs τ (u + 1) = (64, 6) := by rw [hs.s]; exact h3
      refine vc_X3_copyFrom_10 _ _ _ _ _ ?_
      simp only [t1, t2, t3, g1, g2, g3, hn, isS_some, true_and]
      refine ⟨fun e => ?_, fun e => ⟨by decide, by decide, a0, by omega, by decide, by decide, a0, by omega, ?_⟩⟩
      · exact hQ τ hs ⟨p, ⟨t1, t2, t3⟩, hn, g5, fun k b0 b1 => by rw [hs.r]; exact h6 k b0 b1, h7, fun j hj => (h8 j hj).sm hs, fun j b0 b1 => hR j b0 (by omega)⟩
      · have hp := h6 i a0 (by omega)
        have hpr : gr τ (u + 1) i.toNat = some (u + 2 + 4 * p i) := by rw [hs.r]; exact hp.1
        have hr := (h8 _ hp.2).sm hs
        have hgi := g9 i a0 (by omega)
        have hgl := (g6 i a0 (by omega)).2
        simp only [hpr, (g6 i a0 (by omega)).1, hr.1, isS_some, true_and]
        rw [wr_i (x := i + 1) (by omega)]
        have hp2 := hp.2
        refine X4_copyFrom hr hgi (by omega) (hk i a0 (by omega)) (fun υ hs2 hc => ⟨rfl, ?_⟩)
        refine ih (i + 1) υ (by omega) (by omega) (by omega) (hs.tr (hs2.wk fun c hc => by unfold inRq at hc; unfold inQu; omega)) (by rw [hs2.i (by unfold inRq; omega)]; exact hn) (fun j b0 b1 => ?_)
        by_cases e2 : j = i
        · rw [e2]; exact hc
        · refine (hR j b0 (by omega)).ag (hs2.ag fun c hc => ?_)
          have n1 : ¬ p j = p i := fun z => e2 (h7 j i b0 (by omega) a0 (by omega) z)
          unfold inRq at *
          omega
  obtain ⟨q, ⟨g1, g2, g3⟩, g4, -⟩ := id h'
  refine vc_X3_copyFrom _ _ _ _ ?_
  simp only [h1, g1, isS_some, true_and]
  exact key (ql L + 1).toNat 0 _ (by omega) hnn (by omega) (Sm.rf.st ⟨by omega, by omega⟩) (by rw [gi_eq]; exact g4) (fun j b0 b1 => by omega)
set_option maxHeartbeats 8000000 in
theorem X6_copyFrom {t v : Nat} {σ : ms_T} {S : Sa} {F : Fl} {L0 : List Rq} {Q : mq_T} (h : SaS σ t) (hq0 : QuC σ (t + 2) L0) (h' : SaC σ v S) (hw : SaW F S) (hd : t + 109 < v ∨ v + 109 < t) (hQ : ∀ τ, Sm σ τ (inSa t) → SaC τ t S → Q none τ) : Ca n_X6_copyFrom [vR (some t), vR (some v)] σ Q := by
  have hn0 := hw.1.1
  have hn5 := hw.1.2
  have dis : ∀ c, inSa v c → ¬ inSa t c := fun c hc => by unfold inSa at *; omega
  have src : ∀ τ, Sm σ τ (inSa t) → SaC τ v S := fun τ hs => h'.ag hn5 (hs.ag fun c hc => dis c hc.1) (by rw [hs.s]; exact h'.1.1.2.2.2.2.2.2.2.1)
  have shp : ∀ τ, Sm σ τ (inSa t) → (∀ i : Int, 0 ≤ i → i < 5 → gi τ (sa t i) 0 = i) → SaS τ t := fun τ hs hi => by
    obtain ⟨⟨k1, k2, k3, k4, k5, k6, k7, k8, k9⟩, k10, k11⟩ := h
    exact ⟨⟨by rw [hs.s]; exact k1, by rw [hs.r]; exact k2, by rw [hs.r]; exact k3, by rw [hs.r]; exact k4, by rw [hs.r]; exact k5, by rw [hs.r]; exact k6, by rw [hs.s]; exact k7, by rw [hs.s]; exact k8, by rw [hs.s]; exact k9⟩, fun i a b => by rw [hs.r]; exact k10 i a b, fun i a b => ⟨(k11 i a b).1.sm hs, hi i a b⟩⟩
  -- the totals
  have key2 : ∀ (k : Nat) (w : Int) (τ : ms_T), 0 ≤ w → w ≤ 5 → 5 - w < k → Sm σ τ (inSa t) → (∀ i : Int, 0 ≤ i → i < 5 → gi τ (sa t i) 0 = i) → gi τ t 6 = now S → gi τ t 2 = nst S → (∀ i : Int, 0 ≤ i → i < nst S → StC τ (sa t i) i (sts S i)) → QuC τ (t + 2) (que S) → (∀ x : Int, 0 ≤ x → x < w → gi τ (t + 29) x.toNat = tot S x) → At n_X6_copyFrom 60 [some (vR (some t)), some (vR (some v)), some (vI w)] [] τ Q := by
    intro k
    induction k with
    | zero => intro w τ a0 a1 a2; omega
    | succ k ih =>
      intro w τ a0 a1 a2 hs hi h6 h2 hst hq hto
      have hS := shp τ hs hi
      obtain ⟨⟨k1, k2, k3, k4, k5, k6, k7, k8, k9⟩, k10, k11⟩ := hS
      obtain ⟨⟨⟨v1, v2, v3, v4, v5, v6, v7, v8, v9⟩, v10, v11⟩, -, -, -, -, vt⟩ := src τ hs
      refine vc_X6_copyFrom_60 _ _ _ _ _ ?_
      simp only [k1, v1, k6, v6, k9, v9, isS_some, true_and]
      refine ⟨fun e => hQ τ hs ⟨shp τ hs hi, h6, h2, hst, hq, fun x x0 x1 => hto x x0 (by omega)⟩, fun e => ⟨a0, by omega, a0, by omega, ?_⟩⟩
      rw [wr_i (x := w + 1) (by omega), vt w a0 (by omega)]
      have hs2 : Sm τ (sI τ (t + 29) w.toNat (tot S w)) (fun c => c = t + 29) := Sm.one
      refine ih (w + 1) _ (by omega) (by omega) (by omega) (hs.st (by unfold inSa; omega)) (fun i b0 b1 => by rw [gi_ne (by unfold sa; omega)]; exact hi i b0 b1) (by rw [gi_ne (by omega)]; exact h6) (by rw [gi_ne (by omega)]; exact h2) (fun i b0 b1 => (hst i b0 b1).sm hs2 fun c hc => by unfold inSt sa at hc; omega) (hq.ag (hs2.ag fun c hc => by unfold inQu at hc; omega)) (fun x x0 x1 => ?_)
      by_cases e2 : x = w
      · rw [e2, gi_eq]
      · rw [gi_nk (by omega)]; exact hto x x0 (by omega)
  have key : ∀ (k : Nat) (w : Int) (τ : ms_T), 0 ≤ w → w ≤ nst S → nst S - w < k → Sm σ τ (inSa t) → (∀ i : Int, 0 ≤ i → i < 5 → gi τ (sa t i) 0 = i) → gi τ t 6 = now S → gi τ t 2 = nst S → (∀ i : Int, 0 ≤ i → i < w → StC τ (sa t i) i (sts S i)) → QuC τ (t + 2) L0 → At n_X6_copyFrom 18 [some (vR (some t)), some (vR (some v)), some (vI w)] [] τ Q := by
    intro k
    induction k with
    | zero => intro w τ a0 a1 a2; omega
    | succ k ih =>
      intro w τ a0 a1 a2 hs hi h6 h2 hst hq
      have hS := shp τ hs hi
      obtain ⟨⟨k1, k2, k3, k4, k5, k6, k7, k8, k9⟩, k10, k11⟩ := hS
      obtain ⟨⟨⟨v1, v2, v3, v4, v5, v6, v7, v8, v9⟩, v10, v11⟩, -, -, vst, vq, vt⟩ := src τ hs
      have hq' := hq
      obtain ⟨p0, ⟨q1, q2, q3⟩, -⟩ := hq
      refine vc_X6_copyFrom_18 _ _ _ _ _ ?_
      simp only [k1, v1, k3, v3, k4, v4, k7, v7, h2, q1, isS_some, true_and]
      refine ⟨fun e => ?_, fun e => ⟨by decide, by decide, a0, by omega, by decide, by decide, a0, by omega, ?_⟩⟩
      · refine X3_copyFrom hq' vq (by omega) (fun k b0 b1 => (hw.2.2.2.2.1 k b0 b1).2.2.1.1) (fun υ hs2 hc => ⟨rfl, ?_⟩)
        refine key2 6 0 υ (by omega) (by omega) (by omega) (hs.tr (hs2.wk fun c hc => Qu_Sa hc)) (fun i b0 b1 => by rw [hs2.i (by unfold inQu sa; omega)]; exact hi i b0 b1) (by rw [hs2.i (by unfold inQu; omega)]; exact h6) (by rw [hs2.i (by unfold inQu; omega)]; exact h2) (fun i b0 b1 => (hst i b0 (by omega)).sm hs2 fun c hc => by unfold inSt sa at hc; unfold inQu; omega) hc (fun x x0 x1 => by omega)
      · have hwi := hw.2.2.1 w a0 (by omega)
        have hsw := k11 w a0 (by omega)
        simp only [k10 w a0 (by omega), v10 w a0 (by omega), hsw.1.1, isS_some, true_and]
        rw [wr_i (x := w + 1) (by omega)]
        refine X7_copyFrom hsw.1 hsw.2 (vst w a0 (by omega)) (by unfold sa; omega) hwi.2.1.1 (fun k b0 b1 => (hwi.2.2.1 k b0 b1).2.2.1.1) (fun υ hs2 hc => ⟨rfl, ?_⟩)
        refine ih (w + 1) υ (by omega) (by omega) (by omega) (hs.tr (hs2.wk fun c hc => by unfold inSt sa at hc; unfold inSa; omega)) (fun i b0 b1 => ?_) (by rw [hs2.i (by unfold inSt sa; omega)]; exact h6) (by rw [hs2.i (by unfold inSt sa; omega)]; exact h2) (fun i b0 b1 => ?_) (hq'.ag (hs2.ag fun c hc => by unfold inQu at hc; unfold inSt sa; omega))
        · by_cases e2 : i = w
          · rw [e2]; exact hc.2.1.1
          · rw [hs2.i (by unfold inSt sa; omega)]; exact hi i b0 b1
        · by_cases e2 : i = w
          · rw [e2]; exact hc
          · exact (hst i b0 (by omega)).sm hs2 fun c hc => by unfold inSt sa at *; omega
  obtain ⟨⟨k1, k2, k3, k4, k5, k6, k7, k8, k9⟩, k10, k11⟩ := id h
  obtain ⟨⟨⟨v1, v2, v3, v4, v5, v6, v7, v8, v9⟩, v10, v11⟩, w6, w2, -⟩ := id h'
  refine vc_X6_copyFrom _ _ _ _ ?_
  simp only [gs_sI, k1, v1, w6, w2, gi_ne (show ¬ v = t by omega), isS_some, true_and]
  have hs2 : Sm σ (sI (sI σ t 6 (now S)) t 2 (nst S)) (fun c => c = t) := Sm.st (Sm.one) rfl
  exact key (nst S + 1).toNat 0 _ (by omega) hn0 (by omega) (hs2.wk fun c hc => by unfold inSa; omega) (fun i b0 b1 => by rw [hs2.i (by unfold sa; omega)]; exact (k11 i b0 b1).2) (by rw [gi_nk (by omega), gi_eq]) (by rw [gi_eq]) (fun i b0 b1 => by omega) (hq0.ag (hs2.ag fun c hc => by unfold inQu at hc; omega))
