def FrC (σ : ms_T) (b : Nat) (r : Fr) (rc : Int) : Prop := gs σ b = (1, 0) ∧ gi σ b 0 = 1 ∧ gi σ b 1 = r.1 ∧ gi σ b 2 = r.2.1 ∧ gi σ b 3 = r.2.2.1 ∧ gi σ b 4 = r.2.2.2 ∧ gi σ b 5 = rc
theorem FrC.sm {σ τ : ms_T} {b : Nat} {r : Fr} {rc : Int} {P : Nat → Prop} (h : FrC σ b r rc) (hs : Sm σ τ P) (hP : ¬ P b) : FrC τ b r rc := by
  unfold FrC at *
  simp only [hs.s, hs.i hP]
  exact h
set_option maxHeartbeats 4000000 in
theorem X1_fill {b : Nat} {σ : ms_T} {k f x y : Int} {Q : mq_T} (h : gs σ b = (1, 0)) (hQ : ∀ τ, Sm σ τ (fun c => c = b) → FrC τ b (k, f, x, y) 0 → Q none τ) : Ca n_X1_fill [vR (some b), vI k, vI f, vI x, vI y] σ Q := by
  refine vc_X1_fill _ _ _ _ _ _ _ ?_
  simp only [gs_sI, h, true_and]
  have hs : Sm σ (sI (sI (sI (sI (sI (sI σ b 0 1) b 1 k) b 2 f) b 3 x) b 4 y) b 5 0) (fun c => c = b) := by
    refine (((((Sm.st ?_ ?_).st ?_).st ?_).st ?_).st ?_).st ?_
    · exact Sm.rf
    all_goals rfl
  refine ⟨by simp, hQ _ hs ⟨h, ?_, ?_, ?_, ?_, ?_, ?_⟩⟩ <;> simp [gi_sI]
/-! The class' stations -/
def isSt (σ : ms_T) (a : Nat) : Prop := gs σ a = (7, 0) ∧ gr σ a 7 = some (a + 1) ∧ gr σ a 8 = some (a + 4) ∧ gr σ a 9 = some (a + 5) ∧ gr σ a 10 = some (a + 6) ∧ gs σ (a + 4) = (50, 3) ∧ gs σ (a + 5) = (62, 3) ∧ gs σ (a + 6) = (50, 4) ∧ (∀ k : Int, 0 ≤ k → k < 3 → gr σ (a + 5) k.toNat = some (a + 7 + 3 * k.toNat)) ∧ isIv σ (a + 1) ∧ ∀ k : Int, 0 ≤ k → k < 3 → isIv σ (a + 7 + 3 * k.toNat)
theorem isSt.sm {σ τ : ms_T} {a : Nat} {P : Nat → Prop} (h : isSt σ a) (hs : Sm σ τ P) : isSt τ a := by
  obtain ⟨h1, h2, h3, h4, h5, h6, h7, h8, h9, h10, h11⟩ := h
  refine ⟨by rw [hs.s]; exact h1, by rw [hs.r]; exact h2, by rw [hs.r]; exact h3, by rw [hs.r]; exact h4, by rw [hs.r]; exact h5, by rw [hs.s]; exact h6, by rw [hs.s]; exact h7, by rw [hs.s]; exact h8, fun k a1 a2 => by rw [hs.r]; exact h9 k a1 a2, h10.sm hs, fun k a1 a2 => (h11 k a1 a2).sm hs⟩
def StS (σ : ms_T) (a : Nat) (i : Int) (s : St) : Prop := gi σ a 0 = i ∧ gi σ a 1 = sc s 0 ∧ gi σ a 2 = sc s 1 ∧ gi σ a 3 = sc s 2 ∧ gi σ a 4 = sc s 3 ∧ gi σ a 5 = sc s 4 ∧ gi σ a 6 = sc s 5
def StC (σ : ms_T) (a : Nat) (i : Int) (s : St) : Prop := isSt σ a ∧ StS σ a i s ∧ IvC σ (a + 1) (cov s) ∧ (∀ k : Int, 0 ≤ k → k < 3 → gi σ (a + 4) k.toNat = of_ s k ∧ IvC σ (a + 7 + 3 * k.toNat) (ol s k)) ∧ ∀ w : Int, 0 ≤ w → w < 4 → gi σ (a + 6) w.toNat = ct s w
def inSt (a c : Nat) : Prop := a ≤ c ∧ c ≤ a + 15
theorem StC.sm {σ τ : ms_T} {a : Nat} {i : Int} {s : St} {P : Nat → Prop} (h : StC σ a i s) (hs : Sm σ τ P) (hP : ∀ c, inSt a c → ¬ P c) : StC τ a i s := by
  obtain ⟨h1, h2, h3, h4, h5⟩ := h
  refine ⟨h1.sm hs, ?_, h3.sm hs (fun c hc => hP c (by unfold inSt inIv at *; omega)), fun k a1 a2 => ⟨?_, (h4 k a1 a2).2.sm hs (fun c hc => hP c (by unfold inSt inIv at *; omega))⟩, fun w a1 a2 => ?_⟩
  · unfold StS at *
    simp only [hs.i (hP a ⟨by omega, by omega⟩)]
    exact h2
  · rw [hs.i (hP (a + 4) ⟨by omega, by omega⟩)]; exact (h4 k a1 a2).1
  · rw [hs.i (hP (a + 6) ⟨by omega, by omega⟩)]; exact h5 w a1 a2
theorem tmod_bd {x p : Int} (hx : 0 ≤ x) (hp : 1 ≤ p) : 0 ≤ x.tmod p ∧ x.tmod p < p := ⟨Int.tmod_nonneg _ hx, Int.tmod_lt_of_pos _ (by omega)⟩
theorem X7_phase {a : Nat} {σ : ms_T} {t p o : Int} {Q : mq_T} (hs : gs σ a = (7, 0)) (h1 : gi σ a 1 = p) (h2 : gi σ a 2 = o) (hp : 1 ≤ p) (h3 : 0 ≤ t - o) (h4 : t - o ≤ 2000000) (hQ : Q (some (vI ((t - o).tmod p))) σ) : Ca n_X7_phaseAt [vR (some a), vI t] σ Q := by
  refine vc_X7_phaseAt _ _ _ _ ?_
  rw [h1, h2, wr_i (by omega)]
  exact ⟨hs, fun z => by omega, fun _ => ⟨hs, hs, by omega, hQ⟩⟩
theorem X7_sees {a : Nat} {σ : ms_T} {i t : Int} {s : St} {F : Fl} {Q : mq_T} (h : StC σ a i s) (hw : SW F s) (ht : 0 ≤ t) (ht2 : t ≤ 2000000) (h1 : seesP s t → Q (some (vI 1)) σ) (h0 : ¬ seesP s t → Q (some (vI 0)) σ) : Ca n_X7_sees [vR (some a), vI t] σ Q := by
  obtain ⟨⟨s0, -⟩, ⟨e0, e1, e2, e3, e4, e5, e6⟩, -⟩ := h
  have hw := hw.1
  refine vc_X7_sees _ _ _ _ ?_
  rw [e2]
  unfold seesP at h0 h1
  refine ⟨s0, fun e => ⟨by simp, h0 (by omega)⟩, fun e => ⟨s0, X7_phase s0 e1 e2 hw.1.1 (by omega) (by omega) ⟨_, rfl, ?_⟩⟩⟩
  rw [e3]
  exact ⟨s0, fun c => ⟨by simp, h0 (by omega)⟩, fun c => ⟨by simp, h1 (by omega)⟩⟩
def fstS (s : St) (t : Int) : Int := if t < sc s 1 then sc s 1 else if (t - sc s 1).tmod (sc s 0) < sc s 2 then t else t - (t - sc s 1).tmod (sc s 0) + sc s 0
theorem X7_firstSight {a : Nat} {σ : ms_T} {i t : Int} {s : St} {F : Fl} {Q : mq_T} (h : StC σ a i s) (hw : SW F s) (ht : 0 ≤ t) (ht2 : t ≤ 2000000) (hQ : Q (some (vI (fstS s t))) σ) : Ca n_X7_firstSight [vR (some a), vI t] σ Q := by
  obtain ⟨⟨s0, -⟩, ⟨e0, e1, e2, e3, e4, e5, e6⟩, -⟩ := h
  have hw := hw.1
  unfold fstS at hQ
  refine vc_X7_firstSight _ _ _ _ ?_
  rw [e2]
  refine ⟨s0, fun e => ⟨s0, X7_phase s0 e1 e2 hw.1.1 (by omega) (by omega) ⟨_, rfl, ?_⟩⟩, fun e => ⟨s0, ?_⟩⟩
  rw [e1, e3]
  refine ⟨s0, fun c => ⟨s0, ?_⟩, fun c => ?_⟩
  · have hb := tmod_bd (x := t - sc s 1) (p := sc s 0) (by omega) (by omega)
    rw [if_neg (by omega), if_neg (by omega)] at hQ
    rw [wr_i (x := t - (t - sc s 1).tmod (sc s 0)) (by omega), wr_i (by omega)]
    exact hQ
  · rw [if_neg (by omega), if_pos (by omega)] at hQ
    exact hQ
  · rw [if_pos (by omega)] at hQ
    exact hQ
theorem wl_i {x : Int} (h : -9223372036854775808 ≤ x ∧ x ≤ 9223372036854775807) : wl x = x := wl_id h.1 h.2
theorem hit_eq {n t : Int} (hn : 0 ≤ n) (hn2 : n ≤ 5) (ht : 0 ≤ t) (ht2 : t ≤ 2000000) : (((wl (((wl ((wl ((wl ((7919 : Int) * t)) + (wl ((613 : Int) * n)))) + (1 : Int))).tmod (65521 : Int)) * ((wl ((wl ((wl ((7919 : Int) * t)) + (wl ((613 : Int) * n)))) + (1 : Int))).tmod (65521 : Int)))).tmod (65521 : Int)).tmod (1000 : Int)) = ((hitX n t * hitX n t).tmod 65521).tmod 1000 := by
  rw [wl_i (x := 7919 * t) (by omega), wl_i (x := 613 * n) (by omega), wl_i (x := 7919 * t + 613 * n) (by omega), wl_i (x := 7919 * t + 613 * n + 1) (by omega)]
  have hb := tmod_bd (x := 7919 * t + 613 * n + 1) (p := 65521) (by omega) (by omega)
  unfold hitX
  have hm : (7919 * t + 613 * n + 1).tmod 65521 * (7919 * t + 613 * n + 1).tmod 65521 ≤ 65521 * 65521 := Int.mul_le_mul (by omega) (by omega) (by omega) (by omega)
  have hm2 : 0 ≤ (7919 * t + 613 * n + 1).tmod 65521 * (7919 * t + 613 * n + 1).tmod 65521 := Int.mul_nonneg hb.1 hb.1
  rw [wl_i (by omega)]
theorem cmp_ge {a b : Int} : 0 ≤ cmp3 a b ↔ ¬ a < b := by
  unfold cmp3
  split
  · next h => exact ⟨fun z => absurd z (by decide), fun z => absurd h z⟩
  · next h => exact ⟨fun _ => h, fun _ => by split <;> decide⟩
set_option maxHeartbeats 4000000 in
theorem X7_isHit {a : Nat} {σ : ms_T} {i t : Int} {s : St} {Q : mq_T} (h : StC σ a i s) (hi : 0 ≤ i) (hi2 : i ≤ 5) (ht : 0 ≤ t) (ht2 : t ≤ 2000000) (h1 : hitP s i t → Q (some (vI 1)) σ) (h0 : ¬ hitP s i t → Q (some (vI 0)) σ) : Ca n_X7_isHit [vR (some a), vI t] σ Q := by
  obtain ⟨⟨s0, -⟩, ⟨e0, e1, e2, e3, e4, e5, e6⟩, -⟩ := h
  refine vc_X7_isHit _ _ _ _ ?_
  rw [e0, e5, hit_eq hi hi2 ht ht2, cmp_ge]
  exact ⟨s0, by decide, by decide, by decide, s0, fun c => ⟨by simp, h0 c⟩, fun c => ⟨by simp, h1 (by unfold hitP; omega)⟩⟩
theorem X7_knows {a : Nat} {σ : ms_T} {i f : Int} {s : St} {Q : mq_T} (h : StC σ a i s) (h1 : knP s f → Q (some (vI 1)) σ) (h0 : ¬ knP s f → Q (some (vI 0)) σ) : Ca n_X7_knows [vR (some a), vI f] σ Q := by
  obtain ⟨⟨s0, -⟩, ⟨e0, e1, e2, e3, e4, e5, e6⟩, -⟩ := h
  refine vc_X7_knows _ _ _ _ ?_
  rw [e6]
  unfold knP at h0 h1
  exact ⟨s0, fun c => ⟨by simp, h0 c⟩, fun c => ⟨by simp, h1 (by omega)⟩⟩
set_option maxHeartbeats 4000000 in
theorem X7_countOpen {a : Nat} {σ : ms_T} {i : Int} {s : St} {Q : mq_T} (h : StC σ a i s) (hQ : Q (some (vI (opn s))) σ) : Ca n_X7_countOpen [vR (some a)] σ Q := by
  obtain ⟨⟨s0, r7, r8, r9, r10, s4, s5, s6, r5, -⟩, -, -, hk, -⟩ := h
  have bd := fun i a1 a2 => smI_bd (f := fun k => if of_ s k = -1 then (0 : Int) else 1) (n := 3) (lo := 0) (hi := 1) (fun i _ _ => by split <;> omega) (by omega) (by omega) i a1 a2
  have key : ∀ (k : Nat) (i x : Int), 0 ≤ i → i ≤ 3 → 3 - i < k → x = smI (fun k => if of_ s k = -1 then 0 else 1) i → At n_X7_countOpen 4 [some (vR (some a)), some (vI x), some (vI i)] [] σ Q := by
    intro k
    induction k with
    | zero => intro i x h0 h1 h2; omega
    | succ k ih =>
      intro i x h0 h1 h2 hx
      have b1 := bd i h0 h1
      have hss := smI_s (f := fun k => if of_ s k = -1 then (0 : Int) else 1) h0
      rw [← hx] at b1 hss
      refine vc_X7_countOpen_4 _ _ _ _ _ ?_
      simp only [s0, r8, s4, isS_some, true_and]
      refine ⟨fun e => ?_, fun e => ?_⟩
      · have ei : i = 3 := by omega
        rw [hx, ei]; exact hQ
      · rw [(hk i h0 (by omega)).1, wr_i (x := i + 1) (by omega), wr_i (x := x + 1) (by omega)]
        refine ⟨h0, by omega, fun e2 => ?_, fun e2 => ?_⟩
        · exact ih _ _ (by omega) (by omega) (by omega) (by rw [hss]; simp only [if_pos e2]; omega)
        · exact ih _ _ (by omega) (by omega) (by omega) (by rw [hss]; simp only [if_neg e2])
  exact vc_X7_countOpen _ _ _ (key 4 0 0 (by omega) (by omega) (by omega) rfl)
set_option maxHeartbeats 4000000 in
theorem X7_placeOf {a : Nat} {σ : ms_T} {i f : Int} {s : St} {Q : mq_T} (h : StC σ a i s) (hQ : Q (some (vI (opl s f))) σ) : Ca n_X7_placeOf [vR (some a), vI f] σ Q := by
  obtain ⟨⟨s0, r7, r8, r9, r10, s4, s5, s6, r5, -⟩, -, -, hk, -⟩ := h
  unfold opl at hQ
  refine vc_X7_placeOf _ _ _ _ (vc_X7_placeOf_2 _ _ _ _ _ ?_)
  simp only [s0, r8, s4, isS_some, true_and]
  rw [(hk 0 (by omega) (by omega)).1]
  refine ⟨fun e => by omega, fun e => ⟨by omega, by omega, fun c0 => ?_, fun c0 => ?_⟩⟩
  · rw [if_neg c0] at hQ
    rw [wr_i (x := 0 + 1) (by omega)]
    refine vc_X7_placeOf_2 _ _ _ _ _ ?_
    simp only [s0, r8, s4, isS_some, true_and]
    rw [show (0 + 1 : Int) = 1 by omega, (hk 1 (by omega) (by omega)).1]
    refine ⟨fun e => by omega, fun e => ⟨by omega, by omega, fun c1 => ?_, fun c1 => ?_⟩⟩
    · rw [if_neg c1] at hQ
      rw [wr_i (x := 1 + 1) (by omega)]
      refine vc_X7_placeOf_2 _ _ _ _ _ ?_
      simp only [s0, r8, s4, isS_some, true_and]
      rw [show (1 + 1 : Int) = 2 by omega, (hk 2 (by omega) (by omega)).1]
      refine ⟨fun e => by omega, fun e => ⟨by omega, by omega, fun c2 => ?_, fun c2 => ?_⟩⟩
      · rw [if_neg c2] at hQ
        rw [wr_i (x := 2 + 1) (by omega)]
        refine vc_X7_placeOf_2 _ _ _ _ _ ?_
        simp only [s0, r8, s4, isS_some, true_and]
        exact ⟨fun e => hQ, fun e => by omega⟩
      · rw [if_pos (by omega)] at hQ; exact hQ
    · rw [if_pos (by omega)] at hQ; exact hQ
  · rw [if_pos (by omega)] at hQ; exact hQ
set_option maxHeartbeats 4000000 in
theorem X7_bytesOf {a : Nat} {σ : ms_T} {i f : Int} {s : St} {Q : mq_T} (h : StC σ a i s) (h1 : 0 ≤ opl s f → ¬ f = -1 → Q (some (vR (some (a + 7 + 3 * (opl s f).toNat)))) σ) (h0 : (opl s f < 0 ∨ f = -1) → Q (some (vR none)) σ) : Ca n_X7_bytesOf [vR (some a), vI f] σ Q := by
  have h' := h
  obtain ⟨⟨s0, r7, r8, r9, r10, s4, s5, s6, r5, -⟩, -, -, hk, -⟩ := h
  have hb := opl_bd s f
  refine vc_X7_bytesOf _ _ _ _ ⟨s0, X7_placeOf h' ⟨_, rfl, fun e => h0 (Or.inr e), fun e => ⟨fun c => ?_, fun c => h0 (Or.inl (by omega))⟩⟩⟩
  simp only [s0, r9, s5, isS_some, true_and]
  rw [r5 _ c hb.2.1]
  exact ⟨by decide, by decide, c, by omega, h1 c e⟩
