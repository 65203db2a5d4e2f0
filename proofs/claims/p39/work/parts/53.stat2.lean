theorem StC.olU {σ τ : ms_T} {a : Nat} {i p : Int} {s : St} {L : Iv} (h : StC σ a i s) (h0 : 0 ≤ p) (h3 : p < 3) (hs : Sm σ τ (inIv (a + 7 + 3 * p.toNat))) (hL : IvC τ (a + 7 + 3 * p.toNat) L) : StC τ a i (sc s, cov s, of_ s, up (ol s) p L, ct s) := by
  obtain ⟨h1, h2, h3', h4, h5⟩ := h
  refine ⟨h1.sm hs, ?_, h3'.sm hs (fun c hc => by unfold inIv at *; omega), fun k a1 a2 => ⟨?_, ?_⟩, fun w a1 a2 => ?_⟩
  · unfold StS at *
    simp only [hs.i (show ¬ inIv (a + 7 + 3 * p.toNat) a by unfold inIv; omega)]
    exact h2
  · rw [hs.i (by unfold inIv; omega)]; exact (h4 k a1 a2).1
  · show IvC τ _ (up (ol s) p L k)
    by_cases e : k = p
    · rw [e, up_eq]; exact hL
    · rw [up_ne e]; exact (h4 k a1 a2).2.sm hs (fun c hc => by unfold inIv at *; omega)
  · rw [hs.i (by unfold inIv; omega)]; exact h5 w a1 a2
theorem StC.ofU {σ : ms_T} {a : Nat} {i p f : Int} {s : St} (h : StC σ a i s) (h0 : 0 ≤ p) (h3 : p < 3) : StC (sI σ (a + 4) p.toNat f) a i (sc s, cov s, up (of_ s) p f, ol s, ct s) := by
  obtain ⟨h1, h2, h3', h4, h5⟩ := h
  have hs : Sm σ (sI σ (a + 4) p.toNat f) (fun c => c = a + 4) := Sm.rf.st rfl
  refine ⟨h1.sm hs, ?_, h3'.sm hs (fun c hc => by unfold inIv at *; omega), fun k a1 a2 => ⟨?_, (h4 k a1 a2).2.sm hs (fun c hc => by unfold inIv at *; omega)⟩, fun w a1 a2 => ?_⟩
  · unfold StS at *
    simp only [hs.i (show ¬ a = a + 4 by omega)]
    exact h2
  · show gi _ _ _ = up (of_ s) p f k
    by_cases e : k = p
    · rw [e, up_eq, gi_eq]
    · rw [up_ne e, gi_nk (by omega)]; exact (h4 k a1 a2).1
  · rw [gi_ne (by omega)]; exact h5 w a1 a2
theorem StC.ctU {σ : ms_T} {a : Nat} {i p f : Int} {s : St} (h : StC σ a i s) (h0 : 0 ≤ p) : StC (sI σ (a + 6) p.toNat f) a i (ctU s p f) := by
  obtain ⟨h1, h2, h3', h4, h5⟩ := h
  have hs : Sm σ (sI σ (a + 6) p.toNat f) (fun c => c = a + 6) := Sm.rf.st rfl
  refine ⟨h1.sm hs, ?_, h3'.sm hs (fun c hc => by unfold inIv at *; omega), fun k a1 a2 => ⟨?_, (h4 k a1 a2).2.sm hs (fun c hc => by unfold inIv at *; omega)⟩, fun w a1 a2 => ?_⟩
  · unfold StS at *
    simp only [hs.i (show ¬ a = a + 6 by omega)]
    exact h2
  · rw [gi_ne (by omega)]; exact (h4 k a1 a2).1
  · show gi _ _ _ = up (ct s) p f w
    by_cases e : w = p
    · rw [e, up_eq, gi_eq]
    · rw [up_ne e, gi_nk (by omega)]; exact h5 w a1 a2
theorem StC.covU {σ τ : ms_T} {a : Nat} {i : Int} {s : St} {L : Iv} (h : StC σ a i s) (hs : Sm σ τ (inIv (a + 1))) (hL : IvC τ (a + 1) L) : StC τ a i (sc s, L, of_ s, ol s, ct s) := by
  obtain ⟨h1, h2, h3', h4, h5⟩ := h
  refine ⟨h1.sm hs, ?_, hL, fun k a1 a2 => ⟨?_, (h4 k a1 a2).2.sm hs (fun c hc => by unfold inIv at *; omega)⟩, fun w a1 a2 => ?_⟩
  · unfold StS at *
    simp only [hs.i (show ¬ inIv (a + 1) a by unfold inIv; omega)]
    exact h2
  · rw [hs.i (by unfold inIv; omega)]; exact (h4 k a1 a2).1
  · rw [hs.i (by unfold inIv; omega)]; exact h5 w a1 a2
theorem StC.scU {σ : ms_T} {a k : Nat} {i w v : Int} {s : St} (h : StC σ a i s) (hw : 0 ≤ w) (hk : k = w.toNat + 1) : StC (sI σ a k v) a i (up (sc s) w v, cov s, of_ s, ol s, ct s) := by
  obtain ⟨h1, h2, h3', h4, h5⟩ := h
  have hs : Sm σ (sI σ a k v) (fun c => c = a) := Sm.rf.st rfl
  refine ⟨h1.sm hs, ?_, h3'.sm hs (fun c hc => by unfold inIv at *; omega), fun j a1 a2 => ⟨?_, (h4 j a1 a2).2.sm hs (fun c hc => by unfold inIv at *; omega)⟩, fun w a1 a2 => ?_⟩
  · obtain ⟨e0, e1, e2, e3, e4, e5, e6⟩ := h2
    have g : ∀ (j : Nat) (x : Int), 0 ≤ x → j = x.toNat + 1 → gi σ a j = sc s x → gi (sI σ a k v) a j = up (sc s) w v x := by
      intro j x hx hj he
      by_cases e : x = w
      · rw [e, up_eq, gi_eqk rfl (by omega)]
      · rw [up_ne e, gi_nk (by omega)]; exact he
    exact ⟨by rw [gi_nk (by omega)]; exact e0, g 1 0 (by omega) rfl e1, g 2 1 (by omega) rfl e2, g 3 2 (by omega) rfl e3, g 4 3 (by omega) rfl e4, g 5 4 (by omega) rfl e5, g 6 5 (by omega) rfl e6⟩
  · rw [gi_ne (by omega)]; exact (h4 j a1 a2).1
  · rw [gi_ne (by omega)]; exact h5 w a1 a2
def opnS (s : St) (f : Int) : St := (sc s, cov s, up (of_ s) (opl s (-1)) f, up (ol s) (opl s (-1)) [], ct s)
def clsS (s : St) (f : Int) : St := (sc s, cov s, up (of_ s) (opl s f) (-1), ol s, ct s)
set_option maxHeartbeats 4000000 in
theorem X7_beginFile {a : Nat} {σ : ms_T} {i f : Int} {s : St} {Q : mq_T} (h : StC σ a i s) (h1 : 0 ≤ opl s (-1) → ∀ τ, Sm σ τ (inSt a) → StC τ a i (opnS s f) → Q (some (vI 1)) τ) (h0 : opl s (-1) < 0 → Q (some (vI 0)) σ) : Ca n_X7_beginFile [vR (some a), vI f] σ Q := by
  have h' := h
  obtain ⟨⟨s0, r7, r8, r9, r10, s4, s5, s6, r5, -, iv⟩, -, -, hk, -⟩ := h
  have hb := opl_bd s (-1)
  refine vc_X7_beginFile _ _ _ _ ⟨s0, X7_placeOf h' ⟨_, rfl, fun c => ?_, fun c => ⟨by simp, h0 (by omega)⟩⟩⟩
  simp only [gs_sI, gr_sI, s0, r8, r9, s4, s5, r5 _ c hb.2.1, (iv _ c hb.2.1).1, isS_some, true_and]
  have hu := h'.ofU (p := opl s (-1)) (f := f) c hb.2.1
  refine ⟨c, by omega, by decide, by decide, c, by omega, X2_clear (hu.1.2.2.2.2.2.2.2.2.2.2 _ c hb.2.1) (fun τ hs hL => ⟨rfl, by simp, h1 c τ ?_ ?_⟩)⟩
  · refine Sm.tr (Sm.rf.st ⟨by omega, by omega⟩) (hs.wk (fun c' hc => by unfold inIv at hc; unfold inSt; omega))
  · exact hu.olU c hb.2.1 hs hL
set_option maxHeartbeats 4000000 in
theorem X7_endFile {a : Nat} {σ : ms_T} {i f : Int} {s : St} {Q : mq_T} (h : StC σ a i s) (h0 : 0 ≤ opl s f) (h1 : ∀ τ, Sm σ τ (fun c => c = a + 4) → StC τ a i (clsS s f) → Q none τ) : Ca n_X7_endFile [vR (some a), vI f] σ Q := by
  have h' := h
  obtain ⟨⟨s0, r7, r8, r9, r10, s4, s5, s6, r5, -, iv⟩, -, -, hk, -⟩ := h
  have hb := opl_bd s f
  refine vc_X7_endFile _ _ _ _ ⟨s0, X7_placeOf h' ⟨_, rfl, fun c => by omega, fun c => ?_⟩⟩
  simp only [gs_sI, gr_sI, s0, r8, s4, isS_some, true_and]
  exact ⟨h0, by omega, h1 _ (Sm.rf.st rfl) (h'.ofU h0 hb.2.1)⟩
set_option maxHeartbeats 8000000 in
theorem X7_takeBytes {a b : Nat} {σ : ms_T} {i rc : Int} {s : St} {r : Fr} {F : Fl} {Q : mq_T} (h : StC σ a i s) (hw : SW F s) (hr : FrC σ b r rc) (hd : ¬ inSt a b) (hx : 0 ≤ r.2.2.1) (hxy : r.2.2.1 ≤ r.2.2.2) (hy : r.2.2.2 ≤ 4000000) (hQ : ∀ τ, Sm σ τ (inSt a) → StC τ a i (tkB s r.2.1 r.2.2.1 r.2.2.2) → Q none τ) : Ca n_X7_takeBytes [vR (some a), vR (some b)] σ Q := by
  obtain ⟨k, f, x, y⟩ := r
  simp only [] at hx hxy hy hQ
  have hr' := hr
  obtain ⟨t0, t1, t2, t3, t4, t5, t6⟩ := hr
  simp only [] at t2 t3 t4 t5
  have h' := h
  obtain ⟨⟨s0, r7, r8, r9, r10, s4, s5, s6, r5, -, iv⟩, -, -, hk, hct⟩ := h
  have hb := opl_bd s f
  refine vc_X7_takeBytes _ _ _ _ ?_
  simp only [s0, t0, t3, isS_some, true_and]
  refine X7_bytesOf h' (fun c1 c2 => ⟨_, rfl, fun _ => ?_, fun z => by cases z⟩) (fun c => ⟨_, rfl, fun z => absurd rfl z, fun _ => ?_⟩)
  · have iv0 := iv _ c1 hb.2.1
    simp only [s0, t0, t4, t5, iv0.1, isS_some, true_and]
    have hiv := (hk _ c1 hb.2.1).2
    have hok := (hw.2.2.1 _ c1 hb.2.1).2.2.1
    refine X2_overlap hiv hok hx (by omega) (by omega) (by omega) ⟨_, rfl, ?_⟩
    simp only [gs_sI, gr_sI, s0, r10, s6, t0, isS_some, true_and]
    rw [gi_ne (show ¬ b = a + 6 by unfold inSt at hd; omega), gi_ne (show ¬ b = a + 6 by unfold inSt at hd; omega), t4, t5, hct 3 (by omega) (by omega)]
    have h2 := h'.ctU (p := 3) (f := wr (ct s 3 + overL (ol s (opl s f)) x y)) (by omega)
    have hiv2 : IvC (sI σ (a + 6) (3 : Int).toNat (wr (ct s 3 + overL (ol s (opl s f)) x y))) (a + 7 + 3 * (opl s f).toNat) (ol s (opl s f)) := (h2.2.2.2.1 _ c1 hb.2.1).2
    refine ⟨by omega, by omega, by omega, by omega, iv0.1, X2_add hiv2 hok hx hxy hy (fun τ hs hL => ⟨_, rfl, ?_⟩)⟩
    have h3 := h2.olU c1 hb.2.1 hs hL
    have hs1 : Sm σ τ (inSt a) := Sm.tr (Sm.rf.st ⟨by omega, by omega⟩) (hs.wk (fun c' hc => by unfold inIv at hc; unfold inSt; omega))
    have hr3 := hr'.sm hs1 hd
    obtain ⟨u0, u1, u2, u3, u4, u5, u6⟩ := hr3
    simp only [] at u2 u3 u4 u5
    obtain ⟨⟨v0, -, -, -, v10, -, -, v6, -⟩, -, -, -, hct3⟩ := h3
    have hc2 : gi τ (a + 6) (2 : Int).toNat = ct s 2 := by
      rw [hct3 2 (by omega) (by omega)]
      show up (ct s) 3 (wr (ct s 3 + overL (ol s (opl s f)) x y)) 2 = _
      exact up_ne (by decide)
    have hov := over_nn hok hx y
    have htk : tkB s f x y = (sc s, cov s, of_ s, up (ol s) (opl s f) (addL (ol s (opl s f)) x y), up (up (ct s) 3 (wr (ct s 3 + overL (ol s (opl s f)) x y))) 2 (if addN (ol s (opl s f)) x y ≤ 12 then wr (ct s 2 + (y - x + 1 - overL (ol s (opl s f)) x y)) else ct s 2)) := by
      unfold tkB
      rw [if_neg (by omega)]
    rw [htk] at hQ
    by_cases e : addN (ol s (opl s f)) x y ≤ 12
    · rw [if_pos e] at hQ ⊢
      refine ⟨fun z => absurd z (by decide), fun _ => ?_⟩
      simp only [v0, v10, v6, u0, u4, u5, hc2, isS_some, true_and]
      rw [wr_i (x := y - x) (by omega), wr_i (x := y - x + 1) (by omega), wr_i (x := y - x + 1 - overL (ol s (opl s f)) x y) (by omega)]
      refine ⟨by omega, by omega, by omega, by omega, hQ _ (hs1.st ⟨by omega, by omega⟩) ?_⟩
      exact (h2.olU c1 hb.2.1 hs hL).ctU (p := 2) (by omega)
    · rw [if_neg e] at hQ ⊢
      refine ⟨fun _ => hQ τ hs1 ?_, fun z => absurd rfl z⟩
      have h4 := h2.olU c1 hb.2.1 hs hL
      obtain ⟨w1, w2, w3, w4, w5⟩ := h4
      refine ⟨w1, w2, w3, w4, fun w a1 a2 => ?_⟩
      rw [w5 w a1 a2]
      by_cases e2 : w = 2
      · rw [e2]
        show up (ct s) 3 (wr (ct s 3 + overL (ol s (opl s f)) x y)) 2 = up (up (ct s) 3 (wr (ct s 3 + overL (ol s (opl s f)) x y))) 2 (ct s 2) 2
        rw [up_eq]
        exact up_ne (by decide)
      · exact (up_ne (i := w) (k := 2) e2).symm
  · refine hQ σ Sm.rf ?_
    unfold tkB
    rw [if_pos c]
    exact h'
set_option maxHeartbeats 4000000 in
theorem X7_takeEntry {a b : Nat} {σ : ms_T} {i rc : Int} {s : St} {r : Fr} {F : Fl} {Q : mq_T} (h : StC σ a i s) (hw : SW F s) (hr : FrC σ b r rc) (hd : ¬ inSt a b) (hx : 0 ≤ r.2.2.1) (hxy : r.2.2.1 ≤ r.2.2.2) (hy : r.2.2.2 ≤ 4000000) (hQ : ∀ τ, Sm σ τ (inSt a) → StC τ a i (tkE s r.2.1 r.2.2.1 r.2.2.2) → Q none τ) : Ca n_X7_takeEntry [vR (some a), vR (some b)] σ Q := by
  obtain ⟨k, f, x, y⟩ := r
  simp only [] at hx hxy hy hQ
  have hr' := hr
  obtain ⟨t0, t1, t2, t3, t4, t5, t6⟩ := hr
  simp only [] at t2 t3 t4 t5
  have h' := h
  obtain ⟨⟨s0, r7, r8, r9, r10, s4, s5, s6, r5, iv1, iv⟩, ⟨e0, e1, e2, e3, e4, e5, e6⟩, hcv, hk, hct⟩ := h
  refine vc_X7_takeEntry _ _ _ _ ?_
  have hba : ¬ b = a := by unfold inSt at hd; omega
  simp only [gs_sI, gr_sI, s0, r7, iv1.1, t0, t3, e6, gi_ne hba, t4, t5, isS_some, true_and]
  refine ⟨fun c => ?_, fun c => ?_⟩
  · refine X2_add hcv hw.2.1 hx hxy hy (fun τ hs hL => ⟨_, rfl, hQ τ (hs.wk (fun c' hc => by unfold inIv at hc; unfold inSt; omega)) ?_⟩)
    unfold tkE
    rw [if_pos c]
    exact h'.covU hs hL
  · have h2 := h'.scU (k := 6) (w := 5) (v := bOr (sc s 5) (bShl 1 f)) (by omega) rfl
    refine X2_add h2.2.2.1 hw.2.1 hx hxy hy (fun τ hs hL => ⟨_, rfl, hQ τ (Sm.tr (Sm.rf.st ⟨by omega, by omega⟩) (hs.wk (fun c' hc => by unfold inIv at hc; unfold inSt; omega))) ?_⟩)
    unfold tkE
    rw [if_neg c]
    exact h2.covU hs hL
