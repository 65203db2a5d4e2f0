def opA (i : Int) (s : St) (f : Int) : Int := if opl s f < 0 then -1 else sb i + 31 + 26 * opl s f
section M
variable {σ : ms_T} {m : Nat} {F : Fl} {S : Sa} {K : Int → Int} {n : Int} {T : Int → Int} {Q : mq_T}
theorem X9_openAt {i f : Int} {s : St} (hm : isM σ m) (hi : 0 ≤ i) (hi5 : i < 5) (hr : ∀ k, 0 ≤ k → k < 3 → ro σ m (sb i + 31 + 26 * k) = of_ s k) (hQ : Q (some (vI (opA i s f))) σ) : Ca n_X9_openAt [vR (some m), vI i, vI f] σ Q := by
  obtain ⟨s0, g0, g1, g2, g4, g5, g11, z1, z2, z3, z4, z5, z6⟩ := hm
  have step : ∀ (k x : Int) (o : Option mv_T), 0 ≤ k → k < 3 → (∀ o, At n_X9_openAt 5 [some (vR (some m)), some (vI i), some (vI f), some (vI (if of_ s k = f then sb i + 31 + 26 * k else x)), some (vI (k - 1)), o] [] σ Q) → At n_X9_openAt 5 [some (vR (some m)), some (vI i), some (vI f), some (vI x), some (vI k), o] [] σ Q := by
    intro k x o k0 k3 ha
    have hb : 202 ≤ sb i ∧ sb i ≤ 654 := by unfold sb; omega
    refine vc_X9_openAt_5 _ _ _ _ _ _ _ _ ⟨fun e => by omega, fun _ => X9_stationAt hi (by omega) ⟨_, rfl, ?_⟩⟩
    rw [wr_i (x := sb i + 31) (by omega), wr_i (x := 26 * k) (by omega), wr_i (x := sb i + 31 + 26 * k) (by omega), wr_i (x := k + -1) (by omega)]
    have e1 : gi σ (m + 1) (sb i + 31 + 26 * k).toNat = of_ s k := hr k k0 k3
    simp only [s0, g0, z1, e1, isS_some, true_and]
    refine ⟨by omega, by omega, fun e => ?_, fun e => ?_⟩
    · have := ha (some (vI (sb i + 31 + 26 * k)))
      rw [if_neg e] at this
      exact this
    · have := ha (some (vI (sb i + 31 + 26 * k)))
      rw [if_pos (Decidable.not_not.mp e)] at this
      exact this
  refine vc_X9_openAt _ _ _ _ _ (step 2 _ _ (by decide) (by decide) fun o => step 1 _ _ (by decide) (by decide) fun o => step 0 _ _ (by decide) (by decide) fun o => ?_)
  refine vc_X9_openAt_5 _ _ _ _ _ _ _ _ ⟨fun _ => ?_, fun e => absurd (show (0 - 1 : Int) < 0 by decide) e⟩
  have : opA i s f = if of_ s 0 = f then sb i + 31 + 26 * 0 else if of_ s 1 = f then sb i + 31 + 26 * 1 else if of_ s 2 = f then sb i + 31 + 26 * 2 else -1 := by
    unfold opA opl
    by_cases e0 : of_ s 0 = f
    · rw [if_pos e0, if_pos e0, if_neg (by decide)]
    · rw [if_neg e0, if_neg e0]
      by_cases e1 : of_ s 1 = f
      · rw [if_pos e1, if_pos e1, if_neg (by decide)]
      · rw [if_neg e1, if_neg e1]
        by_cases e2 : of_ s 2 = f
        · rw [if_pos e2, if_pos e2, if_neg (by decide)]
        · rw [if_neg e2, if_neg e2, if_pos (by decide)]
  rw [← this]
  exact hQ
theorem M_openAt {i f : Int} (h : MoC σ m F S K n T) (hw : StX F S K n T) (hi : stnP S i) (hQ : Q (some (vI (opA i (sts S i) f))) σ) : Ca n_X9_openAt [vR (some m), vI i, vI f] σ Q := by
  obtain ⟨a1, a2, a3, a4⟩ := h.sta hw hi
  exact X9_openAt h.1 a3 a4 (fun k k0 k3 => (a1.2.2.1 k k0 k3).1) hQ
/-- an open list -/
theorem MoC.opn {i k : Int} (h : MoC σ m F S K n T) (hw : StX F S K n T) (hi : stnP S i) (k0 : 0 ≤ k) (k3 : k < 3) (hk : 0 ≤ of_ (sts S i) k) : LsM σ m (sb i + 31 + 26 * k + 1) (ol (sts S i) k) ∧ ok (ol (sts S i) k) ∧ (0 ≤ sb i + 31 + 26 * k + 1 ∧ sb i + 31 + 26 * k + 1 + 25 ≤ 767) ∧ filQ F (of_ (sts S i) k) ∧ ∀ j, 0 ≤ j → j < ln (ol (sts S i) k) → le_ (ol (sts S i) k) j < F.2 (of_ (sts S i) k) 0 := by
  obtain ⟨a1, a2, a3, a4⟩ := h.sta hw hi
  obtain ⟨b1, b2, b3, b4, b5⟩ := a2.2.2.1 k k0 k3
  exact ⟨(a1.2.2.1 k k0 k3).2 hk, b3, by unfold sb; omega, ⟨hk, b2⟩, b4 hk⟩
theorem M_refusesOpen {i f : Int} (h : MoC σ m F S K n T) (hw : StX F S K n T) (h1 : stfP F S i f → 0 ≤ opl (sts S i) f → Q (some (vI 0)) σ) (h2 : stfP F S i f → opl (sts S i) f < 0 → Q (some (vI (-2))) σ) (h3 : ¬ stfP F S i f → Q (some (vI (-1))) σ) : Ca n_X9_refusesOpen [vR (some m), vI i, vI f] σ Q := by
  refine vc_X9_refusesOpen _ _ _ _ _ ⟨h.1.1, M_isStation h hw (fun c => ⟨1, rfl, fun z => absurd z (by decide), fun _ => ⟨h.1.1, M_isFile h hw (fun d => ⟨1, rfl, fun _ => ⟨h.1.1, M_openAt h hw c ⟨_, rfl, ?_⟩⟩, fun z => absurd (show ¬ (1 : Int) = 0 by decide) z⟩) (fun d => ⟨0, rfl, fun z => absurd rfl z, fun _ => h3 fun z => d z.2⟩)⟩⟩) (fun c => ⟨0, rfl, fun _ => h3 fun z => c z.1, fun z => absurd rfl z⟩)⟩
  have hb : 202 ≤ sb i := by have := c.1; unfold sb; omega
  unfold opA
  split
  · next e => exact ⟨fun z => absurd z (by decide), fun _ => h2 ⟨c, d⟩ e⟩
  · next e => exact ⟨fun _ => h1 ⟨c, d⟩ (by omega), fun z => by omega⟩
theorem M_receivedBytes {i f : Int} (h : MoC σ m F S K n T) (hw : StX F S K n T) (hQ : Q (some (vI (rBytes F S i f))) σ) : Ca n_X9_receivedBytes [vR (some m), vI i, vI f] σ Q := by
  unfold rBytes at hQ
  refine vc_X9_receivedBytes _ _ _ _ _ ⟨h.1.1, M_refusesOpen h hw (fun c d => ⟨0, rfl, fun _ => ⟨h.1.1, M_openAt h hw c.1 ⟨_, rfl, h.1.1, ?_⟩⟩, fun z => absurd (by decide) z⟩) (fun c d => ⟨_, rfl, fun z => absurd z (by decide), fun _ => ?_⟩) (fun c => ⟨_, rfl, fun z => absurd z (by decide), fun _ => ?_⟩)⟩
  · have b := opl_bd (sts S i) f
    have c0 := c.2.1
    obtain ⟨e1, e2, e3, e4, e5⟩ := h.opn hw c.1 d b.2.1 (by rw [b.2.2 d]; exact c0)
    have e6 := e2.1
    unfold opA
    rw [if_neg (by omega), wr_i (by omega)]
    rw [cif_p c, cif_n (by omega)] at hQ
    exact X9_sizeOf h.1 e1 e2 e3.1 (by omega) ⟨_, rfl, hQ⟩
  · rw [cif_p c, cif_p d] at hQ; exact hQ
  · rw [cif_n c] at hQ; exact hQ
theorem M_receivedByte {i f x : Int} (h : MoC σ m F S K n T) (hw : StX F S K n T) (hQ : Q (some (vI (rRByte F S i f x))) σ) : Ca n_X9_receivedByte [vR (some m), vI i, vI f, vI x] σ Q := by
  unfold rRByte lst at hQ
  refine vc_X9_receivedByte _ _ _ _ _ _ ⟨fun x0 => ⟨h.1.1, M_refusesOpen h hw (fun c d => ⟨0, rfl, fun _ => ⟨h.1.1, M_openAt h hw c.1 ⟨_, rfl, h.1.1, ?_⟩⟩, fun z => absurd (by decide) z⟩) (fun c d => ⟨_, rfl, fun z => absurd z (by decide), fun _ => ?_⟩) (fun c => ⟨_, rfl, fun z => absurd z (by decide), fun _ => ?_⟩)⟩, fun x0 => ⟨fun z => absurd z (by decide), fun _ => ?_⟩⟩
  · have b := opl_bd (sts S i) f
    have c0 := c.2.1
    obtain ⟨e1, e2, e3, e4, e5⟩ := h.opn hw c.1 d b.2.1 (by rw [b.2.2 d]; exact c0)
    unfold opA
    rw [if_neg (by omega), wr_i (by omega)]
    rw [cif_p ⟨c, x0⟩, cif_n (by omega)] at hQ
    refine X9_contains h.1 e1 e2 e3.1 e3.2 ⟨_, rfl, fun e => ?_, fun e => ⟨h.1.1, M_byteOf h hw c.2 ⟨_, rfl, ?_⟩⟩⟩
    · rw [cif_p e] at hQ; exact hQ
    · rw [cif_n e] at hQ; exact hQ
  · rw [cif_p ⟨c, x0⟩, cif_p d] at hQ; exact hQ
  · rw [cif_n fun z => c z.1] at hQ; exact hQ
  · rw [cif_n fun z => x0 z.2] at hQ; exact hQ
theorem MoC.hl {τ : ms_T} (h : MoC σ m F S K n T) (hw : StX F S K n T) (hs : Sm σ τ (inH m)) (h6 : gi τ m 6 = n) : Sm σ τ (inMo m) ∧ MoC τ m F S K n T := by
  refine ⟨hs.wk fun c hc => by unfold inH at hc; unfold inMo; omega, h.1.sm hs, h.2.1.eqv hw.1 hw.2.1 (fun j _ _ => ro_sm hs (by unfold inH; omega) j), h6, fun i a b => ?_⟩
  rw [hs.i (by unfold inH; omega)]
  exact h.2.2.2 i a b
theorem X9_isComplete {i k : Int} (h : MoC σ m F S K n T) (hw : StX F S K n T) (hi : stnP S i) (k0 : 0 ≤ k) (k3 : k < 3) (hk : 0 ≤ of_ (sts S i) k) (h1 : sizeL (ol (sts S i) k) = F.2 (of_ (sts S i) k) 0 → Q (some (vI 1)) σ) (h0 : ¬ sizeL (ol (sts S i) k) = F.2 (of_ (sts S i) k) 0 → Q (some (vI 0)) σ) : Ca n_X9_isComplete [vR (some m), vI (sb i + 31 + 26 * k)] σ Q := by
  obtain ⟨e1, e2, e3, e4, e5⟩ := h.opn hw hi k0 k3 hk
  obtain ⟨a1, a2, a3, a4⟩ := h.sta hw hi
  obtain ⟨s0, g0, g1, g2, g4, g5, g11, z1, z2, z3, z4, z5, z6⟩ := h.1
  have e6 := e2.1
  have := hw.1.2.1
  have q2 := e4.2
  have e7 : gi σ (m + 1) (sb i + 31 + 26 * k).toNat = of_ (sts S i) k := (a1.2.2.1 k k0 k3).1
  have hb : 202 ≤ sb i ∧ sb i ≤ 654 := by unfold sb; omega
  refine vc_X9_isComplete _ _ _ _ ⟨s0, ?_⟩
  rw [wr_i (by omega)]
  refine X9_sizeOf h.1 e1 e2 e3.1 (by omega) ⟨_, rfl, s0, ?_⟩
  simp only [s0, g0, z1, e7, isS_some, true_and]
  refine ⟨by omega, by omega, X9_file h.1 e4.1 (by omega) (by decide) (by decide) ⟨_, rfl, ?_⟩⟩
  rw [h.2.1.1.2 _ e4.1 e4.2 0 (by decide) (by decide)]
  exact ⟨fun z => ⟨(by simp), h0 z⟩, fun z => ⟨(by simp), h1 (Decidable.not_not.mp z)⟩⟩
theorem M_completeFiles {i : Int} (h : MoC σ m F S K n T) (hw : StX F S K n T) (hQ : Q (some (vI (rComp F S i))) σ) : Ca n_X9_completeFiles [vR (some m), vI i] σ Q := by
  unfold rComp at hQ
  refine vc_X9_completeFiles _ _ _ _ ⟨h.1.1, M_isStation h hw (fun c => ⟨1, rfl, fun _ => ?_, fun z => absurd (show ¬ (1 : Int) = 0 by decide) z⟩) (fun c => ⟨0, rfl, fun z => absurd rfl z, fun _ => ?_⟩)⟩
  · obtain ⟨a1, a2, a3, a4⟩ := h.sta hw c
    rw [cif_p c] at hQ
    obtain ⟨s0, g0, g1, g2, g4, g5, g11, z1, z2, z3, z4, z5, z6⟩ := h.1
    have hb : 202 ≤ sb i ∧ sb i ≤ 654 := by unfold sb; omega
    have bd := fun j a1 a2 => smI_bd (f := comF F S i) (n := 3) (lo := 0) (hi := 1) (fun j _ _ => by
      unfold comF
      by_cases z : 0 ≤ of_ (sts S i) j ∧ sizeL (ol (sts S i) j) = F.2 (of_ (sts S i) j) 0
      · rw [cif_p z]; omega
      · rw [cif_n z]; omega) (by omega) (by omega) j a1 a2
    have key : ∀ (k : Nat) (j x : Int) (o : Option mv_T), 0 ≤ j → j ≤ 3 → 3 - j < k → x = smI (comF F S i) j → At n_X9_completeFiles 14 [some (vR (some m)), some (vI i), some (vI x), some (vI j), o] [] σ Q := by
      intro k
      induction k with
      | zero => intro j x o h0 h1 h2; omega
      | succ k ih =>
        intro j x o h0 h1 h2 hx
        have b1 := bd j h0 h1
        have hss := smI_s (f := comF F S i) h0
        rw [← hx] at b1 hss
        refine vc_X9_completeFiles_14 _ _ _ _ _ _ _ ⟨fun e => ?_, fun e => X9_stationAt a3 (by omega) ⟨_, rfl, ?_⟩⟩
        · rw [hx, show j = 3 by omega]; exact hQ
        · have e1 : gi σ (m + 1) (sb i + 31 + 26 * j).toNat = of_ (sts S i) j := (a1.2.2.1 j h0 (by omega)).1
          rw [wr_i (x := sb i + 31) (by omega), wr_i (x := 26 * j) (by omega), wr_i (x := sb i + 31 + 26 * j) (by omega), wr_i (x := j + 1) (by omega), wr_i (x := x + 0) (by omega), wr_i (x := x + 1) (by omega)]
          simp only [s0, g0, z1, e1, isS_some, true_and]
          refine ⟨by omega, by omega, fun e2 => ih _ _ _ (by omega) (by omega) (by omega) ?_, fun e2 => ?_⟩
          · have : comF F S i j = 0 := by unfold comF; exact cif_n fun z => absurd z.1 (by omega)
            omega
          · refine X9_isComplete h hw c h0 (by omega) (by omega) (fun c2 => ⟨1, rfl, fun z => absurd z (by decide), fun _ => ih _ _ _ (by omega) (by omega) (by omega) ?_⟩) (fun c2 => ⟨0, rfl, fun _ => ih _ _ _ (by omega) (by omega) (by omega) ?_, fun z => absurd rfl z⟩)
            · have : comF F S i j = 1 := by unfold comF; exact cif_p ⟨by omega, c2⟩
              omega
            · have : comF F S i j = 0 := by unfold comF; exact cif_n fun z => c2 z.2
              omega
    exact key 4 0 0 _ (by omega) (by omega) (by omega) rfl
  · rw [cif_n c] at hQ; exact hQ
theorem M_queueLength (h : MoC σ m F S K n T) (hQ : Q (some (vI (ql (que S)))) σ) : Ca n_X9_queueLength [vR (some m)] σ Q := by
  obtain ⟨s0, g0, g1, g2, g4, g5, g11, z1, z2, z3, z4, z5, z6⟩ := h.1
  have e2 : gi σ (m + 1) (3 : Int).toNat = ql (que S) := h.2.1.2.1.2.1.1
  refine vc_X9_queueLength _ _ _ ?_
  simp only [s0, g0, z1, e2, isS_some, true_and]
  exact ⟨by decide, by decide, hQ⟩
theorem M_time (h : MoC σ m F S K n T) (hQ : Q (some (vI (now S))) σ) : Ca n_X9_time [vR (some m)] σ Q := by
  obtain ⟨s0, g0, g1, g2, g4, g5, g11, z1, z2, z3, z4, z5, z6⟩ := h.1
  have e2 : gi σ (m + 1) (0 : Int).toNat = now S := h.2.1.2.1.1.1
  refine vc_X9_time _ _ _ ?_
  simp only [s0, g0, z1, e2, isS_some, true_and]
  exact ⟨by decide, by decide, hQ⟩
theorem M_lastFrame {w : Int} (h : MoC σ m F S K n T) (hQ : Q (some (vI (rLast K w))) σ) : Ca n_X9_lastFrame [vR (some m), vI w] σ Q := by
  obtain ⟨s0, g0, g1, g2, g4, g5, g11, z1, z2, z3, z4, z5, z6⟩ := h.1
  have e6 : gi σ (m + 1) (6 : Int).toNat = K 0 := h.2.1.2.2.2 0 (by decide) (by decide)
  unfold rLast at hQ
  refine vc_X9_lastFrame _ _ _ _ (X9_in (fun d => ⟨1, rfl, fun _ => ?_, fun z => absurd (show ¬ (1 : Int) = 0 by decide) z⟩) (fun d => ⟨0, rfl, fun z => absurd rfl z, fun _ => ?_⟩))
  · rw [cif_p d] at hQ
    have yes : (K 0 < 0 ∨ K 0 = 0 ∧ 2 ≤ w ∧ w ≤ 3) → At n_X9_lastFrame 45 [some (vR (some m)), some (vI w), none] [vI (1 : Int)] σ Q := fun z => by
      refine vc_X9_lastFrame_45 _ _ _ _ _ ⟨fun z => absurd z (by decide), fun _ => ?_⟩
      rw [cif_p z] at hQ; exact hQ
    have no : ¬ (K 0 < 0 ∨ K 0 = 0 ∧ 2 ≤ w ∧ w ≤ 3) → At n_X9_lastFrame 45 [some (vR (some m)), some (vI w), none] [vI (0 : Int)] σ Q := fun z => by
      refine vc_X9_lastFrame_45 _ _ _ _ _ ⟨fun _ => ?_, fun z => absurd rfl z⟩
      rw [wr_i (x := 6 + w) (by omega)]
      have e7 : gi σ (m + 1) (6 + w).toNat = K w := h.2.1.2.2.2 w d.1 (by omega)
      simp only [s0, g0, z1, e7, isS_some, true_and]
      rw [cif_n z] at hQ
      exact ⟨by omega, by omega, hQ⟩
    simp only [s0, g0, z1, e6, isS_some, true_and]
    exact ⟨by decide, by decide, fun c => yes (by omega), fun c => ⟨by decide, by decide, fun c2 => no (by omega), fun c2 => X9_in (fun e => ⟨1, rfl, fun z => absurd z (by decide), fun _ => yes (by omega)⟩) (fun e => ⟨0, rfl, fun _ => no (by omega), fun z => absurd rfl z⟩)⟩⟩
  · rw [cif_n d] at hQ; exact hQ
theorem M_total {w : Int} (h : MoC σ m F S K n T) (hQ : Q (some (vI (rTot S w))) σ) : Ca n_X9_total [vR (some m), vI w] σ Q := by
  obtain ⟨s0, g0, g1, g2, g4, g5, g11, z1, z2, z3, z4, z5, z6⟩ := h.1
  unfold rTot at hQ
  refine vc_X9_total _ _ _ _ (X9_in (fun d => ⟨1, rfl, fun z => absurd z (by decide), fun _ => ?_⟩) (fun d => ⟨0, rfl, fun _ => ?_, fun z => absurd rfl z⟩))
  · rw [cif_p d] at hQ
    rw [wr_i (x := 11 + w) (by omega)]
    have e7 : gi σ (m + 1) (11 + w).toNat = tot S w := h.2.1.2.1.2.2.2.2 w d.1 (by omega)
    simp only [s0, g0, z1, e7, isS_some, true_and]
    exact ⟨by omega, by omega, hQ⟩
  · rw [cif_n d] at hQ; exact hQ
theorem M_stationTotal {i w : Int} (h : MoC σ m F S K n T) (hw : StX F S K n T) (hQ : Q (some (vI (rSTot S i w))) σ) : Ca n_X9_stationTotal [vR (some m), vI i, vI w] σ Q := by
  unfold rSTot at hQ
  refine vc_X9_stationTotal _ _ _ _ _ ⟨h.1.1, M_isStation h hw (fun c => ⟨1, rfl, fun z => absurd z (by decide), fun _ => ?_⟩) (fun c => ⟨0, rfl, fun _ => ?_, fun z => absurd rfl z⟩)⟩
  · obtain ⟨a1, a2, a3, a4⟩ := h.sta hw c
    refine X9_in (fun d => ⟨1, rfl, fun z => absurd z (by decide), fun _ => ⟨h.1.1, ?_⟩⟩) (fun d => ⟨0, rfl, fun _ => ?_, fun z => absurd rfl z⟩)
    · rw [wr_i (by omega)]
      refine X9_station h.1 a3 a4 (by omega) (by omega) ⟨_, rfl, ?_⟩
      have := a1.2.2.2 w d.1 (by omega)
      rw [show sb i + (109 + w) = sb i + 109 + w by omega, this]
      rw [cif_p ⟨c, d⟩] at hQ; exact hQ
    · rw [cif_n fun z => d z.2] at hQ; exact hQ
  · rw [cif_n fun z => c z.1] at hQ; exact hQ
theorem pl_last {i : Int} (hw : SaW F S) : plQ (que S) i = lsI (fun k => decide (rst (qg (que S) k) = i)) (ql (que S)).toNat := by
  have hnn := ql_nn (que S)
  by_cases c : ∃ k, 0 ≤ k ∧ k < ql (que S) ∧ rst (qg (que S) k) = i
  · obtain ⟨k, k0, k1, k2⟩ := c
    have uni : ∀ j, 0 ≤ j → j < ql (que S) → ¬ j = k → ¬ (fun k => decide (rst (qg (que S) k) = i)) j = true := by
      intro j j0 j1 e z
      have z : rst (qg (que S) j) = i := by simpa using z
      rcases Int.lt_or_lt_of_ne e with y | y
      · exact hw.2.2.2.2.2.1 j k j0 y k1 (by rw [z, k2])
      · exact hw.2.2.2.2.2.1 k j k0 y j1 (by rw [z, k2])
    unfold plQ
    rw [frI_of k0 k1 (by simpa using k2) (fun j a b => uni j a (by omega) (by omega)), lsI_of k0 (by simpa using k2) (by omega) (fun j a b => uni j (by omega) (by omega) (by omega))]
  · have no : ∀ j : Int, 0 ≤ j → j < ((ql (que S)).toNat : Int) → ¬ (fun k => decide (rst (qg (que S) k) = i)) j = true := fun j a b z => c ⟨j, a, by omega, by simpa using z⟩
    unfold plQ
    rw [frI_no no, lsI_no no]
theorem X9_requestAt {k : Int} (h0 : 0 ≤ k) (h5 : k < 100) (hQ : Q (some (vI (qb k))) σ) : Ca n_X9_requestAt [vI k] σ Q := by
  refine vc_X9_requestAt _ _ _ ?_
  rw [wr_i (x := 11 * k) (by omega), wr_i (by omega)]
  exact hQ
theorem M_placeOf {i : Int} (h : MoC σ m F S K n T) (hw : StX F S K n T) (hQ : Q (some (vI (plQ (que S) i))) σ) : Ca n_X9_placeOf [vR (some m), vI i] σ Q := by
  obtain ⟨s0, g0, g1, g2, g4, g5, g11, z1, z2, z3, z4, z5, z6⟩ := h.1
  have e3 : gi σ (m + 1) (3 : Int).toNat = ql (que S) := h.2.1.2.1.2.1.1
  have hq6 := hw.2.1.2.2.2.1
  have hnn := ql_nn (que S)
  rw [pl_last hw.2.1] at hQ
  have key : ∀ (k : Nat) (j : Int), 0 ≤ j → j ≤ ql (que S) → ql (que S) - j < k → At n_X9_placeOf 4 [some (vR (some m)), some (vI i), some (vI (lsI (fun k => decide (rst (qg (que S) k) = i)) j.toNat)), some (vI j)] [] σ Q := by
    intro k
    induction k with
    | zero => intro j h0 h1 h2; omega
    | succ k ih =>
      intro j h0 h1 h2
      have hss := lsI_s (p := fun k => decide (rst (qg (que S) k) = i)) h0
      refine vc_X9_placeOf_4 _ _ _ _ _ _ ?_
      simp only [s0, g0, z1, e3, isS_some, true_and]
      refine ⟨by decide, by decide, fun e => ?_, fun e => X9_requestAt h0 (by omega) ⟨_, rfl, ?_⟩⟩
      · rw [show j = ql (que S) by omega]; exact hQ
      · have e4 : gi σ (m + 1) (qb j).toNat = rst (qg (que S) j) := (h.2.1.2.1.2.1.2.1 j h0 (by omega)).1
        simp only [z1, e4]
        rw [wr_i (x := j + 1) (by omega)]
        refine ⟨trivial, by unfold qb; omega, by unfold qb; omega, fun e5 => ?_, fun e5 => ?_⟩
        · have := ih (j + 1) (by omega) (by omega) (by omega)
          rw [hss, if_neg (by simpa using e5)] at this
          exact this
        · have := ih (j + 1) (by omega) (by omega) (by omega)
          rw [hss, if_pos (by simpa using e5)] at this
          exact this
  exact vc_X9_placeOf _ _ _ _ (key (ql (que S) + 1).toNat 0 (by omega) hnn (by omega))
theorem M_mayAsk {i : Int} (h : MoC σ m F S K n T) (hw : StX F S K n T) (hn : now S ≤ 2000000) (c : stnP S i) (h1 : mayP S i → Q (some (vI 1)) σ) (h0 : ¬ mayP S i → Q (some (vI 0)) σ) : Ca n_X9_mayAsk [vR (some m), vI i] σ Q := by
  obtain ⟨a1, a2, a3, a4⟩ := h.sta hw c
  obtain ⟨s0, g0, g1, g2, g4, g5, g11, z1, z2, z3, z4, z5, z6⟩ := h.1
  have e0 : gi σ (m + 1) (0 : Int).toNat = now S := h.2.1.2.1.1.1
  refine vc_X9_mayAsk _ _ _ _ ?_
  simp only [s0, g0, z1, e0, isS_some, true_and]
  unfold mayP at h1 h0
  refine ⟨by decide, by decide, X9_isInView h.1 a1.1 a2 a3 a4 hw.2.1.2.1 hn (fun c => ⟨1, rfl, fun z => absurd z (by decide), fun _ => ⟨s0, M_placeOf h hw ⟨_, rfl, fun d => ⟨(by simp), h0 (by omega)⟩, fun d => ⟨(by simp), h1 ⟨c, by omega⟩⟩⟩⟩⟩) (fun c => ⟨0, rfl, fun _ => ⟨(by simp), h0 fun z => c z.1⟩, fun z => absurd rfl z⟩)⟩
theorem M_queued {p w : Int} (h : MoC σ m F S K n T) (hw : StX F S K n T) (hQ : Q (some (vI (rQued S p w))) σ) : Ca n_X9_queued [vR (some m), vI p, vI w] σ Q := by
  obtain ⟨s0, g0, g1, g2, g4, g5, g11, z1, z2, z3, z4, z5, z6⟩ := h.1
  have e3 : gi σ (m + 1) (3 : Int).toNat = ql (que S) := h.2.1.2.1.2.1.1
  have hq6 := hw.2.1.2.2.2.1
  unfold rQued at hQ
  refine vc_X9_queued _ _ _ _ _ ⟨fun p0 => ?_, fun p0 => X9_in (fun d => ⟨1, rfl, fun _ => ?_, fun z => absurd (show ¬ (1 : Int) = 0 by decide) z⟩) (fun d => ⟨0, rfl, fun z => absurd rfl z, fun _ => ?_⟩)⟩
  · rw [cif_n (by omega)] at hQ; exact hQ
  · rw [cif_p ⟨by omega, d⟩] at hQ
    simp only [s0, g0, z1, e3, isS_some, true_and]
    refine ⟨by decide, by decide, fun c => X9_requestAt (by omega) (by omega) ⟨_, rfl, ?_⟩, fun c => ?_⟩
    · rw [cif_p c] at hQ
      obtain ⟨r1, r2, r3⟩ := h.2.1.2.1.2.1.2.1 p (by omega) c
      obtain ⟨-, -, tu⟩ := h.2.1.2.1.2.1.2.2
      have tu := tu p (by omega) c
      obtain ⟨w1, w2, w3, w4, w5, w6⟩ := hw.2.1.2.2.2.2.1 p (by omega) c
      have hb : 136 ≤ qb p ∧ qb p ≤ 191 := by unfold qb; omega
      have f0 : gi σ (m + 1) (qb p).toNat = rst (qg (que S) p) := r1
      have f1 : gi σ (m + 1) (qb p + 1).toNat = rfl_ (qg (que S) p) := r2
      have f2 : gi σ (m + 1) (qb p + 2).toNat = ln (rho (qg (que S) p)) := r3.1
      rw [wr_i (x := qb p + 1) (by omega), wr_i (x := qb p + 2) (by omega)]
      simp only [s0, g0, z1, f0, f1, f2, isS_some, true_and]
      have val : Q (some (vI (qudF (qg (que S) p) w))) σ := hQ
      unfold qudF at val
      have u4 : gi σ (m + 1) (4 : Int).toNat = ro σ m 4 := rfl
      have u5 : gi σ (m + 1) (5 : Int).toNat = ro σ m 5 := rfl
      refine ⟨fun z => ⟨by decide, by decide, fun y => ?_, fun y => ⟨by decide, by decide, ?_⟩⟩, fun z => ⟨by omega, by omega, ?_⟩, fun z => ⟨by omega, by omega, fun y => ?_, fun y => ?_⟩, fun z => ⟨by omega, by omega, ?_⟩, fun z => ⟨by omega, by omega, ?_⟩, fun z => ?_, trivial⟩
      · have z : w < 0 ∨ 0 + (((5 : Nat) : Int) : Int) ≤ w := z
        rw [show w = 5 by omega] at val
        rw [u4] at y
        rw [tu, if_neg y] at val
        exact val
      · have z : w < 0 ∨ 0 + (((5 : Nat) : Int) : Int) ≤ w := z
        rw [show w = 5 by omega] at val
        rw [u4] at y
        rw [tu, if_pos (Decidable.not_not.mp y)] at val
        exact val
      · rw [z] at val; exact val
      · rw [show w = 1 by omega, if_neg (by decide), if_pos rfl, if_neg (by omega)] at val; exact val
      · rw [show w = 1 by omega, if_neg (by decide), if_pos rfl, if_pos (by omega)] at val; exact val
      · rw [show w = 2 by omega] at val; exact val
      · rw [show w = 3 by omega] at val; exact val
      · rw [show w = 4 by omega] at val
        exact X9_sizeOf h.1 r3 w3 (by omega) (by omega) ⟨_, rfl, val⟩
    · rw [cif_n c] at hQ; exact hQ
  · rw [cif_n fun z => d z.2] at hQ; exact hQ
end M
