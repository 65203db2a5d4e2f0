def inRow (m c : Nat) : Prop := c = m + 1 ∨ c = m + 3 ∨ c = m + 4 ∨ c = m + 6
section M
variable {σ : ms_T} {m : Nat} {F : Fl} {S : Sa} {K : Int → Int} {n : Int} {T : Int → Int} {Q : mq_T}
theorem MoC.row {τ : ms_T} {F' : Fl} {S' : Sa} {K' : Int → Int} {P : Nat → Prop} (h : MoC σ m F S K n T) (hs : Sm σ τ P) (hP : ∀ c, P c → inRow m c) (hR : MoR (ro τ m) F' S' K') : Sm σ τ (inMo m) ∧ MoC τ m F' S' K' n T := by
  have hn : ∀ c, ¬ inRow m c → ∀ k, gi τ c k = gi σ c k := fun c hc k => hs.i fun z => hc (hP c z)
  refine ⟨hs.wk fun c hc => by have := hP c hc; unfold inRow at this; unfold inMo; omega, h.1.sm hs, hR, ?_, fun i a b => ?_⟩
  · rw [hn m (by unfold inRow; omega)]; exact h.2.2.1
  · rw [hn (m + 5) (by unfold inRow; omega)]; exact h.2.2.2 i a b
theorem MoR.stU {R R' : Int → Int} {i : Int} {s : St} (h : MoR R F S K) (hF : FW F) (hw : SaW F S) (hi : stnP S i) (hs : StR R' i s) (he : ∀ j, 0 ≤ j → j < 767 → ¬ (sb i ≤ j ∧ j < sb i + 113) → R' j = R j) : MoR R' F (stS S i s) K := by
  have hn := hw.1
  have hi0 := hi.1
  have hi1 := hi.2
  have hb : 202 ≤ sb i := by unfold sb; omega
  refine ⟨h.1.eqv hF.2.1 (fun j z => he j (by omega) (by omega) (by omega)), ⟨⟨(he 0 (by omega) (by omega) (by omega)).trans h.2.1.1.1, (he 1 (by omega) (by omega) (by omega)).trans h.2.1.1.2⟩, h.2.1.2.1.eqv hw.2.2.2.1 (fun k a b => (hw.2.2.2.2.1 k a b).2.2.2.1.2) (fun j z => he j (by omega) (by omega) (by omega)), fun j a b => ?_, fun j a b => ?_, fun w a b => (he _ (by omega) (by omega) (by omega)).trans (h.2.1.2.2.2.2 w a b)⟩, by rw [he 4 (by omega) (by omega) (by omega), he 5 (by omega) (by omega) (by omega)]; exact h.2.2.1, fun w a b => (he _ (by omega) (by omega) (by omega)).trans (h.2.2.2 w a b)⟩
  · have b : j < nst S := b
    show StR R' j (up (sts S) i s j)
    by_cases e : j = i
    · rw [e, up_eq]; exact hs
    · rw [up_ne e]
      exact (h.2.1.2.2.1 j a b).loc (hw.2.2.1 j a b) fun k k0 k1 => he k (by unfold sb at k0; omega) (by unfold sb at *; omega) (by unfold sb at *; omega)
  · have a : nst S ≤ j := a
    exact (h.2.1.2.2.2.1 j a b).eqv fun k k0 k1 => he k (by unfold sb at k0; omega) (by unfold sb at *; omega) (by unfold sb at *; omega)
theorem StR.scU {R R' : Int → Int} {i w v : Int} {s : St} (h : StR R i s) (hw : SW F s) (w0 : 0 ≤ w) (w6 : w < 6) (he : ∀ j, sb i ≤ j → j < sb i + 113 → R' j = if j = sb i + w then v else R j) : StR R' i (up (sc s) w v, cov s, of_ s, ol s, ct s) := by
  refine ⟨fun x a b => ?_, h.2.1.eqv fun j a b => ?_, fun k a b => ⟨?_, fun z => ((h.2.2.1 k a b).2 z).eqv fun j j0 j1 => ?_⟩, fun x a b => ?_⟩
  · rw [he _ (by omega) (by omega)]
    show _ = up (sc s) w v x
    by_cases e : x = w
    · rw [if_pos (by omega), e, up_eq]
    · rw [if_neg (by omega), up_ne e]; exact h.1 x a b
  · have := hw.2.1.1
    rw [he _ (by omega) (by omega), if_neg (by omega)]
  · rw [he _ (by omega) (by omega), if_neg (by omega)]; exact (h.2.2.1 k a b).1
  · have := (hw.2.2.1 k a b).2.2.1.1
    rw [he _ (by omega) (by omega), if_neg (by omega)]
  · rw [he _ (by omega) (by omega), if_neg (by omega)]; exact h.2.2.2 x a b
theorem M_setLoss {i r : Int} (h : MoC σ m F S K n T) (hw : StX F S K n T) (hQ : ∀ τ, Sm σ τ (inMo m) → MoC τ m F (rLoss S i r).2 K n T → Q (some (vI (rLoss S i r).1)) τ) : Ca n_X9_setLoss [vR (some m), vI i, vI r] σ Q := by
  unfold rLoss losP at hQ
  refine vc_X9_setLoss _ _ _ _ _ ⟨h.1.1, M_isStation h hw (fun c => ⟨1, rfl, fun z => absurd z (by decide), fun _ => ?_⟩) (fun c => ⟨0, rfl, fun _ => ?_, fun z => absurd rfl z⟩)⟩
  · refine X9_in (fun d => ⟨1, rfl, fun _ => ⟨h.1.1, ?_⟩, fun z => absurd (show ¬ (1 : Int) = 0 by decide) z⟩) (fun d => ⟨0, rfl, fun z => absurd rfl z, fun _ => ?_⟩)
    · rw [cif_p ⟨c, d⟩] at hQ
      obtain ⟨a1, a2, a3, a4⟩ := h.sta hw c
      obtain ⟨s0, g0, g1, g2, g4, g5, g11, z1, z2, z3, z4, z5, z6⟩ := h.1
      have hb : 202 ≤ sb i ∧ sb i ≤ 654 := by unfold sb; omega
      refine X9_station h.1 a3 a4 (by decide) (by decide) ⟨_, rfl, s0, X9_stationAt a3 (by omega) ⟨_, rfl, ?_⟩⟩
      rw [wr_i (x := sb i + 4) (by omega), a1.1 4 (by decide) (by decide)]
      simp only [g0, z1, isS_some, true_and]
      refine ⟨by omega, by omega, ?_⟩
      have hs : Sm σ (sI σ (m + 1) (sb i + 4).toNat r) (fun c => c = m + 1) := Sm.one
      have he : ∀ j, 0 ≤ j → ro (sI σ (m + 1) (sb i + 4).toNat r) m j = if j = sb i + 4 then r else ro σ m j := fun j j0 => ro_st j0 (by omega)
      have hh := h.row hs (fun c hc => Or.inl hc) (h.2.1.stU hw.1 hw.2.1 c (a1.scU a2 (w := 4) (v := r) (by decide) (by decide) fun j j0 j1 => he j (by omega)) (fun j j0 j1 j2 => by rw [he j j0, if_neg (by omega)]))
      exact hQ _ hh.1 hh.2
    · rw [cif_n fun z => d z.2] at hQ; exact hQ σ Sm.rf h
  · rw [cif_n fun z => c z.1] at hQ; exact hQ σ Sm.rf h
theorem StR.ofU {R R' : Int → Int} {i p f : Int} {s : St} {L : Iv} (h : StR R i s) (hw : SW F s) (p0 : 0 ≤ p) (p3 : p < 3) (hf : R' (sb i + 31 + 26 * p) = f) (hL : 0 ≤ f → LsR R' (sb i + 31 + 26 * p + 1) L) (he : ∀ j, sb i ≤ j → j < sb i + 113 → ¬ (sb i + 31 + 26 * p ≤ j ∧ j < sb i + 31 + 26 * p + 26) → R' j = R j) : StR R' i (sc s, cov s, up (of_ s) p f, up (ol s) p L, ct s) := by
  refine ⟨fun x a b => ?_, h.2.1.eqv fun j a b => ?_, fun k a b => ?_, fun x a b => ?_⟩
  · rw [he _ (by omega) (by omega) (by omega)]; exact h.1 x a b
  · have := hw.2.1.1
    exact he _ (by omega) (by omega) (by omega)
  · show R' (sb i + 31 + 26 * k) = up (of_ s) p f k ∧ (0 ≤ up (of_ s) p f k → LsR R' (sb i + 31 + 26 * k + 1) (up (ol s) p L k))
    by_cases e : k = p
    · rw [e, up_eq, up_eq]; exact ⟨hf, hL⟩
    · rw [up_ne e, up_ne e]
      refine ⟨?_, fun z => ((h.2.2.1 k a b).2 z).eqv fun j j0 j1 => ?_⟩
      · rw [he _ (by omega) (by omega) (by omega)]; exact (h.2.2.1 k a b).1
      · have := (hw.2.2.1 k a b).2.2.1.1
        exact he _ (by omega) (by omega) (by omega)
  · rw [he _ (by omega) (by omega) (by omega)]; exact h.2.2.2 x a b
theorem up_same {α : Type} {f : Int → α} {p : Int} : up f p (f p) = f := by
  funext k
  unfold up
  split
  · next e => rw [e]
  · rfl
theorem LsR.nil {R : Int → Int} {p : Int} (h : R p = 0) : LsR R p [] := ⟨h, fun i a b => by rw [ln_nil] at b; omega⟩
theorem M_close {i f : Int} (h : MoC σ m F S K n T) (hw : StX F S K n T) (hQ : ∀ τ, Sm σ τ (inMo m) → MoC τ m F (rClose F S i f).2 K n T → Q (some (vI (rClose F S i f).1)) τ) : Ca n_X9_close [vR (some m), vI i, vI f] σ Q := by
  unfold rClose lst at hQ
  refine vc_X9_close _ _ _ _ _ ⟨h.1.1, M_refusesOpen h hw (fun c d => ⟨0, rfl, fun _ => ⟨h.1.1, M_openAt h hw c.1 ⟨_, rfl, ?_⟩⟩, fun z => absurd (by decide) z⟩) (fun c d => ⟨_, rfl, fun z => absurd z (by decide), fun _ => ?_⟩) (fun c => ⟨_, rfl, fun z => absurd z (by decide), fun _ => ?_⟩)⟩
  · have b := opl_bd (sts S i) f
    have c0 := c.2.1
    obtain ⟨e1, e2, e3, e4, e5⟩ := h.opn hw c.1 d b.2.1 (by rw [b.2.2 d]; exact c0)
    have e6 := e2.1
    obtain ⟨a1, a2, a3, a4⟩ := h.sta hw c.1
    obtain ⟨s0, g0, g1, g2, g4, g5, g11, z1, z2, z3, z4, z5, z6⟩ := h.1
    rw [cif_p c, cif_n (by omega)] at hQ
    have hb : 202 ≤ sb i ∧ sb i ≤ 654 := by unfold sb; omega
    unfold opA
    rw [if_neg (by omega), wr_i (by omega)]
    simp only [gs_sI, s0, g0, z1, isS_some, true_and]
    have hs : Sm σ (sI σ (m + 1) (sb i + 31 + 26 * opl (sts S i) f).toNat (-1)) (fun c => c = m + 1) := Sm.one
    have he : ∀ j, 0 ≤ j → ro (sI σ (m + 1) (sb i + 31 + 26 * opl (sts S i) f).toNat (-1)) m j = if j = sb i + 31 + 26 * opl (sts S i) f then -1 else ro σ m j := fun j j0 => ro_st j0 (by omega)
    have hst := a1.ofU (R' := ro (sI σ (m + 1) (sb i + 31 + 26 * opl (sts S i) f).toNat (-1)) m) (f := -1) (L := ol (sts S i) (opl (sts S i) f)) a2 d b.2.1 (by rw [he _ (by omega), if_pos rfl]) (fun z => by omega) (fun j j0 j1 j2 => by rw [he j (by omega), if_neg (by omega)])
    rw [up_same] at hst
    have hh := h.row hs (fun c hc => Or.inl hc) (h.2.1.stU hw.1 hw.2.1 c.1 hst (fun j j0 j1 j2 => by rw [he j j0, if_neg (by omega)]))
    refine ⟨by omega, by omega, X9_sizeOf hh.2.1 (L := ol (sts S i) (opl (sts S i) f)) (e1.eqv e6 fun j j0 j1 => by rw [he j (by omega), if_neg (by omega)]) e2 e3.1 (by omega) ⟨_, rfl, hQ _ hh.1 hh.2⟩⟩
  · rw [cif_p c, cif_p d] at hQ; exact hQ σ Sm.rf h
  · rw [cif_n c] at hQ; exact hQ σ Sm.rf h
theorem M_open {i f : Int} (h : MoC σ m F S K n T) (hw0 : StW F S K n T) (hQ : ∀ τ, Sm σ τ (inMo m) → MoC τ m F (rOpen F S i f).2 K n T → Q (some (vI (rOpen F S i f).1)) τ) : Ca n_X9_open [vR (some m), vI i, vI f] σ Q := by
  have hw := hw0.x
  have hW := (W_open (i := i) (f := f) hw0).x
  unfold rOpen at hQ hW
  refine vc_X9_open _ _ _ _ _ ⟨h.1.1, M_isStation h hw (fun c => ⟨1, rfl, fun z => absurd z (by decide), fun _ => ⟨h.1.1, M_isFile h hw (fun d => ⟨1, rfl, fun _ => ?_, fun z => absurd (show ¬ (1 : Int) = 0 by decide) z⟩) (fun d => ⟨0, rfl, fun z => absurd rfl z, fun _ => ?_⟩)⟩⟩) (fun c => ⟨0, rfl, fun _ => ?_, fun z => absurd rfl z⟩)⟩
  · rw [cif_p ⟨c, d⟩] at hQ hW
    obtain ⟨a1, a2, a3, a4⟩ := h.sta hw c
    obtain ⟨s0, g0, g1, g2, g4, g5, g11, z1, z2, z3, z4, z5, z6⟩ := h.1
    have hb : 202 ≤ sb i ∧ sb i ≤ 654 := by unfold sb; omega
    refine ⟨s0, X9_station h.1 a3 a4 (by decide) (by decide) ⟨_, rfl, ?_⟩⟩
    rw [a1.1 5 (by decide) (by decide)]
    refine ⟨fun e => ?_, fun e => ⟨s0, M_openAt h hw c ⟨_, rfl, fun e2 => ⟨s0, M_openAt h hw c ⟨_, rfl, fun e3 => ?_, fun e3 => ?_⟩⟩, fun e2 => ?_⟩⟩⟩
    · rw [cif_p (Or.inl (knP_n.mpr e))] at hQ; exact hQ σ Sm.rf h
    · have b := opl_bd (sts S i) (-1)
      have k2 : opl (sts S i) f < 0 := by
        unfold opA at e2; split at e2
        · next z => exact z
        · next z => have := (opl_bd (sts S i) f); omega
      have k3 : 0 ≤ opl (sts S i) (-1) := by
        unfold opA at e3; split at e3
        · next z => omega
        · next z => omega
      have kn : ¬ (¬ knP (sts S i) f ∨ 0 ≤ opl (sts S i) f) := fun z => by
        rcases z with z | z
        · exact e (knP_n.mp z)
        · omega
      rw [cif_n kn, cif_n (by omega)] at hQ hW
      have hO : opA i (sts S i) (-1) = sb i + 31 + 26 * opl (sts S i) (-1) := by unfold opA; rw [if_neg (by omega)]
      rw [hO, wr_i (by omega)]
      have g : gs σ (m + 1) = (50, 767) := z1
      simp only [gs_sI, gr_sI, s0, g0, z1, isS_some, true_and]
      refine ⟨by omega, by omega, by omega, by omega, ?_⟩
      generalize hτ : sI (sI σ (m + 1) (sb i + 31 + 26 * opl (sts S i) (-1)).toNat f) (m + 1) (sb i + 31 + 26 * opl (sts S i) (-1) + 1).toNat 0 = τ
      have hs : Sm σ τ (fun c => c = m + 1) := by rw [← hτ]; exact Sm.st (P := fun c => c = m + 1) Sm.one rfl
      have he : ∀ j, 0 ≤ j → ro τ m j = if j = sb i + 31 + 26 * opl (sts S i) (-1) + 1 then 0 else if j = sb i + 31 + 26 * opl (sts S i) (-1) then f else ro σ m j := fun j j0 => by rw [← hτ, ro_st j0 (by omega), ro_st j0 (by omega)]
      have hst := a1.ofU (R' := ro τ m) (f := f) (L := []) a2 k3 b.2.1 (by rw [he _ (by omega), if_neg (by omega), if_pos rfl]) (fun _ => LsR.nil (by rw [he _ (by omega), if_pos rfl])) (fun j j0 j1 j2 => by rw [he j (by omega), if_neg (by omega), if_neg (by omega)])
      have hh := h.row hs (fun c hc => Or.inl hc) (h.2.1.stU hw.1 hw.2.1 c hst (fun j j0 j1 j2 => by rw [he j j0, if_neg (by omega), if_neg (by omega)]))
      obtain ⟨m1, m2⟩ := hh
      have c' : stnP (stS S i (opnS (sts S i) f)) i := c
      have hC : MoC τ m F (stS S i (opnS (sts S i) f)) K n T := m2
      have ho := (hC.sta hW c').1.2.2.1
      have es : sts (stS S i (opnS (sts S i) f)) i = opnS (sts S i) f := up_eq
      rw [es] at ho
      have hof : ∀ k, 0 ≤ k → k < 3 → -1 ≤ of_ (opnS (sts S i) f) k := fun k k0 k4 => by
        have := (hW.2.1.2.2.1 i c'.1 c'.2).2.2.1 k k0 k4
        rw [es] at this
        exact this.1
      have bd := fun j a1 a2 => smI_bd (f := fun k => if of_ (opnS (sts S i) f) k = -1 then (0 : Int) else 1) (n := 3) (lo := 0) (hi := 1) (fun i _ _ => by split <;> omega) (by omega) (by omega) j a1 a2
      have key : ∀ (k : Nat) (j x : Int), 0 ≤ j → j ≤ 3 → 3 - j < k → x = smI (fun k => if of_ (opnS (sts S i) f) k = -1 then 0 else 1) j → At n_X9_open 79 [some (vR (some m)), some (vI i), some (vI f), some (vI (sb i + 31 + 26 * opl (sts S i) (-1))), some (vI x), some (vI j)] [] τ Q := by
        intro k
        induction k with
        | zero => intro j x h0 h1 h2; omega
        | succ k ih =>
          intro j x h0 h1 h2 hx
          have b1 := bd j h0 h1
          have hss := smI_s (f := fun k => if of_ (opnS (sts S i) f) k = -1 then (0 : Int) else 1) h0
          rw [← hx] at b1 hss
          refine vc_X9_open_79 _ _ _ _ _ _ _ _ ⟨fun y => ?_, fun y => ⟨hC.1.1, ?_⟩⟩
          · have := hQ τ m1 m2
            have e9 : opn (opnS (sts S i) f) = x := by unfold opn; rw [hx, show j = 3 by omega]
            rw [e9] at this
            exact this
          · rw [wr_i (x := 26 * j) (by omega), wr_i (x := 31 + 26 * j) (by omega), wr_i (x := j + 1) (by omega), wr_i (x := x + 0) (by omega), wr_i (x := x + 1) (by omega)]
            refine X9_station hC.1 a3 a4 (by omega) (by omega) ⟨_, rfl, ?_⟩
            rw [show sb i + (31 + 26 * j) = sb i + 31 + 26 * j by omega, (ho j h0 (by omega)).1]
            have := hof j h0 (by omega)
            refine ⟨fun w => ih _ _ (by omega) (by omega) (by omega) ?_, fun w => ih _ _ (by omega) (by omega) (by omega) ?_⟩
            · rw [if_pos (by omega)] at hss; omega
            · rw [if_neg (by omega)] at hss; omega
      exact key 4 0 0 (by omega) (by omega) (by omega) rfl
    · have k2 : opl (sts S i) f < 0 := by
        unfold opA at e2; split at e2
        · next z => exact z
        · next z => have := (opl_bd (sts S i) f); omega
      have k3 : opl (sts S i) (-1) < 0 := by
        unfold opA at e3; split at e3
        · next z => exact z
        · next z => have := (opl_bd (sts S i) (-1)); omega
      have kn : ¬ (¬ knP (sts S i) f ∨ 0 ≤ opl (sts S i) f) := fun z => by
        rcases z with z | z
        · exact e (knP_n.mp z)
        · omega
      rw [cif_n kn, cif_p k3] at hQ
      exact hQ σ Sm.rf h
    · have k2 : 0 ≤ opl (sts S i) f := by
        unfold opA at e2; split at e2
        · next z => omega
        · next z => omega
      rw [cif_p (Or.inr k2)] at hQ
      exact hQ σ Sm.rf h
  · rw [cif_n fun z => d z.2] at hQ; exact hQ σ Sm.rf h
  · rw [cif_n fun z => c z.1] at hQ; exact hQ σ Sm.rf h
theorem M_clearText (h : MoC σ m F S K n T) (hw : StX F S K n T) (hQ : ∀ τ, Sm σ τ (inMo m) → MoC τ m F S K 0 T → Q (some (vI n)) τ) : Ca n_X9_clearText [vR (some m)] σ Q := by
  refine vc_X9_clearText _ _ _ ⟨h.1.1, h.1.1, ?_⟩
  rw [h.2.2.1]
  have hs : Sm σ (sI σ m 6 0) (fun c => c = m) := Sm.one
  exact hQ _ (hs.wk fun c hc => by unfold inMo; omega) ⟨h.1.sm hs, h.2.1.eqv hw.1 hw.2.1 (fun j _ _ => ro_ne (by omega)), gi_eq, fun i a b => by omega⟩
theorem M_type {c : Int} (h : MoC σ m F S K n T) (hw : StX F S K n T) (hQ : ∀ τ, Sm σ τ (inMo m) → MoC τ m F S K (rType n T c).2.1 (rType n T c).2.2 → Q (some (vI (rType n T c).1)) τ) : Ca n_X9_type [vR (some m), vI c] σ Q := by
  obtain ⟨s0, g0, g1, g2, g4, g5, g11, z1, z2, z3, z4, z5, z6⟩ := h.1
  unfold rType at hQ
  have t0 := hw.2.2.2.1.1
  have t1 := hw.2.2.2.1.2.1
  have hn := h.2.2.1
  refine vc_X9_type _ _ _ _ (X9_in (fun d => ⟨1, rfl, fun _ => ?_, fun z => absurd (show ¬ (1 : Int) = 0 by decide) z⟩) (fun d => ⟨0, rfl, fun z => absurd rfl z, fun _ => ?_⟩))
  · rw [cif_p d] at hQ
    simp only [gs_sI, s0, g5, z5, hn, isS_some, true_and, gi_ne (show ¬ m = m + 5 by omega)]
    rw [wr_i (x := n + 1) (by omega)]
    refine ⟨fun e => ⟨by omega, by omega, ?_⟩, fun e => ?_⟩
    · rw [cif_p (by omega)] at hQ
      rw [gi_eq]
      have hs : Sm σ (sI (sI σ (m + 5) n.toNat c) m 6 (n + 1)) (fun c => c = m ∨ c = m + 5) := Sm.st (Sm.st Sm.rf (Or.inr rfl)) (Or.inl rfl)
      refine hQ _ (hs.wk fun c hc => by unfold inMo; omega) ⟨h.1.sm hs, h.2.1.eqv hw.1 hw.2.1 (fun j _ _ => by rw [ro_ne (by omega), ro_ne (by omega)]), gi_eq, fun i a b => ?_⟩
      have b : i < n + 1 := b
      rw [gi_ne (by omega)]
      show _ = up T n c i
      by_cases e2 : i = n
      · rw [e2, gi_eq, up_eq]
      · rw [gi_nk (by omega), up_ne e2]; exact h.2.2.2 i a (by omega)
    · rw [cif_n (by omega)] at hQ; exact hQ σ Sm.rf h
  · rw [cif_n d] at hQ; exact hQ σ Sm.rf h
end M
