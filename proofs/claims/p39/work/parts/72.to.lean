theorem simN_ok {F : Fl} {S : Sa} {i f : Int} (hF : FW F) (h : SaW F S) : ∀ j : Nat, SaW F (simN F i f j S) ∧ now (simN F i f j S) = now S + j ∧ nst (simN F i f j S) = nst S
  | 0 => ⟨h, by show now S = now S + ((0 : Nat) : Int); omega, rfl⟩
  | j + 1 => by
    obtain ⟨a1, a2, a3⟩ := simN_ok (i := i) (f := f) hF h j
    have e := reqF_same (F := F) (S := simN F i f j S) (i := i) (f := f)
    refine ⟨(SaW_tick hF (SaW_reqF hF a1)).1, ?_, ?_⟩
    · show now (rReqF F (simN F i f j S) i f).2 + 1 = _
      rw [e.1, a2]
      omega
    · show nst (rReqF F (simN F i f j S) i f).2 = _
      rw [e.2.1, a3]
noncomputable def empN (F : Fl) : Nat → Sa → Int → Int
  | 0, _, k => k
  | n + 1, S, k => if ql (que S) ≤ 0 then k else empN F n (ticS F S) (k + 1)
noncomputable def rToE (F : Fl) (S : Sa) : Int := empN F 1000000 S 0
section API
variable {σ : ms_T} {F : Fl} {S : Sa} {K : Int → Int} {n : Int} {T : Int → Int} {Q : mq_T}
theorem ClC.agF {τ : ms_T} (h : ClC σ F S K n T) (hs : Sq σ τ (inSa 117)) : gs τ 1 = (8, 0) ∧ gr τ 1 2 = some 117 ∧ FlC τ 2 F := by
  have a1 : Ag σ τ (fun c => c = 1) := hs.ag fun c hc => by unfold inSa; omega
  exact ⟨by rw [a1.s (c := 1) rfl]; exact h.1.1, by rw [a1.r (c := 1) rfl]; exact h.1.2.2.2.1, h.2.1.ag (hs.ag fun c hc => by unfold inF at hc; unfold inSa; omega)⟩
theorem ClC.imgC {τ : ms_T} {S' : Sa} (h : ClC σ F S K n T) (hw : SaW F S) (hs : Sq σ τ (inSa 117)) (hC : SaC τ 117 S') : Sq σ τ inCl ∧ ClC τ F S K n T := ⟨hs.wk fun c hc => by unfold inSa at hc; unfold inCl; omega, h.img hw hs hC.1 hC.2.2.2.2.1⟩
set_option maxHeartbeats 4000000 in
theorem C_ticksToComplete {i f : Int} (h : ClC σ F S K n T) (hw : StW F S K n T) (hQ : ∀ τ, Sq σ τ inCl → ClC τ F S K n T → Q (some (vI (rToC F S i f))) τ) : Ca n_X8_ticksToComplete [vR (some 1), vI i, vI f] σ Q := by
  unfold rToC at hQ
  have hF := hw.1
  have hwS := hw.2.1
  have hn1 := hw.2.2.1
  have hno := hwS.2.1
  have out : ∀ v, Q v σ → Q v σ := fun _ z => z
  refine vc_X8_ticksToComplete _ _ _ _ _ ⟨h.1.1, X8_isStation h (fun c => ⟨1, rfl, fun z => absurd z (by decide), fun _ => ?_⟩) (fun c => ⟨0, rfl, fun _ => ?_, fun z => absurd rfl z⟩)⟩
  · obtain ⟨g1, g2, g3, g4, g5, g6, g7, hS, hSW, hi5⟩ := toSt h hw c
    obtain ⟨f1, f2, f3, f4⟩ := toFl h
    simp only [f1, f2, f3, isS_some, true_and]
    refine X0_isStored f4 (fun d0 d1 => ⟨1, rfl, fun _ => ?_, fun z => absurd (show ¬ (1 : Int) = 0 by decide) z⟩) (fun d => ⟨0, rfl, fun z => absurd rfl z, fun _ => ?_⟩)
    · have d : filQ F f := ⟨d0, d1⟩
      have cd : stfP F S i f := ⟨c, d⟩
      rw [cif_p cd] at hQ
      simp only [g1, g2, g3, g4, g5, g6, g7, isS_some, true_and]
      refine ⟨by decide, by decide, c.1, by omega, ?_⟩
      refine X7_bytesOf hS (fun e _ => ⟨_, rfl, fun _ => ?_, fun z => absurd z (by simp)⟩) (fun e => ⟨_, rfl, fun z => absurd rfl z, fun _ => ?_⟩)
      · rw [cif_n (by omega)] at hQ
        simp only [g1, g2, h.1.2.2.2.1, h.2.2.2.2.1.1.1.1, isS_some, true_and]
        obtain ⟨iS, L0, iq⟩ := h.2.2.2.2.1
        refine X6_copyFrom iS iq h.2.2.1 hwS (Or.inr (by decide)) (fun υ hs hC => ⟨rfl, ?_⟩)
        have key : ∀ (k : Nat) (j : Nat) (τ : ms_T), j ≤ 2001 → 2001 - j < k → Sq σ τ (inSa 117) → SaC τ 117 (simN F i f j S) → (∀ υ, Sq σ υ inCl → ClC υ F S K n T → Q (some (vI (if j ≤ 2000 then comN F S i f (2000 - j) j else -4))) υ) → At n_X8_ticksToComplete 53 [some (vR (some 1)), some (vI i), some (vI f), some (vI (j : Int))] [] τ Q := by
          intro k
          induction k with
          | zero => intro j τ h0 h1; omega
          | succ k ih =>
            intro j τ h0 h1 hs hC hv
            obtain ⟨a1, a2, a3⟩ := simN_ok (i := i) (f := f) hF hwS j
            obtain ⟨b1, b2, b3⟩ := h.agF hs
            obtain ⟨x1, x2⟩ := h.imgC hwS hs hC
            refine vc_X8_ticksToComplete_53 _ _ _ _ _ _ ⟨fun z => ?_, fun z => ?_⟩
            · have := hv τ x1 x2
              rw [if_neg (by omega)] at this
              exact this
            · simp only [b1, b2, hC.1.1.1, isS_some, true_and]
              rw [if_pos (by omega)] at hv
              refine X6_isComplete hC a1 b3 hF c.1 (by rw [a3]; exact c.2) d.1 d.2 (fun p => ⟨1, rfl, fun z => absurd z (by decide), fun _ => ?_⟩) (fun p => ⟨0, rfl, fun _ => ?_, fun z => absurd rfl z⟩)
              · have := hv τ x1 x2
                cases hm : 2000 - j with
                | zero => rw [hm] at this; unfold comN at this; rw [cif_p p] at this; exact this
                | succ m => rw [hm] at this; unfold comN at this; rw [cif_p p] at this; exact this
              · have e1 : ∀ υ, Sq σ υ inCl → ClC υ F S K n T → Q (some (vI (if j + 1 ≤ 2000 then comN F S i f (2000 - (j + 1)) (j + 1) else -4))) υ := by
                  intro υ y1 y2
                  have := hv υ y1 y2
                  cases hm : 2000 - j with
                  | zero =>
                    rw [hm] at this; unfold comN at this; rw [cif_n p] at this
                    rw [if_neg (by omega)]
                    exact this
                  | succ m =>
                    rw [hm] at this; unfold comN at this; rw [cif_n p] at this
                    rw [if_pos (by omega), show 2000 - (j + 1) = m by omega]
                    exact this
                have ff : stfP F (simN F i f j S) i f := ⟨⟨c.1, by rw [a3]; exact c.2⟩, d⟩
                have nn := reqF_same (F := F) (S := simN F i f j S) (i := i) (f := f)
                have ww := SaW_reqF (i := i) (f := f) hF a1
                have e2 : ∀ (r : Int) υ, Sq τ υ (inSa 117) → SaC υ 117 (rReqF F (simN F i f j S) i f).2 → ∃ x8, some (vI r) = some (vI x8) ∧ gs υ 1 = (8, 0) ∧ isS (gr υ 1 2) fun c9 => gs υ c9 = (6, 0) ∧ Ca n_X6_tick [vR (some c9)] υ fun v10 τ11 => v10 = none ∧ At n_X8_ticksToComplete 53 [some (vR (some 1)), some (vI i), some (vI f), some (vI (wr ((j : Int) + (1 : Int))))] [] τ11 Q := by
                  intro r υ s1 hC2
                  obtain ⟨b4, b5, b6⟩ := h.agF (hs.tr s1)
                  refine ⟨r, rfl, ?_⟩
                  simp only [b4, b5, hC2.1.1.1, isS_some, true_and]
                  rw [wr_i (x := (j : Int) + 1) (by omega)]
                  refine X6_tick hC2 ww b6 hF (by decide) (by rw [nn.1, a2]; omega) (fun ω s2 hC3 _ => ⟨rfl, ?_⟩)
                  rw [show (j : Int) + 1 = ((j + 1 : Nat) : Int) by omega]
                  refine ih (j + 1) ω (by omega) (by omega) ((hs.tr s1).tr (s2.wk fun c hc => ?_)) hC3 e1
                  rw [nn.2.1, a3] at hc
                  have := hwS.1
                  unfold inTi at hc; unfold inSa; omega
                simp only [hC.1.1.1, b1, b2, isS_some, true_and]
                have r1 : ¬ filP F (simN F i f j S) i f → (rReqF F (simN F i f j S) i f).2 = simN F i f j S := fun p1 => by
                  unfold rReqF; rw [cif_p ff, cif_n p1]
                have r2 : filP F (simN F i f j S) i f → 6 ≤ ql (que (simN F i f j S)) → (rReqF F (simN F i f j S) i f).2 = simN F i f j S := fun p1 p2 => by
                  unfold rReqF; rw [cif_p ff, cif_p p1, cif_p p2]
                have r3 : filP F (simN F i f j S) i f → ql (que (simN F i f j S)) < 6 → (rReqF F (simN F i f j S) i f).2 = putS (simN F i f j S) i f (fst4 (filH F (simN F i f j S) i f)) := fun p1 p2 => by
                  unfold rReqF; rw [cif_p ff, cif_p p1, cif_n (by omega)]
                refine X6_askFile hC a1 b3 hF (by decide) (by rw [a2]; omega) c.1 (by rw [a3]; exact c.2) d.1 d.2 (fun p1 => e2 _ τ Sq.rf (by rw [r1 p1]; exact hC)) (fun p1 p2 => e2 _ τ Sq.rf (by rw [r2 p1 p2]; exact hC)) (fun p1 p2 υ s1 hC2 => e2 _ υ ((s1.wk fun c hc => by unfold inQu at hc; unfold inSa; omega).q) (by rw [r3 p1 p2]; exact hC2))
        exact key 2002 0 υ (by omega) (by omega) (hs.q) hC (fun υ y1 y2 => by rw [if_pos (by omega)]; exact hQ υ y1 y2)
      · have := d.1
        rw [cif_p (by omega)] at hQ
        exact hQ σ Sq.rf h
    · rw [cif_n fun z => d z.2] at hQ; exact hQ σ Sq.rf h
  · rw [cif_n fun z => c z.1] at hQ; exact hQ σ Sq.rf h
set_option maxHeartbeats 4000000 in
theorem C_ticksToEmpty (h : ClC σ F S K n T) (hw : StW F S K n T) (hQ : ∀ τ, Sq σ τ inCl → ClC τ F S K n T → Q (some (vI (rToE F S))) τ) : Ca n_X8_ticksToEmpty [vR (some 1)] σ Q := by
  unfold rToE at hQ
  have hF := hw.1
  have hwS := hw.2.1
  have hn1 := hw.2.2.1
  have hno := hwS.2.1
  refine vc_X8_ticksToEmpty _ _ _ ?_
  obtain ⟨iS, L0, iq⟩ := h.2.2.2.2.1
  simp only [h.1.1, h.1.2.2.1, h.1.2.2.2.1, iS.1.1, isS_some, true_and]
  refine X6_copyFrom iS iq h.2.2.1 hwS (Or.inr (by decide)) (fun υ hs hC => ⟨rfl, ?_⟩)
  have key : ∀ (k : Nat) (S' : Sa) (j : Int) (τ : ms_T), 0 ≤ j → 1000000 - j = k → Sq σ τ (inSa 117) → SaW F S' → nst S' = nst S → now S' = now S + j → SaC τ 117 S' → (∀ υ, Sq σ υ inCl → ClC υ F S K n T → Q (some (vI (empN F k S' j))) υ) → At n_X8_ticksToEmpty 13 [some (vR (some 1)), some (vI j)] [] τ Q := by
    intro k
    induction k with
    | zero =>
      intro S' j τ h0 h1 hs a1 a3 a2 hC hv
      obtain ⟨b1, b2, b3⟩ := h.agF hs
      obtain ⟨x1, x2⟩ := h.imgC hwS hs hC
      obtain ⟨p0, ⟨q1, q2, q3⟩, q4, q5, q6, q7, q8, q9⟩ := hC.2.2.2.2.1
      have := hv τ x1 x2
      unfold empN at this
      refine vc_X8_ticksToEmpty_13 _ _ _ _ ?_
      simp only [b1, b2, hC.1.1.1, hC.1.1.2.2.2.1, q1, isS_some, true_and]
      exact ⟨fun _ => this, fun _ => ⟨fun _ => this, fun z => by omega⟩⟩
    | succ k ih =>
      intro S' j τ h0 h1 hs a1 a3 a2 hC hv
      obtain ⟨b1, b2, b3⟩ := h.agF hs
      obtain ⟨x1, x2⟩ := h.imgC hwS hs hC
      obtain ⟨p0, ⟨q1, q2, q3⟩, -⟩ := id hC.2.2.2.2.1
      refine vc_X8_ticksToEmpty_13 _ _ _ _ ?_
      simp only [b1, b2, hC.1.1.1, hC.1.1.2.2.2.1, q1, isS_some, true_and]
      have eql : gi τ (117 + 2) 1 = ql (que S') := by
        obtain ⟨p1, ⟨y1, y2, y3⟩, y4, y5, y6, y7⟩ := hC.2.2.2.2.1
        assumption
      rw [eql]
      refine ⟨fun z => ?_, fun z => ⟨fun z2 => by omega, fun _ => ?_⟩⟩
      · have := hv τ x1 x2
        unfold empN at this
        rw [if_pos z] at this
        exact this
      · rw [wr_i (x := j + 1) (by omega)]
        refine X6_tick hC a1 b3 hF (by decide) (by rw [a2]; omega) (fun ω s2 hC3 _ => ⟨rfl, ?_⟩)
        refine ih (ticS F S') (j + 1) ω (by omega) (by omega) (hs.tr (s2.wk fun c hc => ?_)) (SaW_tick hF a1).1 a3 (by show now S' + 1 = _; omega) hC3 (fun υ y1 y2 => ?_)
        · rw [a3] at hc
          have := hwS.1
          unfold inTi at hc; unfold inSa; omega
        · have := hv υ y1 y2
          unfold empN at this
          rw [if_neg z] at this
          exact this
  exact key 1000000 S 0 υ (by omega) (by omega) (hs.q) hwS rfl (by omega) hC hQ
end API
