section API
variable {σ : ms_T} {F : Fl} {S : Sa} {K : Int → Int} {n : Int} {T : Int → Int} {Q : mq_T}
/-- another station i, the rest as it was -/
theorem ClC.sta {τ : ms_T} {i : Int} {s : St} (h : ClC σ F S K n T) (hw : StW F S K n T) (hi : stnP S i) (hs : Sm σ τ (inSt (sa 7 i))) (hc : StC τ (sa 7 i) i s) : Sq σ τ inCl ∧ ClC τ F (stS S i s) K n T := by
  have h' := h
  obtain ⟨-, hF, hSa, hf, him, hT, hK⟩ := h
  have hn5 := hw.2.1.1.2
  have i0 := hi.1
  have i1 := hi.2
  have hC := hSa.stU hn5 hi.1 (by omega) hs hc
  refine ⟨hs.q.wk fun c hc => by unfold inSt sa at hc; unfold inCl; omega, h'.sat (hs.q.wk fun c hc => by unfold inSt sa at hc; unfold inSa; omega) hC (fun j a b => ?_) (hK.ag (hs.ag fun c hc => by unfold inSt sa; omega))⟩
  have a : nst S ≤ j := a
  have e : sts (stS S i s) j = sts S j := up_ne (by omega)
  show StC _ _ _ (sts (stS S i s) j)
  rw [e]
  exact (hf j a b).ag (hs.ag fun c hc => by unfold inSt sa at *; omega)
theorem toFl (h : ClC σ F S K n T) : gs σ 1 = (8, 0) ∧ gr σ 1 0 = some 2 ∧ gs σ 2 = (0, 0) ∧ FlC σ 2 F := ⟨h.1.1, h.1.2.1, h.2.1.1.1, h.2.1⟩
set_option maxHeartbeats 4000000 in
theorem C_open {i f : Int} (h : ClC σ F S K n T) (hw : StW F S K n T) (hQ : ∀ τ, Sq σ τ inCl → ClC τ F (rOpen F S i f).2 K n T → Q (some (vI (rOpen F S i f).1)) τ) : Ca n_X8_open [vR (some 1), vI i, vI f] σ Q := by
  obtain ⟨f1, f2, f3, hF⟩ := toFl h
  unfold rOpen stfP filQ at hQ
  refine vc_X8_open _ _ _ _ _ ⟨h.1.1, X8_isStation h (fun c => ⟨1, rfl, fun z => absurd z (by decide), fun _ => ?_⟩) (fun c => ⟨0, rfl, fun _ => ?_, fun z => absurd rfl z⟩)⟩
  · obtain ⟨g1, g2, g3, g4, g5, g6, g7, hS, hSW, hi5⟩ := toSt h hw c
    simp only [f1, f2, f3, isS_some, true_and]
    refine X0_isStored hF (fun d1 d2 => ⟨1, rfl, fun _ => ?_, fun z => absurd (show ¬ (1 : Int) = 0 by decide) z⟩) (fun d => ⟨0, rfl, fun z => absurd rfl z, fun _ => ?_⟩)
    · rw [cif_p ⟨c, d1, d2⟩] at hQ
      have hb := opl_bd (sts S i) f
      simp only [g1, g2, g3, g4, g5, g6, g7, isS_some, true_and]
      refine ⟨by decide, by decide, c.1, by omega, X7_knows hS (fun e => ⟨1, rfl, fun z => absurd z (by decide), fun _ => ?_⟩) (fun e => ⟨0, rfl, fun _ => ?_, fun z => absurd rfl z⟩)⟩
      · simp only [g6, g7, isS_some, true_and]
        refine X7_bytesOf hS (fun y1 y2 => ⟨_, rfl, fun z => (by cases z), fun _ => ?_⟩) (fun y => ⟨_, rfl, fun _ => ?_, fun z => absurd rfl z⟩)
        · rw [cif_p (Or.inr y1)] at hQ
          exact hQ σ Sq.rf h
        · rw [cif_n (by rintro (z | z); exact z e; omega)] at hQ
          simp only [g6, g7, isS_some, true_and]
          refine X7_beginFile hS (fun x τ hs hc => ⟨1, rfl, fun _ => ?_, fun z => absurd (show ¬ (1 : Int) = 0 by decide) z⟩) (fun x => ⟨0, rfl, fun z => absurd rfl z, fun _ => ?_⟩)
          · rw [cif_n (by omega)] at hQ
            have hh := h.sta hw c hs hc
            simp only [hc.1.1, isS_some, true_and]
            exact X7_countOpen hc ⟨_, rfl, hQ τ hh.1 hh.2⟩
          · rw [cif_p x] at hQ
            exact hQ σ Sq.rf h
      · rw [cif_p (Or.inl e)] at hQ
        exact hQ σ Sq.rf h
    · rw [cif_n fun z => d z.2] at hQ; exact hQ σ Sq.rf h
  · rw [cif_n fun z => c z.1] at hQ; exact hQ σ Sq.rf h
set_option maxHeartbeats 4000000 in
theorem C_close {i f : Int} (h : ClC σ F S K n T) (hw : StW F S K n T) (hQ : ∀ τ, Sq σ τ inCl → ClC τ F (rClose F S i f).2 K n T → Q (some (vI (rClose F S i f).1)) τ) : Ca n_X8_close [vR (some 1), vI i, vI f] σ Q := by
  obtain ⟨f1, f2, f3, hF⟩ := toFl h
  unfold rClose stfP filQ lst at hQ
  refine vc_X8_close _ _ _ _ _ ⟨h.1.1, X8_isStation h (fun c => ⟨1, rfl, fun z => absurd z (by decide), fun _ => ?_⟩) (fun c => ⟨0, rfl, fun _ => ?_, fun z => absurd rfl z⟩)⟩
  · obtain ⟨g1, g2, g3, g4, g5, g6, g7, hS, hSW, hi5⟩ := toSt h hw c
    simp only [f1, f2, f3, isS_some, true_and]
    refine X0_isStored hF (fun d1 d2 => ⟨1, rfl, fun _ => ?_, fun z => absurd (show ¬ (1 : Int) = 0 by decide) z⟩) (fun d => ⟨0, rfl, fun z => absurd rfl z, fun _ => ?_⟩)
    · rw [cif_p ⟨c, d1, d2⟩] at hQ
      have hb := opl_bd (sts S i) f
      simp only [g1, g2, g3, g4, g5, g6, g7, isS_some, true_and]
      refine ⟨by decide, by decide, c.1, by omega, X7_bytesOf hS (fun y1 y2 => ⟨_, rfl, fun _ => ?_, fun z => (by cases z)⟩) (fun y => ⟨_, rfl, fun z => absurd rfl z, fun _ => ?_⟩)⟩
      · rw [cif_n (by omega)] at hQ
        simp only [g6, g7, isS_some, true_and]
        refine X7_endFile hS y1 (fun τ hs hc => ⟨rfl, ?_⟩)
        have hh := h.sta hw c (hs.wk fun c hc => by unfold inSt; omega) hc
        have hL := (hc.2.2.2.1 _ y1 hb.2.1).2
        simp only [hL.1.1, isS_some, true_and]
        exact X2_size hL (hSW.2.2.1 _ y1 hb.2.1).2.2.1 ⟨_, rfl, hQ τ hh.1 hh.2⟩
      · rw [cif_p (by omega)] at hQ
        exact hQ σ Sq.rf h
    · rw [cif_n fun z => d z.2] at hQ; exact hQ σ Sq.rf h
  · rw [cif_n fun z => c z.1] at hQ; exact hQ σ Sq.rf h
theorem C_receivedBytes {i f : Int} (h : ClC σ F S K n T) (hw : StW F S K n T) (hQ : Q (some (vI (rBytes F S i f))) σ) : Ca n_X8_receivedBytes [vR (some 1), vI i, vI f] σ Q := by
  obtain ⟨f1, f2, f3, hF⟩ := toFl h
  unfold rBytes stfP filQ lst at hQ
  refine vc_X8_receivedBytes _ _ _ _ _ ⟨h.1.1, X8_isStation h (fun c => ⟨1, rfl, fun z => absurd z (by decide), fun _ => ?_⟩) (fun c => ⟨0, rfl, fun _ => ?_, fun z => absurd rfl z⟩)⟩
  · obtain ⟨g1, g2, g3, g4, g5, g6, g7, hS, hSW, hi5⟩ := toSt h hw c
    simp only [f1, f2, f3, isS_some, true_and]
    refine X0_isStored hF (fun d1 d2 => ⟨1, rfl, fun _ => ?_, fun z => absurd (show ¬ (1 : Int) = 0 by decide) z⟩) (fun d => ⟨0, rfl, fun z => absurd rfl z, fun _ => ?_⟩)
    · rw [cif_p ⟨c, d1, d2⟩] at hQ
      have hb := opl_bd (sts S i) f
      simp only [g1, g2, g3, g4, g5, g6, g7, isS_some, true_and]
      refine ⟨by decide, by decide, c.1, by omega, X7_bytesOf hS (fun y1 y2 => ⟨_, rfl, fun _ => ?_, fun z => (by cases z)⟩) (fun y => ⟨_, rfl, fun z => absurd rfl z, fun _ => ?_⟩)⟩
      · rw [cif_n (by omega)] at hQ
        have hL := (hS.2.2.2.1 _ y1 hb.2.1).2
        simp only [hL.1.1, isS_some, true_and]
        exact X2_size hL (hSW.2.2.1 _ y1 hb.2.1).2.2.1 ⟨_, rfl, hQ⟩
      · rw [cif_p (by omega)] at hQ; exact hQ
    · rw [cif_n fun z => d z.2] at hQ; exact hQ
  · rw [cif_n fun z => c z.1] at hQ; exact hQ
theorem C_receivedByte {i f k : Int} (h : ClC σ F S K n T) (hw : StW F S K n T) (hk : k ≤ 2147483647) (hQ : Q (some (vI (rRByte F S i f k))) σ) : Ca n_X8_receivedByte [vR (some 1), vI i, vI f, vI k] σ Q := by
  obtain ⟨f1, f2, f3, hF⟩ := toFl h
  unfold rRByte stfP filQ lst at hQ
  refine vc_X8_receivedByte _ _ _ _ _ _ ⟨h.1.1, X8_isStation h (fun c => ⟨1, rfl, fun z => absurd z (by decide), fun _ => ?_⟩) (fun c => ⟨0, rfl, fun _ => ?_, fun z => absurd rfl z⟩)⟩
  · obtain ⟨g1, g2, g3, g4, g5, g6, g7, hS, hSW, hi5⟩ := toSt h hw c
    simp only [f1, f2, f3, isS_some, true_and]
    refine X0_isStored hF (fun d1 d2 => ⟨1, rfl, fun z => absurd z (by decide), fun _ => ⟨fun e => ?_, fun e => ?_⟩⟩) (fun d => ⟨0, rfl, fun _ => ?_, fun z => absurd rfl z⟩)
    · rw [cif_p ⟨⟨c, d1, d2⟩, e⟩] at hQ
      have hb := opl_bd (sts S i) f
      simp only [g1, g2, g3, g4, g5, g6, g7, isS_some, true_and]
      refine ⟨by decide, by decide, c.1, by omega, X7_bytesOf hS (fun y1 y2 => ⟨_, rfl, fun _ => ?_, fun z => (by cases z)⟩) (fun y => ⟨_, rfl, fun z => absurd rfl z, fun _ => ?_⟩)⟩
      · rw [cif_n (by omega)] at hQ
        have hL := (hS.2.2.2.1 _ y1 hb.2.1).2
        simp only [hL.1.1, isS_some, true_and]
        refine X2_overlap hL (hSW.2.2.1 _ y1 hb.2.1).2.2.1 e e hk hk ⟨_, rfl, fun x => ?_, fun x => ?_⟩
        · rw [cif_n (show ¬ hasB _ k = 0 from x)] at hQ
          simp only [f1, f2, f3, isS_some, true_and]
          exact X0_byteAt hF hw.1 d1 d2 ⟨_, rfl, hQ⟩
        · rw [cif_p (show hasB _ k = 0 from Decidable.not_not.mp x)] at hQ
          exact hQ
      · rw [cif_p (by omega)] at hQ; exact hQ
    · rw [cif_n fun z => e z.2] at hQ; exact hQ
    · rw [cif_n fun z => d z.1.2] at hQ; exact hQ
  · rw [cif_n fun z => c z.1.1] at hQ; exact hQ
theorem C_byteHole {i f x : Int} (h : ClC σ F S K n T) (hw : StW F S K n T) (hx : x ≤ 2147483647) (hQ : Q (some (vI (rBHole F S i f x))) σ) : Ca n_X8_byteHole [vR (some 1), vI i, vI f, vI x] σ Q := by
  obtain ⟨f1, f2, f3, hF⟩ := toFl h
  unfold rBHole stfP filQ filH at hQ
  have hFW := hw.1
  refine vc_X8_byteHole _ _ _ _ _ _ ⟨h.1.1, X8_isStation h (fun c => ⟨1, rfl, fun z => absurd z (by decide), fun _ => ?_⟩) (fun c => ⟨0, rfl, fun _ => ?_, fun z => absurd rfl z⟩)⟩
  · obtain ⟨g1, g2, g3, g4, g5, g6, g7, hS, hSW, hi5⟩ := toSt h hw c
    simp only [f1, f2, f3, isS_some, true_and]
    refine X0_isStored hF (fun d1 d2 => ⟨1, rfl, fun z => absurd z (by decide), fun _ => ⟨fun e => ?_, fun e => ?_⟩⟩) (fun d => ⟨0, rfl, fun _ => ?_, fun z => absurd rfl z⟩)
    · rw [cif_p ⟨⟨c, d1, d2⟩, e⟩] at hQ
      have hb := opl_bd (sts S i) f
      have hfl := hFW.2.2 f d1 d2
      have h30 := hFW.2.1
      simp only [g1, g2, g3, g4, g5, g6, g7, isS_some, true_and]
      refine ⟨by decide, by decide, c.1, by omega, X7_bytesOf hS (fun y1 y2 => ⟨_, rfl, fun _ => ?_, fun z => (by cases z)⟩) (fun y => ⟨_, rfl, fun z => absurd rfl z, fun _ => ?_⟩)⟩
      · rw [cif_n (by omega)] at hQ
        have hL := (hS.2.2.2.1 _ y1 hb.2.1).2
        simp only [f1, f2, f3, hF.1.2.1, hF.1.2.2.2.2.2.1, (hF.2.2 f d1 d2).1, hL.1.1, isS_some, true_and]
        rw [wr_i (x := F.2 f 0 - 1) (by omega)]
        exact ⟨d1, by omega, X2_holeNumber hL (hSW.2.2.1 _ y1 hb.2.1).2.2.1 (by omega) (by omega) e hx ⟨_, rfl, hQ⟩⟩
      · rw [cif_p (by omega)] at hQ; exact hQ
    · rw [cif_n fun z => e z.2] at hQ; exact hQ
    · rw [cif_n fun z => d z.1.2] at hQ; exact hQ
  · rw [cif_n fun z => c z.1.1] at hQ; exact hQ
/-- the files counted one by one, or the places -/
noncomputable def cmF (F : Fl) (S : Sa) (i f : Int) : Int := cif (cmpP F S i f) 1 0
theorem cm_bd {i : Int} : ∀ j, 0 ≤ j → j ≤ F.1 → 0 ≤ smI (cmF F S i) j ∧ smI (cmF F S i) j ≤ j := by
  intro j h0 h1
  have := smI_bd (f := cmF F S i) (n := F.1) (lo := 0) (hi := 1) (fun f _ _ => by
    by_cases e : cmpP F S i f
    · unfold cmF; rw [cif_p e]; omega
    · unfold cmF; rw [cif_n e]; omega) (by omega) (by omega) j h0 h1
  omega
theorem opl_of {F : Fl} {s : St} (hw : SW F s) {k : Int} (h0 : 0 ≤ k) (h3 : k < 3) (hk : 0 ≤ of_ s k) : opl s (of_ s k) = k := by
  have hb := opl_bd s (of_ s k)
  have hne : 0 ≤ opl s (of_ s k) := by
    unfold opl
    split
    · decide
    · split
      · decide
      · next a b =>
        split
        · decide
        · next c =>
          exfalso
          have : k = 0 ∨ k = 1 ∨ k = 2 := by omega
          rcases this with z | z | z
          · rw [z] at a; exact a rfl
          · rw [z] at b; exact b rfl
          · rw [z] at c; exact c rfl
  have := (hw.2.2.1 k h0 h3).2.2.2.2 (opl s (of_ s k)) hne hb.2.1 hk (hb.2.2 hne)
  exact this
theorem com_eq {i : Int} (hw : SW F (sts S i)) (hFW : FW F) : smI (cmF F S i) F.1 = smI (comF F S i) 3 := by
  have hf0 := hFW.1
  -- the places whose file is below j
  have cnt : ∀ j, 0 ≤ j → j ≤ F.1 → smI (cmF F S i) j = smI (fun k => cif (of_ (sts S i) k < j) (comF F S i k) 0) 3 := by
    refine smI_ind (f := cmF F S i) (n := F.1) (fun j x => x = smI (fun k => cif (of_ (sts S i) k < j) (comF F S i k) 0) 3) ?_ ?_
    · show (0 : Int) = _
      have hz : ∀ k, 0 ≤ k → k < 3 → (fun k => cif (of_ (sts S i) k < 0) (comF F S i k) 0) k = (fun _ => (0 : Int)) k := by
        intro k k0 k1
        show cif (of_ (sts S i) k < 0) (comF F S i k) 0 = 0
        by_cases e : of_ (sts S i) k < 0
        · rw [cif_p e]; unfold comF; rw [cif_n (by omega)]
        · rw [cif_n e]
      rw [smI_congr hz 3 (by omega) (by omega)]
      rfl
    · intro j x j0 j1 hx
      rw [hx]
      have s3 : ∀ g : Int → Int, smI g 3 = g 0 + g 1 + g 2 := by
        intro g
        have a := smI_s (f := g) (i := 2) (by omega)
        have b := smI_s (f := g) (i := 1) (by omega)
        have c := smI_s (f := g) (i := 0) (by omega)
        rw [show (2 : Int) + 1 = 3 by omega] at a
        rw [show (1 : Int) + 1 = 2 by omega] at b
        rw [show (0 : Int) + 1 = 1 by omega, smI_0] at c
        omega
      rw [s3, s3]
      -- a place counts anew just if its file is j
      have one : ∀ k, 0 ≤ k → k < 3 → cif (of_ (sts S i) k < j + 1) (comF F S i k) 0 = cif (of_ (sts S i) k < j) (comF F S i k) 0 + cif (of_ (sts S i) k = j) (comF F S i k) 0 := by
        intro k k0 k1
        rcases Int.lt_trichotomy (of_ (sts S i) k) j with e | e | e
        · rw [cif_p (by omega), cif_p e, cif_n (by omega)]; omega
        · rw [cif_p (by omega), cif_n (by omega), cif_p e]; omega
        · rw [cif_n (by omega), cif_n (by omega), cif_n (by omega)]; omega
      show _ + cmF F S i j = cif (of_ (sts S i) 0 < j + 1) (comF F S i 0) 0 + cif (of_ (sts S i) 1 < j + 1) (comF F S i 1) 0 + cif (of_ (sts S i) 2 < j + 1) (comF F S i 2) 0
      rw [one 0 (by omega) (by omega), one 1 (by omega) (by omega), one 2 (by omega) (by omega)]
      have key : cmF F S i j = cif (of_ (sts S i) 0 = j) (comF F S i 0) 0 + cif (of_ (sts S i) 1 = j) (comF F S i 1) 0 + cif (of_ (sts S i) 2 = j) (comF F S i 2) 0 := by
        have hb := opl_bd (sts S i) j
        have tr : ∀ k, 0 ≤ k → k < 3 → of_ (sts S i) k = j → cmF F S i j = comF F S i k := by
          intro k k0 k1 e
          have ho := opl_of hw k0 k1 (by omega)
          rw [e] at ho
          unfold cmF comF cmpP
          rw [ho, e]
          by_cases z : sizeL (ol (sts S i) k) = F.2 j 0
          · rw [cif_p ⟨k0, by omega, z⟩, cif_p ⟨j0, z⟩]
          · rw [cif_n fun y => z y.2.2, cif_n fun y => z y.2]
        have di : ∀ k l : Int, 0 ≤ k → k < 3 → 0 ≤ l → l < 3 → of_ (sts S i) k = j → of_ (sts S i) l = j → l = k := fun k l k0 k1 l0 l1 e e2 => (hw.2.2.1 k k0 k1).2.2.2.2 l l0 l1 (by omega) (by omega)
        by_cases e0 : of_ (sts S i) 0 = j
        · have n1 : ¬ of_ (sts S i) 1 = j := fun z => by have := di 0 1 (by omega) (by omega) (by omega) (by omega) e0 z; omega
          have n2 : ¬ of_ (sts S i) 2 = j := fun z => by have := di 0 2 (by omega) (by omega) (by omega) (by omega) e0 z; omega
          rw [cif_p e0, cif_n n1, cif_n n2, tr 0 (by omega) (by omega) e0]
          omega
        · by_cases e1 : of_ (sts S i) 1 = j
          · have n2 : ¬ of_ (sts S i) 2 = j := fun z => by have := di 1 2 (by omega) (by omega) (by omega) (by omega) e1 z; omega
            rw [cif_n e0, cif_p e1, cif_n n2, tr 1 (by omega) (by omega) e1]
            omega
          · by_cases e2 : of_ (sts S i) 2 = j
            · rw [cif_n e0, cif_n e1, cif_p e2, tr 2 (by omega) (by omega) e2]
              omega
            · rw [cif_n e0, cif_n e1, cif_n e2]
              unfold cmF cmpP
              rw [cif_n]
              · omega
              · intro z
                have := hb.2.2 z.1
                have h3 : opl (sts S i) j = 0 ∨ opl (sts S i) j = 1 ∨ opl (sts S i) j = 2 := by omega
                rcases h3 with y | y | y
                · rw [y] at this; exact e0 this
                · rw [y] at this; exact e1 this
                · rw [y] at this; exact e2 this
      rw [key]
      omega
  rw [cnt F.1 hf0 (by omega)]
  refine smI_congr (n := 3) (fun k k0 k1 => ?_) 3 (by omega) (by omega)
  exact cif_p (hw.2.2.1 k k0 k1).2.1
set_option maxHeartbeats 4000000 in
theorem C_completeFiles {i : Int} (h : ClC σ F S K n T) (hw : StW F S K n T) (hQ : Q (some (vI (rComp F S i))) σ) : Ca n_X8_completeFiles [vR (some 1), vI i] σ Q := by
  unfold rComp at hQ
  refine vc_X8_completeFiles _ _ _ _ ⟨h.1.1, X8_isStation h (fun c => ⟨1, rfl, fun _ => ?_, fun z => absurd (show ¬ (1 : Int) = 0 by decide) z⟩) (fun c => ⟨0, rfl, fun z => absurd rfl z, fun _ => ?_⟩)⟩
  · obtain ⟨g1, g2, g3, g4, g5, g6, g7, hS, hSW, hi5⟩ := toSt h hw c
    rw [cif_p c] at hQ
    obtain ⟨⟨m0, m1, m2, m3, m4⟩, hF, hSa, -⟩ := id h
    have hFW := hw.1
    have hf0 := hFW.1
    have hf1 := hFW.2.1
    rw [← com_eq hSW hFW] at hQ
    have key : ∀ (k : Nat) (j x : Int), 0 ≤ j → j ≤ F.1 → F.1 - j < k → x = smI (cmF F S i) j → At n_X8_completeFiles 14 [some (vR (some 1)), some (vI i), some (vI x), some (vI j)] [] σ Q := by
      intro k
      induction k with
      | zero => intro j x h0 h1 h2; omega
      | succ k ih =>
        intro j x h0 h1 h2 hx
        have hss := smI_s (f := cmF F S i) h0
        have hbd := cm_bd (F := F) (S := S) (i := i) j h0 h1
        rw [← hx] at hss hbd
        refine vc_X8_completeFiles_14 _ _ _ _ _ _ ?_
        simp only [m0, m1, m2, g3, hF.1.1, hF.2.1, isS_some, true_and]
        refine ⟨fun e => ?_, fun e => ?_⟩
        · have ej : j = F.1 := by omega
          rw [hx, ej]; exact hQ
        · rw [wr_i (x := j + 1) (by omega), wr_i (x := x + 1) (by omega)]
          refine X6_isComplete hSa hw.2.1 hF hFW c.1 c.2 h0 (by omega) (fun d => ⟨1, rfl, fun z => absurd z (by decide), fun _ => ?_⟩) (fun d => ⟨0, rfl, fun _ => ?_, fun z => absurd rfl z⟩)
          · refine ih _ _ (by omega) (by omega) (by omega) ?_
            rw [hss]
            unfold cmF
            rw [cif_p d]
          · refine ih _ _ (by omega) (by omega) (by omega) ?_
            rw [hss]
            unfold cmF
            rw [cif_n d]
            omega
    exact key (F.1 + 1).toNat 0 0 (by omega) hf0 (by omega) rfl
  · rw [cif_n c] at hQ; exact hQ
/-- another queue, the rest as it was -/
theorem ClC.que {τ : ms_T} {L : List Rq} (h : ClC σ F S K n T) (hw : StW F S K n T) (hs : Sq σ τ (inQu 9)) (hC : SaC τ 7 (quS S L)) : Sq σ τ inCl ∧ ClC τ F (quS S L) K n T := by
  have hn0 := hw.2.1.1.1
  exact ⟨hs.wk fun c hc => by unfold inQu at hc; unfold inCl; omega, h.sat (hs.wk fun c hc => Qu_Sa hc) hC (fun j a b => (h.2.2.2.1 j a b).ag (hs.ag fun c hc => by have a : nst S ≤ j := a; unfold inSt sa at hc; unfold inQu; omega)) (h.2.2.2.2.2.2.ag (hs.ag fun c hc => by unfold inQu; omega))⟩
theorem C_requestDirectory {i : Int} (h : ClC σ F S K n T) (hw : StW F S K n T) (hQ : ∀ τ, Sq σ τ inCl → ClC τ F (rReqD S i).2 K n T → Q (some (vI (rReqD S i).1)) τ) : Ca n_X8_requestDirectory [vR (some 1), vI i] σ Q := by
  have hn1 := hw.2.2.1
  unfold rReqD at hQ
  refine vc_X8_requestDirectory _ _ _ _ ⟨h.1.1, X8_isStation h (fun c => ⟨1, rfl, fun _ => ?_, fun z => absurd (show ¬ (1 : Int) = 0 by decide) z⟩) (fun c => ⟨0, rfl, fun z => absurd rfl z, fun _ => ?_⟩)⟩
  · rw [cif_p c] at hQ
    simp only [h.1.1, h.1.2.2.1, h.2.2.1.1.1.1, isS_some, true_and]
    refine X6_askDirectory h.2.2.1 hw.2.1 (by omega) c.1 c.2 (fun d => ⟨_, rfl, ?_⟩) (fun d1 d2 d3 => ⟨_, rfl, ?_⟩) (fun d1 d2 d3 τ hs hC => ⟨_, rfl, ?_⟩)
    · rw [cif_n d] at hQ; exact hQ σ Sq.rf h
    · rw [cif_p ⟨d1, d2⟩, cif_p d3] at hQ; exact hQ σ Sq.rf h
    · rw [cif_p ⟨d1, d2⟩, cif_n (by omega)] at hQ
      have hh := h.que hw hs.q hC
      exact hQ τ hh.1 hh.2
  · rw [cif_n c] at hQ; exact hQ σ Sq.rf h
theorem C_requestFile {i f : Int} (h : ClC σ F S K n T) (hw : StW F S K n T) (hQ : ∀ τ, Sq σ τ inCl → ClC τ F (rReqF F S i f).2 K n T → Q (some (vI (rReqF F S i f).1)) τ) : Ca n_X8_requestFile [vR (some 1), vI i, vI f] σ Q := by
  have hn1 := hw.2.2.1
  obtain ⟨f1, f2, f3, hF⟩ := toFl h
  unfold rReqF stfP filQ at hQ
  refine vc_X8_requestFile _ _ _ _ _ ⟨h.1.1, X8_isStation h (fun c => ⟨1, rfl, fun z => absurd z (by decide), fun _ => ?_⟩) (fun c => ⟨0, rfl, fun _ => ?_, fun z => absurd rfl z⟩)⟩
  · simp only [f1, f2, f3, isS_some, true_and]
    refine X0_isStored hF (fun d1 d2 => ⟨1, rfl, fun _ => ?_, fun z => absurd (show ¬ (1 : Int) = 0 by decide) z⟩) (fun d => ⟨0, rfl, fun z => absurd rfl z, fun _ => ?_⟩)
    · rw [cif_p ⟨c, d1, d2⟩] at hQ
      simp only [h.1.1, h.1.2.2.1, h.2.2.1.1.1.1, isS_some, true_and]
      refine X6_askFile h.2.2.1 hw.2.1 hF hw.1 (by decide) (by omega) c.1 c.2 d1 d2 (fun e => ⟨_, rfl, ?_⟩) (fun e1 e2 => ⟨_, rfl, ?_⟩) (fun e1 e2 τ hs hC => ⟨_, rfl, ?_⟩)
      · rw [cif_n e] at hQ; exact hQ σ Sq.rf h
      · rw [cif_p e1, cif_p e2] at hQ; exact hQ σ Sq.rf h
      · rw [cif_p e1, cif_n (by omega)] at hQ
        have hh := h.que hw hs.q hC
        exact hQ τ hh.1 hh.2
    · rw [cif_n fun z => d z.2] at hQ; exact hQ σ Sq.rf h
  · rw [cif_n fun z => c z.1] at hQ; exact hQ σ Sq.rf h
theorem C_withdraw {i : Int} (h : ClC σ F S K n T) (hw : StW F S K n T) (hQ : ∀ τ, Sq σ τ inCl → ClC τ F (rWith S i).2 K n T → Q (some (vI (rWith S i).1)) τ) : Ca n_X8_withdraw [vR (some 1), vI i] σ Q := by
  unfold rWith at hQ
  have hn5 := hw.2.1.1.2
  refine vc_X8_withdraw _ _ _ _ ⟨h.1.1, X8_isStation h (fun c => ⟨1, rfl, fun _ => ?_, fun z => absurd (show ¬ (1 : Int) = 0 by decide) z⟩) (fun c => ⟨0, rfl, fun z => absurd rfl z, fun _ => ?_⟩)⟩
  · rw [cif_p c] at hQ
    obtain ⟨⟨⟨k1, k2, k3, k4, k5, k6, k7, k8, k9⟩, k10, k11⟩, e6, e2, hst, hq, ht⟩ := id h.2.2.1
    have hq' := hq
    obtain ⟨p, ⟨q1, q2, q3⟩, q4, -⟩ := hq
    simp only [h.1.1, h.1.2.2.1, k1, k4, q1, isS_some, true_and]
    refine X3_placeOf hq' ⟨_, rfl, fun d => ?_, fun d => ?_⟩
    · rw [cif_n (by omega)] at hQ
      have hb := frI_bd (p := fun j => decide (rst (qg (que S) j) = i)) (ql (que S)).toNat
      have hnn := ql_nn (que S)
      have hlt : plQ (que S) i < ql (que S) := by unfold plQ; omega
      simp only [k4, q1, isS_some, true_and]
      refine X3_remove hq' d hlt (fun τ hs hC => ⟨rfl, ?_⟩)
      have hCs := h.2.2.1.quU hn5 hs hC
      have hh := h.que hw hs hCs
      obtain ⟨p', ⟨v1, v2, v3⟩, v4, -⟩ := id hC
      rw [ql_rm d hlt] at v4
      simp only [v1, v4, isS_some, true_and]
      exact hQ τ hh.1 hh.2
    · rw [cif_p (by omega)] at hQ; exact hQ σ Sq.rf h
  · rw [cif_n c] at hQ; exact hQ σ Sq.rf h
theorem C_queueLength (h : ClC σ F S K n T) (hQ : Q (some (vI (ql (que S)))) σ) : Ca n_X8_queueLength [vR (some 1)] σ Q := by
  obtain ⟨⟨⟨k1, k2, k3, k4, k5, k6, k7, k8, k9⟩, k10, k11⟩, e6, e2, hst, ⟨p, ⟨q1, q2, q3⟩, q4, -⟩, ht⟩ := h.2.2.1
  refine vc_X8_queueLength _ _ _ ?_
  simp only [h.1.1, h.1.2.2.1, k1, k4, q1, q4, isS_some, true_and]
  exact hQ
set_option maxHeartbeats 4000000 in
theorem C_queued {p w : Int} (h : ClC σ F S K n T) (hw : StW F S K n T) (hQ : Q (some (vI (rQued S p w))) σ) : Ca n_X8_queued [vR (some 1), vI p, vI w] σ Q := by
  obtain ⟨⟨⟨k1, k2, k3, k4, k5, k6, k7, k8, k9⟩, k10, k11⟩, e6, e2, hst, ⟨π, ⟨q1, q2, q3⟩, q4, q5, q6, q7, q8, q9⟩, ht⟩ := h.2.2.1
  unfold rQued at hQ
  refine vc_X8_queued _ _ _ _ _ ⟨fun c => ?_, fun c => X8_within (fun d => ⟨1, rfl, fun _ => ?_, fun z => absurd (show ¬ (1 : Int) = 0 by decide) z⟩) (fun d => ⟨0, rfl, fun z => absurd rfl z, fun _ => ?_⟩)⟩
  · rw [cif_n (by omega)] at hQ; exact hQ
  · rw [cif_p ⟨by omega, d⟩] at hQ
    simp only [h.1.1, h.1.2.2.1, k1, k4, q1, q2, q3, q4, isS_some, true_and]
    refine ⟨fun e => ?_, fun e => ?_⟩
    · rw [cif_p e] at hQ
      have hr := q9 p (by omega) e
      have hrw := hw.2.1.2.2.2.2.1 p (by omega) e
      simp only [(q6 p (by omega) (by omega)).1, hr.1.1, hr.1.2.1, hr.2.1.1, hr.2.1.2.1, hr.2.1.2.2, hr.2.2.1.1, hr.2.2.2.1, isS_some, true_and]
      unfold qudF at hQ
      refine ⟨by decide, by decide, by omega, by omega, fun g => ?_, fun g => ?_, fun g => ?_, fun g => ?_, fun g => ?_, fun g => ?_, trivial⟩
      · have g' : w < 0 ∨ 0 + (((5 : Nat) : Int) : Int) ≤ w := g
        rw [if_neg (by omega), if_neg (by omega), if_neg (by omega), if_neg (by omega), if_neg (by omega)] at hQ; exact hQ
      · rw [if_pos g] at hQ; exact hQ
      · rw [if_neg (by omega), if_pos (by omega)] at hQ
        refine X4_isForDirectory hr (fun x => ⟨1, rfl, fun z => absurd z (by decide), fun _ => ?_⟩) (fun x => ⟨0, rfl, fun _ => ?_, fun z => absurd rfl z⟩)
        · rw [if_pos x] at hQ; exact hQ
        · rw [if_neg x] at hQ; exact hQ
      · rw [if_neg (by omega), if_neg (by omega), if_pos (by omega)] at hQ; exact hQ
      · rw [if_neg (by omega), if_neg (by omega), if_neg (by omega), if_pos (by omega)] at hQ; exact hQ
      · rw [if_neg (by omega), if_neg (by omega), if_neg (by omega), if_neg (by omega), if_pos (by omega)] at hQ
        exact X2_size hr.2.2 hrw.2.2.1 ⟨_, rfl, hQ⟩
    · rw [cif_n e] at hQ; exact hQ
  · rw [cif_n fun z => d z.2] at hQ; exact hQ
end API
