theorem X8_within {v lo hi : Int} {σ : ms_T} {Q : mq_T} (h1 : lo ≤ v ∧ v ≤ hi → Q (some (vI 1)) σ) (h0 : ¬ (lo ≤ v ∧ v ≤ hi) → Q (some (vI 0)) σ) : Ca n_X8_within [vI v, vI lo, vI hi] σ Q :=
  vc_X8_within _ _ _ _ _ ⟨fun e => ⟨Or.inl rfl, h0 (by omega)⟩, fun e => ⟨fun e2 => ⟨Or.inl rfl, h0 (by omega)⟩, fun e2 => ⟨Or.inr rfl, h1 (by omega)⟩⟩⟩
section API
variable {σ : ms_T} {F : Fl} {S : Sa} {K : Int → Int} {n : Int} {T : Int → Int} {Q : mq_T}
theorem X8_isStation {i : Int} (h : ClC σ F S K n T) (h1 : stnP S i → Q (some (vI 1)) σ) (h0 : ¬ stnP S i → Q (some (vI 0)) σ) : Ca n_X8_isStation [vR (some 1), vI i] σ Q := by
  obtain ⟨⟨m0, m1, m2, m3, m4⟩, hF, ⟨⟨⟨k1, -⟩, -⟩, e6, e2, -⟩, -⟩ := h
  unfold stnP at h1 h0
  refine vc_X8_isStation _ _ _ _ ?_
  simp only [m0, m2, k1, e2, isS_some, true_and]
  exact ⟨fun e => ⟨by simp, h0 (by omega)⟩, fun e => ⟨fun e2 => ⟨by simp, h0 (by omega)⟩, fun e2 => ⟨by simp, h1 (by omega)⟩⟩⟩
/-- shapes on the way to a station -/
theorem toSt {i : Int} (h : ClC σ F S K n T) (hw : StW F S K n T) (hi : stnP S i) : gs σ 1 = (8, 0) ∧ gr σ 1 1 = some 7 ∧ gs σ 7 = (6, 0) ∧ gr σ 7 1 = some 8 ∧ gs σ 8 = (67, 5) ∧ gr σ 8 i.toNat = some (sa 7 i) ∧ gs σ (sa 7 i) = (7, 0) ∧ StC σ (sa 7 i) i (sts S i) ∧ SW F (sts S i) ∧ i < 5 := by
  obtain ⟨⟨m0, m1, m2, m3, m4⟩, hF, ⟨⟨⟨k1, k2, k3, k4, k5, k6, k7, k8, k9⟩, k10, k11⟩, e6, e2, hst, -⟩, -⟩ := h
  have hS := hst i hi.1 hi.2
  have hw5 := hw.2.1.1.2
  have hi2 := hi.2
  exact ⟨m0, m2, k1, k3, k7, k10 i hi.1 (by omega), hS.1.1, hS, hw.2.1.2.2.1 i hi.1 hi.2, by omega⟩
theorem C_inView {i t : Int} (h : ClC σ F S K n T) (hw : StW F S K n T) (hQ : Q (some (vI (rInView S i t))) σ) : Ca n_X8_inView [vR (some 1), vI i, vI t] σ Q := by
  have m0 := h.1.1
  unfold rInView askP at hQ
  refine vc_X8_inView _ _ _ _ _ ⟨m0, X8_isStation h (fun c => ⟨1, rfl, fun z => absurd z (by decide), fun _ => ?_⟩) (fun c => ⟨0, rfl, fun _ => ?_, fun z => absurd rfl z⟩)⟩
  · obtain ⟨g1, g2, g3, g4, g5, g6, g7, hS, hSW, hi5⟩ := toSt h hw c
    refine X8_within (fun d => ⟨1, rfl, fun _ => ?_, fun z => absurd (show ¬ (1 : Int) = 0 by decide) z⟩) (fun d => ⟨0, rfl, fun z => absurd rfl z, fun _ => ?_⟩)
    · rw [cif_p ⟨c, d⟩] at hQ
      simp only [g1, g2, g3, g4, g5, g6, g7, isS_some, true_and]
      refine ⟨by decide, by decide, c.1, by omega, X7_sees hS hSW d.1 (by omega) (fun e => ⟨1, rfl, fun z => absurd z (by decide), fun _ => ?_⟩) (fun e => ⟨0, rfl, fun _ => ?_, fun z => absurd rfl z⟩)⟩
      · rw [cif_p e] at hQ; exact hQ
      · rw [cif_n e] at hQ; exact hQ
    · rw [cif_n fun z => d z.2] at hQ; exact hQ
  · rw [cif_n fun z => c z.1] at hQ; exact hQ
theorem C_nextView {i t : Int} (h : ClC σ F S K n T) (hw : StW F S K n T) (hQ : Q (some (vI (rNext S i t))) σ) : Ca n_X8_nextView [vR (some 1), vI i, vI t] σ Q := by
  have m0 := h.1.1
  unfold rNext askP at hQ
  refine vc_X8_nextView _ _ _ _ _ ⟨m0, X8_isStation h (fun c => ⟨1, rfl, fun z => absurd z (by decide), fun _ => ?_⟩) (fun c => ⟨0, rfl, fun _ => ?_, fun z => absurd rfl z⟩)⟩
  · obtain ⟨g1, g2, g3, g4, g5, g6, g7, hS, hSW, hi5⟩ := toSt h hw c
    refine X8_within (fun d => ⟨1, rfl, fun _ => ?_, fun z => absurd (show ¬ (1 : Int) = 0 by decide) z⟩) (fun d => ⟨0, rfl, fun z => absurd rfl z, fun _ => ?_⟩)
    · rw [cif_p ⟨c, d⟩] at hQ
      simp only [g1, g2, g3, g4, g5, g6, g7, isS_some, true_and]
      exact ⟨by decide, by decide, c.1, by omega, X7_firstSight hS hSW d.1 (by omega) ⟨_, rfl, hQ⟩⟩
    · rw [cif_n fun z => d z.2] at hQ; exact hQ
  · rw [cif_n fun z => c z.1] at hQ; exact hQ
theorem C_receives {i t : Int} (h : ClC σ F S K n T) (hw : StW F S K n T) (hQ : Q (some (vI (rRecv S i t))) σ) : Ca n_X8_receives [vR (some 1), vI i, vI t] σ Q := by
  have m0 := h.1.1
  unfold rRecv askP at hQ
  refine vc_X8_receives _ _ _ _ _ ⟨m0, X8_isStation h (fun c => ⟨1, rfl, fun z => absurd z (by decide), fun _ => ?_⟩) (fun c => ⟨0, rfl, fun _ => ?_, fun z => absurd rfl z⟩)⟩
  · obtain ⟨g1, g2, g3, g4, g5, g6, g7, hS, hSW, hi5⟩ := toSt h hw c
    refine X8_within (fun d => ⟨1, rfl, fun _ => ?_, fun z => absurd (show ¬ (1 : Int) = 0 by decide) z⟩) (fun d => ⟨0, rfl, fun z => absurd rfl z, fun _ => ?_⟩)
    · rw [cif_p ⟨c, d⟩] at hQ
      simp only [g1, g2, g3, g4, g5, g6, g7, isS_some, true_and]
      refine ⟨by decide, by decide, c.1, by omega, X7_sees hS hSW d.1 (by omega) (fun e => ⟨1, rfl, fun z => absurd z (by decide), fun _ => ?_⟩) (fun e => ⟨0, rfl, fun _ => ?_, fun z => absurd rfl z⟩)⟩
      · simp only [g6, g7, isS_some, true_and]
        refine X7_isHit hS c.1 (by omega) d.1 (by omega) (fun f => ⟨1, rfl, fun _ => ?_, fun z => absurd (show ¬ (1 : Int) = 0 by decide) z⟩) (fun f => ⟨0, rfl, fun z => absurd rfl z, fun _ => ?_⟩)
        · rw [cif_n fun z => z.2 f] at hQ; exact hQ
        · rw [cif_p ⟨e, f⟩] at hQ; exact hQ
      · rw [cif_n fun z => e z.1] at hQ; exact hQ
    · rw [cif_n fun z => d z.2] at hQ; exact hQ
  · rw [cif_n fun z => c z.1] at hQ; exact hQ
theorem Sm_Cl {τ : ms_T} {P : Nat → Prop} (h : Sm σ τ P) (hP : ∀ c, P c → inCl c) : Sq σ τ inCl := h.q.wk hP
theorem C_addStation {p o d r : Int} (h : ClC σ F S K n T) (hw : StW F S K n T) (hQ : ∀ τ, Sq σ τ inCl → ClC τ F (rAdd S p o d r).2 K n T → Q (some (vI (rAdd S p o d r).1)) τ) : Ca n_X8_addStation [vR (some 1), vI p, vI o, vI d, vI r] σ Q := by
  have bad : ¬ addP p o d r → Q (some (vI (-1))) σ := fun z => by unfold rAdd at hQ; rw [cif_n z] at hQ; exact hQ σ Sq.rf h
  have h' := h
  obtain ⟨⟨m0, m1, m2, m3, m4⟩, hF, hS, hf, him, hT, hK⟩ := h
  have hn5 := hw.2.1.1.2
  have hn0 := hw.2.1.1.1
  unfold addP at bad
  refine vc_X8_addStation _ _ _ _ _ _ _ ?_
  refine X8_within (fun c1 => ⟨1, rfl, fun z => absurd z (by decide), fun _ => ?_⟩) (fun c1 => ⟨0, rfl, fun _ => bad fun z => c1 z.1, fun z => absurd rfl z⟩)
  refine X8_within (fun c2 => ⟨1, rfl, fun z => absurd z (by decide), fun _ => ?_⟩) (fun c2 => ⟨0, rfl, fun _ => bad fun z => c2 z.2.1, fun z => absurd rfl z⟩)
  refine X8_within (fun c3 => ⟨1, rfl, fun z => absurd z (by decide), fun _ => ?_⟩) (fun c3 => ⟨0, rfl, fun _ => bad fun z => c3 z.2.2.1, fun z => absurd rfl z⟩)
  refine X8_within (fun c4 => ⟨1, rfl, fun _ => ?_, fun z => absurd (show ¬ (1 : Int) = 0 by decide) z⟩) (fun c4 => ⟨0, rfl, fun z => absurd rfl z, fun _ => bad fun z => c4 z.2.2.2⟩)
  have hP : addP p o d r := ⟨c1, c2, c3, c4⟩
  unfold rAdd at hQ
  rw [cif_p hP] at hQ
  simp only [m0, m2, hS.1.1.1, isS_some, true_and]
  refine X6_admit hS hn0 hn5 (fun z => hf (nst S) (Int.le_refl _) z) (fun z => ⟨_, rfl, ?_⟩) (fun z τ hs hC => ⟨_, rfl, ?_⟩)
  · rw [cif_p z] at hQ
    exact hQ σ Sq.rf h'
  · rw [cif_n (by omega)] at hQ
    have hsa : Sm σ τ (inSa 7) := hs.wk fun c hc => by
      rcases hc with hc | hc
      · unfold inSa; omega
      · unfold sa at hc; unfold inSa; omega
    refine hQ τ (hsa.q.wk fun c hc => by unfold inSa at hc; unfold inCl; omega) (h'.sat hsa.q hC (fun i a b => ?_) (hK.ag (hs.ag fun c hc => by unfold sa; omega)))
    have a : nst S + 1 ≤ i := a
    have e : sts (admS S p o d r) i = sts S i := up_ne (by omega)
    rw [e]
    exact (hf i (by omega) b).ag (hs.ag fun c hc => by unfold inSt sa at hc; unfold sa; omega)
theorem C_setLoss {i r : Int} (h : ClC σ F S K n T) (hw : StW F S K n T) (hQ : ∀ τ, Sq σ τ inCl → ClC τ F (rLoss S i r).2 K n T → Q (some (vI (rLoss S i r).1)) τ) : Ca n_X8_setLoss [vR (some 1), vI i, vI r] σ Q := by
  have h' := h
  unfold rLoss losP at hQ
  refine vc_X8_setLoss _ _ _ _ _ ⟨h.1.1, X8_isStation h (fun c => ⟨1, rfl, fun z => absurd z (by decide), fun _ => ?_⟩) (fun c => ⟨0, rfl, fun _ => ?_, fun z => absurd rfl z⟩)⟩
  · obtain ⟨g1, g2, g3, g4, g5, g6, g7, hS, hSW, hi5⟩ := toSt h hw c
    refine X8_within (fun d => ⟨1, rfl, fun _ => ?_, fun z => absurd (show ¬ (1 : Int) = 0 by decide) z⟩) (fun d => ⟨0, rfl, fun z => absurd rfl z, fun _ => ?_⟩)
    · rw [cif_p ⟨c, d⟩] at hQ
      simp only [g1, g2, g3, g4, g5, g6, g7, isS_some, true_and]
      obtain ⟨-, hF, hSa, hf, him, hT, hK⟩ := h
      have hn5 := hw.2.1.1.2
      have hs : Sm σ (sI σ (sa 7 i) 5 r) (fun c => c = sa 7 i) := Sm.one
      have hc := hS.scU (k := 5) (w := 4) (v := r) (by omega) rfl
      have hC := hSa.stU hn5 c.1 hi5 (hs.wk fun c hc => by unfold inSt; omega) hc
      rw [hS.2.1.2.2.2.2.2.1]
      have c2 := c.2
      have c1 := c.1
      refine ⟨by decide, by decide, c.1, by omega, hQ _ (hs.q.wk fun c hc => by unfold sa at hc; unfold inCl; omega) (h'.sat (hs.q.wk fun c hc => by unfold sa at hc; unfold inSa; omega) hC (fun j a b => ?_) (hK.ag (hs.ag fun c hc => by unfold sa; omega)))⟩
      have a : nst S ≤ j := a
      have e : sts (losS S i r) j = sts S j := up_ne (by omega)
      show StC _ _ _ (sts (losS S i r) j)
      rw [e]
      exact (hf j a b).ag (hs.ag fun c hc => by unfold inSt sa at hc; unfold sa; omega)
    · rw [cif_n fun z => d z.2] at hQ; exact hQ σ Sq.rf h'
  · rw [cif_n fun z => c z.1] at hQ; exact hQ σ Sq.rf h'
set_option maxHeartbeats 4000000 in
theorem X0_put {a : Nat} {l s t m : Int} (h : FlC σ a F) (hF : FW F) (h0 : 30 ≤ F.1 → Q (some (vI (-3))) σ) (h1 : F.1 < 30 → ∀ τ, Sm σ τ (inF a) → FlC τ a (stoF F m l s t) → Q (some (vI F.1)) τ) : Ca n_X0_put [vR (some a), vI l, vI s, vI t, vI m] σ Q := by
  obtain ⟨⟨s0, r0, r1, r2, r3, s1, s2, s3, s4⟩, hn, hb⟩ := h
  have hf0 := hF.1
  refine vc_X0_put _ _ _ _ _ _ _ ?_
  simp only [gs_sI, gr_sI, s0, r0, r1, r2, r3, s1, s2, s3, s4, hn, isS_some, true_and, gi_ne (show ¬ a = a + 1 by omega), gi_ne (show ¬ a = a + 2 by omega), gi_ne (show ¬ a = a + 3 by omega), gi_ne (show ¬ a = a + 4 by omega)]
  refine ⟨fun e => ?_, fun e => h0 (by omega)⟩
  rw [gi_eq, wr_i (x := F.1 + 1) (by omega), wr_i (x := F.1 + 1 - 1) (by omega), show F.1 + 1 - 1 = F.1 by omega]
  have hs : Sm σ (sI (sI (sI (sI (sI σ (a + 1) F.1.toNat l) (a + 2) F.1.toNat s) (a + 3) F.1.toNat t) (a + 4) F.1.toNat m) a 4 (F.1 + 1)) (inF a) := by
    refine ((((Sm.st ?_ ?_).st ?_).st ?_).st ?_).st ?_
    · exact Sm.rf
    all_goals (unfold inF; omega)
  refine ⟨hf0, by omega, hf0, by omega, hf0, by omega, hf0, by omega, h1 e _ hs ⟨⟨s0, r0, r1, r2, r3, s1, s2, s3, s4⟩, gi_eq, fun f a0 a1 => ?_⟩⟩
  have a1 : f < F.1 + 1 := a1
  show _ = up F.2 F.1 _ f 0 ∧ _ = up F.2 F.1 _ f 3 ∧ _ = up F.2 F.1 _ f 2 ∧ _ = up F.2 F.1 _ f 1
  by_cases e2 : f = F.1
  · rw [e2, up_eq]
    refine ⟨?_, ?_, ?_, ?_⟩
    · rw [gi_ne (by omega), gi_ne (by omega), gi_ne (by omega), gi_ne (by omega), gi_eq]; rfl
    · rw [gi_ne (by omega), gi_ne (by omega), gi_ne (by omega), gi_eq]; rfl
    · rw [gi_ne (by omega), gi_ne (by omega), gi_eq]; rfl
    · rw [gi_ne (by omega), gi_eq]; rfl
  · rw [up_ne e2]
    have g := hb f a0 (by omega)
    refine ⟨?_, ?_, ?_, ?_⟩
    · rw [gi_ne (by omega), gi_ne (by omega), gi_ne (by omega), gi_ne (by omega), gi_nk (by omega)]; exact g.1
    · rw [gi_ne (by omega), gi_ne (by omega), gi_ne (by omega), gi_nk (by omega), gi_ne (by omega)]; exact g.2.1
    · rw [gi_ne (by omega), gi_ne (by omega), gi_nk (by omega), gi_ne (by omega), gi_ne (by omega)]; exact g.2.2.1
    · rw [gi_ne (by omega), gi_nk (by omega), gi_ne (by omega), gi_ne (by omega), gi_ne (by omega)]; exact g.2.2.2
theorem C_store {l s t : Int} (h : ClC σ F S K n T) (hw : StW F S K n T) (hQ : ∀ τ, Sq σ τ inCl → ClC τ (rStore F (now S) l s t).2 S K n T → Q (some (vI (rStore F (now S) l s t).1)) τ) : Ca n_X8_store [vR (some 1), vI l, vI s, vI t] σ Q := by
  have bad : ¬ stoP l s t → Q (some (vI (-1))) σ := fun z => by unfold rStore at hQ; rw [cif_n z] at hQ; exact hQ σ Sq.rf h
  have h' := h
  obtain ⟨⟨m0, m1, m2, m3, m4⟩, hF, hS, hf, him, hT, hK⟩ := h
  have k1 := hS.1.1.1
  have e6 := hS.2.1
  have f0 := hF.1.1
  have hFW := hw.1
  unfold stoP at bad
  refine vc_X8_store _ _ _ _ _ _ ?_
  refine X8_within (fun c1 => ⟨1, rfl, fun z => absurd z (by decide), fun _ => ?_⟩) (fun c1 => ⟨0, rfl, fun _ => bad fun z => c1 z.1, fun z => absurd rfl z⟩)
  refine X8_within (fun c2 => ⟨1, rfl, fun z => absurd z (by decide), fun _ => ?_⟩) (fun c2 => ⟨0, rfl, fun _ => bad fun z => c2 z.2.1, fun z => absurd rfl z⟩)
  refine X8_within (fun c3 => ⟨1, rfl, fun _ => ?_, fun z => absurd (show ¬ (1 : Int) = 0 by decide) z⟩) (fun c3 => ⟨0, rfl, fun z => absurd rfl z, fun _ => bad fun z => c3 z.2.2⟩)
  have hP : stoP l s t := ⟨c1, c2, c3⟩
  unfold rStore at hQ
  rw [cif_p hP] at hQ
  simp only [m0, m1, m2, k1, f0, e6, isS_some, true_and]
  refine X0_hasStoredAt hF hFW (fun d1 d2 => ⟨1, rfl, fun z => absurd z (by decide), fun _ => ?_⟩) (fun d => ⟨0, rfl, fun _ => ?_, fun z => absurd rfl z⟩)
  · rw [cif_p ⟨d1, d2⟩] at hQ
    exact hQ σ Sq.rf h'
  · rw [cif_n d] at hQ
    simp only [m0, m1, f0, isS_some, true_and]
    refine X0_countExisting hF hFW ⟨_, rfl, fun e => ?_, fun e => ?_⟩
    · simp only [m0, m1, f0, isS_some, true_and]
      refine X0_put hF hFW (fun g => ⟨_, rfl, ?_⟩) (fun g τ hs hC => ⟨_, rfl, ?_⟩)
      · rw [cif_p (Or.inr g)] at hQ
        exact hQ σ Sq.rf h'
      · rw [cif_n (by omega)] at hQ
        exact hQ τ (hs.q.wk fun c hc => by unfold inF at hc; unfold inCl; omega) (h'.fil hw.2.1 hs hC)
    · rw [cif_p (Or.inl (by omega))] at hQ
      exact hQ σ Sq.rf h'
theorem C_fileInfo {f w : Int} (h : ClC σ F S K n T) (hw : StW F S K n T) (hQ : Q (some (vI (rInfo F (now S) f w))) σ) : Ca n_X8_fileInfo [vR (some 1), vI f, vI w] σ Q := by
  have h' := h
  obtain ⟨⟨m0, m1, m2, m3, m4⟩, hF, hS, hf, him, hT, hK⟩ := h
  have k1 := hS.1.1.1
  have e6 := hS.2.1
  have hF' := hF
  obtain ⟨⟨s0, r0, r1, r2, r3, s1, s2, s3, s4⟩, hn, hb⟩ := hF
  have hFW := hw.1
  have h30 := hFW.2.1
  unfold rInfo filQ at hQ
  refine vc_X8_fileInfo _ _ _ _ _ ?_
  simp only [m0, m1, s0, isS_some, true_and]
  refine X0_isStored hF' (fun c1 c2 => ⟨1, rfl, fun z => absurd z (by decide), fun _ => ?_⟩) (fun c => ⟨0, rfl, fun _ => ?_, fun z => absurd rfl z⟩)
  · refine X8_within (fun d => ⟨1, rfl, fun _ => ?_, fun z => absurd (show ¬ (1 : Int) = 0 by decide) z⟩) (fun d => ⟨0, rfl, fun z => absurd rfl z, fun _ => ?_⟩)
    · rw [cif_p ⟨⟨c1, c2⟩, d⟩] at hQ
      obtain ⟨e1, e2, e3, e4⟩ := hb f c1 c2
      simp only [m0, m1, m2, k1, s0, r0, r2, r3, s1, s3, s4, e1, e3, e4, e6, isS_some, true_and]
      refine ⟨fun g => ?_, fun g => ⟨c1, by omega, ?_⟩, fun g => ⟨c1, by omega, ?_⟩, fun g => ⟨c1, by omega, ?_⟩, trivial⟩
      · have hge : ¬ w < 3 := by
          have g' : w < 0 ∨ 0 + (((3 : Nat) : Int) : Int) ≤ w := g
          omega
        rw [cif_n hge] at hQ
        refine X0_exists hF' hFW (fun x => ⟨1, rfl, fun z => absurd z (by decide), fun _ => ?_⟩) (fun x => ⟨0, rfl, fun _ => ?_, fun z => absurd rfl z⟩)
        · rw [cif_p x] at hQ; exact hQ
        · rw [cif_n x] at hQ; exact hQ
      · rw [cif_p (by omega), g] at hQ; exact hQ
      · rw [cif_p (by omega), show w = 1 by omega] at hQ; exact hQ
      · rw [cif_p (by omega), show w = 2 by omega] at hQ; exact hQ
    · rw [cif_n fun z => d z.2] at hQ; exact hQ
  · rw [cif_n fun z => c z.1] at hQ; exact hQ
theorem C_fileByte {f k : Int} (h : ClC σ F S K n T) (hw : StW F S K n T) (hQ : Q (some (vI (rByte F f k))) σ) : Ca n_X8_fileByte [vR (some 1), vI f, vI k] σ Q := by
  obtain ⟨⟨m0, m1, m2, m3, m4⟩, hF, hS, hf, him, hT, hK⟩ := h
  have hF' := hF
  obtain ⟨⟨s0, r0, r1, r2, r3, s1, s2, s3, s4⟩, hn, hb⟩ := hF
  have hFW := hw.1
  have h30 := hFW.2.1
  unfold rByte filQ at hQ
  refine vc_X8_fileByte _ _ _ _ _ ?_
  simp only [m0, m1, s0, isS_some, true_and]
  refine X0_isStored hF' (fun c1 c2 => ⟨1, rfl, fun z => absurd z (by decide), fun _ => ⟨fun d => ?_, fun d => ?_⟩⟩) (fun c => ⟨0, rfl, fun _ => ?_, fun z => absurd rfl z⟩)
  · rw [cif_p ⟨⟨c1, c2⟩, d⟩] at hQ
    simp only [m0, m1, s0, r0, s1, (hb f c1 c2).1, isS_some, true_and]
    refine ⟨c1, by omega, fun e => X0_byteAt hF' hFW c1 c2 ⟨_, rfl, ?_⟩, fun e => ?_⟩
    · rw [cif_p e] at hQ; exact hQ
    · rw [cif_n e] at hQ; exact hQ
  · rw [cif_n fun z => d z.2] at hQ; exact hQ
  · rw [cif_n fun z => c z.1] at hQ; exact hQ
theorem C_fileCount (h : ClC σ F S K n T) (hQ : Q (some (vI F.1)) σ) : Ca n_X8_fileCount [vR (some 1)] σ Q := by
  obtain ⟨⟨m0, m1, m2, m3, m4⟩, hF, -⟩ := h
  refine vc_X8_fileCount _ _ _ ?_
  simp only [m0, m1, hF.1.1, hF.2.1, isS_some, true_and]
  exact hQ
theorem C_existingCount (h : ClC σ F S K n T) (hw : StW F S K n T) (hQ : Q (some (vI (exN F (now S)))) σ) : Ca n_X8_existingCount [vR (some 1)] σ Q := by
  obtain ⟨⟨m0, m1, m2, m3, m4⟩, hF, hS, -⟩ := h
  refine vc_X8_existingCount _ _ _ ?_
  simp only [m0, m1, m2, hS.1.1.1, hS.2.1, hF.1.1, isS_some, true_and]
  exact X0_countExisting hF hw.1 ⟨_, rfl, hQ⟩
theorem C_directory {i : Int} (h : ClC σ F S K n T) (hw : StW F S K n T) (hQ : Q (some (vI (rDir S i))) σ) : Ca n_X8_directory [vR (some 1), vI i] σ Q := by
  unfold rDir at hQ
  refine vc_X8_directory _ _ _ _ ⟨h.1.1, X8_isStation h (fun c => ⟨1, rfl, fun _ => ?_, fun z => absurd (show ¬ (1 : Int) = 0 by decide) z⟩) (fun c => ⟨0, rfl, fun z => absurd rfl z, fun _ => ?_⟩)⟩
  · obtain ⟨g1, g2, g3, g4, g5, g6, g7, hS, hSW, hi5⟩ := toSt h hw c
    rw [cif_p c] at hQ
    simp only [g1, g2, g3, g4, g5, g6, g7, hS.2.1.2.2.2.2.2.2, isS_some, true_and]
    exact ⟨by decide, by decide, c.1, by omega, hQ⟩
  · rw [cif_n c] at hQ; exact hQ
theorem unk_bd {i : Int} : ∀ j, 0 ≤ j → j ≤ F.1 → 0 ≤ smI (unkF F S i) j ∧ smI (unkF F S i) j ≤ j := by
  intro j h0 h1
  have := smI_bd (f := unkF F S i) (n := F.1) (lo := 0) (hi := 1) (fun f _ _ => by
    by_cases e : exB F (now S) f = true ∧ ¬ knP (sts S i) f
    · unfold unkF; rw [cif_p e]; omega
    · unfold unkF; rw [cif_n e]; omega) (by omega) (by omega) j h0 h1
  omega
set_option maxHeartbeats 4000000 in
theorem C_unknownFiles {i : Int} (h : ClC σ F S K n T) (hw : StW F S K n T) (hQ : Q (some (vI (rUnk F S i))) σ) : Ca n_X8_unknownFiles [vR (some 1), vI i] σ Q := by
  unfold rUnk at hQ
  refine vc_X8_unknownFiles _ _ _ _ ⟨h.1.1, X8_isStation h (fun c => ⟨1, rfl, fun _ => ?_, fun z => absurd (show ¬ (1 : Int) = 0 by decide) z⟩) (fun c => ⟨0, rfl, fun z => absurd rfl z, fun _ => ?_⟩)⟩
  · obtain ⟨g1, g2, g3, g4, g5, g6, g7, hS, hSW, hi5⟩ := toSt h hw c
    rw [cif_p c] at hQ
    simp only [g1, g2, g3, g4, g5, g6, isS_some, true_and]
    obtain ⟨⟨m0, m1, m2, m3, m4⟩, hF, hSa, -⟩ := id h
    have e6 := hSa.2.1
    have hFW := hw.1
    have hf0 := hFW.1
    have hf1 := hFW.2.1
    have key : ∀ (k : Nat) (j x : Int), 0 ≤ j → j ≤ F.1 → F.1 - j < k → x = smI (unkF F S i) j → At n_X8_unknownFiles 25 [some (vR (some 1)), some (vI i), some (vR (some (sa 7 i))), some (vI x), some (vI j)] [] σ Q := by
      intro k
      induction k with
      | zero => intro j x h0 h1 h2; omega
      | succ k ih =>
        intro j x h0 h1 h2 hx
        have hss := smI_s (f := unkF F S i) h0
        have hbd := unk_bd (F := F) (S := S) (i := i) j h0 h1
        rw [← hx] at hss hbd
        refine vc_X8_unknownFiles_25 _ _ _ _ _ _ _ ?_
        simp only [m0, m1, m2, g3, e6, hF.1.1, hF.2.1, isS_some, true_and]
        refine ⟨fun e => ?_, fun e => ?_⟩
        · have ej : j = F.1 := by omega
          rw [hx, ej]; exact hQ
        · rw [wr_i (x := j + 1) (by omega), wr_i (x := x + 1) (by omega)]
          refine X0_exists hF hFW (fun d => ⟨1, rfl, fun z => absurd z (by decide), fun _ => ?_⟩) (fun d => ⟨0, rfl, fun _ => ?_, fun z => absurd rfl z⟩)
          · rw [← exB_of h0 (by omega)] at d
            simp only [g7, isS_some, true_and]
            refine X7_knows hS (fun y => ⟨1, rfl, fun _ => ?_, fun z => absurd (show ¬ (1 : Int) = 0 by decide) z⟩) (fun y => ⟨0, rfl, fun z => absurd rfl z, fun _ => ?_⟩)
            · refine ih _ _ (by omega) (by omega) (by omega) ?_
              rw [hss]
              unfold unkF
              rw [cif_n fun z => z.2 y]
              omega
            · refine ih _ _ (by omega) (by omega) (by omega) ?_
              rw [hss]
              unfold unkF
              rw [cif_p ⟨d, y⟩]
          · rw [← exB_of h0 (by omega)] at d
            refine ih _ _ (by omega) (by omega) (by omega) ?_
            rw [hss]
            unfold unkF
            rw [cif_n fun z => d z.1]
            omega
    exact ⟨by decide, by decide, c.1, by omega, key (F.1 + 1).toNat 0 0 (by omega) hf0 (by omega) rfl⟩
  · rw [cif_n c] at hQ; exact hQ
theorem C_covered {i x : Int} (h : ClC σ F S K n T) (hw : StW F S K n T) (hx : x ≤ 2147483647) (hQ : Q (some (vI (rCov S i x))) σ) : Ca n_X8_covered [vR (some 1), vI i, vI x] σ Q := by
  unfold rCov at hQ
  refine vc_X8_covered _ _ _ _ _ ⟨h.1.1, X8_isStation h (fun c => ⟨1, rfl, fun z => absurd z (by decide), fun _ => ⟨fun d => ?_, fun d => ?_⟩⟩) (fun c => ⟨0, rfl, fun _ => ?_, fun z => absurd rfl z⟩)⟩
  · obtain ⟨g1, g2, g3, g4, g5, g6, g7, hS, hSW, hi5⟩ := toSt h hw c
    rw [cif_p ⟨c, d⟩] at hQ
    simp only [g1, g2, g3, g4, g5, g6, g7, hS.1.2.1, hS.2.2.1.1.1, isS_some, true_and]
    exact ⟨by decide, by decide, c.1, by omega, X2_number hS.2.2.1 hSW.2.1 d hx ⟨_, rfl, hQ⟩⟩
  · rw [cif_n fun z => d z.2] at hQ; exact hQ
  · rw [cif_n fun z => c z.1] at hQ; exact hQ
theorem C_timeHole {i x : Int} (h : ClC σ F S K n T) (hw : StW F S K n T) (hx : x ≤ 2147483647) (hQ : Q (some (vI (rTHole S i x))) σ) : Ca n_X8_timeHole [vR (some 1), vI i, vI x] σ Q := by
  unfold rTHole dirH at hQ
  have hn0 := hw.2.1.2.1
  have hn1 := hw.2.2.1
  refine vc_X8_timeHole _ _ _ _ _ ⟨h.1.1, X8_isStation h (fun c => ⟨1, rfl, fun z => absurd z (by decide), fun _ => ⟨fun d => ?_, fun d => ?_⟩⟩) (fun c => ⟨0, rfl, fun _ => ?_, fun z => absurd rfl z⟩)⟩
  · obtain ⟨g1, g2, g3, g4, g5, g6, g7, hS, hSW, hi5⟩ := toSt h hw c
    rw [cif_p ⟨c, d⟩] at hQ
    simp only [g1, g2, g3, g4, g5, g6, g7, hS.1.2.1, hS.2.2.1.1.1, h.2.2.1.2.1, isS_some, true_and]
    exact ⟨by decide, by decide, c.1, by omega, X2_holeNumber hS.2.2.1 hSW.2.1 (by omega) (by omega) d hx ⟨_, rfl, hQ⟩⟩
  · rw [cif_n fun z => d z.2] at hQ; exact hQ
  · rw [cif_n fun z => c z.1] at hQ; exact hQ
end API
