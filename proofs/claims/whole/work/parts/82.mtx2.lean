section M
variable {σ τ : ms_T} {m : Nat} {F : Fl} {S : Sa} {K : Int → Int} {n : Int} {T : Int → Int} {Q : mq_T} {sp nm : Int} {H : Iv}
/-- how a reading of holes goes on -/
def RdG (σ : ms_T) (m : Nat) (n : Int) (T : Int → Int) (nm : Int) (Q : mq_T) (R : Int × Int × Iv) : Prop :=
  (R.1 = 0 → ∀ υ H', Rd σ υ m R.2.1 nm H' → Q (some (vI R.2.1)) υ) ∧ (R.1 = 1 → ¬ skB n T R.2.1 59 = true → ∀ υ, Rd σ υ m R.2.1 nm R.2.2 → Q (some (vI R.2.1)) υ) ∧ (R.1 = 1 → skB n T R.2.1 59 = true → ¬ R.2.1 + 1 = n → ∀ υ, Rd σ υ m (R.2.1 + 1) nm R.2.2 → Q (some (vI (R.2.1 + 1))) υ) ∧ (R.1 = 1 → skB n T R.2.1 59 = true → R.2.1 + 1 = n → ∀ υ, Rd σ υ m (R.2.1 + 1) nm R.2.2 → Q (some (vI (-1))) υ)
def ctH (n : Int) (T : Int → Int) (k : Nat) (sp : Int) (H : Iv) : Int × Int × Iv := if k = 0 ∨ ¬ skB n T sp 44 = true then (1, sp, H) else rdH n T k (sp + 1) (le_ H (ln H - 1) + 2) H
theorem rdH_ct {k : Nat} {least : Int} : rdH n T (k + 1) sp least H = if (hoR n T sp least).1 = 0 then (0, (hoR n T sp least).2.1, H) else ctH n T k (hoR n T sp least).2.1 (H ++ [((hoR n T sp least).2.2.1, (hoR n T sp least).2.2.2)]) := by
  have hnn := ln_nn H
  unfold ctH
  rw [ln_app, le_app' (by omega)]
  rfl
set_option maxHeartbeats 4000000 in
theorem X9_reads76 (hM : MoC σ m F S K n T) (hw : StX F S K n T) : ∀ (k : Nat) (τ : ms_T) (sp : Int) (H : Iv), Rd σ τ m sp nm H → 0 ≤ sp → sp ≤ n → ln H + k = 4 → 1 ≤ ln H → (∀ i, 0 ≤ i → i < ln H → 0 ≤ le_ H i ∧ le_ H i ≤ 99999) → RdG σ m n T nm Q (ctH n T k sp H) → At n_X9_reads 76 [some (vR (some m))] [] τ Q := by
  have fin : ∀ (τ : ms_T) (sp : Int) (H : Iv), Rd σ τ m sp nm H → 0 ≤ sp → sp ≤ n → RdG σ m n T nm Q (1, sp, H) → Ca n_X9_takes [vR (some m), vI 59] τ fun v1 τ2 => ∃ x3, v1 = some (vI x3) ∧ (x3 = 0 → gs τ2 m = (9, 0) ∧ Q (some (vI (gi τ2 m 7))) τ2) ∧ (¬ (x3 = 0) → gs τ2 m = (9, 0) ∧ gs τ2 m = (9, 0) ∧ (¬ (gi τ2 m 7) = (gi τ2 m 6) → gs τ2 m = (9, 0) ∧ Q (some (vI (gi τ2 m 7))) τ2) ∧ (¬ (¬ (gi τ2 m 7) = (gi τ2 m 6)) → Q (some (vI (-1 : Int))) τ2)) := by
    intro τ sp H hR s0 s1 hG
    obtain ⟨-, G1, G2, G3⟩ := hG
    refine X9_takes hM hw hR s0 s1 (fun c υ hR2 _ => ⟨1, rfl, fun z => absurd z (by decide), fun _ => ?_⟩) (fun c υ hR2 _ => ⟨0, rfl, fun _ => ?_, fun z => absurd rfl z⟩)
    · have e6 : gi υ m 6 = n := hR2.2.1.trans hM.2.2.1
      rw [hR2.2.2.1, e6]
      exact ⟨(hM.1.sm hR2.1).1, (hM.1.sm hR2.1).1, fun z => ⟨(hM.1.sm hR2.1).1, G2 rfl c z υ hR2⟩, fun z => G3 rfl c (Decidable.not_not.mp z) υ hR2⟩
    · rw [hR2.2.2.1]
      exact ⟨(hM.1.sm hR2.1).1, G1 rfl c υ hR2⟩
  intro k
  induction k with
  | zero =>
    intro τ sp H hR s0 s1 hk hl1 hb hG
    have e3 : gi τ m 3 = ln H := hR.2.2.2.2.1
    unfold ctH at hG
    rw [if_pos (Or.inl rfl)] at hG
    refine vc_X9_reads_76 _ _ _ ⟨(hM.1.sm hR.1).1, ?_⟩
    rw [e3]
    exact ⟨fun _ => ⟨(hM.1.sm hR.1).1, fin τ sp H hR s0 s1 hG⟩, fun z => by omega⟩
  | succ k ih =>
    intro τ sp H hR s0 s1 hk hl1 hb hG
    have e3 : gi τ m 3 = ln H := hR.2.2.2.2.1
    unfold ctH at hG
    refine vc_X9_reads_76 _ _ _ ⟨(hM.1.sm hR.1).1, ?_⟩
    rw [e3]
    refine ⟨fun z => by omega, fun _ => ⟨(hM.1.sm hR.1).1, X9_takes hM hw hR s0 s1 (fun c υ hR2 _ => ⟨1, rfl, fun z => absurd z (by decide), fun _ => ?_⟩) (fun c υ hR2 _ => ⟨0, rfl, fun _ => ?_, fun z => absurd rfl z⟩)⟩⟩
    · rw [if_neg (fun z => z.elim (fun z => absurd z (by omega)) (fun z => z c))] at hG
      obtain ⟨y0, g0, g1, g2, g4, g5, g11, z1, z2, z3, z4, z5, z6⟩ := hM.1.sm hR2.1
      have e32 : gi υ m 3 = ln H := hR2.2.2.2.2.1
      have eL : gi υ (m + 4) (2 * ln H - 1).toNat = le_ H (ln H - 1) := by
        have := (hR2.2.2.2.2.2 (ln H - 1) (by omega) (by omega)).2
        rw [show 2 * (ln H - 1) + 1 = 2 * ln H - 1 by omega] at this
        exact this
      have hbl := hb (ln H - 1) (by omega) (by omega)
      simp only [y0, g4, z4, e32, isS_some, true_and]
      rw [wr_i (x := 2 * ln H) (by omega), wr_i (x := 2 * ln H - 1) (by omega), eL, wr_i (by omega)]
      have lt := (skB_iff.mp c).1
      rw [rdH_ct] at hG
      have hb1 := hoR_bd (T := T) (sp := sp + 1) (least := le_ H (ln H - 1) + 2) (n := n) (by omega)
      refine ⟨by omega, by omega, X9_takesHole hM hw hR2 (by omega) (by omega) (by omega) (fun a ω hR3 => ⟨1, rfl, fun _ => ?_, fun z => absurd (show ¬ (1 : Int) = 0 by decide) z⟩) (fun a ω hR3 => ⟨0, rfl, fun z => absurd rfl z, fun _ => ⟨(hM.1.sm hR3.1).1, ?_⟩⟩)⟩
      · rw [if_neg (by omega)] at hG
        have hb2 := hb1.2.2.2 a
        refine ih ω _ _ hR3 (by omega) hb1.2.2.1 (by rw [ln_app]; omega) (by rw [ln_app]; omega) (fun i i0 i1 => ?_) hG
        rw [ln_app] at i1
        by_cases e : i < ln H
        · rw [le_app i0 e]; exact hb i i0 e
        · rw [le_app' (by omega)]
          show 0 ≤ (hoR n T (sp + 1) (le_ H (ln H - 1) + 2)).2.2.2 ∧ (hoR n T (sp + 1) (le_ H (ln H - 1) + 2)).2.2.2 ≤ 99999
          omega
      · rw [if_pos a] at hG
        rw [hR3.2.2.1]
        exact hG.1 rfl ω H hR3
    · rw [if_pos (Or.inr c)] at hG
      exact ⟨(hM.1.sm hR2.1).1, fin υ sp H hR2 s0 s1 hG⟩
set_option maxHeartbeats 4000000 in
theorem M_reads (hM : MoC σ m F S K n T) (hw : StX F S K n T) (h1 : prsOK n T → ∀ υ sp, Rd σ υ m sp (prs n T).2.1 (prs n T).2.2 → Q (some (vI (-1))) υ) (h0 : ¬ prsOK n T → ∀ υ sp nm H, Rd σ υ m sp nm H → Q (some (vI (prs n T).1)) υ) : Ca n_X9_reads [vR (some m)] σ Q := by
  have n0 := hw.2.2.2.1.1
  obtain ⟨y0, g0, g1, g2, g4, g5, g11, z1, z2, z3, z4, z5, z6⟩ := hM.1
  have hsb := sbR_bd (T := T) n0
  -- behind the subject
  have tail : ∀ (τ : ms_T), (sbR n T).1 = 1 → Rd σ τ m (sbR n T).2.1 (sbR n T).2.2 [] → Ca n_X9_takes [vR (some m), vI (58 : Int)] τ fun v4 τ5 => ∃ x6, v4 = some (vI x6) ∧ (x6 = 0 → gs τ5 m = (9, 0) ∧ Q (some (vI (gi τ5 m 7))) τ5) ∧ (¬ (x6 = 0) → gs τ5 m = (9, 0) ∧ Ca n_X9_takesHole [vR (some m), vI (0 : Int)] τ5 fun v7 τ8 => ∃ x9, v7 = some (vI x9) ∧ (¬ x9 = 0 → At n_X9_reads 76 [some (vR (some m))] [] τ8 Q) ∧ (¬ (¬ x9 = 0) → gs τ8 m = (9, 0) ∧ Q (some (vI (gi τ8 m 7))) τ8)) := by
    intro τ es hR
    have hnP : ¬ (sbR n T).1 = 0 := by omega
    refine X9_takes hM hw hR hsb.2.1 hsb.2.2.1 (fun c υ hR2 _ => ⟨1, rfl, fun z => absurd z (by decide), fun _ => ⟨(hM.1.sm hR2.1).1, ?_⟩⟩) (fun c υ hR2 _ => ⟨0, rfl, fun _ => ⟨(hM.1.sm hR2.1).1, ?_⟩, fun z => absurd rfl z⟩)
    · have lt := (skB_iff.mp c).1
      have ep : prs n T = if (rdH n T 4 ((sbR n T).2.1 + 1) 0 []).1 = 0 then ((rdH n T 4 ((sbR n T).2.1 + 1) 0 []).2.1, -1, []) else if ¬ skB n T (rdH n T 4 ((sbR n T).2.1 + 1) 0 []).2.1 59 = true then ((rdH n T 4 ((sbR n T).2.1 + 1) 0 []).2.1, -1, []) else if ¬ (rdH n T 4 ((sbR n T).2.1 + 1) 0 []).2.1 + 1 = n then ((rdH n T 4 ((sbR n T).2.1 + 1) 0 []).2.1 + 1, -1, []) else (-1, (sbR n T).2.2, (rdH n T 4 ((sbR n T).2.1 + 1) 0 []).2.2) := by
        conv => lhs; unfold prs
        rw [if_neg hnP, if_neg (fun z => z c)]
      have hrd := rdH_bd (T := T) 4 ((sbR n T).2.1 + 1) 0 [] (n := n) (by omega) (by rw [ln_nil]; omega) HoW_nil
      have hG : RdG σ m n T (sbR n T).2.2 Q (rdH n T 4 ((sbR n T).2.1 + 1) 0 []) := by
        refine ⟨fun a υ H' hR => ?_, fun a b υ hR => ?_, fun a b d υ hR => ?_, fun a b d υ hR => ?_⟩
        · rw [if_pos a] at ep
          have := h0 (by unfold prsOK; rw [ep]; show ¬ (rdH n T 4 ((sbR n T).2.1 + 1) 0 []).2.1 < 0; omega) υ _ _ _ hR
          rw [ep] at this
          exact this
        · rw [if_neg (by omega), if_pos b] at ep
          have := h0 (by unfold prsOK; rw [ep]; show ¬ (rdH n T 4 ((sbR n T).2.1 + 1) 0 []).2.1 < 0; omega) υ _ _ _ hR
          rw [ep] at this
          exact this
        · rw [if_neg (by omega), if_neg (fun z => z b), if_pos d] at ep
          have := h0 (by unfold prsOK; rw [ep]; show ¬ (rdH n T 4 ((sbR n T).2.1 + 1) 0 []).2.1 + 1 < 0; omega) υ _ _ _ hR
          rw [ep] at this
          exact this
        · rw [if_neg (by omega), if_neg (fun z => z b), if_neg (fun z => z d)] at ep
          refine h1 (by unfold prsOK; rw [ep]; show (-1 : Int) < 0; decide) υ ((rdH n T 4 ((sbR n T).2.1 + 1) 0 []).2.1 + 1) ?_
          rw [ep]
          exact hR
      rw [rdH_ct] at hG
      have hb1 := hoR_bd (T := T) (sp := (sbR n T).2.1 + 1) (least := 0) (n := n) (by omega)
      refine X9_takesHole hM hw hR2 (by omega) (by omega) (by rw [ln_nil]; omega) (fun a ω hR3 => ⟨1, rfl, fun _ => ?_, fun z => absurd (show ¬ (1 : Int) = 0 by decide) z⟩) (fun a ω hR3 => ⟨0, rfl, fun z => absurd rfl z, fun _ => ⟨(hM.1.sm hR3.1).1, ?_⟩⟩)
      · rw [if_neg (by omega)] at hG
        have hb2 := hb1.2.2.2 a
        refine X9_reads76 hM hw 3 ω _ _ hR3 (by omega) hb1.2.2.1 (by rw [ln_app, ln_nil]; rfl) (by rw [ln_app, ln_nil]; omega) (fun i i0 i1 => ?_) hG
        rw [ln_app, ln_nil] at i1
        rw [le_app' (by rw [ln_nil]; omega)]
        show 0 ≤ (hoR n T ((sbR n T).2.1 + 1) 0).2.2.2 ∧ (hoR n T ((sbR n T).2.1 + 1) 0).2.2.2 ≤ 99999
        omega
      · rw [if_pos a] at hG
        rw [hR3.2.2.1]
        exact hG.1 rfl ω [] hR3
    · have ep : prs n T = ((sbR n T).2.1, -1, []) := by unfold prs; rw [if_neg hnP, if_pos c]
      have := h0 (by unfold prsOK; rw [ep]; show ¬ (sbR n T).2.1 < 0; omega) υ _ _ _ hR2
      rw [ep] at this
      rw [hR2.2.2.1]
      exact this
  have bad : ∀ (υ : ms_T) (s' nm' : Int) (H' : Iv), (sbR n T).1 = 0 → (sbR n T).2.1 = s' → Rd σ υ m s' nm' H' → Q (some (vI s')) υ := fun υ s' nm' H' a b hR => by
    have ep : prs n T = ((sbR n T).2.1, -1, []) := by unfold prs; rw [if_pos a]
    have := h0 (by unfold prsOK; rw [ep]; show ¬ (sbR n T).2.1 < 0; omega) υ _ _ _ hR
    rw [ep] at this
    rw [← b]
    exact this
  refine vc_X9_reads _ _ _ ?_
  simp only [gs_sI, y0, true_and]
  have hR0 : Rd σ (sI (sI (sI σ m 7 0) m 3 0) m 8 (-1)) m 0 (-1) [] := ⟨((Sm.rf.st (Or.inl rfl)).st (Or.inl rfl)).st (Or.inl rfl), by rw [gi_nk (by decide), gi_nk (by decide), gi_nk (by decide)], by rw [gi_nk (by decide), gi_nk (by decide), gi_eq], gi_eq, by rw [gi_nk (by decide), gi_eq]; rfl, fun i a b => by rw [ln_nil] at b; omega⟩
  refine X9_takes hM hw hR0 (by omega) n0 (fun c υ hR _ => ⟨1, rfl, fun _ => ⟨(hM.1.sm hR.1).1, ?_⟩, fun z => absurd (show ¬ (1 : Int) = 0 by decide) z⟩) (fun c υ hR _ => ⟨0, rfl, fun z => absurd rfl z, fun _ => ⟨(hM.1.sm hR.1).1, ?_⟩⟩)
  · have es : sbR n T = (1, 1, -1) := by unfold sbR; rw [if_pos c]
    exact tail υ (by rw [es]) (by rw [es]; exact hR)
  · refine X9_takes hM hw hR (by omega) n0 (fun c2 υ2 hR2 _ => ⟨1, rfl, fun z => absurd z (by decide), fun _ => ⟨(hM.1.sm hR2.1).1, ?_⟩⟩) (fun c2 υ2 hR2 _ => ⟨0, rfl, fun _ => ⟨(hM.1.sm hR2.1).1, ?_⟩, fun z => absurd rfl z⟩)
    · have lt := (skB_iff.mp c2).1
      have e01 : (0 : Int) + 1 = 1 := rfl
      rw [e01] at hR2
      refine X9_takesNumber hM hw hR2 (by omega) (by omega) (fun a υ3 hR3 e9 => ⟨1, rfl, fun _ => ?_, fun z => absurd (show ¬ (1 : Int) = 0 by decide) z⟩) (fun a υ3 hR3 => ⟨0, rfl, fun z => absurd rfl z, fun _ => ⟨(hM.1.sm hR3.1).1, ?_⟩⟩)
      · have es : sbR n T = (1, (numR n T 1 0).2.1, (numR n T 1 0).2.2) := by unfold sbR; rw [if_neg c, if_pos c2, if_neg (by omega)]
        rw [e9]
        simp only [gs_sI, (hM.1.sm hR3.1).1, true_and]
        exact tail _ (by rw [es]) (by rw [es]; exact hR3.k8)
      · have es : sbR n T = (0, (numR n T 1 0).2.1, -1) := by unfold sbR; rw [if_neg c, if_pos c2, if_pos a]
        rw [hR3.2.2.1]
        exact bad υ3 _ _ _ (by rw [es]) (by rw [es]) hR3
    · have es : sbR n T = (0, 0, -1) := by unfold sbR; rw [if_neg c, if_neg c2]
      rw [hR2.2.2.1]
      exact bad υ2 _ _ _ (by rw [es]) (by rw [es]) hR2
theorem M_fault (h : MoC σ m F S K n T) (hw : StX F S K n T) (hQ : ∀ τ, Sm σ τ (inMo m) → MoC τ m F S K n T → Q (some (vI (rFault n T))) τ) : Ca n_X9_fault [vR (some m)] σ Q := by
  have n0 := hw.2.2.2.1.1
  unfold rFault at hQ
  refine vc_X9_fault _ _ _ ⟨h.1.1, M_reads h hw (fun c υ sp hR => ⟨-1, rfl, fun z => by omega, fun _ => ?_⟩) (fun c υ sp nm H hR => ⟨_, rfl, fun _ => ?_, fun z => ?_⟩)⟩
  · obtain ⟨a1, a2⟩ := hR.mo h hw
    rw [cif_p c] at hQ; exact hQ υ a1 a2
  · obtain ⟨a1, a2⟩ := hR.mo h hw
    rw [cif_n c] at hQ; exact hQ υ a1 a2
  · exact absurd (show (prs n T).1 < 0 by omega) c
theorem fst4_id {H : Iv} (h : ln H ≤ 4) : fst4 H = H := by
  have hnn := ln_nn H
  unfold fst4
  have e := ln_tk (n := min (ln H) 4) (L := H) (by omega) (by omega)
  refine iv_ext (by omega) fun i i0 i1 => ⟨lb_tk i0 (by omega), le_tk i0 (by omega)⟩
set_option maxHeartbeats 4000000 in
theorem M_requestText {i : Int} (h : MoC σ m F S K n T) (hw : StX F S K n T) (hQ : ∀ τ, Sm σ τ (inMo m) → MoC τ m F (rReqT F S n T i).2 K n T → Q (some (vI (rReqT F S n T i).1)) τ) : Ca n_X9_requestText [vR (some m), vI i] σ Q := by
  have hpb := prs_bd (T := T) hw.2.2.2.1.1
  unfold rReqT at hQ
  have hn1 := hw.2.2.1
  refine vc_X9_requestText _ _ _ _ ⟨h.1.1, M_isStation h hw (fun c => ⟨1, rfl, fun _ => ⟨h.1.1, ?_⟩, fun z => absurd (show ¬ (1 : Int) = 0 by decide) z⟩) (fun c => ⟨0, rfl, fun z => absurd rfl z, fun _ => ?_⟩)⟩
  · rw [cif_p c] at hQ
    have no : ∀ υ, Sm σ υ (inMo m) → MoC υ m F S K n T → ¬ texP F S n T i → Q (some (vI (-2))) υ := fun υ a b d => by rw [cif_n d] at hQ; exact hQ υ a b
    refine vc_X9_canBeAsked _ _ _ ⟨h.1.1, M_reads h hw (fun d υ sp hR => ⟨-1, rfl, fun _ => ?_, fun z => by omega⟩) (fun d υ sp nm H hR => ⟨_, rfl, fun z => absurd z d, fun _ => ⟨by simp, 0, rfl, fun _ => no υ (hR.mo h hw).1 (hR.mo h hw).2 fun z => d z.1, fun z => absurd rfl z⟩⟩)⟩
    obtain ⟨m1, hC⟩ := hR.mo h hw
    obtain ⟨y0, g0, g1, g2, g4, g5, g11, z1, z2, z3, z4, z5, z6⟩ := hC.1
    have hl1 := hpb.2.2.2.2.2.2.1 d
    have hl4 := hpb.2.2.2.2.2.1
    have e3 : gi υ m 3 = ln (prs n T).2.2 := hR.2.2.2.2.1
    have e8 : gi υ m 8 = (prs n T).2.1 := hR.2.2.2.1
    have e0 : gi υ (m + 1) (0 : Int).toNat = now S := hC.2.1.2.1.1.1
    have eL : gi υ (m + 4) (2 * ln (prs n T).2.2 - 1).toNat = le_ (prs n T).2.2 (ln (prs n T).2.2 - 1) := by
      have := (hR.2.2.2.2.2 (ln (prs n T).2.2 - 1) (by omega) (by omega)).2
      rw [show 2 * (ln (prs n T).2.2 - 1) + 1 = 2 * ln (prs n T).2.2 - 1 by omega] at this
      exact this
    have go : ((prs n T).2.1 = -1 ∨ exP F (prs n T).2.1 (now S)) ∧ ¬ (if (prs n T).2.1 = -1 then now S else F.2 (prs n T).2.1 0 - 1) < le_ (prs n T).2.2 (ln (prs n T).2.2 - 1) → gs υ m = (9, 0) ∧ Ca n_X9_mayAsk [vR (some m), vI i] υ fun v7 τ8 => ∃ x9, v7 = some (vI x9) ∧ (x9 = 0 → Q (some (vI (-2 : Int))) τ8) ∧ (¬ (x9 = 0) → gs τ8 m = (9, 0) ∧ gs τ8 m = (9, 0) ∧ Ca n_X9_puts [vR (some m), vI i, vI (gi τ8 m 8)] τ8 fun v10 τ11 => ∃ x12, v10 = some (vI x12) ∧ Q (some (vI x12)) τ11) := fun y => by
      refine ⟨hC.1.1, M_mayAsk hC hw (by omega) c (fun y2 => ⟨1, rfl, fun z => absurd z (by decide), fun _ => ⟨hC.1.1, hC.1.1, ?_⟩⟩) (fun y2 => ⟨0, rfl, fun _ => no υ m1 hC fun z => y2 z.2.2.2, fun z => absurd rfl z⟩)⟩
      have tx : texP F S n T i := ⟨d, y.1, y.2, y2⟩
      rw [e8]
      rw [cif_p tx] at hQ
      refine M_puts hC hw hR.2.2.2.2 (by omega) (fun e2 => ⟨_, rfl, ?_⟩) (fun e2 ω hs2 hC2 => ⟨_, rfl, ?_⟩)
      · rw [cif_p e2] at hQ; exact hQ υ m1 hC
      · rw [fst4_id hl4] at hC2
        rw [cif_n (by omega)] at hQ; exact hQ ω (m1.tr hs2) hC2
    simp only [y0, g0, g4, z1, z4, e3, e8, e0, isS_some, true_and]
    rw [wr_i (x := 2 * ln (prs n T).2.2) (by omega), wr_i (x := 2 * ln (prs n T).2.2 - 1) (by omega), eL]
    refine ⟨by omega, by omega, fun f0 => ?_, fun f0 => ⟨by decide, by decide, fun y => ⟨by simp, 0, rfl, fun _ => no υ m1 hC fun z => ?_, fun z => absurd rfl z⟩, fun y => ⟨by simp, 1, rfl, fun z => absurd z (by decide), fun _ => (go ⟨Or.inl (by omega), by rw [if_pos (by omega)]; exact y⟩).2⟩⟩⟩
    · refine M_isFile hC hw (fun q => ⟨1, rfl, fun z => absurd z (by decide), fun _ => ⟨hC.1.1, hC.1.1, ?_⟩⟩) (fun q => ⟨0, rfl, fun _ => ⟨by simp, 0, rfl, fun _ => no υ m1 hC fun z => ?_, fun z => absurd rfl z⟩, fun z => absurd rfl z⟩)
      · rw [e8]
        refine M_exists hC hw q (fun x => ⟨1, rfl, fun z => absurd z (by decide), fun _ => ⟨hC.1.1, hC.1.1, ?_⟩⟩) (fun x => ⟨0, rfl, fun _ => ⟨by simp, 0, rfl, fun _ => no υ m1 hC fun z => ?_, fun z => absurd rfl z⟩, fun z => absurd rfl z⟩)
        · rw [e8]
          have q2 := q.2
          have f30 := hw.1.2.1
          refine X9_file hC.1 q.1 (by omega) (by decide) (by decide) ⟨_, rfl, ?_⟩
          rw [hC.2.1.1.2 _ q.1 q.2 0 (by decide) (by decide)]
          refine ⟨fun y => ⟨by simp, 0, rfl, fun _ => no υ m1 hC fun z => ?_, fun z => absurd rfl z⟩, fun y => ⟨by simp, 1, rfl, fun z => absurd z (by decide), fun _ => go ⟨Or.inr ⟨q.1, q.2, by unfold exB at x; simpa using x⟩, by rw [if_neg (by omega)]; omega⟩⟩⟩
          have := z.2.2.1
          rw [if_neg (by omega)] at this
          omega
        · rcases z.2.1 with z | z
          · omega
          · exact x (by unfold exB; simpa using z.2.2)
      · rcases z.2.1 with z | z
        · omega
        · exact q ⟨z.1, z.2.1⟩
    · have := z.2.2.1
      rw [if_pos (by omega)] at this
      exact this y
  · rw [cif_n c] at hQ; exact hQ σ Sm.rf h
end M
