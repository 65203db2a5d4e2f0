/-- reading a text: the spot, the file, the holes so far -/
def Rd (σ τ : ms_T) (m : Nat) (sp nm : Int) (H : Iv) : Prop := Sm σ τ (inH m) ∧ gi τ m 6 = gi σ m 6 ∧ gi τ m 7 = sp ∧ gi τ m 8 = nm ∧ HlM τ m H
theorem HlM.key {τ : ms_T} {m k : Nat} {v : Int} {H : Iv} (h : HlM τ m H) (hk : ¬ k = 3) : HlM (sI τ m k v) m H :=
  ⟨by rw [gi_nk (fun z => hk z.symm)]; exact h.1, fun i a b => by rw [gi_ne (by omega), gi_ne (by omega)]; exact h.2 i a b⟩
section M
variable {σ τ : ms_T} {m : Nat} {F : Fl} {S : Sa} {K : Int → Int} {n : Int} {T : Int → Int} {Q : mq_T} {sp nm : Int} {H : Iv}
theorem Rd.k7 {v : Int} (h : Rd σ τ m sp nm H) : Rd σ (sI τ m 7 v) m v nm H := ⟨h.1.st (Or.inl rfl), by rw [gi_nk (by decide)]; exact h.2.1, gi_eq, by rw [gi_nk (by decide)]; exact h.2.2.2.1, h.2.2.2.2.key (by decide)⟩
theorem Rd.k8 {v : Int} (h : Rd σ τ m sp nm H) : Rd σ (sI τ m 8 v) m sp v H := ⟨h.1.st (Or.inl rfl), by rw [gi_nk (by decide)]; exact h.2.1, by rw [gi_nk (by decide)]; exact h.2.2.1, gi_eq, h.2.2.2.2.key (by decide)⟩
theorem Rd.k9 {k : Nat} {v : Int} (h : Rd σ τ m sp nm H) (hk : k = 9 ∨ k = 10) : Rd σ (sI τ m k v) m sp nm H := ⟨h.1.st (Or.inl rfl), by rw [gi_nk (by omega)]; exact h.2.1, by rw [gi_nk (by omega)]; exact h.2.2.1, by rw [gi_nk (by omega)]; exact h.2.2.2.1, h.2.2.2.2.key (by omega)⟩
theorem Rd.mo (h : Rd σ τ m sp nm H) (hM : MoC σ m F S K n T) (hw : StX F S K n T) : Sm σ τ (inMo m) ∧ MoC τ m F S K n T := hM.hl hw h.1 (h.2.1.trans hM.2.2.1)
theorem X9_takes {c : Int} (hM : MoC σ m F S K n T) (hw : StX F S K n T) (h : Rd σ τ m sp nm H) (s0 : 0 ≤ sp) (s1 : sp ≤ n) (h1 : skB n T sp c = true → ∀ υ, Rd σ υ m (sp + 1) nm H → gi υ m 9 = gi τ m 9 → Q (some (vI 1)) υ) (h0 : ¬ skB n T sp c = true → ∀ υ, Rd σ υ m sp nm H → gi υ m 9 = gi τ m 9 → Q (some (vI 0)) υ) : Ca n_X9_takes [vR (some m), vI c] τ Q := by
  obtain ⟨y0, g0, g1, g2, g4, g5, g11, z1, z2, z3, z4, z5, z6⟩ := hM.1.sm h.1
  have t1 := hw.2.2.2.1.2.1
  have e6 : gi τ m 6 = n := h.2.1.trans hM.2.2.1
  have e7 := h.2.2.1
  rw [skB_iff] at h1 h0
  have no : ¬ (sp < n ∧ T sp = c) → Q (some (vI 0)) (sI τ m 7 sp) := fun z => h0 z _ h.k7 (by rw [gi_nk (by decide)])
  have yes : (sp < n ∧ T sp = c) → Q (some (vI 1)) (sI τ m 7 (sp + 1)) := fun z => h1 z _ h.k7 (by rw [gi_nk (by decide)])
  refine vc_X9_takes _ _ _ _ ?_
  simp only [y0, g5, z5, e6, e7, isS_some, true_and]
  rw [wr_i (x := sp + 0) (by omega), wr_i (x := sp + 1) (by omega), Int.add_zero]
  refine ⟨fun a => ⟨fun _ => ⟨by simp, no (by omega)⟩, fun z => absurd trivial z⟩, fun a => ⟨s0, by omega, ?_⟩⟩
  have e5 : gi τ (m + 5) sp.toNat = T sp := by
    rw [h.1.i (by unfold inH; omega)]
    exact hM.2.2.2 sp s0 (by omega)
  rw [e5]
  exact ⟨fun b => ⟨fun _ => ⟨by simp, no (by omega)⟩, fun z => absurd trivial z⟩, fun b => ⟨fun z => absurd z (by decide), fun _ => ⟨by simp, yes (by omega)⟩⟩⟩
theorem X9_isDigit (hM : MoC σ m F S K n T) (hw : StX F S K n T) (h : Rd σ τ m sp nm H) (s0 : 0 ≤ sp) (s1 : sp ≤ n) (h1 : dgB n T sp = true → Q (some (vI 1)) τ) (h0 : ¬ dgB n T sp = true → Q (some (vI 0)) τ) : Ca n_X9_isDigit [vR (some m)] τ Q := by
  obtain ⟨y0, g0, g1, g2, g4, g5, g11, z1, z2, z3, z4, z5, z6⟩ := hM.1.sm h.1
  have t1 := hw.2.2.2.1.2.1
  have e6 : gi τ m 6 = n := h.2.1.trans hM.2.2.1
  have e7 := h.2.2.1
  simp only [dgB, Bool.and_eq_true, decide_eq_true_eq] at h1 h0
  refine vc_X9_isDigit _ _ _ ?_
  simp only [y0, g5, z5, e6, e7, isS_some, true_and]
  refine ⟨fun a => ⟨by simp, h0 (by omega)⟩, fun a => ⟨s0, by omega, ?_⟩⟩
  have e5 : gi τ (m + 5) sp.toNat = T sp := by
    rw [h.1.i (by unfold inH; omega)]
    exact hM.2.2.2 sp s0 (by omega)
  rw [e5]
  exact X9_in (fun b => ⟨1, rfl, fun z => absurd z (by decide), fun _ => ⟨by simp, h1 (by omega)⟩⟩) (fun b => ⟨0, rfl, fun _ => ⟨by simp, h0 (by omega)⟩, fun z => absurd rfl z⟩)
set_option maxHeartbeats 4000000 in
theorem X9_takesNumber {least : Int} (hM : MoC σ m F S K n T) (hw : StX F S K n T) (h : Rd σ τ m sp nm H) (s0 : 0 ≤ sp) (s1 : sp ≤ n) (h1 : (numR n T sp least).1 = 1 → ∀ υ, Rd σ υ m (numR n T sp least).2.1 nm H → gi υ m 9 = (numR n T sp least).2.2 → Q (some (vI 1)) υ) (h0 : (numR n T sp least).1 = 0 → ∀ υ, Rd σ υ m (numR n T sp least).2.1 nm H → Q (some (vI 0)) υ) : Ca n_X9_takesNumber [vR (some m), vI least] τ Q := by
  have t1 := hw.2.2.2.1.2.1
  have tw := hw.2.2.2.1.2.2
  have key : ∀ (k j : Nat) (v : Int) (υ : ms_T), k + j = 5 → 0 ≤ v → v + 1 ≤ p10 j → sp + j ≤ n → scn n T k (sp + j) v = scn n T 5 sp 0 → Rd σ υ m (sp + j) nm H → gi υ m 9 = v → gi υ m 10 = sp → At n_X9_takesNumber 13 [some (vR (some m)), some (vI least), none] [] υ Q := by
    intro k
    induction k with
    | zero =>
      intro j v υ hj v0 v1 hn hsc hR e9 e10
      obtain ⟨y0, g0, g1, g2, g4, g5, g11, z1, z2, z3, z4, z5, z6⟩ := hM.1.sm hR.1
      have e7 := hR.2.2.1
      have hfin : scn n T 5 sp 0 = (sp + j, v) := hsc.symm
      have yes : ¬ sp + (j : Int) ≤ sp → least ≤ v → Q (some (vI 1)) υ := fun a b => by
        have er : numR n T sp least = (1, sp + (j : Int), v) := by unfold numR; rw [hfin, if_neg a, if_neg (by show ¬ v < least; omega)]
        rw [er] at h1
        exact h1 rfl υ hR e9
      have no : ¬ sp + (j : Int) ≤ sp → ¬ least ≤ v → Q (some (vI 0)) (sI υ m 7 sp) := fun a b => by
        have er : numR n T sp least = (0, sp, 0) := by unfold numR; rw [hfin, if_neg a, if_pos (by show v < least; omega)]
        rw [er] at h0
        exact h0 rfl _ hR.k7
      have non : sp + (j : Int) ≤ sp → Q (some (vI 0)) υ := fun a => by
        have er : numR n T sp least = (0, sp, 0) := by unfold numR; rw [hfin, if_pos a]
        rw [er] at h0
        have ej : sp + (j : Int) = sp := by omega
        rw [ej] at hR
        exact h0 rfl _ hR
      refine vc_X9_takesNumber_13 _ _ _ _ ⟨y0, X9_isDigit hM hw hR (by omega) hn (fun d => ⟨1, rfl, fun z => absurd z (by decide), fun _ => ?_⟩) (fun d => ⟨0, rfl, fun _ => ?_, fun z => absurd rfl z⟩)⟩
      · rw [e7, e9, e10, wr_i (x := sp + 5) (by omega)]
        exact ⟨y0, y0, fun _ => ⟨y0, y0, fun a => ⟨fun _ => ⟨by simp, non a⟩, fun z => absurd rfl z⟩, fun a => ⟨fun z => absurd z (by decide), fun _ => ⟨y0, fun b => ⟨by simp, yes a b⟩, fun b => ⟨y0, y0, by simp, no a b⟩⟩⟩⟩, fun z => by omega⟩
      · rw [e7, e9, e10]
        exact ⟨y0, y0, fun a => ⟨fun _ => ⟨by simp, non a⟩, fun z => absurd rfl z⟩, fun a => ⟨fun z => absurd z (by decide), fun _ => ⟨y0, fun b => ⟨by simp, yes a b⟩, fun b => ⟨y0, y0, by simp, no a b⟩⟩⟩⟩
    | succ k ih =>
      intro j v υ hj v0 v1 hn hsc hR e9 e10
      obtain ⟨y0, g0, g1, g2, g4, g5, g11, z1, z2, z3, z4, z5, z6⟩ := hM.1.sm hR.1
      have e7 := hR.2.2.1
      refine vc_X9_takesNumber_13 _ _ _ _ ⟨y0, X9_isDigit hM hw hR (by omega) hn (fun d => ⟨1, rfl, fun z => absurd z (by decide), fun _ => ?_⟩) (fun d => ⟨0, rfl, fun _ => ?_, fun z => absurd rfl z⟩)⟩
      · have dd := d
        simp only [dgB, Bool.and_eq_true, decide_eq_true_eq] at dd
        have pj : p10 j ≤ 10000 := by
          rcases (show j = 0 ∨ j = 1 ∨ j = 2 ∨ j = 3 ∨ j = 4 by omega) with z | z | z | z | z <;> rw [z] <;> decide
        have e5 : gi υ (m + 5) (sp + (j : Int)).toNat = T (sp + j) := by
          rw [hR.1.i (by unfold inH; omega)]
          exact hM.2.2.2 _ (by omega) (by omega)
        simp only [gs_sI, y0, g5, z5, e7, e9, e10, isS_some, true_and]
        rw [wr_i (x := sp + 5) (by omega), gi_nk (show ¬ 7 = 9 by decide), e7, e5, wr_i (x := 10 * v) (by omega), wr_i (x := 10 * v + T (sp + j)) (by omega), wr_i (x := 10 * v + T (sp + j) - 48) (by omega), wr_i (x := sp + j + 1) (by omega)]
        refine ⟨fun z => by omega, fun _ => ⟨by omega, by omega, ih (j + 1) (10 * v + T (sp + j) - 48) _ (by omega) (by omega) ?_ (by omega) ?_ ?_ ?_ ?_⟩⟩
        · show _ ≤ 10 * p10 j
          omega
        · rw [← hsc]
          unfold scn
          rw [if_pos d, show sp + ((j + 1 : Nat) : Int) = sp + j + 1 by omega, show 10 * v + (T (sp + j) - 48) = 10 * v + T (sp + j) - 48 by omega]
          cases k <;> rfl
        · have := (hR.k9 (k := 9) (v := 10 * v + T (sp + j) - 48) (Or.inl rfl)).k7 (v := sp + j + 1)
          rw [show sp + ((j + 1 : Nat) : Int) = sp + j + 1 by omega]
          exact this
        · rw [gi_nk (by decide), gi_eq]
        · rw [gi_nk (by decide), gi_nk (by decide)]; exact e10
      · have hfin : scn n T 5 sp 0 = (sp + j, v) := by rw [← hsc]; unfold scn; rw [if_neg d]
        have yes : ¬ sp + (j : Int) ≤ sp → least ≤ v → Q (some (vI 1)) υ := fun a b => by
          have er : numR n T sp least = (1, sp + (j : Int), v) := by unfold numR; rw [hfin, if_neg a, if_neg (by show ¬ v < least; omega)]
          rw [er] at h1
          exact h1 rfl υ hR e9
        have no : ¬ sp + (j : Int) ≤ sp → ¬ least ≤ v → Q (some (vI 0)) (sI υ m 7 sp) := fun a b => by
          have er : numR n T sp least = (0, sp, 0) := by unfold numR; rw [hfin, if_neg a, if_pos (by show v < least; omega)]
          rw [er] at h0
          exact h0 rfl _ hR.k7
        have non : sp + (j : Int) ≤ sp → Q (some (vI 0)) υ := fun a => by
          have er : numR n T sp least = (0, sp, 0) := by unfold numR; rw [hfin, if_pos a]
          rw [er] at h0
          have ej : sp + (j : Int) = sp := by omega
          rw [ej] at hR
          exact h0 rfl _ hR
        rw [e7, e9, e10]
        exact ⟨y0, y0, fun a => ⟨fun _ => ⟨by simp, non a⟩, fun z => absurd rfl z⟩, fun a => ⟨fun z => absurd z (by decide), fun _ => ⟨y0, fun b => ⟨by simp, yes a b⟩, fun b => ⟨y0, y0, by simp, no a b⟩⟩⟩⟩
  obtain ⟨y0, g0, g1, g2, g4, g5, g11, z1, z2, z3, z4, z5, z6⟩ := hM.1.sm h.1
  refine vc_X9_takesNumber _ _ _ _ ?_
  simp only [gs_sI, y0, h.2.2.1, true_and]
  have e0 : sp + ((0 : Nat) : Int) = sp := by omega
  refine key 5 0 0 _ rfl (by omega) (by decide) (by omega) (by rw [e0]) (by rw [e0]; exact (h.k9 (Or.inr rfl)).k9 (Or.inl rfl)) gi_eq (by rw [gi_nk (by decide), gi_eq])
set_option maxHeartbeats 4000000 in
theorem X9_takesHole {least : Int} (hM : MoC σ m F S K n T) (hw : StX F S K n T) (h : Rd σ τ m sp nm H) (s0 : 0 ≤ sp) (s1 : sp ≤ n) (hl : ln H ≤ 12) (h1 : (hoR n T sp least).1 = 1 → ∀ υ, Rd σ υ m (hoR n T sp least).2.1 nm (H ++ [((hoR n T sp least).2.2.1, (hoR n T sp least).2.2.2)]) → Q (some (vI 1)) υ) (h0 : (hoR n T sp least).1 = 0 → ∀ υ, Rd σ υ m (hoR n T sp least).2.1 nm H → Q (some (vI 0)) υ) : Ca n_X9_takesHole [vR (some m), vI least] τ Q := by
  have hnn := ln_nn H
  have b1 := numR_bd (T := T) (least := least) s1
  have app : ∀ (υ : ms_T) (s' u v : Int), Rd σ υ m s' nm H → Rd σ (sI (sI (sI υ (m + 4) (2 * ln H).toNat u) (m + 4) (2 * ln H + 1).toNat v) m 3 (ln H + 1)) m s' nm (H ++ [(u, v)]) := fun υ s' u v hR =>
    ⟨((hR.1.st (Or.inr rfl)).st (Or.inr rfl)).st (Or.inl rfl), by rw [gi_nk (by decide), gi_ne (by omega), gi_ne (by omega)]; exact hR.2.1, by rw [gi_nk (by decide), gi_ne (by omega), gi_ne (by omega)]; exact hR.2.2.1, by rw [gi_nk (by decide), gi_ne (by omega), gi_ne (by omega)]; exact hR.2.2.2.1, hR.2.2.2.2.app rfl (by omega)⟩
  refine vc_X9_takesHole _ _ _ _ ⟨(hM.1.sm h.1).1, X9_takesNumber hM hw h s0 s1 (fun a υ hR e9 => ⟨1, rfl, fun _ => ⟨(hM.1.sm hR.1).1, (hM.1.sm hR.1).1, X9_takes hM hw hR (by omega) b1.2.2.1 (fun c ω hR2 e92 => ⟨1, rfl, fun z => absurd z (by decide), fun _ => ⟨(hM.1.sm hR2.1).1, ?_⟩⟩) (fun c ω hR2 e92 => ⟨0, rfl, fun _ => ?_, fun z => absurd rfl z⟩)⟩, fun z => absurd (show ¬ (1 : Int) = 0 by decide) z⟩) (fun a υ hR => ⟨0, rfl, fun z => absurd rfl z, fun _ => ⟨by simp, ?_⟩⟩)⟩
  · have lt := (skB_iff.mp c).1
    have b2 := numR_bd (T := T) (sp := (numR n T sp least).2.1 + 1) (least := (numR n T sp least).2.2) (n := n) (by omega)
    rw [e9]
    refine X9_takesNumber hM hw hR2 (by omega) (by omega) (fun a2 ω2 hR3 e93 => ⟨1, rfl, fun _ => ?_, fun z => absurd (show ¬ (1 : Int) = 0 by decide) z⟩) (fun a2 ω2 hR3 => ⟨0, rfl, fun z => absurd rfl z, fun _ => ⟨by simp, ?_⟩⟩)
    · obtain ⟨y0, g0, g1, g2, g4, g5, g11, z1, z2, z3, z4, z5, z6⟩ := hM.1.sm hR3.1
      have e3 : gi ω2 m 3 = ln H := hR3.2.2.2.2.1
      have er : hoR n T sp least = (1, (numR n T ((numR n T sp least).2.1 + 1) (numR n T sp least).2.2).2.1, (numR n T sp least).2.2, (numR n T ((numR n T sp least).2.1 + 1) (numR n T sp least).2.2).2.2) := by
        unfold hoR
        rw [if_neg (by omega), if_pos c, if_neg (by omega)]
      rw [er] at h1
      simp only [gs_sI, gr_sI, y0, g4, z4, e3, e93, isS_some, true_and, gi_ne (show ¬ m = m + 4 by omega)]
      rw [wr_i (x := 2 * ln H) (by omega), wr_i (x := 2 * ln H + 1) (by omega), wr_i (x := ln H + 1) (by omega)]
      exact ⟨by omega, by omega, by omega, by omega, by simp, h1 rfl _ (app _ _ _ _ hR3)⟩
    · have er : hoR n T sp least = (0, (numR n T ((numR n T sp least).2.1 + 1) (numR n T sp least).2.2).2.1, 0, 0) := by
        unfold hoR
        rw [if_neg (by omega), if_pos c, if_pos a2]
      rw [er] at h0
      exact h0 rfl _ hR3
  · obtain ⟨y0, g0, g1, g2, g4, g5, g11, z1, z2, z3, z4, z5, z6⟩ := hM.1.sm hR2.1
    have e3 : gi ω m 3 = ln H := hR2.2.2.2.2.1
    have er : hoR n T sp least = (1, (numR n T sp least).2.1, (numR n T sp least).2.2, (numR n T sp least).2.2) := by
      unfold hoR
      rw [if_neg (by omega), if_neg c]
    rw [er] at h1
    have e99 : gi ω m 9 = (numR n T sp least).2.2 := e92.trans e9
    simp only [gs_sI, gr_sI, y0, g4, z4, e3, e9, e99, isS_some, true_and, gi_ne (show ¬ m = m + 4 by omega)]
    rw [wr_i (x := 2 * ln H) (by omega), wr_i (x := 2 * ln H + 1) (by omega), wr_i (x := ln H + 1) (by omega)]
    exact ⟨by omega, by omega, by omega, by omega, by simp, h1 rfl _ (app _ _ _ _ hR2)⟩
  · have er : hoR n T sp least = (0, (numR n T sp least).2.1, 0, 0) := by
      unfold hoR
      rw [if_pos a]
    rw [er] at h0
    exact h0 rfl _ hR
end M
