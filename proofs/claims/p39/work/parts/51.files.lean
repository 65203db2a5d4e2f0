def isF (σ : ms_T) (a : Nat) : Prop := gs σ a = (0, 0) ∧ gr σ a 0 = some (a + 1) ∧ gr σ a 1 = some (a + 2) ∧ gr σ a 2 = some (a + 3) ∧ gr σ a 3 = some (a + 4) ∧ gs σ (a + 1) = (50, 30) ∧ gs σ (a + 2) = (50, 30) ∧ gs σ (a + 3) = (50, 30) ∧ gs σ (a + 4) = (50, 30)
theorem isF.sm {σ τ : ms_T} {a : Nat} {P : Nat → Prop} (h : isF σ a) (hs : Sm σ τ P) : isF τ a := by
  unfold isF at *
  simp only [hs.s, hs.r]
  exact h
def FlC (σ : ms_T) (a : Nat) (F : Fl) : Prop := isF σ a ∧ gi σ a 4 = F.1 ∧ ∀ f : Int, 0 ≤ f → f < F.1 → gi σ (a + 1) f.toNat = F.2 f 0 ∧ gi σ (a + 2) f.toNat = F.2 f 3 ∧ gi σ (a + 3) f.toNat = F.2 f 2 ∧ gi σ (a + 4) f.toNat = F.2 f 1
def inF (a c : Nat) : Prop := a ≤ c ∧ c ≤ a + 4
theorem FlC.sm {σ τ : ms_T} {a : Nat} {F : Fl} {P : Nat → Prop} (h : FlC σ a F) (hs : Sm σ τ P) (hP : ∀ c, inF a c → ¬ P c) : FlC τ a F := by
  refine ⟨h.1.sm hs, ?_, fun f h0 h1 => ?_⟩
  · rw [hs.i (hP a ⟨by omega, by omega⟩)]; exact h.2.1
  · rw [hs.i (hP (a + 1) ⟨by omega, by omega⟩), hs.i (hP (a + 2) ⟨by omega, by omega⟩), hs.i (hP (a + 3) ⟨by omega, by omega⟩), hs.i (hP (a + 4) ⟨by omega, by omega⟩)]
    exact h.2.2 f h0 h1
theorem X0_isStored {a : Nat} {σ : ms_T} {F : Fl} {f : Int} {Q : mq_T} (h : FlC σ a F) (h1 : 0 ≤ f → f < F.1 → Q (some (vI 1)) σ) (h0 : ¬ (0 ≤ f ∧ f < F.1) → Q (some (vI 0)) σ) : Ca n_X0_isStored [vR (some a), vI f] σ Q := by
  obtain ⟨⟨s0, -⟩, hn, -⟩ := h
  refine vc_X0_isStored _ _ _ _ ?_
  rw [hn]
  exact ⟨fun e => ⟨Or.inl rfl, h0 (by omega)⟩, fun e => ⟨s0, fun e2 => ⟨Or.inl rfl, h0 (by omega)⟩, fun e2 => ⟨Or.inr rfl, h1 (by omega) (by omega)⟩⟩⟩
set_option maxHeartbeats 4000000 in
theorem X0_exists {a : Nat} {σ : ms_T} {F : Fl} {f t : Int} {Q : mq_T} (h : FlC σ a F) (hF : FW F) (h1 : exP F f t → Q (some (vI 1)) σ) (h0 : ¬ exP F f t → Q (some (vI 0)) σ) : Ca n_X0_exists [vR (some a), vI f, vI t] σ Q := by
  have h' := h
  obtain ⟨⟨s0, r0, r1, r2, r3, s1, s2, s3, s4⟩, hn, hb⟩ := h
  refine vc_X0_exists _ _ _ _ _ ⟨s0, X0_isStored h' (fun c1 c2 => ⟨1, rfl, ?_⟩) (fun c => ⟨0, rfl, ?_⟩)⟩
  · obtain ⟨e1, e2, e3, e4⟩ := hb f c1 c2
    have g := hF.2.2 f c1 c2
    have := hF.2.1
    simp only [s0, r2, r3, s3, s4, e3, e4, isS_some, true_and]
    rw [wr_i (by omega)]
    refine ⟨fun z => by omega, fun _ => ⟨c1, by omega, c1, by omega, fun e => ⟨by simp, h0 (fun z => ?_)⟩, fun e => ⟨by simp, h1 ⟨c1, c2, by omega⟩⟩⟩⟩
    have := z.2.2
    omega
  · refine ⟨fun _ => ⟨by simp, h0 (fun z => c ⟨z.1, z.2.1⟩)⟩, fun z => absurd rfl z⟩
theorem X0_hasStoredAt {a : Nat} {σ : ms_T} {F : Fl} {t : Int} {Q : mq_T} (h : FlC σ a F) (hF : FW F) (h1 : 0 < F.1 → F.2 (F.1 - 1) 1 = t → Q (some (vI 1)) σ) (h0 : ¬ (0 < F.1 ∧ F.2 (F.1 - 1) 1 = t) → Q (some (vI 0)) σ) : Ca n_X0_hasStoredAt [vR (some a), vI t] σ Q := by
  obtain ⟨⟨s0, r0, r1, r2, r3, s1, s2, s3, s4⟩, hn, hb⟩ := h
  have := hF.2.1
  refine vc_X0_hasStoredAt _ _ _ _ ?_
  simp only [s0, r3, s4, hn, isS_some, true_and]
  refine ⟨fun e => ⟨by simp, h0 (by omega)⟩, fun e => ?_⟩
  rw [wr_i (by omega)]
  have hb' := (hb (F.1 - 1) (by omega) (by omega)).2.2.2
  rw [hb']
  exact ⟨by omega, by omega, fun e2 => ⟨by simp, h0 (fun z => e2 z.2)⟩, fun e2 => ⟨by simp, h1 (by omega) (by omega)⟩⟩
theorem exB_of {F : Fl} {t f : Int} (h0 : 0 ≤ f) (h1 : f < F.1) : exB F t f = true ↔ exP F f t := by
  unfold exB exP
  rw [decide_eq_true_eq]
  exact ⟨fun h => ⟨h0, h1, h⟩, fun h => h.2.2⟩
theorem exN_bd {F : Fl} {t : Int} : ∀ i, 0 ≤ i → i ≤ F.1 → 0 ≤ smI (fun f => if exB F t f = true then 1 else 0) i ∧ smI (fun f => if exB F t f = true then 1 else 0) i ≤ i := by
  intro i h0 h1
  have := smI_bd (f := fun f => if exB F t f = true then (1 : Int) else 0) (n := F.1) (lo := 0) (hi := 1) (fun i _ _ => by split <;> omega) (by omega) (by omega) i h0 h1
  omega
set_option maxHeartbeats 4000000 in
theorem X0_countExisting {a : Nat} {σ : ms_T} {F : Fl} {t : Int} {Q : mq_T} (h : FlC σ a F) (hF : FW F) (hQ : Q (some (vI (exN F t))) σ) : Ca n_X0_countExisting [vR (some a), vI t] σ Q := by
  have h' := h
  obtain ⟨⟨s0, r0, r1, r2, r3, s1, s2, s3, s4⟩, hn, hb⟩ := h
  have hf0 := hF.1
  have hf1 := hF.2.1
  have key : ∀ (k : Nat) (i x : Int), 0 ≤ i → i ≤ F.1 → F.1 - i < k → x = smI (fun f => if exB F t f = true then 1 else 0) i → At n_X0_countExisting 4 [some (vR (some a)), some (vI t), some (vI x), some (vI i)] [] σ Q := by
    intro k
    induction k with
    | zero => intro i x h0 h1 h2; omega
    | succ k ih =>
      intro i x h0 h1 h2 hx
      have hbd := exN_bd (F := F) (t := t) i h0 h1
      have hss := smI_s (f := fun f => if exB F t f = true then (1 : Int) else 0) h0
      rw [← hx] at hbd hss
      refine vc_X0_countExisting_4 _ _ _ _ _ _ ?_
      simp only [s0, hn, true_and]
      refine ⟨fun e => ?_, fun e => ?_⟩
      · have ei : i = F.1 := by omega
        rw [hx, ei]; exact hQ
      · rw [wr_i (x := i + 1) (by omega), wr_i (x := x + 1) (by omega)]
        refine X0_exists h' hF (fun c => ⟨1, rfl, fun z => by omega, fun _ => ?_⟩) (fun c => ⟨0, rfl, fun _ => ?_, fun z => absurd rfl z⟩)
        · rw [← exB_of h0 (by omega)] at c
          exact ih _ _ (by omega) (by omega) (by omega) (by rw [hss]; simp only [c, if_true])
        · rw [← exB_of h0 (by omega)] at c
          exact ih _ _ (by omega) (by omega) (by omega) (by rw [hss]; simp only [c]; simp)
  exact vc_X0_countExisting _ _ _ _ (key (F.1 + 1).toNat 0 0 (by omega) hf0 (by omega) rfl)
theorem X0_byteAt {a : Nat} {σ : ms_T} {F : Fl} {f k : Int} {Q : mq_T} (h : FlC σ a F) (hF : FW F) (h0 : 0 ≤ f) (h1 : f < F.1) (hQ : Q (some (vI (byF F f k))) σ) : Ca n_X0_byteAt [vR (some a), vI f, vI k] σ Q := by
  have h' := h
  obtain ⟨⟨s0, r0, r1, r2, r3, s1, s2, s3, s4⟩, hn, hb⟩ := h
  obtain ⟨e1, e2, e3, e4⟩ := hb f h0 h1
  have := hF.2.1
  refine vc_X0_byteAt _ _ _ _ _ ⟨s0, X0_isStored h' (fun c1 c2 => ⟨1, rfl, ?_⟩) (fun c => absurd ⟨h0, h1⟩ c)⟩
  simp only [s0, r1, s2, e2, isS_some, true_and]
  exact ⟨fun _ => ⟨h0, by omega, by decide, by decide, hQ⟩, fun z => absurd (show ¬ (1 : Int) = 0 by decide) z⟩
set_option maxHeartbeats 4000000 in
theorem X0_firstStoredFrom {a : Nat} {σ : ms_T} {F : Fl} {u t : Int} {Q : mq_T} (h : FlC σ a F) (hF : FW F) (hQ : Q (some (vI (fsF F u t))) σ) : Ca n_X0_firstStoredFrom [vR (some a), vI u, vI t] σ Q := by
  have h' := h
  obtain ⟨⟨s0, r0, r1, r2, r3, s1, s2, s3, s4⟩, hn, hb⟩ := h
  have hf0 := hF.1
  have hf1 := hF.2.1
  have key : ∀ (k : Nat) (i : Int), 0 ≤ i → i ≤ F.1 → F.1 - i < k → frI (fun f => decide (u ≤ F.2 f 1) && exB F t f) i.toNat = -1 → At n_X0_firstStoredFrom 2 [some (vR (some a)), some (vI u), some (vI t), some (vI i)] [] σ Q := by
    intro k
    induction k with
    | zero => intro i h0 h1 h2; omega
    | succ k ih =>
      intro i h0 h1 h2 hx
      have hss := frI_s (p := fun f => decide (u ≤ F.2 f 1) && exB F t f) h0
      rw [hx] at hss
      rw [if_neg (by decide)] at hss
      refine vc_X0_firstStoredFrom_2 _ _ _ _ _ _ ?_
      simp only [s0, r3, s4, hn, isS_some, true_and]
      refine ⟨fun e => ?_, fun e => ?_⟩
      · have ei : i = F.1 := by omega
        have : fsF F u t = -1 := by unfold fsF; rw [← ei]; exact hx
        rw [this] at hQ
        exact hQ
      · have hb' := (hb i h0 (by omega)).2.2.2
        rw [wr_i (x := i + 1) (by omega), hb']
        refine ⟨h0, by omega, fun e2 => ?_, fun e2 => ?_⟩
        · refine ih _ (by omega) (by omega) (by omega) ?_
          rw [hss]
          simp only [decide_eq_false (show ¬ u ≤ F.2 i 1 by omega), Bool.false_and, if_neg (show ¬ false = true by decide)]
        · refine X0_exists h' hF (fun c => ⟨1, rfl, fun z => by omega, fun _ => ?_⟩) (fun c => ⟨0, rfl, fun _ => ?_, fun z => absurd rfl z⟩)
          · rw [← exB_of h0 (by omega)] at c
            rw [if_pos (by simp only [c, Bool.and_true, decide_eq_true_eq]; omega)] at hss
            have h3 := frI_up (p := fun f => decide (u ≤ F.2 f 1) && exB F t f) (k := (i + 1).toNat) (by rw [hss]; exact h0) F.1.toNat (by omega)
            have : fsF F u t = i := by unfold fsF; rw [h3, hss]
            rw [this] at hQ
            exact hQ
          · rw [← exB_of h0 (by omega)] at c
            refine ih _ (by omega) (by omega) (by omega) ?_
            rw [hss, if_neg (by simp only [Bool.and_eq_true]; exact fun z => c z.2)]
  exact vc_X0_firstStoredFrom _ _ _ _ _ (key (F.1 + 1).toNat 0 (by omega) hf0 (by omega) rfl)
set_option maxHeartbeats 4000000 in
theorem X0_lastStoringBefore {a : Nat} {σ : ms_T} {F : Fl} {u t : Int} {Q : mq_T} (h : FlC σ a F) (hF : FW F) (hQ : Q (some (vI (bhF F u t - 1))) σ) : Ca n_X0_lastStoringBefore [vR (some a), vI u, vI t] σ Q := by
  have h' := h
  obtain ⟨⟨s0, r0, r1, r2, r3, s1, s2, s3, s4⟩, hn, hb⟩ := h
  have hf0 := hF.1
  have hf1 := hF.2.1
  have key : ∀ (k : Nat) (i x : Int), 0 ≤ i → i ≤ F.1 → F.1 - i < k → x = (if lsI (fun f => decide (F.2 f 1 < u) && exB F t f) i.toNat < 0 then -1 else F.2 (lsI (fun f => decide (F.2 f 1 < u) && exB F t f) i.toNat) 1) → At n_X0_lastStoringBefore 5 [some (vR (some a)), some (vI u), some (vI t), some (vI x), some (vI i)] [] σ Q := by
    intro k
    induction k with
    | zero => intro i x h0 h1 h2; omega
    | succ k ih =>
      intro i x h0 h1 h2 hx
      have hss := lsI_s (p := fun f => decide (F.2 f 1 < u) && exB F t f) h0
      refine vc_X0_lastStoringBefore_5 _ _ _ _ _ _ _ ?_
      simp only [s0, r3, s4, hn, isS_some, true_and]
      refine ⟨fun e => ?_, fun e => ?_⟩
      · have ei : i = F.1 := by omega
        have : bhF F u t - 1 = x := by
          unfold bhF lsF
          rw [hx, ei]
          split <;> omega
        rw [this] at hQ
        exact hQ
      · have hb' := (hb i h0 (by omega)).2.2.2
        rw [wr_i (x := i + 1) (by omega), hb']
        refine ⟨h0, by omega, fun e2 => ?_, fun e2 => ?_⟩
        · refine ih _ _ (by omega) (by omega) (by omega) ?_
          rw [if_neg (by simp only [Bool.and_eq_true, decide_eq_true_eq]; omega)] at hss
          rw [hss]
          exact hx
        · refine X0_exists h' hF (fun c => ⟨1, rfl, fun z => by omega, fun _ => ?_⟩) (fun c => ⟨0, rfl, fun _ => ?_, fun z => absurd rfl z⟩)
          · rw [← exB_of h0 (by omega)] at c
            rw [if_pos (by simp only [c, Bool.and_true, decide_eq_true_eq]; omega)] at hss
            simp only [s0, r3, s4, isS_some, true_and]
            rw [hb']
            refine ⟨h0, by omega, ?_⟩
            exact ih _ _ (by omega) (by omega) (by omega) (by rw [hss, if_neg (by omega)])
          · rw [← exB_of h0 (by omega)] at c
            rw [if_neg (by simp only [Bool.and_eq_true]; exact fun z => c z.2)] at hss
            exact ih _ _ (by omega) (by omega) (by omega) (by rw [hss]; exact hx)
  exact vc_X0_lastStoringBefore _ _ _ _ _ (key (F.1 + 1).toNat 0 (-1) (by omega) hf0 (by omega) rfl)
