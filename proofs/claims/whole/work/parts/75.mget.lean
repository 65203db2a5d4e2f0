theorem bAnd_one (x : Int) : bAnd x 1 = 0 ∨ bAnd x 1 = 1 := by
  have h : ∀ y : BitVec 32, (y &&& 1#32).toInt = 0 ∨ (y &&& 1#32).toInt = 1 := by
    intro y
    rw [BitVec.and_one_eq_setWidth_ofBool_getLsbD]
    cases y.getLsbD 0
    · left; decide
    · right; decide
  exact h (Int32.ofInt x).toBitVec
theorem knP_n {s : St} {f : Int} : ¬ knP s f ↔ bAnd (bShr (sc s 5) f) 1 = 0 := by
  unfold knP
  have := bAnd_one (bShr (sc s 5) f)
  omega
section M
variable {σ : ms_T} {m : Nat} {F : Fl} {S : Sa} {K : Int → Int} {n : Int} {T : Int → Int} {Q : mq_T}
theorem MoC.sta {i : Int} (h : MoC σ m F S K n T) (hw : StX F S K n T) (hi : stnP S i) : StR (ro σ m) i (sts S i) ∧ SW F (sts S i) ∧ 0 ≤ i ∧ i < 5 := ⟨h.2.1.2.1.2.2.1 i hi.1 hi.2, hw.2.1.2.2.1 i hi.1 hi.2, hi.1, by have := hi.2; have := hw.2.1.1.2; omega⟩
theorem M_isStation {i : Int} (h : MoC σ m F S K n T) (hw : StX F S K n T) (h1 : stnP S i → Q (some (vI 1)) σ) (h0 : ¬ stnP S i → Q (some (vI 0)) σ) : Ca n_X9_isStation [vR (some m), vI i] σ Q :=
  X9_isStation h.1 h.2.1.2.1.1.2 hw.2.1.1.1 hw.2.1.1.2 h1 h0
theorem M_isFile {f : Int} (h : MoC σ m F S K n T) (hw : StX F S K n T) (h1 : filQ F f → Q (some (vI 1)) σ) (h0 : ¬ filQ F f → Q (some (vI 0)) σ) : Ca n_X9_isFile [vR (some m), vI f] σ Q :=
  X9_isFile h.1 h.2.1.1.1 hw.1 h1 h0
theorem M_isAsked {i t : Int} (h : MoC σ m F S K n T) (hw : StX F S K n T) (h1 : askP S i t → Q (some (vI 1)) σ) (h0 : ¬ askP S i t → Q (some (vI 0)) σ) : Ca n_X9_isAsked [vR (some m), vI i, vI t] σ Q := by
  unfold askP at h1 h0
  refine vc_X9_isAsked _ _ _ _ _ ⟨h.1.1, M_isStation h hw (fun c => ⟨1, rfl, fun z => absurd z (by decide), fun _ => X9_in (fun d => ⟨1, rfl, fun z => absurd z (by decide), fun _ => ⟨Or.inr rfl, h1 ⟨c, d⟩⟩⟩) (fun d => ⟨0, rfl, fun _ => ⟨Or.inl rfl, h0 fun z => d z.2⟩, fun z => absurd rfl z⟩)⟩) (fun c => ⟨0, rfl, fun _ => ⟨Or.inl rfl, h0 fun z => c z.1⟩, fun z => absurd rfl z⟩)⟩
theorem M_inView {i t : Int} (h : MoC σ m F S K n T) (hw : StX F S K n T) (hQ : Q (some (vI (rInView S i t))) σ) : Ca n_X9_inView [vR (some m), vI i, vI t] σ Q := by
  unfold rInView at hQ
  refine vc_X9_inView _ _ _ _ _ ⟨h.1.1, M_isAsked h hw (fun c => ⟨1, rfl, fun _ => ?_, fun z => absurd (show ¬ (1 : Int) = 0 by decide) z⟩) (fun c => ⟨0, rfl, fun z => absurd rfl z, fun _ => ?_⟩)⟩
  · rw [cif_p c] at hQ
    obtain ⟨a1, a2, a3, a4⟩ := h.sta hw c.1
    have d := c.2
    refine ⟨h.1.1, X9_isInView h.1 a1.1 a2 a3 a4 d.1 (by omega) (fun e => ⟨1, rfl, fun z => absurd z (by decide), fun _ => ?_⟩) (fun e => ⟨0, rfl, fun _ => ?_, fun z => absurd rfl z⟩)⟩
    · rw [cif_p e] at hQ; exact hQ
    · rw [cif_n e] at hQ; exact hQ
  · rw [cif_n c] at hQ; exact hQ
theorem M_receives {i t : Int} (h : MoC σ m F S K n T) (hw : StX F S K n T) (hQ : Q (some (vI (rRecv S i t))) σ) : Ca n_X9_receives [vR (some m), vI i, vI t] σ Q := by
  unfold rRecv at hQ
  refine vc_X9_receives _ _ _ _ _ ⟨h.1.1, M_isAsked h hw (fun c => ⟨1, rfl, fun _ => ?_, fun z => absurd (show ¬ (1 : Int) = 0 by decide) z⟩) (fun c => ⟨0, rfl, fun z => absurd rfl z, fun _ => ?_⟩)⟩
  · rw [cif_p c] at hQ
    obtain ⟨a1, a2, a3, a4⟩ := h.sta hw c.1
    have d := c.2
    refine ⟨h.1.1, X9_isInView h.1 a1.1 a2 a3 a4 d.1 (by omega) (fun e => ⟨1, rfl, fun z => absurd z (by decide), fun _ => ?_⟩) (fun e => ⟨0, rfl, fun _ => ?_, fun z => absurd rfl z⟩)⟩
    · refine ⟨h.1.1, X9_isHit h.1 a1.1 a3 a4 d.1 (by omega) (fun f => ⟨1, rfl, fun _ => ?_, fun z => absurd (show ¬ (1 : Int) = 0 by decide) z⟩) (fun f => ⟨0, rfl, fun z => absurd rfl z, fun _ => ?_⟩)⟩
      · rw [cif_n fun z => z.2 f] at hQ; exact hQ
      · rw [cif_p ⟨e, f⟩] at hQ; exact hQ
    · rw [cif_n fun z => e z.1] at hQ; exact hQ
  · rw [cif_n c] at hQ; exact hQ
theorem M_nextView {i t : Int} (h : MoC σ m F S K n T) (hw : StX F S K n T) (hQ : Q (some (vI (rNext S i t))) σ) : Ca n_X9_nextView [vR (some m), vI i, vI t] σ Q := by
  unfold rNext at hQ
  refine vc_X9_nextView _ _ _ _ _ ⟨h.1.1, M_isAsked h hw (fun c => ⟨1, rfl, fun _ => ?_, fun z => absurd (show ¬ (1 : Int) = 0 by decide) z⟩) (fun c => ⟨0, rfl, fun z => absurd rfl z, fun _ => ?_⟩)⟩
  · rw [cif_p c] at hQ
    obtain ⟨a1, a2, a3, a4⟩ := h.sta hw c.1
    have d := c.2
    have b := a2.1
    unfold fstS at hQ
    refine ⟨h.1.1, X9_isInView h.1 a1.1 a2 a3 a4 d.1 (by omega) (fun e => ⟨1, rfl, fun z => absurd z (by decide), fun _ => ?_⟩) (fun e => ⟨0, rfl, fun _ => ?_, fun z => absurd rfl z⟩)⟩
    · rw [if_neg (by have := e.1; omega), if_pos e.2] at hQ; exact hQ
    · refine ⟨h.1.1, X9_station h.1 a3 a4 (by decide) (by decide) ⟨_, rfl, h.1.1, X9_station h.1 a3 a4 (by decide) (by decide) ⟨_, rfl, ?_⟩⟩⟩
      rw [a1.1 1 (by decide) (by decide), a1.1 0 (by decide) (by decide), wr_i (x := t - sc (sts S i) 1) (by omega), wr_i (x := t + sc (sts S i) 0) (by omega)]
      refine ⟨fun f => ?_, fun f => ⟨h.1.1, X9_station h.1 a3 a4 (by decide) (by decide) ⟨_, rfl, ?_⟩⟩⟩
      · have hb := tmod_bd (x := t - sc (sts S i) 1) (p := sc (sts S i) 0) (by omega) (by omega)
        rw [wr_i (by omega)]
        rw [if_neg (by omega), if_neg (fun z => e ⟨by omega, z⟩)] at hQ
        rw [show t + sc (sts S i) 0 - (t - sc (sts S i) 1).tmod (sc (sts S i) 0) = t - (t - sc (sts S i) 1).tmod (sc (sts S i) 0) + sc (sts S i) 0 by omega]
        exact ⟨by omega, hQ⟩
      · rw [if_pos (by omega)] at hQ
        rw [a1.1 1 (by decide) (by decide)]
        exact hQ
  · rw [cif_n c] at hQ; exact hQ
theorem M_exists {f : Int} (h : MoC σ m F S K n T) (hw : StX F S K n T) (hf : filQ F f) (h1 : exB F (now S) f = true → Q (some (vI 1)) σ) (h0 : ¬ exB F (now S) f = true → Q (some (vI 0)) σ) : Ca n_X9_exists [vR (some m), vI f] σ Q :=
  X9_exists h.1 h.2.1.1 h.2.1.2.1.1.1 hw.1 hf h1 h0
theorem M_existing (h : MoC σ m F S K n T) (hw : StX F S K n T) (hQ : Q (some (vI (exN F (now S)))) σ) : Ca n_X9_existing [vR (some m)] σ Q := by
  obtain ⟨s0, g0, g1, g2, g4, g5, g11, z1, z2, z3, z4, z5, z6⟩ := h.1
  have e2 : gi σ (m + 1) (2 : Int).toNat = F.1 := h.2.1.1.1
  have f0 := hw.1.1
  have f30 := hw.1.2.1
  have bd := fun i a1 a2 => smI_bd (f := fun f => if exB F (now S) f = true then (1 : Int) else 0) (n := F.1) (lo := 0) (hi := 1) (fun i _ _ => by split <;> omega) (by omega) (by omega) i a1 a2
  have key : ∀ (k : Nat) (i x : Int), 0 ≤ i → i ≤ F.1 → F.1 - i < k → x = smI (fun f => if exB F (now S) f = true then 1 else 0) i → At n_X9_existing 4 [some (vR (some m)), some (vI x), some (vI i)] [] σ Q := by
    intro k
    induction k with
    | zero => intro i x h0 h1 h2; omega
    | succ k ih =>
      intro i x h0 h1 h2 hx
      have b1 := bd i h0 h1
      have hss := smI_s (f := fun f => if exB F (now S) f = true then (1 : Int) else 0) h0
      rw [← hx] at b1 hss
      refine vc_X9_existing_4 _ _ _ _ _ ?_
      simp only [s0, g0, z1, e2, isS_some, true_and]
      refine ⟨by decide, by decide, fun e => ?_, fun e => ?_⟩
      · rw [hx, show i = F.1 by omega]; exact hQ
      · rw [wr_i (x := i + 1) (by omega), wr_i (x := x + 0) (by omega), wr_i (x := x + 1) (by omega)]
        refine M_exists h hw ⟨h0, by omega⟩ (fun c => ⟨1, rfl, fun z => absurd z (by decide), fun _ => ih _ _ (by omega) (by omega) (by omega) ?_⟩) (fun c => ⟨0, rfl, fun _ => ih _ _ (by omega) (by omega) (by omega) ?_, fun z => absurd rfl z⟩)
        · rw [if_pos c] at hss; omega
        · rw [if_neg c] at hss; omega
  exact vc_X9_existing _ _ _ (key (F.1 + 1).toNat 0 0 (by omega) f0 (by omega) rfl)
theorem M_fileInfo {f w : Int} (h : MoC σ m F S K n T) (hw : StX F S K n T) (hQ : Q (some (vI (rInfo F (now S) f w))) σ) : Ca n_X9_fileInfo [vR (some m), vI f, vI w] σ Q := by
  unfold rInfo at hQ
  refine vc_X9_fileInfo _ _ _ _ _ ⟨h.1.1, M_isFile h hw (fun c => ⟨1, rfl, fun z => absurd z (by decide), fun _ => ?_⟩) (fun c => ⟨0, rfl, fun _ => ?_, fun z => absurd rfl z⟩)⟩
  · refine X9_in (fun d => ⟨1, rfl, fun _ => ⟨fun e => ?_, fun e => ?_⟩, fun z => absurd (show ¬ (1 : Int) = 0 by decide) z⟩) (fun d => ⟨0, rfl, fun z => absurd rfl z, fun _ => ?_⟩)
    · rw [cif_p ⟨c, d⟩, cif_n (by omega)] at hQ
      unfold exP at hQ
      refine ⟨h.1.1, M_exists h hw c (fun z => ⟨1, rfl, fun z => absurd z (by decide), fun _ => ?_⟩) (fun z => ⟨0, rfl, fun _ => ?_, fun z => absurd rfl z⟩)⟩
      · rw [cif_p ⟨c.1, c.2, by unfold exB at z; simpa using z⟩] at hQ; exact hQ
      · rw [cif_n fun y => z (by unfold exB; simpa using y.2.2)] at hQ; exact hQ
    · have := hw.1.2.1
      have c2 := c.2
      refine ⟨h.1.1, X9_file h.1 c.1 (by omega) d.1 (by omega) ⟨_, rfl, ?_⟩⟩
      rw [h.2.1.1.2 f c.1 c.2 w d.1 (by omega)]
      rw [cif_p ⟨c, d⟩, cif_p (by omega)] at hQ; exact hQ
    · rw [cif_n fun z => d z.2] at hQ; exact hQ
  · rw [cif_n fun z => c z.1] at hQ; exact hQ
theorem M_byteOf {f k : Int} (h : MoC σ m F S K n T) (hw : StX F S K n T) (c : filQ F f) (hQ : Q (some (vI (byF F f k))) σ) : Ca n_X9_byteOf [vR (some m), vI f, vI k] σ Q := by
  have := hw.1.2.1
  have c2 := c.2
  refine vc_X9_byteOf _ _ _ _ _ ⟨h.1.1, X9_file h.1 c.1 (by omega) (by decide) (by decide) ⟨_, rfl, by decide, by decide, ?_⟩⟩
  rw [h.2.1.1.2 f c.1 c.2 3 (by decide) (by decide)]
  exact hQ
theorem M_fileByte {f k : Int} (h : MoC σ m F S K n T) (hw : StX F S K n T) (hQ : Q (some (vI (rByte F f k))) σ) : Ca n_X9_fileByte [vR (some m), vI f, vI k] σ Q := by
  unfold rByte at hQ
  refine vc_X9_fileByte _ _ _ _ _ ⟨h.1.1, M_isFile h hw (fun c => ⟨1, rfl, fun z => absurd z (by decide), fun _ => ⟨fun d => ⟨h.1.1, ?_⟩, fun d => ?_⟩⟩) (fun c => ⟨0, rfl, fun _ => ?_, fun z => absurd rfl z⟩)⟩
  · have := hw.1.2.1
    have c2 := c.2
    rw [cif_p ⟨c, d⟩] at hQ
    refine X9_file h.1 c.1 (by omega) (by decide) (by decide) ⟨_, rfl, ?_⟩
    rw [h.2.1.1.2 f c.1 c.2 0 (by decide) (by decide)]
    refine ⟨fun e => ?_, fun e => ⟨h.1.1, M_byteOf h hw c ⟨_, rfl, ?_⟩⟩⟩
    · rw [cif_n (by omega)] at hQ; exact hQ
    · rw [cif_p (by omega)] at hQ; exact hQ
  · rw [cif_n fun z => d z.2] at hQ; exact hQ
  · rw [cif_n fun z => c z.1] at hQ; exact hQ
theorem M_fileCount (h : MoC σ m F S K n T) (hQ : Q (some (vI F.1)) σ) : Ca n_X9_fileCount [vR (some m)] σ Q := by
  obtain ⟨s0, g0, g1, g2, g4, g5, g11, z1, z2, z3, z4, z5, z6⟩ := h.1
  have e2 : gi σ (m + 1) (2 : Int).toNat = F.1 := h.2.1.1.1
  refine vc_X9_fileCount _ _ _ ?_
  simp only [s0, g0, z1, e2, isS_some, true_and]
  exact ⟨by decide, by decide, hQ⟩
theorem M_existingCount (h : MoC σ m F S K n T) (hw : StX F S K n T) (hQ : Q (some (vI (exN F (now S)))) σ) : Ca n_X9_existingCount [vR (some m)] σ Q :=
  vc_X9_existingCount _ _ _ ⟨h.1.1, M_existing h hw ⟨_, rfl, hQ⟩⟩
theorem M_directory {i : Int} (h : MoC σ m F S K n T) (hw : StX F S K n T) (hQ : Q (some (vI (rDir S i))) σ) : Ca n_X9_directory [vR (some m), vI i] σ Q := by
  unfold rDir at hQ
  refine vc_X9_directory _ _ _ _ ⟨h.1.1, M_isStation h hw (fun c => ⟨1, rfl, fun z => absurd z (by decide), fun _ => ?_⟩) (fun c => ⟨0, rfl, fun _ => ?_, fun z => absurd rfl z⟩)⟩
  · obtain ⟨a1, a2, a3, a4⟩ := h.sta hw c
    refine ⟨h.1.1, X9_station h.1 a3 a4 (by decide) (by decide) ⟨_, rfl, ?_⟩⟩
    rw [a1.1 5 (by decide) (by decide)]
    rw [cif_p c] at hQ; exact hQ
  · rw [cif_n c] at hQ; exact hQ
theorem M_unknownFiles {i : Int} (h : MoC σ m F S K n T) (hw : StX F S K n T) (hQ : Q (some (vI (rUnk F S i))) σ) : Ca n_X9_unknownFiles [vR (some m), vI i] σ Q := by
  unfold rUnk at hQ
  refine vc_X9_unknownFiles _ _ _ _ ⟨h.1.1, M_isStation h hw (fun c => ⟨1, rfl, fun _ => ?_, fun z => absurd (show ¬ (1 : Int) = 0 by decide) z⟩) (fun c => ⟨0, rfl, fun z => absurd rfl z, fun _ => ?_⟩)⟩
  · obtain ⟨a1, a2, a3, a4⟩ := h.sta hw c
    rw [cif_p c] at hQ
    obtain ⟨s0, g0, g1, g2, g4, g5, g11, z1, z2, z3, z4, z5, z6⟩ := h.1
    have e2 : gi σ (m + 1) (2 : Int).toNat = F.1 := h.2.1.1.1
    have f0 := hw.1.1
    have f30 := hw.1.2.1
    have key : ∀ (k : Nat) (j x : Int), 0 ≤ j → j ≤ F.1 → F.1 - j < k → x = smI (unkF F S i) j → At n_X9_unknownFiles 14 [some (vR (some m)), some (vI i), some (vI x), some (vI j)] [] σ Q := by
      intro k
      induction k with
      | zero => intro j x h0 h1 h2; omega
      | succ k ih =>
        intro j x h0 h1 h2 hx
        have b1 := unk_bd (F := F) (S := S) (i := i) j h0 h1
        have hss := smI_s (f := unkF F S i) h0
        rw [← hx] at b1 hss
        refine vc_X9_unknownFiles_14 _ _ _ _ _ _ ?_
        simp only [s0, g0, z1, e2, isS_some, true_and]
        refine ⟨by decide, by decide, fun e => ?_, fun e => ?_⟩
        · rw [hx, show j = F.1 by omega]; exact hQ
        · rw [wr_i (x := j + 1) (by omega), wr_i (x := x + 0) (by omega), wr_i (x := x + 1) (by omega)]
          refine M_exists h hw ⟨h0, by omega⟩ (fun c => ⟨1, rfl, fun z => absurd z (by decide), fun _ => ⟨s0, X9_station h.1 a3 a4 (by decide) (by decide) ⟨_, rfl, ?_⟩⟩⟩) (fun c => ⟨0, rfl, fun _ => ih _ _ (by omega) (by omega) (by omega) ?_, fun z => absurd rfl z⟩)
          · rw [a1.1 5 (by decide) (by decide)]
            refine ⟨fun d => ih _ _ (by omega) (by omega) (by omega) ?_, fun d => ih _ _ (by omega) (by omega) (by omega) ?_⟩
            · have : unkF F S i j = 0 := by unfold unkF; exact cif_n fun z => d (knP_n.mp z.2)
              omega
            · have : unkF F S i j = 1 := by unfold unkF; exact cif_p ⟨c, knP_n.mpr (by omega)⟩
              omega
          · have : unkF F S i j = 0 := by unfold unkF; exact cif_n fun z => c z.1
            omega
    exact key (F.1 + 1).toNat 0 0 (by omega) f0 (by omega) rfl
  · rw [cif_n c] at hQ; exact hQ
end M
