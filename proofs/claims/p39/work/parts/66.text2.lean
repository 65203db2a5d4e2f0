def inTx (x c : Nat) : Prop := x ≤ c ∧ c ≤ x + 4
theorem TxC.hol {σ τ : ms_T} {x : Nat} {n : Int} {T : Int → Int} (h : TxC σ x n T) (hs : Sm σ τ (inIv (x + 2))) : TxC τ x n T := ⟨h.1.sm hs, by rw [hs.i (by unfold inIv; omega)]; exact h.2.1, fun i a b => by rw [hs.i (by unfold inIv; omega)]; exact h.2.2 i a b⟩
set_option maxHeartbeats 4000000 in
theorem X5_readSubject {x : Nat} {σ : ms_T} {n : Int} {T : Int → Int} {Q : mq_T} (h : TxP σ x n T 0) (hw : TxW n T) (hf : gi σ x 3 = -1) (h1 : (sbR n T).1 = 1 → ∀ τ, Sm σ τ (fun c => c = x) → TxP τ x n T (sbR n T).2.1 → gi τ x 3 = (sbR n T).2.2 → Q (some (vI 1)) τ) (h2 : (sbR n T).1 = 0 → ∀ τ, Sm σ τ (fun c => c = x) → TxP τ x n T (sbR n T).2.1 → Q (some (vI 0)) τ) : Ca n_X5_readSubject [vR (some x)] σ Q := by
  have s0 := h.1.1.1
  unfold sbR at h1 h2
  refine vc_X5_readSubject _ _ _ ⟨s0, X5_skip h hw (by omega) (fun c => ⟨1, rfl, fun z => absurd z (by decide), fun _ => ⟨Or.inr rfl, ?_⟩⟩) (fun c => ⟨0, rfl, fun _ => ⟨s0, ?_⟩, fun z => absurd rfl z⟩)⟩
  · rw [if_pos c] at h1
    exact h1 rfl _ Sm.one ⟨h.1.f (by decide), by rw [gi_eq]; rfl⟩ (by rw [gi_nk (by decide)]; exact hf)
  · rw [if_neg c] at h1 h2
    refine X5_skip h hw (by omega) (fun d => ⟨1, rfl, fun z => absurd z (by decide), fun _ => ⟨s0, ?_⟩⟩) (fun d => ⟨0, rfl, fun _ => ⟨Or.inl rfl, ?_⟩, fun z => absurd rfl z⟩)
    · rw [if_pos d] at h1 h2
      have hn := (skB_iff.mp d).1
      have hP : TxP (sI σ x 2 (0 + 1)) x n T 1 := ⟨h.1.f (by decide), by rw [gi_eq]; rfl⟩
      refine X5_readNumber hP hw (by omega) (by omega) (fun e τ hs hP2 h5 h3 => ⟨1, rfl, fun _ => ⟨hP2.1.1.1, hP2.1.1.1, Or.inr rfl, ?_⟩, fun z => absurd (show ¬ (1 : Int) = 0 by decide) z⟩) (fun e τ hs hP2 h3 => ⟨0, rfl, fun z => absurd rfl z, fun _ => ⟨Or.inl rfl, ?_⟩⟩)
      · rw [if_neg (by omega)] at h1
        rw [h5]
        exact h1 rfl _ ((Sm.one.tr hs).st rfl) ⟨hP2.1.f (by decide), by rw [gi_nk (by decide)]; exact hP2.2⟩ (by rw [gi_eq])
      · rw [if_pos e] at h2
        exact h2 rfl τ (Sm.one.tr hs) hP2
    · rw [if_neg d] at h2
      exact h2 rfl σ Sm.rf h
set_option maxHeartbeats 8000000 in
theorem X5_readHoles {x : Nat} {σ : ms_T} {n sp : Int} {T : Int → Int} {Q : mq_T} (h : TxP σ x n T sp) (hw : TxW n T) (h0 : 0 ≤ sp) (hsn : sp ≤ n) (hL : IvC σ (x + 2) []) (h1 : (rdH n T 4 sp 0 []).1 = 1 → ∀ τ, Sm σ τ (inTx x) → TxP τ x n T (rdH n T 4 sp 0 []).2.1 → gi τ x 3 = gi σ x 3 → IvC τ (x + 2) (rdH n T 4 sp 0 []).2.2 → Q (some (vI 1)) τ) (h2 : (rdH n T 4 sp 0 []).1 = 0 → ∀ τ, Sm σ τ (inTx x) → TxP τ x n T (rdH n T 4 sp 0 []).2.1 → Q (some (vI 0)) τ) : Ca n_X5_readHoles [vR (some x)] σ Q := by
  generalize hR : rdH n T 4 sp 0 [] = R at *
  have wk1 : ∀ c, c = x → inTx x c := fun c hc => by unfold inTx; omega
  have wk2 : ∀ c, inIv (x + 2) c → inTx x c := fun c hc => by unfold inIv at hc; unfold inTx; omega
  have key : ∀ (k : Nat) (i p least : Int) (H : Iv) (y : Option mv_T) (τ : ms_T), i = 3 - k → k ≤ 3 → ln H = i → 0 ≤ p → p ≤ n → HoW H least → rdH n T (k + 1) p least H = R → Sm σ τ (inTx x) → TxP τ x n T p → gi τ x 3 = gi σ x 3 → IvC τ (x + 2) H → At n_X5_readHoles 4 [some (vR (some x)), some (vI least), some (vI i), y] [] τ Q := by
    intro k
    induction k with
    | zero =>
      intro i p least H y τ a0 a1 a2 p0 p1 hH hr hs hP h3 hI
      have hb := hoR_bd (n := n) (T := T) (sp := p) (least := least) p1
      -- behind a hole
      have cont : ∀ (υ : ms_T) (a b sp2 : Int), hoR n T p least = (1, sp2, a, b) → Sm σ υ (inTx x) → TxP υ x n T sp2 → gi υ x 3 = gi σ x 3 → gi υ x 5 = b → IvC υ (x + 2) H → Ca n_X2_add [vR (some (x + 2)), vI a, vI b] υ fun v8 τ9 => ∃ x10, v8 = some (vI x10) ∧ gs τ9 x = (5, 0) ∧ (i = (3 : Int) → ((1 : Int) = 0 ∨ (1 : Int) = 1) ∧ Q (some (vI (1 : Int))) τ9) ∧ (¬ (i = (3 : Int)) → gs τ9 x = (5, 0) ∧ Ca n_X5_skip [vR (some x), vI (44 : Int)] τ9 fun v11 τ12 => ∃ x13, v11 = some (vI x13) ∧ (¬ x13 = 0 → At n_X5_readHoles 4 [some (vR (some x)), some (vI (wr ((gi τ9 x 5) + (2 : Int)))), some (vI (wr (i + (1 : Int)))), some (vI a)] [] τ12 Q) ∧ (¬ (¬ x13 = 0) → ((1 : Int) = 0 ∨ (1 : Int) = 1) ∧ Q (some (vI (1 : Int))) τ12)) := by
        intro υ a b sp2 ho hs2 hP2 h32 h5 hI2
        rw [ho] at hb
        simp only [] at hb
        have hb4 := hb.2.2.2 trivial
        have hA := HoW_app hH (by omega) hb4.1 hb4.2.1 hb4.2.2.1 hb4.2.2.2
        have hr2 : R = (1, sp2, H ++ [(a, b)]) := by
          rw [← hr]
          unfold rdH
          rw [ho]
          simp
        refine X2_add hI2 hH.1 hb4.2.1 hb4.2.2.1 (by omega) (fun τ9 hs9 hL9 => ⟨_, rfl, ?_, fun _ => ⟨Or.inr rfl, ?_⟩, fun z => absurd (show i = 3 by omega) z⟩)
        · rw [hs9.s]; exact hP2.1.1.1
        · rw [hA.2] at hL9
          rw [hr2] at h1
          refine h1 rfl τ9 (hs2.tr (hs9.wk wk2)) ⟨hP2.1.hol hs9, by rw [hs9.i (by unfold inIv; omega)]; exact hP2.2⟩ (by rw [hs9.i (by unfold inIv; omega)]; exact h32) hL9
      have fail : ∀ (υ : ms_T) (sp2 : Int), hoR n T p least = (0, sp2, 0, 0) → Sm σ υ (inTx x) → TxP υ x n T sp2 → Q (some (vI 0)) υ := by
        intro υ sp2 ho hs2 hP2
        have hr2 : R = (0, sp2, H) := by
          rw [← hr]
          unfold rdH
          rw [ho]
          simp
        rw [hr2] at h2
        exact h2 rfl υ hs2 hP2
      refine vc_X5_readHoles_4 _ _ _ _ _ _ ⟨fun e => by omega, fun e => ⟨hP.1.1.1, ?_⟩⟩
      have nx : ¬ inIv (x + 2) x := by unfold inIv; omega
      have ha := numR_bd (n := n) (T := T) (sp := p) (least := least) p1
      refine X5_readNumber hP hw p0 p1 (fun c τ2 hs2 hP2 h52 h32 => ⟨1, rfl, fun _ => ⟨hP2.1.1.1, hP2.1.1.1, ?_⟩, fun z => absurd (show ¬ (1 : Int) = 0 by decide) z⟩) (fun c τ2 hs2 hP2 h32 => ⟨0, rfl, fun z => absurd rfl z, fun _ => ⟨Or.inl rfl, ?_⟩⟩)
      · have hs2' := hs.tr (hs2.wk wk1)
        have h32' : gi τ2 x 3 = gi σ x 3 := by rw [h32]; exact h3
        have hI2 : IvC τ2 (x + 2) H := hI.sm hs2 fun c hc => by unfold inIv at hc; omega
        rw [h52]
        refine X5_skip hP2 hw (by omega) (fun d => ⟨1, rfl, fun z => absurd z (by decide), fun _ => ⟨hP2.1.1.1, ?_⟩⟩) (fun d => ⟨0, rfl, fun _ => ⟨hP2.1.1.1, hP2.1.1.1, ?_⟩, fun z => absurd rfl z⟩)
        · have hlt := (skB_iff.mp d).1
          have hP5 : TxP (sI τ2 x 2 ((numR n T p least).2.1 + 1)) x n T ((numR n T p least).2.1 + 1) := ⟨hP2.1.f (by decide), by rw [gi_eq]⟩
          have hs5 : Sm σ (sI τ2 x 2 ((numR n T p least).2.1 + 1)) (inTx x) := hs2'.st (wk1 _ rfl)
          have hI5 : IvC (sI τ2 x 2 ((numR n T p least).2.1 + 1)) (x + 2) H := hI2.sm Sm.one fun c hc => by unfold inIv at hc; omega
          have h35 : gi (sI τ2 x 2 ((numR n T p least).2.1 + 1)) x 3 = gi σ x 3 := by rw [gi_nk (by decide)]; exact h32'
          refine X5_readNumber hP5 hw (by omega) (by omega) (fun c2 τ3 hs3 hP3 h53 h33 => ⟨1, rfl, fun _ => ⟨hP3.1.1.1, hP3.1.1.1, ?_⟩, fun z => absurd (show ¬ (1 : Int) = 0 by decide) z⟩) (fun c2 τ3 hs3 hP3 h33 => ⟨0, rfl, fun z => absurd rfl z, fun _ => ⟨Or.inl rfl, ?_⟩⟩)
          · have hs3' := hs5.tr (hs3.wk wk1)
            have hI3 : IvC τ3 (x + 2) H := hI5.sm hs3 fun c hc => by unfold inIv at hc; omega
            rw [hP3.1.1.2.2.1, h53]
            refine ⟨hI3.1.1, cont τ3 _ _ _ ?_ hs3' hP3 (by rw [h33]; exact h35) h53 hI3⟩
            unfold hoR
            rw [if_neg (by omega), if_pos d, if_neg (by omega)]
          · refine fail τ3 _ ?_ (hs5.tr (hs3.wk wk1)) hP3
            unfold hoR
            rw [if_neg (by omega), if_pos d, if_pos c2]
        · rw [hP2.1.1.2.2.1, h52]
          refine ⟨hI2.1.1, cont τ2 _ _ _ ?_ hs2' hP2 h32' h52 hI2⟩
          unfold hoR
          rw [if_neg (by omega), if_neg d]
      · refine fail τ2 _ ?_ (hs.tr (hs2.wk wk1)) hP2
        unfold hoR
        rw [if_pos c]
    | succ k ih =>
      intro i p least H y τ a0 a1 a2 p0 p1 hH hr hs hP h3 hI
      have hb := hoR_bd (n := n) (T := T) (sp := p) (least := least) p1
      have cont : ∀ (υ : ms_T) (a b sp2 : Int), hoR n T p least = (1, sp2, a, b) → Sm σ υ (inTx x) → TxP υ x n T sp2 → gi υ x 3 = gi σ x 3 → gi υ x 5 = b → IvC υ (x + 2) H → Ca n_X2_add [vR (some (x + 2)), vI a, vI b] υ fun v8 τ9 => ∃ x10, v8 = some (vI x10) ∧ gs τ9 x = (5, 0) ∧ (i = (3 : Int) → ((1 : Int) = 0 ∨ (1 : Int) = 1) ∧ Q (some (vI (1 : Int))) τ9) ∧ (¬ (i = (3 : Int)) → gs τ9 x = (5, 0) ∧ Ca n_X5_skip [vR (some x), vI (44 : Int)] τ9 fun v11 τ12 => ∃ x13, v11 = some (vI x13) ∧ (¬ x13 = 0 → At n_X5_readHoles 4 [some (vR (some x)), some (vI (wr ((gi τ9 x 5) + (2 : Int)))), some (vI (wr (i + (1 : Int)))), some (vI a)] [] τ12 Q) ∧ (¬ (¬ x13 = 0) → ((1 : Int) = 0 ∨ (1 : Int) = 1) ∧ Q (some (vI (1 : Int))) τ12)) := by
        intro υ a b sp2 ho hs2 hP2 h32 h5 hI2
        rw [ho] at hb
        simp only [] at hb
        have hb4 := hb.2.2.2 trivial
        have hA := HoW_app hH (by omega) hb4.1 hb4.2.1 hb4.2.2.1 hb4.2.2.2
        refine X2_add hI2 hH.1 hb4.2.1 hb4.2.2.1 (by omega) (fun τ9 hs9 hL9 => ⟨_, rfl, ?_, fun z => by omega, fun _ => ⟨?_, ?_⟩⟩)
        · rw [hs9.s]; exact hP2.1.1.1
        · rw [hs9.s]; exact hP2.1.1.1
        · rw [hA.2] at hL9
          have nx : ¬ inIv (x + 2) x := by unfold inIv; omega
          have hP9 : TxP τ9 x n T sp2 := ⟨hP2.1.hol hs9, by rw [hs9.i nx]; exact hP2.2⟩
          have hs29 := hs2.tr (hs9.wk wk2)
          have h59 : gi τ9 x 5 = b := by rw [hs9.i nx]; exact h5
          have h39 : gi τ9 x 3 = gi σ x 3 := by rw [hs9.i nx]; exact h32
          rw [h59, wr_i (x := b + 2) (by omega), wr_i (x := i + 1) (by omega)]
          refine X5_skip hP9 hw (by omega) (fun d => ⟨1, rfl, fun _ => ?_, fun z => absurd (show ¬ (1 : Int) = 0 by decide) z⟩) (fun d => ⟨0, rfl, fun z => absurd rfl z, fun _ => ⟨Or.inr rfl, ?_⟩⟩)
          · have hlt := (skB_iff.mp d).1
            refine ih (i + 1) (sp2 + 1) (b + 2) (H ++ [(a, b)]) _ _ (by omega) (by omega) (by rw [ln_app]; omega) (by omega) (by omega) hA.1 ?_ (hs29.st (wk1 _ rfl)) ⟨hP9.1.f (by decide), by rw [gi_eq]⟩ (by rw [gi_nk (by decide)]; exact h39) (hL9.sm Sm.one fun c hc => by unfold inIv at hc; omega)
            rw [← hr]
            show _ = rdH n T (k + 1 + 1) p least H
            conv => rhs; unfold rdH
            rw [ho]
            simp only [if_neg (show ¬ (1 : Int) = 0 by decide)]
            rw [if_neg (by
              rintro (z | z)
              · omega
              · exact z d)]
          · have hr2 : R = (1, sp2, H ++ [(a, b)]) := by
              rw [← hr]
              unfold rdH
              rw [ho]
              simp only [if_neg (show ¬ (1 : Int) = 0 by decide)]
              rw [if_pos (Or.inr d)]
            rw [hr2] at h1
            exact h1 rfl τ9 hs29 hP9 h39 hL9
      have fail : ∀ (υ : ms_T) (sp2 : Int), hoR n T p least = (0, sp2, 0, 0) → Sm σ υ (inTx x) → TxP υ x n T sp2 → Q (some (vI 0)) υ := by
        intro υ sp2 ho hs2 hP2
        have hr2 : R = (0, sp2, H) := by
          rw [← hr]
          unfold rdH
          rw [ho]
          simp
        rw [hr2] at h2
        exact h2 rfl υ hs2 hP2
      refine vc_X5_readHoles_4 _ _ _ _ _ _ ⟨fun e => by omega, fun e => ⟨hP.1.1.1, ?_⟩⟩
      have nx : ¬ inIv (x + 2) x := by unfold inIv; omega
      have ha := numR_bd (n := n) (T := T) (sp := p) (least := least) p1
      refine X5_readNumber hP hw p0 p1 (fun c τ2 hs2 hP2 h52 h32 => ⟨1, rfl, fun _ => ⟨hP2.1.1.1, hP2.1.1.1, ?_⟩, fun z => absurd (show ¬ (1 : Int) = 0 by decide) z⟩) (fun c τ2 hs2 hP2 h32 => ⟨0, rfl, fun z => absurd rfl z, fun _ => ⟨Or.inl rfl, ?_⟩⟩)
      · have hs2' := hs.tr (hs2.wk wk1)
        have h32' : gi τ2 x 3 = gi σ x 3 := by rw [h32]; exact h3
        have hI2 : IvC τ2 (x + 2) H := hI.sm hs2 fun c hc => by unfold inIv at hc; omega
        rw [h52]
        refine X5_skip hP2 hw (by omega) (fun d => ⟨1, rfl, fun z => absurd z (by decide), fun _ => ⟨hP2.1.1.1, ?_⟩⟩) (fun d => ⟨0, rfl, fun _ => ⟨hP2.1.1.1, hP2.1.1.1, ?_⟩, fun z => absurd rfl z⟩)
        · have hlt := (skB_iff.mp d).1
          have hP5 : TxP (sI τ2 x 2 ((numR n T p least).2.1 + 1)) x n T ((numR n T p least).2.1 + 1) := ⟨hP2.1.f (by decide), by rw [gi_eq]⟩
          have hs5 : Sm σ (sI τ2 x 2 ((numR n T p least).2.1 + 1)) (inTx x) := hs2'.st (wk1 _ rfl)
          have hI5 : IvC (sI τ2 x 2 ((numR n T p least).2.1 + 1)) (x + 2) H := hI2.sm Sm.one fun c hc => by unfold inIv at hc; omega
          have h35 : gi (sI τ2 x 2 ((numR n T p least).2.1 + 1)) x 3 = gi σ x 3 := by rw [gi_nk (by decide)]; exact h32'
          refine X5_readNumber hP5 hw (by omega) (by omega) (fun c2 τ3 hs3 hP3 h53 h33 => ⟨1, rfl, fun _ => ⟨hP3.1.1.1, hP3.1.1.1, ?_⟩, fun z => absurd (show ¬ (1 : Int) = 0 by decide) z⟩) (fun c2 τ3 hs3 hP3 h33 => ⟨0, rfl, fun z => absurd rfl z, fun _ => ⟨Or.inl rfl, ?_⟩⟩)
          · have hs3' := hs5.tr (hs3.wk wk1)
            have hI3 : IvC τ3 (x + 2) H := hI5.sm hs3 fun c hc => by unfold inIv at hc; omega
            rw [hP3.1.1.2.2.1, h53]
            refine ⟨hI3.1.1, cont τ3 _ _ _ ?_ hs3' hP3 (by rw [h33]; exact h35) h53 hI3⟩
            unfold hoR
            rw [if_neg (by omega), if_pos d, if_neg (by omega)]
          · refine fail τ3 _ ?_ (hs5.tr (hs3.wk wk1)) hP3
            unfold hoR
            rw [if_neg (by omega), if_pos d, if_pos c2]
        · rw [hP2.1.1.2.2.1, h52]
          refine ⟨hI2.1.1, cont τ2 _ _ _ ?_ hs2' hP2 h32' h52 hI2⟩
          unfold hoR
          rw [if_neg (by omega), if_neg d]
      · refine fail τ2 _ ?_ (hs.tr (hs2.wk wk1)) hP2
        unfold hoR
        rw [if_pos c]
  refine vc_X5_readHoles _ _ _ (key 3 0 sp 0 [] _ σ (by omega) (by omega) ln_nil h0 hsn HoW_nil hR Sm.rf h rfl hL)
def prsOK (n : Int) (T : Int → Int) : Prop := (prs n T).1 < 0
set_option maxHeartbeats 8000000 in
theorem X5_read {x : Nat} {σ : ms_T} {n : Int} {T : Int → Int} {Q : mq_T} (h : TxC σ x n T) (hw : TxW n T) (h1 : prsOK n T → ∀ τ, Sm σ τ (inTx x) → TxC τ x n T → gi τ x 3 = (prs n T).2.1 → IvC τ (x + 2) (prs n T).2.2 → Q (some (vI 1)) τ) (h2 : ¬ prsOK n T → ∀ τ, Sm σ τ (inTx x) → TxC τ x n T → gi τ x 2 = (prs n T).1 → Q (some (vI 0)) τ) : Ca n_X5_read [vR (some x)] σ Q := by
  obtain ⟨⟨s0, r0, r4, s1, iv⟩, hn, hT⟩ := id h
  have hn0 := hw.1
  have wk1 : ∀ c, c = x → inTx x c := fun c hc => by unfold inTx; omega
  have wk2 : ∀ c, inIv (x + 2) c → inTx x c := fun c hc => by unfold inIv at hc; unfold inTx; omega
  have nx : ¬ inIv (x + 2) x := by unfold inIv; omega
  have hs0 : Sm σ (sI (sI σ x 2 0) x 3 (-1)) (fun c => c = x) := Sm.st Sm.one rfl
  have hP0 : TxC (sI (sI σ x 2 0) x 3 (-1)) x n T := (h.f (by decide)).f (by decide)
  have g2 : gi (sI (sI σ x 2 0) x 3 (-1)) x 2 = 0 := by rw [gi_nk (by decide), gi_eq]
  have g3 : gi (sI (sI σ x 2 0) x 3 (-1)) x 3 = -1 := gi_eq
  have a := sbR_bd (T := T) hn0
  unfold prsOK at h1 h2
  refine vc_X5_read _ _ _ ?_
  simp only [gs_sI, gr_sI, s0, r4, iv.1, isS_some, true_and]
  refine X2_clear (iv.sm hs0) (fun τ hs hL => ⟨rfl, ?_⟩)
  have hPτ : TxP τ x n T 0 := ⟨hP0.hol hs, by rw [hs.i nx]; exact g2⟩
  have h3τ : gi τ x 3 = -1 := by rw [hs.i nx]; exact g3
  have hsτ : Sm σ τ (inTx x) := (hs0.wk wk1).tr (hs.wk wk2)
  unfold prs at h1 h2
  refine ⟨hPτ.1.1.1, X5_readSubject hPτ hw h3τ (fun c τ5 hs5 hP5 h35 => ⟨1, rfl, fun z => absurd z (by decide), fun _ => ?_⟩) (fun c τ5 hs5 hP5 => ⟨0, rfl, fun _ => ⟨by simp, ?_⟩, fun z => absurd rfl z⟩)⟩
  · rw [if_neg (by omega)] at h1 h2
    have hL5 : IvC τ5 (x + 2) [] := hL.sm hs5 fun c hc => by unfold inIv at hc; omega
    have hs5' := hsτ.tr (hs5.wk wk1)
    refine ⟨hP5.1.1.1, X5_skip hP5 hw a.2.1 (fun d => ⟨1, rfl, fun z => absurd z (by decide), fun _ => ?_⟩) (fun d => ⟨0, rfl, fun _ => ⟨by simp, ?_⟩, fun z => absurd rfl z⟩)⟩
    · rw [if_neg (fun z => z d)] at h1 h2
      have hlt := (skB_iff.mp d).1
      have b := rdH_bd (T := T) 4 ((sbR n T).2.1 + 1) 0 [] (n := n) (by omega) (by rw [ln_nil]; omega) HoW_nil
      have hP8 : TxP (sI τ5 x 2 ((sbR n T).2.1 + 1)) x n T ((sbR n T).2.1 + 1) := ⟨hP5.1.f (by decide), by rw [gi_eq]⟩
      have hL8 : IvC (sI τ5 x 2 ((sbR n T).2.1 + 1)) (x + 2) [] := hL5.sm Sm.one fun c hc => by unfold inIv at hc; omega
      have h38 : gi (sI τ5 x 2 ((sbR n T).2.1 + 1)) x 3 = (sbR n T).2.2 := by rw [gi_nk (by decide)]; exact h35
      have hs8 : Sm σ (sI τ5 x 2 ((sbR n T).2.1 + 1)) (inTx x) := hs5'.st (wk1 _ rfl)
      refine ⟨hP5.1.1.1, X5_readHoles hP8 hw (by omega) (by omega) hL8 (fun e τ11 hs11 hP11 h311 hL11 => ⟨1, rfl, fun z => absurd z (by decide), fun _ => ?_⟩) (fun e τ11 hs11 hP11 => ⟨0, rfl, fun _ => ⟨by simp, ?_⟩, fun z => absurd rfl z⟩)⟩
      · rw [if_neg (by omega)] at h1 h2
        have hs11' := hs8.tr hs11
        refine ⟨hP11.1.1.1, X5_skip hP11 hw (by omega) (fun g => ⟨1, rfl, fun z => absurd z (by decide), fun _ => ?_⟩) (fun g => ⟨0, rfl, fun _ => ⟨by simp, ?_⟩, fun z => absurd rfl z⟩)⟩
        · rw [if_neg (fun z => z g)] at h1 h2
          have hP14 : TxP (sI τ11 x 2 ((rdH n T 4 ((sbR n T).2.1 + 1) 0 []).2.1 + 1)) x n T ((rdH n T 4 ((sbR n T).2.1 + 1) 0 []).2.1 + 1) := ⟨hP11.1.f (by decide), by rw [gi_eq]⟩
          have hs14 := hs11'.st (k := 2) (v := (rdH n T 4 ((sbR n T).2.1 + 1) 0 []).2.1 + 1) (wk1 x rfl)
          refine ⟨hP14.1.1.1, hP14.1.1.1, fun e2 => ⟨by simp, ?_⟩, fun e2 => ⟨by simp, ?_⟩⟩
          · rw [hP14.2, hP14.1.2.1] at e2
            rw [if_pos e2] at h2
            have e3 := (skB_iff.mp g).1
            exact h2 (fun z => by have z : (rdH n T 4 ((sbR n T).2.1 + 1) 0 []).2.1 + 1 < 0 := z; omega) _ hs14 hP14.1 hP14.2
          · rw [hP14.2, hP14.1.2.1] at e2
            rw [if_neg e2] at h1
            refine h1 (by show (-1 : Int) < 0; decide) _ hs14 hP14.1 ?_ (hL11.sm Sm.one fun c hc => by unfold inIv at hc; omega)
            rw [gi_nk (by decide), h311]
            exact h38
        · rw [if_pos g] at h2
          exact h2 (fun z => by have z : (rdH n T 4 ((sbR n T).2.1 + 1) 0 []).2.1 < 0 := z; omega) _ hs11' hP11.1 hP11.2
      · rw [if_pos e] at h2
        exact h2 (fun z => by have z : (rdH n T 4 ((sbR n T).2.1 + 1) 0 []).2.1 < 0 := z; omega) _ (hs8.tr hs11) hP11.1 hP11.2
    · rw [if_pos d] at h2
      exact h2 (fun z => by have z : (sbR n T).2.1 < 0 := z; omega) _ hs5' hP5.1 hP5.2
  · rw [if_pos c] at h2
    exact h2 (fun z => by have z : (sbR n T).2.1 < 0 := z; omega) _ (hsτ.tr (hs5.wk wk1)) hP5.1 hP5.2
