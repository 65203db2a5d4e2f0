section API
variable {σ : ms_T} {F : Fl} {S : Sa} {K : Int → Int} {n : Int} {T : Int → Int} {Q : mq_T}
set_option maxHeartbeats 4000000 in
theorem X5_append {x : Nat} {c : Int} (h : TxC σ x n T) (hw : TxW n T) (hc : 0 ≤ c) (hc2 : c < 65536) (h1 : n < 60 → ∀ τ, Sm σ τ (inTx x) → TxC τ x (n + 1) (up T n c) → Q (some (vI 1)) τ) (h0 : ¬ n < 60 → Q (some (vI 0)) σ) : Ca n_X5_append [vR (some x), vI c] σ Q := by
  obtain ⟨⟨s0, r0, r4, s1, iv⟩, hn, hT⟩ := id h
  have hn0 := hw.1
  refine vc_X5_append _ _ _ _ ?_
  simp only [gs_sI, gr_sI, s0, r0, s1, hn, isS_some, true_and, gi_ne (show ¬ x = x + 1 by omega)]
  refine ⟨fun e => ⟨hn0, by omega, hc, hc2, by simp, ?_⟩, fun e => ⟨by simp, h0 e⟩⟩
  rw [wr_i (by omega)]
  have hs : Sm σ (sI (sI σ (x + 1) n.toNat c) x 1 (n + 1)) (inTx x) := (Sm.rf.st (by unfold inTx; omega)).st (by unfold inTx; omega)
  refine h1 e _ hs ⟨h.1.sm hs, gi_eq, fun i a b => ?_⟩
  rw [gi_ne (by omega)]
  by_cases e2 : i = n
  · rw [e2, gi_eq, up_eq]
  · rw [gi_nk (by omega), up_ne e2]; exact hT i a (by omega)
theorem C_type {c : Int} (h : ClC σ F S K n T) (hw : StW F S K n T) (hQ : ∀ τ, Sq σ τ inCl → ClC τ F S K (rType n T c).2.1 (rType n T c).2.2 → Q (some (vI (rType n T c).1)) τ) : Ca n_X8_type [vR (some 1), vI c] σ Q := by
  unfold rType at hQ
  have hT := h.2.2.2.2.2.1
  refine vc_X8_type _ _ _ _ (X8_within (fun d => ⟨1, rfl, fun _ => ?_, fun z => absurd (show ¬ (1 : Int) = 0 by decide) z⟩) (fun d => ⟨0, rfl, fun z => absurd rfl z, fun _ => ?_⟩))
  · rw [cif_p d] at hQ
    simp only [h.1.1, h.1.2.2.2.2, hT.1.1, isS_some, true_and]
    refine ⟨by omega, by omega, X5_append hT hw.2.2.2.1 (by omega) (by omega) (fun e τ hs hC => ⟨1, rfl, fun _ => ?_, fun z => absurd (show ¬ (1 : Int) = 0 by decide) z⟩) (fun e => ⟨0, rfl, fun z => absurd rfl z, fun _ => ?_⟩)⟩
    · rw [cif_p e] at hQ
      have hc := h.txt hw.2.1 hs hC
      simp only [hc.1.1, hc.1.2.2.2.2, hC.1.1, hC.2.1, isS_some, true_and]
      exact hQ τ (hs.q.wk fun c hc => by unfold inTx at hc; unfold inCl; omega) hc
    · rw [cif_n e] at hQ; exact hQ σ Sq.rf h
  · rw [cif_n d] at hQ; exact hQ σ Sq.rf h
theorem C_clearText (h : ClC σ F S K n T) (hw : StW F S K n T) (hQ : ∀ τ, Sq σ τ inCl → ClC τ F S K 0 T → Q (some (vI n)) τ) : Ca n_X8_clearText [vR (some 1)] σ Q := by
  have hT := h.2.2.2.2.2.1
  refine vc_X8_clearText _ _ _ ?_
  simp only [h.1.1, h.1.2.2.2.2, hT.1.1, hT.2.1, isS_some, true_and]
  have hs : Sm σ (sI σ 227 1 0) (fun c => c = 227) := Sm.one
  refine hQ _ (hs.q.wk fun c hc => by unfold inCl; omega) (h.txt hw.2.1 (hs.wk fun c hc => by unfold inTx; omega) ⟨hT.1.sm hs, gi_eq, fun i a b => by omega⟩)
theorem C_fault (h : ClC σ F S K n T) (hw : StW F S K n T) (hQ : ∀ τ, Sq σ τ inCl → ClC τ F S K n T → Q (some (vI (rFault n T))) τ) : Ca n_X8_fault [vR (some 1)] σ Q := by
  have hT := h.2.2.2.2.2.1
  unfold rFault at hQ
  refine vc_X8_fault _ _ _ ?_
  simp only [h.1.1, h.1.2.2.2.2, hT.1.1, isS_some, true_and]
  refine X5_read hT hw.2.2.2.1 (fun c τ hs hC _ _ => ⟨1, rfl, fun z => absurd z (by decide), fun _ => ?_⟩) (fun c τ hs hC h2 => ⟨0, rfl, fun _ => ?_, fun z => absurd rfl z⟩)
  · rw [cif_p c] at hQ
    exact hQ τ (hs.q.wk fun c hc => by unfold inTx at hc; unfold inCl; omega) (h.txt hw.2.1 hs hC)
  · rw [cif_n c] at hQ
    have hc := h.txt hw.2.1 hs hC
    simp only [hc.1.1, hc.1.2.2.2.2, hC.1.1, h2, isS_some, true_and]
    exact hQ τ (hs.q.wk fun c hc => by unfold inTx at hc; unfold inCl; omega) hc
set_option maxHeartbeats 4000000 in
theorem C_requestText {i : Int} (h : ClC σ F S K n T) (hw : StW F S K n T) (hQ : ∀ τ, Sq σ τ inCl → ClC τ F (rReqT F S n T i).2 K n T → Q (some (vI (rReqT F S n T i).1)) τ) : Ca n_X8_requestText [vR (some 1), vI i] σ Q := by
  have hT := h.2.2.2.2.2.1
  have hn1 := hw.2.2.1
  have hpb := prs_bd (T := T) hw.2.2.2.1.1
  unfold rReqT texP at hQ
  refine vc_X8_requestText _ _ _ _ ⟨h.1.1, X8_isStation h (fun c => ⟨1, rfl, fun _ => ?_, fun z => absurd (show ¬ (1 : Int) = 0 by decide) z⟩) (fun c => ⟨0, rfl, fun z => absurd rfl z, fun _ => ?_⟩)⟩
  · rw [cif_p c] at hQ
    simp only [h.1.1, h.1.2.2.2.2, hT.1.1, isS_some, true_and]
    refine X5_read hT hw.2.2.2.1 (fun d τ hs hC h3 hL => ⟨1, rfl, fun _ => ?_, fun z => absurd (show ¬ (1 : Int) = 0 by decide) z⟩) (fun d τ hs hC h2 => ⟨0, rfl, fun z => absurd rfl z, fun _ => ?_⟩)
    · have hc := h.txt hw.2.1 hs hC
      have hsq : Sq σ τ inCl := hs.q.wk fun c hc => by unfold inTx at hc; unfold inCl; omega
      simp only [hc.1.1, hc.1.2.2.1, hc.1.2.2.2.2, hC.1.1, hC.1.2.2.1, hc.2.2.1.1.1.1, h3, isS_some, true_and]
      refine X6_askHoles hc.2.2.1 hw.2.1 hc.2.1 hw.1 (by decide) hL (fun c hc => by unfold inIv at hc; unfold inQu; omega) hpb.2.2.2.2.1 (hpb.2.2.2.2.2.2.1 d) (by omega) c.1 c.2 hpb.2.2.1 (fun e => ⟨_, rfl, ?_⟩) (fun e1 e2 => ⟨_, rfl, ?_⟩) (fun e1 e2 τ2 hs2 hC2 => ⟨_, rfl, ?_⟩)
      · rw [cif_n fun z => e z.2] at hQ; exact hQ τ hsq hc
      · rw [cif_p ⟨d, e1⟩, cif_p e2] at hQ; exact hQ τ hsq hc
      · rw [cif_p ⟨d, e1⟩, cif_n (by omega)] at hQ
        have hh := hc.que hw hs2.q hC2
        exact hQ τ2 (hsq.tr hh.1) hh.2
    · rw [cif_n fun z => d z.1] at hQ
      exact hQ τ (hs.q.wk fun c hc => by unfold inTx at hc; unfold inCl; omega) (h.txt hw.2.1 hs hC)
  · rw [cif_n c] at hQ; exact hQ σ Sq.rf h
/-! ticks -/
theorem sts_tic {i : Int} (hi : nst S ≤ i) : sts (ticS F S) i = sts S i := by
  have h2 : ∀ X : Sa, sts X = sts S → nst X = nst S → dlvF X (tkFr F S) (nst S) i = sts S i := fun X h1 _ => by
    unfold dlvF
    rw [if_neg (by omega), h1]
  have h1 : sts (tkS1 F S) = sts S ∧ nst (tkS1 F S) = nst S := by
    unfold tkS1
    split <;> exact ⟨rfl, rfl⟩
  have hd : sts (tkS2 F S) i = sts S i := h2 _ h1.1 h1.2
  show sts (tkS3 F S) i = sts S i
  unfold tkS3
  split
  · exact hd
  · unfold setS
    split
    · exact hd
    · split <;> exact hd
theorem tkFr_k (hFW : FW F) (hw : SaW F S) : 0 ≤ (tkFr F S).1 := by
  unfold tkFr
  split
  · decide
  · unfold sndF
    split
    · unfold entF
      split
      · show (0 : Int) ≤ 2; decide
      · show (0 : Int) ≤ 2; decide
    · show (0 : Int) ≤ 1; decide
theorem ClC.tick {Q : mq_T} (h : ClC σ F S K n T) (hFW : FW F) (hw : SaW F S) (hn : now S ≤ 2000000) (hQ : ∀ τ, Sq σ τ inCl → ClC τ F (ticS F S) (frK (tkFr F S) (tkRc S)) n T → Q none τ) : Ca n_X6_tick [vR (some 7)] σ Q := by
  have hn0 := hw.1.1
  have hn5 := hw.1.2
  refine X6_tick h.2.2.1 hw h.2.1 hFW (by decide) hn (fun τ hs hC hf => hQ τ (hs.wk fun c hc => by unfold inTi at hc; unfold inCl; omega) ?_)
  have hf0 := h.2.2.2.1
  refine h.sat (hs.wk fun c hc => by unfold inTi at hc; unfold inSa; omega) hC (fun i a b => ?_) (FrK.of hf (tkFr_k hFW hw))
  have a' : nst S ≤ i := a
  rw [sts_tic a']
  exact (hf0 i a' b).ag (hs.ag fun c hc => by unfold inSt sa at hc; unfold inTi; omega)
end API
