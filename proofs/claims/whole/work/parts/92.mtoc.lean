theorem of_tkF {s : St} {r : Fr} : of_ (tkF s r) = of_ s := by
  unfold tkF
  split
  · unfold tkB
    split <;> rfl
  · split <;> rfl
theorem of_dlv1 {S : Sa} {r : Fr} {i : Int} : of_ (dlv1 S r i) = of_ (sts S i) := by
  unfold dlv1
  split
  · split
    · rfl
    · exact of_tkF
  · rfl
theorem of_tic {F : Fl} {S : Sa} {i : Int} : of_ (sts (ticS F S) i) = of_ (sts S i) := by
  have e1 : sts (ticS F S) i = dlvF (tkS1 F S) (tkFr F S) (nst S) i := by
    show sts (tkS3 F S) i = _
    unfold tkS3
    split
    · rfl
    · unfold setS
      split
      · rfl
      · split <;> rfl
  have e2 : sts (tkS1 F S) i = sts S i := by
    unfold tkS1
    split <;> rfl
  rw [e1]
  unfold dlvF
  split
  · rw [of_dlv1, e2]
  · rw [e2]
theorem of_sim {F : Fl} {S : Sa} {i f x : Int} : ∀ j : Nat, of_ (sts (simN F i f j S) x) = of_ (sts S x)
  | 0 => rfl
  | j + 1 => by
    show of_ (sts (ticS F (rReqF F (simN F i f j S) i f).2) x) = _
    rw [of_tic, reqF_same.2.2, of_sim j]
theorem sts_sim {F : Fl} {S : Sa} {i f x : Int} (hF : FW F) (hw : SaW F S) (hx : nst S ≤ x) : ∀ j : Nat, sts (simN F i f j S) x = sts S x
  | 0 => rfl
  | j + 1 => by
    have a3 := (simN_ok (i := i) (f := f) hF hw j).2.2
    show sts (ticS F (rReqF F (simN F i f j S) i f).2) x = _
    rw [sts_tic (by rw [reqF_same.2.1, a3]; exact hx), reqF_same.2.2, sts_sim hF hw hx j]
theorem opl_eq {s s' : St} {f : Int} (h : of_ s' = of_ s) : opl s' f = opl s f := by unfold opl; rw [h]
section M
variable {σ : ms_T} {m : Nat} {F : Fl} {S : Sa} {K : Int → Int} {n : Int} {T : Int → Int} {Q : mq_T}
theorem StX_sim {i f : Int} {K' : Int → Int} (hw : StW F S K n T) (hK : -1 ≤ K' 0) {j : Nat} (hj : j ≤ 2001) : StX F (simN F i f j S) K' n T := by
  obtain ⟨a1, a2, a3⟩ := simN_ok (i := i) (f := f) hw.1 hw.2.1 j
  have h3 := hw.2.2.1
  refine ⟨hw.1, a1, by omega, hw.2.2.2.1, ?_, fun x x0 x1 => ?_, hK⟩
  · have := exN_time (F := F) (t := now S) (u := now (simN F i f j S)) hw.1.1 (by omega)
    have := hw.2.2.2.2.1
    omega
  · rw [a3] at x0
    rw [sts_sim hw.1 hw.2.1 x0 j]
    exact hw.2.2.2.2.2.1 x x0 x1
set_option maxHeartbeats 4000000 in
theorem M_ticksToComplete {i f : Int} (h : MoC σ m F S K n T) (hw : StW F S K n T) (hQ : ∀ τ, Sm σ τ (inMx m) → MoC τ m F S K n T → Q (some (vI (rToC F S i f))) τ) : Ca n_X9_ticksToComplete [vR (some m), vI i, vI f] σ Q := by
  unfold rToC at hQ
  have hn1 := hw.2.2.1
  refine vc_X9_ticksToComplete _ _ _ _ _ ⟨h.1.1, M_refusesOpen h hw.x (fun c d => ⟨0, rfl, fun _ => ⟨h.1.1, X9_putsAside h.1 fun σ1 hs1 hd => ⟨rfl, (h.1.sm hs1).1, ?_⟩⟩, fun z => absurd (by decide) z⟩) (fun c d => ⟨_, rfl, fun z => absurd z (by decide), fun _ => ?_⟩) (fun c => ⟨_, rfl, fun z => absurd z (by decide), fun _ => ?_⟩)⟩
  · rw [cif_p c, cif_n (by omega)] at hQ
    have b := opl_bd (sts S i) f
    have c0 := c.2.1
    have hof := b.2.2 d
    have h1 : MoC σ1 m F S K n T := ⟨h.1.sm hs1, h.2.1.eqv hw.1 hw.2.1 (fun j _ _ => ro_sm hs1 (by omega) j), by rw [hs1.i (by omega)]; exact h.2.2.1, fun j j0 j1 => by rw [hs1.i (by omega)]; exact h.2.2.2 j j0 j1⟩
    refine M_openAt h1 hw.x c.1 ⟨_, rfl, ?_⟩
    have eO : opA i (sts S i) f = sb i + 31 + 26 * opl (sts S i) f := by unfold opA; rw [if_neg (by omega)]
    rw [eO]
    have key : ∀ (k : Nat) (j : Nat) (K' : Int → Int) (o : Option mv_T) (τ : ms_T), j ≤ 2000 → 2000 - j < k → Sm σ1 τ (inMo m) → -1 ≤ K' 0 → MoC τ m F (simN F i f j S) K' n T → (∀ υ, Sm σ υ (inMx m) → MoC υ m F S K n T → Q (some (vI (comN F S i f (2000 - j) j))) υ) → At n_X9_ticksToComplete 28 [some (vR (some m)), some (vI i), some (vI f), some (vI 0), some (vI (sb i + 31 + 26 * opl (sts S i) f)), some (vI (j : Int)), o] [] τ Q := by
      intro k
      induction k with
      | zero => intro j K' o τ h0 hk; omega
      | succ k ih =>
        intro j K' o τ h0 hk hs hK hC hv
        obtain ⟨a1, a2, a3⟩ := simN_ok (i := i) (f := f) hw.1 hw.2.1 j
        have hX : StX F (simN F i f j S) K' n T := StX_sim hw hK (by omega)
        have es : of_ (sts (simN F i f j S) i) = of_ (sts S i) := of_sim j
        have eo : opl (sts (simN F i f j S) i) f = opl (sts S i) f := opl_eq es
        have hi : stnP (simN F i f j S) i := ⟨c.1.1, by rw [a3]; exact c.1.2⟩
        have hk0 : of_ (sts (simN F i f j S) i) (opl (sts S i) f) = f := by rw [es]; exact hof
        have iff1 : sizeL (ol (sts (simN F i f j S) i) (opl (sts S i) f)) = F.2 (of_ (sts (simN F i f j S) i) (opl (sts S i) f)) 0 → cmpP F (simN F i f j S) i f := fun z => by
          unfold cmpP
          rw [eo]
          exact ⟨d, by omega, by rw [z, hk0]⟩
        have iff0 : ¬ sizeL (ol (sts (simN F i f j S) i) (opl (sts S i) f)) = F.2 (of_ (sts (simN F i f j S) i) (opl (sts S i) f)) 0 → ¬ cmpP F (simN F i f j S) i f := fun z y => by
          unfold cmpP at y
          rw [eo] at y
          exact z (by rw [hk0]; exact y.2.2)
        have back : ∀ v, Q (some (vI v)) = Q (some (vI v)) → (∀ υ, Sm σ υ (inMx m) → MoC υ m F S K n T → Q (some (vI v)) υ) → Ca n_X9_putsBack [vR (some m)] τ fun v4 τ5 => v4 = none ∧ Q (some (vI v)) τ5 := fun v _ hv2 => by
          refine X9_putsBack (R := ro σ m) hC.1 (fun j j0 j1 => by rw [hs.i (by unfold inMo; omega)]; exact hd j j0 j1) fun υ hs2 hR => ⟨rfl, hv2 υ ?_ ?_⟩
          · exact ((hs1.wk fun c hc => by unfold inMx; omega).tr (hs.wk fun c hc => by unfold inMo at hc; unfold inMx; omega)).tr (hs2.wk fun c hc => by unfold inMx; omega)
          · exact ⟨hC.1.sm hs2, h.2.1.eqv hw.1 hw.2.1 hR, by rw [hs2.i (by omega)]; exact hC.2.2.1, fun j j0 j1 => by rw [hs2.i (by omega)]; exact hC.2.2.2 j j0 j1⟩
        refine vc_X9_ticksToComplete_28 _ _ _ _ _ _ _ _ _ ⟨fun z => ⟨hC.1.1, X9_isComplete hC hX hi d b.2.1 (by omega) (fun p => ⟨1, rfl, fun z => absurd z (by decide), fun _ => ⟨hC.1.1, back _ rfl ?_⟩⟩) (fun p => ⟨0, rfl, fun _ => ⟨hC.1.1, back _ rfl ?_⟩, fun z => absurd rfl z⟩)⟩, fun z => ⟨hC.1.1, X9_isComplete hC hX hi d b.2.1 (by omega) (fun p => ⟨1, rfl, fun _ => ⟨hC.1.1, X9_isComplete hC hX hi d b.2.1 (by omega) (fun _ => ⟨1, rfl, fun z => absurd z (by decide), fun _ => ⟨hC.1.1, back _ rfl ?_⟩⟩) (fun p2 => absurd p p2)⟩, fun z => absurd (show ¬ (1 : Int) = 0 by decide) z⟩) (fun p => ⟨0, rfl, fun z => absurd rfl z, fun _ => ⟨hC.1.1, ?_⟩⟩)⟩⟩
        · rw [show 2000 - j = 0 by omega] at hv
          unfold comN at hv
          rw [cif_p (iff1 p)] at hv
          exact hv
        · rw [show 2000 - j = 0 by omega] at hv
          unfold comN at hv
          rw [cif_n (iff0 p)] at hv
          exact hv
        · rw [show 2000 - j = (2000 - j - 1) + 1 by omega] at hv
          unfold comN at hv
          rw [cif_p (iff1 p)] at hv
          exact hv
        · rw [show 2000 - j = (2000 - (j + 1)) + 1 by omega] at hv
          unfold comN at hv
          rw [cif_n (iff0 p)] at hv
          refine M_requestFile hC hX fun υ hs2 hC2 => ⟨_, rfl, hC2.1.1, ?_⟩
          rw [wr_i (x := (j : Int) + 1) (by omega)]
          refine M_tick hC2 hw.1 (SaW_reqF hw.1 a1) (by rw [reqF_same.1]; omega) fun ω hs3 hC3 => ⟨rfl, ?_⟩
          rw [show (j : Int) + 1 = ((j + 1 : Nat) : Int) by omega]
          refine ih (j + 1) _ _ ω (by omega) (by omega) ((hs.tr hs2).tr (hs3.wk fun c hc => by unfold inTm at hc; unfold inMo; omega)) ?_ hC3 hv
          show -1 ≤ (tkFr F (rReqF F (simN F i f j S) i f).2).1
          have := tkFr_k (S := (rReqF F (simN F i f j S) i f).2) hw.1 (SaW_reqF hw.1 a1)
          omega
    exact key 2001 0 K none σ1 (by omega) (by omega) Sm.rf hw.2.2.2.2.2.2 h1 hQ
  · rw [cif_p c, cif_p d] at hQ; exact hQ σ Sm.rf h
  · rw [cif_n c] at hQ; exact hQ σ Sm.rf h
end M
