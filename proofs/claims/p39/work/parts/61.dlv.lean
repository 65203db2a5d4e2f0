theorem SW_ct {F : Fl} {s : St} {w v : Int} (h : SW F s) (hv : rg v) : SW F (ctU s w v) := by
  refine ⟨h.1, h.2.1, h.2.2.1, fun x a b => ?_⟩
  show rg (up (ct s) w v x)
  by_cases e : x = w
  · rw [e, up_eq]; exact hv
  · rw [up_ne e]; exact h.2.2.2 x a b
def frOK (r : Fr) : Prop := (r.1 = 1 ∨ r.1 = 2) → 0 ≤ r.2.2.1 ∧ r.2.2.1 ≤ r.2.2.2 ∧ r.2.2.2 ≤ 4000000
set_option maxHeartbeats 4000000 in
theorem X7_take {a b : Nat} {σ : ms_T} {i rc : Int} {s : St} {r : Fr} {F : Fl} {Q : mq_T} (h : StC σ a i s) (hw : SW F s) (hr : FrC σ b r rc) (hd : ¬ inSt a b) (ho : frOK r) (hQ : ∀ τ, Sm σ τ (inSt a) → StC τ a i (tkF s r) → Q none τ) : Ca n_X7_take [vR (some a), vR (some b)] σ Q := by
  have h' := h
  obtain ⟨⟨s0, r7, r8, r9, r10, s4, s5, s6, r5, iv1, iv⟩, -, -, -, hct⟩ := h
  have h2 := h'.ctU (p := 0) (f := wr (ct s 0 + 1)) (by omega)
  have hs1 : Sm σ (sI σ (a + 6) (0 : Int).toNat (wr (ct s 0 + 1))) (inSt a) := Sm.rf.st ⟨by omega, by omega⟩
  have hr1 := hr.sm hs1 hd
  refine vc_X7_take _ _ _ _ ?_
  simp only [s0, r10, s6, isS_some, true_and]
  rw [hct 0 (by omega) (by omega)]
  have hw2 := SW_ct hw (w := 0) (v := wr (ct s 0 + 1)) (rg_wr _)
  generalize sI σ (a + 6) (0 : Int).toNat (wr (ct s 0 + 1)) = υ at *
  have t0 : gs υ a = (7, 0) := h2.1.1
  unfold tkF at hQ
  simp only [hr1.1, hr1.2.2.1, t0, isS_some, true_and]
  refine ⟨by omega, by omega, by omega, by omega, fun c => ⟨fun d => ?_, fun d => ?_⟩, fun c => ?_⟩
  · rw [if_neg c, if_neg d] at hQ
    exact hQ υ hs1 h2
  · have d' : r.1 = 2 := by omega
    rw [if_neg c, if_pos d'] at hQ
    obtain ⟨o1, o2, o3⟩ := ho (Or.inr d')
    exact X7_takeEntry h2 hw2 hr1 hd o1 o2 o3 (fun τ hs hc => ⟨rfl, hQ τ (hs1.tr hs) hc⟩)
  · have c' : r.1 = 1 := by omega
    rw [if_pos c'] at hQ
    obtain ⟨o1, o2, o3⟩ := ho (Or.inl c')
    exact X7_takeBytes h2 hw2 hr1 hd o1 o2 o3 (fun τ hs hc => ⟨rfl, hQ τ (hs1.tr hs) hc⟩)
/-- what a station has behind a frame -/
def dlv1 (S : Sa) (r : Fr) (i : Int) : St := if seesB (sts S i) (now S) = true then (if hitB (sts S i) i (now S) = true then ctU (sts S i) 1 (wr (ct (sts S i) 1 + 1)) else tkF (sts S i) r) else sts S i
def dlvF (S : Sa) (r : Fr) (k : Int) : Int → St := fun i => if 0 ≤ i ∧ i < k then dlv1 S r i else sts S i
def dlvS (S : Sa) (r : Fr) (k : Int) : Sa := (now S, nst S, dlvF S r k, que S, tot S)
def rcvN (S : Sa) (rc : Int) : Nat → Int
  | 0 => rc
  | k + 1 => if seesB (sts S k) (now S) = true ∧ ¬ hitB (sts S k) k (now S) = true then bOr (rcvN S rc k) (bShl 1 k) else rcvN S rc k
def rcv (S : Sa) (rc k : Int) : Int := rcvN S rc k.toNat
theorem rcv_s {S : Sa} {rc k : Int} (h : 0 ≤ k) : rcv S rc (k + 1) = if seesB (sts S k) (now S) = true ∧ ¬ hitB (sts S k) k (now S) = true then bOr (rcv S rc k) (bShl 1 k) else rcv S rc k := by
  unfold rcv
  rw [show (k + 1).toNat = k.toNat + 1 by omega]
  show (if seesB (sts S (k.toNat : Int)) (now S) = true ∧ ¬ hitB (sts S (k.toNat : Int)) (k.toNat : Int) (now S) = true then _ else _) = _
  rw [Int.toNat_of_nonneg h]
theorem dlv_s {S : Sa} {r : Fr} {k : Int} (h : 0 ≤ k) : up (dlvF S r k) k (dlv1 S r k) = dlvF S r (k + 1) := by
  funext i
  unfold dlvF
  by_cases e : i = k
  · rw [e, up_eq, if_pos (by omega)]
  · rw [up_ne e]
    by_cases e2 : 0 ≤ i ∧ i < k
    · rw [if_pos e2, if_pos (by omega)]
    · rw [if_neg e2, if_neg (by omega)]
theorem dlv_0 {S : Sa} {r : Fr} : dlvF S r 0 = sts S := by
  funext i
  unfold dlvF
  rw [if_neg (by omega)]
def inDl (t : Nat) (k : Int) (c : Nat) : Prop := c = t + 28 ∨ (t + 30 ≤ c ∧ c < t + 30 + 16 * k.toNat)
set_option maxHeartbeats 8000000 in
theorem X6_deliver {t : Nat} {σ : ms_T} {S : Sa} {F : Fl} {r : Fr} {rc : Int} {Q : mq_T} (h : SaC σ t S) (hn0 : 0 ≤ nst S) (hn5 : nst S ≤ 5) (hw : ∀ i, 0 ≤ i → i < nst S → SW F (sts S i)) (hno : 0 ≤ now S) (hn : now S ≤ 2000000) (hr : FrC σ (t + 28) r rc) (ho : frOK r) (hQ : ∀ τ, Sm σ τ (inDl t (nst S)) → SaC τ t (dlvS S r (nst S)) → FrC τ (t + 28) r (rcv S rc (nst S)) → Q none τ) : Ca n_X6_deliver [vR (some t)] σ Q := by
  have key : ∀ (k : Nat) (i : Int) (y : Option mv_T) (τ : ms_T), 0 ≤ i → i ≤ nst S → nst S - i < k → Sm σ τ (inDl t (nst S)) → SaC τ t (dlvS S r i) → FrC τ (t + 28) r (rcv S rc i) → At n_X6_deliver 2 [some (vR (some t)), some (vI i), y] [] τ Q := by
    intro k
    induction k with
    | zero => intro i y τ a0 a1 a2; omega
    | succ k ih =>
      intro i y τ a0 a1 a2 hs hC hf
      have hC' := hC
      obtain ⟨⟨⟨k1, k2, k3, k4, k5, k6, k7, k8, k9⟩, k10, k11⟩, e6, e2, hst, hq, ht⟩ := hC
      have e6 : gi τ t 6 = now S := e6
      have e2 : gi τ t 2 = nst S := e2
      refine vc_X6_deliver_2 _ _ _ _ _ ?_
      simp only [k1, k3, k7, e2, e6, isS_some, true_and]
      refine ⟨fun c => ?_, fun c => ⟨by decide, by decide, a0, by omega, ?_⟩⟩
      · have ei : i = nst S := by omega
        rw [ei] at hC' hf
        exact hQ τ hs hC' hf
      · have hi : i < nst S := by omega
        have hSt : StC τ (sa t i) i (dlvF S r i i) := hst i a0 hi
        have hself : dlvF S r i i = sts S i := by unfold dlvF; rw [if_neg (by omega)]
        rw [hself] at hSt
        have hwi := hw i a0 hi
        have hd : ¬ inSt (sa t i) (t + 28) := by unfold inSt sa; omega
        have hss := rcv_s (S := S) (rc := rc) a0
        have hlt : i.toNat < 5 := by omega
        have wI : ∀ c, inSt (sa t i) c → inDl t (nst S) c := fun c hc => by unfold inSt sa at hc; unfold inDl; omega
        have nxt : ∀ υ y, Sm τ υ (inSt (sa t i)) → StC υ (sa t i) i (dlv1 S r i) → rcv S rc (i + 1) = rcv S rc i → At n_X6_deliver 2 [some (vR (some t)), some (vI (i + 1)), y] [] υ Q := by
          intro υ y hs2 hc2 hrc
          refine ih (i + 1) y υ (by omega) (by omega) (by omega) (hs.tr (hs2.wk wI)) ?_ (by rw [hrc]; exact hf.sm hs2 hd)
          have := hC'.stU hn5 a0 (by omega) hs2 hc2
          have e : up (dlvF S r i) i (dlv1 S r i) = dlvF S r (i + 1) := dlv_s a0
          unfold dlvS
          rw [← e]
          exact this
        simp only [k10 i a0 (by omega), hSt.1.1, isS_some, true_and]
        rw [wr_i (x := i + 1) (by omega)]
        refine X7_sees hSt hwi hno hn (fun c1 => ⟨1, rfl, fun _ => ?_, fun z => absurd (show ¬ (1 : Int) = 0 by decide) z⟩) (fun c1 => ⟨0, rfl, fun z => absurd rfl z, fun _ => ?_⟩)
        · simp only [k1, e6, hSt.1.1, isS_some, true_and]
          refine X7_isHit hSt a0 (by omega) hno hn (fun c2 => ⟨1, rfl, fun z => absurd z (by decide), fun _ => ?_⟩) (fun c2 => ⟨0, rfl, fun _ => ?_, fun z => absurd rfl z⟩)
          · have h6 := hSt.2.2.2.2 1 (by omega) (by omega)
            simp only [hSt.1.1, hSt.1.2.2.2.2.1, hSt.1.2.2.2.2.2.2.2.1, h6, isS_some, true_and]
            refine ⟨by decide, by decide, by decide, by decide, nxt _ _ (Sm.rf.st ⟨by omega, by omega⟩) ?_ ?_⟩
            · have := hSt.ctU (p := 1) (f := wr (ct (sts S i) 1 + 1)) (by omega)
              unfold dlv1
              rw [if_pos (seesB_iff.mpr c1), if_pos (hitB_iff.mpr c2)]
              exact this
            · rw [hss, if_neg (fun z => z.2 (hitB_iff.mpr c2))]
          · have hsF : Sm τ (sI τ (t + 28) 5 (bOr (rcv S rc i) (bShl 1 i))) (fun c => c = t + 28) := Sm.one
            have hnh : ¬ hitB (sts S i) i (now S) = true := fun z => c2 (hitB_iff.mp z)
            have hf2 : FrC (sI τ (t + 28) 5 (bOr (rcv S rc i) (bShl 1 i))) (t + 28) r (rcv S rc (i + 1)) := by
              obtain ⟨f1, f2, f3, f4, f5, f6, f7⟩ := hf
              refine ⟨f1, by rw [gi_nk (by omega)]; exact f2, by rw [gi_nk (by omega)]; exact f3, by rw [gi_nk (by omega)]; exact f4, by rw [gi_nk (by omega)]; exact f5, by rw [gi_nk (by omega)]; exact f6, ?_⟩
              rw [gi_eq, hss, if_pos ⟨seesB_iff.mpr c1, hnh⟩]
            have hfr := hf.2.2.2.2.2.2
            have hC2 : SaC (sI τ (t + 28) 5 (bOr (rcv S rc i) (bShl 1 i))) t (dlvS S r i) := hC'.ag hn5 (hsF.ag fun c hc => hc.2) hf.1
            have hSt2 := hC2.2.2.2.1 i a0 hi
            have hSt2 : StC (sI τ (t + 28) 5 (bOr (rcv S rc i) (bShl 1 i))) (sa t i) i (dlvF S r i i) := hSt2
            rw [hself] at hSt2
            simp only [gs_sI, gr_sI, k1, k5, k8, hfr, hSt.1.1, isS_some, true_and]
            refine X7_take hSt2 hwi hf2 hd ho (fun υ hs2 hc2 => ⟨rfl, ?_⟩)
            refine ih (i + 1) _ υ (by omega) (by omega) (by omega) ((hs.tr (hsF.wk fun c hc => Or.inl hc)).tr (hs2.wk wI)) ?_ (hf2.sm hs2 hd)
            have h1 : StC υ (sa t i) i (dlv1 S r i) := by
              unfold dlv1
              rw [if_pos (seesB_iff.mpr c1), if_neg hnh]
              exact hc2
            have := hC2.stU hn5 a0 (by omega) hs2 h1
            have e : up (dlvF S r i) i (dlv1 S r i) = dlvF S r (i + 1) := dlv_s a0
            unfold dlvS
            rw [← e]
            exact this
        · have hns : ¬ seesB (sts S i) (now S) = true := fun z => c1 (seesB_iff.mp z)
          refine nxt τ _ Sm.rf ?_ ?_
          · unfold dlv1
            rw [if_neg hns]
            exact hSt
          · rw [hss, if_neg (fun z => hns z.1)]
  refine vc_X6_deliver _ _ _ (key (nst S + 1).toNat 0 _ σ (by omega) hn0 (by omega) Sm.rf ?_ hr)
  unfold dlvS
  rw [dlv_0]
  exact h
/-- what becomes of the request that was sent -/
def setS (S : Sa) (i : Int) : Sa := if ln (rho (qg (que S) i)) = 0 then (now S, nst S, sts S, rmQ (que S) i, up (tot S) 3 (wr (tot S 3 + 1))) else if rle (qg (que S) i) = 0 then (now S, nst S, sts S, mvQ (que S) i, tot S) else S
set_option maxHeartbeats 4000000 in
theorem X6_settle {t : Nat} {σ : ms_T} {S : Sa} {i : Int} {Q : mq_T} (h : SaC σ t S) (hn5 : nst S ≤ 5) (h0 : 0 ≤ i) (hi : i < ql (que S)) (hQ : ∀ τ, Sq σ τ (inDr t) → SaC τ t (setS S i) → Q none τ) : Ca n_X6_settle [vR (some t), vI i] σ Q := by
  have h' := h
  obtain ⟨⟨⟨k1, k2, k3, k4, k5, k6, k7, k8, k9⟩, k10, k11⟩, e6, e2, hst, hq, ht⟩ := h
  have hq' := hq
  obtain ⟨p, ⟨q1, q2, q3⟩, q4, q5, q6, q7, q8, q9⟩ := hq
  have hr := q9 i h0 hi
  unfold setS at hQ
  refine vc_X6_settle _ _ _ _ ?_
  simp only [k1, k4, q1, q2, q3, (q6 i h0 (by omega)).1, hr.1.1, hr.1.2.1, hr.2.2.1.1, hr.2.2.2.1, hr.2.1.2.2, isS_some, true_and]
  refine ⟨by decide, by decide, h0, by omega, fun c => ⟨fun d => ?_, fun d => ?_⟩, fun c => ?_⟩
  · rw [if_neg c, if_neg d] at hQ
    exact hQ σ Sq.rf h'
  · rw [if_neg c, if_pos (by omega)] at hQ
    refine X3_moveToEnd hq' h0 hi (fun τ hs hm => ⟨rfl, hQ τ (hs.wk fun c hc => Or.inl (by unfold inQu; omega)) ?_⟩)
    exact h'.quU hn5 (hs.wk fun c hc => by unfold inQu; omega) hm
  · rw [if_pos (by omega)] at hQ
    refine X3_remove hq' h0 hi (fun τ hs hm => ⟨rfl, ?_⟩)
    have hC2 := h'.quU hn5 hs hm
    obtain ⟨⟨⟨v1, v2, v3, v4, v5, v6, v7, v8, v9⟩, v10, v11⟩, w6, w2, wst, wq, wt⟩ := id hC2
    have w3 : gi τ (t + 29) (3 : Int).toNat = tot S 3 := wt 3 (by omega) (by omega)
    simp only [v1, v6, v9, w3, isS_some, true_and]
    refine ⟨by decide, by decide, by decide, by decide, hQ _ ((hs.wk fun c hc => Or.inl hc).st (Or.inr rfl)) ?_⟩
    exact hC2.toU (w := 3) (v := wr (tot S 3 + 1)) hn5 (by omega)
/-- a tick: what is sent, what all becomes -/
def tkFr (F : Fl) (S : Sa) : Fr := if ptQ (que (drpS F S)) < 0 then (0, -1, 0, 0) else sndF F (now S) (qg (que (drpS F S)) (ptQ (que (drpS F S))))
def tkS1 (F : Fl) (S : Sa) : Sa := if ptQ (que (drpS F S)) < 0 then (now S, nst S, sts S, que (drpS F S), up (tot (drpS F S)) 2 (wr (tot (drpS F S) 2 + 1))) else sndS F (drpS F S) (ptQ (que (drpS F S)))
def tkS2 (F : Fl) (S : Sa) : Sa := dlvS (tkS1 F S) (tkFr F S) (nst S)
def tkS3 (F : Fl) (S : Sa) : Sa := if ptQ (que (drpS F S)) < 0 then tkS2 F S else setS (tkS2 F S) (ptQ (que (drpS F S)))
def ticS (F : Fl) (S : Sa) : Sa := (now S + 1, nst S, sts (tkS3 F S), que (tkS3 F S), tot (tkS3 F S))
def tkRc (S : Sa) : Int := rcv S 0 (nst S)
theorem pt_bd (Q : List Rq) : -1 ≤ ptQ Q ∧ ptQ Q < ql Q ∨ ptQ Q = -1 := by
  have h1 := lsI_bd (p := fun i => decide (0 < rle (qg Q i))) (ql Q).toNat
  have h2 := frI_bd (p := fun i => decide (rfl_ (qg Q i) = -1)) (ql Q).toNat
  have := ql_nn Q
  unfold ptQ trQ diQ
  split
  · omega
  · split
    · omega
    · split <;> omega
