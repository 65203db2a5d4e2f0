def seesB (s : St) (t : Int) : Bool := decide (sc s 1 ≤ t) && decide ((t - sc s 1).tmod (sc s 0) < sc s 2)
theorem seesB_iff {s : St} {t : Int} : seesB s t = true ↔ seesP s t := by
  unfold seesB seesP
  rw [Bool.and_eq_true, decide_eq_true_eq, decide_eq_true_eq]
def hitB (s : St) (n t : Int) : Bool := decide (((hitX n t * hitX n t).tmod 65521).tmod 1000 < sc s 4)
theorem hitB_iff {s : St} {n t : Int} : hitB s n t = true ↔ hitP s n t := by
  unfold hitB hitP
  rw [decide_eq_true_eq]
/-- a request that stays -/
def kpB (F : Fl) (S : Sa) (r : Rq) : Bool := seesB (sts S (rst r)) (now S) && (decide (rfl_ r = -1) || (decide (0 ≤ rfl_ r) && (decide (rfl_ r < F.1) && exB F (now S) (rfl_ r))))
theorem kpB_iff {F : Fl} {S : Sa} {r : Rq} : kpB F S r = true ↔ seesP (sts S (rst r)) (now S) ∧ (rfl_ r = -1 ∨ exP F (rfl_ r) (now S)) := by
  unfold kpB exP exB
  rw [Bool.and_eq_true, Bool.or_eq_true, Bool.and_eq_true, Bool.and_eq_true, seesB_iff, decide_eq_true_eq, decide_eq_true_eq, decide_eq_true_eq, decide_eq_true_eq]
/-- from place k on only what stays -/
def dpQ (p : Rq → Bool) (Q : List Rq) (k : Int) : List Rq := Q.take k.toNat ++ (Q.drop k.toNat).filter p
theorem qg_get {Q : List Rq} {k : Nat} (h : k < Q.length) : qg Q (k : Int) = Q[k] := by
  unfold qg
  rw [Int.toNat_natCast, List.getD_eq_getElem?_getD, List.getElem?_eq_getElem h]
  rfl
theorem dp_end {p : Rq → Bool} {Q : List Rq} : dpQ p Q (ql Q) = Q := by
  unfold dpQ ql
  simp
theorem dp_0 {p : Rq → Bool} {Q : List Rq} : dpQ p Q 0 = Q.filter p := by
  unfold dpQ
  simp
theorem dp_keep {p : Rq → Bool} {Q : List Rq} {k : Int} (h0 : 0 ≤ k) (h : k < ql Q) (hp : p (qg Q k) = true) : dpQ p Q k = dpQ p Q (k + 1) := by
  unfold ql at h
  obtain ⟨n, rfl⟩ := Int.eq_ofNat_of_zero_le h0
  have hn : n < Q.length := by omega
  rw [qg_get hn] at hp
  unfold dpQ
  rw [show ((n : Int) + 1).toNat = n + 1 by omega, Int.toNat_natCast, List.drop_eq_getElem_cons hn, List.filter_cons, if_pos hp, List.take_succ_eq_append_getElem hn, List.append_assoc]
  rfl
theorem dp_drop {p : Rq → Bool} {Q : List Rq} {k : Int} (h0 : 0 ≤ k) (h : k < ql Q) (hp : ¬ p (qg Q k) = true) : dpQ p Q k = rmQ (dpQ p Q (k + 1)) k := by
  unfold ql at h
  obtain ⟨n, rfl⟩ := Int.eq_ofNat_of_zero_le h0
  have hn : n < Q.length := by omega
  rw [qg_get hn] at hp
  unfold dpQ rmQ
  rw [show ((n : Int) + 1).toNat = n + 1 by omega, Int.toNat_natCast, List.drop_eq_getElem_cons hn, List.filter_cons, if_neg hp, List.take_succ_eq_append_getElem hn, List.append_assoc, List.eraseIdx_append_of_length_le (by rw [List.length_take]; omega), List.length_take, show n - min n Q.length = 0 by omega]
  rfl
theorem dp_get {p : Rq → Bool} {Q : List Rq} {k i : Int} (h0 : 0 ≤ i) (hi : i < k) (h : k ≤ ql Q) : qg (dpQ p Q k) i = qg Q i ∧ k ≤ ql (dpQ p Q k) := by
  unfold ql at *
  unfold dpQ qg
  refine ⟨?_, ?_⟩
  · rw [List.getD_eq_getElem?_getD, List.getD_eq_getElem?_getD, List.getElem?_append_left (by rw [List.length_take]; omega), List.getElem?_take_of_lt (by omega)]
  · rw [List.length_append, List.length_take]
    omega
theorem dp_le {p : Rq → Bool} {Q : List Rq} {k : Int} : ql (dpQ p Q k) ≤ ql Q := by
  unfold ql dpQ
  rw [List.length_append, List.length_take]
  have h1 := List.length_filter_le p (Q.drop k.toNat)
  rw [List.length_drop] at h1
  omega
def drpS (F : Fl) (S : Sa) : Sa := (now S, nst S, sts S, (que S).filter (kpB F S), up (tot S) 4 (wr (tot S 4 + (ql (que S) - ql ((que S).filter (kpB F S))))))
def inDr (t c : Nat) : Prop := inQu (t + 2) c ∨ c = t + 29
theorem wr_s (x j : Int) : wr (wr (x + j) + 1) = wr (x + (j + 1)) := by unfold wr; omega
set_option maxHeartbeats 8000000 in
theorem X6_dropRequests {t : Nat} {σ : ms_T} {S : Sa} {F : Fl} {Q : mq_T} (h : SaC σ t S) (hw : SaW F S) (hF : FlC σ 2 F) (hFW : FW F) (ht7 : 7 ≤ t) (hn : now S ≤ 2000000) (hQ : ∀ τ, Sq σ τ (inDr t) → SaC τ t (drpS F S) → Q none τ) : Ca n_X6_dropRequests [vR (some t)] σ Q := by
  have hnn := ql_nn (que S)
  have hn5 := hw.1.2
  have hq6 := hw.2.2.2.1
  have hrg := hw.2.2.2.2.2.2.2 4 (by omega) (by omega)
  have key : ∀ (k : Nat) (i : Int) (y z : Option mv_T) (τ : ms_T), -1 ≤ i → i < ql (que S) → i + 1 < k → Sq σ τ (inDr t) → SaC τ t (now S, nst S, sts S, dpQ (kpB F S) (que S) (i + 1), up (tot S) 4 (wr (tot S 4 + (ql (que S) - ql (dpQ (kpB F S) (que S) (i + 1)))))) → At n_X6_dropRequests 10 [some (vR (some t)), some (vI i), y, z] [] τ Q := by
    intro k
    induction k with
    | zero => intro i y z τ a0 a1 a2; omega
    | succ k ih =>
      intro i y z τ a0 a1 a2 hs hC
      have hC' := hC
      have hFτ : FlC τ 2 F := hF.ag (hs.ag fun c hc => by unfold inF at hc; unfold inDr inQu; omega)
      obtain ⟨⟨⟨k1, k2, k3, k4, k5, k6, k7, k8, k9⟩, k10, k11⟩, e6, e2, hst, hq, ht⟩ := hC
      have e6 : gi τ t 6 = now S := e6
      have hq' := hq
      obtain ⟨p, ⟨q1, q2, q3⟩, q4, q5, q6, q7, q8, q9⟩ := hq
      refine vd_X6_dropRequests_10 _ _ _ _ _ _ ?_
      simp only [k1, k4, q1, q2, q3, isS_some, true_and]
      refine ⟨fun c => ?_, fun c => ⟨by decide, by decide, by omega, by omega, ?_⟩⟩
      · have ei : i = -1 := by omega
        rw [ei, show (-1 + 1 : Int) = 0 by omega, dp_0] at hC'
        exact hQ τ hs hC'
      · have hdg := dp_get (p := kpB F S) (Q := que S) (k := i + 1) (i := i) (by omega) (by omega) (by omega)
        have hr := q9 i (by omega) (by show i < ql (dpQ (kpB F S) (que S) (i + 1)); omega)
        have hr2 : RqC τ (t + 2 + 2 + 4 * p i) (qg (que S) i) := by rw [← hdg.1]; exact hr
        have hrw := hw.2.2.2.2.1 i (by omega) a1
        have h96 : ∀ (υ : ms_T) (w : Option Nat) (b : Int), Sq σ υ (inDr t) → SaC υ t (now S, nst S, sts S, dpQ (kpB F S) (que S) i, up (tot S) 4 (wr (tot S 4 + (ql (que S) - ql (dpQ (kpB F S) (que S) i))))) → At n_X6_dropRequests 96 [some (vR (some t)), some (vI i), some (vR w), some (vI b)] [] υ Q := by
          intro υ w b hs2 hc2
          refine vd_X6_dropRequests_96 _ _ _ _ _ _ ?_
          rw [wr_i (x := i + -1) (by omega)]
          refine ih (i + -1) _ _ υ (by omega) (by omega) (by omega) hs2 ?_
          rw [show i + -1 + 1 = i by omega]
          exact hc2
        have h78 : ∀ (w : Option Nat) (b : Int), ¬ kpB F S (qg (que S) i) = true → At n_X6_dropRequests 78 [some (vR (some t)), some (vI i), some (vR w), some (vI b)] [] τ Q := by
          intro w b hk
          refine vd_X6_dropRequests_78 _ _ _ _ _ _ ?_
          simp only [k1, k4, q1, isS_some, true_and]
          refine X3_remove hq' (by omega) (by show i < ql (dpQ (kpB F S) (que S) (i + 1)); omega) (fun τ2 hs2 hq2 => ⟨rfl, ?_⟩)
          have hC2 := hC'.quU hn5 hs2 hq2
          obtain ⟨⟨⟨v1, v2, v3, v4, v5, v6, v7, v8, v9⟩, v10, v11⟩, w6, w2, wst, wq, wt⟩ := id hC2
          have w4 := wt 4 (by omega) (by omega)
          have w4' : gi τ2 (t + 29) (4 : Int).toNat = wr (tot S 4 + (ql (que S) - ql (dpQ (kpB F S) (que S) (i + 1)))) := by
            exact w4.trans (up_eq (f := tot S) (k := 4) (v := wr (tot S 4 + (ql (que S) - ql (dpQ (kpB F S) (que S) (i + 1))))))
          simp only [v1, v6, v9, w4', isS_some, true_and]
          refine ⟨by decide, by decide, by decide, by decide, ?_⟩
          have hC3 := hC2.toU (w := 4) (v := wr (wr (tot S 4 + (ql (que S) - ql (dpQ (kpB F S) (que S) (i + 1)))) + 1)) hn5 (by omega)
          refine h96 _ w b ((hs.tr (hs2.wk fun c hc => Or.inl hc)).st (Or.inr rfl)) ?_
          have hl : ql (dpQ (kpB F S) (que S) i) = ql (dpQ (kpB F S) (que S) (i + 1)) - 1 := by
            rw [dp_drop (by omega) a1 hk, ql_rm (by omega) (by omega)]
          rw [hl, dp_drop (by omega) a1 hk]
          have e : up (up (tot S) 4 (wr (tot S 4 + (ql (que S) - ql (dpQ (kpB F S) (que S) (i + 1)))))) 4 (wr (wr (tot S 4 + (ql (que S) - ql (dpQ (kpB F S) (que S) (i + 1)))) + 1)) = up (tot S) 4 (wr (tot S 4 + (ql (que S) - (ql (dpQ (kpB F S) (que S) (i + 1)) - 1)))) := by
            funext x
            by_cases e : x = 4
            · rw [e, up_eq, up_eq, wr_s]
              congr 1
              omega
            · rw [up_ne e, up_ne e, up_ne e]
          rw [← e]
          exact hC3
        have h54 : ∀ (b : Int), (b = 0 ∧ ¬ (rfl_ (qg (que S) i) = -1 ∨ exP F (rfl_ (qg (que S) i)) (now S))) ∨ (b = 1 ∧ (rfl_ (qg (que S) i) = -1 ∨ exP F (rfl_ (qg (que S) i)) (now S))) → At n_X6_dropRequests 54 [some (vR (some t)), some (vI i), some (vR (some (t + 2 + 2 + 4 * p i))), z] [vI b] τ Q := by
          intro b hb
          refine vd_X6_dropRequests_54 _ _ _ _ _ _ _ ?_
          have hrS : gi τ (t + 2 + 2 + 4 * p i) 0 = rst (qg (que S) i) := hr2.2.1.1
          have hSt := hst (rst (qg (que S) i)) hrw.1.1 hrw.1.2
          have hSt : StC τ (sa t (rst (qg (que S) i))) (rst (qg (que S) i)) (sts S (rst (qg (que S) i))) := hSt
          have hb1 := hrw.1
          simp only [k1, k3, k7, hr2.1.1, hrS, e6, k10 _ hrw.1.1 (show rst (qg (que S) i) < 5 by omega), hSt.1.1, isS_some, true_and]
          refine ⟨fun d => h78 _ _ fun z => ?_, fun d => ⟨by decide, by decide, hrw.1.1, by omega, X7_sees hSt (hw.2.2.1 _ hrw.1.1 hrw.1.2) hw.2.1 hn (fun g => ⟨1, rfl, fun _ => ?_, fun z => absurd (show ¬ (1 : Int) = 0 by decide) z⟩) (fun g => ⟨0, rfl, fun z => absurd rfl z, fun _ => h78 _ _ fun z => g (kpB_iff.mp z).1⟩)⟩⟩
          · rcases hb with hb | hb
            · exact hb.2 (kpB_iff.mp z).2
            · omega
          · have hk : kpB F S (qg (que S) i) = true := kpB_iff.mpr ⟨g, by rcases hb with hb | hb; · omega
                                                                          · exact hb.2⟩
            refine h96 τ _ _ hs ?_
            rw [dp_keep (by omega) a1 hk]
            exact hC'
        have hq6' := (q6 i (by omega) (by omega)).1
        simp only [hq6', hr2.1.1, isS_some, true_and]
        refine X4_isForDirectory hr2 (fun d => ⟨1, rfl, fun _ => h54 1 (Or.inr ⟨rfl, Or.inl d⟩), fun z => absurd (show ¬ (1 : Int) = 0 by decide) z⟩) (fun d => ⟨0, rfl, fun z => absurd rfl z, fun _ => ?_⟩)
        have hrF : gi τ (t + 2 + 2 + 4 * p i) 1 = rfl_ (qg (que S) i) := hr2.2.1.2.1
        simp only [k1, k2, hFτ.1.1, hr2.1.1, hrF, e6, isS_some, true_and]
        refine X0_exists hFτ hFW (fun g => ⟨1, rfl, fun z => absurd z (by decide), fun _ => h54 1 (Or.inr ⟨rfl, Or.inr g⟩)⟩) (fun g => ⟨0, rfl, fun _ => h54 0 (Or.inl ⟨rfl, fun z => ?_⟩), fun z => absurd rfl z⟩)
        rcases z with z | z
        · exact d z
        · exact g z
  have h' := h
  obtain ⟨⟨⟨k1, k2, k3, k4, k5, k6, k7, k8, k9⟩, k10, k11⟩, e6, e2, hst, ⟨p, ⟨q1, q2, q3⟩, q4, -⟩, ht⟩ := h
  refine vd_X6_dropRequests _ _ _ ?_
  simp only [k1, k4, q1, q4, isS_some, true_and]
  rw [wr_i (x := ql (que S) - 1) (by omega)]
  refine key (ql (que S) + 1).toNat (ql (que S) - 1) _ _ σ (by omega) (by omega) (by omega) Sq.rf ?_
  rw [show ql (que S) - 1 + 1 = ql (que S) by omega, dp_end, show tot S 4 + (ql (que S) - ql (que S)) = tot S 4 by omega, wr_id hrg.1 hrg.2]
  have e : up (tot S) 4 (tot S 4) = tot S := by
    funext x
    by_cases e : x = 4
    · rw [e, up_eq]
    · rw [up_ne e]
  rw [e]
  exact h'
