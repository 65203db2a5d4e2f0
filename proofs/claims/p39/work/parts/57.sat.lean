/-! The class' satellites: t, its row of stations t + 1, its queue t + 2 .. t + 27, its frame t + 28, its counts t + 29, its stations from t + 30 on -/
def sa (t : Nat) (i : Int) : Nat := t + 30 + 16 * i.toNat
def inSa (t c : Nat) : Prop := t ≤ c ∧ c ≤ t + 109
def SaS (σ : ms_T) (t : Nat) : Prop := (gs σ t = (6, 0) ∧ gr σ t 0 = some 2 ∧ gr σ t 1 = some (t + 1) ∧ gr σ t 3 = some (t + 2) ∧ gr σ t 4 = some (t + 28) ∧ gr σ t 5 = some (t + 29) ∧ gs σ (t + 1) = (67, 5) ∧ gs σ (t + 28) = (1, 0) ∧ gs σ (t + 29) = (50, 5)) ∧ (∀ i : Int, 0 ≤ i → i < 5 → gr σ (t + 1) i.toNat = some (sa t i)) ∧ ∀ i : Int, 0 ≤ i → i < 5 → isSt σ (sa t i) ∧ gi σ (sa t i) 0 = i
def SaC (σ : ms_T) (t : Nat) (S : Sa) : Prop := SaS σ t ∧ gi σ t 6 = now S ∧ gi σ t 2 = nst S ∧ (∀ i : Int, 0 ≤ i → i < nst S → StC σ (sa t i) i (sts S i)) ∧ QuC σ (t + 2) (que S) ∧ ∀ w : Int, 0 ≤ w → w < 5 → gi σ (t + 29) w.toNat = tot S w
theorem SaS.ag {σ τ : ms_T} {t : Nat} (h : SaS σ t) (hs : Ag σ τ (fun c => inSa t c ∧ ¬ inQu (t + 2) c)) : SaS τ t := by
  obtain ⟨⟨h1, h2, h3, h4, h5, h6, h7, h8, h9⟩, h10, h11⟩ := h
  have g0 : inSa t t ∧ ¬ inQu (t + 2) t := by unfold inSa inQu; omega
  have g1 : inSa t (t + 1) ∧ ¬ inQu (t + 2) (t + 1) := by unfold inSa inQu; omega
  have g2 : inSa t (t + 28) ∧ ¬ inQu (t + 2) (t + 28) := by unfold inSa inQu; omega
  have g3 : inSa t (t + 29) ∧ ¬ inQu (t + 2) (t + 29) := by unfold inSa inQu; omega
  refine ⟨⟨by rw [hs.s g0]; exact h1, by rw [hs.r g0]; exact h2, by rw [hs.r g0]; exact h3, by rw [hs.r g0]; exact h4, by rw [hs.r g0]; exact h5, by rw [hs.r g0]; exact h6, by rw [hs.s g1]; exact h7, by rw [hs.s g2]; exact h8, by rw [hs.s g3]; exact h9⟩, fun i a b => by rw [hs.r g1]; exact h10 i a b, fun i a b => ⟨(h11 i a b).1.ag (hs.wk fun c hc => ?_), ?_⟩⟩
  · unfold inSt sa at hc
    unfold inSa inQu
    omega
  · rw [hs.i (c := sa t i) (by unfold inSa inQu sa; omega)]
    exact (h11 i a b).2
theorem SaC.ag {σ τ : ms_T} {t : Nat} {S : Sa} (h : SaC σ t S) (hn : nst S ≤ 5) (hs : Ag σ τ (fun c => inSa t c ∧ ¬ c = t + 28)) (hf : gs τ (t + 28) = (1, 0)) : SaC τ t S := by
  obtain ⟨h1, h2, h3, h4, h5, h6⟩ := h
  have g0 : inSa t t ∧ ¬ t = t + 28 := by unfold inSa; omega
  have g1 : inSa t (t + 1) ∧ ¬ (t + 1) = t + 28 := by unfold inSa; omega
  have g3 : inSa t (t + 29) ∧ ¬ (t + 29) = t + 28 := by unfold inSa; omega
  refine ⟨?_, by rw [hs.i g0]; exact h2, by rw [hs.i g0]; exact h3, fun i a b => (h4 i a b).ag (hs.wk fun c hc => by unfold inSt sa at hc; unfold inSa; omega), h5.ag (hs.wk fun c hc => by unfold inQu at hc; unfold inSa; omega), fun w a b => by rw [hs.i g3]; exact h6 w a b⟩
  obtain ⟨⟨k1, k2, k3, k4, k5, k6, k7, k8, k9⟩, k10, k11⟩ := h1
  refine ⟨⟨by rw [hs.s g0]; exact k1, by rw [hs.r g0]; exact k2, by rw [hs.r g0]; exact k3, by rw [hs.r g0]; exact k4, by rw [hs.r g0]; exact k5, by rw [hs.r g0]; exact k6, by rw [hs.s g1]; exact k7, hf, by rw [hs.s g3]; exact k9⟩, fun i a b => by rw [hs.r g1]; exact k10 i a b, fun i a b => ⟨(k11 i a b).1.ag (hs.wk fun c hc => by unfold inSt sa at hc; unfold inSa; omega), ?_⟩⟩
  rw [hs.i (c := sa t i) (by unfold inSa sa; omega)]
  exact (k11 i a b).2
/-- the queue is another -/
theorem SaC.quU {σ τ : ms_T} {t : Nat} {S : Sa} {Q : List Rq} (h : SaC σ t S) (hn : nst S ≤ 5) (hs : Sq σ τ (inQu (t + 2))) (hq : QuC τ (t + 2) Q) : SaC τ t (now S, nst S, sts S, Q, tot S) := by
  obtain ⟨h1, h2, h3, h4, h5, h6⟩ := h
  have hag : Ag σ τ (fun c => inSa t c ∧ ¬ inQu (t + 2) c) := hs.ag fun c hc => hc.2
  have g0 : inSa t t ∧ ¬ inQu (t + 2) t := by unfold inSa inQu; omega
  have g3 : inSa t (t + 29) ∧ ¬ inQu (t + 2) (t + 29) := by unfold inSa inQu; omega
  refine ⟨h1.ag hag, by rw [hag.i g0]; exact h2, by rw [hag.i g0]; exact h3, fun i a b => (h4 i a b).ag (hag.wk fun c hc => ?_), hq, fun w a b => by rw [hag.i g3]; exact h6 w a b⟩
  have b' : i < nst S := b
  unfold inSt sa at hc
  unfold inSa inQu
  omega
theorem SaC.toU {σ : ms_T} {t : Nat} {S : Sa} {w v : Int} (h : SaC σ t S) (hn : nst S ≤ 5) (hw : 0 ≤ w) : SaC (sI σ (t + 29) w.toNat v) t (now S, nst S, sts S, que S, up (tot S) w v) := by
  have hs : Sm σ (sI σ (t + 29) w.toNat v) (fun c => c = t + 29) := Sm.one
  obtain ⟨h1, h2, h3, h4, h5, h6⟩ := h
  refine ⟨?_, by rw [gi_ne (by omega)]; exact h2, by rw [gi_ne (by omega)]; exact h3, fun i a b => (h4 i a b).sm hs fun c hc => ?_, h5.ag (hs.ag fun c hc => by unfold inQu at hc; omega), fun x a b => ?_⟩
  · obtain ⟨k1, k10, k11⟩ := h1
    exact ⟨k1, k10, fun i a b => ⟨(k11 i a b).1.sm hs, by rw [gi_ne (by unfold sa; omega)]; exact (k11 i a b).2⟩⟩
  · unfold inSt sa at hc; omega
  · show _ = up (tot S) w v x
    by_cases e : x = w
    · rw [e, up_eq, gi_eq]
    · rw [up_ne e, gi_nk (by omega)]; exact h6 x a b
theorem SaC.noU {σ : ms_T} {t : Nat} {S : Sa} {v : Int} (h : SaC σ t S) : SaC (sI σ t 6 v) t (v, nst S, sts S, que S, tot S) := by
  have hs : Sm σ (sI σ t 6 v) (fun c => c = t) := Sm.one
  obtain ⟨h1, h2, h3, h4, h5, h6⟩ := h
  refine ⟨?_, gi_eq, by rw [gi_nk (by omega)]; exact h3, fun i a b => (h4 i a b).sm hs fun c hc => by unfold inSt sa at hc; omega, h5.ag (hs.ag fun c hc => by unfold inQu at hc; omega), fun x a b => by rw [gi_ne (by omega)]; exact h6 x a b⟩
  obtain ⟨k1, k10, k11⟩ := h1
  exact ⟨k1, k10, fun i a b => ⟨(k11 i a b).1.sm hs, by rw [gi_ne (by unfold sa; omega)]; exact (k11 i a b).2⟩⟩
/-- one station is another -/
theorem SaC.stU {σ τ : ms_T} {t : Nat} {S : Sa} {i : Int} {s : St} (h : SaC σ t S) (hn : nst S ≤ 5) (h0 : 0 ≤ i) (hi : i < 5) (hs : Sm σ τ (inSt (sa t i))) (hc : StC τ (sa t i) i s) : SaC τ t (now S, nst S, up (sts S) i s, que S, tot S) := by
  obtain ⟨h1, h2, h3, h4, h5, h6⟩ := h
  refine ⟨?_, by rw [hs.i (by unfold inSt sa; omega)]; exact h2, by rw [hs.i (by unfold inSt sa; omega)]; exact h3, fun j a b => ?_, h5.ag (hs.ag fun c hc => by unfold inQu at hc; unfold inSt sa; omega), fun x a b => by rw [hs.i (by unfold inSt sa; omega)]; exact h6 x a b⟩
  · obtain ⟨⟨k1, k2, k3, k4, k5, k6, k7, k8, k9⟩, k10, k11⟩ := h1
    refine ⟨⟨by rw [hs.s]; exact k1, by rw [hs.r]; exact k2, by rw [hs.r]; exact k3, by rw [hs.r]; exact k4, by rw [hs.r]; exact k5, by rw [hs.r]; exact k6, by rw [hs.s]; exact k7, by rw [hs.s]; exact k8, by rw [hs.s]; exact k9⟩, fun j a b => by rw [hs.r]; exact k10 j a b, fun j a b => ⟨(k11 j a b).1.sm hs, ?_⟩⟩
    by_cases e : j = i
    · rw [e]; exact hc.2.1.1
    · rw [hs.i (by unfold inSt sa; omega)]; exact (k11 j a b).2
  · show StC τ (sa t j) j (up (sts S) i s j)
    by_cases e : j = i
    · rw [e, up_eq]; exact hc
    · rw [up_ne e]
      have b' : j < nst S := b
      exact (h4 j a b).sm hs fun c hc => by unfold inSt sa at *; omega
/-! Well made -/
def RqW (F : Fl) (S : Sa) (r : Rq) : Prop := (0 ≤ rst r ∧ rst r < nst S) ∧ (-1 ≤ rfl_ r ∧ rfl_ r < F.1) ∧ ok (rho r) ∧ (1 ≤ ln (rho r) ∧ ln (rho r) ≤ 4) ∧ (∀ i, 0 ≤ i → i < ln (rho r) → le_ (rho r) i ≤ 2000000 ∧ (0 ≤ rfl_ r → le_ (rho r) i < F.2 (rfl_ r) 0)) ∧ 0 ≤ rle r ∧ rle r ≤ 3
def SaW (F : Fl) (S : Sa) : Prop := (0 ≤ nst S ∧ nst S ≤ 5) ∧ 0 ≤ now S ∧ (∀ i, 0 ≤ i → i < nst S → SW F (sts S i)) ∧ ql (que S) ≤ 6 ∧ (∀ k, 0 ≤ k → k < ql (que S) → RqW F S (qg (que S) k)) ∧ (∀ k j, 0 ≤ k → k < j → j < ql (que S) → ¬ rst (qg (que S) k) = rst (qg (que S) j)) ∧ (∀ k j, 0 ≤ k → k < j → j < ql (que S) → ¬ (0 < rle (qg (que S) k) ∧ 0 < rle (qg (que S) j))) ∧ ∀ w, 0 ≤ w → w < 5 → rg (tot S w)
def mayP (S : Sa) (i : Int) : Prop := seesP (sts S i) (now S) ∧ plQ (que S) i < 0
theorem X6_mayAsk {t : Nat} {σ : ms_T} {S : Sa} {F : Fl} {i : Int} {Q : mq_T} (h : SaC σ t S) (hw : SaW F S) (hn : now S ≤ 2000000) (h0 : 0 ≤ i) (hi : i < nst S) (h1 : mayP S i → Q (some (vI 1)) σ) (h2 : ¬ mayP S i → Q (some (vI 0)) σ) : Ca n_X6_mayAsk [vR (some t), vI i] σ Q := by
  obtain ⟨⟨⟨k1, k2, k3, k4, k5, k6, k7, k8, k9⟩, k10, k11⟩, e6, e2, hst, hq, ht⟩ := h
  have hw5 := hw.1.2
  have hS := hst i h0 hi
  unfold mayP at h1 h2
  have hq' := hq
  obtain ⟨p, ⟨q1, q2, q3⟩, -⟩ := hq
  refine vc_X6_mayAsk _ _ _ _ ?_
  simp only [k1, k3, k4, k7, k10 i h0 (by omega), hS.1.1, e6, q1, isS_some, true_and]
  refine ⟨by decide, by decide, h0, by omega, X7_sees hS (hw.2.2.1 i h0 hi) hw.2.1 hn (fun c => ⟨1, rfl, fun z => absurd z (by decide), fun _ => ?_⟩) (fun c => ⟨0, rfl, fun _ => ⟨by simp, h2 fun z => c z.1⟩, fun z => absurd rfl z⟩)⟩
  simp only [k1, k4, q1, isS_some, true_and]
  refine X3_placeOf hq' ⟨_, rfl, fun z => ⟨by simp, h2 fun y => ?_⟩, fun z => ⟨by simp, h1 ⟨c, by omega⟩⟩⟩
  have := y.2
  omega
def cmpP (F : Fl) (S : Sa) (i f : Int) : Prop := 0 ≤ opl (sts S i) f ∧ ¬ f = -1 ∧ sizeL (ol (sts S i) (opl (sts S i) f)) = F.2 f 0
theorem X6_isComplete {t : Nat} {σ : ms_T} {S : Sa} {F : Fl} {i f : Int} {Q : mq_T} (h : SaC σ t S) (hw : SaW F S) (hF : FlC σ 2 F) (hFW : FW F) (h0 : 0 ≤ i) (hi : i < nst S) (hf : 0 ≤ f) (hf2 : f < F.1) (h1 : cmpP F S i f → Q (some (vI 1)) σ) (h2 : ¬ cmpP F S i f → Q (some (vI 0)) σ) : Ca n_X6_isComplete [vR (some t), vI i, vI f] σ Q := by
  obtain ⟨⟨⟨k1, k2, k3, k4, k5, k6, k7, k8, k9⟩, k10, k11⟩, e6, e2, hst, hq, ht⟩ := h
  have hw5 := hw.1.2
  have hS := hst i h0 hi
  have hSW := hw.2.2.1 i h0 hi
  have hb := opl_bd (sts S i) f
  unfold cmpP at h1 h2
  obtain ⟨⟨f0, fr0, -, -, -, f1, -⟩, hfn, hfb⟩ := hF
  have := hFW.2.1
  refine vc_X6_isComplete _ _ _ _ _ ?_
  simp only [k1, k2, k3, k4, k7, k10 i h0 (by omega), hS.1.1, isS_some, true_and]
  refine ⟨by decide, by decide, h0, by omega, X7_bytesOf hS (fun c1 c2 => ⟨_, rfl, fun z => (by cases z), fun _ => ?_⟩) (fun c => ⟨_, rfl, fun _ => ⟨by simp, h2 fun z => ?_⟩, fun z => absurd rfl z⟩)⟩
  · have hL := (hS.2.2.2.1 _ c1 hb.2.1).2
    simp only [k1, k2, f0, fr0, f1, hL.1.1, isS_some, true_and]
    refine X2_size hL (hSW.2.2.1 _ c1 hb.2.1).2.2.1 ⟨_, rfl, ?_⟩
    simp only [(hfb f hf hf2).1, k1, k2, f0, fr0, f1, isS_some, true_and]
    exact ⟨hf, by omega, fun z => ⟨by simp, h2 fun y => z y.2.2⟩, fun z => ⟨by simp, h1 ⟨c1, c2, by omega⟩⟩⟩
  · rcases c with c | c
    · have := z.1; omega
    · exact z.2.1 c
def admS (S : Sa) (p o d r : Int) : Sa := (now S, nst S + 1, up (sts S) (nst S) (up (up (up (up (sc (sts S (nst S))) 0 p) 1 o) 2 d) 3 r, cov (sts S (nst S)), of_ (sts S (nst S)), ol (sts S (nst S)), ct (sts S (nst S))), que S, tot S)
set_option maxHeartbeats 4000000 in
theorem X6_admit {t : Nat} {σ : ms_T} {S : Sa} {p o d r : Int} {Q : mq_T} (h : SaC σ t S) (hn : 0 ≤ nst S) (hn5 : nst S ≤ 5) (hf : nst S < 5 → StC σ (sa t (nst S)) (nst S) (sts S (nst S))) (h0 : nst S = 5 → Q (some (vI (-3))) σ) (h1 : nst S < 5 → ∀ τ, Sm σ τ (fun c => c = t ∨ c = sa t (nst S)) → SaC τ t (admS S p o d r) → Q (some (vI (nst S))) τ) : Ca n_X6_admit [vR (some t), vI p, vI o, vI d, vI r] σ Q := by
  have h' := h
  obtain ⟨⟨⟨k1, k2, k3, k4, k5, k6, k7, k8, k9⟩, k10, k11⟩, e6, e2, hst, hq, ht⟩ := h
  refine vc_X6_admit _ _ _ _ _ _ _ ?_
  simp only [gs_sI, gr_sI, k1, k3, k7, e2, isS_some, true_and]
  refine ⟨fun e => ⟨by decide, by decide, hn, e, ?_⟩, fun e => h0 (by omega)⟩
  have hS := hf e
  have hne : ¬ t = sa t (nst S) := by unfold sa; omega
  simp only [gs_sI, gr_sI, k10 _ hn e, hS.1.1, gi_ne hne, gi_ne (Ne.symm hne), e2, isS_some, true_and]
  have s1 := hS.scU (k := 1) (w := 0) (v := p) (by omega) rfl
  have s2 := s1.scU (k := 2) (w := 1) (v := o) (by omega) rfl
  have s3 := s2.scU (k := 3) (w := 2) (v := d) (by omega) rfl
  have s4 := s3.scU (k := 4) (w := 3) (v := r) (by omega) rfl
  rw [wr_i (x := nst S + 1) (by omega), s4.2.1.1]
  have hs4 : Sm σ (sI (sI (sI (sI σ (sa t (nst S)) 1 p) (sa t (nst S)) 2 o) (sa t (nst S)) 3 d) (sa t (nst S)) 4 r) (fun c => c = sa t (nst S)) := by
    refine (((Sm.st ?_ ?_).st ?_).st ?_).st ?_
    · exact Sm.rf
    all_goals rfl
  refine h1 e _ ((hs4.wk fun c hc => Or.inr hc).st (Or.inl rfl)) ?_
  have hu := h'.stU hn5 hn e (hs4.wk fun c hc => by unfold inSt; omega) s4
  obtain ⟨u1, u2, u3, u4, u5, u6⟩ := hu
  generalize (sI (sI (sI (sI σ (sa t (nst S)) 1 p) (sa t (nst S)) 2 o) (sa t (nst S)) 3 d) (sa t (nst S)) 4 r) = υ at *
  have hs : Sm υ (sI υ t 2 (nst S + 1)) (fun c => c = t) := Sm.one
  refine ⟨?_, by rw [gi_nk (by omega)]; exact u2, by rw [gi_eq]; rfl, fun i a b => ?_, u5.ag (hs.ag fun c hc => by unfold inQu at hc; omega), fun x a b => by rw [gi_ne (by omega)]; exact u6 x a b⟩
  · obtain ⟨v1, v10, v11⟩ := u1
    exact ⟨v1, v10, fun i a b => ⟨(v11 i a b).1.sm hs, by rw [gi_ne (by unfold sa; omega)]; exact (v11 i a b).2⟩⟩
  · have b' : i < nst S + 1 := b
    refine StC.sm ?_ hs fun c hc => by unfold inSt sa at hc; omega
    by_cases e3 : i < nst S
    · exact u4 i a e3
    · have e4 : i = nst S := by omega
      rw [e4]
      show StC υ _ _ (up _ (nst S) _ (nst S))
      rw [up_eq]
      exact s4
