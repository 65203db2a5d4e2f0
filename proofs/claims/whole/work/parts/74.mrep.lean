/-! What the reference's row stands for -/
def LsR (R : Int → Int) (p : Int) (L : Iv) : Prop := R p = ln L ∧ ∀ i, 0 ≤ i → i < ln L → R (p + 1 + 2 * i) = lb L i ∧ R (p + 2 + 2 * i) = le_ L i
def sb (i : Int) : Int := 202 + 113 * i
def StR (R : Int → Int) (i : Int) (s : St) : Prop := (∀ w, 0 ≤ w → w < 6 → R (sb i + w) = sc s w) ∧ LsR R (sb i + 6) (cov s) ∧ (∀ k, 0 ≤ k → k < 3 → R (sb i + 31 + 26 * k) = of_ s k ∧ (0 ≤ of_ s k → LsR R (sb i + 31 + 26 * k + 1) (ol s k))) ∧ ∀ w, 0 ≤ w → w < 4 → R (sb i + 109 + w) = ct s w
def StZ (R : Int → Int) (i : Int) : Prop := ∀ w, 0 ≤ w → w < 113 → R (sb i + w) = 0
def qb (k : Int) : Int := 136 + 11 * k
def RqR (R : Int → Int) (k : Int) (r : Rq) : Prop := R (qb k) = rst r ∧ R (qb k + 1) = rfl_ r ∧ LsR R (qb k + 2) (rho r)
def FiR (R : Int → Int) (F : Fl) : Prop := R 2 = F.1 ∧ ∀ f, 0 ≤ f → f < F.1 → ∀ w, 0 ≤ w → w < 4 → R (16 + 4 * f + w) = F.2 f w
/-- whose turn it is -/
def TuR (R : Int → Int) (Q : List Rq) : Prop := -1 ≤ R 4 ∧ R 4 < ql Q ∧ ∀ k, 0 ≤ k → k < ql Q → rle (qg Q k) = if R 4 = k then R 5 else 0
def QuR (R : Int → Int) (Q : List Rq) : Prop := R 3 = ql Q ∧ (∀ k, 0 ≤ k → k < ql Q → RqR R k (qg Q k)) ∧ TuR R Q
def SaR (R : Int → Int) (S : Sa) : Prop := (R 0 = now S ∧ R 1 = nst S) ∧ QuR R (que S) ∧ (∀ i, 0 ≤ i → i < nst S → StR R i (sts S i)) ∧ (∀ i, nst S ≤ i → i < 5 → StZ R i) ∧ ∀ w, 0 ≤ w → w < 5 → R (11 + w) = tot S w
def LaR (R : Int → Int) (K : Int → Int) : Prop := ∀ w, 0 ≤ w → w < 5 → R (6 + w) = K w
def MoR (R : Int → Int) (F : Fl) (S : Sa) (K : Int → Int) : Prop := FiR R F ∧ SaR R S ∧ (0 ≤ R 4 → 0 < R 5) ∧ LaR R K
def MoC (σ : ms_T) (m : Nat) (F : Fl) (S : Sa) (K : Int → Int) (n : Int) (T : Int → Int) : Prop := isM σ m ∧ MoR (ro σ m) F S K ∧ gi σ m 6 = n ∧ ∀ i : Int, 0 ≤ i → i < n → gi σ (m + 5) i.toNat = T i
def inMo (m c : Nat) : Prop := m ≤ c ∧ c ≤ m + 6 ∧ ¬ c = m + 2
/-- as StW, somewhat later -/
def StX (F : Fl) (S : Sa) (K : Int → Int) (n : Int) (T : Int → Int) : Prop := FW F ∧ SaW F S ∧ now S ≤ 1990000 ∧ TxW n T ∧ exN F (now S) ≤ 8 ∧ (∀ i : Int, nst S ≤ i → i < 5 → sts S i = frs) ∧ -1 ≤ K 0
theorem StW.x {F : Fl} {S : Sa} {K : Int → Int} {n : Int} {T : Int → Int} (h : StW F S K n T) : StX F S K n T := ⟨h.1, h.2.1, by have := h.2.2.1; omega, h.2.2.2⟩
theorem LsR.eqv {R R' : Int → Int} {p : Int} {L : Iv} (h : LsR R p L) (he : ∀ j, p ≤ j → j < p + 1 + 2 * ln L → R' j = R j) : LsR R' p L := by
  have := ln_nn L
  refine ⟨by rw [he p (by omega) (by omega)]; exact h.1, fun i a b => ?_⟩
  rw [he _ (by omega) (by omega), he _ (by omega) (by omega)]
  exact h.2 i a b
theorem StR.eqv {R R' : Int → Int} {i : Int} {s : St} (h : StR R i s) (h12 : ln (cov s) ≤ 12) (h12' : ∀ k, 0 ≤ k → k < 3 → ln (ol s k) ≤ 12) (he : ∀ j, sb i ≤ j → j < sb i + 113 → R' j = R j) : StR R' i s := by
  refine ⟨fun w a b => by rw [he _ (by omega) (by omega)]; exact h.1 w a b, h.2.1.eqv fun j a b => he j (by omega) (by omega), fun k a b => ⟨by rw [he _ (by omega) (by omega)]; exact (h.2.2.1 k a b).1, fun z => ((h.2.2.1 k a b).2 z).eqv fun j j0 j1 => he j (by omega) (by have := h12' k a b; omega)⟩, fun w a b => by rw [he _ (by omega) (by omega)]; exact h.2.2.2 w a b⟩
theorem StZ.eqv {R R' : Int → Int} {i : Int} (h : StZ R i) (he : ∀ j, sb i ≤ j → j < sb i + 113 → R' j = R j) : StZ R' i :=
  fun w a b => by rw [he _ (by omega) (by omega)]; exact h w a b
theorem RqR.eqv {R R' : Int → Int} {k : Int} {r : Rq} (h : RqR R k r) (h4 : ln (rho r) ≤ 4) (he : ∀ j, qb k ≤ j → j < qb k + 11 → R' j = R j) : RqR R' k r :=
  ⟨by rw [he _ (by omega) (by omega)]; exact h.1, by rw [he _ (by omega) (by omega)]; exact h.2.1, h.2.2.eqv fun j a b => he j (by omega) (by omega)⟩
theorem FiR.eqv {R R' : Int → Int} {F : Fl} (h : FiR R F) (h30 : F.1 ≤ 30) (he : ∀ j, (j = 2 ∨ 16 ≤ j ∧ j < 136) → R' j = R j) : FiR R' F :=
  ⟨by rw [he 2 (Or.inl rfl)]; exact h.1, fun f a b w w0 w4 => by rw [he _ (Or.inr (by omega))]; exact h.2 f a b w w0 w4⟩
theorem TuR.eqv {R R' : Int → Int} {Q : List Rq} (h : TuR R Q) (h4 : R' 4 = R 4) (h5 : R' 5 = R 5) : TuR R' Q := by
  unfold TuR
  rw [h4, h5]
  exact h
theorem QuR.eqv {R R' : Int → Int} {Q : List Rq} (h : QuR R Q) (h6 : ql Q ≤ 6) (h4 : ∀ k, 0 ≤ k → k < ql Q → ln (rho (qg Q k)) ≤ 4) (he : ∀ j, (3 ≤ j ∧ j ≤ 5 ∨ 136 ≤ j ∧ j < 202) → R' j = R j) : QuR R' Q :=
  ⟨by rw [he 3 (by omega)]; exact h.1, fun k a b => (h.2.1 k a b).eqv (h4 k a b) fun j j0 j1 => he j (by unfold qb at *; omega), h.2.2.eqv (he 4 (by omega)) (he 5 (by omega))⟩
theorem StR.loc {R R' : Int → Int} {F : Fl} {i : Int} {s : St} (h : StR R i s) (hw : SW F s) (he : ∀ j, sb i ≤ j → j < sb i + 113 → R' j = R j) : StR R' i s :=
  h.eqv hw.2.1.1 (fun k a b => (hw.2.2.1 k a b).2.2.1.1) he
theorem SaR.eqv {R R' : Int → Int} {F : Fl} {S : Sa} (h : SaR R S) (hw : SaW F S) (he : ∀ j, (j = 0 ∨ j = 1 ∨ 3 ≤ j ∧ j ≤ 5 ∨ 11 ≤ j ∧ j < 16 ∨ 136 ≤ j ∧ j < 767) → R' j = R j) : SaR R' S := by
  have hn := hw.1
  refine ⟨⟨by rw [he 0 (by omega)]; exact h.1.1, by rw [he 1 (by omega)]; exact h.1.2⟩, h.2.1.eqv hw.2.2.2.1 (fun k a b => (hw.2.2.2.2.1 k a b).2.2.2.1.2) (fun j z => he j (by omega)), fun i a b => (h.2.2.1 i a b).loc (hw.2.2.1 i a b) fun j j0 j1 => he j (by unfold sb at *; omega), fun i a b => (h.2.2.2.1 i a b).eqv fun j j0 j1 => he j (by unfold sb at *; omega), fun w a b => by rw [he _ (by omega)]; exact h.2.2.2.2 w a b⟩
theorem MoR.eqv {R R' : Int → Int} {F : Fl} {S : Sa} {K : Int → Int} (h : MoR R F S K) (hF : FW F) (hw : SaW F S) (he : ∀ j, 0 ≤ j → j < 767 → R' j = R j) : MoR R' F S K :=
  ⟨h.1.eqv hF.2.1 (fun j z => he j (by omega) (by omega)), h.2.1.eqv hw (fun j z => he j (by omega) (by omega)), by rw [he 4 (by omega) (by omega), he 5 (by omega) (by omega)]; exact h.2.2.1, fun w a b => by rw [he _ (by omega) (by omega)]; exact h.2.2.2 w a b⟩
theorem ro_st {σ : ms_T} {m : Nat} {j v i : Int} (h : 0 ≤ i) (h2 : 0 ≤ j) : ro (sI σ (m + 1) j.toNat v) m i = if i = j then v else ro σ m i := by
  by_cases e : i = j
  · rw [e, ro_eq, if_pos rfl]
  · rw [ro_nk h h2 e, if_neg e]
section G
variable {σ : ms_T} {m : Nat} {Q : mq_T}
theorem X9_stationAt {i : Int} (h0 : 0 ≤ i) (h5 : i < 100) (hQ : Q (some (vI (sb i))) σ) : Ca n_X9_stationAt [vI i] σ Q := by
  refine vc_X9_stationAt _ _ _ ?_
  rw [wr_i (x := 113 * i) (by omega), wr_i (by omega)]
  exact hQ
theorem X9_station {i w : Int} (hm : isM σ m) (h0 : 0 ≤ i) (h5 : i < 5) (w0 : 0 ≤ w) (w1 : w < 113) (hQ : Q (some (vI (ro σ m (sb i + w)))) σ) : Ca n_X9_station [vR (some m), vI i, vI w] σ Q := by
  obtain ⟨s0, g0, g1, g2, g4, g5, g11, z1, z2, z3, z4, z5, z6⟩ := hm
  refine vc_X9_station _ _ _ _ _ ⟨s0, X9_stationAt h0 (by omega) ⟨sb i, rfl, ?_⟩⟩
  have : wr (sb i + w) = sb i + w := wr_i (by unfold sb; omega)
  simp only [g0, z1, this, isS_some, true_and]
  exact ⟨by unfold sb; omega, by unfold sb; omega, hQ⟩
theorem X9_file {f w : Int} (hm : isM σ m) (h0 : 0 ≤ f) (h5 : f < 30) (w0 : 0 ≤ w) (w1 : w < 4) (hQ : Q (some (vI (ro σ m (16 + 4 * f + w)))) σ) : Ca n_X9_file [vR (some m), vI f, vI w] σ Q := by
  obtain ⟨s0, g0, g1, g2, g4, g5, g11, z1, z2, z3, z4, z5, z6⟩ := hm
  refine vc_X9_file _ _ _ _ _ ?_
  rw [wr_i (x := 4 * f) (by omega), wr_i (x := 16 + 4 * f) (by omega), wr_i (by omega)]
  simp only [s0, g0, z1, isS_some, true_and]
  exact ⟨by omega, by omega, hQ⟩
variable {F : Fl} {S : Sa}
theorem X9_isStation {i : Int} (hm : isM σ m) (h : ro σ m 1 = nst S) (hn : 0 ≤ nst S) (hn5 : nst S ≤ 5) (h1 : stnP S i → Q (some (vI 1)) σ) (h0 : ¬ stnP S i → Q (some (vI 0)) σ) : Ca n_X9_isStation [vR (some m), vI i] σ Q := by
  obtain ⟨s0, g0, g1, g2, g4, g5, g11, z1, z2, z3, z4, z5, z6⟩ := hm
  have h : gi σ (m + 1) (1 : Int).toNat = nst S := h
  refine vc_X9_isStation _ _ _ _ ?_
  simp only [s0, g0, z1, h, isS_some, true_and]
  rw [wr_i (by omega)]
  exact ⟨by decide, by decide, X9_in (fun z => ⟨1, rfl, Or.inr rfl, h1 (by unfold stnP; omega)⟩) (fun z => ⟨0, rfl, Or.inl rfl, h0 (by unfold stnP; omega)⟩)⟩
theorem X9_isFile {f : Int} (hm : isM σ m) (h : ro σ m 2 = F.1) (hF : FW F) (h1 : filQ F f → Q (some (vI 1)) σ) (h0 : ¬ filQ F f → Q (some (vI 0)) σ) : Ca n_X9_isFile [vR (some m), vI f] σ Q := by
  obtain ⟨s0, g0, g1, g2, g4, g5, g11, z1, z2, z3, z4, z5, z6⟩ := hm
  have h : gi σ (m + 1) (2 : Int).toNat = F.1 := h
  have := hF.1
  have := hF.2.1
  refine vc_X9_isFile _ _ _ _ ?_
  simp only [s0, g0, z1, h, isS_some, true_and]
  rw [wr_i (by omega)]
  exact ⟨by decide, by decide, X9_in (fun z => ⟨1, rfl, Or.inr rfl, h1 (by unfold filQ; omega)⟩) (fun z => ⟨0, rfl, Or.inl rfl, h0 (by unfold filQ; omega)⟩)⟩
theorem X9_exists {f : Int} (hm : isM σ m) (hr : FiR (ro σ m) F) (ht : ro σ m 0 = now S) (hF : FW F) (hf : filQ F f) (h1 : exB F (now S) f = true → Q (some (vI 1)) σ) (h0 : ¬ exB F (now S) f = true → Q (some (vI 0)) σ) : Ca n_X9_exists [vR (some m), vI f] σ Q := by
  obtain ⟨s0, g0, g1, g2, g4, g5, g11, z1, z2, z3, z4, z5, z6⟩ := id hm
  have ht : gi σ (m + 1) (0 : Int).toNat = now S := ht
  have f30 := hF.2.1
  have hb := hF.2.2 f hf.1 hf.2
  obtain ⟨q0, q1⟩ := hf
  refine vc_X9_exists _ _ _ _ ?_
  simp only [s0, g0, z1, ht, isS_some, true_and]
  refine ⟨by decide, by decide, X9_file hm q0 (by omega) (by decide) (by decide) ⟨_, rfl, s0, X9_file hm q0 (by omega) (by decide) (by decide) ⟨_, rfl, ?_⟩⟩⟩
  rw [hr.2 f q0 q1 1 (by decide) (by decide), hr.2 f q0 q1 2 (by decide) (by decide), wr_i (by omega)]
  unfold exB at h1 h0
  simp only [decide_eq_true_eq] at h1 h0
  exact ⟨fun z => ⟨Or.inl trivial, h0 (by omega)⟩, fun z => ⟨Or.inr trivial, h1 (by omega)⟩⟩
theorem X9_isInView {i t : Int} {s : St} (hm : isM σ m) (hr : ∀ w, 0 ≤ w → w < 6 → ro σ m (sb i + w) = sc s w) (hw : SW F s) (hi : 0 ≤ i) (hi5 : i < 5) (ht : 0 ≤ t) (ht2 : t ≤ 2000000) (h1 : seesP s t → Q (some (vI 1)) σ) (h0 : ¬ seesP s t → Q (some (vI 0)) σ) : Ca n_X9_isInView [vR (some m), vI i, vI t] σ Q := by
  have hw := hw.1
  have s0 := hm.1
  refine vc_X9_isInView _ _ _ _ _ ⟨s0, X9_station hm hi hi5 (by decide) (by decide) ⟨_, rfl, ?_⟩⟩
  rw [hr 1 (by decide) (by decide), wr_i (by omega)]
  unfold seesP at h0 h1
  refine ⟨fun e => ⟨Or.inl rfl, h0 (by omega)⟩, fun e => ⟨s0, X9_station hm hi hi5 (by decide) (by decide) ⟨_, rfl, ?_⟩⟩⟩
  rw [hr 0 (by decide) (by decide)]
  refine ⟨by omega, s0, X9_station hm hi hi5 (by decide) (by decide) ⟨_, rfl, ?_⟩⟩
  rw [hr 2 (by decide) (by decide)]
  exact ⟨fun c => ⟨Or.inl rfl, h0 (by omega)⟩, fun c => ⟨Or.inr rfl, h1 (by omega)⟩⟩
theorem X9_isHit {i t : Int} {s : St} (hm : isM σ m) (hr : ∀ w, 0 ≤ w → w < 6 → ro σ m (sb i + w) = sc s w) (hi : 0 ≤ i) (hi5 : i < 5) (ht : 0 ≤ t) (ht2 : t ≤ 2000000) (h1 : hitP s i t → Q (some (vI 1)) σ) (h0 : ¬ hitP s i t → Q (some (vI 0)) σ) : Ca n_X9_isHit [vR (some m), vI i, vI t] σ Q := by
  have s0 := hm.1
  refine vc_X9_isHit _ _ _ _ _ ?_
  rw [hit_eq hi (by omega) ht ht2]
  refine ⟨by decide, by decide, by decide, s0, X9_station hm hi hi5 (by decide) (by decide) ⟨_, rfl, ?_⟩⟩
  rw [hr 4 (by decide) (by decide), cmp_ge]
  exact ⟨fun c => ⟨Or.inl rfl, h0 c⟩, fun c => ⟨Or.inr rfl, h1 (by unfold hitP; omega)⟩⟩
end G
