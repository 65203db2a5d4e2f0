def SnP (R R' : Int → Int) (p tw : Int) (fr : Fr) (H' : Iv) : Prop := (∀ j, 0 ≤ j → ¬ (6 ≤ j ∧ j ≤ 10) → ¬ j = 11 + tw → ¬ (qb p + 2 ≤ j ∧ j < qb p + 11) → R' j = R j) ∧ (R' 6 = fr.1 ∧ R' 7 = fr.2.1 ∧ R' 8 = fr.2.2.1 ∧ R' 9 = fr.2.2.2 ∧ R' 10 = 0) ∧ R' (11 + tw) = wr (R (11 + tw) + 1) ∧ LsR R' (qb p + 2) H'
section M
variable {σ : ms_T} {m : Nat} {F : Fl} {S : Sa} {K : Int → Int} {n : Int} {T : Int → Int} {Q : mq_T}
theorem X9_frSh {p u k f a b tw : Int} {H : Iv} (hm : isM σ m) (h : LsR (ro σ m) (qb p + 2) H) (hk : ok H) (h1 : 1 ≤ ln H) (h4 : ln H ≤ 4) (p0 : 0 ≤ p) (p6 : p < 6) (t0 : 0 ≤ tw) (t1 : tw < 2) (hQ : ∀ τ, Sm σ τ (fun c => c = m + 1) → SnP (ro σ m) (ro τ m) p tw (k, f, a, b) (cutL H u) → Q none τ) : Ca n_X9_frames [vR (some m), vI k, vI f, vI a, vI b] (sI σ (m + 1) (11 + tw).toNat (wr (ro σ m (11 + tw) + 1))) fun v τ2 => v = none ∧ gs τ2 m = (9, 0) ∧ Ca n_X9_shortens [vR (some m), vI (qb p), vI (u + 1)] τ2 fun v3 τ4 => v3 = none ∧ Q none τ4 := by
  have hb : qb p = 136 + 11 * p := rfl
  have hs0 : Sm σ (sI σ (m + 1) (11 + tw).toNat (wr (ro σ m (11 + tw) + 1))) (fun c => c = m + 1) := Sm.one
  refine X9_frames (hm.sm hs0) fun τ hs he hf => ⟨rfl, ((hm.sm hs0).sm hs).1, ?_⟩
  have e1 : ∀ j, 0 ≤ j → ¬ (6 ≤ j ∧ j ≤ 10) → ¬ j = 11 + tw → ro τ m j = ro σ m j := fun j j0 j1 j2 => by rw [he j j0 j1, ro_nk j0 (by omega) j2]
  refine X9_shortens ((hm.sm hs0).sm hs) (h.eqv fun j j0 j1 => e1 j (by omega) (by omega) (by omega)) hk h1 h4 p0 p6 fun υ hs2 he2 hL => ⟨rfl, hQ υ ((hs0.tr hs).tr hs2) ⟨fun j j0 j1 j2 j3 => by rw [he2 j j0 j3, e1 j j0 j1 j2], ?_, ?_, hL⟩⟩
  · rw [he2 6 (by decide) (by omega), he2 7 (by decide) (by omega), he2 8 (by decide) (by omega), he2 9 (by decide) (by omega), he2 10 (by decide) (by omega)]
    exact hf
  · rw [he2 _ (by omega) (by omega), he _ (by omega) (by omega), ro_eq]
theorem X9_sendsBytes {p f : Int} {H : Iv} (hm : isM σ m) (h : LsR (ro σ m) (qb p + 2) H) (hk : ok H) (h1 : 1 ≤ ln H) (h4 : ln H ≤ 4) (p0 : 0 ≤ p) (p6 : p < 6) (hf : ro σ m (qb p + 1) = f) (hQ : ∀ τ, Sm σ τ (fun c => c = m + 1) → SnP (ro σ m) (ro τ m) p 0 (bytF f H) (cutL H (bytF f H).2.2.2) → Q none τ) : Ca n_X9_sendsBytes [vR (some m), vI (qb p)] σ Q := by
  obtain ⟨s0, g0, g1, g2, g4, g5, g11, z1, z2, z3, z4, z5, z6⟩ := id hm
  have hb : qb p = 136 + 11 * p := rfl
  have e3 : gi σ (m + 1) (qb p + 3).toNat = lb H 0 := by
    have := (h.2 0 (by omega) (by omega)).1
    rw [show qb p + 2 + 1 + 2 * 0 = qb p + 3 by omega] at this
    exact this
  have e4 : gi σ (m + 1) (qb p + 4).toNat = le_ H 0 := by
    have := (h.2 0 (by omega) (by omega)).2
    rw [show qb p + 2 + 2 + 2 * 0 = qb p + 4 by omega] at this
    exact this
  have hk0 := hk.2 0 (by omega) (by omega)
  have go : ∀ b, b = min (le_ H 0) (lb H 0 + 15) → At n_X9_sendsBytes 39 [some (vR (some m)), some (vI (qb p)), some (vI (lb H 0)), none] [vI b] σ Q := fun b hbb => by
    refine vd_X9_sendsBytes_39 _ _ _ _ _ _ ?_
    have e11 : gi σ (m + 1) (11 : Int).toNat = ro σ m (11 + 0) := rfl
    have ef : gi (sI σ (m + 1) (11 : Int).toNat (wr (ro σ m (11 + 0) + 1))) (m + 1) (qb p + 1).toNat = f := by
      rw [gi_nk (by omega)]; exact hf
    simp only [gs_sI, gr_sI, s0, g0, z1, e11, isS_some, true_and]
    rw [wr_i (x := qb p + 1) (by omega), wr_i (x := b + 1) (by omega), ef]
    refine ⟨by decide, by decide, by decide, by decide, by omega, by omega, X9_frSh (tw := 0) hm h hk h1 h4 p0 p6 (by decide) (by decide) fun τ hs hp => hQ τ hs ?_⟩
    unfold bytF
    rw [← hbb]
    exact hp
  refine vd_X9_sendsBytes _ _ _ _ ?_
  rw [wr_i (x := qb p + 3) (by omega), wr_i (x := qb p + 4) (by omega)]
  simp only [s0, g0, z1, e3, e4, isS_some, true_and]
  rw [wr_i (x := lb H 0 + 15) (by omega)]
  exact ⟨by omega, by omega, by omega, by omega, fun c => go _ (by omega), fun c => ⟨by omega, by omega, go _ (by omega)⟩⟩
theorem X9_sendsEntry {p : Int} {H : Iv} (hm : isM σ m) (h : LsR (ro σ m) (qb p + 2) H) (hk : ok H) (h1 : 1 ≤ ln H) (h4 : ln H ≤ 4) (p0 : 0 ≤ p) (p6 : p < 6) (hr : FiR (ro σ m) F) (ht : ro σ m 0 = now S) (hF : FW F) (hQ : ∀ τ, Sm σ τ (fun c => c = m + 1) → SnP (ro σ m) (ro τ m) p 1 (entF F (now S) H) (cutL H (entF F (now S) H).2.2.2) → Q none τ) : Ca n_X9_sendsEntry [vR (some m), vI (qb p)] σ Q := by
  obtain ⟨s0, g0, g1, g2, g4, g5, g11, z1, z2, z3, z4, z5, z6⟩ := id hm
  have hb : qb p = 136 + 11 * p := rfl
  have e3 : gi σ (m + 1) (qb p + 3).toNat = lb H 0 := by
    have := (h.2 0 (by omega) (by omega)).1
    rw [show qb p + 2 + 1 + 2 * 0 = qb p + 3 by omega] at this
    exact this
  have e4 : gi σ (m + 1) (qb p + 4).toNat = le_ H 0 := by
    have := (h.2 0 (by omega) (by omega)).2
    rw [show qb p + 2 + 2 + 2 * 0 = qb p + 4 by omega] at this
    exact this
  have hk0 := hk.2 0 (by omega) (by omega)
  have f0 := hF.1
  have f30 := hF.2.1
  have bd := frI_bd (p := fun f => decide (lb H 0 ≤ F.2 f 1) && exB F (now S) f) F.1.toNat
  have bd2 : fsF F (lb H 0) (now S) < ((F.1.toNat : Nat) : Int) := bd.2.1
  refine vc_X9_sendsEntry _ _ _ _ ?_
  rw [wr_i (x := qb p + 3) (by omega), wr_i (x := qb p + 4) (by omega)]
  simp only [s0, g0, z1, e3, e4, isS_some, true_and]
  refine ⟨by omega, by omega, by omega, by omega, X9_storedFrom1 hm hr ht hF ⟨_, rfl, ?_⟩⟩
  have e12 : gi σ (m + 1) (12 : Int).toNat = ro σ m (11 + 1) := rfl
  simp only [gs_sI, gr_sI, s0, g0, z1, e12, isS_some, true_and]
  have hs0 : Sm σ (sI σ (m + 1) (12 : Int).toNat (wr (ro σ m (11 + 1) + 1))) (fun c => c = m + 1) := Sm.one
  have ek : ∀ j, 0 ≤ j → ¬ j = 12 → ro (sI σ (m + 1) (12 : Int).toNat (wr (ro σ m (11 + 1) + 1))) m j = ro σ m j := fun j j0 j1 => ro_nk j0 (by decide) j1
  have hr1 := hr.eqv (R' := ro (sI σ (m + 1) (12 : Int).toNat (wr (ro σ m (11 + 1) + 1))) m) f30 (fun j z => ek j (by omega) (by omega))
  have ht1 := (ek 0 (by decide) (by decide)).trans ht
  have hm1 := hm.sm hs0
  have none_ : ¬ (0 ≤ fsF F (lb H 0) (now S) ∧ F.2 (fsF F (lb H 0) (now S)) 1 ≤ le_ H 0) → Ca n_X9_frames [vR (some m), vI (2 : Int), vI (-1 : Int), vI (bhF F (lb H 0) (now S)), vI (le_ H 0)] (sI σ (m + 1) (12 : Int).toNat (wr (ro σ m (11 + 1) + 1))) fun v τ2 => v = none ∧ gs τ2 m = (9, 0) ∧ Ca n_X9_shortens [vR (some m), vI (qb p), vI (le_ H 0 + 1)] τ2 fun v3 τ4 => v3 = none ∧ Q none τ4 := fun z =>
    X9_frSh (tw := 1) hm h hk h1 h4 p0 p6 (by decide) (by decide) fun τ hs hp => hQ τ hs (by unfold entF; rw [if_neg z]; exact hp)
  refine ⟨by decide, by decide, by decide, by decide, fun c => X9_behind hm1 hr1 ht1 hF ⟨_, rfl, hm1.1, ?_⟩, fun c => ?_⟩
  · rw [wr_i (x := le_ H 0 + 1) (by omega)]
    exact none_ fun z => by omega
  · refine X9_file hm1 (by omega) (by omega) (by decide) (by decide) ⟨_, rfl, ?_⟩
    rw [hr1.2 _ (by omega) (by omega) 1 (by decide) (by decide)]
    have hb2 := hF.2.2 (fsF F (lb H 0) (now S)) (by omega) (by omega)
    refine ⟨fun d => ⟨hm1.1, X9_behind hm1 hr1 ht1 hF ⟨_, rfl, hm1.1, ?_⟩⟩, fun d => ⟨hm1.1, X9_file hm1 (by omega) (by omega) (by decide) (by decide) ⟨_, rfl, ?_⟩⟩⟩
    · rw [wr_i (x := le_ H 0 + 1) (by omega)]
      exact none_ fun z => by omega
    · rw [hr1.2 _ (by omega) (by omega) 1 (by decide) (by decide)]
      refine ⟨hm1.1, X9_behind hm1 hr1 ht1 hF ⟨_, rfl, hm1.1, ?_⟩⟩
      rw [wr_i (x := F.2 (fsF F (lb H 0) (now S)) 1 + 1) (by omega)]
      exact X9_frSh (tw := 1) hm h hk h1 h4 p0 p6 (by decide) (by decide) fun τ hs hp => hQ τ hs (by unfold entF; rw [if_pos ⟨by omega, by omega⟩]; exact hp)
/-- between sending and settling -/
def SaV (F : Fl) (S : Sa) : Prop := (0 ≤ nst S ∧ nst S ≤ 5) ∧ (∀ i, 0 ≤ i → i < nst S → SW F (sts S i)) ∧ ql (que S) ≤ 6 ∧ ∀ k, 0 ≤ k → k < ql (que S) → ln (rho (qg (que S) k)) ≤ 4
def MwR (R : Int → Int) (F : Fl) (S : Sa) (K : Int → Int) : Prop := FiR R F ∧ SaR R S ∧ LaR R K
def MwC (σ : ms_T) (m : Nat) (F : Fl) (S : Sa) (K : Int → Int) (n : Int) (T : Int → Int) : Prop := isM σ m ∧ MwR (ro σ m) F S K ∧ gi σ m 6 = n ∧ ∀ i : Int, 0 ≤ i → i < n → gi σ (m + 5) i.toNat = T i
theorem MwC.row {τ : ms_T} {F' : Fl} {S' : Sa} {K' : Int → Int} {P : Nat → Prop} (hm : isM σ m) (h6 : gi σ m 6 = n) (hT : ∀ i : Int, 0 ≤ i → i < n → gi σ (m + 5) i.toNat = T i) (hs : Sm σ τ P) (hP : ∀ c, P c → inRow m c) (hR : MwR (ro τ m) F' S' K') : MwC τ m F' S' K' n T := by
  have hn : ∀ c, ¬ inRow m c → ∀ k, gi τ c k = gi σ c k := fun c hc k => hs.i fun z => hc (hP c z)
  refine ⟨hm.sm hs, hR, ?_, fun i a b => ?_⟩
  · rw [hn m (by unfold inRow; omega)]; exact h6
  · rw [hn (m + 5) (by unfold inRow; omega)]; exact hT i a b
theorem SaR.qw {R R' : Int → Int} {L : List Rq} {t : Int → Int} (h : SaR R S) (hV : SaV F S) (hq : QuR R' L) (ht : ∀ w, 0 ≤ w → w < 5 → R' (11 + w) = t w) (he : ∀ j, (j = 0 ∨ j = 1 ∨ 202 ≤ j ∧ j < 767) → R' j = R j) : SaR R' (now S, nst S, sts S, L, t) := by
  have hn := hV.1
  refine ⟨⟨(he 0 (by omega)).trans h.1.1, (he 1 (by omega)).trans h.1.2⟩, hq, fun i a b => ?_, fun i a b => ?_, ht⟩
  · have b : i < nst S := b
    exact (h.2.2.1 i a b).loc (hV.2.1 i a b) fun j j0 j1 => he j (by unfold sb at *; omega)
  · have a : nst S ≤ i := a
    exact (h.2.2.2.1 i a b).eqv fun j j0 j1 => he j (by unfold sb at *; omega)
def sdS (F : Fl) (S : Sa) : Sa := if ptQ (que S) < 0 then (now S, nst S, sts S, que S, up (tot S) 2 (wr (tot S 2 + 1))) else sndS F S (ptQ (que S))
def sdF (F : Fl) (S : Sa) : Fr := if ptQ (que S) < 0 then (0, -1, 0, 0) else sndF F (now S) (qg (que S) (ptQ (que S)))
set_option maxHeartbeats 8000000 in
theorem M_sends (h : MoC σ m F S K n T) (hF : FW F) (hw : SaW F S) (hn2 : now S ≤ 2000000) (hQ : ∀ τ, Sm σ τ (fun c => c = m + 1) → MwC τ m F (sdS F S) (frK (sdF F S) 0) n T → ro τ m 4 = ptQ (que S) → Q none τ) : Ca n_X9_sends [vR (some m)] σ Q := by
  obtain ⟨s0, g0, g1, g2, g4, g5, g11, z1, z2, z3, z4, z5, z6⟩ := h.1
  have hq := h.2.1.2.1.2.1
  obtain ⟨q1, q2, q3, q4, q5⟩ := hq
  have hpos := h.2.1.2.2.1
  have hn := hw.1
  have q6 := hw.2.2.2.1
  have hnn := ql_nn (que S)
  have hV : SaV F S := ⟨hw.1, hw.2.2.1, q6, MoC.q4 hw⟩
  have e3 : gi σ (m + 1) (3 : Int).toNat = ql (que S) := q1
  have e4 : gi σ (m + 1) (4 : Int).toNat = ro σ m 4 := rfl
  have e5 : gi σ (m + 1) (5 : Int).toNat = ro σ m 5 := rfl
  have hqb : ∀ k, qb k = 136 + 11 * k := fun k => rfl
  -- the sending itself
  have tail : ∀ (p : Int) (τ : ms_T), p = ptQ (que S) → 0 ≤ p → p < ql (que S) → Sm σ τ (fun c => c = m + 1) → (∀ j, 0 ≤ j → ¬ j = 4 → ¬ j = 5 → ro τ m j = ro σ m j) → ro τ m 4 = p → ro τ m 5 = lf0 S (qg (que S) p) - 1 → (∀ k, 0 ≤ k → k < ql (que S) → ¬ k = p → rle (qg (que S) k) = 0) → Ca n_X9_requestAt [vI p] τ fun v6 τ7 => ∃ x8, v6 = some (vI x8) ∧ gs τ7 m = (9, 0) ∧ isS (gr τ7 m 0) fun c9 => (gs τ7 c9).1 = 50 ∧ 0 ≤ (wr (x8 + (1 : Int))) ∧ (wr (x8 + (1 : Int))) < ((gs τ7 c9).2 : Int) ∧ (0 ≤ (gi τ7 c9 (wr (x8 + (1 : Int))).toNat) → gs τ7 m = (9, 0) ∧ Ca n_X9_sendsBytes [vR (some m), vI x8] τ7 fun v10 τ11 => v10 = none ∧ Q none τ11) ∧ (¬ (0 ≤ (gi τ7 c9 (wr (x8 + (1 : Int))).toNat)) → gs τ7 m = (9, 0) ∧ Ca n_X9_sendsEntry [vR (some m), vI x8] τ7 fun v12 τ13 => v12 = none ∧ Q none τ13) := by
    intro p τ ep p0 p1 hs he f4 f5 hoth
    obtain ⟨s0, g0, g1, g2, g4, g5, g11, z1, z2, z3, z4, z5, z6⟩ := h.1.sm hs
    obtain ⟨r1, r2, r3⟩ := q2 p p0 p1
    obtain ⟨w1, w2, w3, w4, w5, w6⟩ := hw.2.2.2.2.1 p p0 p1
    have hq1 := hqb p
    have r2' : gi τ (m + 1) (qb p + 1).toNat = rfl_ (qg (que S) p) := (he (qb p + 1) (by omega) (by omega) (by omega)).trans r2
    have r3' := r3.eqv (R' := ro τ m) (fun j j0 j1 => he j (by omega) (by omega) (by omega))
    have esd : sdS F S = sndS F S p := by unfold sdS; rw [← ep, if_neg (by omega)]
    have esf : sdF F S = sndF F (now S) (qg (que S) p) := by unfold sdF; rw [← ep, if_neg (by omega)]
    have done : ∀ (tw : Int) (υ : ms_T), (tw = if rfl_ (qg (que S) p) = -1 then 1 else 0) → Sm τ υ (fun c => c = m + 1) → SnP (ro τ m) (ro υ m) p tw (sndF F (now S) (qg (que S) p)) (sndH F (now S) (qg (que S) p)) → Q none υ := by
      intro tw υ etw hs2 hp
      have htw : 0 ≤ tw ∧ tw < 2 := by rw [etw]; split <;> omega
      obtain ⟨p1', p2', p3', p4'⟩ := hp
      have ek : ∀ j, 0 ≤ j → ¬ (4 ≤ j ∧ j ≤ 10) → ¬ j = 11 + tw → ¬ (qb p + 2 ≤ j ∧ j < qb p + 11) → ro υ m j = ro σ m j := fun j j0 j1 j2 j3 => (p1' j j0 (by omega) j2 j3).trans (he j j0 (by omega) (by omega))
      have u4 : ro υ m 4 = p := (p1' 4 (by omega) (by omega) (by omega) (by omega)).trans f4
      have u5 : ro υ m 5 = lf0 S (qg (que S) p) - 1 := (p1' 5 (by omega) (by omega) (by omega) (by omega)).trans f5
      have hQR : QuR (ro υ m) (stQ (que S) p (sndR F S (qg (que S) p))) := by
        refine ⟨by rw [ql_st, ek 3 (by omega) (by omega) (by omega) (by omega)]; exact q1, fun k k0 k1 => ?_, by omega, by rw [ql_st]; omega, fun k k0 k1 => ?_⟩
        · rw [ql_st] at k1
          rw [qg_st p0 p1 k0]
          by_cases e : k = p
          · rw [if_pos e, e]
            exact ⟨(ek _ (by omega) (by omega) (by omega) (by omega)).trans r1, (ek _ (by omega) (by omega) (by omega) (by omega)).trans r2, p4'⟩
          · rw [if_neg e]
            exact (q2 k k0 k1).eqv (MoC.q4 hw k k0 k1) fun j j0 j1 => ek j (by rw [hqb] at j0; omega) (by rw [hqb] at j0; omega) (by rw [hqb] at j0; omega) (by rw [hqb] at j0 j1; omega)
        · rw [ql_st] at k1
          rw [qg_st p0 p1 k0, u4, u5]
          by_cases e : k = p
          · rw [if_pos e, if_pos e.symm]; rfl
          · rw [if_neg e, if_neg (fun z => e z.symm)]; exact hoth k k0 k1 e
      have hK : LaR (ro υ m) (frK (sdF F S) 0) := by
        rw [esf]
        intro w w0 w5
        rcases (show w = 0 ∨ w = 1 ∨ w = 2 ∨ w = 3 ∨ w = 4 by omega) with z | z | z | z | z <;> rw [z]
        · exact p2'.1
        · exact p2'.2.1
        · exact p2'.2.2.1
        · exact p2'.2.2.2.1
        · exact p2'.2.2.2.2
      have hSa : SaR (ro υ m) (sdS F S) := by
        rw [esd]
        refine h.2.1.2.1.qw hV hQR (fun w w0 w5 => ?_) (fun j z => ek j (by omega) (by omega) (by omega) (by omega))
        have hto : ∀ w, 0 ≤ w → w < 5 → ro σ m (11 + w) = tot S w := h.2.1.2.1.2.2.2.2
        by_cases e : rfl_ (qg (que S) p) = -1
        · rw [if_pos e] at etw
          rw [if_pos e]
          by_cases e2 : w = 1
          · rw [e2, up_eq, ← hto 1 (by decide) (by decide)]
            rw [etw] at p3'
            rw [p3', he (11 + 1) (by decide) (by decide) (by decide)]
          · rw [up_ne e2, ek _ (by omega) (by omega) (by omega) (by omega)]; exact hto w w0 w5
        · rw [if_neg e] at etw
          rw [if_neg e]
          by_cases e2 : w = 0
          · rw [e2, up_eq, ← hto 0 (by decide) (by decide)]
            rw [etw] at p3'
            rw [p3', he (11 + 0) (by decide) (by decide) (by decide)]
          · rw [up_ne e2, ek _ (by omega) (by omega) (by omega) (by omega)]; exact hto w w0 w5
      have hFi := h.2.1.1.eqv (R' := ro υ m) hF.2.1 (fun j z => ek j (by omega) (by omega) (by omega) (by omega))
      exact hQ υ (hs.tr hs2) (MwC.row h.1 h.2.2.1 h.2.2.2 (hs.tr hs2) (fun c hc => Or.inl hc) ⟨hFi, hSa, hK⟩) (by rw [u4, ep])
    refine X9_requestAt p0 (by omega) ⟨_, rfl, ?_⟩
    rw [wr_i (x := qb p + 1) (by omega)]
    simp only [s0, g0, z1, r2', isS_some, true_and]
    refine ⟨by omega, by omega, fun c => ?_, fun c => ?_⟩
    · refine X9_sendsBytes (h.1.sm hs) r3' w3 w4.1 w4.2 p0 (by omega) r2' fun υ hs2 hp => ⟨rfl, done 0 υ (by rw [if_neg (by omega)]) hs2 ?_⟩
      unfold sndH sndF
      rw [if_neg (by omega)]
      exact hp
    · refine X9_sendsEntry (h.1.sm hs) r3' w3 w4.1 w4.2 p0 (by omega) (h.2.1.1.eqv hF.2.1 (fun j z => he j (by omega) (by omega) (by omega))) ((he 0 (by decide) (by decide) (by decide)).trans h.2.1.2.1.1.1) hF fun υ hs2 hp => ⟨rfl, done 1 υ (by rw [if_pos (by omega)]) hs2 ?_⟩
      unfold sndH sndF
      rw [if_pos (by omega)]
      exact hp
  have hR3 : ∀ k, 0 ≤ k → k < ql (que S) → 0 ≤ rle (qg (que S) k) ∧ rle (qg (que S) k) ≤ 3 := fun k a b => (hw.2.2.2.2.1 k a b).2.2.2.2.2
  refine vc_X9_sends _ _ _ ?_
  simp only [s0, g0, z1, e3, isS_some, true_and]
  refine ⟨by decide, by decide, fun c => ?_, fun c => ?_⟩
  · simp only [gs_sI, gr_sI, s0, g0, z1, e4, e5, isS_some, true_and]
    refine ⟨by decide, by decide, fun d => ⟨by decide, by decide, by decide, by decide, by decide, by decide, ?_⟩, fun d => ?_⟩
    · have q5p := q5 _ d q4
      rw [if_pos rfl] at q5p
      have hp := hpos d
      have hr3 := hR3 _ d q4
      have tr : trQ (que S) = ro σ m 4 := by
        unfold trQ
        refine lsI_of d (by simp; omega) (by omega) (fun j j0 j1 => ?_)
        have := q5 j (by omega) (by omega)
        rw [if_neg (by omega)] at this
        simp; omega
      have ep : ro σ m 4 = ptQ (que S) := by unfold ptQ; rw [tr, if_pos d]
      have e44 : gi (sI σ (m + 1) (5 : Int).toNat (wr (ro σ m 5 - 1))) (m + 1) (4 : Int).toNat = ro σ m 4 := gi_nk (by decide)
      rw [e44]
      refine tail (ro σ m 4) _ ep d q4 Sm.one (fun j j0 j4 j5 => ro_nk j0 (by decide) j5) (ro_nk (by decide) (by decide) (by decide)) ?_ (fun k k0 k1 k2 => by
        have := q5 k k0 k1
        rw [if_neg (by omega)] at this
        exact this)
      rw [ro_eq, wr_i (by omega)]
      unfold lf0
      rw [if_neg (by omega)]
      omega
    · have all0 : ∀ k, 0 ≤ k → k < ql (que S) → rle (qg (que S) k) = 0 := fun k k0 k1 => by
        have := q5 k k0 k1
        rw [if_neg (by omega)] at this
        exact this
      have tr : trQ (que S) = -1 := by
        unfold trQ
        exact lsI_no (fun j j0 j1 => by have := all0 j j0 (by omega); simp; omega)
      refine X9_givesTurn h.1 ⟨q1, q2, q3, q4, q5⟩ q6 (by omega) (fun k k0 k1 => by
        obtain ⟨w1, w2, -⟩ := hw.2.2.2.2.1 k k0 k1
        exact ⟨w2.1, w1.1, by have := w1.2; omega⟩) fun τ v hs hv f4 f5 he => ⟨rfl, ?_⟩
      have bdi := frI_bd (p := fun i => decide (rfl_ (qg (que S) i) = -1)) (ql (que S)).toNat
      have bdi2 : diQ (que S) < ((ql (que S)).toNat : Int) := bdi.2.1
      have hv0 : 0 ≤ v ∧ v < ql (que S) := by
        rw [hv]
        split <;> omega
      have ep : v = ptQ (que S) := by
        unfold ptQ
        rw [tr, if_neg (by decide), hv]
        by_cases y : 0 ≤ diQ (que S)
        · rw [if_pos y, if_pos y]
        · rw [if_neg y, if_neg y, if_pos (by omega)]
      obtain ⟨w1, -⟩ := hw.2.2.2.2.1 v hv0.1 hv0.2
      have hst := (h.2.1.2.1.2.2.1 (rst (qg (que S) v)) w1.1 w1.2).1 3 (by decide) (by decide)
      have hsw := (hw.2.2.1 (rst (qg (que S) v)) w1.1 w1.2).1.2.2.2.1
      rw [hst, wr_i (by omega)] at f5
      obtain ⟨s0, g0, g1, g2, g4, g5, g11, z1, z2, z3, z4, z5, z6⟩ := h.1.sm hs
      have f5' : gi τ (m + 1) (5 : Int).toNat = 1 + sc (sts S (rst (qg (que S) v))) 3 := f5
      have e44 : gi (sI τ (m + 1) (5 : Int).toNat (wr (1 + sc (sts S (rst (qg (que S) v))) 3 - 1))) (m + 1) (4 : Int).toNat = v := (gi_nk (by decide)).trans f4
      simp only [gs_sI, gr_sI, s0, g0, z1, f5', isS_some, true_and]
      rw [e44]
      refine ⟨by decide, by decide, by decide, by decide, by decide, by decide, tail v _ ep hv0.1 hv0.2 (hs.st rfl) (fun j j0 j4 j5 => by rw [ro_nk j0 (by decide) j5, he j j0 j4 j5]) ((ro_nk (by decide) (by decide) (by decide)).trans f4) ?_ (fun k k0 k1 _ => all0 k k0 k1)⟩
      rw [ro_eq, wr_i (by omega)]
      unfold lf0
      rw [if_pos (all0 v hv0.1 hv0.2)]
  · have eq0 : ql (que S) = 0 := by omega
    have ep : ptQ (que S) = -1 := by
      have := pt_bd (que S)
      omega
    refine X9_frames h.1 fun τ hs he hf => ⟨rfl, ?_⟩
    obtain ⟨s0, g0, g1, g2, g4, g5, g11, z1, z2, z3, z4, z5, z6⟩ := h.1.sm hs
    have hto : ∀ w, 0 ≤ w → w < 5 → ro σ m (11 + w) = tot S w := h.2.1.2.1.2.2.2.2
    have e13 : gi τ (m + 1) (13 : Int).toNat = tot S 2 := (he 13 (by decide) (by decide)).trans (hto 2 (by decide) (by decide))
    simp only [s0, g0, z1, e13, isS_some, true_and]
    refine ⟨by decide, by decide, by decide, by decide, ?_⟩
    have ek : ∀ j, 0 ≤ j → ¬ (6 ≤ j ∧ j ≤ 10) → ¬ j = 13 → ro (sI τ (m + 1) (13 : Int).toNat (wr (tot S 2 + 1))) m j = ro σ m j := fun j j0 j1 j2 => by rw [ro_nk j0 (by decide) j2, he j j0 j1]
    have esd : sdS F S = (now S, nst S, sts S, que S, up (tot S) 2 (wr (tot S 2 + 1))) := by unfold sdS; rw [if_pos (by omega)]
    have esf : sdF F S = (0, -1, 0, 0) := by unfold sdF; rw [if_pos (by omega)]
    have hs2 : Sm σ (sI τ (m + 1) (13 : Int).toNat (wr (tot S 2 + 1))) (fun c => c = m + 1) := hs.st rfl
    refine hQ _ hs2 (MwC.row h.1 h.2.2.1 h.2.2.2 hs2 (fun c hc => Or.inl hc) ⟨h.2.1.1.eqv hF.2.1 (fun j z => ek j (by omega) (by omega) (by omega)), ?_, ?_⟩) ?_
    · rw [esd]
      refine h.2.1.2.1.qw hV (QuR.eqv ⟨q1, q2, q3, q4, q5⟩ q6 (MoC.q4 hw) (fun j z => ek j (by omega) (by omega) (by omega))) (fun w w0 w5 => ?_) (fun j z => ek j (by omega) (by omega) (by omega))
      by_cases e2 : w = 2
      · rw [e2, up_eq]; exact ro_eq
      · rw [up_ne e2, ek _ (by omega) (by omega) (by omega)]; exact hto w w0 w5
    · rw [esf]
      intro w w0 w5
      rw [ro_nk (by omega) (by decide) (by omega)]
      rcases (show w = 0 ∨ w = 1 ∨ w = 2 ∨ w = 3 ∨ w = 4 by omega) with z | z | z | z | z <;> rw [z]
      · exact hf.1
      · exact hf.2.1
      · exact hf.2.2.1
      · exact hf.2.2.2.1
      · exact hf.2.2.2.2
    · rw [ek 4 (by decide) (by decide) (by decide), ep]
      omega
end M
