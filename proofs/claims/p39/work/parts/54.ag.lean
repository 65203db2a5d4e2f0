/-- the same in the cells R -/
def Ag (σ τ : ms_T) (R : Nat → Prop) : Prop := ∀ c, R c → gs τ c = gs σ c ∧ (∀ k, gr τ c k = gr σ c k) ∧ ∀ k, gi τ c k = gi σ c k
theorem Ag.s {σ τ : ms_T} {R : Nat → Prop} (h : Ag σ τ R) {c : Nat} (hc : R c) : gs τ c = gs σ c := (h c hc).1
theorem Ag.r {σ τ : ms_T} {R : Nat → Prop} (h : Ag σ τ R) {c : Nat} (hc : R c) (k : Nat) : gr τ c k = gr σ c k := (h c hc).2.1 k
theorem Ag.i {σ τ : ms_T} {R : Nat → Prop} (h : Ag σ τ R) {c : Nat} (hc : R c) (k : Nat) : gi τ c k = gi σ c k := (h c hc).2.2 k
theorem Ag.wk {σ τ : ms_T} {R R' : Nat → Prop} (h : Ag σ τ R) (hR : ∀ c, R' c → R c) : Ag σ τ R' := fun c hc => h c (hR c hc)
theorem Ag.tr {σ τ υ : ms_T} {R : Nat → Prop} (h : Ag σ τ R) (h' : Ag τ υ R) : Ag σ υ R := fun c hc => ⟨(h' c hc).1.trans (h c hc).1, fun k => ((h' c hc).2.1 k).trans ((h c hc).2.1 k), fun k => ((h' c hc).2.2 k).trans ((h c hc).2.2 k)⟩
/-- the same but for the cells P, their references too -/
def Sq (σ τ : ms_T) (P : Nat → Prop) : Prop := gn τ = gn σ ∧ gl τ = gl σ ∧ (∀ c, gs τ c = gs σ c) ∧ ∀ c, ¬ P c → (∀ k, gr τ c k = gr σ c k) ∧ ∀ k, gi τ c k = gi σ c k
theorem Sq.rf {σ : ms_T} {P : Nat → Prop} : Sq σ σ P := ⟨rfl, rfl, fun _ => rfl, fun _ _ => ⟨fun _ => rfl, fun _ => rfl⟩⟩
theorem Sq.tr {σ τ υ : ms_T} {P : Nat → Prop} (h : Sq σ τ P) (h' : Sq τ υ P) : Sq σ υ P := ⟨h'.1.trans h.1, h'.2.1.trans h.2.1, fun c => (h'.2.2.1 c).trans (h.2.2.1 c), fun c hp => ⟨fun k => ((h'.2.2.2 c hp).1 k).trans ((h.2.2.2 c hp).1 k), fun k => ((h'.2.2.2 c hp).2 k).trans ((h.2.2.2 c hp).2 k)⟩⟩
theorem Sq.wk {σ τ : ms_T} {P P' : Nat → Prop} (h : Sq σ τ P) (hP : ∀ c, P c → P' c) : Sq σ τ P' := ⟨h.1, h.2.1, h.2.2.1, fun c hp => h.2.2.2 c (fun z => hp (hP c z))⟩
theorem Sm.q {σ τ : ms_T} {P : Nat → Prop} (h : Sm σ τ P) : Sq σ τ P := ⟨h.1, h.2.1, h.2.2.1, fun c hp => ⟨fun k => h.2.2.2.1 c k, fun k => h.2.2.2.2 c k hp⟩⟩
theorem Sq.ag {σ τ : ms_T} {P R : Nat → Prop} (h : Sq σ τ P) (hd : ∀ c, R c → ¬ P c) : Ag σ τ R := fun c hc => ⟨h.2.2.1 c, (h.2.2.2 c (hd c hc)).1, (h.2.2.2 c (hd c hc)).2⟩
theorem Sm.ag {σ τ : ms_T} {P R : Nat → Prop} (h : Sm σ τ P) (hd : ∀ c, R c → ¬ P c) : Ag σ τ R := h.q.ag hd
theorem Sq.st {σ τ : ms_T} {P : Nat → Prop} (h : Sq σ τ P) {c k : Nat} {v : Int} (hc : P c) : Sq σ (sI τ c k v) P := h.tr ((Sm.rf.st hc).q)
theorem Sq.sr {σ τ : ms_T} {P : Nat → Prop} (h : Sq σ τ P) {c k : Nat} {v : Option Nat} (hc : P c) : Sq σ (sR τ c k v) P := ⟨h.1, h.2.1, h.2.2.1, fun c' hp => ⟨fun k' => by
  rw [gr_sR, if_neg (fun z => hp (by rw [z.1]; exact hc))]
  exact (h.2.2.2 c' hp).1 k', fun k' => (h.2.2.2 c' hp).2 k'⟩⟩
theorem isIv.ag {σ τ : ms_T} {a : Nat} (h : isIv σ a) (hs : Ag σ τ (inIv a)) : isIv τ a := by
  have g0 : inIv a a := ⟨by omega, by omega⟩
  have g1 : inIv a (a + 1) := ⟨by omega, by omega⟩
  have g2 : inIv a (a + 2) := ⟨by omega, by omega⟩
  unfold isIv at *
  rw [hs.s g0, hs.s g1, hs.s g2, hs.r g0, hs.r g0]
  exact h
theorem IvC.ag {σ τ : ms_T} {a : Nat} {L : Iv} (h : IvC σ a L) (hs : Ag σ τ (inIv a)) : IvC τ a L := by
  have g0 : inIv a a := ⟨by omega, by omega⟩
  have g1 : inIv a (a + 1) := ⟨by omega, by omega⟩
  have g2 : inIv a (a + 2) := ⟨by omega, by omega⟩
  refine ⟨h.1.ag hs, by rw [hs.i g0]; exact h.2.1, fun i h0 h1 => by rw [hs.i g1]; exact h.2.2.1 i h0 h1, fun i h0 h1 => by rw [hs.i g2]; exact h.2.2.2 i h0 h1⟩
theorem FlC.ag {σ τ : ms_T} {a : Nat} {F : Fl} (h : FlC σ a F) (hs : Ag σ τ (inF a)) : FlC τ a F := by
  have g0 : inF a a := ⟨by omega, by omega⟩
  have g1 : inF a (a + 1) := ⟨by omega, by omega⟩
  have g2 : inF a (a + 2) := ⟨by omega, by omega⟩
  have g3 : inF a (a + 3) := ⟨by omega, by omega⟩
  have g4 : inF a (a + 4) := ⟨by omega, by omega⟩
  refine ⟨?_, by rw [hs.i g0]; exact h.2.1, fun f h0 h1 => by rw [hs.i g1, hs.i g2, hs.i g3, hs.i g4]; exact h.2.2 f h0 h1⟩
  have h1 := h.1
  unfold isF at *
  rw [hs.s g0, hs.s g1, hs.s g2, hs.s g3, hs.s g4, hs.r g0, hs.r g0, hs.r g0, hs.r g0]
  exact h1
theorem FrC.ag {σ τ : ms_T} {b : Nat} {r : Fr} {rc : Int} (h : FrC σ b r rc) (hs : Ag σ τ (fun c => c = b)) : FrC τ b r rc := by
  unfold FrC at *
  rw [hs.s (c := b) rfl, hs.i (c := b) rfl, hs.i (c := b) rfl, hs.i (c := b) rfl, hs.i (c := b) rfl, hs.i (c := b) rfl, hs.i (c := b) rfl]
  exact h
theorem isSt.ag {σ τ : ms_T} {a : Nat} (h : isSt σ a) (hs : Ag σ τ (inSt a)) : isSt τ a := by
  have g0 : inSt a a := ⟨by omega, by omega⟩
  have g4 : inSt a (a + 4) := ⟨by omega, by omega⟩
  have g5 : inSt a (a + 5) := ⟨by omega, by omega⟩
  have g6 : inSt a (a + 6) := ⟨by omega, by omega⟩
  obtain ⟨h1, h2, h3, h4, h5, h6, h7, h8, h9, h10, h11⟩ := h
  exact ⟨by rw [hs.s g0]; exact h1, by rw [hs.r g0]; exact h2, by rw [hs.r g0]; exact h3, by rw [hs.r g0]; exact h4, by rw [hs.r g0]; exact h5, by rw [hs.s g4]; exact h6, by rw [hs.s g5]; exact h7, by rw [hs.s g6]; exact h8, fun k a1 a2 => by rw [hs.r g5]; exact h9 k a1 a2, h10.ag (hs.wk fun c hc => by unfold inIv at hc; unfold inSt; omega), fun k a1 a2 => (h11 k a1 a2).ag (hs.wk fun c hc => by unfold inIv at hc; unfold inSt; omega)⟩
theorem StC.ag {σ τ : ms_T} {a : Nat} {i : Int} {s : St} (h : StC σ a i s) (hs : Ag σ τ (inSt a)) : StC τ a i s := by
  have g0 : inSt a a := ⟨by omega, by omega⟩
  have g4 : inSt a (a + 4) := ⟨by omega, by omega⟩
  have g6 : inSt a (a + 6) := ⟨by omega, by omega⟩
  obtain ⟨h1, h2, h3, h4, h5⟩ := h
  refine ⟨h1.ag hs, ?_, h3.ag (hs.wk fun c hc => by unfold inIv at hc; unfold inSt; omega), fun k a1 a2 => ⟨by rw [hs.i g4]; exact (h4 k a1 a2).1, (h4 k a1 a2).2.ag (hs.wk fun c hc => by unfold inIv at hc; unfold inSt; omega)⟩, fun w a1 a2 => by rw [hs.i g6]; exact h5 w a1 a2⟩
  unfold StS at *
  simp only [hs.i g0]
  exact h2
/-! The class' requests and its queue -/
def isRq (σ : ms_T) (q : Nat) : Prop := gs σ q = (4, 0) ∧ gr σ q 3 = some (q + 1) ∧ isIv σ (q + 1)
def inRq (q c : Nat) : Prop := q ≤ c ∧ c ≤ q + 3
def RqC (σ : ms_T) (q : Nat) (r : Rq) : Prop := isRq σ q ∧ (gi σ q 0 = rst r ∧ gi σ q 1 = rfl_ r ∧ gi σ q 2 = rle r) ∧ IvC σ (q + 1) (rho r)
theorem isRq.ag {σ τ : ms_T} {q : Nat} (h : isRq σ q) (hs : Ag σ τ (inRq q)) : isRq τ q := by
  have g0 : inRq q q := ⟨by omega, by omega⟩
  exact ⟨by rw [hs.s g0]; exact h.1, by rw [hs.r g0]; exact h.2.1, h.2.2.ag (hs.wk fun c hc => by unfold inIv at hc; unfold inRq; omega)⟩
theorem isRq.sm {σ τ : ms_T} {q : Nat} {P : Nat → Prop} (h : isRq σ q) (hs : Sm σ τ P) : isRq τ q := ⟨by rw [hs.s]; exact h.1, by rw [hs.r]; exact h.2.1, h.2.2.sm hs⟩
theorem RqC.ag {σ τ : ms_T} {q : Nat} {r : Rq} (h : RqC σ q r) (hs : Ag σ τ (inRq q)) : RqC τ q r := by
  have g0 : inRq q q := ⟨by omega, by omega⟩
  refine ⟨h.1.ag hs, ?_, h.2.2.ag (hs.wk fun c hc => by unfold inIv at hc; unfold inRq; omega)⟩
  rw [hs.i g0, hs.i g0, hs.i g0]
  exact h.2.1
theorem X4_isForDirectory {q : Nat} {σ : ms_T} {r : Rq} {Q : mq_T} (h : RqC σ q r) (h1 : rfl_ r = -1 → Q (some (vI 1)) σ) (h0 : ¬ rfl_ r = -1 → Q (some (vI 0)) σ) : Ca n_X4_isForDirectory [vR (some q)] σ Q := by
  refine vc_X4_isForDirectory _ _ _ ?_
  rw [h.2.1.2.1]
  exact ⟨h.1.1, fun c => ⟨by simp, h0 c⟩, fun c => ⟨by simp, h1 (by omega)⟩⟩
theorem X4_begin {q : Nat} {σ : ms_T} {n f : Int} {Q : mq_T} (h : isRq σ q) (hQ : ∀ τ, Sm σ τ (inRq q) → RqC τ q (n, f, [], 0) → Q none τ) : Ca n_X4_begin [vR (some q), vI n, vI f] σ Q := by
  obtain ⟨s0, r3, iv⟩ := h
  refine vc_X4_begin _ _ _ _ _ ?_
  have hs0 : Sm σ (sI (sI (sI σ q 0 n) q 1 f) q 2 0) (fun c => c = q) := by
    refine ((Sm.st ?_ ?_).st ?_).st ?_
    · exact Sm.rf
    all_goals rfl
  simp only [gs_sI, gr_sI, s0, r3, iv.1, isS_some, true_and]
  refine X2_clear (iv.sm hs0) (fun τ hs hL => ⟨rfl, hQ τ ((hs0.wk fun c hc => by unfold inRq; omega).tr (hs.wk fun c hc => by unfold inIv at hc; unfold inRq; omega)) ⟨⟨by rw [hs.s]; exact s0, by rw [hs.r]; exact r3, hL.1⟩, ?_, hL⟩⟩)
  rw [hs.i (by unfold inIv; omega), hs.i (by unfold inIv; omega), hs.i (by unfold inIv; omega)]
  refine ⟨?_, ?_, ?_⟩ <;> simp [gi_sI] <;> rfl
set_option maxHeartbeats 4000000 in
theorem X4_copyFrom {q p : Nat} {σ : ms_T} {r : Rq} {Q : mq_T} (h : isRq σ q) (h' : RqC σ p r) (hd : q + 3 < p ∨ p + 3 < q) (hk : ln (rho r) ≤ 12) (hQ : ∀ τ, Sm σ τ (inRq q) → RqC τ q r → Q none τ) : Ca n_X4_copyFrom [vR (some q), vR (some p)] σ Q := by
  obtain ⟨s0, r3, iv⟩ := h
  obtain ⟨⟨t0, u3, iv2⟩, ⟨e0, e1, e2⟩, hL2⟩ := h'
  refine vc_X4_copyFrom _ _ _ _ ?_
  have hs0 : Sm σ (sI (sI (sI σ q 0 (rst r)) q 1 (rfl_ r)) q 2 (rle r)) (fun c => c = q) := by
    refine ((Sm.st ?_ ?_).st ?_).st ?_
    · exact Sm.rf
    all_goals rfl
  simp only [gs_sI, gr_sI, s0, r3, iv.1, t0, u3, e0, e1, e2, gi_ne (show ¬ p = q by omega), isS_some, true_and]
  refine X2_copyFrom (iv.sm hs0) (hL2.sm hs0 (fun c hc => by unfold inIv at hc; omega)) hk (by omega) (fun τ hs hL => ⟨rfl, hQ τ ((hs0.wk fun c hc => by unfold inRq; omega).tr (hs.wk fun c hc => by unfold inIv at hc; unfold inRq; omega)) ⟨⟨by rw [hs.s]; exact s0, by rw [hs.r]; exact r3, hL.1⟩, ?_, hL⟩⟩)
  rw [hs.i (by unfold inIv; omega), hs.i (by unfold inIv; omega), hs.i (by unfold inIv; omega)]
  refine ⟨?_, ?_, ?_⟩ <;> simp [gi_sI]
