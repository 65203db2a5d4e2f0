theorem isS_some {c : Nat} {F : Nat → Prop} : isS (some c) F = F c := rfl
theorem wr_i {x : Int} (h : -2147483648 ≤ x ∧ x ≤ 2147483647) : wr x = x := wr_id h.1 h.2
theorem gi_ne {σ : ms_T} {c k : Nat} {v : Int} {c' k' : Nat} (h : ¬ c' = c) : gi (sI σ c k v) c' k' = gi σ c' k' := by rw [gi_sI, if_neg (fun z => h z.1)]
theorem gi_nk {σ : ms_T} {c k : Nat} {v : Int} {c' k' : Nat} (h : ¬ k' = k) : gi (sI σ c k v) c' k' = gi σ c' k' := by rw [gi_sI, if_neg (fun z => h z.2)]
theorem gi_eq {σ : ms_T} {c k : Nat} {v : Int} : gi (sI σ c k v) c k = v := by rw [gi_sI, if_pos ⟨rfl, rfl⟩]
theorem gi_eqk {σ : ms_T} {c k : Nat} {v : Int} {c' k' : Nat} (h : c' = c) (h2 : k' = k) : gi (sI σ c k v) c' k' = v := by rw [gi_sI, if_pos ⟨h, h2⟩]
/-- the same but for the numbers in the cells P -/
def Sm (σ τ : ms_T) (P : Nat → Prop) : Prop := gn τ = gn σ ∧ gl τ = gl σ ∧ (∀ c, gs τ c = gs σ c) ∧ (∀ c k, gr τ c k = gr σ c k) ∧ ∀ c k, ¬ P c → gi τ c k = gi σ c k
theorem Sm.rf {σ : ms_T} {P : Nat → Prop} : Sm σ σ P := ⟨rfl, rfl, fun _ => rfl, fun _ _ => rfl, fun _ _ _ => rfl⟩
theorem Sm.tr {σ τ υ : ms_T} {P : Nat → Prop} (h : Sm σ τ P) (h' : Sm τ υ P) : Sm σ υ P := ⟨h'.1.trans h.1, h'.2.1.trans h.2.1, fun c => (h'.2.2.1 c).trans (h.2.2.1 c), fun c k => (h'.2.2.2.1 c k).trans (h.2.2.2.1 c k), fun c k hp => (h'.2.2.2.2 c k hp).trans (h.2.2.2.2 c k hp)⟩
theorem Sm.wk {σ τ : ms_T} {P P' : Nat → Prop} (h : Sm σ τ P) (hP : ∀ c, P c → P' c) : Sm σ τ P' := ⟨h.1, h.2.1, h.2.2.1, h.2.2.2.1, fun c k hp => h.2.2.2.2 c k (fun z => hp (hP c z))⟩
theorem Sm.st {σ τ : ms_T} {P : Nat → Prop} (h : Sm σ τ P) {c k : Nat} {v : Int} (hc : P c) : Sm σ (sI τ c k v) P := ⟨h.1, h.2.1, h.2.2.1, h.2.2.2.1, fun c' k' hp => (gi_ne (c' := c') (c := c) (fun z => hp (by rw [z]; exact hc))).trans (h.2.2.2.2 c' k' hp)⟩
theorem Sm.s {σ τ : ms_T} {P : Nat → Prop} (h : Sm σ τ P) (c : Nat) : gs τ c = gs σ c := h.2.2.1 c
theorem Sm.r {σ τ : ms_T} {P : Nat → Prop} (h : Sm σ τ P) (c k : Nat) : gr τ c k = gr σ c k := h.2.2.2.1 c k
theorem Sm.i {σ τ : ms_T} {P : Nat → Prop} (h : Sm σ τ P) {c k : Nat} (hp : ¬ P c) : gi τ c k = gi σ c k := h.2.2.2.2 c k hp
/-! The class' lists -/
def isIv (σ : ms_T) (a : Nat) : Prop := gs σ a = (2, 0) ∧ gr σ a 0 = some (a + 1) ∧ gr σ a 1 = some (a + 2) ∧ gs σ (a + 1) = (50, 12) ∧ gs σ (a + 2) = (50, 12)
theorem isIv.sm {σ τ : ms_T} {a : Nat} {P : Nat → Prop} (h : isIv σ a) (hs : Sm σ τ P) : isIv τ a := by
  unfold isIv at *
  rw [hs.s, hs.s, hs.s, hs.r, hs.r]
  exact h
def IvC (σ : ms_T) (a : Nat) (L : Iv) : Prop := isIv σ a ∧ gi σ a 2 = ln L ∧ (∀ i : Int, 0 ≤ i → i < ln L → gi σ (a + 1) i.toNat = lb L i) ∧ ∀ i : Int, 0 ≤ i → i < ln L → gi σ (a + 2) i.toNat = le_ L i
def inIv (a c : Nat) : Prop := a ≤ c ∧ c ≤ a + 2
theorem IvC.sm {σ τ : ms_T} {a : Nat} {L : Iv} {P : Nat → Prop} (h : IvC σ a L) (hs : Sm σ τ P) (hP : ∀ c, inIv a c → ¬ P c) : IvC τ a L := by
  refine ⟨h.1.sm hs, ?_, fun i h0 h1 => ?_, fun i h0 h1 => ?_⟩
  · rw [hs.i (hP a ⟨by omega, by omega⟩)]; exact h.2.1
  · rw [hs.i (hP (a + 1) ⟨by omega, by omega⟩)]; exact h.2.2.1 i h0 h1
  · rw [hs.i (hP (a + 2) ⟨by omega, by omega⟩)]; exact h.2.2.2 i h0 h1
set_option maxHeartbeats 4000000 in
theorem X2_clear {a : Nat} {σ : ms_T} {Q : mq_T} (h : isIv σ a) (hQ : ∀ τ, Sm σ τ (inIv a) → IvC τ a [] → Q none τ) : Ca n_X2_clear [vR (some a)] σ Q := by
  refine vc_X2_clear _ _ _ ⟨h.1, hQ _ (Sm.rf.st ⟨by omega, by omega⟩) ⟨h, gi_eq, fun i h0 h1 => ?_, fun i h0 h1 => ?_⟩⟩
  · rw [ln_nil] at h1; omega
  · rw [ln_nil] at h1; omega
set_option maxHeartbeats 4000000 in
theorem X2_size {a : Nat} {σ : ms_T} {L : Iv} {Q : mq_T} (h : IvC σ a L) (hk : ok L) (hQ : Q (some (vI (sizeL L))) σ) : Ca n_X2_size [vR (some a)] σ Q := by
  obtain ⟨⟨s0, r0, r1, s1, s2⟩, hn, hb, he⟩ := h
  have hl := hk.1
  have key : ∀ (k : Nat) (i x : Int), 0 ≤ i → i ≤ ln L → ln L - i < k → x = smI (szF L) i → At n_X2_size 4 [some (vR (some a)), some (vI x), some (vI i)] [] σ Q := by
    intro k
    induction k with
    | zero => intro i x h0 h1 h2; omega
    | succ k ih =>
      intro i x h0 h1 h2 hx
      refine vc_X2_size_4 _ _ _ _ _ ?_
      simp only [s0, s1, s2, r0, r1, hn, isS_some, true_and]
      refine ⟨fun e => ?_, fun e => ⟨by omega, by omega, by omega, by omega, ?_⟩⟩
      · rw [hx, show i = ln L by omega]; exact hQ
      · have g := hk.2 i h0 (by omega)
        have g2 := sz_bd hk i h0 h1
        rw [hb i h0 (by omega), he i h0 (by omega)]
        refine ih _ _ ?_ ?_ ?_ ?_ <;> rw [wr_i (x := i + 1) (by omega)]
        · omega
        · omega
        · omega
        · rw [smI_s h0, ← hx, wr_i (x := le_ L i - lb L i) (by omega), wr_i (x := le_ L i - lb L i + 1) (by omega), wr_i (by omega)]
          unfold szF
          omega
  exact vc_X2_size _ _ _ (key (ln L + 1).toNat 0 0 (by omega) (ln_nn L) (by have := ln_nn L; omega) rfl)
set_option maxHeartbeats 4000000 in
theorem X2_overlap {a : Nat} {σ : ms_T} {L : Iv} {u v : Int} {Q : mq_T} (h : IvC σ a L) (hk : ok L) (hu : 0 ≤ u) (hv : 0 ≤ v) (hu2 : u ≤ 2147483647) (hv2 : v ≤ 2147483647) (hQ : Q (some (vI (overL L u v))) σ) : Ca n_X2_overlap [vR (some a), vI u, vI v] σ Q := by
  obtain ⟨⟨s0, r0, r1, s1, s2⟩, hn, hb, he⟩ := h
  have hl := hk.1
  have key : ∀ (k : Nat) (i x : Int) (y : Option mv_T), 0 ≤ i → i ≤ ln L → ln L - i < k → x = smI (ovF L u v) i → At n_X2_overlap 5 [some (vR (some a)), some (vI u), some (vI v), some (vI x), some (vI i), y] [] σ Q := by
    intro k
    induction k with
    | zero => intro i x y h0 h1 h2; omega
    | succ k ih =>
      intro i x y h0 h1 h2 hx
      refine vc_X2_overlap_5 _ _ _ _ _ _ _ _ ?_
      simp only [s0, s1, s2, r0, r1, hn, isS_some, true_and]
      refine ⟨fun e => ?_, fun e => ⟨by omega, by omega, by omega, by omega, ?_⟩⟩
      · rw [hx, show i = ln L by omega]; exact hQ
      · have g := hk.2 i h0 (by omega)
        have g2 := ov_bd hk (b := v) hu i h0 h1
        rw [hb i h0 (by omega), he i h0 (by omega)]
        refine ih _ _ _ ?_ ?_ ?_ ?_ <;> rw [wr_i (x := i + 1) (by omega)]
        · omega
        · omega
        · omega
        · rw [smI_s h0, ← hx, wr_i (x := min v (le_ L i) - max u (lb L i)) (by omega), wr_i (x := min v (le_ L i) - max u (lb L i) + 1) (by omega)]
          unfold ovF
          rw [wr_i (by omega)]
  exact vc_X2_overlap _ _ _ _ _ (key (ln L + 1).toNat 0 0 _ (by omega) (ln_nn L) (by have := ln_nn L; omega) rfl)
set_option maxHeartbeats 4000000 in
theorem X2_number {a : Nat} {σ : ms_T} {L : Iv} {i : Int} {Q : mq_T} (h : IvC σ a L) (hk : ok L) (hi : -1 ≤ i) (hi2 : i ≤ 2147483647) (hQ : Q (some (vI (numL L i))) σ) : Ca n_X2_number [vR (some a), vI i] σ Q := by
  obtain ⟨⟨s0, r0, r1, s1, s2⟩, hn, hb, he⟩ := h
  have hl := hk.1
  unfold numL at hQ
  refine vc_X2_number _ _ _ _ ?_
  simp only [s0, s1, s2, r0, r1, hn, isS_some, true_and]
  refine ⟨fun e => ?_, fun e => ?_⟩
  · have e0 : 0 ≤ i := by omega
    have ew : wr (i.tdiv 2) = i.tdiv 2 := by rw [td2 e0]; exact wr_i (by omega)
    rw [if_neg e] at hQ
    rw [ew]
    rw [td2 e0, tm2 e0] at *
    refine ⟨by decide, fun e2 => by omega, fun e2 => ⟨fun e3 => ⟨by decide, fun e4 => ⟨by omega, by omega, ?_⟩, fun e4 => ⟨by omega, by omega, ?_⟩⟩, fun e3 => ?_⟩⟩
    · rw [if_pos (by omega), if_neg e4] at hQ
      rw [he _ (by omega) e3]; exact hQ
    · rw [if_pos (by omega), if_pos (by omega)] at hQ
      rw [hb _ (by omega) e3]; exact hQ
    · rw [if_neg (by omega)] at hQ; exact hQ
  · rw [if_pos (by omega)] at hQ; exact hQ
