/-! Request texts -/
def dgB (n : Int) (T : Int → Int) (i : Int) : Bool := decide (i < n) && (decide (48 ≤ T i) && decide (T i ≤ 57))
def scn (n : Int) (T : Int → Int) : Nat → Int → Int → Int × Int
  | 0, sp, v => (sp, v)
  | k + 1, sp, v => if dgB n T sp = true then scn n T k (sp + 1) (10 * v + (T sp - 48)) else (sp, v)
theorem scn_bd {n : Int} {T : Int → Int} : ∀ (k : Nat) (sp v : Int), 0 ≤ v → sp ≤ n → sp ≤ (scn n T k sp v).1 ∧ (scn n T k sp v).1 ≤ n ∧ (scn n T k sp v).1 ≤ sp + k ∧ 0 ≤ (scn n T k sp v).2
  | 0, sp, v, h, h2 => ⟨Int.le_refl _, h2, by show sp ≤ sp + ((0 : Nat) : Int); omega, h⟩
  | k + 1, sp, v, h, h2 => by
    unfold scn
    split
    · next e =>
      simp only [dgB, Bool.and_eq_true, decide_eq_true_eq] at e
      have := scn_bd k (sp + 1) (10 * v + (T sp - 48)) (by omega) (by omega) (n := n) (T := T)
      refine ⟨by omega, by omega, by omega, this.2.2.2⟩
    · exact ⟨Int.le_refl _, h2, by show sp ≤ sp + ((k + 1 : Nat) : Int); omega, h⟩
def p10 : Nat → Int
  | 0 => 1
  | k + 1 => 10 * p10 k
theorem p10_pos : ∀ k, 1 ≤ p10 k
  | 0 => by decide
  | k + 1 => by
    have := p10_pos k
    show 1 ≤ 10 * p10 k
    omega
theorem scn_v {n : Int} {T : Int → Int} : ∀ (k : Nat) (sp v : Int), 0 ≤ v → (scn n T k sp v).2 + 1 ≤ (v + 1) * p10 k
  | 0, sp, v, h => by show v + 1 ≤ (v + 1) * 1; omega
  | k + 1, sp, v, h => by
    unfold scn
    split
    · next e =>
      simp only [dgB, Bool.and_eq_true, decide_eq_true_eq] at e
      have := scn_v k (sp + 1) (10 * v + (T sp - 48)) (by omega) (n := n) (T := T)
      have hp := p10_pos k
      have h3 : (10 * v + (T sp - 48) + 1) * p10 k ≤ ((v + 1) * 10) * p10 k := Int.mul_le_mul_of_nonneg_right (by omega) (by omega)
      have h4 : (v + 1) * p10 (k + 1) = ((v + 1) * 10) * p10 k := by
        show (v + 1) * (10 * p10 k) = _
        rw [Int.mul_assoc]
      rw [h4]
      omega
    · have h5 := p10_pos (k + 1)
      have : (v + 1) * 1 ≤ (v + 1) * p10 (k + 1) := Int.mul_le_mul_of_nonneg_left h5 (by omega)
      show v + 1 ≤ _
      omega
/-- a number at a place, not less than another one: whether, where it goes on or is wrong, which -/
def numR (n : Int) (T : Int → Int) (sp least : Int) : Int × Int × Int := if (scn n T 5 sp 0).1 ≤ sp then (0, sp, 0) else if (scn n T 5 sp 0).2 < least then (0, sp, 0) else (1, (scn n T 5 sp 0).1, (scn n T 5 sp 0).2)
theorem numR_bd {n : Int} {T : Int → Int} {sp least : Int} (h : sp ≤ n) : ((numR n T sp least).1 = 0 ∨ (numR n T sp least).1 = 1) ∧ sp ≤ (numR n T sp least).2.1 ∧ (numR n T sp least).2.1 ≤ n ∧ 0 ≤ (numR n T sp least).2.2 ∧ (numR n T sp least).2.2 ≤ 99999 ∧ ((numR n T sp least).1 = 1 → least ≤ (numR n T sp least).2.2) := by
  have h1 := scn_bd 5 sp 0 (by omega) h (n := n) (T := T)
  have h2 := scn_v 5 sp 0 (by omega) (n := n) (T := T)
  have h3 : ((0 : Int) + 1) * p10 5 = 100000 := by decide
  unfold numR
  split
  · exact ⟨Or.inl rfl, Int.le_refl _, h, by simp, by simp, fun z => absurd z (by simp)⟩
  · split
    · exact ⟨Or.inl rfl, Int.le_refl _, h, by simp, by simp, fun z => absurd z (by simp)⟩
    · exact ⟨Or.inr rfl, h1.1, h1.2.1, h1.2.2.2, by show (scn n T 5 sp 0).2 ≤ 99999; omega, fun _ => by show least ≤ (scn n T 5 sp 0).2; omega⟩
def skB (n : Int) (T : Int → Int) (sp c : Int) : Bool := decide (sp < n) && decide (T sp = c)
theorem skB_iff {n : Int} {T : Int → Int} {sp c : Int} : skB n T sp c = true ↔ sp < n ∧ T sp = c := by
  unfold skB
  rw [Bool.and_eq_true, decide_eq_true_eq, decide_eq_true_eq]
/-- a hole: whether, where, from, to -/
def hoR (n : Int) (T : Int → Int) (sp least : Int) : Int × Int × Int × Int := if (numR n T sp least).1 = 0 then (0, (numR n T sp least).2.1, 0, 0) else if skB n T (numR n T sp least).2.1 45 = true then (if (numR n T ((numR n T sp least).2.1 + 1) (numR n T sp least).2.2).1 = 0 then (0, (numR n T ((numR n T sp least).2.1 + 1) (numR n T sp least).2.2).2.1, 0, 0) else (1, (numR n T ((numR n T sp least).2.1 + 1) (numR n T sp least).2.2).2.1, (numR n T sp least).2.2, (numR n T ((numR n T sp least).2.1 + 1) (numR n T sp least).2.2).2.2)) else (1, (numR n T sp least).2.1, (numR n T sp least).2.2, (numR n T sp least).2.2)
theorem hoR_bd {n : Int} {T : Int → Int} {sp least : Int} (h : sp ≤ n) : ((hoR n T sp least).1 = 0 ∨ (hoR n T sp least).1 = 1) ∧ sp ≤ (hoR n T sp least).2.1 ∧ (hoR n T sp least).2.1 ≤ n ∧ ((hoR n T sp least).1 = 1 → least ≤ (hoR n T sp least).2.2.1 ∧ 0 ≤ (hoR n T sp least).2.2.1 ∧ (hoR n T sp least).2.2.1 ≤ (hoR n T sp least).2.2.2 ∧ (hoR n T sp least).2.2.2 ≤ 99999) := by
  have a := numR_bd (T := T) (least := least) h
  unfold hoR
  split
  · exact ⟨Or.inl rfl, a.2.1, a.2.2.1, fun z => absurd z (by simp)⟩
  · next e =>
    have a1 := a.2.2.2.2.2 (by omega)
    split
    · next e2 =>
      have e3 := (skB_iff.mp e2).1
      have b := numR_bd (T := T) (sp := (numR n T sp least).2.1 + 1) (least := (numR n T sp least).2.2) (n := n) (by omega)
      split
      · exact ⟨Or.inl rfl, by show sp ≤ (numR n T ((numR n T sp least).2.1 + 1) (numR n T sp least).2.2).2.1; omega, b.2.2.1, fun z => absurd z (by simp)⟩
      · next e4 =>
        have b1 := b.2.2.2.2.2 (by omega)
        exact ⟨Or.inr rfl, by show sp ≤ (numR n T ((numR n T sp least).2.1 + 1) (numR n T sp least).2.2).2.1; omega, b.2.2.1, fun _ => ⟨a1, a.2.2.2.1, b1, b.2.2.2.2.1⟩⟩
    · exact ⟨Or.inr rfl, a.2.1, a.2.2.1, fun _ => ⟨a1, a.2.2.2.1, Int.le_refl _, a.2.2.2.2.1⟩⟩
/-- up to k holes: whether, where, which -/
def rdH (n : Int) (T : Int → Int) : Nat → Int → Int → Iv → Int × Int × Iv
  | 0, sp, _, H => (1, sp, H)
  | k + 1, sp, least, H => if (hoR n T sp least).1 = 0 then (0, (hoR n T sp least).2.1, H) else if k = 0 ∨ ¬ skB n T (hoR n T sp least).2.1 44 = true then (1, (hoR n T sp least).2.1, H ++ [((hoR n T sp least).2.2.1, (hoR n T sp least).2.2.2)]) else rdH n T k ((hoR n T sp least).2.1 + 1) ((hoR n T sp least).2.2.2 + 2) (H ++ [((hoR n T sp least).2.2.1, (hoR n T sp least).2.2.2)])
/-- holes read so far -/
def HoW (H : Iv) (least : Int) : Prop := ok H ∧ ∀ i, 0 ≤ i → i < ln H → le_ H i + 2 ≤ least ∧ le_ H i ≤ 99999
theorem HoW_app {H : Iv} {least a b : Int} (h : HoW H least) (hl : ln H < 12) (h1 : least ≤ a) (h0 : 0 ≤ a) (h2 : a ≤ b) (h3 : b ≤ 99999) : HoW (H ++ [(a, b)]) (b + 2) ∧ addL H a b = H ++ [(a, b)] := by
  have hadd := (add_app h.1 h2 hl (fun i i0 i1 => by have := (h.2 i i0 i1).1; omega)).1
  refine ⟨⟨?_, fun i i0 i1 => ?_⟩, hadd⟩
  · rw [← hadd]
    exact ok_add h.1 h0 h2 (by omega)
  · rw [ln_app] at i1
    by_cases e : i < ln H
    · rw [le_app i0 e]
      have := h.2 i i0 e
      omega
    · rw [le_app' (by omega)]
      show b + 2 ≤ b + 2 ∧ b ≤ 99999
      omega
theorem rdH_bd {n : Int} {T : Int → Int} : ∀ (k : Nat) (sp least : Int) (H : Iv), sp ≤ n → ln H + k ≤ 4 → HoW H least → ((rdH n T k sp least H).1 = 0 ∨ (rdH n T k sp least H).1 = 1) ∧ sp ≤ (rdH n T k sp least H).2.1 ∧ (rdH n T k sp least H).2.1 ≤ n ∧ ok (rdH n T k sp least H).2.2 ∧ ln (rdH n T k sp least H).2.2 ≤ 4 ∧ (0 < k → (rdH n T k sp least H).1 = 1 → 1 ≤ ln (rdH n T k sp least H).2.2) ∧ ∀ i, 0 ≤ i → i < ln (rdH n T k sp least H).2.2 → le_ (rdH n T k sp least H).2.2 i ≤ 99999
  | 0, sp, least, H, h, hl, hw => ⟨Or.inr rfl, Int.le_refl _, h, hw.1, by show ln H ≤ 4; omega, fun z => absurd z (by simp), fun i i0 i1 => (hw.2 i i0 i1).2⟩
  | k + 1, sp, least, H, h, hl, hw => by
    have a := hoR_bd (T := T) (least := least) h
    have hnn := ln_nn H
    unfold rdH
    split
    · exact ⟨Or.inl rfl, a.2.1, a.2.2.1, hw.1, by show ln H ≤ 4; omega, fun _ z => absurd z (by simp), fun i i0 i1 => (hw.2 i i0 i1).2⟩
    · next e =>
      have b := a.2.2.2 (by omega)
      have hw2 := (HoW_app hw (by omega) b.1 b.2.1 b.2.2.1 b.2.2.2).1
      split
      · exact ⟨Or.inr rfl, a.2.1, a.2.2.1, hw2.1, by show ln (H ++ [_]) ≤ 4; rw [ln_app]; omega, fun _ _ => by show 1 ≤ ln (H ++ [_]); rw [ln_app]; omega, fun i i0 i1 => (hw2.2 i i0 i1).2⟩
      · next e2 =>
        have e3 : skB n T (hoR n T sp least).2.1 44 = true := by
          rcases Decidable.em (skB n T (hoR n T sp least).2.1 44 = true) with z | z
          · exact z
          · exact absurd (Or.inr z) e2
        have e4 : ¬ k = 0 := fun z => e2 (Or.inl z)
        have c := rdH_bd k ((hoR n T sp least).2.1 + 1) ((hoR n T sp least).2.2.2 + 2) (H ++ [((hoR n T sp least).2.2.1, (hoR n T sp least).2.2.2)]) (by have := (skB_iff.mp e3).1; omega) (by rw [ln_app]; omega) hw2 (T := T) (n := n)
        exact ⟨c.1, by omega, c.2.2.1, c.2.2.2.1, c.2.2.2.2.1, fun _ => c.2.2.2.2.2.1 (by omega), c.2.2.2.2.2.2⟩
/-- for what: whether, where it goes on or is wrong, which file -/
def sbR (n : Int) (T : Int → Int) : Int × Int × Int := if skB n T 0 100 = true then (1, 1, -1) else if skB n T 0 102 = true then (if (numR n T 1 0).1 = 0 then (0, (numR n T 1 0).2.1, -1) else (1, (numR n T 1 0).2.1, (numR n T 1 0).2.2)) else (0, 0, -1)
/-- the whole text: its fault (-1: none), the file (-1: the directory), the holes -/
def prs (n : Int) (T : Int → Int) : Int × Int × Iv := if (sbR n T).1 = 0 then ((sbR n T).2.1, -1, []) else if ¬ skB n T (sbR n T).2.1 58 = true then ((sbR n T).2.1, -1, []) else if (rdH n T 4 ((sbR n T).2.1 + 1) 0 []).1 = 0 then ((rdH n T 4 ((sbR n T).2.1 + 1) 0 []).2.1, -1, []) else if ¬ skB n T (rdH n T 4 ((sbR n T).2.1 + 1) 0 []).2.1 59 = true then ((rdH n T 4 ((sbR n T).2.1 + 1) 0 []).2.1, -1, []) else if ¬ (rdH n T 4 ((sbR n T).2.1 + 1) 0 []).2.1 + 1 = n then ((rdH n T 4 ((sbR n T).2.1 + 1) 0 []).2.1 + 1, -1, []) else (-1, (sbR n T).2.2, (rdH n T 4 ((sbR n T).2.1 + 1) 0 []).2.2)
theorem HoW_nil : HoW [] 0 := ⟨ok_nil, fun i i0 i1 => by rw [ln_nil] at i1; omega⟩
theorem sbR_bd {n : Int} {T : Int → Int} (h : 0 ≤ n) : ((sbR n T).1 = 0 ∨ (sbR n T).1 = 1) ∧ 0 ≤ (sbR n T).2.1 ∧ (sbR n T).2.1 ≤ n ∧ -1 ≤ (sbR n T).2.2 ∧ (sbR n T).2.2 ≤ 99999 := by
  unfold sbR
  split
  · next e =>
    have := (skB_iff.mp e).1
    exact ⟨Or.inr rfl, by simp, by show 1 ≤ n; omega, by simp, by simp⟩
  · split
    · next e =>
      have := (skB_iff.mp e).1
      have a := numR_bd (n := n) (T := T) (sp := 1) (least := 0) (by omega)
      split
      · exact ⟨Or.inl rfl, by show 0 ≤ (numR n T 1 0).2.1; omega, a.2.2.1, by simp, by simp⟩
      · exact ⟨Or.inr rfl, by show 0 ≤ (numR n T 1 0).2.1; omega, a.2.2.1, by show -1 ≤ (numR n T 1 0).2.2; omega, a.2.2.2.2.1⟩
    · exact ⟨Or.inl rfl, by simp, h, by simp, by simp⟩
theorem prs_bd {n : Int} {T : Int → Int} (h : 0 ≤ n) : -1 ≤ (prs n T).1 ∧ (prs n T).1 ≤ n ∧ -1 ≤ (prs n T).2.1 ∧ (prs n T).2.1 ≤ 99999 ∧ ok (prs n T).2.2 ∧ ln (prs n T).2.2 ≤ 4 ∧ ((prs n T).1 < 0 → 1 ≤ ln (prs n T).2.2) ∧ ∀ i, 0 ≤ i → i < ln (prs n T).2.2 → le_ (prs n T).2.2 i ≤ 99999 := by
  have a := sbR_bd (T := T) h
  have en : ∀ x : Int, 0 ≤ x → x ≤ n → -1 ≤ ((x, -1, []) : Int × Int × Iv).1 ∧ ((x, -1, []) : Int × Int × Iv).1 ≤ n ∧ -1 ≤ ((x, -1, []) : Int × Int × Iv).2.1 ∧ ((x, -1, []) : Int × Int × Iv).2.1 ≤ 99999 ∧ ok ((x, -1, []) : Int × Int × Iv).2.2 ∧ ln ((x, -1, []) : Int × Int × Iv).2.2 ≤ 4 ∧ (((x, -1, []) : Int × Int × Iv).1 < 0 → 1 ≤ ln ((x, -1, []) : Int × Int × Iv).2.2) ∧ ∀ i, 0 ≤ i → i < ln ((x, -1, []) : Int × Int × Iv).2.2 → le_ ((x, -1, []) : Int × Int × Iv).2.2 i ≤ 99999 := fun x x0 x1 => ⟨by show -1 ≤ x; omega, x1, by simp, by simp, ok_nil, by show ln [] ≤ 4; rw [ln_nil]; omega, fun z => by have z : x < 0 := z; omega, fun i i0 i1 => by have i1 : i < ln [] := i1; rw [ln_nil] at i1; omega⟩
  unfold prs
  split
  · exact en _ a.2.1 a.2.2.1
  · split
    · exact en _ a.2.1 a.2.2.1
    · next e1 e2 =>
      have e3 : skB n T (sbR n T).2.1 58 = true := Decidable.not_not.mp e2
      have e4 := (skB_iff.mp e3).1
      have b := rdH_bd (T := T) 4 ((sbR n T).2.1 + 1) 0 [] (n := n) (by omega) (by rw [ln_nil]; omega) HoW_nil
      split
      · exact en _ (by omega) b.2.2.1
      · split
        · exact en _ (by omega) b.2.2.1
        · next e5 e6 =>
          have e7 := (skB_iff.mp (Decidable.not_not.mp e6)).1
          split
          · exact en _ (by omega) (by omega)
          · exact ⟨by simp, by show (-1 : Int) ≤ n; omega, a.2.2.2.1, a.2.2.2.2, b.2.2.2.1, b.2.2.2.2.1, fun _ => b.2.2.2.2.2.1 (by simp) (by omega), b.2.2.2.2.2.2⟩
/-! The class' text: x, its characters x + 1, its holes x + 2 .. x + 4 -/
def isTx (σ : ms_T) (x : Nat) : Prop := gs σ x = (5, 0) ∧ gr σ x 0 = some (x + 1) ∧ gr σ x 4 = some (x + 2) ∧ gs σ (x + 1) = (51, 60) ∧ isIv σ (x + 2)
def TxC (σ : ms_T) (x : Nat) (n : Int) (T : Int → Int) : Prop := isTx σ x ∧ gi σ x 1 = n ∧ ∀ i : Int, 0 ≤ i → i < n → gi σ (x + 1) i.toNat = T i
def TxW (n : Int) (T : Int → Int) : Prop := 0 ≤ n ∧ n ≤ 60 ∧ ∀ i, 0 ≤ i → i < n → 32 ≤ T i ∧ T i ≤ 126
theorem isTx.sm {σ τ : ms_T} {x : Nat} {P : Nat → Prop} (h : isTx σ x) (hs : Sm σ τ P) : isTx τ x := ⟨by rw [hs.s]; exact h.1, by rw [hs.r]; exact h.2.1, by rw [hs.r]; exact h.2.2.1, by rw [hs.s]; exact h.2.2.2.1, h.2.2.2.2.sm hs⟩
/-- with the place of the reading -/
def TxP (σ : ms_T) (x : Nat) (n : Int) (T : Int → Int) (sp : Int) : Prop := TxC σ x n T ∧ gi σ x 2 = sp
theorem TxC.f {σ : ms_T} {x k : Nat} {n v : Int} {T : Int → Int} (h : TxC σ x n T) (hk : ¬ k = 1) : TxC (sI σ x k v) x n T := ⟨h.1.sm Sm.one, by rw [gi_nk (by omega)]; exact h.2.1, fun i a b => by rw [gi_ne (by omega)]; exact h.2.2 i a b⟩
theorem X5_skip {x : Nat} {σ : ms_T} {n sp c : Int} {T : Int → Int} {Q : mq_T} (h : TxP σ x n T sp) (hw : TxW n T) (h0 : 0 ≤ sp) (h1 : skB n T sp c = true → Q (some (vI 1)) (sI σ x 2 (sp + 1))) (h2 : ¬ skB n T sp c = true → Q (some (vI 0)) σ) : Ca n_X5_skip [vR (some x), vI c] σ Q := by
  obtain ⟨⟨⟨s0, r0, r4, s1, iv⟩, hn, hT⟩, hsp⟩ := h
  have h60 := hw.2.1
  rw [skB_iff] at h1 h2
  refine vc_X5_skip _ _ _ _ ?_
  simp only [s0, r0, s1, hn, hsp, isS_some, true_and]
  refine ⟨fun e => ⟨by simp, h2 fun z => by omega⟩, fun e => ⟨h0, by omega, fun e2 => ⟨by simp, ?_⟩, fun e2 => ⟨by simp, h2 fun z => ?_⟩⟩⟩
  · rw [hT sp h0 (by omega)] at e2
    rw [wr_i (by omega)]
    exact h1 ⟨by omega, e2⟩
  · rw [hT sp h0 (by omega)] at e2
    exact e2 z.2
theorem X5_isDigit {x : Nat} {σ : ms_T} {n i : Int} {T : Int → Int} {Q : mq_T} (h : TxC σ x n T) (hw : TxW n T) (h0 : 0 ≤ i) (hi : i < n) (h1 : dgB n T i = true → Q (some (vI 1)) σ) (h2 : ¬ dgB n T i = true → Q (some (vI 0)) σ) : Ca n_X5_isDigit [vR (some x), vI i] σ Q := by
  obtain ⟨⟨s0, r0, r4, s1, iv⟩, hn, hT⟩ := h
  have h60 := hw.2.1
  unfold dgB at h1 h2
  simp only [Bool.and_eq_true, decide_eq_true_eq] at h1 h2
  refine vc_X5_isDigit _ _ _ _ ?_
  simp only [s0, r0, s1, hT i h0 hi, isS_some, true_and]
  exact ⟨h0, by omega, fun e => ⟨by simp, h2 (by omega)⟩, fun e => ⟨h0, by omega, fun e2 => ⟨by simp, h2 (by omega)⟩, fun e2 => ⟨by simp, h1 (by omega)⟩⟩⟩
set_option maxHeartbeats 8000000 in
theorem X5_readNumber {x : Nat} {σ : ms_T} {n sp least : Int} {T : Int → Int} {Q : mq_T} (h : TxP σ x n T sp) (hw : TxW n T) (h0 : 0 ≤ sp) (hsn : sp ≤ n) (h1 : (numR n T sp least).1 = 1 → ∀ τ, Sm σ τ (fun c => c = x) → TxP τ x n T (numR n T sp least).2.1 → gi τ x 5 = (numR n T sp least).2.2 → gi τ x 3 = gi σ x 3 → Q (some (vI 1)) τ) (h2 : (numR n T sp least).1 = 0 → ∀ τ, Sm σ τ (fun c => c = x) → TxP τ x n T (numR n T sp least).2.1 → gi τ x 3 = gi σ x 3 → Q (some (vI 0)) τ) : Ca n_X5_readNumber [vR (some x), vI least] σ Q := by
  have h60 := hw.2.1
  have fin : ∀ (i v : Int) (τ : ms_T), scn n T 5 sp 0 = (i, v) → sp ≤ i → Sm σ τ (fun c => c = x) → TxP τ x n T i → gi τ x 3 = gi σ x 3 → (¬ i = sp → least ≤ v → Q (some (vI 1)) (sI τ x 5 v)) ∧ (¬ i = sp → ¬ least ≤ v → Q (some (vI 0)) (sI τ x 2 sp)) ∧ (i = sp → Q (some (vI 0)) τ) := by
    intro i v τ e1 a0 hs hP h3
    unfold numR at h1 h2
    rw [e1] at h1 h2
    simp only [] at h1 h2
    have hsp := hP.2
    refine ⟨fun d g => ?_, fun d g => ?_, fun d => ?_⟩
    · rw [if_neg (by omega), if_neg (by omega)] at h1
      exact h1 rfl _ (hs.st rfl) ⟨hP.1.f (by decide), by rw [gi_nk (by omega)]; exact hsp⟩ (by rw [gi_eq]) (by rw [gi_nk (by omega)]; exact h3)
    · rw [if_neg (by omega), if_pos (by omega)] at h2
      exact h2 rfl _ (hs.st rfl) ⟨hP.1.f (by decide), by rw [gi_eq]⟩ (by rw [gi_nk (by omega)]; exact h3)
    · rw [if_pos (by omega)] at h2
      exact h2 rfl τ hs ⟨hP.1, by rw [hsp]; exact d⟩ h3
  have key : ∀ (k : Nat) (i v : Int) (τ : ms_T), sp ≤ i → i = sp + 5 - k → i ≤ n → 0 ≤ v → (v + 1) * p10 k ≤ 100000 → scn n T k i v = scn n T 5 sp 0 → Sm σ τ (fun c => c = x) → TxP τ x n T i → gi τ x 3 = gi σ x 3 → At n_X5_readNumber 7 [some (vR (some x)), some (vI least), some (vI sp), some (vI v)] [] τ Q := by
    intro k
    induction k with
    | zero =>
      intro i v τ a0 a1 a2 v0 v1 hsc hs hP h3
      have hP' := hP
      obtain ⟨⟨⟨s0, r0, r4, s1, iv⟩, hn, hT⟩, hsp⟩ := hP
      obtain ⟨fA, fB, fC⟩ := fin i v τ hsc.symm a0 hs hP' h3
      refine vc_X5_readNumber_7 _ _ _ _ _ _ ?_
      simp only [s0, hn, hsp, true_and]
      refine ⟨fun e => ⟨fun d => ⟨fun g => ⟨by simp, fA d g⟩, fun g => ⟨by simp, fB d g⟩⟩, fun d => ⟨by simp, fC (by omega)⟩⟩, fun e => ⟨fun e2 => ⟨fun d => ⟨fun g => ⟨by simp, fA d g⟩, fun g => ⟨by simp, fB d g⟩⟩, fun d => ⟨by simp, fC (by omega)⟩⟩, fun e2 => ?_⟩⟩
      exfalso
      rw [wr_i (by omega)] at e2
      omega
    | succ k ih =>
      intro i v τ a0 a1 a2 v0 v1 hsc hs hP h3
      have hP' := hP
      obtain ⟨⟨⟨s0, r0, r4, s1, iv⟩, hn, hT⟩, hsp⟩ := hP
      have hp1 := p10_pos (k + 1)
      have hv : (v + 1) * 1 ≤ (v + 1) * p10 (k + 1) := Int.mul_le_mul_of_nonneg_left hp1 (by omega)
      refine vc_X5_readNumber_7 _ _ _ _ _ _ ?_
      simp only [s0, hn, hsp, true_and]
      have no : ¬ dgB n T i = true → scn n T 5 sp 0 = (i, v) := fun z => by
        rw [← hsc]
        unfold scn
        rw [if_neg z]
      refine ⟨fun e => ?_, fun e => ⟨fun e2 => ?_, fun e2 => ?_⟩⟩
      · obtain ⟨fA, fB, fC⟩ := fin i v τ (no fun z => by simp only [dgB, Bool.and_eq_true, decide_eq_true_eq] at z; omega) a0 hs hP' h3
        exact ⟨fun d => ⟨fun g => ⟨by simp, fA d g⟩, fun g => ⟨by simp, fB d g⟩⟩, fun d => ⟨by simp, fC (by omega)⟩⟩
      · exfalso
        rw [wr_i (by omega)] at e2
        omega
      · refine X5_isDigit hP'.1 hw (by omega) (by omega) (fun d => ⟨1, rfl, fun z => absurd z (by decide), fun _ => ?_⟩) (fun d => ⟨0, rfl, fun _ => ?_, fun z => absurd rfl z⟩)
        · have dd := d
          simp only [dgB, Bool.and_eq_true, decide_eq_true_eq] at dd
          simp only [s0, r0, s1, hsp, hT i (by omega) (by omega), isS_some, true_and]
          rw [wr_i (x := 10 * v) (by omega), wr_i (x := T i - 48) (by omega), wr_i (x := 10 * v + (T i - 48)) (by omega), wr_i (x := i + 1) (by omega)]
          refine ⟨by omega, by omega, ih (i + 1) _ _ (by omega) (by omega) (by omega) (by omega) ?_ ?_ (hs.st rfl) ⟨hP'.1.f (by decide), by rw [gi_eq]⟩ (by rw [gi_nk (by omega)]; exact h3)⟩
          · have hp := p10_pos k
            have h3 : (10 * v + (T i - 48) + 1) * p10 k ≤ ((v + 1) * 10) * p10 k := Int.mul_le_mul_of_nonneg_right (by omega) (by omega)
            have h4 : (v + 1) * p10 (k + 1) = ((v + 1) * 10) * p10 k := by
              show (v + 1) * (10 * p10 k) = _
              rw [Int.mul_assoc]
            omega
          · rw [← hsc]
            show _ = scn n T (k + 1) i v
            unfold scn
            rw [if_pos d]
            cases k <;> rfl
        · obtain ⟨fA, fB, fC⟩ := fin i v τ (no d) a0 hs hP' h3
          simp only [s0, hsp, true_and]
          exact ⟨fun d => ⟨fun g => ⟨by simp, fA d g⟩, fun g => ⟨by simp, fB d g⟩⟩, fun d => ⟨by simp, fC (by omega)⟩⟩
  refine vc_X5_readNumber _ _ _ _ ?_
  rw [h.2]
  exact ⟨h.1.1.1, key 5 sp 0 σ (by omega) (by omega) hsn (by omega) (by decide) rfl Sm.rf h rfl⟩
