/-! What the calls leave is well made -/
theorem smI_le {f g : Int → Int} {n : Int} (h : ∀ i, 0 ≤ i → i < n → f i ≤ g i) : ∀ i, 0 ≤ i → i ≤ n → smI f i ≤ smI g i := by
  refine smI_ind (P := fun i x => x ≤ smI g i) ?_ ?_
  · show (0 : Int) ≤ smI g 0
    rw [smI_0]; exact Int.le_refl 0
  · intro i x h0 hi hx
    show x + f i ≤ smI g (i + 1)
    rw [smI_s h0]
    have := h i h0 hi
    have hx : x ≤ smI g i := hx
    omega
theorem exN_time {F : Fl} {t u : Int} (h0 : 0 ≤ F.1) (h : t ≤ u) : exN F u ≤ exN F t := by
  unfold exN
  refine smI_le (n := F.1) (fun i _ _ => ?_) F.1 h0 (Int.le_refl _)
  by_cases c : exB F u i = true
  · have c2 : exB F t i = true := by unfold exB at *; simp only [decide_eq_true_eq] at *; omega
    rw [if_pos c, if_pos c2]; exact Int.le_refl 1
  · rw [if_neg c]
    split <;> omega
section W
variable {F : Fl} {S : Sa} {K : Int → Int} {n : Int} {T : Int → Int}
theorem StW.sat {S' : Sa} {K' : Int → Int} (h : StW F S K n T) (hS : SaW F S') (hn : now S ≤ now S') (hn2 : now S' ≤ 1000000) (hf : ∀ i : Int, nst S' ≤ i → i < 5 → sts S' i = frs) (hK : -1 ≤ K' 0) : StW F S' K' n T :=
  ⟨h.1, hS, hn2, h.2.2.2.1, by have := exN_time (F := F) h.1.1 hn; have := h.2.2.2.2.1; omega, hf, hK⟩
theorem frs_SW {p o d r : Int} (hF : FW F) (h : addP p o d r) : SW F (up (up (up (up (sc frs) 0 p) 1 o) 2 d) 3 r, cov frs, of_ frs, ol frs, ct frs) := by
  obtain ⟨h1, h2, h3, h4⟩ := h
  have e : ∀ k, up (up (up (up (sc frs) 0 p) 1 o) 2 d) 3 r k = if k = 3 then r else if k = 2 then d else if k = 1 then o else if k = 0 then p else 0 := by
    intro k
    rfl
  refine ⟨⟨?_, ?_, ?_, ?_, ?_, ?_⟩, ok_nil, fun k a b => ⟨by show (-1 : Int) ≤ -1; decide, by show (-1 : Int) < F.1; have := hF.1; omega, ok_nil, fun z => ?_, fun j _ _ z => ?_⟩, fun w a b => ?_⟩
  · show 1 ≤ up (up (up (up (sc frs) 0 p) 1 o) 2 d) 3 r 0 ∧ up (up (up (up (sc frs) 0 p) 1 o) 2 d) 3 r 0 ≤ 1000
    rw [e]; exact h1
  · show 0 ≤ up (up (up (up (sc frs) 0 p) 1 o) 2 d) 3 r 1 ∧ up (up (up (up (sc frs) 0 p) 1 o) 2 d) 3 r 1 ≤ 1000
    rw [e]; exact h2
  · show 1 ≤ up (up (up (up (sc frs) 0 p) 1 o) 2 d) 3 r 2 ∧ up (up (up (up (sc frs) 0 p) 1 o) 2 d) 3 r 2 ≤ 1000
    rw [e]
    show 1 ≤ d ∧ d ≤ 1000
    omega
  · show 0 ≤ up (up (up (up (sc frs) 0 p) 1 o) 2 d) 3 r 3 ∧ up (up (up (up (sc frs) 0 p) 1 o) 2 d) 3 r 3 ≤ 2
    rw [e]; exact h4
  · show 0 ≤ up (up (up (up (sc frs) 0 p) 1 o) 2 d) 3 r 4 ∧ up (up (up (up (sc frs) 0 p) 1 o) 2 d) 3 r 4 ≤ 1000
    rw [e]
    show (0 : Int) ≤ 0 ∧ (0 : Int) ≤ 1000
    decide
  · show rg (up (up (up (up (sc frs) 0 p) 1 o) 2 d) 3 r 5)
    rw [e]
    show (-2147483648 : Int) ≤ 0 ∧ (0 : Int) ≤ 2147483647
    decide
  · have z : (0 : Int) ≤ -1 := z
    omega
  · have z : (0 : Int) ≤ -1 := z
    omega
  · show rg 0
    unfold rg
    exact ⟨by decide, by decide⟩
theorem W_add {p o d r : Int} (h : StW F S K n T) : StW F (rAdd S p o d r).2 K n T := by
  unfold rAdd
  by_cases c : addP p o d r
  · rw [cif_p c]
    by_cases e : nst S = 5
    · rw [cif_p e]; exact h
    · rw [cif_n e]
      obtain ⟨h1, h2, h3, h4, h5, h6, h7⟩ := id h
      obtain ⟨a1, a2, a3, a4, a5, a6, a7, a8⟩ := h2
      have e2 : nst (admS S p o d r) = nst S + 1 := rfl
      refine h.sat ⟨by rw [e2]; omega, a2, fun i i0 i1 => ?_, a4, fun k k0 k1 => ?_, a6, a7, a8⟩ (Int.le_refl _) h3 (fun i i0 i1 => ?_) h7
      · rw [e2] at i1
        show SW F (up (sts S) (nst S) _ i)
        by_cases e3 : i = nst S
        · rw [e3, up_eq, h6 (nst S) (by omega) (by omega)]
          exact frs_SW h1 c
        · rw [up_ne e3]; exact a3 i i0 (by omega)
      · obtain ⟨b1, b2⟩ := a5 k k0 k1
        exact ⟨⟨b1.1, by rw [e2]; have := b1.2; show rst (qg (que S) k) < nst S + 1; omega⟩, b2⟩
      · rw [e2] at i0
        show up (sts S) (nst S) _ i = frs
        rw [up_ne (by omega)]
        exact h6 i (by omega) i1
  · rw [cif_n c]; exact h
theorem W_sta {i : Int} {s : St} (h : StW F S K n T) (hi : stnP S i) (hs : SW F s) : StW F (stS S i s) K n T := by
  obtain ⟨h1, h2, h3, h4, h5, h6, h7⟩ := id h
  obtain ⟨a1, a2, a3, a4, a5, a6, a7, a8⟩ := h2
  have hi2 := hi.2
  refine h.sat ⟨a1, a2, fun j j0 j1 => ?_, a4, fun k k0 k1 => a5 k k0 k1, a6, a7, a8⟩ (Int.le_refl _) h3 (fun j j0 j1 => ?_) h7
  · show SW F (up (sts S) i s j)
    by_cases e3 : j = i
    · rw [e3, up_eq]; exact hs
    · rw [up_ne e3]; exact a3 j j0 j1
  · have j0 : nst S ≤ j := j0
    show up (sts S) i s j = frs
    rw [up_ne (by omega)]
    exact h6 j j0 j1
theorem W_loss {i r : Int} (h : StW F S K n T) : StW F (rLoss S i r).2 K n T := by
  unfold rLoss
  by_cases c : losP S i r
  · rw [cif_p c]
    obtain ⟨⟨b1, b2, b3, b4, b5, b6⟩, b7⟩ := h.2.1.2.2.1 i c.1.1 c.1.2
    refine W_sta (s := (up (sc (sts S i)) 4 r, cov (sts S i), of_ (sts S i), ol (sts S i), ct (sts S i))) h c.1 ⟨⟨?_, ?_, ?_, ?_, ?_, ?_⟩, b7⟩
    · show 1 ≤ up (sc (sts S i)) 4 r 0 ∧ up (sc (sts S i)) 4 r 0 ≤ 1000
      rw [up_ne (by decide)]; exact b1
    · show 0 ≤ up (sc (sts S i)) 4 r 1 ∧ up (sc (sts S i)) 4 r 1 ≤ 1000
      rw [up_ne (by decide)]; exact b2
    · show 1 ≤ up (sc (sts S i)) 4 r 2 ∧ up (sc (sts S i)) 4 r 2 ≤ 1000
      rw [up_ne (by decide)]; exact b3
    · show 0 ≤ up (sc (sts S i)) 4 r 3 ∧ up (sc (sts S i)) 4 r 3 ≤ 2
      rw [up_ne (by decide)]; exact b4
    · show 0 ≤ up (sc (sts S i)) 4 r 4 ∧ up (sc (sts S i)) 4 r 4 ≤ 1000
      rw [up_eq]; exact c.2
    · show rg (up (sc (sts S i)) 4 r 5)
      rw [up_ne (by decide)]; exact b6
  · rw [cif_n c]; exact h
theorem opl_is {s : St} {f k : Int} (h0 : 0 ≤ k) (h3 : k < 3) (hk : of_ s k = f) : 0 ≤ opl s f := by
  unfold opl
  split
  · omega
  · split
    · omega
    · split
      · omega
      · exfalso
        rcases (show k = 0 ∨ k = 1 ∨ k = 2 by omega) with e | e | e <;> (rw [e] at hk; contradiction)
theorem W_open {i f : Int} (h : StW F S K n T) : StW F (rOpen F S i f).2 K n T := by
  unfold rOpen
  by_cases c : stfP F S i f
  · rw [cif_p c]
    by_cases d : ¬ knP (sts S i) f ∨ 0 ≤ opl (sts S i) f
    · rw [cif_p d]; exact h
    · rw [cif_n d]
      by_cases e : opl (sts S i) (-1) < 0
      · rw [cif_p e]; exact h
      · rw [cif_n e]
        obtain ⟨b1, b2, b3, b4⟩ := h.2.1.2.2.1 i c.1.1 c.1.2
        have hb := opl_bd (sts S i) (-1)
        have hno : ∀ k, 0 ≤ k → k < 3 → ¬ of_ (sts S i) k = f := fun k k0 k3 z => d (Or.inr (opl_is k0 k3 z))
        refine W_sta h c.1 ⟨b1, b2, fun k k0 k3 => ?_, b4⟩
        show -1 ≤ up (of_ (sts S i)) (opl (sts S i) (-1)) f k ∧ up (of_ (sts S i)) (opl (sts S i) (-1)) f k < F.1 ∧ ok (up (ol (sts S i)) (opl (sts S i) (-1)) [] k) ∧ (0 ≤ up (of_ (sts S i)) (opl (sts S i) (-1)) f k → ∀ j, 0 ≤ j → j < ln (up (ol (sts S i)) (opl (sts S i) (-1)) [] k) → le_ (up (ol (sts S i)) (opl (sts S i) (-1)) [] k) j < F.2 (up (of_ (sts S i)) (opl (sts S i) (-1)) f k) 0) ∧ ∀ j, 0 ≤ j → j < 3 → 0 ≤ up (of_ (sts S i)) (opl (sts S i) (-1)) f k → up (of_ (sts S i)) (opl (sts S i) (-1)) f j = up (of_ (sts S i)) (opl (sts S i) (-1)) f k → j = k
        obtain ⟨g1, g2, g3, g4, g5⟩ := b3 k k0 k3
        have f0 := c.2.1
        have f1 := c.2.2
        by_cases e3 : k = opl (sts S i) (-1)
        · rw [← e3, up_eq, up_eq]
          refine ⟨by omega, f1, ok_nil, fun _ j j0 j1 => ?_, fun j j0 j3 _ z => ?_⟩
          · rw [ln_nil] at j1; omega
          · by_cases e4 : j = k
            · exact e4
            · rw [up_ne e4] at z
              exact absurd z (hno j j0 j3)
        · rw [up_ne e3, up_ne e3]
          refine ⟨g1, g2, g3, g4, fun j j0 j3 z0 z => ?_⟩
          by_cases e4 : j = opl (sts S i) (-1)
          · rw [e4, up_eq] at z
            exact absurd z.symm (hno k k0 k3)
          · rw [up_ne e4] at z
            exact g5 j j0 j3 z0 z
  · rw [cif_n c]; exact h
theorem W_close {i f : Int} (h : StW F S K n T) : StW F (rClose F S i f).2 K n T := by
  unfold rClose
  by_cases c : stfP F S i f
  · rw [cif_p c]
    by_cases e : opl (sts S i) f < 0
    · rw [cif_p e]; exact h
    · rw [cif_n e]
      obtain ⟨b1, b2, b3, b4⟩ := h.2.1.2.2.1 i c.1.1 c.1.2
      refine W_sta h c.1 ⟨b1, b2, fun k k0 k3 => ?_, b4⟩
      show -1 ≤ up (of_ (sts S i)) (opl (sts S i) f) (-1) k ∧ up (of_ (sts S i)) (opl (sts S i) f) (-1) k < F.1 ∧ ok (ol (sts S i) k) ∧ (0 ≤ up (of_ (sts S i)) (opl (sts S i) f) (-1) k → ∀ j, 0 ≤ j → j < ln (ol (sts S i) k) → le_ (ol (sts S i) k) j < F.2 (up (of_ (sts S i)) (opl (sts S i) f) (-1) k) 0) ∧ ∀ j, 0 ≤ j → j < 3 → 0 ≤ up (of_ (sts S i)) (opl (sts S i) f) (-1) k → up (of_ (sts S i)) (opl (sts S i) f) (-1) j = up (of_ (sts S i)) (opl (sts S i) f) (-1) k → j = k
      obtain ⟨g1, g2, g3, g4, g5⟩ := b3 k k0 k3
      by_cases e3 : k = opl (sts S i) f
      · rw [← e3, up_eq]
        exact ⟨by omega, by omega, g3, fun z => by omega, fun j _ _ z => by omega⟩
      · rw [up_ne e3]
        refine ⟨g1, g2, g3, g4, fun j j0 j3 z0 z => ?_⟩
        by_cases e4 : j = opl (sts S i) f
        · rw [e4, up_eq] at z; omega
        · rw [up_ne e4] at z; exact g5 j j0 j3 z0 z
  · rw [cif_n c]; exact h
theorem W_store {l s t : Int} (h : StW F S K n T) : StW (rStore F (now S) l s t).2 S K n T := by
  unfold rStore
  by_cases c : stoP l s t
  · rw [cif_p c]
    by_cases d : 0 < F.1 ∧ F.2 (F.1 - 1) 1 = now S
    · rw [cif_p d]; exact h
    · rw [cif_n d]
      by_cases e : 8 ≤ exN F (now S) ∨ 30 ≤ F.1
      · rw [cif_p e]; exact h
      · rw [cif_n e]
        obtain ⟨h1, ⟨a1, a2, a3, a4, a5, a6, a7, a8⟩, h3, h4, h5, h6, h7⟩ := id h
        have f0 := h1.1
        have same : ∀ f, f < F.1 → (stoF F (now S) l s t).2 f = F.2 f := fun f hf => up_ne (by omega)
        have same2 : (stoF F (now S) l s t).2 F.1 = fun w => if w = 0 then l else if w = 1 then now S else if w = 2 then t else s := up_eq
        have one : (stoF F (now S) l s t).1 = F.1 + 1 := rfl
        obtain ⟨c1, c2, c3⟩ := c
        refine ⟨⟨by rw [one]; omega, by rw [one]; omega, fun f fa fb => ?_⟩, ⟨a1, a2, fun i i0 i1 => ?_, a4, fun k k0 k1 => ?_, a6, a7, a8⟩, h3, h4, ?_, h6, h7⟩
        · rw [one] at fb
          by_cases e2 : f = F.1
          · rw [e2, same2]
            exact ⟨c1, ⟨a2, by show now S ≤ 2000000; omega⟩, c3, c2⟩
          · rw [same f (by omega)]; exact h1.2.2 f fa (by omega)
        · obtain ⟨b1, b2, b3, b4⟩ := a3 i i0 i1
          refine ⟨b1, b2, fun k k0 k3 => ?_, b4⟩
          obtain ⟨g1, g2, g3, g4, g5⟩ := b3 k k0 k3
          exact ⟨g1, by rw [one]; omega, g3, fun z j j0 j1 => by rw [same _ g2]; exact g4 z j j0 j1, g5⟩
        · obtain ⟨g1, g2, g3, g4, g5, g6⟩ := a5 k k0 k1
          exact ⟨g1, ⟨g2.1, by rw [one]; have := g2.2; omega⟩, g3, g4, fun i i0 i1 => ⟨(g5 i i0 i1).1, fun z => by rw [same _ g2.2]; exact (g5 i i0 i1).2 z⟩, g6⟩
        · have c0 : exN (stoF F (now S) l s t) (now S) = smI (fun f => if exB (stoF F (now S) l s t) (now S) f = true then 1 else 0) F.1 + (if exB (stoF F (now S) l s t) (now S) F.1 = true then 1 else 0) := by
            unfold exN
            rw [one, smI_s f0]
          have c1 : smI (fun f => if exB (stoF F (now S) l s t) (now S) f = true then (1 : Int) else 0) F.1 = exN F (now S) := by
            unfold exN
            refine smI_congr (n := F.1) (fun f _ hf => ?_) F.1 f0 (Int.le_refl _)
            unfold exB
            rw [same f hf]
          rw [c0, c1]
          split <;> omega
  · rw [cif_n c]; exact h
theorem W_que {S' : Sa} (h : StW F S K n T) (hS : SaW F S') (h1 : now S' = now S) (h2 : nst S' = nst S) (h3 : sts S' = sts S) : StW F S' K n T :=
  h.sat hS (by omega) (by rw [h1]; exact h.2.2.1) (fun i i0 i1 => by rw [h3]; exact h.2.2.2.2.2.1 i (by omega) i1) h.2.2.2.2.2.2
theorem W_reqD {i : Int} (h : StW F S K n T) : StW F (rReqD S i).2 K n T := by
  have hh := SaW_reqD (i := i) h.1 h.2.1 (by have := h.2.2.1; omega)
  have e : now (rReqD S i).2 = now S ∧ nst (rReqD S i).2 = nst S ∧ sts (rReqD S i).2 = sts S := by
    unfold rReqD
    by_cases c : stnP S i
    · rw [cif_p c]
      by_cases d : mayP S i ∧ 0 < ln (dirH S i)
      · rw [cif_p d]
        by_cases e : 6 ≤ ql (que S)
        · rw [cif_p e]; exact ⟨rfl, rfl, rfl⟩
        · rw [cif_n e]; exact ⟨rfl, rfl, rfl⟩
      · rw [cif_n d]; exact ⟨rfl, rfl, rfl⟩
    · rw [cif_n c]; exact ⟨rfl, rfl, rfl⟩
  exact W_que h hh e.1 e.2.1 e.2.2
theorem W_reqF {i f : Int} (h : StW F S K n T) : StW F (rReqF F S i f).2 K n T :=
  W_que h (SaW_reqF h.1 h.2.1) reqF_same.1 reqF_same.2.1 reqF_same.2.2
theorem W_with {i : Int} (h : StW F S K n T) : StW F (rWith S i).2 K n T := by
  unfold rWith
  by_cases c : stnP S i
  · rw [cif_p c]
    by_cases d : plQ (que S) i < 0
    · rw [cif_p d]; exact h
    · rw [cif_n d]
      obtain ⟨a1, a2, a3, a4, a5⟩ := SaW_iff.mp h.2.1
      exact W_que h (SaW_iff.mpr ⟨a1, a2, a3, QuW_sub a4 (List.eraseIdx_sublist _ _), a5⟩) rfl rfl rfl
  · rw [cif_n c]; exact h
theorem W_type {c : Int} (h : StW F S K n T) : StW F S K (rType n T c).2.1 (rType n T c).2.2 := by
  unfold rType
  obtain ⟨h1, h2, h3, ⟨t1, t2, t3⟩, h5⟩ := id h
  by_cases d : 32 ≤ c ∧ c ≤ 126
  · rw [cif_p d]
    by_cases e : n < 60
    · rw [cif_p e]
      refine ⟨h1, h2, h3, ⟨by show 0 ≤ n + 1; omega, by show n + 1 ≤ 60; omega, fun i i0 i1 => ?_⟩, h5⟩
      have i1 : i < n + 1 := i1
      show 32 ≤ up T n c i ∧ up T n c i ≤ 126
      by_cases e2 : i = n
      · rw [e2, up_eq]; exact d
      · rw [up_ne e2]; exact t3 i i0 (by omega)
    · rw [cif_n e]; exact h
  · rw [cif_n d]; exact h
theorem W_clear (h : StW F S K n T) : StW F S K 0 T := by
  obtain ⟨h1, h2, h3, ⟨t1, t2, t3⟩, h5⟩ := h
  exact ⟨h1, h2, h3, ⟨by omega, by omega, fun i i0 i1 => by omega⟩, h5⟩
theorem W_run {m : Int} (h : StW F S K n T) : StW F (rRun F S K m).2.1 (rRun F S K m).2.2 n T := by
  unfold rRun
  by_cases c : 1 ≤ m ∧ m ≤ 1000
  · rw [cif_p c]
    by_cases d : now S + m ≤ 1000000
    · rw [cif_p d]
      obtain ⟨a1, a2, a3, a4, a5⟩ := ticN_ok (K := K) h.1 h.2.1 m.toNat
      exact h.sat a1 (by show now S ≤ now (ticN F m.toNat (S, K)).1; omega) (by show now (ticN F m.toNat (S, K)).1 ≤ _; omega) (fun i i0 i1 => by
        have i0 : nst (ticN F m.toNat (S, K)).1 ≤ i := i0
        show sts (ticN F m.toNat (S, K)).1 i = frs
        rw [a4 i (by omega)]
        exact h.2.2.2.2.2.1 i (by omega) i1) (a5 h.2.2.2.2.2.2)
    · rw [cif_n d]; exact h
  · rw [cif_n c]; exact h
theorem ok_last {H : Iv} (h : ok H) {j : Int} (j0 : 0 ≤ j) (j1 : j < ln H) : le_ H j ≤ le_ H (ln H - 1) := by
  by_cases e : j = ln H - 1
  · rw [← e]; exact Int.le_refl _
  · have := ok_mono h j0 (show j < ln H - 1 by omega) (by omega)
    have := (h.2 (ln H - 1) (by omega) (by omega)).2.1
    omega
theorem W_reqT {i : Int} (h : StW F S K n T) : StW F (rReqT F S n T i).2 K n T := by
  unfold rReqT
  by_cases c : stnP S i
  · rw [cif_p c]
    by_cases d : texP F S n T i
    · rw [cif_p d]
      by_cases e : 6 ≤ ql (que S)
      · rw [cif_p e]; exact h
      · rw [cif_n e]
        have hb := prs_bd (T := T) h.2.2.2.1.1
        obtain ⟨d1, d2, d3, d4⟩ := d
        have hf : (prs n T).2.1 = -1 ∨ filQ F (prs n T).2.1 := by
          rcases d2 with z | z
          · exact Or.inl z
          · exact Or.inr ⟨z.1, z.2.1⟩
        refine W_que h (SaW_put h.2.1 c d4.2 (by omega) hf h.1 hb.2.2.2.2.1 (hb.2.2.2.2.2.2.1 d1) hb.2.2.2.2.2.1 (fun j j0 j1 => ⟨by have := hb.2.2.2.2.2.2.2 j j0 j1; omega, fun z => ?_⟩)) rfl rfl rfl
        have := ok_last hb.2.2.2.2.1 j0 j1
        rw [if_neg (by omega)] at d3
        omega
    · rw [cif_n d]; exact h
  · rw [cif_n c]; exact h
end W
