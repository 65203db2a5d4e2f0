/-! What a queue still asks for: it falls with every tick -/
theorem smI_front {f : Int → Int} {n : Int} (h : 0 ≤ n) : smI f (n + 1) = f 0 + smI (fun k => f (k + 1)) n := by
  refine smI_ind (f := fun k => f (k + 1)) (n := n) (P := fun i x => smI f (i + 1) = f 0 + x) ?_ ?_ n h (Int.le_refl _)
  · show smI f (0 + 1) = f 0 + 0
    rw [smI_s (Int.le_refl 0), smI_0]
    omega
  · intro i x i0 i1 hx
    show smI f (i + 1 + 1) = f 0 + (x + f (i + 1))
    have hx : smI f (i + 1) = f 0 + x := hx
    rw [smI_s (by omega), hx]
    omega
theorem size_cut {H : Iv} {u : Int} (hk : ok H) (h1 : 1 ≤ ln H) (hu : lb H 0 ≤ u) : sizeL (cutL H u) + 1 ≤ sizeL H := by
  have e0 : sizeL H = szF H 0 + smI (fun k => szF H (k + 1)) (ln H - 1) := by
    unfold sizeL
    have := smI_front (f := szF H) (n := ln H - 1) (by omega)
    rw [show ln H - 1 + 1 = ln H by omega] at this
    exact this
  have h0 := hk.2 0 (by omega) (by omega)
  have e2 : szF H 0 = le_ H 0 - lb H 0 + 1 := rfl
  unfold cutL
  rw [if_neg (by omega)]
  by_cases c : u < le_ H 0
  · rw [if_pos c]
    generalize hT : tab (ln H) (fun i => if i = 0 then u + 1 else lb H i) (le_ H) = L
    have hl : ln L = ln H := by rw [← hT]; exact ln_tab (by omega)
    have e1 : sizeL L = szF L 0 + smI (fun k => szF L (k + 1)) (ln H - 1) := by
      unfold sizeL
      rw [hl]
      have := smI_front (f := szF L) (n := ln H - 1) (by omega)
      rw [show ln H - 1 + 1 = ln H by omega] at this
      exact this
    have e3 : szF L 0 = le_ H 0 - (u + 1) + 1 := by
      unfold szF
      rw [← hT, lb_tab (by omega) (by omega), le_tab (by omega) (by omega), if_pos rfl]
    have e4 : smI (fun k => szF L (k + 1)) (ln H - 1) = smI (fun k => szF H (k + 1)) (ln H - 1) :=
      smI_congr (n := ln H - 1) (fun k k0 k1 => by
        unfold szF
        rw [← hT, lb_tab (by omega) (by omega), le_tab (by omega) (by omega), if_neg (by omega)]) _ (by omega) (Int.le_refl _)
    omega
  · rw [if_neg c]
    generalize hT : tab (ln H - 1) (fun i => lb H (i + 1)) (fun i => le_ H (i + 1)) = L
    have hl : ln L = ln H - 1 := by rw [← hT]; exact ln_tab (by omega)
    have e4 : sizeL L = smI (fun k => szF H (k + 1)) (ln H - 1) := by
      unfold sizeL
      rw [hl]
      exact smI_congr (n := ln H - 1) (fun k k0 k1 => by
        unfold szF
        rw [← hT, lb_tab (by omega) (by omega), le_tab (by omega) (by omega)]) _ (by omega) (Int.le_refl _)
    omega
/-- files from a time on -/
def cnF (F : Fl) (a : Int) : Int := smI (fun f => if a ≤ F.2 f 1 then 1 else 0) F.1
theorem cnF_bd {F : Fl} {a : Int} (h : FW F) : 0 ≤ cnF F a ∧ cnF F a ≤ 30 := by
  have h0 := h.1
  have h1 := h.2.1
  have := smI_bd (f := fun f => if a ≤ F.2 f 1 then (1 : Int) else 0) (n := F.1) (lo := 0) (hi := 1) (fun i _ _ => by split <;> omega) (by omega) (by omega) F.1 h0 (Int.le_refl _)
  unfold cnF
  omega
theorem cnF_le {F : Fl} {a b : Int} (h : FW F) (hab : a ≤ b) : cnF F b ≤ cnF F a :=
  smI_le (n := F.1) (fun f _ _ => by
    show (if b ≤ F.2 f 1 then (1 : Int) else 0) ≤ if a ≤ F.2 f 1 then 1 else 0
    split
    · rw [if_pos (by omega)]; exact Int.le_refl _
    · split <;> omega) F.1 h.1 (Int.le_refl _)
theorem cnF_lt {F : Fl} {a g : Int} (h : FW F) (g0 : 0 ≤ g) (g1 : g < F.1) (ha : a ≤ F.2 g 1) : cnF F (F.2 g 1 + 1) + 1 ≤ cnF F a := by
  have key : ∀ i, 0 ≤ i → i ≤ F.1 → smI (fun f => if F.2 g 1 + 1 ≤ F.2 f 1 then (1 : Int) else 0) i + (if g < i then 1 else 0) ≤ smI (fun f => if a ≤ F.2 f 1 then (1 : Int) else 0) i := by
    refine smI_ind (P := fun i x => x + (if g < i then 1 else 0) ≤ smI (fun f => if a ≤ F.2 f 1 then (1 : Int) else 0) i) ?_ ?_
    · show (0 : Int) + (if g < 0 then 1 else 0) ≤ smI _ 0
      rw [smI_0, if_neg (by omega)]; exact Int.le_refl _
    · intro i x i0 i1 hx
      have hx : x + (if g < i then 1 else 0) ≤ smI (fun f => if a ≤ F.2 f 1 then (1 : Int) else 0) i := hx
      show x + (if F.2 g 1 + 1 ≤ F.2 i 1 then 1 else 0) + (if g < i + 1 then 1 else 0) ≤ smI _ (i + 1)
      rw [smI_s i0]
      show x + (if F.2 g 1 + 1 ≤ F.2 i 1 then 1 else 0) + (if g < i + 1 then 1 else 0) ≤ smI (fun f => if a ≤ F.2 f 1 then (1 : Int) else 0) i + (if a ≤ F.2 i 1 then 1 else 0)
      by_cases e : i = g
      · rw [e] at hx ⊢
        rw [if_neg (by omega)] at hx
        rw [if_neg (by omega), if_pos (by omega), if_pos ha]
        omega
      · by_cases e2 : F.2 g 1 + 1 ≤ F.2 i 1
        · rw [if_pos e2, if_pos (show a ≤ F.2 i 1 by omega)]
          by_cases e3 : g < i
          · rw [if_pos e3] at hx; rw [if_pos (by omega)]; omega
          · rw [if_neg e3] at hx; rw [if_neg (by omega)]; omega
        · rw [if_neg e2]
          have : (0 : Int) ≤ if a ≤ F.2 i 1 then 1 else 0 := by split <;> omega
          by_cases e3 : g < i
          · rw [if_pos e3] at hx; rw [if_pos (by omega)]; omega
          · rw [if_neg e3] at hx; rw [if_neg (by omega)]; omega
  have := key F.1 h.1 (Int.le_refl _)
  rw [if_pos g1] at this
  exact this
