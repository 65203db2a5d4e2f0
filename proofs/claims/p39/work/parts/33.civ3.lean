set_option maxHeartbeats 4000000 in
theorem X2_add {a : Nat} {σ : ms_T} {L : Iv} {u v : Int} {Q : mq_T} (h : IvC σ a L) (hk : ok L) (hu : 0 ≤ u) (huv : u ≤ v) (hv : v ≤ 4000000) (hQ : ∀ τ, Sm σ τ (inIv a) → IvC τ a (addL L u v) → Q (some (vI (if addN L u v ≤ 12 then 1 else 0))) τ) : Ca n_X2_add [vR (some a), vI u, vI v] σ Q := by
  obtain ⟨hi, hn, hb, he⟩ := h
  have hl := hk.1
  have hnn := ln_nn L
  have hc := addC_ex hk huv
  have hi0 := hi
  obtain ⟨s0, r0, r1, s1, s2⟩ := hi0
  unfold addN at hQ
  have hfd : ∃ f, f = fI L u := ⟨_, rfl⟩
  have hxd : ∃ x, x = xI L v := ⟨_, rfl⟩
  obtain ⟨f, hf⟩ := hfd
  obtain ⟨x, hx⟩ := hxd
  rw [← hf, ← hx] at hc hQ
  have hNd : addN L u v = ln L - (x - f) + 1 := by unfold addN; rw [← hf, ← hx]
  have hAd : ln L - (x - f) + 1 ≤ 12 → addL L u v = insL L u v f x := fun z => by unfold addL; rw [hNd, if_pos z, ← hf, ← hx]
  have hAd2 : ¬ ln L - (x - f) + 1 ≤ 12 → addL L u v = L := fun z => by unfold addL; rw [hNd, if_neg z]
  clear hNd hf hx
  have c1 := hc
  obtain ⟨a1, a2, a3, a4, a5, a6, a7⟩ := c1
  have key2 : ∀ (k : Nat) (i : Int), f ≤ i → i ≤ x → x - i < k → At n_X2_add 31 [some (vR (some a)), some (vI u), some (vI v), some (vI f), some (vI i)] [] σ Q := by
    intro k
    induction k with
    | zero => intro i h0 h1 h2; omega
    | succ k ih =>
      intro i h0 h1 h2
      refine vc_X2_add_31 _ _ _ _ _ _ _ ?_
      simp only [gs_sI, gr_sI, s0, s1, s2, r0, r1, hn, isS_some, true_and]
      refine ⟨fun e => ?_, fun e => ⟨by omega, by omega, fun e2 => ?_, fun e2 => ?_⟩⟩
      · have hix : i = x := by omega
        rw [hix]
        rcases (show f < x ∨ x = f by omega) with hcase | hcase
        · -- first ones touched: one interval instead
          have hfx : f < x := by omega
          refine ⟨fun e3 => ?_, fun e3 => absurd (show ¬ x = f by omega) e3⟩
          rw [wr_i (x := x - 1) (by omega), wr_i (x := f + 1) (by omega)]
          refine ⟨by omega, by omega, by omega, by omega, by omega, by omega, by omega, by omega, ?_⟩
          rw [gi_ne (c' := a + 2) (by omega), hb f (by omega) (by omega), he (x - 1) (by omega) (by omega)]
          have hs2 : Sm σ (sI (sI σ (a + 1) f.toNat (min u (lb L f))) (a + 2) f.toNat (max v (le_ L (x - 1)))) (inIv a) := (Sm.rf.st ⟨by omega, by omega⟩).st ⟨by omega, by omega⟩
          refine X2_removeRange (n := ln L) (B := fun i => if i = f then min u (lb L f) else lb L i) (E := fun i => if i = f then max v (le_ L (x - 1)) else le_ L i) (hi.sm hs2) ?_ ?_ ?_ hl (by omega) (by omega) (by omega) ?_
          · rw [gi_ne (by omega), gi_ne (by omega)]; exact hn
          · intro i b0 b1
            rw [gi_ne (by omega)]
            by_cases e4 : i = f
            · subst e4; rw [gi_eq, if_pos rfl]
            · rw [gi_nk (by omega), if_neg e4]; exact hb i b0 b1
          · intro i b0 b1
            by_cases e4 : i = f
            · subst e4; rw [gi_eq, if_pos rfl]
            · rw [gi_nk (by omega), if_neg e4, gi_ne (by omega)]; exact he i b0 b1
          · intro τ hs3 hc3 hx3
            refine ⟨rfl, by simp, ?_⟩
            have hN : ln L - (x - f) + 1 ≤ 12 := by omega
            have := hQ τ (hs2.tr hs3) ?_
            · rw [if_pos hN] at this; exact this
            · rw [hAd hN]
              have hln := ln_ins hc
              refine ⟨(hi.sm hs2).sm hs3, by rw [hc3, hln]; omega, fun i b0 b1 => ?_, fun i b0 b1 => ?_⟩
              · rw [hln] at b1
                unfold insL
                rw [lb_tab b0 b1, (hx3 i b0 (by omega)).1]
                rcases Int.lt_trichotomy i f with e4 | e4 | e4
                · simp only [if_pos e4, if_pos (show i < f + 1 by omega), if_neg (show ¬ i = f by omega)]
                · simp only [e4, if_pos (show f < f + 1 by omega), if_neg (show ¬ f < f by omega), if_pos hfx, if_true]
                · simp only [if_neg (show ¬ i < f by omega), if_neg (show ¬ i = f by omega), if_neg (show ¬ i < f + 1 by omega), if_neg (show ¬ i + (x - (f + 1)) = f by omega)]
                  rw [show i + (x - (f + 1)) = i + (x - f) - 1 by omega]
              · rw [hln] at b1
                unfold insL
                rw [le_tab b0 b1, (hx3 i b0 (by omega)).2]
                rcases Int.lt_trichotomy i f with e4 | e4 | e4
                · simp only [if_pos e4, if_pos (show i < f + 1 by omega), if_neg (show ¬ i = f by omega)]
                · simp only [e4, if_pos (show f < f + 1 by omega), if_neg (show ¬ f < f by omega), if_pos hfx, if_true]
                · simp only [if_neg (show ¬ i < f by omega), if_neg (show ¬ i = f by omega), if_neg (show ¬ i < f + 1 by omega), if_neg (show ¬ i + (x - (f + 1)) = f by omega)]
                  rw [show i + (x - (f + 1)) = i + (x - f) - 1 by omega]
        · have hfx : x = f := by omega
          refine ⟨fun e3 => absurd hfx e3, fun e3 => ?_⟩
          refine X2_insert ⟨hi, hn, hb, he⟩ (by omega) (by omega) hl (fun hz => ⟨0, rfl, by simp, ?_⟩) (fun hz τ hs3 hc3 => ⟨1, rfl, by simp, ?_⟩)
          · have := hQ σ Sm.rf ?_
            · rw [if_neg (by omega)] at this; exact this
            · rw [hAd2 (by omega)]
              exact ⟨hi, hn, hb, he⟩
          · have := hQ τ hs3 ?_
            · rw [if_pos (by omega)] at this; exact this
            · rw [hAd (by omega)]
              have e5 : insL L u v f x = tab (ln L + 1) (fun i => if i < f then lb L i else if i = f then u else lb L (i - 1)) (fun i => if i < f then le_ L i else if i = f then v else le_ L (i - 1)) := by
                unfold insL
                rw [hfx]
                simp only [if_neg (show ¬ f < f by omega), show f - f = 0 by omega, show ln L - 0 + 1 = ln L + 1 by omega, Int.add_zero]
              rw [e5]
              exact hc3
      · have hix : i = x := by
          rw [hb i (by omega) (by omega)] at e2
          have g := hk.2 i (by omega) (by omega)
          rw [wr_i (by omega)] at e2
          rcases Int.lt_or_le i x with z | z
          · have := a6 i (by omega) z (by omega); omega
          · omega
        rw [hix]
        rcases (show f < x ∨ x = f by omega) with hcase | hcase
        · -- first ones touched: one interval instead
          have hfx : f < x := by omega
          refine ⟨fun e3 => ?_, fun e3 => absurd (show ¬ x = f by omega) e3⟩
          rw [wr_i (x := x - 1) (by omega), wr_i (x := f + 1) (by omega)]
          refine ⟨by omega, by omega, by omega, by omega, by omega, by omega, by omega, by omega, ?_⟩
          rw [gi_ne (c' := a + 2) (by omega), hb f (by omega) (by omega), he (x - 1) (by omega) (by omega)]
          have hs2 : Sm σ (sI (sI σ (a + 1) f.toNat (min u (lb L f))) (a + 2) f.toNat (max v (le_ L (x - 1)))) (inIv a) := (Sm.rf.st ⟨by omega, by omega⟩).st ⟨by omega, by omega⟩
          refine X2_removeRange (n := ln L) (B := fun i => if i = f then min u (lb L f) else lb L i) (E := fun i => if i = f then max v (le_ L (x - 1)) else le_ L i) (hi.sm hs2) ?_ ?_ ?_ hl (by omega) (by omega) (by omega) ?_
          · rw [gi_ne (by omega), gi_ne (by omega)]; exact hn
          · intro i b0 b1
            rw [gi_ne (by omega)]
            by_cases e4 : i = f
            · subst e4; rw [gi_eq, if_pos rfl]
            · rw [gi_nk (by omega), if_neg e4]; exact hb i b0 b1
          · intro i b0 b1
            by_cases e4 : i = f
            · subst e4; rw [gi_eq, if_pos rfl]
            · rw [gi_nk (by omega), if_neg e4, gi_ne (by omega)]; exact he i b0 b1
          · intro τ hs3 hc3 hx3
            refine ⟨rfl, by simp, ?_⟩
            have hN : ln L - (x - f) + 1 ≤ 12 := by omega
            have := hQ τ (hs2.tr hs3) ?_
            · rw [if_pos hN] at this; exact this
            · rw [hAd hN]
              have hln := ln_ins hc
              refine ⟨(hi.sm hs2).sm hs3, by rw [hc3, hln]; omega, fun i b0 b1 => ?_, fun i b0 b1 => ?_⟩
              · rw [hln] at b1
                unfold insL
                rw [lb_tab b0 b1, (hx3 i b0 (by omega)).1]
                rcases Int.lt_trichotomy i f with e4 | e4 | e4
                · simp only [if_pos e4, if_pos (show i < f + 1 by omega), if_neg (show ¬ i = f by omega)]
                · simp only [e4, if_pos (show f < f + 1 by omega), if_neg (show ¬ f < f by omega), if_pos hfx, if_true]
                · simp only [if_neg (show ¬ i < f by omega), if_neg (show ¬ i = f by omega), if_neg (show ¬ i < f + 1 by omega), if_neg (show ¬ i + (x - (f + 1)) = f by omega)]
                  rw [show i + (x - (f + 1)) = i + (x - f) - 1 by omega]
              · rw [hln] at b1
                unfold insL
                rw [le_tab b0 b1, (hx3 i b0 (by omega)).2]
                rcases Int.lt_trichotomy i f with e4 | e4 | e4
                · simp only [if_pos e4, if_pos (show i < f + 1 by omega), if_neg (show ¬ i = f by omega)]
                · simp only [e4, if_pos (show f < f + 1 by omega), if_neg (show ¬ f < f by omega), if_pos hfx, if_true]
                · simp only [if_neg (show ¬ i < f by omega), if_neg (show ¬ i = f by omega), if_neg (show ¬ i < f + 1 by omega), if_neg (show ¬ i + (x - (f + 1)) = f by omega)]
                  rw [show i + (x - (f + 1)) = i + (x - f) - 1 by omega]
        · have hfx : x = f := by omega
          refine ⟨fun e3 => absurd hfx e3, fun e3 => ?_⟩
          refine X2_insert ⟨hi, hn, hb, he⟩ (by omega) (by omega) hl (fun hz => ⟨0, rfl, by simp, ?_⟩) (fun hz τ hs3 hc3 => ⟨1, rfl, by simp, ?_⟩)
          · have := hQ σ Sm.rf ?_
            · rw [if_neg (by omega)] at this; exact this
            · rw [hAd2 (by omega)]
              exact ⟨hi, hn, hb, he⟩
          · have := hQ τ hs3 ?_
            · rw [if_pos (by omega)] at this; exact this
            · rw [hAd (by omega)]
              have e5 : insL L u v f x = tab (ln L + 1) (fun i => if i < f then lb L i else if i = f then u else lb L (i - 1)) (fun i => if i < f then le_ L i else if i = f then v else le_ L (i - 1)) := by
                unfold insL
                rw [hfx]
                simp only [if_neg (show ¬ f < f by omega), show f - f = 0 by omega, show ln L - 0 + 1 = ln L + 1 by omega, Int.add_zero]
              rw [e5]
              exact hc3
      · rw [hb i (by omega) (by omega)] at e2
        have g := hk.2 i (by omega) (by omega)
        rw [wr_i (x := lb L i - 1) (by omega)] at e2
        rw [wr_i (x := i + 1) (by omega)]
        have hix : i < x := by
          rcases Int.lt_or_le i x with z | z
          · exact z
          · have := a7 i z (by omega); omega
        exact ih (i + 1) (by omega) (by omega) (by omega)
  have key : ∀ (k : Nat) (i : Int), 0 ≤ i → i ≤ f → f - i < k → At n_X2_add 2 [some (vR (some a)), some (vI u), some (vI v), some (vI i), none] [] σ Q := by
    intro k
    induction k with
    | zero => intro i h0 h1 h2; omega
    | succ k ih =>
      intro i h0 h1 h2
      have done : i = f → At n_X2_add 31 [some (vR (some a)), some (vI u), some (vI v), some (vI i), some (vI i)] [] σ Q := fun z => by rw [z]; exact key2 (x - f + 1).toNat f (by omega) a2 (by omega)
      refine vc_X2_add_2 _ _ _ _ _ _ ?_
      simp only [s0, s1, s2, r0, r1, hn, isS_some, true_and]
      refine ⟨fun e => done (by omega), fun e => ⟨by omega, by omega, fun e2 => ?_, fun e2 => ?_⟩⟩
      · rw [he i h0 (by omega)] at e2
        have g := hk.2 i (by omega) (by omega)
        rw [wr_i (by omega)] at e2
        refine done ?_
        rcases Int.lt_or_le i f with z | z
        · have := a4 i h0 z; omega
        · omega
      · rw [he i h0 (by omega)] at e2
        have g := hk.2 i (by omega) (by omega)
        rw [wr_i (x := le_ L i + 1) (by omega)] at e2
        rw [wr_i (x := i + 1) (by omega)]
        refine ih (i + 1) (by omega) ?_ (by omega)
        rcases Int.lt_or_le i f with z | z
        · omega
        · have := a5 i z (by omega); omega
  exact vc_X2_add _ _ _ _ _ (key (f + 1).toNat 0 (by omega) a1 (by omega))
set_option maxHeartbeats 4000000 in
theorem X2_holeNumber {a : Nat} {σ : ms_T} {L : Iv} {lim ix : Int} {Q : mq_T} (h : IvC σ a L) (hk : ok L) (hlim : -1 ≤ lim) (hlim2 : lim ≤ 4000000) (hi : -1 ≤ ix) (hi2 : ix ≤ 2147483647) (hQ : Q (some (vI (numL (holesL L lim) ix))) σ) : Ca n_X2_holeNumber [vR (some a), vI lim, vI ix] σ Q := by
  obtain ⟨⟨s0, r0, r1, s1, s2⟩, hn, hb, he⟩ := h
  have hl := hk.1
  have hnn := ln_nn L
  have key : ∀ (k : Nat) (i x z : Int) (y : Option mv_T), 0 ≤ i → i ≤ ln L + 1 → ln L + 1 - i < k → (ix = -1 ∨ 2 * x ≤ ix) → x = ln (hlH L lim i) → z = hlB L lim i → At n_X2_holeNumber 8 [some (vR (some a)), some (vI lim), some (vI ix), some (vI x), some (vI z), some (vI i), y] [] σ Q := by
    intro k
    induction k with
    | zero => intro i x z y h0 h1 h2; omega
    | succ k ih =>
      intro i x z y h0 h1 h2 hix hx hz
      have bH := hlH_bd hk (last := lim) h0 h1
      have bB := hlB_bd hk (last := lim) h0 h1
      have h100 : ∀ (x' z' z0 y0 : Int), i ≤ ln L → (ix = -1 ∨ 2 * x' ≤ ix) → x' = ln (hlH L lim (i + 1)) → z' = hlB L lim (i + 1) → At n_X2_holeNumber 100 [some (vR (some a)), some (vI lim), some (vI ix), some (vI x'), some (vI z0), some (vI i), some (vI y0)] [vI z'] σ Q := by
        intro x' z' z0 y0 c0 c1 c2 c3
        refine vc_X2_holeNumber_100 _ _ _ _ _ _ _ _ _ _ ?_
        rw [wr_i (x := i + 1) (by omega)]
        exact ih (i + 1) x' z' _ (by omega) (by omega) (by omega) c1 c2 c3
      have h43 : ∀ (w : Int), i ≤ ln L → w = hlTo L lim i → At n_X2_holeNumber 43 [some (vR (some a)), some (vI lim), some (vI ix), some (vI x), some (vI z), some (vI i), y] [vI w] σ Q := by
        intro w c0 cw
        have e1 := hlH_s (L := L) (last := lim) h0
        have e2 := hlB_s (L := L) (last := lim) h0
        rw [← hz, ← cw] at e1
        rw [← hz] at e2
        refine vc_X2_holeNumber_43 _ _ _ _ _ _ _ _ _ _ ?_
        simp only [s0, s1, s2, r0, r1, hn, isS_some, true_and]
        rw [wr_i (x := 2 * x) (by omega), wr_i (x := 2 * x + 1) (by omega), wr_i (x := x + 1) (by omega)]
        have bhe : i < ln L → gi σ (a + 2) i.toNat = le_ L i ∧ wr (le_ L i + 1) = le_ L i + 1 := fun c => ⟨he i h0 c, wr_i (by have := hk.2 i h0 c; omega)⟩
        refine ⟨fun d => ⟨fun d2 => ?_, fun d2 => ⟨by omega, by omega, ?_⟩⟩, fun d => ⟨fun d2 => ⟨fun d3 => ⟨fun d4 => ?_, fun d4 => ⟨by omega, by omega, ?_⟩⟩, fun d3 => ?_⟩, fun d2 => ?_⟩⟩
        · rw [if_neg (by omega)] at e1 e2
          exact h100 _ _ _ _ c0 hix (by rw [e1]; exact hx) (by rw [e2])
        · rw [if_neg (by omega)] at e1
          rw [if_pos (by omega)] at e2
          rw [(bhe (by omega)).1, (bhe (by omega)).2]
          exact h100 _ _ _ _ c0 hix (by rw [e1]; exact hx) (by rw [e2])
        · rw [if_pos (by omega)] at e1
          rw [if_neg (by omega)] at e2
          exact h100 _ _ _ _ c0 (by omega) (by rw [e1, ln_app, hx]) (by rw [e2])
        · rw [if_pos (by omega)] at e1 e2
          rw [(bhe (by omega)).1, (bhe (by omega)).2]
          exact h100 _ _ _ _ c0 (by omega) (by rw [e1, ln_app, hx]) (by rw [e2])
        · rw [if_pos (by omega)] at e1
          have f1 := hl_fin (L := L) (last := lim) (i := i + 1) (by omega) (by omega)
          rw [e1] at f1
          have f2 := f1.2 x (by omega) (by rw [ln_app]; omega)
          rw [ln_app] at f1
          have : numL (holesL L lim) ix = w := by
            unfold numL
            rw [if_neg (by omega), if_pos (by omega), td2 (by omega), tm2 (by omega), if_neg (by omega), show ix / 2 = x by omega, f2.2, le_app' hx]
          rw [this] at hQ
          exact hQ
        · rw [if_pos (by omega)] at e1
          have f1 := hl_fin (L := L) (last := lim) (i := i + 1) (by omega) (by omega)
          rw [e1] at f1
          have f2 := f1.2 x (by omega) (by rw [ln_app]; omega)
          rw [ln_app] at f1
          have : numL (holesL L lim) ix = z := by
            unfold numL
            rw [if_neg (by omega), if_pos (by omega), td2 (by omega), tm2 (by omega), if_pos (by omega), show ix / 2 = x by omega, f2.1, lb_app' hx]
          rw [this] at hQ
          exact hQ
      refine vc_X2_holeNumber_8 _ _ _ _ _ _ _ _ _ ?_
      simp only [s0, s1, s2, r0, r1, hn, isS_some, true_and]
      refine ⟨fun e => ⟨fun e2 => ?_, fun e2 => ?_⟩, fun e => ⟨fun e2 => h43 _ (by omega) ?_, fun e2 => ⟨by omega, by omega, h43 _ (by omega) ?_⟩⟩⟩
      · have ei : i = ln L + 1 := by omega
        rw [ei] at hx
        have : numL (holesL L lim) ix = -4 := by
          unfold numL holesL
          rw [if_neg e2, if_neg (by omega)]
        rw [this] at hQ
        exact hQ
      · have ei : i = ln L + 1 := by omega
        rw [ei] at hx
        have : numL (holesL L lim) ix = x := by
          unfold numL holesL
          rw [if_pos (by omega), hx]
        rw [this] at hQ
        exact hQ
      · unfold hlTo
        rw [if_neg (by omega)]
        omega
      · unfold hlTo
        rw [if_pos (by omega), hb i h0 (by omega), wr_i (by have := hk.2 i h0 (by omega); omega)]
  exact vc_X2_holeNumber _ _ _ _ _ (key (ln L + 2).toNat 0 0 0 _ (by omega) (by omega) (by omega) (by omega) rfl rfl)
