/-! Well made stays well made -/
theorem all_iff {P : Rq → Prop} {Q : List Rq} : (∀ k, 0 ≤ k → k < ql Q → P (qg Q k)) ↔ ∀ r ∈ Q, P r := by
  unfold ql
  constructor
  · intro h r hr
    obtain ⟨n, hn, rfl⟩ := List.getElem_of_mem hr
    have := h (n : Int) (by omega) (by omega)
    rw [qg_get hn] at this
    exact this
  · intro h k a b
    obtain ⟨n, rfl⟩ := Int.eq_ofNat_of_zero_le a
    have hn : n < Q.length := by omega
    rw [qg_get hn]
    exact h _ (List.getElem_mem hn)
theorem pw_iff {R : Rq → Rq → Prop} {Q : List Rq} : (∀ k j, 0 ≤ k → k < j → j < ql Q → R (qg Q k) (qg Q j)) ↔ List.Pairwise R Q := by
  rw [List.pairwise_iff_getElem]
  unfold ql
  constructor
  · intro h i j hi hj hij
    have := h (i : Int) (j : Int) (by omega) (by omega) (by omega)
    rw [qg_get hi, qg_get hj] at this
    exact this
  · intro h k j a b c
    obtain ⟨n, rfl⟩ := Int.eq_ofNat_of_zero_le a
    obtain ⟨m, rfl⟩ := Int.eq_ofNat_of_zero_le (show 0 ≤ j by omega)
    have hn : n < Q.length := by omega
    have hm : m < Q.length := by omega
    rw [qg_get hn, qg_get hm]
    exact h n m hn hm (by omega)
theorem RqW_nst {F : Fl} {S S' : Sa} (h : nst S = nst S') {r : Rq} (hr : RqW F S r) : RqW F S' r := by
  unfold RqW at *
  rw [← h]
  exact hr
/-- a queue's part of it -/
def QuW (F : Fl) (n : Int) (Q : List Rq) : Prop := ql Q ≤ 6 ∧ (∀ r ∈ Q, RqW F (0, n, fun _ => ((fun _ => 0), [], (fun _ => 0), (fun _ => []), fun _ => 0), [], fun _ => 0) r) ∧ List.Pairwise (fun r r' => ¬ rst r = rst r') Q ∧ List.Pairwise (fun r r' => ¬ (0 < rle r ∧ 0 < rle r')) Q
theorem SaW_iff {F : Fl} {S : Sa} : SaW F S ↔ (0 ≤ nst S ∧ nst S ≤ 5) ∧ 0 ≤ now S ∧ (∀ i, 0 ≤ i → i < nst S → SW F (sts S i)) ∧ QuW F (nst S) (que S) ∧ ∀ w, 0 ≤ w → w < 5 → rg (tot S w) := by
  unfold SaW QuW
  constructor
  · rintro ⟨h1, h2, h3, h4, h5, h6, h7, h8⟩
    exact ⟨h1, h2, h3, ⟨h4, fun r hr => RqW_nst rfl (all_iff.mp h5 r hr), pw_iff.mp h6, pw_iff.mp h7⟩, h8⟩
  · rintro ⟨h1, h2, h3, ⟨h4, h5, h6, h7⟩, h8⟩
    exact ⟨h1, h2, h3, h4, fun k a b => RqW_nst rfl (all_iff.mpr h5 k a b), pw_iff.mpr h6, pw_iff.mpr h7, h8⟩
theorem QuW_sub {F : Fl} {n : Int} {Q Q' : List Rq} (h : QuW F n Q) (hs : List.Sublist Q' Q) : QuW F n Q' := by
  obtain ⟨h1, h2, h3, h4⟩ := h
  refine ⟨?_, fun r hr => h2 r (hs.subset hr), h3.sublist hs, h4.sublist hs⟩
  have := hs.length_le
  unfold ql at *
  omega
theorem rg_up {f : Int → Int} {w v : Int} (h : ∀ w, 0 ≤ w → w < 5 → rg (f w)) (hv : rg v) : ∀ x, 0 ≤ x → x < 5 → rg (up f w v x) := by
  intro x a b
  by_cases e : x = w
  · rw [e, up_eq]; exact hv
  · rw [up_ne e]; exact h x a b
theorem SaW_drp {F : Fl} {S : Sa} (h : SaW F S) : SaW F (drpS F S) := by
  rw [SaW_iff] at *
  obtain ⟨h1, h2, h3, h4, h5⟩ := h
  exact ⟨h1, h2, h3, QuW_sub h4 List.filter_sublist, rg_up h5 (rg_wr _)⟩
theorem le_ins {L : Iv} {a b m : Int} (h : ok L) (hab : a ≤ b) (hm : ∀ i, 0 ≤ i → i < ln L → le_ L i < m) (hb : b < m) : ∀ i, 0 ≤ i → i < ln (addL L a b) → le_ (addL L a b) i < m := by
  unfold addL
  split
  · have hc := addC_ex h hab
    have hl := ln_ins hc
    intro i h0 hi
    rw [hl] at hi
    obtain ⟨a1, a2, a3, -⟩ := hc
    unfold insL
    rw [le_tab h0 hi]
    split
    · exact hm i h0 (by omega)
    · split
      · split
        · have := hm (xI L b - 1) (by omega) (by omega)
          omega
        · exact hb
      · exact hm _ (by omega) (by omega)
  · exact hm
theorem cut_le {L : Iv} {u : Int} : ln (cutL L u) ≤ ln L ∧ ∀ i, 0 ≤ i → i < ln (cutL L u) → ∃ j, 0 ≤ j ∧ j < ln L ∧ le_ (cutL L u) i = le_ L j := by
  have := ln_nn L
  unfold cutL
  split
  · exact ⟨by omega, fun i a b => ⟨i, a, b, rfl⟩⟩
  · split
    · refine ⟨by rw [ln_tab (by omega)]; omega, fun i a b => ?_⟩
      rw [ln_tab (by omega)] at b
      exact ⟨i, a, b, le_tab a b⟩
    · refine ⟨by rw [ln_tab (by omega)]; omega, fun i a b => ?_⟩
      rw [ln_tab (by omega)] at b
      exact ⟨i + 1, by omega, by omega, le_tab a b⟩
/-- a frame that may be taken -/
def frW (F : Fl) (r : Fr) : Prop := frOK r ∧ (r.1 = 1 → 0 ≤ r.2.1 ∧ r.2.1 < F.1 ∧ r.2.2.2 < F.2 r.2.1 0)
theorem SW_tkB {F : Fl} {s : St} {f a b : Int} (h : SW F s) (ha : 0 ≤ a) (hab : a ≤ b) (hb : b ≤ 4000000) (hbf : b < F.2 f 0) : SW F (tkB s f a b) := by
  unfold tkB
  split
  · exact h
  · next e =>
    obtain ⟨h1, h2, h3, h4⟩ := h
    have hp := opl_bd s f
    refine ⟨h1, h2, fun k k0 k1 => ?_, fun w w0 w1 => ?_⟩
    · obtain ⟨g1, g2, g3, g4, g5⟩ := h3 k k0 k1
      refine ⟨g1, g2, ?_, ?_, g5⟩
      · show ok (up (ol s) (opl s f) _ k)
        by_cases e2 : k = opl s f
        · rw [e2, up_eq]; rw [e2] at g3; exact ok_add g3 ha hab hb
        · rw [up_ne e2]; exact g3
      · show 0 ≤ of_ s k → ∀ i, 0 ≤ i → i < ln (up (ol s) (opl s f) _ k) → le_ (up (ol s) (opl s f) _ k) i < F.2 (of_ s k) 0
        by_cases e2 : k = opl s f
        · rw [e2, up_eq]
          rw [e2] at g3 g4
          intro hk
          refine le_ins g3 hab (g4 hk) ?_
          rw [hp.2.2 (by omega)]
          exact hbf
        · rw [up_ne e2]; exact g4
    · show rg (up (up (ct s) 3 _) 2 _ w)
      by_cases e2 : w = 2
      · rw [e2, up_eq]
        split
        · exact rg_wr _
        · exact h4 2 (by omega) (by omega)
      · rw [up_ne e2]
        by_cases e3 : w = 3
        · rw [e3, up_eq]; exact rg_wr _
        · rw [up_ne e3]; exact h4 w w0 w1
theorem SW_tkE {F : Fl} {s : St} {f a b : Int} (h : SW F s) (ha : 0 ≤ a) (hab : a ≤ b) (hb : b ≤ 4000000) : SW F (tkE s f a b) := by
  obtain ⟨⟨h1, h1b, h1c, h1d, h1e, h1f⟩, h2, h3, h4⟩ := h
  unfold tkE
  split
  · exact ⟨⟨h1, h1b, h1c, h1d, h1e, h1f⟩, ok_add h2 ha hab hb, h3, h4⟩
  · refine ⟨⟨?_, ?_, ?_, ?_, ?_, ?_⟩, ok_add h2 ha hab hb, h3, h4⟩
    · show 1 ≤ up (sc s) 5 (bOr (sc s 5) (bShl 1 f)) 0 ∧ up (sc s) 5 (bOr (sc s 5) (bShl 1 f)) 0 ≤ 1000
      rw [up_ne (by decide)]; exact h1
    · show 0 ≤ up (sc s) 5 (bOr (sc s 5) (bShl 1 f)) 1 ∧ up (sc s) 5 (bOr (sc s 5) (bShl 1 f)) 1 ≤ 1000
      rw [up_ne (by decide)]; exact h1b
    · show 1 ≤ up (sc s) 5 (bOr (sc s 5) (bShl 1 f)) 2 ∧ up (sc s) 5 (bOr (sc s 5) (bShl 1 f)) 2 ≤ 1000
      rw [up_ne (by decide)]; exact h1c
    · show 0 ≤ up (sc s) 5 (bOr (sc s 5) (bShl 1 f)) 3 ∧ up (sc s) 5 (bOr (sc s 5) (bShl 1 f)) 3 ≤ 2
      rw [up_ne (by decide)]; exact h1d
    · show 0 ≤ up (sc s) 5 (bOr (sc s 5) (bShl 1 f)) 4 ∧ up (sc s) 5 (bOr (sc s 5) (bShl 1 f)) 4 ≤ 1000
      rw [up_ne (by decide)]; exact h1e
    · show rg (up (sc s) 5 (bOr (sc s 5) (bShl 1 f)) 5)
      rw [up_eq]
      exact rg_i32 _
theorem SW_tkF {F : Fl} {s : St} {r : Fr} (h : SW F s) (hr : frW F r) : SW F (tkF s r) := by
  have h0 := SW_ct h (w := 0) (v := wr (ct s 0 + 1)) (rg_wr _)
  unfold tkF
  split
  · next e =>
    obtain ⟨o1, o2, o3⟩ := hr.1 (Or.inl e)
    exact SW_tkB h0 o1 o2 o3 (hr.2 e).2.2
  · split
    · next e =>
      obtain ⟨o1, o2, o3⟩ := hr.1 (Or.inr e)
      exact SW_tkE h0 o1 o2 o3
    · exact h0
theorem SW_dlv {F : Fl} {S : Sa} {r : Fr} {i : Int} (h : SW F (sts S i)) (hr : frW F r) : SW F (dlv1 S r i) := by
  unfold dlv1
  split
  · split
    · exact SW_ct h (rg_wr _)
    · exact SW_tkF h hr
  · exact h
theorem frW_snd {F : Fl} {S : Sa} {r : Rq} {n : Int} (hF : FW F) (h : RqW F S r) : frW F (sndF F n r) := by
  obtain ⟨h1, h2, h3, h4, h5, h6⟩ := h
  have g := h3.2 0 (by omega) (by omega)
  have g5 := h5 0 (by omega) (by omega)
  unfold sndF
  split
  · refine ⟨fun _ => ?_, fun z => ?_⟩
    · unfold entF
      split
      · next e =>
        have hf := hF.2.2 _ e.1 (fs_bd hF).2.1
        have hb := bh_bd (F := F) (u := F.2 (fsF F (lb (rho r) 0) n) 1) (t := n) hF
        exact ⟨hb.1, hb.2 hf.2.1.1, by show F.2 (fsF F (lb (rho r) 0) n) 1 ≤ 4000000; omega⟩
      · have hb := bh_bd (F := F) (u := lb (rho r) 0) (t := n) hF
        have := hb.2 g.1
        exact ⟨hb.1, by show bhF F (lb (rho r) 0) n ≤ le_ (rho r) 0; omega, by show le_ (rho r) 0 ≤ 4000000; omega⟩
    · exfalso
      revert z
      unfold entF
      split
      · show (2 : Int) = 1 → False
        decide
      · show (2 : Int) = 1 → False
        decide
  · next e =>
    have hf : 0 ≤ rfl_ r := by omega
    have := g5.2 hf
    unfold bytF
    exact ⟨fun _ => ⟨g.1, by show lb (rho r) 0 ≤ min (le_ (rho r) 0) (lb (rho r) 0 + 15); omega, by show min (le_ (rho r) 0) (lb (rho r) 0 + 15) ≤ 4000000; omega⟩, fun _ => ⟨hf, h2.2, by show min (le_ (rho r) 0) (lb (rho r) 0 + 15) < F.2 (rfl_ r) 0; omega⟩⟩
theorem lf0_bd {F : Fl} {S : Sa} {r : Rq} (hw : SW F (sts S (rst r))) (h : RqW F S r) : 1 ≤ lf0 S r ∧ lf0 S r ≤ 3 := by
  have := h.2.2.2.2.2
  have := hw.1.2.2.2.1
  unfold lf0
  split <;> omega
theorem RqW_snd {F : Fl} {S : Sa} {r : Rq} (hF : FW F) (hw : SW F (sts S (rst r))) (h : RqW F S r) (hn : 1 ≤ ln (sndH F (now S) r)) : RqW F S (sndR F S r) := by
  have hl := lf0_bd hw h
  have hfr := frW_snd (n := now S) hF h
  obtain ⟨h1, h2, h3, h4, h5, h6⟩ := h
  have g := h3.2 0 (by omega) (by omega)
  have hlast : -1 ≤ (sndF F (now S) r).2.2.2 := by
    by_cases e : (sndF F (now S) r).1 = 1 ∨ (sndF F (now S) r).1 = 2
    · have := hfr.1 e; omega
    · exfalso
      apply e
      unfold sndF
      split
      · right
        unfold entF
        split <;> rfl
      · left
        rfl
  have hc := cut_le (L := rho r) (u := (sndF F (now S) r).2.2.2)
  have hok := ok_cut h3 hlast
  refine ⟨h1, h2, hok, ⟨hn, by have := hc.1; show ln (cutL _ _) ≤ 4; omega⟩, fun i a b => ?_, by show 0 ≤ lf0 S r - 1; omega, by show lf0 S r - 1 ≤ 3; omega⟩
  obtain ⟨j, j0, j1, je⟩ := hc.2 i a b
  have := h5 j j0 j1
  show le_ (cutL _ _) i ≤ _ ∧ (0 ≤ rfl_ r → le_ (cutL _ _) i < _)
  rw [je]
  exact this
