theorem SaW_put {F : Fl} {S : Sa} {i f : Int} {H : Iv} (h : SaW F S) (hi : stnP S i) (hp : plQ (que S) i < 0) (hl : ql (que S) < 6) (hf : f = -1 ∨ filQ F f) (hF : FW F) (hok : ok H) (h1 : 1 ≤ ln H) (h4 : ln H ≤ 4) (hle : ∀ j, 0 ≤ j → j < ln H → le_ H j ≤ 2000000 ∧ (0 ≤ f → le_ H j < F.2 f 0)) : SaW F (putS S i f H) := by
  have hno : ∀ k, 0 ≤ k → k < ql (que S) → ¬ rst (qg (que S) k) = i := by
    intro k k0 k1 e
    have key : ∀ n : Nat, k < n → 0 ≤ frI (fun j => decide (rst (qg (que S) j) = i)) n := by
      intro n
      induction n with
      | zero => intro h; omega
      | succ n ih =>
        intro h
        show 0 ≤ (if 0 ≤ frI (fun j => decide (rst (qg (que S) j) = i)) n then frI (fun j => decide (rst (qg (que S) j) = i)) n else if decide (rst (qg (que S) (n : Int)) = i) = true then (n : Int) else -1)
        split
        · next z => exact z
        · next z =>
          by_cases e2 : k = n
          · rw [e2] at e
            rw [if_pos (by simpa using e)]
            omega
          · exact absurd (ih (by omega)) z
    have := key (ql (que S)).toNat (by omega)
    unfold plQ at hp
    omega
  have hf0 := hF.1
  obtain ⟨a1, a2, a3, a4, a5, a6, a7, a8⟩ := h
  have hnn := ql_nn (que S)
  have hq : que (putS S i f H) = que S ++ [(i, f, H, 0)] := rfl
  have hnew : RqW F (putS S i f H) (i, f, H, 0) := by
    refine ⟨hi, ⟨?_, ?_⟩, hok, ⟨h1, h4⟩, hle, by show (0 : Int) ≤ 0; decide, by show (0 : Int) ≤ 3; decide⟩
    · show -1 ≤ f
      rcases hf with z | z
      · omega
      · have := z.1; omega
    · show f < F.1
      rcases hf with z | z
      · omega
      · exact z.2
  refine ⟨a1, a2, a3, ?_, fun k k0 k1 => ?_, fun k j k0 kj j1 => ?_, fun k j k0 kj j1 => ?_, a8⟩
  · rw [hq, ql_app]; omega
  · rw [hq, ql_app] at k1
    rw [hq]
    by_cases e : k < ql (que S)
    · rw [qg_app k0 e]; exact RqW_nst (S := S) rfl (a5 k k0 e)
    · rw [qg_app' (by omega)]; exact hnew
  · rw [hq, ql_app] at j1
    rw [hq, qg_app k0 (by omega)]
    by_cases e : j < ql (que S)
    · rw [qg_app (by omega) e]; exact a6 k j k0 kj e
    · rw [qg_app' (by omega)]; exact hno k k0 (by omega)
  · rw [hq, ql_app] at j1
    rw [hq, qg_app k0 (by omega)]
    by_cases e : j < ql (que S)
    · rw [qg_app (by omega) e]; exact a7 k j k0 kj e
    · rw [qg_app' (by omega)]
      intro z
      have z2 : (0 : Int) < 0 := z.2
      omega
theorem fst4_ok {H : Iv} {m : Int} (hm : m ≤ 4000000) (h0 : 0 < ln H) (hh : ∀ j, 0 ≤ j → j < ln H → 0 ≤ lb H j ∧ lb H j ≤ le_ H j ∧ le_ H j ≤ m ∧ (j + 1 < ln H → le_ H j + 2 ≤ lb H (j + 1))) : ok (fst4 H) ∧ 1 ≤ ln (fst4 H) ∧ ln (fst4 H) ≤ 4 ∧ ∀ j, 0 ≤ j → j < ln (fst4 H) → le_ (fst4 H) j ≤ m := by
  have e := ln_tk (n := min (ln H) 4) (L := H) (by omega) (by omega)
  unfold fst4
  refine ⟨ok_tk (by omega) (by omega) (by omega) hm hh, by omega, by omega, fun j j0 j1 => ?_⟩
  rw [e] at j1
  rw [le_tk j0 j1]
  exact (hh j j0 (by omega)).2.2.1
theorem SaW_reqD {F : Fl} {S : Sa} {i : Int} (hF : FW F) (h : SaW F S) (hn : now S ≤ 2000000) : SaW F (rReqD S i).2 := by
  unfold rReqD
  by_cases c : stnP S i
  · rw [cif_p c]
    by_cases d : mayP S i ∧ 0 < ln (dirH S i)
    · rw [cif_p d]
      by_cases e : 6 ≤ ql (que S)
      · rw [cif_p e]; exact h
      · rw [cif_n e]
        have hs := h.2.2.1 i c.1 c.2
        have hh := (ok_holes hs.2.1 (last := now S) (by omega)).2
        have g := fst4_ok (H := dirH S i) (m := now S) (by omega) d.2 hh
        exact SaW_put h c d.1.2 (by omega) (Or.inl rfl) hF g.1 g.2.1 g.2.2.1 (fun j j0 j1 => ⟨by have := g.2.2.2 j j0 j1; omega, fun z => absurd z (by decide)⟩)
    · rw [cif_n d]; exact h
  · rw [cif_n c]; exact h
theorem SaW_reqF {F : Fl} {S : Sa} {i f : Int} (hF : FW F) (h : SaW F S) : SaW F (rReqF F S i f).2 := by
  unfold rReqF
  by_cases c : stfP F S i f
  · rw [cif_p c]
    by_cases d : filP F S i f
    · rw [cif_p d]
      by_cases e : 6 ≤ ql (que S)
      · rw [cif_p e]; exact h
      · rw [cif_n e]
        have hs := h.2.2.1 i c.1.1 c.1.2
        have hb := opl_bd (sts S i) f
        have ho := hs.2.2.1 _ d.1 hb.2.1
        have hfl := hF.2.2 f c.2.1 c.2.2
        have hle : ∀ j, 0 ≤ j → j < ln (ol (sts S i) (opl (sts S i) f)) → le_ (ol (sts S i) (opl (sts S i) f)) j ≤ F.2 f 0 - 1 := fun j j0 j1 => by
          have := ho.2.2.2.1 (by rw [hb.2.2 d.1]; exact c.2.1) j j0 j1
          rw [hb.2.2 d.1] at this
          omega
        have hno := holes_none ho.2.2.1 (last := F.2 f 0 - 1) (by omega) (by omega) hle
        have hpos : 0 < ln (filH F S i f) := by
          rcases Int.lt_or_le 0 (ln (filH F S i f)) with z | z
          · exact z
          · exfalso
            apply d.2.2.1
            have := hno.mpr (by unfold filH at z; omega)
            omega
        have hh := (ok_holes ho.2.2.1 (last := F.2 f 0 - 1) (by omega)).2
        have g := fst4_ok (H := filH F S i f) (m := F.2 f 0 - 1) (by omega) hpos hh
        exact SaW_put h c.1 d.2.2.2.2 (by omega) (Or.inr c.2) hF g.1 g.2.1 g.2.2.1 (fun j j0 j1 => ⟨by have := g.2.2.2 j j0 j1; omega, fun z => by have := g.2.2.2 j j0 j1; omega⟩)
    · rw [cif_n d]; exact h
  · rw [cif_n c]; exact h
theorem reqF_same {F : Fl} {S : Sa} {i f : Int} : now (rReqF F S i f).2 = now S ∧ nst (rReqF F S i f).2 = nst S ∧ sts (rReqF F S i f).2 = sts S := by
  unfold rReqF
  by_cases c : stfP F S i f
  · rw [cif_p c]
    by_cases d : filP F S i f
    · rw [cif_p d]
      by_cases e : 6 ≤ ql (que S)
      · rw [cif_p e]; exact ⟨rfl, rfl, rfl⟩
      · rw [cif_n e]; exact ⟨rfl, rfl, rfl⟩
    · rw [cif_n d]; exact ⟨rfl, rfl, rfl⟩
  · rw [cif_n c]; exact ⟨rfl, rfl, rfl⟩
/-- after j ticks -/
theorem ticN_ok {F : Fl} {S : Sa} {K : Int → Int} (hF : FW F) (h : SaW F S) : ∀ j : Nat, SaW F (ticN F j (S, K)).1 ∧ now (ticN F j (S, K)).1 = now S + j ∧ nst (ticN F j (S, K)).1 = nst S ∧ (∀ i, nst S ≤ i → sts (ticN F j (S, K)).1 i = sts S i) ∧ (-1 ≤ K 0 → -1 ≤ (ticN F j (S, K)).2 0)
  | 0 => ⟨h, by show now S = now S + ((0 : Nat) : Int); omega, rfl, fun _ _ => rfl, fun z => z⟩
  | j + 1 => by
    obtain ⟨a1, a2, a3, a4, a5⟩ := ticN_ok (K := K) hF h j
    refine ⟨(SaW_tick hF a1).1, ?_, a3, fun i hi => ?_, fun _ => ?_⟩
    · show now (ticN F j (S, K)).1 + 1 = _
      rw [a2]
      omega
    · show sts (ticS F (ticN F j (S, K)).1) i = _
      rw [sts_tic (by rw [a3]; exact hi)]
      exact a4 i hi
    · show -1 ≤ (tkFr F (ticN F j (S, K)).1).1
      have := tkFr_k (S := (ticN F j (S, K)).1) hF a1
      omega
section API
variable {σ : ms_T} {F : Fl} {S : Sa} {K : Int → Int} {n : Int} {T : Int → Int} {Q : mq_T}
set_option maxHeartbeats 4000000 in
theorem C_run {m : Int} (h : ClC σ F S K n T) (hw : StW F S K n T) (hQ : ∀ τ, Sq σ τ inCl → ClC τ F (rRun F S K m).2.1 (rRun F S K m).2.2 n T → Q (some (vI (rRun F S K m).1)) τ) : Ca n_X8_run [vR (some 1), vI m] σ Q := by
  unfold rRun at hQ
  have hn1 := hw.2.2.1
  have hno := hw.2.1.2.1
  refine vc_X8_run _ _ _ _ (X8_within (fun d => ⟨1, rfl, fun _ => ?_, fun z => absurd (show ¬ (1 : Int) = 0 by decide) z⟩) (fun d => ⟨0, rfl, fun z => absurd rfl z, fun _ => ?_⟩))
  · rw [cif_p d] at hQ
    simp only [h.1.1, h.1.2.2.1, h.2.2.1.1.1.1, h.2.2.1.2.1, isS_some, true_and]
    rw [wr_i (x := now S + m) (by omega)]
    refine ⟨fun e => ?_, fun e => ?_⟩
    · rw [cif_p e] at hQ
      have key : ∀ (k : Nat) (j : Int) (τ : ms_T), 0 ≤ j → j ≤ m → m - j < k → Sq σ τ inCl → ClC τ F (ticN F j.toNat (S, K)).1 (ticN F j.toNat (S, K)).2 n T → At n_X8_run 32 [some (vR (some 1)), some (vI m), some (vI j)] [] τ Q := by
        intro k
        induction k with
        | zero => intro j τ h0 h1 h2; omega
        | succ k ih =>
          intro j τ h0 h1 h2 hs hC
          obtain ⟨a1, a2, a3, a4, a5⟩ := ticN_ok (K := K) hw.1 hw.2.1 j.toNat
          refine vc_X8_run_32 _ _ _ _ _ ?_
          simp only [hC.1.1, hC.1.2.2.1, hC.2.2.1.1.1.1, hC.2.2.1.2.1, isS_some, true_and]
          rw [wr_i (x := j + 1) (by omega)]
          refine ⟨fun g => ?_, fun g => ?_⟩
          · have ej : j = m := by omega
            rw [a2, Int.toNat_of_nonneg h0, ej]
            rw [ej] at hC
            exact hQ τ hs hC
          · refine hC.tick hw.1 a1 (by rw [a2]; omega) (fun υ hs2 hC2 => ⟨rfl, ?_⟩)
            refine ih (j + 1) υ (by omega) (by omega) (by omega) (hs.tr hs2) ?_
            rw [show (j + 1).toNat = j.toNat + 1 by omega]
            exact hC2
      exact key (m + 1).toNat 0 σ (by omega) (by omega) (by omega) Sq.rf h
    · rw [cif_n e] at hQ; exact hQ σ Sq.rf h
  · rw [cif_n d] at hQ; exact hQ σ Sq.rf h
theorem C_time (h : ClC σ F S K n T) (hQ : Q (some (vI (now S))) σ) : Ca n_X8_time [vR (some 1)] σ Q := by
  refine vc_X8_time _ _ _ ?_
  simp only [h.1.1, h.1.2.2.1, h.2.2.1.1.1.1, h.2.2.1.2.1, isS_some, true_and]
  exact hQ
set_option maxHeartbeats 4000000 in
theorem C_lastFrame {w : Int} (h : ClC σ F S K n T) (hQ : Q (some (vI (rLast K w))) σ) : Ca n_X8_lastFrame [vR (some 1), vI w] σ Q := by
  obtain ⟨⟨⟨k1, k2, k3, k4, k5, k6, k7, k8, k9⟩, k10, k11⟩, e6, e2, hst, hq, ht⟩ := h.2.2.1
  obtain ⟨t0, t1, t2⟩ := h.2.2.2.2.2.2
  unfold rLast at hQ
  refine vc_X8_lastFrame _ _ _ _ (X8_within (fun d => ⟨1, rfl, fun _ => ?_, fun z => absurd (show ¬ (1 : Int) = 0 by decide) z⟩) (fun d => ⟨0, rfl, fun z => absurd rfl z, fun _ => ?_⟩))
  · rw [cif_p d] at hQ
    by_cases c : K 0 < 0
    · have b0 : gi σ (7 + 28) 0 = 0 := t1 c
      simp only [h.1.1, h.1.2.2.1, k1, k5, k8, b0, isS_some, true_and]
      rw [cif_p (Or.inl c)] at hQ
      exact ⟨fun _ => hQ, fun z => absurd trivial z⟩
    · obtain ⟨-, b0, b1, b2, b3, b4, b5⟩ := t2 (by omega)
      have b0 : gi σ (7 + 28) 0 = 1 := b0
      have b1 : gi σ (7 + 28) 1 = K 0 := b1
      have b2 : gi σ (7 + 28) 2 = K 1 := b2
      have b3 : gi σ (7 + 28) 3 = K 2 := b3
      have b4 : gi σ (7 + 28) 4 = K 3 := b4
      have b5 : gi σ (7 + 28) 5 = K 4 := b5
      simp only [h.1.1, h.1.2.2.1, k1, k5, k8, b0, b1, b2, b3, b4, b5, isS_some, true_and]
      have val : ¬ (K 0 < 0 ∨ (K 0 = 0 ∧ 2 ≤ w ∧ w ≤ 3)) → Q (some (vI (K w))) σ := fun z => by rw [cif_n z] at hQ; exact hQ
      have non : (K 0 < 0 ∨ (K 0 = 0 ∧ 2 ≤ w ∧ w ≤ 3)) → Q (some (vI (-4))) σ := fun z => by rw [cif_p z] at hQ; exact hQ
      refine ⟨fun z => absurd z (by decide), fun _ => ⟨fun e => ⟨fun g => ?_, fun g => ?_, fun g => ?_, fun g => ?_, fun g => ?_, trivial⟩, fun e => ⟨fun g => non (by omega), fun g => ⟨fun g2 => ⟨fun y => ?_, fun y => ?_, fun y => ?_, fun y => ?_, fun y => ?_, trivial⟩, fun g2 => non (by omega)⟩⟩⟩⟩
      · have g' : w < 0 ∨ 0 + (((4 : Nat) : Int) : Int) ≤ w := g
        have := val (by omega); rw [show w = 4 by omega] at this; exact this
      · have := val (by omega); rw [show w = 0 by omega] at this; exact this
      · have := val (by omega); rw [show w = 1 by omega] at this; exact this
      · have := val (by omega); rw [show w = 2 by omega] at this; exact this
      · have := val (by omega); rw [show w = 3 by omega] at this; exact this
      · have y' : w < 0 ∨ 0 + (((4 : Nat) : Int) : Int) ≤ w := y
        have := val (by omega); rw [show w = 4 by omega] at this; exact this
      · have := val (by omega); rw [show w = 0 by omega] at this; exact this
      · have := val (by omega); rw [show w = 1 by omega] at this; exact this
      · omega
      · omega
  · rw [cif_n d] at hQ; exact hQ
theorem C_total {w : Int} (h : ClC σ F S K n T) (hQ : Q (some (vI (rTot S w))) σ) : Ca n_X8_total [vR (some 1), vI w] σ Q := by
  obtain ⟨⟨⟨k1, k2, k3, k4, k5, k6, k7, k8, k9⟩, k10, k11⟩, e6, e2, hst, hq, ht⟩ := h.2.2.1
  unfold rTot at hQ
  refine vc_X8_total _ _ _ _ (X8_within (fun d => ⟨1, rfl, fun _ => ?_, fun z => absurd (show ¬ (1 : Int) = 0 by decide) z⟩) (fun d => ⟨0, rfl, fun z => absurd rfl z, fun _ => ?_⟩))
  · rw [cif_p d] at hQ
    simp only [h.1.1, h.1.2.2.1, k1, k6, k9, ht w d.1 (by omega), isS_some, true_and]
    exact ⟨d.1, by omega, hQ⟩
  · rw [cif_n d] at hQ; exact hQ
theorem C_stationTotal {i w : Int} (h : ClC σ F S K n T) (hw : StW F S K n T) (hQ : Q (some (vI (rSTot S i w))) σ) : Ca n_X8_stationTotal [vR (some 1), vI i, vI w] σ Q := by
  unfold rSTot at hQ
  refine vc_X8_stationTotal _ _ _ _ _ ⟨h.1.1, X8_isStation h (fun c => ⟨1, rfl, fun z => absurd z (by decide), fun _ => ?_⟩) (fun c => ⟨0, rfl, fun _ => ?_, fun z => absurd rfl z⟩)⟩
  · obtain ⟨g1, g2, g3, g4, g5, g6, g7, hS, hSW, hi5⟩ := toSt h hw c
    refine X8_within (fun d => ⟨1, rfl, fun _ => ?_, fun z => absurd (show ¬ (1 : Int) = 0 by decide) z⟩) (fun d => ⟨0, rfl, fun z => absurd rfl z, fun _ => ?_⟩)
    · rw [cif_p ⟨c, d⟩] at hQ
      simp only [g1, g2, g3, g4, g5, g6, g7, hS.1.2.2.2.2.1, hS.1.2.2.2.2.2.2.2.1, hS.2.2.2.2 w d.1 (by omega), isS_some, true_and]
      exact ⟨by decide, by decide, c.1, by omega, d.1, by omega, hQ⟩
    · rw [cif_n fun z => d z.2] at hQ; exact hQ
  · rw [cif_n fun z => c z.1] at hQ; exact hQ
end API
