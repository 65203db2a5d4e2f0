section M
variable {σ : ms_T} {m : Nat} {F : Fl} {S : Sa} {K : Int → Int} {n : Int} {T : Int → Int} {Q : mq_T}
set_option maxHeartbeats 8000000 in
theorem M_addStation {p o d r : Int} (h : MoC σ m F S K n T) (hw : StX F S K n T) (hQ : ∀ τ, Sm σ τ (inMo m) → MoC τ m F (rAdd S p o d r).2 K n T → Q (some (vI (rAdd S p o d r).1)) τ) : Ca n_X9_addStation [vR (some m), vI p, vI o, vI d, vI r] σ Q := by
  have bad : ¬ addP p o d r → Q (some (vI (-1))) σ := fun z => by unfold rAdd at hQ; rw [cif_n z] at hQ; exact hQ σ Sm.rf h
  unfold addP at bad
  refine vc_X9_addStation _ _ _ _ _ _ _ (X9_in (fun d1 => ⟨1, rfl, fun z => absurd z (by decide), fun _ => X9_in (fun d2 => ⟨1, rfl, fun z => absurd z (by decide), fun _ => X9_in (fun d3 => ⟨1, rfl, fun z => absurd z (by decide), fun _ => X9_in (fun d4 => ⟨1, rfl, fun _ => ?_, fun z => absurd (show ¬ (1 : Int) = 0 by decide) z⟩) (fun d4 => ⟨0, rfl, fun z => absurd rfl z, fun _ => bad fun z => d4 z.2.2.2⟩)⟩) (fun d3 => ⟨0, rfl, fun _ => bad fun z => d3 z.2.2.1, fun z => absurd rfl z⟩)⟩) (fun d2 => ⟨0, rfl, fun _ => bad fun z => d2 z.2.1, fun z => absurd rfl z⟩)⟩) (fun d1 => ⟨0, rfl, fun _ => bad fun z => d1 z.1, fun z => absurd rfl z⟩))
  have hP : addP p o d r := ⟨d1, d2, d3, d4⟩
  unfold rAdd at hQ
  rw [cif_p hP] at hQ
  obtain ⟨s0, g0, g1, g2, g4, g5, g11, z1, z2, z3, z4, z5, z6⟩ := h.1
  have e1 : gi σ (m + 1) (1 : Int).toNat = nst S := h.2.1.2.1.1.2
  have hn := hw.2.1.1
  simp only [s0, g0, z1, e1, isS_some, true_and]
  refine ⟨by decide, by decide, fun c => ⟨by decide, by decide, X9_stationAt hn.1 (by omega) ⟨_, rfl, ?_⟩⟩, fun c => ?_⟩
  · rw [cif_n c] at hQ
    have hb : sb (nst S) = 202 + 113 * nst S := rfl
    rw [wr_i (x := sb (nst S) + 0) (by omega), wr_i (x := sb (nst S) + 1) (by omega), wr_i (x := sb (nst S) + 2) (by omega), wr_i (x := sb (nst S) + 3) (by omega)]
    simp only [gs_sI, gr_sI, s0, g0, z1, isS_some, true_and]
    refine ⟨by omega, by omega, by omega, by omega, by omega, by omega, by omega, by omega, ?_⟩
    generalize hτ : sI (sI (sI (sI σ (m + 1) (sb (nst S) + 0).toNat p) (m + 1) (sb (nst S) + 1).toNat o) (m + 1) (sb (nst S) + 2).toNat d) (m + 1) (sb (nst S) + 3).toNat r = τ
    have hs : Sm σ τ (fun c => c = m + 1) := by rw [← hτ]; exact Sm.st (P := fun c => c = m + 1) (Sm.st (P := fun c => c = m + 1) (Sm.st (P := fun c => c = m + 1) Sm.one rfl) rfl) rfl
    have he : ∀ j, 0 ≤ j → ro τ m j = if j = sb (nst S) + 3 then r else if j = sb (nst S) + 2 then d else if j = sb (nst S) + 1 then o else if j = sb (nst S) + 0 then p else ro σ m j := fun j j0 => by rw [← hτ, ro_st j0 (by omega), ro_st j0 (by omega), ro_st j0 (by omega), ro_st j0 (by omega)]
    clear hτ
    have key : ∀ (k : Nat) (c : Int) (υ : ms_T), 0 ≤ c → c ≤ 3 → 3 - c < k → Sm σ υ (fun c => c = m + 1) → (∀ j, 0 ≤ j → ¬ (j = sb (nst S) + 31 ∨ j = sb (nst S) + 57 ∨ j = sb (nst S) + 83) → ro υ m j = ro τ m j) → (∀ w, 0 ≤ w → w < c → ro υ m (sb (nst S) + 31 + 26 * w) = -1) → At n_X9_addStation 115 [some (vR (some m)), some (vI p), some (vI o), some (vI d), some (vI r), some (vI (nst S)), some (vI (sb (nst S))), some (vI c)] [] υ Q := by
      intro k
      induction k with
      | zero => intro c υ c0 c1 c2; omega
      | succ k ih =>
        intro c υ c0 c1 c2 hs2 hk hw2
        obtain ⟨s0, g0, g1, g2, g4, g5, g11, z1, z2, z3, z4, z5, z6⟩ := h.1.sm hs2
        have e1' : gi υ (m + 1) (1 : Int).toNat = nst S := by
          have := hk 1 (by omega) (by omega)
          rw [he 1 (by omega), if_neg (by omega), if_neg (by omega), if_neg (by omega), if_neg (by omega)] at this
          exact this.trans h.2.1.2.1.1.2
        refine vc_X9_addStation_115 _ _ _ _ _ _ _ _ _ _ ?_
        simp only [s0, g0, z1, e1', isS_some, true_and]
        rw [wr_i (x := nst S + 1) (by omega), wr_i (x := sb (nst S) + 31) (by omega), wr_i (x := 26 * c) (by omega), wr_i (x := sb (nst S) + 31 + 26 * c) (by omega), wr_i (x := c + 1) (by omega)]
        refine ⟨fun e => ⟨by decide, by decide, by decide, by decide, ?_⟩, fun e => ⟨by omega, by omega, ih (c + 1) _ (by omega) (by omega) (by omega) (hs2.st rfl) (fun j j0 z => ?_) (fun w w0 w1 => ?_)⟩⟩
        · have ek : ∀ j, 0 ≤ j → ¬ j = 1 → ro (sI υ (m + 1) (1 : Int).toNat (nst S + 1)) m j = ro υ m j := fun j j0 j1 => ro_nk j0 (by decide) j1
          have out : ∀ j, 0 ≤ j → ¬ j = 1 → ¬ (sb (nst S) ≤ j ∧ j < sb (nst S) + 113) → ro (sI υ (m + 1) (1 : Int).toNat (nst S + 1)) m j = ro σ m j := fun j j0 j1 z => by
            rw [ek j j0 j1, hk j j0 (by omega), he j j0, if_neg (by omega), if_neg (by omega), if_neg (by omega), if_neg (by omega)]
          have ins : ∀ j, 4 ≤ j → j < 113 → ¬ (j = 31 ∨ j = 57 ∨ j = 83) → ro (sI υ (m + 1) (1 : Int).toNat (nst S + 1)) m (sb (nst S) + j) = 0 := fun j j0 j1 z => by
            rw [ek _ (by omega) (by omega), hk _ (by omega) (by omega), he _ (by omega), if_neg (by omega), if_neg (by omega), if_neg (by omega), if_neg (by omega)]
            exact h.2.1.2.1.2.2.2.1 (nst S) (by omega) (by omega) j (by omega) j1
          have four : ∀ j, 0 ≤ j → j < 4 → ro (sI υ (m + 1) (1 : Int).toNat (nst S + 1)) m (sb (nst S) + j) = if j = 3 then r else if j = 2 then d else if j = 1 then o else p := fun j j0 j1 => by
            rw [ek _ (by omega) (by omega), hk _ (by omega) (by omega), he _ (by omega)]
            rcases (show j = 0 ∨ j = 1 ∨ j = 2 ∨ j = 3 by omega) with z | z | z | z <;> rw [z]
            · rw [if_neg (by omega), if_neg (by omega), if_neg (by omega), if_pos rfl]; rfl
            · rw [if_neg (by omega), if_neg (by omega), if_pos rfl]; rfl
            · rw [if_neg (by omega), if_pos rfl]; rfl
            · rw [if_pos rfl]; rfl
          have hf : sts S (nst S) = frs := hw.2.2.2.2.2.1 (nst S) (by omega) (by omega)
          have eU : ∀ k, up (up (up (up (sc frs) 0 p) 1 o) 2 d) 3 r k = if k = 3 then r else if k = 2 then d else if k = 1 then o else if k = 0 then p else sc frs k := fun k => rfl
          have hst : StR (ro (sI υ (m + 1) (1 : Int).toNat (nst S + 1)) m) (nst S) (up (up (up (up (sc frs) 0 p) 1 o) 2 d) 3 r, cov frs, of_ frs, ol frs, ct frs) := by
            refine ⟨fun w w0 w6 => ?_, LsR.nil (ins 6 (by decide) (by decide) (by decide)), fun k k0 k3 => ⟨?_, fun z => by have z : (0 : Int) ≤ -1 := z; omega⟩, fun w w0 w4 => ?_⟩
            · show _ = up (up (up (up (sc frs) 0 p) 1 o) 2 d) 3 r w
              rw [eU]
              by_cases w4 : w < 4
              · rw [four w w0 w4]
                rcases (show w = 0 ∨ w = 1 ∨ w = 2 ∨ w = 3 by omega) with z | z | z | z <;> rw [z] <;> rfl
              · rw [ins w (by omega) (by omega) (by omega)]
                rcases (show w = 4 ∨ w = 5 by omega) with z | z <;> rw [z] <;> rfl
            · show _ = (-1 : Int)
              rw [ek _ (by omega) (by omega)]
              exact hw2 k k0 (by omega)
            · show _ = (0 : Int)
              rw [show sb (nst S) + 109 + w = sb (nst S) + (109 + w) by omega]
              exact ins _ (by omega) (by omega) (by omega)
          have hR : MoR (ro (sI υ (m + 1) (1 : Int).toNat (nst S + 1)) m) F (admS S p o d r) K := by
            refine ⟨h.2.1.1.eqv hw.1.2.1 (fun j z => out j (by omega) (by omega) (by omega)), ⟨⟨(out 0 (by omega) (by omega) (by omega)).trans h.2.1.2.1.1.1, ro_eq⟩, h.2.1.2.1.2.1.eqv hw.2.1.2.2.2.1 (MoC.q4 hw.2.1) (fun j z => out j (by omega) (by omega) (by omega)), fun j a b => ?_, fun j a b => ?_, fun w a b => (out _ (by omega) (by omega) (by omega)).trans (h.2.1.2.1.2.2.2.2 w a b)⟩, by rw [out 4 (by omega) (by omega) (by omega), out 5 (by omega) (by omega) (by omega)]; exact h.2.1.2.2.1, fun w a b => (out _ (by omega) (by omega) (by omega)).trans (h.2.1.2.2.2 w a b)⟩
            · have b : j < nst S + 1 := b
              show StR _ j (up (sts S) (nst S) _ j)
              by_cases e5 : j = nst S
              · rw [e5, up_eq, hf]; exact hst
              · rw [up_ne e5]
                exact (h.2.1.2.1.2.2.1 j a (by omega)).loc (hw.2.1.2.2.1 j a (by omega)) fun k k0 k1 => out k (by unfold sb at k0; omega) (by unfold sb at *; omega) (by unfold sb at *; omega)
            · have a : nst S + 1 ≤ j := a
              exact (h.2.1.2.1.2.2.2.1 j (by omega) b).eqv fun k k0 k1 => out k (by unfold sb at k0; omega) (by unfold sb at *; omega) (by unfold sb at *; omega)
          have hh := h.row (hs2.st (c := m + 1) (k := (1 : Int).toNat) (v := nst S + 1) rfl) (fun c hc => Or.inl hc) hR
          exact hQ _ hh.1 hh.2
        · rw [ro_nk j0 (by omega) (by omega)]; exact hk j j0 z
        · by_cases e5 : w = c
          · rw [e5, ro_eq]
          · rw [ro_nk (by omega) (by omega) (by omega)]; exact hw2 w w0 (by omega)
    exact key 4 0 τ (by omega) (by omega) (by omega) hs (fun _ _ _ => rfl) (fun w w0 w1 => by omega)
  · rw [cif_p (Decidable.not_not.mp c)] at hQ; exact hQ σ Sm.rf h
set_option maxHeartbeats 8000000 in
theorem M_store {l s t : Int} (h : MoC σ m F S K n T) (hw : StX F S K n T) (hQ : ∀ τ, Sm σ τ (inMo m) → MoC τ m (rStore F (now S) l s t).2 S K n T → Q (some (vI (rStore F (now S) l s t).1)) τ) : Ca n_X9_store [vR (some m), vI l, vI s, vI t] σ Q := by
  have bad : ¬ stoP l s t → Q (some (vI (-1))) σ := fun z => by unfold rStore at hQ; rw [cif_n z] at hQ; exact hQ σ Sm.rf h
  have bad2 : ¬ stoP l s t → At n_X9_store 32 [some (vR (some m)), some (vI l), some (vI s), some (vI t), none, none] [] σ Q := fun z => vd_X9_store_32 _ _ _ _ _ _ (bad z)
  unfold stoP at bad2
  refine vd_X9_store _ _ _ _ _ _ (X9_in (fun d1 => ⟨1, rfl, fun z => absurd z (by decide), fun _ => X9_in (fun d2 => ⟨1, rfl, fun z => absurd z (by decide), fun _ => X9_in (fun d3 => ⟨1, rfl, fun _ => ?_, fun z => absurd (show ¬ (1 : Int) = 0 by decide) z⟩) (fun d3 => ⟨0, rfl, fun z => absurd rfl z, fun _ => bad2 fun z => d3 z.2.2⟩)⟩) (fun d2 => ⟨0, rfl, fun _ => bad2 fun z => d2 z.2.1, fun z => absurd rfl z⟩)⟩) (fun d1 => ⟨0, rfl, fun _ => bad2 fun z => d1 z.1, fun z => absurd rfl z⟩))
  have hP : stoP l s t := ⟨d1, d2, d3⟩
  unfold rStore at hQ
  rw [cif_p hP] at hQ
  obtain ⟨s0, g0, g1, g2, g4, g5, g11, z1, z2, z3, z4, z5, z6⟩ := h.1
  have e2 : gi σ (m + 1) (2 : Int).toNat = F.1 := h.2.1.1.1
  have e0 : gi σ (m + 1) (0 : Int).toNat = now S := h.2.1.2.1.1.1
  have f0 := hw.1.1
  have f30 := hw.1.2.1
  have x8 := hw.2.2.2.2.1
  have go : ¬ (0 < F.1 ∧ F.2 (F.1 - 1) 1 = now S) → At n_X9_store 68 [some (vR (some m)), some (vI l), some (vI s), some (vI t), some (vI F.1), none] [] σ Q := by
    intro z
    rw [cif_n z] at hQ
    refine vd_X9_store_68 _ _ _ _ _ _ _ ⟨s0, M_existing h hw ⟨_, rfl, fun y => ?_, fun y => ⟨fun y2 => ?_, fun y2 => ?_⟩⟩⟩
    · rw [cif_p (Or.inl (by omega))] at hQ; exact hQ σ Sm.rf h
    · rw [cif_n fun z => by omega] at hQ
      rw [wr_i (x := 4 * F.1) (by omega), wr_i (x := 16 + 4 * F.1) (by omega), wr_i (x := 16 + 4 * F.1 + 0) (by omega), wr_i (x := 16 + 4 * F.1 + 1) (by omega), wr_i (x := 16 + 4 * F.1 + 2) (by omega), wr_i (x := 16 + 4 * F.1 + 3) (by omega)]
      have t0 : gi (sI σ (m + 1) (16 + 4 * F.1 + 0).toNat l) (m + 1) (0 : Int).toNat = now S := (gi_nk (by omega)).trans e0
      simp only [gs_sI, gr_sI, s0, g0, z1, t0, isS_some, true_and]
      generalize hτ : sI (sI (sI (sI σ (m + 1) (16 + 4 * F.1 + 0).toNat l) (m + 1) (16 + 4 * F.1 + 1).toNat (now S)) (m + 1) (16 + 4 * F.1 + 2).toNat t) (m + 1) (16 + 4 * F.1 + 3).toNat s = τ
      have hs : Sm σ τ (fun c => c = m + 1) := by rw [← hτ]; exact Sm.st (P := fun c => c = m + 1) (Sm.st (P := fun c => c = m + 1) (Sm.st (P := fun c => c = m + 1) Sm.one rfl) rfl) rfl
      have he : ∀ j, 0 ≤ j → ro τ m j = if j = 16 + 4 * F.1 + 3 then s else if j = 16 + 4 * F.1 + 2 then t else if j = 16 + 4 * F.1 + 1 then now S else if j = 16 + 4 * F.1 + 0 then l else ro σ m j := fun j j0 => by rw [← hτ, ro_st j0 (by omega), ro_st j0 (by omega), ro_st j0 (by omega), ro_st j0 (by omega)]
      clear hτ
      have e2' : gi τ (m + 1) (2 : Int).toNat = F.1 := by
        have := he 2 (by omega)
        rw [if_neg (by omega), if_neg (by omega), if_neg (by omega), if_neg (by omega)] at this
        exact this.trans e2
      rw [e2', wr_i (x := F.1 + 1) (by omega)]
      refine ⟨by omega, by omega, by decide, by decide, by omega, by omega, by omega, by omega, by omega, by omega, by decide, by decide, by decide, by decide, ?_⟩
      have out : ∀ j, 0 ≤ j → ¬ j = 2 → ¬ (16 + 4 * F.1 ≤ j ∧ j < 16 + 4 * F.1 + 4) → ro (sI τ (m + 1) (2 : Int).toNat (F.1 + 1)) m j = ro σ m j := fun j j0 j2 z => by
        rw [ro_nk j0 (by decide) j2, he j j0, if_neg (by omega), if_neg (by omega), if_neg (by omega), if_neg (by omega)]
      have hR : MoR (ro (sI τ (m + 1) (2 : Int).toNat (F.1 + 1)) m) (stoF F (now S) l s t) S K := by
        refine ⟨⟨ro_eq, fun f fa fb w w0 w4 => ?_⟩, h.2.1.2.1.eqv hw.2.1 (fun j z => out j (by omega) (by omega) (by omega)), by rw [out 4 (by omega) (by omega) (by omega), out 5 (by omega) (by omega) (by omega)]; exact h.2.1.2.2.1, fun w a b => (out _ (by omega) (by omega) (by omega)).trans (h.2.1.2.2.2 w a b)⟩
        have fb : f < F.1 + 1 := fb
        show _ = up F.2 F.1 (fun w => if w = 0 then l else if w = 1 then now S else if w = 2 then t else s) f w
        by_cases e5 : f = F.1
        · rw [e5, up_eq, ro_nk (by omega) (by decide) (by omega), he _ (by omega)]
          rcases (show w = 0 ∨ w = 1 ∨ w = 2 ∨ w = 3 by omega) with z | z | z | z <;> rw [z]
          · rw [if_neg (by omega), if_neg (by omega), if_neg (by omega), if_pos rfl]; rfl
          · rw [if_neg (by omega), if_neg (by omega), if_pos rfl]; rfl
          · rw [if_neg (by omega), if_pos rfl]; rfl
          · rw [if_pos rfl]; rfl
        · rw [up_ne e5, out _ (by omega) (by omega) (by omega)]
          exact h.2.1.1.2 f fa (by omega) w w0 w4
      have hh := h.row (hs.st (c := m + 1) (k := (2 : Int).toNat) (v := F.1 + 1) rfl) (fun c hc => Or.inl hc) hR
      exact hQ _ hh.1 hh.2
    · rw [cif_p (Or.inr (by omega))] at hQ; exact hQ σ Sm.rf h
  simp only [s0, g0, z1, e2, e0, isS_some, true_and]
  refine ⟨by decide, by decide, fun c => go fun z => by omega, fun c => ?_⟩
  rw [wr_i (x := F.1 - 1) (by omega)]
  refine X9_file h.1 (by omega) (by omega) (by decide) (by decide) ⟨_, rfl, ?_⟩
  rw [h.2.1.1.2 (F.1 - 1) (by omega) (by omega) 1 (by decide) (by decide)]
  simp only [s0, g0, z1, e0, isS_some, true_and]
  refine ⟨by decide, by decide, fun c2 => go fun z => c2 z.2, fun c2 => ?_⟩
  rw [cif_p ⟨by omega, Decidable.not_not.mp c2⟩] at hQ
  exact hQ σ Sm.rf h
end M
