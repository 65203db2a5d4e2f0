section BODY
variable {p : Program} {l : Launch} {e : Env} {R : Room} {s : State} {m : MethodId} {args : Array Value} {below : List Frame} {meth : Method} {c : Code} {z b L : Nat} {xs : Nat → Int32} {D : va_G} {dA : Nat → ClassId} {j : Nat}
set_option maxHeartbeats 4000000 in
set_option maxRecDepth 100000 in
theorem bd_64 {a0 : Nat} {k0 : Nat} {n0 : Nat} {rk' : Nat} {ci : Nat} (hC : Ctx p R s m args meth c z b L xs D dA j) {N : Nat} (hS : ∀ k, k < N → SimAt l z b L xs D dA k) {v : Option mv_T} {τ : ms_T} {g0 l0 : Nat} {Z : State → Prop} (hs0 : s.heap.size = z + g0) (hgR : gn τ - g0 ≤ R.cells ∧ gl τ - l0 ≤ R.slots)
    (hZ : ∀ (pc : Nat) (H : Heap) (locs : List Loc) (lsR : Array Slot), retOK j pc v → HR z b L xs D dA τ H → va_S (fun q => z ≤ q) s.heap H locs → W p l e R s m args below meth c H locs (gn τ - g0) (gl τ - l0) Z (F0 m pc lsR (v.toList.map (vt z b))))
    {n : Nat} (hnN : n + 1 ≤ N) {pc : Nat} {ls : ml_T} {st : List mv_T} {σ : ms_T} {H : Heap} {locs : List Loc} {lsR : Array Slot} (hlew : gn σ ≤ gn τ ∧ gl σ ≤ gl τ) (hL : LR z b (mxl j) ls lsR) (hst : ∀ a ∈ st, inV a) (hH : HR z b L xs D dA σ H) (hSS : va_S (fun q => z ≤ q) s.heap H locs) (hg0 : g0 ≤ gn σ) (hl0 : l0 ≤ gl σ)
    (ih : ∀ (pc : Nat) (ls : ml_T) (st : List mv_T) (σ : ms_T) (H : Heap) (locs : List Loc) (lsR : Array Slot), Wm n j pc ls st σ (fun v' τ' => v' = v ∧ τ' = τ) → LR z b (mxl j) ls lsR → (∀ a ∈ st, inV a) → HR z b L xs D dA σ H → va_S (fun q => z ≤ q) s.heap H locs → g0 ≤ gn σ → l0 ≤ gl σ →
      W p l e R s m args below meth c H locs (gn σ - g0) (gl σ - l0) Z (F0 m pc lsR (st.map (vt z b))))
    (ck : ckE j pc (.invokevirtual a0, [k0, n0, rk', ci], 0) = true) (h : wpi pc (.invokevirtual a0, [k0, n0, rk', ci], 0) (mrt j) ls st σ (fun pc' ls' st' σ' => Wm n j pc' ls' st' σ' (fun v' τ' => v' = v ∧ τ' = τ)) (fun j' as σ' k => Wm n j' 0 (pad (mxl j') as) [] σ' k) (fun v' τ' => v' = v ∧ τ' = τ)) : W p l e R s m args below meth c H locs (gn σ - g0) (gl σ - l0) Z (F0 m pc lsR (st.map (vt z b))) := by
  obtain ⟨hx, hb, hml, hret, hlocks, hown, hts, hmn, hK, hnw, hAO, hRF, hRL, hX, hbz, hzs, hj, hL25⟩ := hC
  have hbs : b < s.heap.size := by omega
  have hbA : ¬ (fun q : Nat => z ≤ q) b := by show ¬ z ≤ b; omega
  unfold wpi at h
  dsimp only at h
  simp only [ckE, dq, dqa, Bool.and_eq_true, Bool.or_eq_true, decide_eq_true_eq, beq_iff_eq, Nat.blt_eq, Nat.ble_eq] at ck
  obtain ⟨hd, hmt, hi, hse, hoc, ho9, hml2, hcall⟩ := ck
  obtain ⟨as, r, est, elen, g⟩ := popn_st _ _ _ _ h
  clear h
  subst est
  have h := g
  clear g
  rw [List.append_nil] at h
  obtain ⟨x0, r0, e0, g0'⟩ := pR_inv h
  clear h
  subst e0
  obtain ⟨cc, e9, g9⟩ := isS_inv g0'
  subst e9
  obtain ⟨hgs, h⟩ := g9
  obtain ⟨hgd, h⟩ := gd_inv h
  obtain ⟨hgd, hal⟩ := gd_and hgd
  have hmw := Nat.le_of_ble_eq_true hgd
  obtain ⟨v1, τ1, hk, hW⟩ := Wm_pt h
  have hle1 := Wm_le hW
  unfold callOk at hcall
  simp only [Bool.and_eq_true, Nat.ble_eq, Nat.blt_eq, decide_eq_true_eq] at hcall
  obtain ⟨hf1, hl1, hcd, ho10, hmr, hpm⟩ := hcall
  obtain ⟨w4, hcd⟩ := has1_of hcd
  have hj' := yn_lt hcd
  have hpl := plain_ok _ hj'
  have hrt := rty_ok _ hj'
  obtain ⟨w1, hmt⟩ := has3_of hmt
  obtain ⟨w2, hi⟩ := has1_of hi
  obtain ⟨w3, hse⟩ := has1_of hse
  obtain ⟨q, rfl, hq⟩ := gd_in hH.2.2 (c := cc) (by rw [hgs]; show _ ≠ _; omega) (by rw [hgs]; show _ ≠ _; omega)
  have hin1 : ∀ a ∈ (vR (some (q + 1)) :: as), inV a := by
    intro a ha
    rcases List.mem_cons.mp ha with e | e
    · subst e; trivial
    · exact hst a (List.mem_append_left _ (List.mem_reverse.mpr e))
  have hst1 : ∀ a ∈ r0, inV a := fun a ha => hst a (List.mem_append_right _ (List.mem_cons_of_mem _ ha))
  have hM := hS n (by omega) _ (vR (some (q + 1)) :: as) σ v1 τ1 hj' (by show 1 + mwds as ≤ _; rw [mwds_all1 hal]; omega) hin1 hL25 hW
  obtain ⟨vs, hvs, hnext⟩ := rtn_get hk
  have hle2 := Wm_le hnext
  have hHS : z ≤ H.size := by rw [hH.1]; omega
  have hpre : ∀ U : State, U.heap = H → s.WarmedH U.vm → PcS z b L xs D dA (vR (some (q + 1)) :: as) σ (List.map (vt z b) (vR (some (q + 1)) :: as)).toArray U := fun U hU hWU => ⟨rfl, ⟨va_K.moved hWU.alike hK, fun q hq => (va_Nw.warmM hWU (hnw q hq)), ⟨va_AO.moved hWU.alike hAO.1, va_AO.moved hWU.alike hAO.2.1, va_AO.moved hWU.alike hAO.2.2⟩, by rw [hU]; exact (hX.kept (hSS.2.1 b hbs hbA)).moved hWU.alike, hbz, by rw [hU]; exact hHS⟩, by rw [hU]; exact hH⟩
  have hcode : (Cond.code (yn k0) (bts k0) (mxl k0) (rty k0)) ∈ lwg := codT_ok _ hcd
  have hinit : (Cond.initialized (yn k0).cls).before args s = true := by rw [hpl.2.1]; exact hts _ (ini_has ho10)
  have hlnk : (Cond.methodLink (cn (ow j)) a0 (yn k0)).before args s = true := hts _ (mthT_ok _ hmt)
  have hinst : (Cond.instanceMethod (yn k0)).before args s = true := hts _ (insT_ok _ hi)
  have hsel : (Cond.selects (cn (ow k0)) (yn k0) (yn k0)).before args s = true := hts _ (selT_ok _ hse)
  have hcw := cwJ (k := k0) (R := R) (own := cn (ow j)) (index := a0) (mc := gn τ1 - gn σ) (ms := gl τ1 - gl σ) n0 hts hcode hlnk hinst hsel hinit hpl hpm ⟨by show rmF k0 + 1 ≤ R.frames; omega, by show 8 + (mxl k0 + 11) + rmL k0 ≤ R.locals; omega⟩
  have hwe := wo_get (z := z) (b := b) (dA := dA) hq
  rw [wnt_obj hgs ho9] at hwe
  have hrun : va_Run p l e R s m args below meth c H locs (gn σ - g0) (gl σ - l0) (gn τ1 - gn σ) (gl τ1 - gl σ) (F0 m pc lsR ((as.reverse ++ vR (some (q + 1)) :: r0).map (vt z b))) (r0.map (vt z b)) (QcS z b L xs D dA v1 τ1 (Value.ref (z + q) :: as.map (vt z b)).toArray) (fun q => z ≤ q) :=
    va_runV (As := as.map (vt z b)) (rest := r0.map (vt z b)) ⟨hx, hb, hml, hown, hts⟩ hM hcw ⟨blind_P, by rw [hoc]; exact va_recv hK hH.2.1 (cls_ok _ ho9) hwe, hpre⟩ rfl (by rw [List.length_map]; exact elen) hL.1.1 (by simp [vt, va_rf, ad]) (by rw [mwds_sum]; simpa [JFrame.monitorRoom] using hmw) hd ⟨by omega, by omega⟩
  refine runJ hrun hSS ?_
  intro H1 locs1 hv1 hH1 hS1
  refine W.cnt (cells2 := gn τ1 - g0) (slots2 := gl τ1 - l0) (by omega) (by omega) ?_
  rw [← hvs, ← List.map_append]
  exact ih _ _ (vs ++ r0) _ _ _ _ hnext hL (okapp hvs hv1 hst1) hH1 hS1 (by omega) (by omega)
end BODY
