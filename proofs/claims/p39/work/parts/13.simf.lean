section BODY
variable {p : Program} {l : Launch} {e : Env} {R : Room} {s : State} {m : MethodId} {args : Array Value} {below : List Frame} {meth : Method} {c : Code} {z b L : Nat} {xs : Nat → Int32} {D : va_G} {dA : Nat → ClassId} {j : Nat}
set_option maxHeartbeats 4000000 in
set_option maxRecDepth 100000 in
theorem bd_63 {a0 : Nat} {kd : Nat} {vw : Int} (hC : Ctx p R s m args meth c z b L xs D dA j) {N : Nat} (hS : ∀ k, k < N → SimAt l z b L xs D dA k) {v : Option mv_T} {τ : ms_T} {g0 l0 : Nat} {Z : State → Prop} (hs0 : s.heap.size = z + g0) (hgR : gn τ - g0 ≤ R.cells ∧ gl τ - l0 ≤ R.slots)
    (hZ : ∀ (pc : Nat) (H : Heap) (locs : List Loc) (lsR : Array Slot), retOK j pc v → HR z b L xs D dA τ H → va_S (fun q => z ≤ q) s.heap H locs → W p l e R s m args below meth c H locs (gn τ - g0) (gl τ - l0) Z (F0 m pc lsR (v.toList.map (vt z b))))
    {n : Nat} (hnN : n + 1 ≤ N) {pc : Nat} {ls : ml_T} {st : List mv_T} {σ : ms_T} {H : Heap} {locs : List Loc} {lsR : Array Slot} (hlew : gn σ ≤ gn τ ∧ gl σ ≤ gl τ) (hL : LR z b (mxl j) ls lsR) (hst : ∀ a ∈ st, inV a) (hH : HR z b L xs D dA σ H) (hSS : va_S (fun q => z ≤ q) s.heap H locs) (hg0 : g0 ≤ gn σ) (hl0 : l0 ≤ gl σ)
    (ih : ∀ (pc : Nat) (ls : ml_T) (st : List mv_T) (σ : ms_T) (H : Heap) (locs : List Loc) (lsR : Array Slot), Wm n j pc ls st σ (fun v' τ' => v' = v ∧ τ' = τ) → LR z b (mxl j) ls lsR → (∀ a ∈ st, inV a) → HR z b L xs D dA σ H → va_S (fun q => z ≤ q) s.heap H locs → g0 ≤ gn σ → l0 ≤ gl σ →
      W p l e R s m args below meth c H locs (gn σ - g0) (gl σ - l0) Z (F0 m pc lsR (st.map (vt z b))))
    (ck : ckE j pc (.anewarray a0, [kd], vw) = true) (h : wpi pc (.anewarray a0, [kd], vw) (mrt j) ls st σ (fun pc' ls' st' σ' => Wm n j pc' ls' st' σ' (fun v' τ' => v' = v ∧ τ' = τ)) (fun j' as σ' k => Wm n j' 0 (pad (mxl j') as) [] σ' k) (fun v' τ' => v' = v ∧ τ' = τ)) : W p l e R s m args below meth c H locs (gn σ - g0) (gl σ - l0) Z (F0 m pc lsR (st.map (vt z b))) := by
  obtain ⟨hx, hb, hml, hret, hlocks, hown, hts, hmn, hK, hnw, hAO, hRF, hRL, hX, hbz, hzs, hj, hL25⟩ := hC
  have hbs : b < s.heap.size := by omega
  have hbA : ¬ (fun q : Nat => z ≤ q) b := by show ¬ z ≤ b; omega
  unfold wpi at h
  dsimp only at h
  simp only [ckE, dq, dqa, Bool.and_eq_true, Bool.or_eq_true, decide_eq_true_eq, beq_iff_eq, Nat.blt_eq, Nat.ble_eq] at ck
  obtain ⟨hd, hkd⟩ := ck
  obtain ⟨x0, r0, e0, g0⟩ := pI_inv h
  clear h
  subst e0
  have h := g0
  clear g0
  have h0 : rg x0 := okh hst
  obtain ⟨c1, c2, h⟩ := h
  have hle := Wm_le h
  rw [gn_alc, gl_alc] at hle
  rcases hkd with ⟨hkd, hw⟩ | ⟨hkd, hw⟩ | ⟨hkd, hw⟩
  · subst hkd
    obtain ⟨w, hw⟩ := has3_of hw
    refine W.anew hx hb hown (hts _ (clT_ok _ hw)) (va_AO.use hAO.1) rfl hd rfl (by rw [← i32_0, i32_lt h0 rg0]; omega) (by rw [i32_clamp h0]; omega) (by omega) (by rw [i32_clamp h0]; omega) fun cA kA comp f1 f2 f3 f4 => ?_
    rw [i32_clamp h0]
    have hcA : cA = dA 62 := by obtain ⟨kA', comp', -, -, -, g4⟩ := (hK.2 2 _ rfl).2; exact Option.some.inj (f1.symm.trans g4)
    subst hcA
    refine W.cnt (cells2 := gn (alc σ 62 x0.toNat x0.toNat) - g0) (slots2 := gl (alc σ 62 x0.toNat x0.toNat) - l0) (by rw [gn_alc]; omega) (by rw [gl_alc]; omega) ?_
    have z1 : (H.push ({ cls := dA 62, slots := Array.replicate x0.toNat .null, vm := .none } : Cell)).size = z + gn σ + 1 := by rw [Array.size_push, hH.1]
    have o1 : ∀ q : Nat, q < z + gn σ → (H.push ({ cls := dA 62, slots := Array.replicate x0.toNat .null, vm := .none } : Cell))[q]? = H[q]? := fun q hq => by rw [Array.getElem?_push, if_neg (by rw [hH.1]; omega)]
    have e1 : (H.push ({ cls := dA 62, slots := Array.replicate x0.toNat .null, vm := .none } : Cell))[z + gn σ]? = some (arrV (dA 62) x0.toNat (fun _ => .null)) := by rw [← hH.1, Array.getElem?_push_size, ← arrV_new]
    rw [show H.size = z + gn σ from hH.1]
    exact ih _ _ (vR (some (gn σ + 1)) :: r0) _ _ _ _ h hL (okc trivial (okt hst)) (HR_new hH (Or.inr ⟨by omega, by show x0.toNat ≤ 1000; omega⟩) z1 o1 (by rw [wnt_ref (kd := 62) (by rw [gs_alc, if_pos rfl]) (by omega)]; refine (e1.trans ?_ : _ = _); rw [gs_alc, if_pos rfl]; show some _ = some (vp_cell _ _); rw [vp_cell_q]; congr 2; funext k; rw [gr_alc, if_pos rfl]; rfl)) (va_S_new hSS hH.1 z1 o1) (by rw [gn_alc]; omega) (by rw [gl_alc]; omega)
  · subst hkd
    obtain ⟨w, hw⟩ := has3_of hw
    refine W.anew hx hb hown (hts _ (clT_ok _ hw)) (va_AO.use hAO.2.1) rfl hd rfl (by rw [← i32_0, i32_lt h0 rg0]; omega) (by rw [i32_clamp h0]; omega) (by omega) (by rw [i32_clamp h0]; omega) fun cA kA comp f1 f2 f3 f4 => ?_
    rw [i32_clamp h0]
    have hcA : cA = dA 64 := by obtain ⟨kA', comp', -, -, -, g4⟩ := (hK.2 3 _ rfl).2; exact Option.some.inj (f1.symm.trans g4)
    subst hcA
    refine W.cnt (cells2 := gn (alc σ 64 x0.toNat x0.toNat) - g0) (slots2 := gl (alc σ 64 x0.toNat x0.toNat) - l0) (by rw [gn_alc]; omega) (by rw [gl_alc]; omega) ?_
    have z1 : (H.push ({ cls := dA 64, slots := Array.replicate x0.toNat .null, vm := .none } : Cell)).size = z + gn σ + 1 := by rw [Array.size_push, hH.1]
    have o1 : ∀ q : Nat, q < z + gn σ → (H.push ({ cls := dA 64, slots := Array.replicate x0.toNat .null, vm := .none } : Cell))[q]? = H[q]? := fun q hq => by rw [Array.getElem?_push, if_neg (by rw [hH.1]; omega)]
    have e1 : (H.push ({ cls := dA 64, slots := Array.replicate x0.toNat .null, vm := .none } : Cell))[z + gn σ]? = some (arrV (dA 64) x0.toNat (fun _ => .null)) := by rw [← hH.1, Array.getElem?_push_size, ← arrV_new]
    rw [show H.size = z + gn σ from hH.1]
    exact ih _ _ (vR (some (gn σ + 1)) :: r0) _ _ _ _ h hL (okc trivial (okt hst)) (HR_new hH (Or.inr ⟨by omega, by show x0.toNat ≤ 1000; omega⟩) z1 o1 (by rw [wnt_ref (kd := 64) (by rw [gs_alc, if_pos rfl]) (by omega)]; refine (e1.trans ?_ : _ = _); rw [gs_alc, if_pos rfl]; show some _ = some (vp_cell _ _); rw [vp_cell_q]; congr 2; funext k; rw [gr_alc, if_pos rfl]; rfl)) (va_S_new hSS hH.1 z1 o1) (by rw [gn_alc]; omega) (by rw [gl_alc]; omega)
  · subst hkd
    obtain ⟨w, hw⟩ := has3_of hw
    refine W.anew hx hb hown (hts _ (clT_ok _ hw)) (va_AO.use hAO.2.2) rfl hd rfl (by rw [← i32_0, i32_lt h0 rg0]; omega) (by rw [i32_clamp h0]; omega) (by omega) (by rw [i32_clamp h0]; omega) fun cA kA comp f1 f2 f3 f4 => ?_
    rw [i32_clamp h0]
    have hcA : cA = dA 67 := by obtain ⟨kA', comp', -, -, -, g4⟩ := (hK.2 4 _ rfl).2; exact Option.some.inj (f1.symm.trans g4)
    subst hcA
    refine W.cnt (cells2 := gn (alc σ 67 x0.toNat x0.toNat) - g0) (slots2 := gl (alc σ 67 x0.toNat x0.toNat) - l0) (by rw [gn_alc]; omega) (by rw [gl_alc]; omega) ?_
    have z1 : (H.push ({ cls := dA 67, slots := Array.replicate x0.toNat .null, vm := .none } : Cell)).size = z + gn σ + 1 := by rw [Array.size_push, hH.1]
    have o1 : ∀ q : Nat, q < z + gn σ → (H.push ({ cls := dA 67, slots := Array.replicate x0.toNat .null, vm := .none } : Cell))[q]? = H[q]? := fun q hq => by rw [Array.getElem?_push, if_neg (by rw [hH.1]; omega)]
    have e1 : (H.push ({ cls := dA 67, slots := Array.replicate x0.toNat .null, vm := .none } : Cell))[z + gn σ]? = some (arrV (dA 67) x0.toNat (fun _ => .null)) := by rw [← hH.1, Array.getElem?_push_size, ← arrV_new]
    rw [show H.size = z + gn σ from hH.1]
    exact ih _ _ (vR (some (gn σ + 1)) :: r0) _ _ _ _ h hL (okc trivial (okt hst)) (HR_new hH (Or.inr ⟨by omega, by show x0.toNat ≤ 1000; omega⟩) z1 o1 (by rw [wnt_ref (kd := 67) (by rw [gs_alc, if_pos rfl]) (by omega)]; refine (e1.trans ?_ : _ = _); rw [gs_alc, if_pos rfl]; show some _ = some (vp_cell _ _); rw [vp_cell_q]; congr 2; funext k; rw [gr_alc, if_pos rfl]; rfl)) (va_S_new hSS hH.1 z1 o1) (by rw [gn_alc]; omega) (by rw [gl_alc]; omega)
end BODY
