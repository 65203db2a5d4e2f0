section BODY
variable {p : Program} {l : Launch} {e : Env} {R : Room} {s : State} {m : MethodId} {args : Array Value} {below : List Frame} {meth : Method} {c : Code} {z b L : Nat} {xs : Nat → Int32} {D : va_G} {dA : Nat → ClassId} {j : Nat}
set_option maxHeartbeats 4000000 in
set_option maxRecDepth 100000 in
theorem bd_23 {lw : List Nat} {vw : Int} (hC : Ctx p R s m args meth c z b L xs D dA j) {N : Nat} (hS : ∀ k, k < N → SimAt l z b L xs D dA k) {v : Option mv_T} {τ : ms_T} {g0 l0 : Nat} {Z : State → Prop} (hs0 : s.heap.size = z + g0) (hgR : gn τ - g0 ≤ R.cells ∧ gl τ - l0 ≤ R.slots)
    (hZ : ∀ (pc : Nat) (H : Heap) (locs : List Loc) (lsR : Array Slot), retOK j pc v → HR z b L xs D dA τ H → va_S (fun q => z ≤ q) s.heap H locs → W p l e R s m args below meth c H locs (gn τ - g0) (gl τ - l0) Z (F0 m pc lsR (v.toList.map (vt z b))))
    {n : Nat} (hnN : n + 1 ≤ N) {pc : Nat} {ls : ml_T} {st : List mv_T} {σ : ms_T} {H : Heap} {locs : List Loc} {lsR : Array Slot} (hlew : gn σ ≤ gn τ ∧ gl σ ≤ gl τ) (hL : LR z b (mxl j) ls lsR) (hst : ∀ a ∈ st, inV a) (hH : HR z b L xs D dA σ H) (hSS : va_S (fun q => z ≤ q) s.heap H locs) (hg0 : g0 ≤ gn σ) (hl0 : l0 ≤ gl σ)
    (ih : ∀ (pc : Nat) (ls : ml_T) (st : List mv_T) (σ : ms_T) (H : Heap) (locs : List Loc) (lsR : Array Slot), Wm n j pc ls st σ (fun v' τ' => v' = v ∧ τ' = τ) → LR z b (mxl j) ls lsR → (∀ a ∈ st, inV a) → HR z b L xs D dA σ H → va_S (fun q => z ≤ q) s.heap H locs → g0 ≤ gn σ → l0 ≤ gl σ →
      W p l e R s m args below meth c H locs (gn σ - g0) (gl σ - l0) Z (F0 m pc lsR (st.map (vt z b))))
    (ck : ckE j pc (.idiv, lw, vw) = true) (h : wpi pc (.idiv, lw, vw) (mrt j) ls st σ (fun pc' ls' st' σ' => Wm n j pc' ls' st' σ' (fun v' τ' => v' = v ∧ τ' = τ)) (fun j' as σ' k => Wm n j' 0 (pad (mxl j') as) [] σ' k) (fun v' τ' => v' = v ∧ τ' = τ)) : W p l e R s m args below meth c H locs (gn σ - g0) (gl σ - l0) Z (F0 m pc lsR (st.map (vt z b))) := by
  obtain ⟨hx, hb, hml, hret, hlocks, hown, hts, hmn, hK, hnw, hAO, hRF, hRL, hX, hbz, hzs, hj, hL25⟩ := hC
  have hbs : b < s.heap.size := by omega
  have hbA : ¬ (fun q : Nat => z ≤ q) b := by show ¬ z ≤ b; omega
  unfold wpi at h
  dsimp only at h
  simp only [ckE, dq, dqa, Bool.and_eq_true, Bool.or_eq_true, decide_eq_true_eq, beq_iff_eq, Nat.blt_eq, Nat.ble_eq] at ck
  obtain ⟨x0, r0, e0, g0⟩ := pI_inv h
  clear h
  subst e0
  have h := g0
  clear g0
  obtain ⟨x1, r1, e1, g1⟩ := pI_inv h
  clear h
  subst e1
  have h := g1
  clear g1
  have h0 := okh hst
  have h1 := okh (okt hst)
  obtain ⟨c0, h⟩ := h
  refine lv_idiv hx hb ck (i32_ne0 h0 c0) ?_
  rw [i32_div h1 h0]
  exact ih _ _ (vI _ :: r1) _ _ _ _ h hL (okc (rg_wr _) (okt (okt hst))) hH hSS hg0 hl0
set_option maxHeartbeats 4000000 in
set_option maxRecDepth 100000 in
theorem bd_24 {lw : List Nat} {vw : Int} (hC : Ctx p R s m args meth c z b L xs D dA j) {N : Nat} (hS : ∀ k, k < N → SimAt l z b L xs D dA k) {v : Option mv_T} {τ : ms_T} {g0 l0 : Nat} {Z : State → Prop} (hs0 : s.heap.size = z + g0) (hgR : gn τ - g0 ≤ R.cells ∧ gl τ - l0 ≤ R.slots)
    (hZ : ∀ (pc : Nat) (H : Heap) (locs : List Loc) (lsR : Array Slot), retOK j pc v → HR z b L xs D dA τ H → va_S (fun q => z ≤ q) s.heap H locs → W p l e R s m args below meth c H locs (gn τ - g0) (gl τ - l0) Z (F0 m pc lsR (v.toList.map (vt z b))))
    {n : Nat} (hnN : n + 1 ≤ N) {pc : Nat} {ls : ml_T} {st : List mv_T} {σ : ms_T} {H : Heap} {locs : List Loc} {lsR : Array Slot} (hlew : gn σ ≤ gn τ ∧ gl σ ≤ gl τ) (hL : LR z b (mxl j) ls lsR) (hst : ∀ a ∈ st, inV a) (hH : HR z b L xs D dA σ H) (hSS : va_S (fun q => z ≤ q) s.heap H locs) (hg0 : g0 ≤ gn σ) (hl0 : l0 ≤ gl σ)
    (ih : ∀ (pc : Nat) (ls : ml_T) (st : List mv_T) (σ : ms_T) (H : Heap) (locs : List Loc) (lsR : Array Slot), Wm n j pc ls st σ (fun v' τ' => v' = v ∧ τ' = τ) → LR z b (mxl j) ls lsR → (∀ a ∈ st, inV a) → HR z b L xs D dA σ H → va_S (fun q => z ≤ q) s.heap H locs → g0 ≤ gn σ → l0 ≤ gl σ →
      W p l e R s m args below meth c H locs (gn σ - g0) (gl σ - l0) Z (F0 m pc lsR (st.map (vt z b))))
    (ck : ckE j pc (.irem, lw, vw) = true) (h : wpi pc (.irem, lw, vw) (mrt j) ls st σ (fun pc' ls' st' σ' => Wm n j pc' ls' st' σ' (fun v' τ' => v' = v ∧ τ' = τ)) (fun j' as σ' k => Wm n j' 0 (pad (mxl j') as) [] σ' k) (fun v' τ' => v' = v ∧ τ' = τ)) : W p l e R s m args below meth c H locs (gn σ - g0) (gl σ - l0) Z (F0 m pc lsR (st.map (vt z b))) := by
  obtain ⟨hx, hb, hml, hret, hlocks, hown, hts, hmn, hK, hnw, hAO, hRF, hRL, hX, hbz, hzs, hj, hL25⟩ := hC
  have hbs : b < s.heap.size := by omega
  have hbA : ¬ (fun q : Nat => z ≤ q) b := by show ¬ z ≤ b; omega
  unfold wpi at h
  dsimp only at h
  simp only [ckE, dq, dqa, Bool.and_eq_true, Bool.or_eq_true, decide_eq_true_eq, beq_iff_eq, Nat.blt_eq, Nat.ble_eq] at ck
  obtain ⟨x0, r0, e0, g0⟩ := pI_inv h
  clear h
  subst e0
  have h := g0
  clear g0
  obtain ⟨x1, r1, e1, g1⟩ := pI_inv h
  clear h
  subst e1
  have h := g1
  clear g1
  have h0 := okh hst
  have h1 := okh (okt hst)
  obtain ⟨c0, h⟩ := h
  refine lv_irem hx hb ck (i32_ne0 h0 c0) ?_
  rw [i32_rem h1 h0]
  exact ih _ _ (vI _ :: r1) _ _ _ _ h hL (okc (rg_tmod h1 h0) (okt (okt hst))) hH hSS hg0 hl0
set_option maxHeartbeats 4000000 in
set_option maxRecDepth 100000 in
theorem bd_25 {lw : List Nat} {vw : Int} (hC : Ctx p R s m args meth c z b L xs D dA j) {N : Nat} (hS : ∀ k, k < N → SimAt l z b L xs D dA k) {v : Option mv_T} {τ : ms_T} {g0 l0 : Nat} {Z : State → Prop} (hs0 : s.heap.size = z + g0) (hgR : gn τ - g0 ≤ R.cells ∧ gl τ - l0 ≤ R.slots)
    (hZ : ∀ (pc : Nat) (H : Heap) (locs : List Loc) (lsR : Array Slot), retOK j pc v → HR z b L xs D dA τ H → va_S (fun q => z ≤ q) s.heap H locs → W p l e R s m args below meth c H locs (gn τ - g0) (gl τ - l0) Z (F0 m pc lsR (v.toList.map (vt z b))))
    {n : Nat} (hnN : n + 1 ≤ N) {pc : Nat} {ls : ml_T} {st : List mv_T} {σ : ms_T} {H : Heap} {locs : List Loc} {lsR : Array Slot} (hlew : gn σ ≤ gn τ ∧ gl σ ≤ gl τ) (hL : LR z b (mxl j) ls lsR) (hst : ∀ a ∈ st, inV a) (hH : HR z b L xs D dA σ H) (hSS : va_S (fun q => z ≤ q) s.heap H locs) (hg0 : g0 ≤ gn σ) (hl0 : l0 ≤ gl σ)
    (ih : ∀ (pc : Nat) (ls : ml_T) (st : List mv_T) (σ : ms_T) (H : Heap) (locs : List Loc) (lsR : Array Slot), Wm n j pc ls st σ (fun v' τ' => v' = v ∧ τ' = τ) → LR z b (mxl j) ls lsR → (∀ a ∈ st, inV a) → HR z b L xs D dA σ H → va_S (fun q => z ≤ q) s.heap H locs → g0 ≤ gn σ → l0 ≤ gl σ →
      W p l e R s m args below meth c H locs (gn σ - g0) (gl σ - l0) Z (F0 m pc lsR (st.map (vt z b))))
    (ck : ckE j pc (.iand, lw, vw) = true) (h : wpi pc (.iand, lw, vw) (mrt j) ls st σ (fun pc' ls' st' σ' => Wm n j pc' ls' st' σ' (fun v' τ' => v' = v ∧ τ' = τ)) (fun j' as σ' k => Wm n j' 0 (pad (mxl j') as) [] σ' k) (fun v' τ' => v' = v ∧ τ' = τ)) : W p l e R s m args below meth c H locs (gn σ - g0) (gl σ - l0) Z (F0 m pc lsR (st.map (vt z b))) := by
  obtain ⟨hx, hb, hml, hret, hlocks, hown, hts, hmn, hK, hnw, hAO, hRF, hRL, hX, hbz, hzs, hj, hL25⟩ := hC
  have hbs : b < s.heap.size := by omega
  have hbA : ¬ (fun q : Nat => z ≤ q) b := by show ¬ z ≤ b; omega
  unfold wpi at h
  dsimp only at h
  simp only [ckE, dq, dqa, Bool.and_eq_true, Bool.or_eq_true, decide_eq_true_eq, beq_iff_eq, Nat.blt_eq, Nat.ble_eq] at ck
  obtain ⟨x0, r0, e0, g0⟩ := pI_inv h
  clear h
  subst e0
  have h := g0
  clear g0
  obtain ⟨x1, r1, e1, g1⟩ := pI_inv h
  clear h
  subst e1
  have h := g1
  clear g1
  have h0 := okh hst
  have h1 := okh (okt hst)
  refine lv_iand hx hb ck ?_
  rw [i32_and]
  exact ih _ _ (vI _ :: r1) _ _ _ _ h hL (okc (rg_i32 _) (okt (okt hst))) hH hSS hg0 hl0
set_option maxHeartbeats 4000000 in
set_option maxRecDepth 100000 in
theorem bd_26 {lw : List Nat} {vw : Int} (hC : Ctx p R s m args meth c z b L xs D dA j) {N : Nat} (hS : ∀ k, k < N → SimAt l z b L xs D dA k) {v : Option mv_T} {τ : ms_T} {g0 l0 : Nat} {Z : State → Prop} (hs0 : s.heap.size = z + g0) (hgR : gn τ - g0 ≤ R.cells ∧ gl τ - l0 ≤ R.slots)
    (hZ : ∀ (pc : Nat) (H : Heap) (locs : List Loc) (lsR : Array Slot), retOK j pc v → HR z b L xs D dA τ H → va_S (fun q => z ≤ q) s.heap H locs → W p l e R s m args below meth c H locs (gn τ - g0) (gl τ - l0) Z (F0 m pc lsR (v.toList.map (vt z b))))
    {n : Nat} (hnN : n + 1 ≤ N) {pc : Nat} {ls : ml_T} {st : List mv_T} {σ : ms_T} {H : Heap} {locs : List Loc} {lsR : Array Slot} (hlew : gn σ ≤ gn τ ∧ gl σ ≤ gl τ) (hL : LR z b (mxl j) ls lsR) (hst : ∀ a ∈ st, inV a) (hH : HR z b L xs D dA σ H) (hSS : va_S (fun q => z ≤ q) s.heap H locs) (hg0 : g0 ≤ gn σ) (hl0 : l0 ≤ gl σ)
    (ih : ∀ (pc : Nat) (ls : ml_T) (st : List mv_T) (σ : ms_T) (H : Heap) (locs : List Loc) (lsR : Array Slot), Wm n j pc ls st σ (fun v' τ' => v' = v ∧ τ' = τ) → LR z b (mxl j) ls lsR → (∀ a ∈ st, inV a) → HR z b L xs D dA σ H → va_S (fun q => z ≤ q) s.heap H locs → g0 ≤ gn σ → l0 ≤ gl σ →
      W p l e R s m args below meth c H locs (gn σ - g0) (gl σ - l0) Z (F0 m pc lsR (st.map (vt z b))))
    (ck : ckE j pc (.ior, lw, vw) = true) (h : wpi pc (.ior, lw, vw) (mrt j) ls st σ (fun pc' ls' st' σ' => Wm n j pc' ls' st' σ' (fun v' τ' => v' = v ∧ τ' = τ)) (fun j' as σ' k => Wm n j' 0 (pad (mxl j') as) [] σ' k) (fun v' τ' => v' = v ∧ τ' = τ)) : W p l e R s m args below meth c H locs (gn σ - g0) (gl σ - l0) Z (F0 m pc lsR (st.map (vt z b))) := by
  obtain ⟨hx, hb, hml, hret, hlocks, hown, hts, hmn, hK, hnw, hAO, hRF, hRL, hX, hbz, hzs, hj, hL25⟩ := hC
  have hbs : b < s.heap.size := by omega
  have hbA : ¬ (fun q : Nat => z ≤ q) b := by show ¬ z ≤ b; omega
  unfold wpi at h
  dsimp only at h
  simp only [ckE, dq, dqa, Bool.and_eq_true, Bool.or_eq_true, decide_eq_true_eq, beq_iff_eq, Nat.blt_eq, Nat.ble_eq] at ck
  obtain ⟨x0, r0, e0, g0⟩ := pI_inv h
  clear h
  subst e0
  have h := g0
  clear g0
  obtain ⟨x1, r1, e1, g1⟩ := pI_inv h
  clear h
  subst e1
  have h := g1
  clear g1
  have h0 := okh hst
  have h1 := okh (okt hst)
  refine lv_ior hx hb ck ?_
  rw [i32_or]
  exact ih _ _ (vI _ :: r1) _ _ _ _ h hL (okc (rg_i32 _) (okt (okt hst))) hH hSS hg0 hl0
set_option maxHeartbeats 4000000 in
set_option maxRecDepth 100000 in
theorem bd_27 {lw : List Nat} {vw : Int} (hC : Ctx p R s m args meth c z b L xs D dA j) {N : Nat} (hS : ∀ k, k < N → SimAt l z b L xs D dA k) {v : Option mv_T} {τ : ms_T} {g0 l0 : Nat} {Z : State → Prop} (hs0 : s.heap.size = z + g0) (hgR : gn τ - g0 ≤ R.cells ∧ gl τ - l0 ≤ R.slots)
    (hZ : ∀ (pc : Nat) (H : Heap) (locs : List Loc) (lsR : Array Slot), retOK j pc v → HR z b L xs D dA τ H → va_S (fun q => z ≤ q) s.heap H locs → W p l e R s m args below meth c H locs (gn τ - g0) (gl τ - l0) Z (F0 m pc lsR (v.toList.map (vt z b))))
    {n : Nat} (hnN : n + 1 ≤ N) {pc : Nat} {ls : ml_T} {st : List mv_T} {σ : ms_T} {H : Heap} {locs : List Loc} {lsR : Array Slot} (hlew : gn σ ≤ gn τ ∧ gl σ ≤ gl τ) (hL : LR z b (mxl j) ls lsR) (hst : ∀ a ∈ st, inV a) (hH : HR z b L xs D dA σ H) (hSS : va_S (fun q => z ≤ q) s.heap H locs) (hg0 : g0 ≤ gn σ) (hl0 : l0 ≤ gl σ)
    (ih : ∀ (pc : Nat) (ls : ml_T) (st : List mv_T) (σ : ms_T) (H : Heap) (locs : List Loc) (lsR : Array Slot), Wm n j pc ls st σ (fun v' τ' => v' = v ∧ τ' = τ) → LR z b (mxl j) ls lsR → (∀ a ∈ st, inV a) → HR z b L xs D dA σ H → va_S (fun q => z ≤ q) s.heap H locs → g0 ≤ gn σ → l0 ≤ gl σ →
      W p l e R s m args below meth c H locs (gn σ - g0) (gl σ - l0) Z (F0 m pc lsR (st.map (vt z b))))
    (ck : ckE j pc (.ixor, lw, vw) = true) (h : wpi pc (.ixor, lw, vw) (mrt j) ls st σ (fun pc' ls' st' σ' => Wm n j pc' ls' st' σ' (fun v' τ' => v' = v ∧ τ' = τ)) (fun j' as σ' k => Wm n j' 0 (pad (mxl j') as) [] σ' k) (fun v' τ' => v' = v ∧ τ' = τ)) : W p l e R s m args below meth c H locs (gn σ - g0) (gl σ - l0) Z (F0 m pc lsR (st.map (vt z b))) := by
  obtain ⟨hx, hb, hml, hret, hlocks, hown, hts, hmn, hK, hnw, hAO, hRF, hRL, hX, hbz, hzs, hj, hL25⟩ := hC
  have hbs : b < s.heap.size := by omega
  have hbA : ¬ (fun q : Nat => z ≤ q) b := by show ¬ z ≤ b; omega
  unfold wpi at h
  dsimp only at h
  simp only [ckE, dq, dqa, Bool.and_eq_true, Bool.or_eq_true, decide_eq_true_eq, beq_iff_eq, Nat.blt_eq, Nat.ble_eq] at ck
  obtain ⟨x0, r0, e0, g0⟩ := pI_inv h
  clear h
  subst e0
  have h := g0
  clear g0
  obtain ⟨x1, r1, e1, g1⟩ := pI_inv h
  clear h
  subst e1
  have h := g1
  clear g1
  have h0 := okh hst
  have h1 := okh (okt hst)
  refine lv_ixor hx hb ck ?_
  rw [i32_xor]
  exact ih _ _ (vI _ :: r1) _ _ _ _ h hL (okc (rg_i32 _) (okt (okt hst))) hH hSS hg0 hl0
set_option maxHeartbeats 4000000 in
set_option maxRecDepth 100000 in
theorem bd_28 {lw : List Nat} {vw : Int} (hC : Ctx p R s m args meth c z b L xs D dA j) {N : Nat} (hS : ∀ k, k < N → SimAt l z b L xs D dA k) {v : Option mv_T} {τ : ms_T} {g0 l0 : Nat} {Z : State → Prop} (hs0 : s.heap.size = z + g0) (hgR : gn τ - g0 ≤ R.cells ∧ gl τ - l0 ≤ R.slots)
    (hZ : ∀ (pc : Nat) (H : Heap) (locs : List Loc) (lsR : Array Slot), retOK j pc v → HR z b L xs D dA τ H → va_S (fun q => z ≤ q) s.heap H locs → W p l e R s m args below meth c H locs (gn τ - g0) (gl τ - l0) Z (F0 m pc lsR (v.toList.map (vt z b))))
    {n : Nat} (hnN : n + 1 ≤ N) {pc : Nat} {ls : ml_T} {st : List mv_T} {σ : ms_T} {H : Heap} {locs : List Loc} {lsR : Array Slot} (hlew : gn σ ≤ gn τ ∧ gl σ ≤ gl τ) (hL : LR z b (mxl j) ls lsR) (hst : ∀ a ∈ st, inV a) (hH : HR z b L xs D dA σ H) (hSS : va_S (fun q => z ≤ q) s.heap H locs) (hg0 : g0 ≤ gn σ) (hl0 : l0 ≤ gl σ)
    (ih : ∀ (pc : Nat) (ls : ml_T) (st : List mv_T) (σ : ms_T) (H : Heap) (locs : List Loc) (lsR : Array Slot), Wm n j pc ls st σ (fun v' τ' => v' = v ∧ τ' = τ) → LR z b (mxl j) ls lsR → (∀ a ∈ st, inV a) → HR z b L xs D dA σ H → va_S (fun q => z ≤ q) s.heap H locs → g0 ≤ gn σ → l0 ≤ gl σ →
      W p l e R s m args below meth c H locs (gn σ - g0) (gl σ - l0) Z (F0 m pc lsR (st.map (vt z b))))
    (ck : ckE j pc (.ishl, lw, vw) = true) (h : wpi pc (.ishl, lw, vw) (mrt j) ls st σ (fun pc' ls' st' σ' => Wm n j pc' ls' st' σ' (fun v' τ' => v' = v ∧ τ' = τ)) (fun j' as σ' k => Wm n j' 0 (pad (mxl j') as) [] σ' k) (fun v' τ' => v' = v ∧ τ' = τ)) : W p l e R s m args below meth c H locs (gn σ - g0) (gl σ - l0) Z (F0 m pc lsR (st.map (vt z b))) := by
  obtain ⟨hx, hb, hml, hret, hlocks, hown, hts, hmn, hK, hnw, hAO, hRF, hRL, hX, hbz, hzs, hj, hL25⟩ := hC
  have hbs : b < s.heap.size := by omega
  have hbA : ¬ (fun q : Nat => z ≤ q) b := by show ¬ z ≤ b; omega
  unfold wpi at h
  dsimp only at h
  simp only [ckE, dq, dqa, Bool.and_eq_true, Bool.or_eq_true, decide_eq_true_eq, beq_iff_eq, Nat.blt_eq, Nat.ble_eq] at ck
  obtain ⟨x0, r0, e0, g0⟩ := pI_inv h
  clear h
  subst e0
  have h := g0
  clear g0
  obtain ⟨x1, r1, e1, g1⟩ := pI_inv h
  clear h
  subst e1
  have h := g1
  clear g1
  have h0 := okh hst
  have h1 := okh (okt hst)
  refine lv_ishl hx hb ck ?_
  rw [i32_shl]
  exact ih _ _ (vI _ :: r1) _ _ _ _ h hL (okc (rg_i32 _) (okt (okt hst))) hH hSS hg0 hl0
set_option maxHeartbeats 4000000 in
set_option maxRecDepth 100000 in
theorem bd_29 {lw : List Nat} {vw : Int} (hC : Ctx p R s m args meth c z b L xs D dA j) {N : Nat} (hS : ∀ k, k < N → SimAt l z b L xs D dA k) {v : Option mv_T} {τ : ms_T} {g0 l0 : Nat} {Z : State → Prop} (hs0 : s.heap.size = z + g0) (hgR : gn τ - g0 ≤ R.cells ∧ gl τ - l0 ≤ R.slots)
    (hZ : ∀ (pc : Nat) (H : Heap) (locs : List Loc) (lsR : Array Slot), retOK j pc v → HR z b L xs D dA τ H → va_S (fun q => z ≤ q) s.heap H locs → W p l e R s m args below meth c H locs (gn τ - g0) (gl τ - l0) Z (F0 m pc lsR (v.toList.map (vt z b))))
    {n : Nat} (hnN : n + 1 ≤ N) {pc : Nat} {ls : ml_T} {st : List mv_T} {σ : ms_T} {H : Heap} {locs : List Loc} {lsR : Array Slot} (hlew : gn σ ≤ gn τ ∧ gl σ ≤ gl τ) (hL : LR z b (mxl j) ls lsR) (hst : ∀ a ∈ st, inV a) (hH : HR z b L xs D dA σ H) (hSS : va_S (fun q => z ≤ q) s.heap H locs) (hg0 : g0 ≤ gn σ) (hl0 : l0 ≤ gl σ)
    (ih : ∀ (pc : Nat) (ls : ml_T) (st : List mv_T) (σ : ms_T) (H : Heap) (locs : List Loc) (lsR : Array Slot), Wm n j pc ls st σ (fun v' τ' => v' = v ∧ τ' = τ) → LR z b (mxl j) ls lsR → (∀ a ∈ st, inV a) → HR z b L xs D dA σ H → va_S (fun q => z ≤ q) s.heap H locs → g0 ≤ gn σ → l0 ≤ gl σ →
      W p l e R s m args below meth c H locs (gn σ - g0) (gl σ - l0) Z (F0 m pc lsR (st.map (vt z b))))
    (ck : ckE j pc (.ishr, lw, vw) = true) (h : wpi pc (.ishr, lw, vw) (mrt j) ls st σ (fun pc' ls' st' σ' => Wm n j pc' ls' st' σ' (fun v' τ' => v' = v ∧ τ' = τ)) (fun j' as σ' k => Wm n j' 0 (pad (mxl j') as) [] σ' k) (fun v' τ' => v' = v ∧ τ' = τ)) : W p l e R s m args below meth c H locs (gn σ - g0) (gl σ - l0) Z (F0 m pc lsR (st.map (vt z b))) := by
  obtain ⟨hx, hb, hml, hret, hlocks, hown, hts, hmn, hK, hnw, hAO, hRF, hRL, hX, hbz, hzs, hj, hL25⟩ := hC
  have hbs : b < s.heap.size := by omega
  have hbA : ¬ (fun q : Nat => z ≤ q) b := by show ¬ z ≤ b; omega
  unfold wpi at h
  dsimp only at h
  simp only [ckE, dq, dqa, Bool.and_eq_true, Bool.or_eq_true, decide_eq_true_eq, beq_iff_eq, Nat.blt_eq, Nat.ble_eq] at ck
  obtain ⟨x0, r0, e0, g0⟩ := pI_inv h
  clear h
  subst e0
  have h := g0
  clear g0
  obtain ⟨x1, r1, e1, g1⟩ := pI_inv h
  clear h
  subst e1
  have h := g1
  clear g1
  have h0 := okh hst
  have h1 := okh (okt hst)
  refine lv_ishr hx hb ck ?_
  rw [i32_shr]
  exact ih _ _ (vI _ :: r1) _ _ _ _ h hL (okc (rg_i32 _) (okt (okt hst))) hH hSS hg0 hl0
set_option maxHeartbeats 4000000 in
set_option maxRecDepth 100000 in
theorem bd_30 {lw : List Nat} {vw : Int} (hC : Ctx p R s m args meth c z b L xs D dA j) {N : Nat} (hS : ∀ k, k < N → SimAt l z b L xs D dA k) {v : Option mv_T} {τ : ms_T} {g0 l0 : Nat} {Z : State → Prop} (hs0 : s.heap.size = z + g0) (hgR : gn τ - g0 ≤ R.cells ∧ gl τ - l0 ≤ R.slots)
    (hZ : ∀ (pc : Nat) (H : Heap) (locs : List Loc) (lsR : Array Slot), retOK j pc v → HR z b L xs D dA τ H → va_S (fun q => z ≤ q) s.heap H locs → W p l e R s m args below meth c H locs (gn τ - g0) (gl τ - l0) Z (F0 m pc lsR (v.toList.map (vt z b))))
    {n : Nat} (hnN : n + 1 ≤ N) {pc : Nat} {ls : ml_T} {st : List mv_T} {σ : ms_T} {H : Heap} {locs : List Loc} {lsR : Array Slot} (hlew : gn σ ≤ gn τ ∧ gl σ ≤ gl τ) (hL : LR z b (mxl j) ls lsR) (hst : ∀ a ∈ st, inV a) (hH : HR z b L xs D dA σ H) (hSS : va_S (fun q => z ≤ q) s.heap H locs) (hg0 : g0 ≤ gn σ) (hl0 : l0 ≤ gl σ)
    (ih : ∀ (pc : Nat) (ls : ml_T) (st : List mv_T) (σ : ms_T) (H : Heap) (locs : List Loc) (lsR : Array Slot), Wm n j pc ls st σ (fun v' τ' => v' = v ∧ τ' = τ) → LR z b (mxl j) ls lsR → (∀ a ∈ st, inV a) → HR z b L xs D dA σ H → va_S (fun q => z ≤ q) s.heap H locs → g0 ≤ gn σ → l0 ≤ gl σ →
      W p l e R s m args below meth c H locs (gn σ - g0) (gl σ - l0) Z (F0 m pc lsR (st.map (vt z b))))
    (ck : ckE j pc (.i2l, lw, vw) = true) (h : wpi pc (.i2l, lw, vw) (mrt j) ls st σ (fun pc' ls' st' σ' => Wm n j pc' ls' st' σ' (fun v' τ' => v' = v ∧ τ' = τ)) (fun j' as σ' k => Wm n j' 0 (pad (mxl j') as) [] σ' k) (fun v' τ' => v' = v ∧ τ' = τ)) : W p l e R s m args below meth c H locs (gn σ - g0) (gl σ - l0) Z (F0 m pc lsR (st.map (vt z b))) := by
  obtain ⟨hx, hb, hml, hret, hlocks, hown, hts, hmn, hK, hnw, hAO, hRF, hRL, hX, hbz, hzs, hj, hL25⟩ := hC
  have hbs : b < s.heap.size := by omega
  have hbA : ¬ (fun q : Nat => z ≤ q) b := by show ¬ z ≤ b; omega
  unfold wpi at h
  dsimp only at h
  simp only [ckE, dq, dqa, Bool.and_eq_true, Bool.or_eq_true, decide_eq_true_eq, beq_iff_eq, Nat.blt_eq, Nat.ble_eq] at ck
  obtain ⟨x0, r0, e0, g0⟩ := pI_inv h
  clear h
  subst e0
  have h := g0
  clear g0
  have h0 : rg x0 := okh hst
  refine lv_i2l (v := Int64.ofInt x0) hx hb ck (i32_i64 h0) ?_
  exact ih _ _ (vL x0 :: r0) _ _ _ _ h hL (okc (by show rgl x0; unfold rg at h0; unfold rgl; omega) (okt hst)) hH hSS hg0 hl0
set_option maxHeartbeats 4000000 in
set_option maxRecDepth 100000 in
theorem bd_31 {lw : List Nat} {vw : Int} (hC : Ctx p R s m args meth c z b L xs D dA j) {N : Nat} (hS : ∀ k, k < N → SimAt l z b L xs D dA k) {v : Option mv_T} {τ : ms_T} {g0 l0 : Nat} {Z : State → Prop} (hs0 : s.heap.size = z + g0) (hgR : gn τ - g0 ≤ R.cells ∧ gl τ - l0 ≤ R.slots)
    (hZ : ∀ (pc : Nat) (H : Heap) (locs : List Loc) (lsR : Array Slot), retOK j pc v → HR z b L xs D dA τ H → va_S (fun q => z ≤ q) s.heap H locs → W p l e R s m args below meth c H locs (gn τ - g0) (gl τ - l0) Z (F0 m pc lsR (v.toList.map (vt z b))))
    {n : Nat} (hnN : n + 1 ≤ N) {pc : Nat} {ls : ml_T} {st : List mv_T} {σ : ms_T} {H : Heap} {locs : List Loc} {lsR : Array Slot} (hlew : gn σ ≤ gn τ ∧ gl σ ≤ gl τ) (hL : LR z b (mxl j) ls lsR) (hst : ∀ a ∈ st, inV a) (hH : HR z b L xs D dA σ H) (hSS : va_S (fun q => z ≤ q) s.heap H locs) (hg0 : g0 ≤ gn σ) (hl0 : l0 ≤ gl σ)
    (ih : ∀ (pc : Nat) (ls : ml_T) (st : List mv_T) (σ : ms_T) (H : Heap) (locs : List Loc) (lsR : Array Slot), Wm n j pc ls st σ (fun v' τ' => v' = v ∧ τ' = τ) → LR z b (mxl j) ls lsR → (∀ a ∈ st, inV a) → HR z b L xs D dA σ H → va_S (fun q => z ≤ q) s.heap H locs → g0 ≤ gn σ → l0 ≤ gl σ →
      W p l e R s m args below meth c H locs (gn σ - g0) (gl σ - l0) Z (F0 m pc lsR (st.map (vt z b))))
    (ck : ckE j pc (.i2c, lw, vw) = true) (h : wpi pc (.i2c, lw, vw) (mrt j) ls st σ (fun pc' ls' st' σ' => Wm n j pc' ls' st' σ' (fun v' τ' => v' = v ∧ τ' = τ)) (fun j' as σ' k => Wm n j' 0 (pad (mxl j') as) [] σ' k) (fun v' τ' => v' = v ∧ τ' = τ)) : W p l e R s m args below meth c H locs (gn σ - g0) (gl σ - l0) Z (F0 m pc lsR (st.map (vt z b))) := by
  obtain ⟨hx, hb, hml, hret, hlocks, hown, hts, hmn, hK, hnw, hAO, hRF, hRL, hX, hbz, hzs, hj, hL25⟩ := hC
  have hbs : b < s.heap.size := by omega
  have hbA : ¬ (fun q : Nat => z ≤ q) b := by show ¬ z ≤ b; omega
  unfold wpi at h
  dsimp only at h
  simp only [ckE, dq, dqa, Bool.and_eq_true, Bool.or_eq_true, decide_eq_true_eq, beq_iff_eq, Nat.blt_eq, Nat.ble_eq] at ck
  obtain ⟨x0, r0, e0, g0⟩ := pI_inv h
  clear h
  subst e0
  have h := g0
  clear g0
  have h0 : rg x0 := okh hst
  obtain ⟨c0, c1, h⟩ := h
  refine lv_i2c (v := Int32.ofInt x0) hx hb ck (i32_char c0 c1) ?_
  exact ih _ _ (vI x0 :: r0) _ _ _ _ h hL hst hH hSS hg0 hl0
set_option maxHeartbeats 4000000 in
set_option maxRecDepth 100000 in
theorem bd_32 {lw : List Nat} {vw : Int} (hC : Ctx p R s m args meth c z b L xs D dA j) {N : Nat} (hS : ∀ k, k < N → SimAt l z b L xs D dA k) {v : Option mv_T} {τ : ms_T} {g0 l0 : Nat} {Z : State → Prop} (hs0 : s.heap.size = z + g0) (hgR : gn τ - g0 ≤ R.cells ∧ gl τ - l0 ≤ R.slots)
    (hZ : ∀ (pc : Nat) (H : Heap) (locs : List Loc) (lsR : Array Slot), retOK j pc v → HR z b L xs D dA τ H → va_S (fun q => z ≤ q) s.heap H locs → W p l e R s m args below meth c H locs (gn τ - g0) (gl τ - l0) Z (F0 m pc lsR (v.toList.map (vt z b))))
    {n : Nat} (hnN : n + 1 ≤ N) {pc : Nat} {ls : ml_T} {st : List mv_T} {σ : ms_T} {H : Heap} {locs : List Loc} {lsR : Array Slot} (hlew : gn σ ≤ gn τ ∧ gl σ ≤ gl τ) (hL : LR z b (mxl j) ls lsR) (hst : ∀ a ∈ st, inV a) (hH : HR z b L xs D dA σ H) (hSS : va_S (fun q => z ≤ q) s.heap H locs) (hg0 : g0 ≤ gn σ) (hl0 : l0 ≤ gl σ)
    (ih : ∀ (pc : Nat) (ls : ml_T) (st : List mv_T) (σ : ms_T) (H : Heap) (locs : List Loc) (lsR : Array Slot), Wm n j pc ls st σ (fun v' τ' => v' = v ∧ τ' = τ) → LR z b (mxl j) ls lsR → (∀ a ∈ st, inV a) → HR z b L xs D dA σ H → va_S (fun q => z ≤ q) s.heap H locs → g0 ≤ gn σ → l0 ≤ gl σ →
      W p l e R s m args below meth c H locs (gn σ - g0) (gl σ - l0) Z (F0 m pc lsR (st.map (vt z b))))
    (ck : ckE j pc (.ladd, lw, vw) = true) (h : wpi pc (.ladd, lw, vw) (mrt j) ls st σ (fun pc' ls' st' σ' => Wm n j pc' ls' st' σ' (fun v' τ' => v' = v ∧ τ' = τ)) (fun j' as σ' k => Wm n j' 0 (pad (mxl j') as) [] σ' k) (fun v' τ' => v' = v ∧ τ' = τ)) : W p l e R s m args below meth c H locs (gn σ - g0) (gl σ - l0) Z (F0 m pc lsR (st.map (vt z b))) := by
  obtain ⟨hx, hb, hml, hret, hlocks, hown, hts, hmn, hK, hnw, hAO, hRF, hRL, hX, hbz, hzs, hj, hL25⟩ := hC
  have hbs : b < s.heap.size := by omega
  have hbA : ¬ (fun q : Nat => z ≤ q) b := by show ¬ z ≤ b; omega
  unfold wpi at h
  dsimp only at h
  simp only [ckE, dq, dqa, Bool.and_eq_true, Bool.or_eq_true, decide_eq_true_eq, beq_iff_eq, Nat.blt_eq, Nat.ble_eq] at ck
  obtain ⟨x0, r0, e0, g0⟩ := pL_inv h
  clear h
  subst e0
  have h := g0
  clear g0
  obtain ⟨x1, r1, e1, g1⟩ := pL_inv h
  clear h
  subst e1
  have h := g1
  clear g1
  have h0 := okh hst
  have h1 := okh (okt hst)
  refine lv_ladd hx hb ck ?_
  rw [i64_add h1 h0]
  exact ih _ _ (vL _ :: r1) _ _ _ _ h hL (okc (rgl_wl _) (okt (okt hst))) hH hSS hg0 hl0
set_option maxHeartbeats 4000000 in
set_option maxRecDepth 100000 in
theorem bd_33 {lw : List Nat} {vw : Int} (hC : Ctx p R s m args meth c z b L xs D dA j) {N : Nat} (hS : ∀ k, k < N → SimAt l z b L xs D dA k) {v : Option mv_T} {τ : ms_T} {g0 l0 : Nat} {Z : State → Prop} (hs0 : s.heap.size = z + g0) (hgR : gn τ - g0 ≤ R.cells ∧ gl τ - l0 ≤ R.slots)
    (hZ : ∀ (pc : Nat) (H : Heap) (locs : List Loc) (lsR : Array Slot), retOK j pc v → HR z b L xs D dA τ H → va_S (fun q => z ≤ q) s.heap H locs → W p l e R s m args below meth c H locs (gn τ - g0) (gl τ - l0) Z (F0 m pc lsR (v.toList.map (vt z b))))
    {n : Nat} (hnN : n + 1 ≤ N) {pc : Nat} {ls : ml_T} {st : List mv_T} {σ : ms_T} {H : Heap} {locs : List Loc} {lsR : Array Slot} (hlew : gn σ ≤ gn τ ∧ gl σ ≤ gl τ) (hL : LR z b (mxl j) ls lsR) (hst : ∀ a ∈ st, inV a) (hH : HR z b L xs D dA σ H) (hSS : va_S (fun q => z ≤ q) s.heap H locs) (hg0 : g0 ≤ gn σ) (hl0 : l0 ≤ gl σ)
    (ih : ∀ (pc : Nat) (ls : ml_T) (st : List mv_T) (σ : ms_T) (H : Heap) (locs : List Loc) (lsR : Array Slot), Wm n j pc ls st σ (fun v' τ' => v' = v ∧ τ' = τ) → LR z b (mxl j) ls lsR → (∀ a ∈ st, inV a) → HR z b L xs D dA σ H → va_S (fun q => z ≤ q) s.heap H locs → g0 ≤ gn σ → l0 ≤ gl σ →
      W p l e R s m args below meth c H locs (gn σ - g0) (gl σ - l0) Z (F0 m pc lsR (st.map (vt z b))))
    (ck : ckE j pc (.lmul, lw, vw) = true) (h : wpi pc (.lmul, lw, vw) (mrt j) ls st σ (fun pc' ls' st' σ' => Wm n j pc' ls' st' σ' (fun v' τ' => v' = v ∧ τ' = τ)) (fun j' as σ' k => Wm n j' 0 (pad (mxl j') as) [] σ' k) (fun v' τ' => v' = v ∧ τ' = τ)) : W p l e R s m args below meth c H locs (gn σ - g0) (gl σ - l0) Z (F0 m pc lsR (st.map (vt z b))) := by
  obtain ⟨hx, hb, hml, hret, hlocks, hown, hts, hmn, hK, hnw, hAO, hRF, hRL, hX, hbz, hzs, hj, hL25⟩ := hC
  have hbs : b < s.heap.size := by omega
  have hbA : ¬ (fun q : Nat => z ≤ q) b := by show ¬ z ≤ b; omega
  unfold wpi at h
  dsimp only at h
  simp only [ckE, dq, dqa, Bool.and_eq_true, Bool.or_eq_true, decide_eq_true_eq, beq_iff_eq, Nat.blt_eq, Nat.ble_eq] at ck
  obtain ⟨x0, r0, e0, g0⟩ := pL_inv h
  clear h
  subst e0
  have h := g0
  clear g0
  obtain ⟨x1, r1, e1, g1⟩ := pL_inv h
  clear h
  subst e1
  have h := g1
  clear g1
  have h0 := okh hst
  have h1 := okh (okt hst)
  refine lv_lmul hx hb ck ?_
  rw [i64_mul h1 h0]
  exact ih _ _ (vL _ :: r1) _ _ _ _ h hL (okc (rgl_wl _) (okt (okt hst))) hH hSS hg0 hl0
set_option maxHeartbeats 4000000 in
set_option maxRecDepth 100000 in
theorem bd_34 {lw : List Nat} {vw : Int} (hC : Ctx p R s m args meth c z b L xs D dA j) {N : Nat} (hS : ∀ k, k < N → SimAt l z b L xs D dA k) {v : Option mv_T} {τ : ms_T} {g0 l0 : Nat} {Z : State → Prop} (hs0 : s.heap.size = z + g0) (hgR : gn τ - g0 ≤ R.cells ∧ gl τ - l0 ≤ R.slots)
    (hZ : ∀ (pc : Nat) (H : Heap) (locs : List Loc) (lsR : Array Slot), retOK j pc v → HR z b L xs D dA τ H → va_S (fun q => z ≤ q) s.heap H locs → W p l e R s m args below meth c H locs (gn τ - g0) (gl τ - l0) Z (F0 m pc lsR (v.toList.map (vt z b))))
    {n : Nat} (hnN : n + 1 ≤ N) {pc : Nat} {ls : ml_T} {st : List mv_T} {σ : ms_T} {H : Heap} {locs : List Loc} {lsR : Array Slot} (hlew : gn σ ≤ gn τ ∧ gl σ ≤ gl τ) (hL : LR z b (mxl j) ls lsR) (hst : ∀ a ∈ st, inV a) (hH : HR z b L xs D dA σ H) (hSS : va_S (fun q => z ≤ q) s.heap H locs) (hg0 : g0 ≤ gn σ) (hl0 : l0 ≤ gl σ)
    (ih : ∀ (pc : Nat) (ls : ml_T) (st : List mv_T) (σ : ms_T) (H : Heap) (locs : List Loc) (lsR : Array Slot), Wm n j pc ls st σ (fun v' τ' => v' = v ∧ τ' = τ) → LR z b (mxl j) ls lsR → (∀ a ∈ st, inV a) → HR z b L xs D dA σ H → va_S (fun q => z ≤ q) s.heap H locs → g0 ≤ gn σ → l0 ≤ gl σ →
      W p l e R s m args below meth c H locs (gn σ - g0) (gl σ - l0) Z (F0 m pc lsR (st.map (vt z b))))
    (ck : ckE j pc (.lrem, lw, vw) = true) (h : wpi pc (.lrem, lw, vw) (mrt j) ls st σ (fun pc' ls' st' σ' => Wm n j pc' ls' st' σ' (fun v' τ' => v' = v ∧ τ' = τ)) (fun j' as σ' k => Wm n j' 0 (pad (mxl j') as) [] σ' k) (fun v' τ' => v' = v ∧ τ' = τ)) : W p l e R s m args below meth c H locs (gn σ - g0) (gl σ - l0) Z (F0 m pc lsR (st.map (vt z b))) := by
  obtain ⟨hx, hb, hml, hret, hlocks, hown, hts, hmn, hK, hnw, hAO, hRF, hRL, hX, hbz, hzs, hj, hL25⟩ := hC
  have hbs : b < s.heap.size := by omega
  have hbA : ¬ (fun q : Nat => z ≤ q) b := by show ¬ z ≤ b; omega
  unfold wpi at h
  dsimp only at h
  simp only [ckE, dq, dqa, Bool.and_eq_true, Bool.or_eq_true, decide_eq_true_eq, beq_iff_eq, Nat.blt_eq, Nat.ble_eq] at ck
  obtain ⟨x0, r0, e0, g0⟩ := pL_inv h
  clear h
  subst e0
  have h := g0
  clear g0
  obtain ⟨x1, r1, e1, g1⟩ := pL_inv h
  clear h
  subst e1
  have h := g1
  clear g1
  have h0 := okh hst
  have h1 := okh (okt hst)
  obtain ⟨c0, h⟩ := h
  refine lv_lrem hx hb ck (i64_ne0 h0 c0) ?_
  rw [i64_rem h1 h0]
  exact ih _ _ (vL _ :: r1) _ _ _ _ h hL (okc (rgl_tmod h1 h0) (okt (okt hst))) hH hSS hg0 hl0
set_option maxHeartbeats 4000000 in
set_option maxRecDepth 100000 in
theorem bd_35 {lw : List Nat} {vw : Int} (hC : Ctx p R s m args meth c z b L xs D dA j) {N : Nat} (hS : ∀ k, k < N → SimAt l z b L xs D dA k) {v : Option mv_T} {τ : ms_T} {g0 l0 : Nat} {Z : State → Prop} (hs0 : s.heap.size = z + g0) (hgR : gn τ - g0 ≤ R.cells ∧ gl τ - l0 ≤ R.slots)
    (hZ : ∀ (pc : Nat) (H : Heap) (locs : List Loc) (lsR : Array Slot), retOK j pc v → HR z b L xs D dA τ H → va_S (fun q => z ≤ q) s.heap H locs → W p l e R s m args below meth c H locs (gn τ - g0) (gl τ - l0) Z (F0 m pc lsR (v.toList.map (vt z b))))
    {n : Nat} (hnN : n + 1 ≤ N) {pc : Nat} {ls : ml_T} {st : List mv_T} {σ : ms_T} {H : Heap} {locs : List Loc} {lsR : Array Slot} (hlew : gn σ ≤ gn τ ∧ gl σ ≤ gl τ) (hL : LR z b (mxl j) ls lsR) (hst : ∀ a ∈ st, inV a) (hH : HR z b L xs D dA σ H) (hSS : va_S (fun q => z ≤ q) s.heap H locs) (hg0 : g0 ≤ gn σ) (hl0 : l0 ≤ gl σ)
    (ih : ∀ (pc : Nat) (ls : ml_T) (st : List mv_T) (σ : ms_T) (H : Heap) (locs : List Loc) (lsR : Array Slot), Wm n j pc ls st σ (fun v' τ' => v' = v ∧ τ' = τ) → LR z b (mxl j) ls lsR → (∀ a ∈ st, inV a) → HR z b L xs D dA σ H → va_S (fun q => z ≤ q) s.heap H locs → g0 ≤ gn σ → l0 ≤ gl σ →
      W p l e R s m args below meth c H locs (gn σ - g0) (gl σ - l0) Z (F0 m pc lsR (st.map (vt z b))))
    (ck : ckE j pc (.land, lw, vw) = true) (h : wpi pc (.land, lw, vw) (mrt j) ls st σ (fun pc' ls' st' σ' => Wm n j pc' ls' st' σ' (fun v' τ' => v' = v ∧ τ' = τ)) (fun j' as σ' k => Wm n j' 0 (pad (mxl j') as) [] σ' k) (fun v' τ' => v' = v ∧ τ' = τ)) : W p l e R s m args below meth c H locs (gn σ - g0) (gl σ - l0) Z (F0 m pc lsR (st.map (vt z b))) := by
  obtain ⟨hx, hb, hml, hret, hlocks, hown, hts, hmn, hK, hnw, hAO, hRF, hRL, hX, hbz, hzs, hj, hL25⟩ := hC
  have hbs : b < s.heap.size := by omega
  have hbA : ¬ (fun q : Nat => z ≤ q) b := by show ¬ z ≤ b; omega
  unfold wpi at h
  dsimp only at h
  simp only [ckE, dq, dqa, Bool.and_eq_true, Bool.or_eq_true, decide_eq_true_eq, beq_iff_eq, Nat.blt_eq, Nat.ble_eq] at ck
  obtain ⟨x0, r0, e0, g0⟩ := pL_inv h
  clear h
  subst e0
  have h := g0
  clear g0
  obtain ⟨x1, r1, e1, g1⟩ := pL_inv h
  clear h
  subst e1
  have h := g1
  clear g1
  have h0 := okh hst
  have h1 := okh (okt hst)
  refine lv_land hx hb ck ?_
  rw [i64_and]
  exact ih _ _ (vL _ :: r1) _ _ _ _ h hL (okc (rgl_i64 _) (okt (okt hst))) hH hSS hg0 hl0
set_option maxHeartbeats 4000000 in
set_option maxRecDepth 100000 in
theorem bd_36 {lw : List Nat} {vw : Int} (hC : Ctx p R s m args meth c z b L xs D dA j) {N : Nat} (hS : ∀ k, k < N → SimAt l z b L xs D dA k) {v : Option mv_T} {τ : ms_T} {g0 l0 : Nat} {Z : State → Prop} (hs0 : s.heap.size = z + g0) (hgR : gn τ - g0 ≤ R.cells ∧ gl τ - l0 ≤ R.slots)
    (hZ : ∀ (pc : Nat) (H : Heap) (locs : List Loc) (lsR : Array Slot), retOK j pc v → HR z b L xs D dA τ H → va_S (fun q => z ≤ q) s.heap H locs → W p l e R s m args below meth c H locs (gn τ - g0) (gl τ - l0) Z (F0 m pc lsR (v.toList.map (vt z b))))
    {n : Nat} (hnN : n + 1 ≤ N) {pc : Nat} {ls : ml_T} {st : List mv_T} {σ : ms_T} {H : Heap} {locs : List Loc} {lsR : Array Slot} (hlew : gn σ ≤ gn τ ∧ gl σ ≤ gl τ) (hL : LR z b (mxl j) ls lsR) (hst : ∀ a ∈ st, inV a) (hH : HR z b L xs D dA σ H) (hSS : va_S (fun q => z ≤ q) s.heap H locs) (hg0 : g0 ≤ gn σ) (hl0 : l0 ≤ gl σ)
    (ih : ∀ (pc : Nat) (ls : ml_T) (st : List mv_T) (σ : ms_T) (H : Heap) (locs : List Loc) (lsR : Array Slot), Wm n j pc ls st σ (fun v' τ' => v' = v ∧ τ' = τ) → LR z b (mxl j) ls lsR → (∀ a ∈ st, inV a) → HR z b L xs D dA σ H → va_S (fun q => z ≤ q) s.heap H locs → g0 ≤ gn σ → l0 ≤ gl σ →
      W p l e R s m args below meth c H locs (gn σ - g0) (gl σ - l0) Z (F0 m pc lsR (st.map (vt z b))))
    (ck : ckE j pc (.lshr, lw, vw) = true) (h : wpi pc (.lshr, lw, vw) (mrt j) ls st σ (fun pc' ls' st' σ' => Wm n j pc' ls' st' σ' (fun v' τ' => v' = v ∧ τ' = τ)) (fun j' as σ' k => Wm n j' 0 (pad (mxl j') as) [] σ' k) (fun v' τ' => v' = v ∧ τ' = τ)) : W p l e R s m args below meth c H locs (gn σ - g0) (gl σ - l0) Z (F0 m pc lsR (st.map (vt z b))) := by
  obtain ⟨hx, hb, hml, hret, hlocks, hown, hts, hmn, hK, hnw, hAO, hRF, hRL, hX, hbz, hzs, hj, hL25⟩ := hC
  have hbs : b < s.heap.size := by omega
  have hbA : ¬ (fun q : Nat => z ≤ q) b := by show ¬ z ≤ b; omega
  unfold wpi at h
  dsimp only at h
  simp only [ckE, dq, dqa, Bool.and_eq_true, Bool.or_eq_true, decide_eq_true_eq, beq_iff_eq, Nat.blt_eq, Nat.ble_eq] at ck
  obtain ⟨x0, r0, e0, g0⟩ := pI_inv h
  clear h
  subst e0
  have h := g0
  clear g0
  obtain ⟨x1, r1, e1, g1⟩ := pL_inv h
  clear h
  subst e1
  have h := g1
  clear g1
  have h0 : rg x0 := okh hst
  have h1 := okh (okt hst)
  refine lv_lshr hx hb ck (i64_shr _ _) ?_
  exact ih _ _ (vL _ :: r1) _ _ _ _ h hL (okc (rgl_i64 _) (okt (okt hst))) hH hSS hg0 hl0
set_option maxHeartbeats 4000000 in
set_option maxRecDepth 100000 in
theorem bd_37 {lw : List Nat} {vw : Int} (hC : Ctx p R s m args meth c z b L xs D dA j) {N : Nat} (hS : ∀ k, k < N → SimAt l z b L xs D dA k) {v : Option mv_T} {τ : ms_T} {g0 l0 : Nat} {Z : State → Prop} (hs0 : s.heap.size = z + g0) (hgR : gn τ - g0 ≤ R.cells ∧ gl τ - l0 ≤ R.slots)
    (hZ : ∀ (pc : Nat) (H : Heap) (locs : List Loc) (lsR : Array Slot), retOK j pc v → HR z b L xs D dA τ H → va_S (fun q => z ≤ q) s.heap H locs → W p l e R s m args below meth c H locs (gn τ - g0) (gl τ - l0) Z (F0 m pc lsR (v.toList.map (vt z b))))
    {n : Nat} (hnN : n + 1 ≤ N) {pc : Nat} {ls : ml_T} {st : List mv_T} {σ : ms_T} {H : Heap} {locs : List Loc} {lsR : Array Slot} (hlew : gn σ ≤ gn τ ∧ gl σ ≤ gl τ) (hL : LR z b (mxl j) ls lsR) (hst : ∀ a ∈ st, inV a) (hH : HR z b L xs D dA σ H) (hSS : va_S (fun q => z ≤ q) s.heap H locs) (hg0 : g0 ≤ gn σ) (hl0 : l0 ≤ gl σ)
    (ih : ∀ (pc : Nat) (ls : ml_T) (st : List mv_T) (σ : ms_T) (H : Heap) (locs : List Loc) (lsR : Array Slot), Wm n j pc ls st σ (fun v' τ' => v' = v ∧ τ' = τ) → LR z b (mxl j) ls lsR → (∀ a ∈ st, inV a) → HR z b L xs D dA σ H → va_S (fun q => z ≤ q) s.heap H locs → g0 ≤ gn σ → l0 ≤ gl σ →
      W p l e R s m args below meth c H locs (gn σ - g0) (gl σ - l0) Z (F0 m pc lsR (st.map (vt z b))))
    (ck : ckE j pc (.l2i, lw, vw) = true) (h : wpi pc (.l2i, lw, vw) (mrt j) ls st σ (fun pc' ls' st' σ' => Wm n j pc' ls' st' σ' (fun v' τ' => v' = v ∧ τ' = τ)) (fun j' as σ' k => Wm n j' 0 (pad (mxl j') as) [] σ' k) (fun v' τ' => v' = v ∧ τ' = τ)) : W p l e R s m args below meth c H locs (gn σ - g0) (gl σ - l0) Z (F0 m pc lsR (st.map (vt z b))) := by
  obtain ⟨hx, hb, hml, hret, hlocks, hown, hts, hmn, hK, hnw, hAO, hRF, hRL, hX, hbz, hzs, hj, hL25⟩ := hC
  have hbs : b < s.heap.size := by omega
  have hbA : ¬ (fun q : Nat => z ≤ q) b := by show ¬ z ≤ b; omega
  unfold wpi at h
  dsimp only at h
  simp only [ckE, dq, dqa, Bool.and_eq_true, Bool.or_eq_true, decide_eq_true_eq, beq_iff_eq, Nat.blt_eq, Nat.ble_eq] at ck
  obtain ⟨x0, r0, e0, g0⟩ := pL_inv h
  clear h
  subst e0
  have h := g0
  clear g0
  refine lv_l2i hx hb ck (i64_i32 _) ?_
  exact ih _ _ (vI _ :: r0) _ _ _ _ h hL (okc (rg_wr _) (okt hst)) hH hSS hg0 hl0
set_option maxHeartbeats 4000000 in
set_option maxRecDepth 100000 in
theorem bd_38 {lw : List Nat} {vw : Int} (hC : Ctx p R s m args meth c z b L xs D dA j) {N : Nat} (hS : ∀ k, k < N → SimAt l z b L xs D dA k) {v : Option mv_T} {τ : ms_T} {g0 l0 : Nat} {Z : State → Prop} (hs0 : s.heap.size = z + g0) (hgR : gn τ - g0 ≤ R.cells ∧ gl τ - l0 ≤ R.slots)
    (hZ : ∀ (pc : Nat) (H : Heap) (locs : List Loc) (lsR : Array Slot), retOK j pc v → HR z b L xs D dA τ H → va_S (fun q => z ≤ q) s.heap H locs → W p l e R s m args below meth c H locs (gn τ - g0) (gl τ - l0) Z (F0 m pc lsR (v.toList.map (vt z b))))
    {n : Nat} (hnN : n + 1 ≤ N) {pc : Nat} {ls : ml_T} {st : List mv_T} {σ : ms_T} {H : Heap} {locs : List Loc} {lsR : Array Slot} (hlew : gn σ ≤ gn τ ∧ gl σ ≤ gl τ) (hL : LR z b (mxl j) ls lsR) (hst : ∀ a ∈ st, inV a) (hH : HR z b L xs D dA σ H) (hSS : va_S (fun q => z ≤ q) s.heap H locs) (hg0 : g0 ≤ gn σ) (hl0 : l0 ≤ gl σ)
    (ih : ∀ (pc : Nat) (ls : ml_T) (st : List mv_T) (σ : ms_T) (H : Heap) (locs : List Loc) (lsR : Array Slot), Wm n j pc ls st σ (fun v' τ' => v' = v ∧ τ' = τ) → LR z b (mxl j) ls lsR → (∀ a ∈ st, inV a) → HR z b L xs D dA σ H → va_S (fun q => z ≤ q) s.heap H locs → g0 ≤ gn σ → l0 ≤ gl σ →
      W p l e R s m args below meth c H locs (gn σ - g0) (gl σ - l0) Z (F0 m pc lsR (st.map (vt z b))))
    (ck : ckE j pc (.lcmp, lw, vw) = true) (h : wpi pc (.lcmp, lw, vw) (mrt j) ls st σ (fun pc' ls' st' σ' => Wm n j pc' ls' st' σ' (fun v' τ' => v' = v ∧ τ' = τ)) (fun j' as σ' k => Wm n j' 0 (pad (mxl j') as) [] σ' k) (fun v' τ' => v' = v ∧ τ' = τ)) : W p l e R s m args below meth c H locs (gn σ - g0) (gl σ - l0) Z (F0 m pc lsR (st.map (vt z b))) := by
  obtain ⟨hx, hb, hml, hret, hlocks, hown, hts, hmn, hK, hnw, hAO, hRF, hRL, hX, hbz, hzs, hj, hL25⟩ := hC
  have hbs : b < s.heap.size := by omega
  have hbA : ¬ (fun q : Nat => z ≤ q) b := by show ¬ z ≤ b; omega
  unfold wpi at h
  dsimp only at h
  simp only [ckE, dq, dqa, Bool.and_eq_true, Bool.or_eq_true, decide_eq_true_eq, beq_iff_eq, Nat.blt_eq, Nat.ble_eq] at ck
  obtain ⟨x0, r0, e0, g0⟩ := pL_inv h
  clear h
  subst e0
  have h := g0
  clear g0
  obtain ⟨x1, r1, e1, g1⟩ := pL_inv h
  clear h
  subst e1
  have h := g1
  clear g1
  have h0 := okh hst
  have h1 := okh (okt hst)
  refine W.lcmp hx hb ck ?_
  rw [i64_cmp h1 h0]
  exact ih _ _ (vI _ :: r1) _ _ _ _ h hL (okc (rg_cmp3 _ _) (okt (okt hst))) hH hSS hg0 hl0
set_option maxHeartbeats 4000000 in
set_option maxRecDepth 100000 in
theorem bd_39 {lw : List Nat} {vw : Int} (hC : Ctx p R s m args meth c z b L xs D dA j) {N : Nat} (hS : ∀ k, k < N → SimAt l z b L xs D dA k) {v : Option mv_T} {τ : ms_T} {g0 l0 : Nat} {Z : State → Prop} (hs0 : s.heap.size = z + g0) (hgR : gn τ - g0 ≤ R.cells ∧ gl τ - l0 ≤ R.slots)
    (hZ : ∀ (pc : Nat) (H : Heap) (locs : List Loc) (lsR : Array Slot), retOK j pc v → HR z b L xs D dA τ H → va_S (fun q => z ≤ q) s.heap H locs → W p l e R s m args below meth c H locs (gn τ - g0) (gl τ - l0) Z (F0 m pc lsR (v.toList.map (vt z b))))
    {n : Nat} (hnN : n + 1 ≤ N) {pc : Nat} {ls : ml_T} {st : List mv_T} {σ : ms_T} {H : Heap} {locs : List Loc} {lsR : Array Slot} (hlew : gn σ ≤ gn τ ∧ gl σ ≤ gl τ) (hL : LR z b (mxl j) ls lsR) (hst : ∀ a ∈ st, inV a) (hH : HR z b L xs D dA σ H) (hSS : va_S (fun q => z ≤ q) s.heap H locs) (hg0 : g0 ≤ gn σ) (hl0 : l0 ≤ gl σ)
    (ih : ∀ (pc : Nat) (ls : ml_T) (st : List mv_T) (σ : ms_T) (H : Heap) (locs : List Loc) (lsR : Array Slot), Wm n j pc ls st σ (fun v' τ' => v' = v ∧ τ' = τ) → LR z b (mxl j) ls lsR → (∀ a ∈ st, inV a) → HR z b L xs D dA σ H → va_S (fun q => z ≤ q) s.heap H locs → g0 ≤ gn σ → l0 ≤ gl σ →
      W p l e R s m args below meth c H locs (gn σ - g0) (gl σ - l0) Z (F0 m pc lsR (st.map (vt z b))))
    (ck : ckE j pc (.dup, lw, vw) = true) (h : wpi pc (.dup, lw, vw) (mrt j) ls st σ (fun pc' ls' st' σ' => Wm n j pc' ls' st' σ' (fun v' τ' => v' = v ∧ τ' = τ)) (fun j' as σ' k => Wm n j' 0 (pad (mxl j') as) [] σ' k) (fun v' τ' => v' = v ∧ τ' = τ)) : W p l e R s m args below meth c H locs (gn σ - g0) (gl σ - l0) Z (F0 m pc lsR (st.map (vt z b))) := by
  obtain ⟨hx, hb, hml, hret, hlocks, hown, hts, hmn, hK, hnw, hAO, hRF, hRL, hX, hbz, hzs, hj, hL25⟩ := hC
  have hbs : b < s.heap.size := by omega
  have hbA : ¬ (fun q : Nat => z ≤ q) b := by show ¬ z ≤ b; omega
  unfold wpi at h
  dsimp only at h
  simp only [ckE, dq, dqa, Bool.and_eq_true, Bool.or_eq_true, decide_eq_true_eq, beq_iff_eq, Nat.blt_eq, Nat.ble_eq] at ck
  obtain ⟨x0, r0, e0, m0, g0⟩ := p1_inv h
  clear h
  subst e0
  have h := g0
  clear g0
  refine lv_dup hx hb ck (vt_cat m0) ?_
  exact ih _ _ (x0 :: x0 :: r0) _ _ _ _ h hL (okc (okh hst) hst) hH hSS hg0 hl0
set_option maxHeartbeats 4000000 in
set_option maxRecDepth 100000 in
theorem bd_40 {lw : List Nat} {vw : Int} (hC : Ctx p R s m args meth c z b L xs D dA j) {N : Nat} (hS : ∀ k, k < N → SimAt l z b L xs D dA k) {v : Option mv_T} {τ : ms_T} {g0 l0 : Nat} {Z : State → Prop} (hs0 : s.heap.size = z + g0) (hgR : gn τ - g0 ≤ R.cells ∧ gl τ - l0 ≤ R.slots)
    (hZ : ∀ (pc : Nat) (H : Heap) (locs : List Loc) (lsR : Array Slot), retOK j pc v → HR z b L xs D dA τ H → va_S (fun q => z ≤ q) s.heap H locs → W p l e R s m args below meth c H locs (gn τ - g0) (gl τ - l0) Z (F0 m pc lsR (v.toList.map (vt z b))))
    {n : Nat} (hnN : n + 1 ≤ N) {pc : Nat} {ls : ml_T} {st : List mv_T} {σ : ms_T} {H : Heap} {locs : List Loc} {lsR : Array Slot} (hlew : gn σ ≤ gn τ ∧ gl σ ≤ gl τ) (hL : LR z b (mxl j) ls lsR) (hst : ∀ a ∈ st, inV a) (hH : HR z b L xs D dA σ H) (hSS : va_S (fun q => z ≤ q) s.heap H locs) (hg0 : g0 ≤ gn σ) (hl0 : l0 ≤ gl σ)
    (ih : ∀ (pc : Nat) (ls : ml_T) (st : List mv_T) (σ : ms_T) (H : Heap) (locs : List Loc) (lsR : Array Slot), Wm n j pc ls st σ (fun v' τ' => v' = v ∧ τ' = τ) → LR z b (mxl j) ls lsR → (∀ a ∈ st, inV a) → HR z b L xs D dA σ H → va_S (fun q => z ≤ q) s.heap H locs → g0 ≤ gn σ → l0 ≤ gl σ →
      W p l e R s m args below meth c H locs (gn σ - g0) (gl σ - l0) Z (F0 m pc lsR (st.map (vt z b))))
    (ck : ckE j pc (.dup2, lw, vw) = true) (h : wpi pc (.dup2, lw, vw) (mrt j) ls st σ (fun pc' ls' st' σ' => Wm n j pc' ls' st' σ' (fun v' τ' => v' = v ∧ τ' = τ)) (fun j' as σ' k => Wm n j' 0 (pad (mxl j') as) [] σ' k) (fun v' τ' => v' = v ∧ τ' = τ)) : W p l e R s m args below meth c H locs (gn σ - g0) (gl σ - l0) Z (F0 m pc lsR (st.map (vt z b))) := by
  obtain ⟨hx, hb, hml, hret, hlocks, hown, hts, hmn, hK, hnw, hAO, hRF, hRL, hX, hbz, hzs, hj, hL25⟩ := hC
  have hbs : b < s.heap.size := by omega
  have hbA : ¬ (fun q : Nat => z ≤ q) b := by show ¬ z ≤ b; omega
  unfold wpi at h
  dsimp only at h
  simp only [ckE, dq, dqa, Bool.and_eq_true, Bool.or_eq_true, decide_eq_true_eq, beq_iff_eq, Nat.blt_eq, Nat.ble_eq] at ck
  obtain ⟨x0, r0, e0, m0, g0⟩ := p1_inv h
  clear h
  subst e0
  have h := g0
  clear g0
  obtain ⟨x1, r1, e1, m1, g1⟩ := p1_inv h
  clear h
  subst e1
  have h := g1
  clear g1
  refine lv_dup2_11 hx hb ck (vt_cat m0) (vt_cat m1) ?_
  exact ih _ _ (x0 :: x1 :: x0 :: x1 :: r1) _ _ _ _ h hL (okc (okh hst) (okc (okh (okt hst)) hst)) hH hSS hg0 hl0
set_option maxHeartbeats 4000000 in
set_option maxRecDepth 100000 in
theorem bd_41 {lw : List Nat} {vw : Int} (hC : Ctx p R s m args meth c z b L xs D dA j) {N : Nat} (hS : ∀ k, k < N → SimAt l z b L xs D dA k) {v : Option mv_T} {τ : ms_T} {g0 l0 : Nat} {Z : State → Prop} (hs0 : s.heap.size = z + g0) (hgR : gn τ - g0 ≤ R.cells ∧ gl τ - l0 ≤ R.slots)
    (hZ : ∀ (pc : Nat) (H : Heap) (locs : List Loc) (lsR : Array Slot), retOK j pc v → HR z b L xs D dA τ H → va_S (fun q => z ≤ q) s.heap H locs → W p l e R s m args below meth c H locs (gn τ - g0) (gl τ - l0) Z (F0 m pc lsR (v.toList.map (vt z b))))
    {n : Nat} (hnN : n + 1 ≤ N) {pc : Nat} {ls : ml_T} {st : List mv_T} {σ : ms_T} {H : Heap} {locs : List Loc} {lsR : Array Slot} (hlew : gn σ ≤ gn τ ∧ gl σ ≤ gl τ) (hL : LR z b (mxl j) ls lsR) (hst : ∀ a ∈ st, inV a) (hH : HR z b L xs D dA σ H) (hSS : va_S (fun q => z ≤ q) s.heap H locs) (hg0 : g0 ≤ gn σ) (hl0 : l0 ≤ gl σ)
    (ih : ∀ (pc : Nat) (ls : ml_T) (st : List mv_T) (σ : ms_T) (H : Heap) (locs : List Loc) (lsR : Array Slot), Wm n j pc ls st σ (fun v' τ' => v' = v ∧ τ' = τ) → LR z b (mxl j) ls lsR → (∀ a ∈ st, inV a) → HR z b L xs D dA σ H → va_S (fun q => z ≤ q) s.heap H locs → g0 ≤ gn σ → l0 ≤ gl σ →
      W p l e R s m args below meth c H locs (gn σ - g0) (gl σ - l0) Z (F0 m pc lsR (st.map (vt z b))))
    (ck : ckE j pc (.pop, lw, vw) = true) (h : wpi pc (.pop, lw, vw) (mrt j) ls st σ (fun pc' ls' st' σ' => Wm n j pc' ls' st' σ' (fun v' τ' => v' = v ∧ τ' = τ)) (fun j' as σ' k => Wm n j' 0 (pad (mxl j') as) [] σ' k) (fun v' τ' => v' = v ∧ τ' = τ)) : W p l e R s m args below meth c H locs (gn σ - g0) (gl σ - l0) Z (F0 m pc lsR (st.map (vt z b))) := by
  obtain ⟨hx, hb, hml, hret, hlocks, hown, hts, hmn, hK, hnw, hAO, hRF, hRL, hX, hbz, hzs, hj, hL25⟩ := hC
  have hbs : b < s.heap.size := by omega
  have hbA : ¬ (fun q : Nat => z ≤ q) b := by show ¬ z ≤ b; omega
  unfold wpi at h
  dsimp only at h
  simp only [ckE, dq, dqa, Bool.and_eq_true, Bool.or_eq_true, decide_eq_true_eq, beq_iff_eq, Nat.blt_eq, Nat.ble_eq] at ck
  obtain ⟨x0, r0, e0, m0, g0⟩ := p1_inv h
  clear h
  subst e0
  have h := g0
  clear g0
  refine lv_pop hx hb ck (vt_cat m0) ?_
  exact ih _ _ _ _ _ _ _ h hL (okt hst) hH hSS hg0 hl0
set_option maxHeartbeats 4000000 in
set_option maxRecDepth 100000 in
theorem bd_42 {a0 : Int} {t : Nat} {vw : Int} (hC : Ctx p R s m args meth c z b L xs D dA j) {N : Nat} (hS : ∀ k, k < N → SimAt l z b L xs D dA k) {v : Option mv_T} {τ : ms_T} {g0 l0 : Nat} {Z : State → Prop} (hs0 : s.heap.size = z + g0) (hgR : gn τ - g0 ≤ R.cells ∧ gl τ - l0 ≤ R.slots)
    (hZ : ∀ (pc : Nat) (H : Heap) (locs : List Loc) (lsR : Array Slot), retOK j pc v → HR z b L xs D dA τ H → va_S (fun q => z ≤ q) s.heap H locs → W p l e R s m args below meth c H locs (gn τ - g0) (gl τ - l0) Z (F0 m pc lsR (v.toList.map (vt z b))))
    {n : Nat} (hnN : n + 1 ≤ N) {pc : Nat} {ls : ml_T} {st : List mv_T} {σ : ms_T} {H : Heap} {locs : List Loc} {lsR : Array Slot} (hlew : gn σ ≤ gn τ ∧ gl σ ≤ gl τ) (hL : LR z b (mxl j) ls lsR) (hst : ∀ a ∈ st, inV a) (hH : HR z b L xs D dA σ H) (hSS : va_S (fun q => z ≤ q) s.heap H locs) (hg0 : g0 ≤ gn σ) (hl0 : l0 ≤ gl σ)
    (ih : ∀ (pc : Nat) (ls : ml_T) (st : List mv_T) (σ : ms_T) (H : Heap) (locs : List Loc) (lsR : Array Slot), Wm n j pc ls st σ (fun v' τ' => v' = v ∧ τ' = τ) → LR z b (mxl j) ls lsR → (∀ a ∈ st, inV a) → HR z b L xs D dA σ H → va_S (fun q => z ≤ q) s.heap H locs → g0 ≤ gn σ → l0 ≤ gl σ →
      W p l e R s m args below meth c H locs (gn σ - g0) (gl σ - l0) Z (F0 m pc lsR (st.map (vt z b))))
    (ck : ckE j pc (.goto a0, [t], vw) = true) (h : wpi pc (.goto a0, [t], vw) (mrt j) ls st σ (fun pc' ls' st' σ' => Wm n j pc' ls' st' σ' (fun v' τ' => v' = v ∧ τ' = τ)) (fun j' as σ' k => Wm n j' 0 (pad (mxl j') as) [] σ' k) (fun v' τ' => v' = v ∧ τ' = τ)) : W p l e R s m args below meth c H locs (gn σ - g0) (gl σ - l0) Z (F0 m pc lsR (st.map (vt z b))) := by
  obtain ⟨hx, hb, hml, hret, hlocks, hown, hts, hmn, hK, hnw, hAO, hRF, hRL, hX, hbz, hzs, hj, hL25⟩ := hC
  have hbs : b < s.heap.size := by omega
  have hbA : ¬ (fun q : Nat => z ≤ q) b := by show ¬ z ≤ b; omega
  unfold wpi at h
  dsimp only at h
  simp only [ckE, dq, dqa, Bool.and_eq_true, Bool.or_eq_true, decide_eq_true_eq, beq_iff_eq, Nat.blt_eq, Nat.ble_eq] at ck
  refine lv_goto hx hb ck.1 ck.2 ?_
  exact ih _ _ _ _ _ _ _ h hL hst hH hSS hg0 hl0
set_option maxHeartbeats 4000000 in
set_option maxRecDepth 100000 in
theorem bd_43 {a0 : ClassFile.Cond} {a1 : Int} {t : Nat} {vw : Int} (hC : Ctx p R s m args meth c z b L xs D dA j) {N : Nat} (hS : ∀ k, k < N → SimAt l z b L xs D dA k) {v : Option mv_T} {τ : ms_T} {g0 l0 : Nat} {Z : State → Prop} (hs0 : s.heap.size = z + g0) (hgR : gn τ - g0 ≤ R.cells ∧ gl τ - l0 ≤ R.slots)
    (hZ : ∀ (pc : Nat) (H : Heap) (locs : List Loc) (lsR : Array Slot), retOK j pc v → HR z b L xs D dA τ H → va_S (fun q => z ≤ q) s.heap H locs → W p l e R s m args below meth c H locs (gn τ - g0) (gl τ - l0) Z (F0 m pc lsR (v.toList.map (vt z b))))
    {n : Nat} (hnN : n + 1 ≤ N) {pc : Nat} {ls : ml_T} {st : List mv_T} {σ : ms_T} {H : Heap} {locs : List Loc} {lsR : Array Slot} (hlew : gn σ ≤ gn τ ∧ gl σ ≤ gl τ) (hL : LR z b (mxl j) ls lsR) (hst : ∀ a ∈ st, inV a) (hH : HR z b L xs D dA σ H) (hSS : va_S (fun q => z ≤ q) s.heap H locs) (hg0 : g0 ≤ gn σ) (hl0 : l0 ≤ gl σ)
    (ih : ∀ (pc : Nat) (ls : ml_T) (st : List mv_T) (σ : ms_T) (H : Heap) (locs : List Loc) (lsR : Array Slot), Wm n j pc ls st σ (fun v' τ' => v' = v ∧ τ' = τ) → LR z b (mxl j) ls lsR → (∀ a ∈ st, inV a) → HR z b L xs D dA σ H → va_S (fun q => z ≤ q) s.heap H locs → g0 ≤ gn σ → l0 ≤ gl σ →
      W p l e R s m args below meth c H locs (gn σ - g0) (gl σ - l0) Z (F0 m pc lsR (st.map (vt z b))))
    (ck : ckE j pc (.ifCond a0 a1, [t], vw) = true) (h : wpi pc (.ifCond a0 a1, [t], vw) (mrt j) ls st σ (fun pc' ls' st' σ' => Wm n j pc' ls' st' σ' (fun v' τ' => v' = v ∧ τ' = τ)) (fun j' as σ' k => Wm n j' 0 (pad (mxl j') as) [] σ' k) (fun v' τ' => v' = v ∧ τ' = τ)) : W p l e R s m args below meth c H locs (gn σ - g0) (gl σ - l0) Z (F0 m pc lsR (st.map (vt z b))) := by
  obtain ⟨hx, hb, hml, hret, hlocks, hown, hts, hmn, hK, hnw, hAO, hRF, hRL, hX, hbz, hzs, hj, hL25⟩ := hC
  have hbs : b < s.heap.size := by omega
  have hbA : ¬ (fun q : Nat => z ≤ q) b := by show ¬ z ≤ b; omega
  unfold wpi at h
  dsimp only at h
  simp only [ckE, dq, dqa, Bool.and_eq_true, Bool.or_eq_true, decide_eq_true_eq, beq_iff_eq, Nat.blt_eq, Nat.ble_eq] at ck
  skip
  obtain ⟨x0, r0, e0, g0⟩ := pI_inv h
  clear h
  subst e0
  have h := g0
  clear g0
  have h0 : rg x0 := okh hst
  cases ‹ClassFile.Cond› with
  | eq => exact lv_if_eq hx hb ck.1 ck.2 (fun q => ih _ _ _ _ _ _ _ (h.1 ((i32_inj h0 rg0).mp q)) hL (okt hst) hH hSS hg0 hl0) (fun q => ih _ _ _ _ _ _ _ (h.2 (fun y => q ((i32_inj h0 rg0).mpr y))) hL (okt hst) hH hSS hg0 hl0)
  | ne => exact lv_if_ne hx hb ck.1 ck.2 (fun q => ih _ _ _ _ _ _ _ (h.1 (fun y => q ((i32_inj h0 rg0).mpr y))) hL (okt hst) hH hSS hg0 hl0) (fun q => ih _ _ _ _ _ _ _ (h.2 (fun y => y ((i32_inj h0 rg0).mp q))) hL (okt hst) hH hSS hg0 hl0)
  | lt => exact lv_if_lt hx hb ck.1 ck.2 (fun q => ih _ _ _ _ _ _ _ (h.1 ((i32_lt h0 rg0).mp q)) hL (okt hst) hH hSS hg0 hl0) (fun q => ih _ _ _ _ _ _ _ (h.2 (fun y => q ((i32_lt h0 rg0).mpr y))) hL (okt hst) hH hSS hg0 hl0)
  | ge => exact lv_if_ge hx hb ck.1 ck.2 (fun q => ih _ _ _ _ _ _ _ (h.1 ((i32_le rg0 h0).mp q)) hL (okt hst) hH hSS hg0 hl0) (fun q => ih _ _ _ _ _ _ _ (h.2 (fun y => q ((i32_le rg0 h0).mpr y))) hL (okt hst) hH hSS hg0 hl0)
  | gt => exact lv_if_gt hx hb ck.1 ck.2 (fun q => ih _ _ _ _ _ _ _ (h.1 ((i32_lt rg0 h0).mp q)) hL (okt hst) hH hSS hg0 hl0) (fun q => ih _ _ _ _ _ _ _ (h.2 (fun y => q ((i32_lt rg0 h0).mpr y))) hL (okt hst) hH hSS hg0 hl0)
  | le => exact lv_if_le hx hb ck.1 ck.2 (fun q => ih _ _ _ _ _ _ _ (h.1 ((i32_le h0 rg0).mp q)) hL (okt hst) hH hSS hg0 hl0) (fun q => ih _ _ _ _ _ _ _ (h.2 (fun y => q ((i32_le h0 rg0).mpr y))) hL (okt hst) hH hSS hg0 hl0)
set_option maxHeartbeats 4000000 in
set_option maxRecDepth 100000 in
theorem bd_44 {a0 : ClassFile.Cond} {a1 : Int} {t : Nat} {vw : Int} (hC : Ctx p R s m args meth c z b L xs D dA j) {N : Nat} (hS : ∀ k, k < N → SimAt l z b L xs D dA k) {v : Option mv_T} {τ : ms_T} {g0 l0 : Nat} {Z : State → Prop} (hs0 : s.heap.size = z + g0) (hgR : gn τ - g0 ≤ R.cells ∧ gl τ - l0 ≤ R.slots)
    (hZ : ∀ (pc : Nat) (H : Heap) (locs : List Loc) (lsR : Array Slot), retOK j pc v → HR z b L xs D dA τ H → va_S (fun q => z ≤ q) s.heap H locs → W p l e R s m args below meth c H locs (gn τ - g0) (gl τ - l0) Z (F0 m pc lsR (v.toList.map (vt z b))))
    {n : Nat} (hnN : n + 1 ≤ N) {pc : Nat} {ls : ml_T} {st : List mv_T} {σ : ms_T} {H : Heap} {locs : List Loc} {lsR : Array Slot} (hlew : gn σ ≤ gn τ ∧ gl σ ≤ gl τ) (hL : LR z b (mxl j) ls lsR) (hst : ∀ a ∈ st, inV a) (hH : HR z b L xs D dA σ H) (hSS : va_S (fun q => z ≤ q) s.heap H locs) (hg0 : g0 ≤ gn σ) (hl0 : l0 ≤ gl σ)
    (ih : ∀ (pc : Nat) (ls : ml_T) (st : List mv_T) (σ : ms_T) (H : Heap) (locs : List Loc) (lsR : Array Slot), Wm n j pc ls st σ (fun v' τ' => v' = v ∧ τ' = τ) → LR z b (mxl j) ls lsR → (∀ a ∈ st, inV a) → HR z b L xs D dA σ H → va_S (fun q => z ≤ q) s.heap H locs → g0 ≤ gn σ → l0 ≤ gl σ →
      W p l e R s m args below meth c H locs (gn σ - g0) (gl σ - l0) Z (F0 m pc lsR (st.map (vt z b))))
    (ck : ckE j pc (.if_icmp a0 a1, [t], vw) = true) (h : wpi pc (.if_icmp a0 a1, [t], vw) (mrt j) ls st σ (fun pc' ls' st' σ' => Wm n j pc' ls' st' σ' (fun v' τ' => v' = v ∧ τ' = τ)) (fun j' as σ' k => Wm n j' 0 (pad (mxl j') as) [] σ' k) (fun v' τ' => v' = v ∧ τ' = τ)) : W p l e R s m args below meth c H locs (gn σ - g0) (gl σ - l0) Z (F0 m pc lsR (st.map (vt z b))) := by
  obtain ⟨hx, hb, hml, hret, hlocks, hown, hts, hmn, hK, hnw, hAO, hRF, hRL, hX, hbz, hzs, hj, hL25⟩ := hC
  have hbs : b < s.heap.size := by omega
  have hbA : ¬ (fun q : Nat => z ≤ q) b := by show ¬ z ≤ b; omega
  unfold wpi at h
  dsimp only at h
  simp only [ckE, dq, dqa, Bool.and_eq_true, Bool.or_eq_true, decide_eq_true_eq, beq_iff_eq, Nat.blt_eq, Nat.ble_eq] at ck
  skip
  obtain ⟨x0, r0, e0, g0⟩ := pI_inv h
  clear h
  subst e0
  have h := g0
  clear g0
  obtain ⟨x1, r1, e1, g1⟩ := pI_inv h
  clear h
  subst e1
  have h := g1
  clear g1
  have h0 : rg x0 := okh hst
  have h1 : rg x1 := okh (okt hst)
  cases ‹ClassFile.Cond› with
  | eq => exact lv_icmp_eq hx hb ck.1 ck.2 (fun q => ih _ _ _ _ _ _ _ (h.1 ((i32_inj h1 h0).mp q)) hL (okt (okt hst)) hH hSS hg0 hl0) (fun q => ih _ _ _ _ _ _ _ (h.2 (fun y => q ((i32_inj h1 h0).mpr y))) hL (okt (okt hst)) hH hSS hg0 hl0)
  | ne => exact lv_icmp_ne hx hb ck.1 ck.2 (fun q => ih _ _ _ _ _ _ _ (h.1 (fun y => q ((i32_inj h1 h0).mpr y))) hL (okt (okt hst)) hH hSS hg0 hl0) (fun q => ih _ _ _ _ _ _ _ (h.2 (fun y => y ((i32_inj h1 h0).mp q))) hL (okt (okt hst)) hH hSS hg0 hl0)
  | lt => exact lv_icmp_lt hx hb ck.1 ck.2 (fun q => ih _ _ _ _ _ _ _ (h.1 ((i32_lt h1 h0).mp q)) hL (okt (okt hst)) hH hSS hg0 hl0) (fun q => ih _ _ _ _ _ _ _ (h.2 (fun y => q ((i32_lt h1 h0).mpr y))) hL (okt (okt hst)) hH hSS hg0 hl0)
  | ge => exact lv_icmp_ge hx hb ck.1 ck.2 (fun q => ih _ _ _ _ _ _ _ (h.1 ((i32_le h0 h1).mp q)) hL (okt (okt hst)) hH hSS hg0 hl0) (fun q => ih _ _ _ _ _ _ _ (h.2 (fun y => q ((i32_le h0 h1).mpr y))) hL (okt (okt hst)) hH hSS hg0 hl0)
  | gt => exact lv_icmp_gt hx hb ck.1 ck.2 (fun q => ih _ _ _ _ _ _ _ (h.1 ((i32_lt h0 h1).mp q)) hL (okt (okt hst)) hH hSS hg0 hl0) (fun q => ih _ _ _ _ _ _ _ (h.2 (fun y => q ((i32_lt h0 h1).mpr y))) hL (okt (okt hst)) hH hSS hg0 hl0)
  | le => exact lv_icmp_le hx hb ck.1 ck.2 (fun q => ih _ _ _ _ _ _ _ (h.1 ((i32_le h1 h0).mp q)) hL (okt (okt hst)) hH hSS hg0 hl0) (fun q => ih _ _ _ _ _ _ _ (h.2 (fun y => q ((i32_le h1 h0).mpr y))) hL (okt (okt hst)) hH hSS hg0 hl0)
set_option maxHeartbeats 4000000 in
set_option maxRecDepth 100000 in
theorem bd_45 {a0 : Int} {t : Nat} {vw : Int} (hC : Ctx p R s m args meth c z b L xs D dA j) {N : Nat} (hS : ∀ k, k < N → SimAt l z b L xs D dA k) {v : Option mv_T} {τ : ms_T} {g0 l0 : Nat} {Z : State → Prop} (hs0 : s.heap.size = z + g0) (hgR : gn τ - g0 ≤ R.cells ∧ gl τ - l0 ≤ R.slots)
    (hZ : ∀ (pc : Nat) (H : Heap) (locs : List Loc) (lsR : Array Slot), retOK j pc v → HR z b L xs D dA τ H → va_S (fun q => z ≤ q) s.heap H locs → W p l e R s m args below meth c H locs (gn τ - g0) (gl τ - l0) Z (F0 m pc lsR (v.toList.map (vt z b))))
    {n : Nat} (hnN : n + 1 ≤ N) {pc : Nat} {ls : ml_T} {st : List mv_T} {σ : ms_T} {H : Heap} {locs : List Loc} {lsR : Array Slot} (hlew : gn σ ≤ gn τ ∧ gl σ ≤ gl τ) (hL : LR z b (mxl j) ls lsR) (hst : ∀ a ∈ st, inV a) (hH : HR z b L xs D dA σ H) (hSS : va_S (fun q => z ≤ q) s.heap H locs) (hg0 : g0 ≤ gn σ) (hl0 : l0 ≤ gl σ)
    (ih : ∀ (pc : Nat) (ls : ml_T) (st : List mv_T) (σ : ms_T) (H : Heap) (locs : List Loc) (lsR : Array Slot), Wm n j pc ls st σ (fun v' τ' => v' = v ∧ τ' = τ) → LR z b (mxl j) ls lsR → (∀ a ∈ st, inV a) → HR z b L xs D dA σ H → va_S (fun q => z ≤ q) s.heap H locs → g0 ≤ gn σ → l0 ≤ gl σ →
      W p l e R s m args below meth c H locs (gn σ - g0) (gl σ - l0) Z (F0 m pc lsR (st.map (vt z b))))
    (ck : ckE j pc (.ifnull a0, [t], vw) = true) (h : wpi pc (.ifnull a0, [t], vw) (mrt j) ls st σ (fun pc' ls' st' σ' => Wm n j pc' ls' st' σ' (fun v' τ' => v' = v ∧ τ' = τ)) (fun j' as σ' k => Wm n j' 0 (pad (mxl j') as) [] σ' k) (fun v' τ' => v' = v ∧ τ' = τ)) : W p l e R s m args below meth c H locs (gn σ - g0) (gl σ - l0) Z (F0 m pc lsR (st.map (vt z b))) := by
  obtain ⟨hx, hb, hml, hret, hlocks, hown, hts, hmn, hK, hnw, hAO, hRF, hRL, hX, hbz, hzs, hj, hL25⟩ := hC
  have hbs : b < s.heap.size := by omega
  have hbA : ¬ (fun q : Nat => z ≤ q) b := by show ¬ z ≤ b; omega
  unfold wpi at h
  dsimp only at h
  simp only [ckE, dq, dqa, Bool.and_eq_true, Bool.or_eq_true, decide_eq_true_eq, beq_iff_eq, Nat.blt_eq, Nat.ble_eq] at ck
  obtain ⟨x0, r0, e0, g0⟩ := pR_inv h
  clear h
  subst e0
  have h := g0
  clear g0
  cases x0 with
  | none =>
    refine lv_ifnullN hx hb ck.1 ck.2 ?_
    exact ih _ _ _ _ _ _ _ (h.1 rfl) hL (okt hst) hH hSS hg0 hl0
  | some x0 =>
    refine lv_ifnull hx hb ck.1 ?_
    exact ih _ _ _ _ _ _ _ (h.2 (fun q => by cases q)) hL (okt hst) hH hSS hg0 hl0
set_option maxHeartbeats 4000000 in
set_option maxRecDepth 100000 in
theorem bd_46 {a0 : Int} {t : Nat} {vw : Int} (hC : Ctx p R s m args meth c z b L xs D dA j) {N : Nat} (hS : ∀ k, k < N → SimAt l z b L xs D dA k) {v : Option mv_T} {τ : ms_T} {g0 l0 : Nat} {Z : State → Prop} (hs0 : s.heap.size = z + g0) (hgR : gn τ - g0 ≤ R.cells ∧ gl τ - l0 ≤ R.slots)
    (hZ : ∀ (pc : Nat) (H : Heap) (locs : List Loc) (lsR : Array Slot), retOK j pc v → HR z b L xs D dA τ H → va_S (fun q => z ≤ q) s.heap H locs → W p l e R s m args below meth c H locs (gn τ - g0) (gl τ - l0) Z (F0 m pc lsR (v.toList.map (vt z b))))
    {n : Nat} (hnN : n + 1 ≤ N) {pc : Nat} {ls : ml_T} {st : List mv_T} {σ : ms_T} {H : Heap} {locs : List Loc} {lsR : Array Slot} (hlew : gn σ ≤ gn τ ∧ gl σ ≤ gl τ) (hL : LR z b (mxl j) ls lsR) (hst : ∀ a ∈ st, inV a) (hH : HR z b L xs D dA σ H) (hSS : va_S (fun q => z ≤ q) s.heap H locs) (hg0 : g0 ≤ gn σ) (hl0 : l0 ≤ gl σ)
    (ih : ∀ (pc : Nat) (ls : ml_T) (st : List mv_T) (σ : ms_T) (H : Heap) (locs : List Loc) (lsR : Array Slot), Wm n j pc ls st σ (fun v' τ' => v' = v ∧ τ' = τ) → LR z b (mxl j) ls lsR → (∀ a ∈ st, inV a) → HR z b L xs D dA σ H → va_S (fun q => z ≤ q) s.heap H locs → g0 ≤ gn σ → l0 ≤ gl σ →
      W p l e R s m args below meth c H locs (gn σ - g0) (gl σ - l0) Z (F0 m pc lsR (st.map (vt z b))))
    (ck : ckE j pc (.ifnonnull a0, [t], vw) = true) (h : wpi pc (.ifnonnull a0, [t], vw) (mrt j) ls st σ (fun pc' ls' st' σ' => Wm n j pc' ls' st' σ' (fun v' τ' => v' = v ∧ τ' = τ)) (fun j' as σ' k => Wm n j' 0 (pad (mxl j') as) [] σ' k) (fun v' τ' => v' = v ∧ τ' = τ)) : W p l e R s m args below meth c H locs (gn σ - g0) (gl σ - l0) Z (F0 m pc lsR (st.map (vt z b))) := by
  obtain ⟨hx, hb, hml, hret, hlocks, hown, hts, hmn, hK, hnw, hAO, hRF, hRL, hX, hbz, hzs, hj, hL25⟩ := hC
  have hbs : b < s.heap.size := by omega
  have hbA : ¬ (fun q : Nat => z ≤ q) b := by show ¬ z ≤ b; omega
  unfold wpi at h
  dsimp only at h
  simp only [ckE, dq, dqa, Bool.and_eq_true, Bool.or_eq_true, decide_eq_true_eq, beq_iff_eq, Nat.blt_eq, Nat.ble_eq] at ck
  obtain ⟨x0, r0, e0, g0⟩ := pR_inv h
  clear h
  subst e0
  have h := g0
  clear g0
  cases x0 with
  | none =>
    refine lv_ifnonnullN hx hb ck.1 ?_
    exact ih _ _ _ _ _ _ _ (h.2 rfl) hL (okt hst) hH hSS hg0 hl0
  | some x0 =>
    refine lv_ifnonnull hx hb ck.1 ck.2 ?_
    exact ih _ _ _ _ _ _ _ (h.1 (fun q => by cases q)) hL (okt hst) hH hSS hg0 hl0
set_option maxHeartbeats 4000000 in
set_option maxRecDepth 100000 in
theorem bd_47 {dd : Int} {lo2 : Int} {hi : Int} {offs : Array Int} {d : Nat} {ts : List Nat} {lo : Int} (hC : Ctx p R s m args meth c z b L xs D dA j) {N : Nat} (hS : ∀ k, k < N → SimAt l z b L xs D dA k) {v : Option mv_T} {τ : ms_T} {g0 l0 : Nat} {Z : State → Prop} (hs0 : s.heap.size = z + g0) (hgR : gn τ - g0 ≤ R.cells ∧ gl τ - l0 ≤ R.slots)
    (hZ : ∀ (pc : Nat) (H : Heap) (locs : List Loc) (lsR : Array Slot), retOK j pc v → HR z b L xs D dA τ H → va_S (fun q => z ≤ q) s.heap H locs → W p l e R s m args below meth c H locs (gn τ - g0) (gl τ - l0) Z (F0 m pc lsR (v.toList.map (vt z b))))
    {n : Nat} (hnN : n + 1 ≤ N) {pc : Nat} {ls : ml_T} {st : List mv_T} {σ : ms_T} {H : Heap} {locs : List Loc} {lsR : Array Slot} (hlew : gn σ ≤ gn τ ∧ gl σ ≤ gl τ) (hL : LR z b (mxl j) ls lsR) (hst : ∀ a ∈ st, inV a) (hH : HR z b L xs D dA σ H) (hSS : va_S (fun q => z ≤ q) s.heap H locs) (hg0 : g0 ≤ gn σ) (hl0 : l0 ≤ gl σ)
    (ih : ∀ (pc : Nat) (ls : ml_T) (st : List mv_T) (σ : ms_T) (H : Heap) (locs : List Loc) (lsR : Array Slot), Wm n j pc ls st σ (fun v' τ' => v' = v ∧ τ' = τ) → LR z b (mxl j) ls lsR → (∀ a ∈ st, inV a) → HR z b L xs D dA σ H → va_S (fun q => z ≤ q) s.heap H locs → g0 ≤ gn σ → l0 ≤ gl σ →
      W p l e R s m args below meth c H locs (gn σ - g0) (gl σ - l0) Z (F0 m pc lsR (st.map (vt z b))))
    (ck : ckE j pc (.tableswitch dd lo2 hi offs, d :: ts, lo) = true) (h : wpi pc (.tableswitch dd lo2 hi offs, d :: ts, lo) (mrt j) ls st σ (fun pc' ls' st' σ' => Wm n j pc' ls' st' σ' (fun v' τ' => v' = v ∧ τ' = τ)) (fun j' as σ' k => Wm n j' 0 (pad (mxl j') as) [] σ' k) (fun v' τ' => v' = v ∧ τ' = τ)) : W p l e R s m args below meth c H locs (gn σ - g0) (gl σ - l0) Z (F0 m pc lsR (st.map (vt z b))) := by
  obtain ⟨hx, hb, hml, hret, hlocks, hown, hts, hmn, hK, hnw, hAO, hRF, hRL, hX, hbz, hzs, hj, hL25⟩ := hC
  have hbs : b < s.heap.size := by omega
  have hbA : ¬ (fun q : Nat => z ≤ q) b := by show ¬ z ≤ b; omega
  unfold wpi at h
  dsimp only at h
  obtain ⟨ck0, ck3⟩ := gd_and ck
  obtain ⟨ck1, ck2⟩ := gd_and ck3
  obtain ⟨hlo, hhi, hdd⟩ := of_decide_eq_true ck1
  obtain ⟨len, hd⟩ := dqa_of ck0
  obtain ⟨x0, r0, e0, g0⟩ := pI_inv h
  clear h
  subst e0
  have h := g0
  clear g0
  have h0 : rg x0 := okh hst
  by_cases q : x0 < lo ∨ lo + (ts.length : Int) ≤ x0
  · refine lv_tableOut hx hb hd (by rw [i32_in h0]; omega) hdd ?_
    exact ih _ _ _ _ _ _ _ (h.1 q) hL (okt hst) hH hSS hg0 hl0
  · obtain ⟨k, t, e1, e2, h3, -⟩ := swt_one (by omega) (by omega) h.2
    have hk : k < ts.length := (List.getElem?_eq_some_iff.mp e1).1
    have h5 := List.all_eq_true.mp ck2 k (List.mem_range.mpr hk)
    simp only [e1] at h5
    split at h5
    · next o t' e6 e7 =>
      cases e7
      refine lv_tableIn (off := o) hx hb hd (by rw [i32_in h0]; omega) (by rw [i32_in h0]; omega) (by rw [i32_in h0, e2, show (lo + (k : Int) - _).toNat = k by omega]; exact e6) (of_decide_eq_true h5) ?_
      exact ih _ _ _ _ _ _ _ h3 hL (okt hst) hH hSS hg0 hl0
    · cases h5
set_option maxHeartbeats 4000000 in
set_option maxRecDepth 100000 in
theorem bd_48 {a0 : Nat} {ci : Nat} {k : Nat} {fin : Nat} {vw : Int} (hC : Ctx p R s m args meth c z b L xs D dA j) {N : Nat} (hS : ∀ k, k < N → SimAt l z b L xs D dA k) {v : Option mv_T} {τ : ms_T} {g0 l0 : Nat} {Z : State → Prop} (hs0 : s.heap.size = z + g0) (hgR : gn τ - g0 ≤ R.cells ∧ gl τ - l0 ≤ R.slots)
    (hZ : ∀ (pc : Nat) (H : Heap) (locs : List Loc) (lsR : Array Slot), retOK j pc v → HR z b L xs D dA τ H → va_S (fun q => z ≤ q) s.heap H locs → W p l e R s m args below meth c H locs (gn τ - g0) (gl τ - l0) Z (F0 m pc lsR (v.toList.map (vt z b))))
    {n : Nat} (hnN : n + 1 ≤ N) {pc : Nat} {ls : ml_T} {st : List mv_T} {σ : ms_T} {H : Heap} {locs : List Loc} {lsR : Array Slot} (hlew : gn σ ≤ gn τ ∧ gl σ ≤ gl τ) (hL : LR z b (mxl j) ls lsR) (hst : ∀ a ∈ st, inV a) (hH : HR z b L xs D dA σ H) (hSS : va_S (fun q => z ≤ q) s.heap H locs) (hg0 : g0 ≤ gn σ) (hl0 : l0 ≤ gl σ)
    (ih : ∀ (pc : Nat) (ls : ml_T) (st : List mv_T) (σ : ms_T) (H : Heap) (locs : List Loc) (lsR : Array Slot), Wm n j pc ls st σ (fun v' τ' => v' = v ∧ τ' = τ) → LR z b (mxl j) ls lsR → (∀ a ∈ st, inV a) → HR z b L xs D dA σ H → va_S (fun q => z ≤ q) s.heap H locs → g0 ≤ gn σ → l0 ≤ gl σ →
      W p l e R s m args below meth c H locs (gn σ - g0) (gl σ - l0) Z (F0 m pc lsR (st.map (vt z b))))
    (ck : ckE j pc (.getfield a0, [ci, k, 2, fin], vw) = true) (h : wpi pc (.getfield a0, [ci, k, 2, fin], vw) (mrt j) ls st σ (fun pc' ls' st' σ' => Wm n j pc' ls' st' σ' (fun v' τ' => v' = v ∧ τ' = τ)) (fun j' as σ' k => Wm n j' 0 (pad (mxl j') as) [] σ' k) (fun v' τ' => v' = v ∧ τ' = τ)) : W p l e R s m args below meth c H locs (gn σ - g0) (gl σ - l0) Z (F0 m pc lsR (st.map (vt z b))) := by
  obtain ⟨hx, hb, hml, hret, hlocks, hown, hts, hmn, hK, hnw, hAO, hRF, hRL, hX, hbz, hzs, hj, hL25⟩ := hC
  have hbs : b < s.heap.size := by omega
  have hbA : ¬ (fun q : Nat => z ≤ q) b := by show ¬ z ≤ b; omega
  unfold wpi at h
  dsimp only at h
  simp only [ckE, dq, dqa, Bool.and_eq_true, Bool.or_eq_true, decide_eq_true_eq, beq_iff_eq, Nat.blt_eq, Nat.ble_eq] at ck
  obtain ⟨hd, hf, hci, hk, hty⟩ := ck
  obtain ⟨w, hw⟩ := hasF_of hf
  obtain ⟨x0, r0, e0, g0⟩ := pR_inv h
  clear h
  subst e0
  have h := g0
  clear g0
  obtain ⟨cc, e9, g9⟩ := isS_inv h
  clear h
  subst e9
  obtain ⟨hgs, h⟩ := g9
  obtain ⟨q, rfl, hq⟩ := gd_in hH.2.2 (c := cc) (by rw [hgs]; show _ ≠ _; omega) (by rw [hgs]; show _ ≠ _; omega)
  have hwe := wo_get (z := z) (b := b) (dA := dA) hq
  rw [wnt_obj hgs hci] at hwe
  refine va_get (D := D) (cl := clsL) hx hb hts (lay_ok _ hci) hown hK hH.2.1 q hwe (cls_ok _ hci) _ hk (hts _ (fldT_ok _ hw)) (fun y hy => by rw [fT_1 _ hci _ hk] at hy; exact hy) (v := vt z b (vR (gr σ (q + 1) _))) (by rw [List.getElem?_map, List.getElem?_range hk]; show some (fvl _ _ _ _ _ _) = _; congr 1; unfold fvl isrf; rw [hty]; rfl) hd ?_
  exact ih _ _ (vR (gr σ (q + 1) _) :: r0) _ _ _ _ h hL (okc trivial (okt hst)) hH hSS hg0 hl0
set_option maxHeartbeats 4000000 in
set_option maxRecDepth 100000 in
theorem bd_49 {a0 : Nat} {ci : Nat} {k : Nat} {fin : Nat} {vw : Int} (hC : Ctx p R s m args meth c z b L xs D dA j) {N : Nat} (hS : ∀ k, k < N → SimAt l z b L xs D dA k) {v : Option mv_T} {τ : ms_T} {g0 l0 : Nat} {Z : State → Prop} (hs0 : s.heap.size = z + g0) (hgR : gn τ - g0 ≤ R.cells ∧ gl τ - l0 ≤ R.slots)
    (hZ : ∀ (pc : Nat) (H : Heap) (locs : List Loc) (lsR : Array Slot), retOK j pc v → HR z b L xs D dA τ H → va_S (fun q => z ≤ q) s.heap H locs → W p l e R s m args below meth c H locs (gn τ - g0) (gl τ - l0) Z (F0 m pc lsR (v.toList.map (vt z b))))
    {n : Nat} (hnN : n + 1 ≤ N) {pc : Nat} {ls : ml_T} {st : List mv_T} {σ : ms_T} {H : Heap} {locs : List Loc} {lsR : Array Slot} (hlew : gn σ ≤ gn τ ∧ gl σ ≤ gl τ) (hL : LR z b (mxl j) ls lsR) (hst : ∀ a ∈ st, inV a) (hH : HR z b L xs D dA σ H) (hSS : va_S (fun q => z ≤ q) s.heap H locs) (hg0 : g0 ≤ gn σ) (hl0 : l0 ≤ gl σ)
    (ih : ∀ (pc : Nat) (ls : ml_T) (st : List mv_T) (σ : ms_T) (H : Heap) (locs : List Loc) (lsR : Array Slot), Wm n j pc ls st σ (fun v' τ' => v' = v ∧ τ' = τ) → LR z b (mxl j) ls lsR → (∀ a ∈ st, inV a) → HR z b L xs D dA σ H → va_S (fun q => z ≤ q) s.heap H locs → g0 ≤ gn σ → l0 ≤ gl σ →
      W p l e R s m args below meth c H locs (gn σ - g0) (gl σ - l0) Z (F0 m pc lsR (st.map (vt z b))))
    (ck : ckE j pc (.getfield a0, [ci, k, 1, fin], vw) = true) (h : wpi pc (.getfield a0, [ci, k, 1, fin], vw) (mrt j) ls st σ (fun pc' ls' st' σ' => Wm n j pc' ls' st' σ' (fun v' τ' => v' = v ∧ τ' = τ)) (fun j' as σ' k => Wm n j' 0 (pad (mxl j') as) [] σ' k) (fun v' τ' => v' = v ∧ τ' = τ)) : W p l e R s m args below meth c H locs (gn σ - g0) (gl σ - l0) Z (F0 m pc lsR (st.map (vt z b))) := by
  obtain ⟨hx, hb, hml, hret, hlocks, hown, hts, hmn, hK, hnw, hAO, hRF, hRL, hX, hbz, hzs, hj, hL25⟩ := hC
  have hbs : b < s.heap.size := by omega
  have hbA : ¬ (fun q : Nat => z ≤ q) b := by show ¬ z ≤ b; omega
  unfold wpi at h
  dsimp only at h
  simp only [ckE, dq, dqa, Bool.and_eq_true, Bool.or_eq_true, decide_eq_true_eq, beq_iff_eq, Nat.blt_eq, Nat.ble_eq] at ck
  obtain ⟨hd, hf, hci, hk, hty⟩ := ck
  obtain ⟨w, hw⟩ := hasF_of hf
  obtain ⟨x0, r0, e0, g0⟩ := pR_inv h
  clear h
  subst e0
  have h := g0
  clear g0
  obtain ⟨cc, e9, g9⟩ := isS_inv h
  clear h
  subst e9
  obtain ⟨hgs, h⟩ := g9
  obtain ⟨q, rfl, hq⟩ := gd_in hH.2.2 (c := cc) (by rw [hgs]; show _ ≠ _; omega) (by rw [hgs]; show _ ≠ _; omega)
  have hwe := wo_get (z := z) (b := b) (dA := dA) hq
  rw [wnt_obj hgs hci] at hwe
  refine va_get (D := D) (cl := clsL) hx hb hts (lay_ok _ hci) hown hK hH.2.1 q hwe (cls_ok _ hci) _ hk (hts _ (fldT_ok _ hw)) (fun y hy => by rw [fT_1 _ hci _ hk] at hy; exact hy) (v := vt z b (vI (gi σ (q + 1) _))) (by rw [List.getElem?_map, List.getElem?_range hk]; show some (fvl _ _ _ _ _ _) = _; congr 1; unfold fvl isrf; rw [hty]; rfl) hd ?_
  exact ih _ _ (vI (gi σ (q + 1) _) :: r0) _ _ _ _ h hL (okc (hH.2.2.1 _ _) (okt hst)) hH hSS hg0 hl0
end BODY
