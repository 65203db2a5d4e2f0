section BODY
variable {p : Program} {l : Launch} {e : Env} {R : Room} {s : State} {m : MethodId} {args : Array Value} {below : List Frame} {meth : Method} {c : Code} {z b L : Nat} {xs : Nat → Int32} {D : va_G} {dA : Nat → ClassId} {j : Nat}
set_option maxHeartbeats 4000000 in
set_option maxRecDepth 100000 in
theorem bd_0 {lw : List Nat} {vw : Int} (hC : Ctx p R s m args meth c z b L xs D dA j) {N : Nat} (hS : ∀ k, k < N → SimAt l z b L xs D dA k) {v : Option mv_T} {τ : ms_T} {g0 l0 : Nat} {Z : State → Prop} (hs0 : s.heap.size = z + g0) (hgR : gn τ - g0 ≤ R.cells ∧ gl τ - l0 ≤ R.slots)
    (hZ : ∀ (pc : Nat) (H : Heap) (locs : List Loc) (lsR : Array Slot), retOK j pc v → HR z b L xs D dA τ H → va_S (fun q => z ≤ q) s.heap H locs → W p l e R s m args below meth c H locs (gn τ - g0) (gl τ - l0) Z (F0 m pc lsR (v.toList.map (vt z b))))
    {n : Nat} (hnN : n + 1 ≤ N) {pc : Nat} {ls : ml_T} {st : List mv_T} {σ : ms_T} {H : Heap} {locs : List Loc} {lsR : Array Slot} (hlew : gn σ ≤ gn τ ∧ gl σ ≤ gl τ) (hL : LR z b (mxl j) ls lsR) (hst : ∀ a ∈ st, inV a) (hH : HR z b L xs D dA σ H) (hSS : va_S (fun q => z ≤ q) s.heap H locs) (hg0 : g0 ≤ gn σ) (hl0 : l0 ≤ gl σ)
    (ih : ∀ (pc : Nat) (ls : ml_T) (st : List mv_T) (σ : ms_T) (H : Heap) (locs : List Loc) (lsR : Array Slot), Wm n j pc ls st σ (fun v' τ' => v' = v ∧ τ' = τ) → LR z b (mxl j) ls lsR → (∀ a ∈ st, inV a) → HR z b L xs D dA σ H → va_S (fun q => z ≤ q) s.heap H locs → g0 ≤ gn σ → l0 ≤ gl σ →
      W p l e R s m args below meth c H locs (gn σ - g0) (gl σ - l0) Z (F0 m pc lsR (st.map (vt z b))))
    (ck : ckE j pc (.aconst_null, lw, vw) = true) (h : wpi pc (.aconst_null, lw, vw) (mrt j) ls st σ (fun pc' ls' st' σ' => Wm n j pc' ls' st' σ' (fun v' τ' => v' = v ∧ τ' = τ)) (fun j' as σ' k => Wm n j' 0 (pad (mxl j') as) [] σ' k) (fun v' τ' => v' = v ∧ τ' = τ)) : W p l e R s m args below meth c H locs (gn σ - g0) (gl σ - l0) Z (F0 m pc lsR (st.map (vt z b))) := by
  obtain ⟨hx, hb, hml, hret, hlocks, hown, hts, hmn, hK, hnw, hAO, hRF, hRL, hX, hbz, hzs, hj, hL25⟩ := hC
  have hbs : b < s.heap.size := by omega
  have hbA : ¬ (fun q : Nat => z ≤ q) b := by show ¬ z ≤ b; omega
  unfold wpi at h
  dsimp only at h
  simp only [ckE, dq, dqa, Bool.and_eq_true, Bool.or_eq_true, decide_eq_true_eq, beq_iff_eq, Nat.blt_eq, Nat.ble_eq] at ck
  refine lv_null hx hb ck ?_
  exact ih _ _ (vR none :: st) _ _ _ _ h hL (okc trivial hst) hH hSS hg0 hl0
set_option maxHeartbeats 4000000 in
set_option maxRecDepth 100000 in
theorem bd_1 {a0 : Int} {n0 : Nat} {vv : Int} (hC : Ctx p R s m args meth c z b L xs D dA j) {N : Nat} (hS : ∀ k, k < N → SimAt l z b L xs D dA k) {v : Option mv_T} {τ : ms_T} {g0 l0 : Nat} {Z : State → Prop} (hs0 : s.heap.size = z + g0) (hgR : gn τ - g0 ≤ R.cells ∧ gl τ - l0 ≤ R.slots)
    (hZ : ∀ (pc : Nat) (H : Heap) (locs : List Loc) (lsR : Array Slot), retOK j pc v → HR z b L xs D dA τ H → va_S (fun q => z ≤ q) s.heap H locs → W p l e R s m args below meth c H locs (gn τ - g0) (gl τ - l0) Z (F0 m pc lsR (v.toList.map (vt z b))))
    {n : Nat} (hnN : n + 1 ≤ N) {pc : Nat} {ls : ml_T} {st : List mv_T} {σ : ms_T} {H : Heap} {locs : List Loc} {lsR : Array Slot} (hlew : gn σ ≤ gn τ ∧ gl σ ≤ gl τ) (hL : LR z b (mxl j) ls lsR) (hst : ∀ a ∈ st, inV a) (hH : HR z b L xs D dA σ H) (hSS : va_S (fun q => z ≤ q) s.heap H locs) (hg0 : g0 ≤ gn σ) (hl0 : l0 ≤ gl σ)
    (ih : ∀ (pc : Nat) (ls : ml_T) (st : List mv_T) (σ : ms_T) (H : Heap) (locs : List Loc) (lsR : Array Slot), Wm n j pc ls st σ (fun v' τ' => v' = v ∧ τ' = τ) → LR z b (mxl j) ls lsR → (∀ a ∈ st, inV a) → HR z b L xs D dA σ H → va_S (fun q => z ≤ q) s.heap H locs → g0 ≤ gn σ → l0 ≤ gl σ →
      W p l e R s m args below meth c H locs (gn σ - g0) (gl σ - l0) Z (F0 m pc lsR (st.map (vt z b))))
    (ck : ckE j pc (.iconst a0, [n0], vv) = true) (h : wpi pc (.iconst a0, [n0], vv) (mrt j) ls st σ (fun pc' ls' st' σ' => Wm n j pc' ls' st' σ' (fun v' τ' => v' = v ∧ τ' = τ)) (fun j' as σ' k => Wm n j' 0 (pad (mxl j') as) [] σ' k) (fun v' τ' => v' = v ∧ τ' = τ)) : W p l e R s m args below meth c H locs (gn σ - g0) (gl σ - l0) Z (F0 m pc lsR (st.map (vt z b))) := by
  obtain ⟨hx, hb, hml, hret, hlocks, hown, hts, hmn, hK, hnw, hAO, hRF, hRL, hX, hbz, hzs, hj, hL25⟩ := hC
  have hbs : b < s.heap.size := by omega
  have hbA : ¬ (fun q : Nat => z ≤ q) b := by show ¬ z ≤ b; omega
  unfold wpi at h
  dsimp only at h
  simp only [ckE, dq, dqa, Bool.and_eq_true, Bool.or_eq_true, decide_eq_true_eq, beq_iff_eq, Nat.blt_eq, Nat.ble_eq] at ck
  obtain ⟨hd, hn, hv, hr⟩ := ck
  subst hn
  subst hv
  refine lv_iconst (v := Int32.ofInt _) hx hb hd rfl ?_
  exact ih _ _ (vI _ :: st) _ _ _ _ h hL (okc (ri_rg hr) hst) hH hSS hg0 hl0
set_option maxHeartbeats 4000000 in
set_option maxRecDepth 100000 in
theorem bd_2 {a0 : Int} {n0 : Nat} {vv : Int} (hC : Ctx p R s m args meth c z b L xs D dA j) {N : Nat} (hS : ∀ k, k < N → SimAt l z b L xs D dA k) {v : Option mv_T} {τ : ms_T} {g0 l0 : Nat} {Z : State → Prop} (hs0 : s.heap.size = z + g0) (hgR : gn τ - g0 ≤ R.cells ∧ gl τ - l0 ≤ R.slots)
    (hZ : ∀ (pc : Nat) (H : Heap) (locs : List Loc) (lsR : Array Slot), retOK j pc v → HR z b L xs D dA τ H → va_S (fun q => z ≤ q) s.heap H locs → W p l e R s m args below meth c H locs (gn τ - g0) (gl τ - l0) Z (F0 m pc lsR (v.toList.map (vt z b))))
    {n : Nat} (hnN : n + 1 ≤ N) {pc : Nat} {ls : ml_T} {st : List mv_T} {σ : ms_T} {H : Heap} {locs : List Loc} {lsR : Array Slot} (hlew : gn σ ≤ gn τ ∧ gl σ ≤ gl τ) (hL : LR z b (mxl j) ls lsR) (hst : ∀ a ∈ st, inV a) (hH : HR z b L xs D dA σ H) (hSS : va_S (fun q => z ≤ q) s.heap H locs) (hg0 : g0 ≤ gn σ) (hl0 : l0 ≤ gl σ)
    (ih : ∀ (pc : Nat) (ls : ml_T) (st : List mv_T) (σ : ms_T) (H : Heap) (locs : List Loc) (lsR : Array Slot), Wm n j pc ls st σ (fun v' τ' => v' = v ∧ τ' = τ) → LR z b (mxl j) ls lsR → (∀ a ∈ st, inV a) → HR z b L xs D dA σ H → va_S (fun q => z ≤ q) s.heap H locs → g0 ≤ gn σ → l0 ≤ gl σ →
      W p l e R s m args below meth c H locs (gn σ - g0) (gl σ - l0) Z (F0 m pc lsR (st.map (vt z b))))
    (ck : ckE j pc (.bipush a0, [n0], vv) = true) (h : wpi pc (.bipush a0, [n0], vv) (mrt j) ls st σ (fun pc' ls' st' σ' => Wm n j pc' ls' st' σ' (fun v' τ' => v' = v ∧ τ' = τ)) (fun j' as σ' k => Wm n j' 0 (pad (mxl j') as) [] σ' k) (fun v' τ' => v' = v ∧ τ' = τ)) : W p l e R s m args below meth c H locs (gn σ - g0) (gl σ - l0) Z (F0 m pc lsR (st.map (vt z b))) := by
  obtain ⟨hx, hb, hml, hret, hlocks, hown, hts, hmn, hK, hnw, hAO, hRF, hRL, hX, hbz, hzs, hj, hL25⟩ := hC
  have hbs : b < s.heap.size := by omega
  have hbA : ¬ (fun q : Nat => z ≤ q) b := by show ¬ z ≤ b; omega
  unfold wpi at h
  dsimp only at h
  simp only [ckE, dq, dqa, Bool.and_eq_true, Bool.or_eq_true, decide_eq_true_eq, beq_iff_eq, Nat.blt_eq, Nat.ble_eq] at ck
  obtain ⟨hd, hn, hv, hr⟩ := ck
  subst hn
  subst hv
  refine lv_bipush (v := Int32.ofInt _) hx hb hd (i8_32 hr) ?_
  exact ih _ _ (vI _ :: st) _ _ _ _ h hL (okc (by show rg _; unfold rg; omega) hst) hH hSS hg0 hl0
set_option maxHeartbeats 4000000 in
set_option maxRecDepth 100000 in
theorem bd_3 {a0 : Int} {n0 : Nat} {vv : Int} (hC : Ctx p R s m args meth c z b L xs D dA j) {N : Nat} (hS : ∀ k, k < N → SimAt l z b L xs D dA k) {v : Option mv_T} {τ : ms_T} {g0 l0 : Nat} {Z : State → Prop} (hs0 : s.heap.size = z + g0) (hgR : gn τ - g0 ≤ R.cells ∧ gl τ - l0 ≤ R.slots)
    (hZ : ∀ (pc : Nat) (H : Heap) (locs : List Loc) (lsR : Array Slot), retOK j pc v → HR z b L xs D dA τ H → va_S (fun q => z ≤ q) s.heap H locs → W p l e R s m args below meth c H locs (gn τ - g0) (gl τ - l0) Z (F0 m pc lsR (v.toList.map (vt z b))))
    {n : Nat} (hnN : n + 1 ≤ N) {pc : Nat} {ls : ml_T} {st : List mv_T} {σ : ms_T} {H : Heap} {locs : List Loc} {lsR : Array Slot} (hlew : gn σ ≤ gn τ ∧ gl σ ≤ gl τ) (hL : LR z b (mxl j) ls lsR) (hst : ∀ a ∈ st, inV a) (hH : HR z b L xs D dA σ H) (hSS : va_S (fun q => z ≤ q) s.heap H locs) (hg0 : g0 ≤ gn σ) (hl0 : l0 ≤ gl σ)
    (ih : ∀ (pc : Nat) (ls : ml_T) (st : List mv_T) (σ : ms_T) (H : Heap) (locs : List Loc) (lsR : Array Slot), Wm n j pc ls st σ (fun v' τ' => v' = v ∧ τ' = τ) → LR z b (mxl j) ls lsR → (∀ a ∈ st, inV a) → HR z b L xs D dA σ H → va_S (fun q => z ≤ q) s.heap H locs → g0 ≤ gn σ → l0 ≤ gl σ →
      W p l e R s m args below meth c H locs (gn σ - g0) (gl σ - l0) Z (F0 m pc lsR (st.map (vt z b))))
    (ck : ckE j pc (.sipush a0, [n0], vv) = true) (h : wpi pc (.sipush a0, [n0], vv) (mrt j) ls st σ (fun pc' ls' st' σ' => Wm n j pc' ls' st' σ' (fun v' τ' => v' = v ∧ τ' = τ)) (fun j' as σ' k => Wm n j' 0 (pad (mxl j') as) [] σ' k) (fun v' τ' => v' = v ∧ τ' = τ)) : W p l e R s m args below meth c H locs (gn σ - g0) (gl σ - l0) Z (F0 m pc lsR (st.map (vt z b))) := by
  obtain ⟨hx, hb, hml, hret, hlocks, hown, hts, hmn, hK, hnw, hAO, hRF, hRL, hX, hbz, hzs, hj, hL25⟩ := hC
  have hbs : b < s.heap.size := by omega
  have hbA : ¬ (fun q : Nat => z ≤ q) b := by show ¬ z ≤ b; omega
  unfold wpi at h
  dsimp only at h
  simp only [ckE, dq, dqa, Bool.and_eq_true, Bool.or_eq_true, decide_eq_true_eq, beq_iff_eq, Nat.blt_eq, Nat.ble_eq] at ck
  obtain ⟨hd, hn, hv, hr⟩ := ck
  subst hn
  subst hv
  refine lv_sipush (v := Int32.ofInt _) hx hb hd (i16_32 hr) ?_
  exact ih _ _ (vI _ :: st) _ _ _ _ h hL (okc (by show rg _; unfold rg; omega) hst) hH hSS hg0 hl0
set_option maxHeartbeats 4000000 in
set_option maxRecDepth 100000 in
theorem bd_4 {a0 : Fin 2} {lw : List Nat} {vv : Int} (hC : Ctx p R s m args meth c z b L xs D dA j) {N : Nat} (hS : ∀ k, k < N → SimAt l z b L xs D dA k) {v : Option mv_T} {τ : ms_T} {g0 l0 : Nat} {Z : State → Prop} (hs0 : s.heap.size = z + g0) (hgR : gn τ - g0 ≤ R.cells ∧ gl τ - l0 ≤ R.slots)
    (hZ : ∀ (pc : Nat) (H : Heap) (locs : List Loc) (lsR : Array Slot), retOK j pc v → HR z b L xs D dA τ H → va_S (fun q => z ≤ q) s.heap H locs → W p l e R s m args below meth c H locs (gn τ - g0) (gl τ - l0) Z (F0 m pc lsR (v.toList.map (vt z b))))
    {n : Nat} (hnN : n + 1 ≤ N) {pc : Nat} {ls : ml_T} {st : List mv_T} {σ : ms_T} {H : Heap} {locs : List Loc} {lsR : Array Slot} (hlew : gn σ ≤ gn τ ∧ gl σ ≤ gl τ) (hL : LR z b (mxl j) ls lsR) (hst : ∀ a ∈ st, inV a) (hH : HR z b L xs D dA σ H) (hSS : va_S (fun q => z ≤ q) s.heap H locs) (hg0 : g0 ≤ gn σ) (hl0 : l0 ≤ gl σ)
    (ih : ∀ (pc : Nat) (ls : ml_T) (st : List mv_T) (σ : ms_T) (H : Heap) (locs : List Loc) (lsR : Array Slot), Wm n j pc ls st σ (fun v' τ' => v' = v ∧ τ' = τ) → LR z b (mxl j) ls lsR → (∀ a ∈ st, inV a) → HR z b L xs D dA σ H → va_S (fun q => z ≤ q) s.heap H locs → g0 ≤ gn σ → l0 ≤ gl σ →
      W p l e R s m args below meth c H locs (gn σ - g0) (gl σ - l0) Z (F0 m pc lsR (st.map (vt z b))))
    (ck : ckE j pc (.lconst a0, lw, vv) = true) (h : wpi pc (.lconst a0, lw, vv) (mrt j) ls st σ (fun pc' ls' st' σ' => Wm n j pc' ls' st' σ' (fun v' τ' => v' = v ∧ τ' = τ)) (fun j' as σ' k => Wm n j' 0 (pad (mxl j') as) [] σ' k) (fun v' τ' => v' = v ∧ τ' = τ)) : W p l e R s m args below meth c H locs (gn σ - g0) (gl σ - l0) Z (F0 m pc lsR (st.map (vt z b))) := by
  obtain ⟨hx, hb, hml, hret, hlocks, hown, hts, hmn, hK, hnw, hAO, hRF, hRL, hX, hbz, hzs, hj, hL25⟩ := hC
  have hbs : b < s.heap.size := by omega
  have hbA : ¬ (fun q : Nat => z ≤ q) b := by show ¬ z ≤ b; omega
  unfold wpi at h
  dsimp only at h
  simp only [ckE, dq, dqa, Bool.and_eq_true, Bool.or_eq_true, decide_eq_true_eq, beq_iff_eq, Nat.blt_eq, Nat.ble_eq] at ck
  obtain ⟨hd, hv⟩ := ck
  subst hv
  refine lv_lconst (v := Int64.ofInt _) hx hb hd (i64_fin _) ?_
  exact ih _ _ (vL _ :: st) _ _ _ _ h hL (okc (by show rgl _; unfold rgl; omega) hst) hH hSS hg0 hl0
set_option maxHeartbeats 4000000 in
set_option maxRecDepth 100000 in
theorem bd_5 {a0 : Nat} {lw : List Nat} {vv : Int} (hC : Ctx p R s m args meth c z b L xs D dA j) {N : Nat} (hS : ∀ k, k < N → SimAt l z b L xs D dA k) {v : Option mv_T} {τ : ms_T} {g0 l0 : Nat} {Z : State → Prop} (hs0 : s.heap.size = z + g0) (hgR : gn τ - g0 ≤ R.cells ∧ gl τ - l0 ≤ R.slots)
    (hZ : ∀ (pc : Nat) (H : Heap) (locs : List Loc) (lsR : Array Slot), retOK j pc v → HR z b L xs D dA τ H → va_S (fun q => z ≤ q) s.heap H locs → W p l e R s m args below meth c H locs (gn τ - g0) (gl τ - l0) Z (F0 m pc lsR (v.toList.map (vt z b))))
    {n : Nat} (hnN : n + 1 ≤ N) {pc : Nat} {ls : ml_T} {st : List mv_T} {σ : ms_T} {H : Heap} {locs : List Loc} {lsR : Array Slot} (hlew : gn σ ≤ gn τ ∧ gl σ ≤ gl τ) (hL : LR z b (mxl j) ls lsR) (hst : ∀ a ∈ st, inV a) (hH : HR z b L xs D dA σ H) (hSS : va_S (fun q => z ≤ q) s.heap H locs) (hg0 : g0 ≤ gn σ) (hl0 : l0 ≤ gl σ)
    (ih : ∀ (pc : Nat) (ls : ml_T) (st : List mv_T) (σ : ms_T) (H : Heap) (locs : List Loc) (lsR : Array Slot), Wm n j pc ls st σ (fun v' τ' => v' = v ∧ τ' = τ) → LR z b (mxl j) ls lsR → (∀ a ∈ st, inV a) → HR z b L xs D dA σ H → va_S (fun q => z ≤ q) s.heap H locs → g0 ≤ gn σ → l0 ≤ gl σ →
      W p l e R s m args below meth c H locs (gn σ - g0) (gl σ - l0) Z (F0 m pc lsR (st.map (vt z b))))
    (ck : ckE j pc (.ldc a0, lw, vv) = true) (h : wpi pc (.ldc a0, lw, vv) (mrt j) ls st σ (fun pc' ls' st' σ' => Wm n j pc' ls' st' σ' (fun v' τ' => v' = v ∧ τ' = τ)) (fun j' as σ' k => Wm n j' 0 (pad (mxl j') as) [] σ' k) (fun v' τ' => v' = v ∧ τ' = τ)) : W p l e R s m args below meth c H locs (gn σ - g0) (gl σ - l0) Z (F0 m pc lsR (st.map (vt z b))) := by
  obtain ⟨hx, hb, hml, hret, hlocks, hown, hts, hmn, hK, hnw, hAO, hRF, hRL, hX, hbz, hzs, hj, hL25⟩ := hC
  have hbs : b < s.heap.size := by omega
  have hbA : ¬ (fun q : Nat => z ≤ q) b := by show ¬ z ≤ b; omega
  unfold wpi at h
  dsimp only at h
  simp only [ckE, dq, dqa, Bool.and_eq_true, Bool.or_eq_true, decide_eq_true_eq, beq_iff_eq, Nat.blt_eq, Nat.ble_eq] at ck
  obtain ⟨hd, hw, hr⟩ := ck
  obtain ⟨q, hq⟩ := hasI_of hw
  refine lv_ldc (v := Int32.ofInt _) hx hb hown (hts _ (conT_ok _ hq)) hd ?_
  exact ih _ _ (vI _ :: st) _ _ _ _ h hL (okc (ri_rg hr) hst) hH hSS hg0 hl0
set_option maxHeartbeats 4000000 in
set_option maxRecDepth 100000 in
theorem bd_6 {a0 : Nat} {lw : List Nat} {vv : Int} (hC : Ctx p R s m args meth c z b L xs D dA j) {N : Nat} (hS : ∀ k, k < N → SimAt l z b L xs D dA k) {v : Option mv_T} {τ : ms_T} {g0 l0 : Nat} {Z : State → Prop} (hs0 : s.heap.size = z + g0) (hgR : gn τ - g0 ≤ R.cells ∧ gl τ - l0 ≤ R.slots)
    (hZ : ∀ (pc : Nat) (H : Heap) (locs : List Loc) (lsR : Array Slot), retOK j pc v → HR z b L xs D dA τ H → va_S (fun q => z ≤ q) s.heap H locs → W p l e R s m args below meth c H locs (gn τ - g0) (gl τ - l0) Z (F0 m pc lsR (v.toList.map (vt z b))))
    {n : Nat} (hnN : n + 1 ≤ N) {pc : Nat} {ls : ml_T} {st : List mv_T} {σ : ms_T} {H : Heap} {locs : List Loc} {lsR : Array Slot} (hlew : gn σ ≤ gn τ ∧ gl σ ≤ gl τ) (hL : LR z b (mxl j) ls lsR) (hst : ∀ a ∈ st, inV a) (hH : HR z b L xs D dA σ H) (hSS : va_S (fun q => z ≤ q) s.heap H locs) (hg0 : g0 ≤ gn σ) (hl0 : l0 ≤ gl σ)
    (ih : ∀ (pc : Nat) (ls : ml_T) (st : List mv_T) (σ : ms_T) (H : Heap) (locs : List Loc) (lsR : Array Slot), Wm n j pc ls st σ (fun v' τ' => v' = v ∧ τ' = τ) → LR z b (mxl j) ls lsR → (∀ a ∈ st, inV a) → HR z b L xs D dA σ H → va_S (fun q => z ≤ q) s.heap H locs → g0 ≤ gn σ → l0 ≤ gl σ →
      W p l e R s m args below meth c H locs (gn σ - g0) (gl σ - l0) Z (F0 m pc lsR (st.map (vt z b))))
    (ck : ckE j pc (.ldc2_w a0, lw, vv) = true) (h : wpi pc (.ldc2_w a0, lw, vv) (mrt j) ls st σ (fun pc' ls' st' σ' => Wm n j pc' ls' st' σ' (fun v' τ' => v' = v ∧ τ' = τ)) (fun j' as σ' k => Wm n j' 0 (pad (mxl j') as) [] σ' k) (fun v' τ' => v' = v ∧ τ' = τ)) : W p l e R s m args below meth c H locs (gn σ - g0) (gl σ - l0) Z (F0 m pc lsR (st.map (vt z b))) := by
  obtain ⟨hx, hb, hml, hret, hlocks, hown, hts, hmn, hK, hnw, hAO, hRF, hRL, hX, hbz, hzs, hj, hL25⟩ := hC
  have hbs : b < s.heap.size := by omega
  have hbA : ¬ (fun q : Nat => z ≤ q) b := by show ¬ z ≤ b; omega
  unfold wpi at h
  dsimp only at h
  simp only [ckE, dq, dqa, Bool.and_eq_true, Bool.or_eq_true, decide_eq_true_eq, beq_iff_eq, Nat.blt_eq, Nat.ble_eq] at ck
  obtain ⟨hd, hw, hr⟩ := ck
  obtain ⟨q, hq⟩ := hasI_of hw
  refine lv_ldc2 (v := Int64.ofInt _) hx hb hown (hts _ (conL_ok _ hq)) hd ?_
  exact ih _ _ (vL _ :: st) _ _ _ _ h hL (okc (rl_rg hr) hst) hH hSS hg0 hl0
set_option maxHeartbeats 4000000 in
set_option maxRecDepth 100000 in
theorem bd_7 {a0 : Fin 4} {k : Nat} {n0 : Nat} {vw : Int} (hC : Ctx p R s m args meth c z b L xs D dA j) {N : Nat} (hS : ∀ k, k < N → SimAt l z b L xs D dA k) {v : Option mv_T} {τ : ms_T} {g0 l0 : Nat} {Z : State → Prop} (hs0 : s.heap.size = z + g0) (hgR : gn τ - g0 ≤ R.cells ∧ gl τ - l0 ≤ R.slots)
    (hZ : ∀ (pc : Nat) (H : Heap) (locs : List Loc) (lsR : Array Slot), retOK j pc v → HR z b L xs D dA τ H → va_S (fun q => z ≤ q) s.heap H locs → W p l e R s m args below meth c H locs (gn τ - g0) (gl τ - l0) Z (F0 m pc lsR (v.toList.map (vt z b))))
    {n : Nat} (hnN : n + 1 ≤ N) {pc : Nat} {ls : ml_T} {st : List mv_T} {σ : ms_T} {H : Heap} {locs : List Loc} {lsR : Array Slot} (hlew : gn σ ≤ gn τ ∧ gl σ ≤ gl τ) (hL : LR z b (mxl j) ls lsR) (hst : ∀ a ∈ st, inV a) (hH : HR z b L xs D dA σ H) (hSS : va_S (fun q => z ≤ q) s.heap H locs) (hg0 : g0 ≤ gn σ) (hl0 : l0 ≤ gl σ)
    (ih : ∀ (pc : Nat) (ls : ml_T) (st : List mv_T) (σ : ms_T) (H : Heap) (locs : List Loc) (lsR : Array Slot), Wm n j pc ls st σ (fun v' τ' => v' = v ∧ τ' = τ) → LR z b (mxl j) ls lsR → (∀ a ∈ st, inV a) → HR z b L xs D dA σ H → va_S (fun q => z ≤ q) s.heap H locs → g0 ≤ gn σ → l0 ≤ gl σ →
      W p l e R s m args below meth c H locs (gn σ - g0) (gl σ - l0) Z (F0 m pc lsR (st.map (vt z b))))
    (ck : ckE j pc (.iload_n a0, [k, n0], vw) = true) (h : wpi pc (.iload_n a0, [k, n0], vw) (mrt j) ls st σ (fun pc' ls' st' σ' => Wm n j pc' ls' st' σ' (fun v' τ' => v' = v ∧ τ' = τ)) (fun j' as σ' k => Wm n j' 0 (pad (mxl j') as) [] σ' k) (fun v' τ' => v' = v ∧ τ' = τ)) : W p l e R s m args below meth c H locs (gn σ - g0) (gl σ - l0) Z (F0 m pc lsR (st.map (vt z b))) := by
  obtain ⟨hx, hb, hml, hret, hlocks, hown, hts, hmn, hK, hnw, hAO, hRF, hRL, hX, hbz, hzs, hj, hL25⟩ := hC
  have hbs : b < s.heap.size := by omega
  have hbA : ¬ (fun q : Nat => z ≤ q) b := by show ¬ z ≤ b; omega
  unfold wpi at h
  dsimp only at h
  simp only [ckE, dq, dqa, Bool.and_eq_true, Bool.or_eq_true, decide_eq_true_eq, beq_iff_eq, Nat.blt_eq, Nat.ble_eq] at ck
  obtain ⟨hd, hn, hk⟩ := ck
  subst hn
  obtain ⟨a, ha, g⟩ := ldI_inv h
  refine lv_iload_n hx hb hd hk (hL.at ha).1 ?_
  exact ih _ _ (vI a :: st) _ _ _ _ g hL (okc (hL.at ha).2 hst) hH hSS hg0 hl0
set_option maxHeartbeats 4000000 in
set_option maxRecDepth 100000 in
theorem bd_8 {a0 : Nat} {k : Nat} {n0 : Nat} {vw : Int} (hC : Ctx p R s m args meth c z b L xs D dA j) {N : Nat} (hS : ∀ k, k < N → SimAt l z b L xs D dA k) {v : Option mv_T} {τ : ms_T} {g0 l0 : Nat} {Z : State → Prop} (hs0 : s.heap.size = z + g0) (hgR : gn τ - g0 ≤ R.cells ∧ gl τ - l0 ≤ R.slots)
    (hZ : ∀ (pc : Nat) (H : Heap) (locs : List Loc) (lsR : Array Slot), retOK j pc v → HR z b L xs D dA τ H → va_S (fun q => z ≤ q) s.heap H locs → W p l e R s m args below meth c H locs (gn τ - g0) (gl τ - l0) Z (F0 m pc lsR (v.toList.map (vt z b))))
    {n : Nat} (hnN : n + 1 ≤ N) {pc : Nat} {ls : ml_T} {st : List mv_T} {σ : ms_T} {H : Heap} {locs : List Loc} {lsR : Array Slot} (hlew : gn σ ≤ gn τ ∧ gl σ ≤ gl τ) (hL : LR z b (mxl j) ls lsR) (hst : ∀ a ∈ st, inV a) (hH : HR z b L xs D dA σ H) (hSS : va_S (fun q => z ≤ q) s.heap H locs) (hg0 : g0 ≤ gn σ) (hl0 : l0 ≤ gl σ)
    (ih : ∀ (pc : Nat) (ls : ml_T) (st : List mv_T) (σ : ms_T) (H : Heap) (locs : List Loc) (lsR : Array Slot), Wm n j pc ls st σ (fun v' τ' => v' = v ∧ τ' = τ) → LR z b (mxl j) ls lsR → (∀ a ∈ st, inV a) → HR z b L xs D dA σ H → va_S (fun q => z ≤ q) s.heap H locs → g0 ≤ gn σ → l0 ≤ gl σ →
      W p l e R s m args below meth c H locs (gn σ - g0) (gl σ - l0) Z (F0 m pc lsR (st.map (vt z b))))
    (ck : ckE j pc (.iload a0, [k, n0], vw) = true) (h : wpi pc (.iload a0, [k, n0], vw) (mrt j) ls st σ (fun pc' ls' st' σ' => Wm n j pc' ls' st' σ' (fun v' τ' => v' = v ∧ τ' = τ)) (fun j' as σ' k => Wm n j' 0 (pad (mxl j') as) [] σ' k) (fun v' τ' => v' = v ∧ τ' = τ)) : W p l e R s m args below meth c H locs (gn σ - g0) (gl σ - l0) Z (F0 m pc lsR (st.map (vt z b))) := by
  obtain ⟨hx, hb, hml, hret, hlocks, hown, hts, hmn, hK, hnw, hAO, hRF, hRL, hX, hbz, hzs, hj, hL25⟩ := hC
  have hbs : b < s.heap.size := by omega
  have hbA : ¬ (fun q : Nat => z ≤ q) b := by show ¬ z ≤ b; omega
  unfold wpi at h
  dsimp only at h
  simp only [ckE, dq, dqa, Bool.and_eq_true, Bool.or_eq_true, decide_eq_true_eq, beq_iff_eq, Nat.blt_eq, Nat.ble_eq] at ck
  obtain ⟨hd, hn, hk⟩ := ck
  subst hn
  obtain ⟨a, ha, g⟩ := ldI_inv h
  subst hk
  refine lv_iload hx hb hd (hL.at ha).1 ?_
  exact ih _ _ (vI a :: st) _ _ _ _ g hL (okc (hL.at ha).2 hst) hH hSS hg0 hl0
set_option maxHeartbeats 4000000 in
set_option maxRecDepth 100000 in
theorem bd_9 {a0 : Fin 4} {k : Nat} {n0 : Nat} {vw : Int} (hC : Ctx p R s m args meth c z b L xs D dA j) {N : Nat} (hS : ∀ k, k < N → SimAt l z b L xs D dA k) {v : Option mv_T} {τ : ms_T} {g0 l0 : Nat} {Z : State → Prop} (hs0 : s.heap.size = z + g0) (hgR : gn τ - g0 ≤ R.cells ∧ gl τ - l0 ≤ R.slots)
    (hZ : ∀ (pc : Nat) (H : Heap) (locs : List Loc) (lsR : Array Slot), retOK j pc v → HR z b L xs D dA τ H → va_S (fun q => z ≤ q) s.heap H locs → W p l e R s m args below meth c H locs (gn τ - g0) (gl τ - l0) Z (F0 m pc lsR (v.toList.map (vt z b))))
    {n : Nat} (hnN : n + 1 ≤ N) {pc : Nat} {ls : ml_T} {st : List mv_T} {σ : ms_T} {H : Heap} {locs : List Loc} {lsR : Array Slot} (hlew : gn σ ≤ gn τ ∧ gl σ ≤ gl τ) (hL : LR z b (mxl j) ls lsR) (hst : ∀ a ∈ st, inV a) (hH : HR z b L xs D dA σ H) (hSS : va_S (fun q => z ≤ q) s.heap H locs) (hg0 : g0 ≤ gn σ) (hl0 : l0 ≤ gl σ)
    (ih : ∀ (pc : Nat) (ls : ml_T) (st : List mv_T) (σ : ms_T) (H : Heap) (locs : List Loc) (lsR : Array Slot), Wm n j pc ls st σ (fun v' τ' => v' = v ∧ τ' = τ) → LR z b (mxl j) ls lsR → (∀ a ∈ st, inV a) → HR z b L xs D dA σ H → va_S (fun q => z ≤ q) s.heap H locs → g0 ≤ gn σ → l0 ≤ gl σ →
      W p l e R s m args below meth c H locs (gn σ - g0) (gl σ - l0) Z (F0 m pc lsR (st.map (vt z b))))
    (ck : ckE j pc (.lload_n a0, [k, n0], vw) = true) (h : wpi pc (.lload_n a0, [k, n0], vw) (mrt j) ls st σ (fun pc' ls' st' σ' => Wm n j pc' ls' st' σ' (fun v' τ' => v' = v ∧ τ' = τ)) (fun j' as σ' k => Wm n j' 0 (pad (mxl j') as) [] σ' k) (fun v' τ' => v' = v ∧ τ' = τ)) : W p l e R s m args below meth c H locs (gn σ - g0) (gl σ - l0) Z (F0 m pc lsR (st.map (vt z b))) := by
  obtain ⟨hx, hb, hml, hret, hlocks, hown, hts, hmn, hK, hnw, hAO, hRF, hRL, hX, hbz, hzs, hj, hL25⟩ := hC
  have hbs : b < s.heap.size := by omega
  have hbA : ¬ (fun q : Nat => z ≤ q) b := by show ¬ z ≤ b; omega
  unfold wpi at h
  dsimp only at h
  simp only [ckE, dq, dqa, Bool.and_eq_true, Bool.or_eq_true, decide_eq_true_eq, beq_iff_eq, Nat.blt_eq, Nat.ble_eq] at ck
  obtain ⟨hd, hn, hk⟩ := ck
  subst hn
  obtain ⟨a, ha, g⟩ := ldL_inv h
  refine lv_lload_n hx hb hd hk (hL.at ha).1 ?_
  exact ih _ _ (vL a :: st) _ _ _ _ g hL (okc (hL.at ha).2 hst) hH hSS hg0 hl0
set_option maxHeartbeats 4000000 in
set_option maxRecDepth 100000 in
theorem bd_10 {a0 : Nat} {k : Nat} {n0 : Nat} {vw : Int} (hC : Ctx p R s m args meth c z b L xs D dA j) {N : Nat} (hS : ∀ k, k < N → SimAt l z b L xs D dA k) {v : Option mv_T} {τ : ms_T} {g0 l0 : Nat} {Z : State → Prop} (hs0 : s.heap.size = z + g0) (hgR : gn τ - g0 ≤ R.cells ∧ gl τ - l0 ≤ R.slots)
    (hZ : ∀ (pc : Nat) (H : Heap) (locs : List Loc) (lsR : Array Slot), retOK j pc v → HR z b L xs D dA τ H → va_S (fun q => z ≤ q) s.heap H locs → W p l e R s m args below meth c H locs (gn τ - g0) (gl τ - l0) Z (F0 m pc lsR (v.toList.map (vt z b))))
    {n : Nat} (hnN : n + 1 ≤ N) {pc : Nat} {ls : ml_T} {st : List mv_T} {σ : ms_T} {H : Heap} {locs : List Loc} {lsR : Array Slot} (hlew : gn σ ≤ gn τ ∧ gl σ ≤ gl τ) (hL : LR z b (mxl j) ls lsR) (hst : ∀ a ∈ st, inV a) (hH : HR z b L xs D dA σ H) (hSS : va_S (fun q => z ≤ q) s.heap H locs) (hg0 : g0 ≤ gn σ) (hl0 : l0 ≤ gl σ)
    (ih : ∀ (pc : Nat) (ls : ml_T) (st : List mv_T) (σ : ms_T) (H : Heap) (locs : List Loc) (lsR : Array Slot), Wm n j pc ls st σ (fun v' τ' => v' = v ∧ τ' = τ) → LR z b (mxl j) ls lsR → (∀ a ∈ st, inV a) → HR z b L xs D dA σ H → va_S (fun q => z ≤ q) s.heap H locs → g0 ≤ gn σ → l0 ≤ gl σ →
      W p l e R s m args below meth c H locs (gn σ - g0) (gl σ - l0) Z (F0 m pc lsR (st.map (vt z b))))
    (ck : ckE j pc (.lload a0, [k, n0], vw) = true) (h : wpi pc (.lload a0, [k, n0], vw) (mrt j) ls st σ (fun pc' ls' st' σ' => Wm n j pc' ls' st' σ' (fun v' τ' => v' = v ∧ τ' = τ)) (fun j' as σ' k => Wm n j' 0 (pad (mxl j') as) [] σ' k) (fun v' τ' => v' = v ∧ τ' = τ)) : W p l e R s m args below meth c H locs (gn σ - g0) (gl σ - l0) Z (F0 m pc lsR (st.map (vt z b))) := by
  obtain ⟨hx, hb, hml, hret, hlocks, hown, hts, hmn, hK, hnw, hAO, hRF, hRL, hX, hbz, hzs, hj, hL25⟩ := hC
  have hbs : b < s.heap.size := by omega
  have hbA : ¬ (fun q : Nat => z ≤ q) b := by show ¬ z ≤ b; omega
  unfold wpi at h
  dsimp only at h
  simp only [ckE, dq, dqa, Bool.and_eq_true, Bool.or_eq_true, decide_eq_true_eq, beq_iff_eq, Nat.blt_eq, Nat.ble_eq] at ck
  obtain ⟨hd, hn, hk⟩ := ck
  subst hn
  obtain ⟨a, ha, g⟩ := ldL_inv h
  subst hk
  refine lv_lload hx hb hd (hL.at ha).1 ?_
  exact ih _ _ (vL a :: st) _ _ _ _ g hL (okc (hL.at ha).2 hst) hH hSS hg0 hl0
set_option maxHeartbeats 4000000 in
set_option maxRecDepth 100000 in
theorem bd_11 {a0 : Fin 4} {k : Nat} {n0 : Nat} {vw : Int} (hC : Ctx p R s m args meth c z b L xs D dA j) {N : Nat} (hS : ∀ k, k < N → SimAt l z b L xs D dA k) {v : Option mv_T} {τ : ms_T} {g0 l0 : Nat} {Z : State → Prop} (hs0 : s.heap.size = z + g0) (hgR : gn τ - g0 ≤ R.cells ∧ gl τ - l0 ≤ R.slots)
    (hZ : ∀ (pc : Nat) (H : Heap) (locs : List Loc) (lsR : Array Slot), retOK j pc v → HR z b L xs D dA τ H → va_S (fun q => z ≤ q) s.heap H locs → W p l e R s m args below meth c H locs (gn τ - g0) (gl τ - l0) Z (F0 m pc lsR (v.toList.map (vt z b))))
    {n : Nat} (hnN : n + 1 ≤ N) {pc : Nat} {ls : ml_T} {st : List mv_T} {σ : ms_T} {H : Heap} {locs : List Loc} {lsR : Array Slot} (hlew : gn σ ≤ gn τ ∧ gl σ ≤ gl τ) (hL : LR z b (mxl j) ls lsR) (hst : ∀ a ∈ st, inV a) (hH : HR z b L xs D dA σ H) (hSS : va_S (fun q => z ≤ q) s.heap H locs) (hg0 : g0 ≤ gn σ) (hl0 : l0 ≤ gl σ)
    (ih : ∀ (pc : Nat) (ls : ml_T) (st : List mv_T) (σ : ms_T) (H : Heap) (locs : List Loc) (lsR : Array Slot), Wm n j pc ls st σ (fun v' τ' => v' = v ∧ τ' = τ) → LR z b (mxl j) ls lsR → (∀ a ∈ st, inV a) → HR z b L xs D dA σ H → va_S (fun q => z ≤ q) s.heap H locs → g0 ≤ gn σ → l0 ≤ gl σ →
      W p l e R s m args below meth c H locs (gn σ - g0) (gl σ - l0) Z (F0 m pc lsR (st.map (vt z b))))
    (ck : ckE j pc (.aload_n a0, [k, n0], vw) = true) (h : wpi pc (.aload_n a0, [k, n0], vw) (mrt j) ls st σ (fun pc' ls' st' σ' => Wm n j pc' ls' st' σ' (fun v' τ' => v' = v ∧ τ' = τ)) (fun j' as σ' k => Wm n j' 0 (pad (mxl j') as) [] σ' k) (fun v' τ' => v' = v ∧ τ' = τ)) : W p l e R s m args below meth c H locs (gn σ - g0) (gl σ - l0) Z (F0 m pc lsR (st.map (vt z b))) := by
  obtain ⟨hx, hb, hml, hret, hlocks, hown, hts, hmn, hK, hnw, hAO, hRF, hRL, hX, hbz, hzs, hj, hL25⟩ := hC
  have hbs : b < s.heap.size := by omega
  have hbA : ¬ (fun q : Nat => z ≤ q) b := by show ¬ z ≤ b; omega
  unfold wpi at h
  dsimp only at h
  simp only [ckE, dq, dqa, Bool.and_eq_true, Bool.or_eq_true, decide_eq_true_eq, beq_iff_eq, Nat.blt_eq, Nat.ble_eq] at ck
  obtain ⟨hd, hn, hk⟩ := ck
  subst hn
  obtain ⟨a, ha, g⟩ := ldR_inv h
  cases a with
  | none =>
    refine lv_aload_nN hx hb hd hk (hL.at ha).1 ?_
    exact ih _ _ (vR none :: st) _ _ _ _ g hL (okc trivial hst) hH hSS hg0 hl0
  | some a =>
    refine lv_aload_n hx hb hd hk (hL.at ha).1 ?_
    exact ih _ _ (vR (some a) :: st) _ _ _ _ g hL (okc trivial hst) hH hSS hg0 hl0
set_option maxHeartbeats 4000000 in
set_option maxRecDepth 100000 in
theorem bd_12 {a0 : Nat} {k : Nat} {n0 : Nat} {vw : Int} (hC : Ctx p R s m args meth c z b L xs D dA j) {N : Nat} (hS : ∀ k, k < N → SimAt l z b L xs D dA k) {v : Option mv_T} {τ : ms_T} {g0 l0 : Nat} {Z : State → Prop} (hs0 : s.heap.size = z + g0) (hgR : gn τ - g0 ≤ R.cells ∧ gl τ - l0 ≤ R.slots)
    (hZ : ∀ (pc : Nat) (H : Heap) (locs : List Loc) (lsR : Array Slot), retOK j pc v → HR z b L xs D dA τ H → va_S (fun q => z ≤ q) s.heap H locs → W p l e R s m args below meth c H locs (gn τ - g0) (gl τ - l0) Z (F0 m pc lsR (v.toList.map (vt z b))))
    {n : Nat} (hnN : n + 1 ≤ N) {pc : Nat} {ls : ml_T} {st : List mv_T} {σ : ms_T} {H : Heap} {locs : List Loc} {lsR : Array Slot} (hlew : gn σ ≤ gn τ ∧ gl σ ≤ gl τ) (hL : LR z b (mxl j) ls lsR) (hst : ∀ a ∈ st, inV a) (hH : HR z b L xs D dA σ H) (hSS : va_S (fun q => z ≤ q) s.heap H locs) (hg0 : g0 ≤ gn σ) (hl0 : l0 ≤ gl σ)
    (ih : ∀ (pc : Nat) (ls : ml_T) (st : List mv_T) (σ : ms_T) (H : Heap) (locs : List Loc) (lsR : Array Slot), Wm n j pc ls st σ (fun v' τ' => v' = v ∧ τ' = τ) → LR z b (mxl j) ls lsR → (∀ a ∈ st, inV a) → HR z b L xs D dA σ H → va_S (fun q => z ≤ q) s.heap H locs → g0 ≤ gn σ → l0 ≤ gl σ →
      W p l e R s m args below meth c H locs (gn σ - g0) (gl σ - l0) Z (F0 m pc lsR (st.map (vt z b))))
    (ck : ckE j pc (.aload a0, [k, n0], vw) = true) (h : wpi pc (.aload a0, [k, n0], vw) (mrt j) ls st σ (fun pc' ls' st' σ' => Wm n j pc' ls' st' σ' (fun v' τ' => v' = v ∧ τ' = τ)) (fun j' as σ' k => Wm n j' 0 (pad (mxl j') as) [] σ' k) (fun v' τ' => v' = v ∧ τ' = τ)) : W p l e R s m args below meth c H locs (gn σ - g0) (gl σ - l0) Z (F0 m pc lsR (st.map (vt z b))) := by
  obtain ⟨hx, hb, hml, hret, hlocks, hown, hts, hmn, hK, hnw, hAO, hRF, hRL, hX, hbz, hzs, hj, hL25⟩ := hC
  have hbs : b < s.heap.size := by omega
  have hbA : ¬ (fun q : Nat => z ≤ q) b := by show ¬ z ≤ b; omega
  unfold wpi at h
  dsimp only at h
  simp only [ckE, dq, dqa, Bool.and_eq_true, Bool.or_eq_true, decide_eq_true_eq, beq_iff_eq, Nat.blt_eq, Nat.ble_eq] at ck
  obtain ⟨hd, hn, hk⟩ := ck
  subst hn
  obtain ⟨a, ha, g⟩ := ldR_inv h
  subst hk
  cases a with
  | none =>
    refine lv_aloadN hx hb hd (hL.at ha).1 ?_
    exact ih _ _ (vR none :: st) _ _ _ _ g hL (okc trivial hst) hH hSS hg0 hl0
  | some a =>
    refine lv_aload hx hb hd (hL.at ha).1 ?_
    exact ih _ _ (vR (some a) :: st) _ _ _ _ g hL (okc trivial hst) hH hSS hg0 hl0
set_option maxHeartbeats 4000000 in
set_option maxRecDepth 100000 in
theorem bd_13 {a0 : Fin 4} {k : Nat} {n0 : Nat} {vw : Int} (hC : Ctx p R s m args meth c z b L xs D dA j) {N : Nat} (hS : ∀ k, k < N → SimAt l z b L xs D dA k) {v : Option mv_T} {τ : ms_T} {g0 l0 : Nat} {Z : State → Prop} (hs0 : s.heap.size = z + g0) (hgR : gn τ - g0 ≤ R.cells ∧ gl τ - l0 ≤ R.slots)
    (hZ : ∀ (pc : Nat) (H : Heap) (locs : List Loc) (lsR : Array Slot), retOK j pc v → HR z b L xs D dA τ H → va_S (fun q => z ≤ q) s.heap H locs → W p l e R s m args below meth c H locs (gn τ - g0) (gl τ - l0) Z (F0 m pc lsR (v.toList.map (vt z b))))
    {n : Nat} (hnN : n + 1 ≤ N) {pc : Nat} {ls : ml_T} {st : List mv_T} {σ : ms_T} {H : Heap} {locs : List Loc} {lsR : Array Slot} (hlew : gn σ ≤ gn τ ∧ gl σ ≤ gl τ) (hL : LR z b (mxl j) ls lsR) (hst : ∀ a ∈ st, inV a) (hH : HR z b L xs D dA σ H) (hSS : va_S (fun q => z ≤ q) s.heap H locs) (hg0 : g0 ≤ gn σ) (hl0 : l0 ≤ gl σ)
    (ih : ∀ (pc : Nat) (ls : ml_T) (st : List mv_T) (σ : ms_T) (H : Heap) (locs : List Loc) (lsR : Array Slot), Wm n j pc ls st σ (fun v' τ' => v' = v ∧ τ' = τ) → LR z b (mxl j) ls lsR → (∀ a ∈ st, inV a) → HR z b L xs D dA σ H → va_S (fun q => z ≤ q) s.heap H locs → g0 ≤ gn σ → l0 ≤ gl σ →
      W p l e R s m args below meth c H locs (gn σ - g0) (gl σ - l0) Z (F0 m pc lsR (st.map (vt z b))))
    (ck : ckE j pc (.istore_n a0, [k, n0], vw) = true) (h : wpi pc (.istore_n a0, [k, n0], vw) (mrt j) ls st σ (fun pc' ls' st' σ' => Wm n j pc' ls' st' σ' (fun v' τ' => v' = v ∧ τ' = τ)) (fun j' as σ' k => Wm n j' 0 (pad (mxl j') as) [] σ' k) (fun v' τ' => v' = v ∧ τ' = τ)) : W p l e R s m args below meth c H locs (gn σ - g0) (gl σ - l0) Z (F0 m pc lsR (st.map (vt z b))) := by
  obtain ⟨hx, hb, hml, hret, hlocks, hown, hts, hmn, hK, hnw, hAO, hRF, hRL, hX, hbz, hzs, hj, hL25⟩ := hC
  have hbs : b < s.heap.size := by omega
  have hbA : ¬ (fun q : Nat => z ≤ q) b := by show ¬ z ≤ b; omega
  unfold wpi at h
  dsimp only at h
  simp only [ckE, dq, dqa, Bool.and_eq_true, Bool.or_eq_true, decide_eq_true_eq, beq_iff_eq, Nat.blt_eq, Nat.ble_eq] at ck
  obtain ⟨hd, hn, hk⟩ := ck
  subst hn
  obtain ⟨x0, r0, e0, g0⟩ := pI_inv h
  clear h
  subst e0
  have h := g0
  clear g0
  obtain ⟨hc, g⟩ := gd_inv h
  refine lv_istore_n hx hb hd hk hL.1 (by have := (gd_and hc).1; simp only [Nat.blt_eq] at this; rw [← hL.2.1]; exact this) rfl (fun ls' hl' => ?_)
  exact ih _ _ _ _ _ _ _ g (hL.pu hc (okh hst) hl') (okt hst) hH hSS hg0 hl0
set_option maxHeartbeats 4000000 in
set_option maxRecDepth 100000 in
theorem bd_14 {a0 : Nat} {k : Nat} {n0 : Nat} {vw : Int} (hC : Ctx p R s m args meth c z b L xs D dA j) {N : Nat} (hS : ∀ k, k < N → SimAt l z b L xs D dA k) {v : Option mv_T} {τ : ms_T} {g0 l0 : Nat} {Z : State → Prop} (hs0 : s.heap.size = z + g0) (hgR : gn τ - g0 ≤ R.cells ∧ gl τ - l0 ≤ R.slots)
    (hZ : ∀ (pc : Nat) (H : Heap) (locs : List Loc) (lsR : Array Slot), retOK j pc v → HR z b L xs D dA τ H → va_S (fun q => z ≤ q) s.heap H locs → W p l e R s m args below meth c H locs (gn τ - g0) (gl τ - l0) Z (F0 m pc lsR (v.toList.map (vt z b))))
    {n : Nat} (hnN : n + 1 ≤ N) {pc : Nat} {ls : ml_T} {st : List mv_T} {σ : ms_T} {H : Heap} {locs : List Loc} {lsR : Array Slot} (hlew : gn σ ≤ gn τ ∧ gl σ ≤ gl τ) (hL : LR z b (mxl j) ls lsR) (hst : ∀ a ∈ st, inV a) (hH : HR z b L xs D dA σ H) (hSS : va_S (fun q => z ≤ q) s.heap H locs) (hg0 : g0 ≤ gn σ) (hl0 : l0 ≤ gl σ)
    (ih : ∀ (pc : Nat) (ls : ml_T) (st : List mv_T) (σ : ms_T) (H : Heap) (locs : List Loc) (lsR : Array Slot), Wm n j pc ls st σ (fun v' τ' => v' = v ∧ τ' = τ) → LR z b (mxl j) ls lsR → (∀ a ∈ st, inV a) → HR z b L xs D dA σ H → va_S (fun q => z ≤ q) s.heap H locs → g0 ≤ gn σ → l0 ≤ gl σ →
      W p l e R s m args below meth c H locs (gn σ - g0) (gl σ - l0) Z (F0 m pc lsR (st.map (vt z b))))
    (ck : ckE j pc (.istore a0, [k, n0], vw) = true) (h : wpi pc (.istore a0, [k, n0], vw) (mrt j) ls st σ (fun pc' ls' st' σ' => Wm n j pc' ls' st' σ' (fun v' τ' => v' = v ∧ τ' = τ)) (fun j' as σ' k => Wm n j' 0 (pad (mxl j') as) [] σ' k) (fun v' τ' => v' = v ∧ τ' = τ)) : W p l e R s m args below meth c H locs (gn σ - g0) (gl σ - l0) Z (F0 m pc lsR (st.map (vt z b))) := by
  obtain ⟨hx, hb, hml, hret, hlocks, hown, hts, hmn, hK, hnw, hAO, hRF, hRL, hX, hbz, hzs, hj, hL25⟩ := hC
  have hbs : b < s.heap.size := by omega
  have hbA : ¬ (fun q : Nat => z ≤ q) b := by show ¬ z ≤ b; omega
  unfold wpi at h
  dsimp only at h
  simp only [ckE, dq, dqa, Bool.and_eq_true, Bool.or_eq_true, decide_eq_true_eq, beq_iff_eq, Nat.blt_eq, Nat.ble_eq] at ck
  obtain ⟨hd, hn, hk⟩ := ck
  subst hn
  obtain ⟨x0, r0, e0, g0⟩ := pI_inv h
  clear h
  subst e0
  have h := g0
  clear g0
  obtain ⟨hc, g⟩ := gd_inv h
  subst hk
  refine lv_istore hx hb hd hL.1 (by have := (gd_and hc).1; simp only [Nat.blt_eq] at this; rw [← hL.2.1]; exact this) rfl (fun ls' hl' => ?_)
  exact ih _ _ _ _ _ _ _ g (hL.pu hc (okh hst) hl') (okt hst) hH hSS hg0 hl0
set_option maxHeartbeats 4000000 in
set_option maxRecDepth 100000 in
theorem bd_15 {a0 : Fin 4} {k : Nat} {n0 : Nat} {vw : Int} (hC : Ctx p R s m args meth c z b L xs D dA j) {N : Nat} (hS : ∀ k, k < N → SimAt l z b L xs D dA k) {v : Option mv_T} {τ : ms_T} {g0 l0 : Nat} {Z : State → Prop} (hs0 : s.heap.size = z + g0) (hgR : gn τ - g0 ≤ R.cells ∧ gl τ - l0 ≤ R.slots)
    (hZ : ∀ (pc : Nat) (H : Heap) (locs : List Loc) (lsR : Array Slot), retOK j pc v → HR z b L xs D dA τ H → va_S (fun q => z ≤ q) s.heap H locs → W p l e R s m args below meth c H locs (gn τ - g0) (gl τ - l0) Z (F0 m pc lsR (v.toList.map (vt z b))))
    {n : Nat} (hnN : n + 1 ≤ N) {pc : Nat} {ls : ml_T} {st : List mv_T} {σ : ms_T} {H : Heap} {locs : List Loc} {lsR : Array Slot} (hlew : gn σ ≤ gn τ ∧ gl σ ≤ gl τ) (hL : LR z b (mxl j) ls lsR) (hst : ∀ a ∈ st, inV a) (hH : HR z b L xs D dA σ H) (hSS : va_S (fun q => z ≤ q) s.heap H locs) (hg0 : g0 ≤ gn σ) (hl0 : l0 ≤ gl σ)
    (ih : ∀ (pc : Nat) (ls : ml_T) (st : List mv_T) (σ : ms_T) (H : Heap) (locs : List Loc) (lsR : Array Slot), Wm n j pc ls st σ (fun v' τ' => v' = v ∧ τ' = τ) → LR z b (mxl j) ls lsR → (∀ a ∈ st, inV a) → HR z b L xs D dA σ H → va_S (fun q => z ≤ q) s.heap H locs → g0 ≤ gn σ → l0 ≤ gl σ →
      W p l e R s m args below meth c H locs (gn σ - g0) (gl σ - l0) Z (F0 m pc lsR (st.map (vt z b))))
    (ck : ckE j pc (.lstore_n a0, [k, n0], vw) = true) (h : wpi pc (.lstore_n a0, [k, n0], vw) (mrt j) ls st σ (fun pc' ls' st' σ' => Wm n j pc' ls' st' σ' (fun v' τ' => v' = v ∧ τ' = τ)) (fun j' as σ' k => Wm n j' 0 (pad (mxl j') as) [] σ' k) (fun v' τ' => v' = v ∧ τ' = τ)) : W p l e R s m args below meth c H locs (gn σ - g0) (gl σ - l0) Z (F0 m pc lsR (st.map (vt z b))) := by
  obtain ⟨hx, hb, hml, hret, hlocks, hown, hts, hmn, hK, hnw, hAO, hRF, hRL, hX, hbz, hzs, hj, hL25⟩ := hC
  have hbs : b < s.heap.size := by omega
  have hbA : ¬ (fun q : Nat => z ≤ q) b := by show ¬ z ≤ b; omega
  unfold wpi at h
  dsimp only at h
  simp only [ckE, dq, dqa, Bool.and_eq_true, Bool.or_eq_true, decide_eq_true_eq, beq_iff_eq, Nat.blt_eq, Nat.ble_eq] at ck
  obtain ⟨hd, hn, hk⟩ := ck
  subst hn
  obtain ⟨x0, r0, e0, g0⟩ := pL_inv h
  clear h
  subst e0
  have h := g0
  clear g0
  obtain ⟨hc, g⟩ := gd_inv h
  refine lv_lstore_n hx hb hd hk hL.1 (by have := (gd_and hc).1; simp only [Nat.blt_eq] at this; rw [← hL.2.1]; exact this) rfl (fun ls' hl' => ?_)
  exact ih _ _ _ _ _ _ _ g (hL.puL hc (okh hst) hl') (okt hst) hH hSS hg0 hl0
set_option maxHeartbeats 4000000 in
set_option maxRecDepth 100000 in
theorem bd_16 {a0 : Nat} {k : Nat} {n0 : Nat} {vw : Int} (hC : Ctx p R s m args meth c z b L xs D dA j) {N : Nat} (hS : ∀ k, k < N → SimAt l z b L xs D dA k) {v : Option mv_T} {τ : ms_T} {g0 l0 : Nat} {Z : State → Prop} (hs0 : s.heap.size = z + g0) (hgR : gn τ - g0 ≤ R.cells ∧ gl τ - l0 ≤ R.slots)
    (hZ : ∀ (pc : Nat) (H : Heap) (locs : List Loc) (lsR : Array Slot), retOK j pc v → HR z b L xs D dA τ H → va_S (fun q => z ≤ q) s.heap H locs → W p l e R s m args below meth c H locs (gn τ - g0) (gl τ - l0) Z (F0 m pc lsR (v.toList.map (vt z b))))
    {n : Nat} (hnN : n + 1 ≤ N) {pc : Nat} {ls : ml_T} {st : List mv_T} {σ : ms_T} {H : Heap} {locs : List Loc} {lsR : Array Slot} (hlew : gn σ ≤ gn τ ∧ gl σ ≤ gl τ) (hL : LR z b (mxl j) ls lsR) (hst : ∀ a ∈ st, inV a) (hH : HR z b L xs D dA σ H) (hSS : va_S (fun q => z ≤ q) s.heap H locs) (hg0 : g0 ≤ gn σ) (hl0 : l0 ≤ gl σ)
    (ih : ∀ (pc : Nat) (ls : ml_T) (st : List mv_T) (σ : ms_T) (H : Heap) (locs : List Loc) (lsR : Array Slot), Wm n j pc ls st σ (fun v' τ' => v' = v ∧ τ' = τ) → LR z b (mxl j) ls lsR → (∀ a ∈ st, inV a) → HR z b L xs D dA σ H → va_S (fun q => z ≤ q) s.heap H locs → g0 ≤ gn σ → l0 ≤ gl σ →
      W p l e R s m args below meth c H locs (gn σ - g0) (gl σ - l0) Z (F0 m pc lsR (st.map (vt z b))))
    (ck : ckE j pc (.lstore a0, [k, n0], vw) = true) (h : wpi pc (.lstore a0, [k, n0], vw) (mrt j) ls st σ (fun pc' ls' st' σ' => Wm n j pc' ls' st' σ' (fun v' τ' => v' = v ∧ τ' = τ)) (fun j' as σ' k => Wm n j' 0 (pad (mxl j') as) [] σ' k) (fun v' τ' => v' = v ∧ τ' = τ)) : W p l e R s m args below meth c H locs (gn σ - g0) (gl σ - l0) Z (F0 m pc lsR (st.map (vt z b))) := by
  obtain ⟨hx, hb, hml, hret, hlocks, hown, hts, hmn, hK, hnw, hAO, hRF, hRL, hX, hbz, hzs, hj, hL25⟩ := hC
  have hbs : b < s.heap.size := by omega
  have hbA : ¬ (fun q : Nat => z ≤ q) b := by show ¬ z ≤ b; omega
  unfold wpi at h
  dsimp only at h
  simp only [ckE, dq, dqa, Bool.and_eq_true, Bool.or_eq_true, decide_eq_true_eq, beq_iff_eq, Nat.blt_eq, Nat.ble_eq] at ck
  obtain ⟨hd, hn, hk⟩ := ck
  subst hn
  obtain ⟨x0, r0, e0, g0⟩ := pL_inv h
  clear h
  subst e0
  have h := g0
  clear g0
  obtain ⟨hc, g⟩ := gd_inv h
  subst hk
  refine lv_lstore hx hb hd hL.1 (by have := (gd_and hc).1; simp only [Nat.blt_eq] at this; rw [← hL.2.1]; exact this) rfl (fun ls' hl' => ?_)
  exact ih _ _ _ _ _ _ _ g (hL.puL hc (okh hst) hl') (okt hst) hH hSS hg0 hl0
set_option maxHeartbeats 4000000 in
set_option maxRecDepth 100000 in
theorem bd_17 {a0 : Fin 4} {k : Nat} {n0 : Nat} {vw : Int} (hC : Ctx p R s m args meth c z b L xs D dA j) {N : Nat} (hS : ∀ k, k < N → SimAt l z b L xs D dA k) {v : Option mv_T} {τ : ms_T} {g0 l0 : Nat} {Z : State → Prop} (hs0 : s.heap.size = z + g0) (hgR : gn τ - g0 ≤ R.cells ∧ gl τ - l0 ≤ R.slots)
    (hZ : ∀ (pc : Nat) (H : Heap) (locs : List Loc) (lsR : Array Slot), retOK j pc v → HR z b L xs D dA τ H → va_S (fun q => z ≤ q) s.heap H locs → W p l e R s m args below meth c H locs (gn τ - g0) (gl τ - l0) Z (F0 m pc lsR (v.toList.map (vt z b))))
    {n : Nat} (hnN : n + 1 ≤ N) {pc : Nat} {ls : ml_T} {st : List mv_T} {σ : ms_T} {H : Heap} {locs : List Loc} {lsR : Array Slot} (hlew : gn σ ≤ gn τ ∧ gl σ ≤ gl τ) (hL : LR z b (mxl j) ls lsR) (hst : ∀ a ∈ st, inV a) (hH : HR z b L xs D dA σ H) (hSS : va_S (fun q => z ≤ q) s.heap H locs) (hg0 : g0 ≤ gn σ) (hl0 : l0 ≤ gl σ)
    (ih : ∀ (pc : Nat) (ls : ml_T) (st : List mv_T) (σ : ms_T) (H : Heap) (locs : List Loc) (lsR : Array Slot), Wm n j pc ls st σ (fun v' τ' => v' = v ∧ τ' = τ) → LR z b (mxl j) ls lsR → (∀ a ∈ st, inV a) → HR z b L xs D dA σ H → va_S (fun q => z ≤ q) s.heap H locs → g0 ≤ gn σ → l0 ≤ gl σ →
      W p l e R s m args below meth c H locs (gn σ - g0) (gl σ - l0) Z (F0 m pc lsR (st.map (vt z b))))
    (ck : ckE j pc (.astore_n a0, [k, n0], vw) = true) (h : wpi pc (.astore_n a0, [k, n0], vw) (mrt j) ls st σ (fun pc' ls' st' σ' => Wm n j pc' ls' st' σ' (fun v' τ' => v' = v ∧ τ' = τ)) (fun j' as σ' k => Wm n j' 0 (pad (mxl j') as) [] σ' k) (fun v' τ' => v' = v ∧ τ' = τ)) : W p l e R s m args below meth c H locs (gn σ - g0) (gl σ - l0) Z (F0 m pc lsR (st.map (vt z b))) := by
  obtain ⟨hx, hb, hml, hret, hlocks, hown, hts, hmn, hK, hnw, hAO, hRF, hRL, hX, hbz, hzs, hj, hL25⟩ := hC
  have hbs : b < s.heap.size := by omega
  have hbA : ¬ (fun q : Nat => z ≤ q) b := by show ¬ z ≤ b; omega
  unfold wpi at h
  dsimp only at h
  simp only [ckE, dq, dqa, Bool.and_eq_true, Bool.or_eq_true, decide_eq_true_eq, beq_iff_eq, Nat.blt_eq, Nat.ble_eq] at ck
  obtain ⟨hd, hn, hk⟩ := ck
  subst hn
  obtain ⟨x0, r0, e0, g0⟩ := pR_inv h
  clear h
  subst e0
  have h := g0
  clear g0
  obtain ⟨hc, g⟩ := gd_inv h
  cases x0 with
  | none =>
    refine lv_astore_nN hx hb hd hk hL.1 (by have := (gd_and hc).1; simp only [Nat.blt_eq] at this; rw [← hL.2.1]; exact this) rfl (fun ls' hl' => ?_)
    exact ih _ _ _ _ _ _ _ g (hL.pu (v := vR none) hc trivial hl') (okt hst) hH hSS hg0 hl0
  | some x0 =>
    refine lv_astore_n hx hb hd hk hL.1 (by have := (gd_and hc).1; simp only [Nat.blt_eq] at this; rw [← hL.2.1]; exact this) rfl (fun ls' hl' => ?_)
    exact ih _ _ _ _ _ _ _ g (hL.pu (v := vR (some x0)) hc trivial hl') (okt hst) hH hSS hg0 hl0
set_option maxHeartbeats 4000000 in
set_option maxRecDepth 100000 in
theorem bd_18 {a0 : Nat} {k : Nat} {n0 : Nat} {vw : Int} (hC : Ctx p R s m args meth c z b L xs D dA j) {N : Nat} (hS : ∀ k, k < N → SimAt l z b L xs D dA k) {v : Option mv_T} {τ : ms_T} {g0 l0 : Nat} {Z : State → Prop} (hs0 : s.heap.size = z + g0) (hgR : gn τ - g0 ≤ R.cells ∧ gl τ - l0 ≤ R.slots)
    (hZ : ∀ (pc : Nat) (H : Heap) (locs : List Loc) (lsR : Array Slot), retOK j pc v → HR z b L xs D dA τ H → va_S (fun q => z ≤ q) s.heap H locs → W p l e R s m args below meth c H locs (gn τ - g0) (gl τ - l0) Z (F0 m pc lsR (v.toList.map (vt z b))))
    {n : Nat} (hnN : n + 1 ≤ N) {pc : Nat} {ls : ml_T} {st : List mv_T} {σ : ms_T} {H : Heap} {locs : List Loc} {lsR : Array Slot} (hlew : gn σ ≤ gn τ ∧ gl σ ≤ gl τ) (hL : LR z b (mxl j) ls lsR) (hst : ∀ a ∈ st, inV a) (hH : HR z b L xs D dA σ H) (hSS : va_S (fun q => z ≤ q) s.heap H locs) (hg0 : g0 ≤ gn σ) (hl0 : l0 ≤ gl σ)
    (ih : ∀ (pc : Nat) (ls : ml_T) (st : List mv_T) (σ : ms_T) (H : Heap) (locs : List Loc) (lsR : Array Slot), Wm n j pc ls st σ (fun v' τ' => v' = v ∧ τ' = τ) → LR z b (mxl j) ls lsR → (∀ a ∈ st, inV a) → HR z b L xs D dA σ H → va_S (fun q => z ≤ q) s.heap H locs → g0 ≤ gn σ → l0 ≤ gl σ →
      W p l e R s m args below meth c H locs (gn σ - g0) (gl σ - l0) Z (F0 m pc lsR (st.map (vt z b))))
    (ck : ckE j pc (.astore a0, [k, n0], vw) = true) (h : wpi pc (.astore a0, [k, n0], vw) (mrt j) ls st σ (fun pc' ls' st' σ' => Wm n j pc' ls' st' σ' (fun v' τ' => v' = v ∧ τ' = τ)) (fun j' as σ' k => Wm n j' 0 (pad (mxl j') as) [] σ' k) (fun v' τ' => v' = v ∧ τ' = τ)) : W p l e R s m args below meth c H locs (gn σ - g0) (gl σ - l0) Z (F0 m pc lsR (st.map (vt z b))) := by
  obtain ⟨hx, hb, hml, hret, hlocks, hown, hts, hmn, hK, hnw, hAO, hRF, hRL, hX, hbz, hzs, hj, hL25⟩ := hC
  have hbs : b < s.heap.size := by omega
  have hbA : ¬ (fun q : Nat => z ≤ q) b := by show ¬ z ≤ b; omega
  unfold wpi at h
  dsimp only at h
  simp only [ckE, dq, dqa, Bool.and_eq_true, Bool.or_eq_true, decide_eq_true_eq, beq_iff_eq, Nat.blt_eq, Nat.ble_eq] at ck
  obtain ⟨hd, hn, hk⟩ := ck
  subst hn
  obtain ⟨x0, r0, e0, g0⟩ := pR_inv h
  clear h
  subst e0
  have h := g0
  clear g0
  obtain ⟨hc, g⟩ := gd_inv h
  subst hk
  cases x0 with
  | none =>
    refine lv_astoreN hx hb hd hL.1 (by have := (gd_and hc).1; simp only [Nat.blt_eq] at this; rw [← hL.2.1]; exact this) rfl (fun ls' hl' => ?_)
    exact ih _ _ _ _ _ _ _ g (hL.pu (v := vR none) hc trivial hl') (okt hst) hH hSS hg0 hl0
  | some x0 =>
    refine lv_astore hx hb hd hL.1 (by have := (gd_and hc).1; simp only [Nat.blt_eq] at this; rw [← hL.2.1]; exact this) rfl (fun ls' hl' => ?_)
    exact ih _ _ _ _ _ _ _ g (hL.pu (v := vR (some x0)) hc trivial hl') (okt hst) hH hSS hg0 hl0
set_option maxHeartbeats 4000000 in
set_option maxRecDepth 100000 in
theorem bd_19 {a0 : Nat} {a1 : Int} {k : Nat} {vv : Int} (hC : Ctx p R s m args meth c z b L xs D dA j) {N : Nat} (hS : ∀ k, k < N → SimAt l z b L xs D dA k) {v : Option mv_T} {τ : ms_T} {g0 l0 : Nat} {Z : State → Prop} (hs0 : s.heap.size = z + g0) (hgR : gn τ - g0 ≤ R.cells ∧ gl τ - l0 ≤ R.slots)
    (hZ : ∀ (pc : Nat) (H : Heap) (locs : List Loc) (lsR : Array Slot), retOK j pc v → HR z b L xs D dA τ H → va_S (fun q => z ≤ q) s.heap H locs → W p l e R s m args below meth c H locs (gn τ - g0) (gl τ - l0) Z (F0 m pc lsR (v.toList.map (vt z b))))
    {n : Nat} (hnN : n + 1 ≤ N) {pc : Nat} {ls : ml_T} {st : List mv_T} {σ : ms_T} {H : Heap} {locs : List Loc} {lsR : Array Slot} (hlew : gn σ ≤ gn τ ∧ gl σ ≤ gl τ) (hL : LR z b (mxl j) ls lsR) (hst : ∀ a ∈ st, inV a) (hH : HR z b L xs D dA σ H) (hSS : va_S (fun q => z ≤ q) s.heap H locs) (hg0 : g0 ≤ gn σ) (hl0 : l0 ≤ gl σ)
    (ih : ∀ (pc : Nat) (ls : ml_T) (st : List mv_T) (σ : ms_T) (H : Heap) (locs : List Loc) (lsR : Array Slot), Wm n j pc ls st σ (fun v' τ' => v' = v ∧ τ' = τ) → LR z b (mxl j) ls lsR → (∀ a ∈ st, inV a) → HR z b L xs D dA σ H → va_S (fun q => z ≤ q) s.heap H locs → g0 ≤ gn σ → l0 ≤ gl σ →
      W p l e R s m args below meth c H locs (gn σ - g0) (gl σ - l0) Z (F0 m pc lsR (st.map (vt z b))))
    (ck : ckE j pc (.iinc a0 a1, [k], vv) = true) (h : wpi pc (.iinc a0 a1, [k], vv) (mrt j) ls st σ (fun pc' ls' st' σ' => Wm n j pc' ls' st' σ' (fun v' τ' => v' = v ∧ τ' = τ)) (fun j' as σ' k => Wm n j' 0 (pad (mxl j') as) [] σ' k) (fun v' τ' => v' = v ∧ τ' = τ)) : W p l e R s m args below meth c H locs (gn σ - g0) (gl σ - l0) Z (F0 m pc lsR (st.map (vt z b))) := by
  obtain ⟨hx, hb, hml, hret, hlocks, hown, hts, hmn, hK, hnw, hAO, hRF, hRL, hX, hbz, hzs, hj, hL25⟩ := hC
  have hbs : b < s.heap.size := by omega
  have hbA : ¬ (fun q : Nat => z ≤ q) b := by show ¬ z ≤ b; omega
  unfold wpi at h
  dsimp only at h
  simp only [ckE, dq, dqa, Bool.and_eq_true, Bool.or_eq_true, decide_eq_true_eq, beq_iff_eq, Nat.blt_eq, Nat.ble_eq] at ck
  obtain ⟨hd, hk, hv, hr⟩ := ck
  subst hk
  subst hv
  obtain ⟨a, ha, g⟩ := ldI_inv h
  obtain ⟨hc, g⟩ := gd_inv g
  obtain ⟨k0, hk0⟩ := List.getElem?_of_mem (en_mem.mpr ⟨_, _, ha, rfl⟩ : _ ∈ en z b 0 ls)
  rw [Nat.zero_add] at hk0
  refine lv_iinc hx hb hd hL.1 hk0 (i32_add (hL.at ha).2 (ri_rg hr)) (by have := (gd_and hc).1; simp only [Nat.blt_eq] at this; rw [← hL.2.1]; exact this) rfl (fun ls' hl' => ?_)
  exact ih _ _ _ _ _ _ _ g (hL.pu (v := vI _) hc (rg_wr _) hl') hst hH hSS hg0 hl0
set_option maxHeartbeats 4000000 in
set_option maxRecDepth 100000 in
theorem bd_20 {lw : List Nat} {vw : Int} (hC : Ctx p R s m args meth c z b L xs D dA j) {N : Nat} (hS : ∀ k, k < N → SimAt l z b L xs D dA k) {v : Option mv_T} {τ : ms_T} {g0 l0 : Nat} {Z : State → Prop} (hs0 : s.heap.size = z + g0) (hgR : gn τ - g0 ≤ R.cells ∧ gl τ - l0 ≤ R.slots)
    (hZ : ∀ (pc : Nat) (H : Heap) (locs : List Loc) (lsR : Array Slot), retOK j pc v → HR z b L xs D dA τ H → va_S (fun q => z ≤ q) s.heap H locs → W p l e R s m args below meth c H locs (gn τ - g0) (gl τ - l0) Z (F0 m pc lsR (v.toList.map (vt z b))))
    {n : Nat} (hnN : n + 1 ≤ N) {pc : Nat} {ls : ml_T} {st : List mv_T} {σ : ms_T} {H : Heap} {locs : List Loc} {lsR : Array Slot} (hlew : gn σ ≤ gn τ ∧ gl σ ≤ gl τ) (hL : LR z b (mxl j) ls lsR) (hst : ∀ a ∈ st, inV a) (hH : HR z b L xs D dA σ H) (hSS : va_S (fun q => z ≤ q) s.heap H locs) (hg0 : g0 ≤ gn σ) (hl0 : l0 ≤ gl σ)
    (ih : ∀ (pc : Nat) (ls : ml_T) (st : List mv_T) (σ : ms_T) (H : Heap) (locs : List Loc) (lsR : Array Slot), Wm n j pc ls st σ (fun v' τ' => v' = v ∧ τ' = τ) → LR z b (mxl j) ls lsR → (∀ a ∈ st, inV a) → HR z b L xs D dA σ H → va_S (fun q => z ≤ q) s.heap H locs → g0 ≤ gn σ → l0 ≤ gl σ →
      W p l e R s m args below meth c H locs (gn σ - g0) (gl σ - l0) Z (F0 m pc lsR (st.map (vt z b))))
    (ck : ckE j pc (.iadd, lw, vw) = true) (h : wpi pc (.iadd, lw, vw) (mrt j) ls st σ (fun pc' ls' st' σ' => Wm n j pc' ls' st' σ' (fun v' τ' => v' = v ∧ τ' = τ)) (fun j' as σ' k => Wm n j' 0 (pad (mxl j') as) [] σ' k) (fun v' τ' => v' = v ∧ τ' = τ)) : W p l e R s m args below meth c H locs (gn σ - g0) (gl σ - l0) Z (F0 m pc lsR (st.map (vt z b))) := by
  obtain ⟨hx, hb, hml, hret, hlocks, hown, hts, hmn, hK, hnw, hAO, hRF, hRL, hX, hbz, hzs, hj, hL25⟩ := hC
  have hbs : b < s.heap.size := by omega
  have hbA : ¬ (fun q : Nat => z ≤ q) b := by show ¬ z ≤ b; omega
  unfold wpi at h
  dsimp only at h
  simp only [ckE, dq, dqa, Bool.and_eq_true, Bool.or_eq_true, decide_eq_true_eq, beq_iff_eq, Nat.blt_eq, Nat.ble_eq] at ck
  obtain ⟨x0, r0, e0, g0⟩ := pI_inv h
  clear h
  subst e0
  have h := g0
  clear g0
  obtain ⟨x1, r1, e1, g1⟩ := pI_inv h
  clear h
  subst e1
  have h := g1
  clear g1
  have h0 := okh hst
  have h1 := okh (okt hst)
  refine lv_iadd hx hb ck ?_
  rw [i32_add h1 h0]
  exact ih _ _ (vI _ :: r1) _ _ _ _ h hL (okc (rg_wr _) (okt (okt hst))) hH hSS hg0 hl0
set_option maxHeartbeats 4000000 in
set_option maxRecDepth 100000 in
theorem bd_21 {lw : List Nat} {vw : Int} (hC : Ctx p R s m args meth c z b L xs D dA j) {N : Nat} (hS : ∀ k, k < N → SimAt l z b L xs D dA k) {v : Option mv_T} {τ : ms_T} {g0 l0 : Nat} {Z : State → Prop} (hs0 : s.heap.size = z + g0) (hgR : gn τ - g0 ≤ R.cells ∧ gl τ - l0 ≤ R.slots)
    (hZ : ∀ (pc : Nat) (H : Heap) (locs : List Loc) (lsR : Array Slot), retOK j pc v → HR z b L xs D dA τ H → va_S (fun q => z ≤ q) s.heap H locs → W p l e R s m args below meth c H locs (gn τ - g0) (gl τ - l0) Z (F0 m pc lsR (v.toList.map (vt z b))))
    {n : Nat} (hnN : n + 1 ≤ N) {pc : Nat} {ls : ml_T} {st : List mv_T} {σ : ms_T} {H : Heap} {locs : List Loc} {lsR : Array Slot} (hlew : gn σ ≤ gn τ ∧ gl σ ≤ gl τ) (hL : LR z b (mxl j) ls lsR) (hst : ∀ a ∈ st, inV a) (hH : HR z b L xs D dA σ H) (hSS : va_S (fun q => z ≤ q) s.heap H locs) (hg0 : g0 ≤ gn σ) (hl0 : l0 ≤ gl σ)
    (ih : ∀ (pc : Nat) (ls : ml_T) (st : List mv_T) (σ : ms_T) (H : Heap) (locs : List Loc) (lsR : Array Slot), Wm n j pc ls st σ (fun v' τ' => v' = v ∧ τ' = τ) → LR z b (mxl j) ls lsR → (∀ a ∈ st, inV a) → HR z b L xs D dA σ H → va_S (fun q => z ≤ q) s.heap H locs → g0 ≤ gn σ → l0 ≤ gl σ →
      W p l e R s m args below meth c H locs (gn σ - g0) (gl σ - l0) Z (F0 m pc lsR (st.map (vt z b))))
    (ck : ckE j pc (.isub, lw, vw) = true) (h : wpi pc (.isub, lw, vw) (mrt j) ls st σ (fun pc' ls' st' σ' => Wm n j pc' ls' st' σ' (fun v' τ' => v' = v ∧ τ' = τ)) (fun j' as σ' k => Wm n j' 0 (pad (mxl j') as) [] σ' k) (fun v' τ' => v' = v ∧ τ' = τ)) : W p l e R s m args below meth c H locs (gn σ - g0) (gl σ - l0) Z (F0 m pc lsR (st.map (vt z b))) := by
  obtain ⟨hx, hb, hml, hret, hlocks, hown, hts, hmn, hK, hnw, hAO, hRF, hRL, hX, hbz, hzs, hj, hL25⟩ := hC
  have hbs : b < s.heap.size := by omega
  have hbA : ¬ (fun q : Nat => z ≤ q) b := by show ¬ z ≤ b; omega
  unfold wpi at h
  dsimp only at h
  simp only [ckE, dq, dqa, Bool.and_eq_true, Bool.or_eq_true, decide_eq_true_eq, beq_iff_eq, Nat.blt_eq, Nat.ble_eq] at ck
  obtain ⟨x0, r0, e0, g0⟩ := pI_inv h
  clear h
  subst e0
  have h := g0
  clear g0
  obtain ⟨x1, r1, e1, g1⟩ := pI_inv h
  clear h
  subst e1
  have h := g1
  clear g1
  have h0 := okh hst
  have h1 := okh (okt hst)
  refine lv_isub hx hb ck ?_
  rw [i32_sub h1 h0]
  exact ih _ _ (vI _ :: r1) _ _ _ _ h hL (okc (rg_wr _) (okt (okt hst))) hH hSS hg0 hl0
set_option maxHeartbeats 4000000 in
set_option maxRecDepth 100000 in
theorem bd_22 {lw : List Nat} {vw : Int} (hC : Ctx p R s m args meth c z b L xs D dA j) {N : Nat} (hS : ∀ k, k < N → SimAt l z b L xs D dA k) {v : Option mv_T} {τ : ms_T} {g0 l0 : Nat} {Z : State → Prop} (hs0 : s.heap.size = z + g0) (hgR : gn τ - g0 ≤ R.cells ∧ gl τ - l0 ≤ R.slots)
    (hZ : ∀ (pc : Nat) (H : Heap) (locs : List Loc) (lsR : Array Slot), retOK j pc v → HR z b L xs D dA τ H → va_S (fun q => z ≤ q) s.heap H locs → W p l e R s m args below meth c H locs (gn τ - g0) (gl τ - l0) Z (F0 m pc lsR (v.toList.map (vt z b))))
    {n : Nat} (hnN : n + 1 ≤ N) {pc : Nat} {ls : ml_T} {st : List mv_T} {σ : ms_T} {H : Heap} {locs : List Loc} {lsR : Array Slot} (hlew : gn σ ≤ gn τ ∧ gl σ ≤ gl τ) (hL : LR z b (mxl j) ls lsR) (hst : ∀ a ∈ st, inV a) (hH : HR z b L xs D dA σ H) (hSS : va_S (fun q => z ≤ q) s.heap H locs) (hg0 : g0 ≤ gn σ) (hl0 : l0 ≤ gl σ)
    (ih : ∀ (pc : Nat) (ls : ml_T) (st : List mv_T) (σ : ms_T) (H : Heap) (locs : List Loc) (lsR : Array Slot), Wm n j pc ls st σ (fun v' τ' => v' = v ∧ τ' = τ) → LR z b (mxl j) ls lsR → (∀ a ∈ st, inV a) → HR z b L xs D dA σ H → va_S (fun q => z ≤ q) s.heap H locs → g0 ≤ gn σ → l0 ≤ gl σ →
      W p l e R s m args below meth c H locs (gn σ - g0) (gl σ - l0) Z (F0 m pc lsR (st.map (vt z b))))
    (ck : ckE j pc (.imul, lw, vw) = true) (h : wpi pc (.imul, lw, vw) (mrt j) ls st σ (fun pc' ls' st' σ' => Wm n j pc' ls' st' σ' (fun v' τ' => v' = v ∧ τ' = τ)) (fun j' as σ' k => Wm n j' 0 (pad (mxl j') as) [] σ' k) (fun v' τ' => v' = v ∧ τ' = τ)) : W p l e R s m args below meth c H locs (gn σ - g0) (gl σ - l0) Z (F0 m pc lsR (st.map (vt z b))) := by
  obtain ⟨hx, hb, hml, hret, hlocks, hown, hts, hmn, hK, hnw, hAO, hRF, hRL, hX, hbz, hzs, hj, hL25⟩ := hC
  have hbs : b < s.heap.size := by omega
  have hbA : ¬ (fun q : Nat => z ≤ q) b := by show ¬ z ≤ b; omega
  unfold wpi at h
  dsimp only at h
  simp only [ckE, dq, dqa, Bool.and_eq_true, Bool.or_eq_true, decide_eq_true_eq, beq_iff_eq, Nat.blt_eq, Nat.ble_eq] at ck
  obtain ⟨x0, r0, e0, g0⟩ := pI_inv h
  clear h
  subst e0
  have h := g0
  clear g0
  obtain ⟨x1, r1, e1, g1⟩ := pI_inv h
  clear h
  subst e1
  have h := g1
  clear g1
  have h0 := okh hst
  have h1 := okh (okt hst)
  refine lv_imul hx hb ck ?_
  rw [i32_mul h1 h0]
  exact ih _ _ (vI _ :: r1) _ _ _ _ h hL (okc (rg_wr _) (okt (okt hst))) hH hSS hg0 hl0
end BODY
