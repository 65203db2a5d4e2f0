section BODY
variable {p : Program} {l : Launch} {e : Env} {R : Room} {s : State} {m : MethodId} {args : Array Value} {below : List Frame} {meth : Method} {c : Code} {z b L : Nat} {xs : Nat → Int32} {D : va_G} {dA : Nat → ClassId} {j : Nat}
set_option maxHeartbeats 4000000 in
set_option maxRecDepth 100000 in
theorem bd_50 {a0 : Nat} {ci : Nat} {k : Nat} {fin : Nat} {vw : Int} (hC : Ctx p R s m args meth c z b L xs D dA j) {N : Nat} (hS : ∀ k, k < N → SimAt l z b L xs D dA k) {v : Option mv_T} {τ : ms_T} {g0 l0 : Nat} {Z : State → Prop} (hs0 : s.heap.size = z + g0) (hgR : gn τ - g0 ≤ R.cells ∧ gl τ - l0 ≤ R.slots)
    (hZ : ∀ (pc : Nat) (H : Heap) (locs : List Loc) (lsR : Array Slot), retOK j pc v → HR z b L xs D dA τ H → va_S (fun q => z ≤ q) s.heap H locs → W p l e R s m args below meth c H locs (gn τ - g0) (gl τ - l0) Z (F0 m pc lsR (v.toList.map (vt z b))))
    {n : Nat} (hnN : n + 1 ≤ N) {pc : Nat} {ls : ml_T} {st : List mv_T} {σ : ms_T} {H : Heap} {locs : List Loc} {lsR : Array Slot} (hlew : gn σ ≤ gn τ ∧ gl σ ≤ gl τ) (hL : LR z b (mxl j) ls lsR) (hst : ∀ a ∈ st, inV a) (hH : HR z b L xs D dA σ H) (hSS : va_S (fun q => z ≤ q) s.heap H locs) (hg0 : g0 ≤ gn σ) (hl0 : l0 ≤ gl σ)
    (ih : ∀ (pc : Nat) (ls : ml_T) (st : List mv_T) (σ : ms_T) (H : Heap) (locs : List Loc) (lsR : Array Slot), Wm n j pc ls st σ (fun v' τ' => v' = v ∧ τ' = τ) → LR z b (mxl j) ls lsR → (∀ a ∈ st, inV a) → HR z b L xs D dA σ H → va_S (fun q => z ≤ q) s.heap H locs → g0 ≤ gn σ → l0 ≤ gl σ →
      W p l e R s m args below meth c H locs (gn σ - g0) (gl σ - l0) Z (F0 m pc lsR (st.map (vt z b))))
    (ck : ckE j pc (.getfield a0, [ci, k, 0, fin], vw) = true) (h : wpi pc (.getfield a0, [ci, k, 0, fin], vw) (mrt j) ls st σ (fun pc' ls' st' σ' => Wm n j pc' ls' st' σ' (fun v' τ' => v' = v ∧ τ' = τ)) (fun j' as σ' k => Wm n j' 0 (pad (mxl j') as) [] σ' k) (fun v' τ' => v' = v ∧ τ' = τ)) : W p l e R s m args below meth c H locs (gn σ - g0) (gl σ - l0) Z (F0 m pc lsR (st.map (vt z b))) := by
  obtain ⟨hx, hb, hml, hret, hlocks, hown, hts, hmn, hK, hnw, hAO, hRF, hRL, hX, hbz, hzs, hj, hL25⟩ := hC
  have hbs : b < s.heap.size := by omega
  have hbA : ¬ (fun q : Nat => z ≤ q) b := by show ¬ z ≤ b; omega
  unfold wpi at h
  dsimp only at h
  simp only [ckE, dq, dqa, Bool.and_eq_true, Bool.or_eq_true, decide_eq_true_eq, beq_iff_eq, Nat.blt_eq, Nat.ble_eq] at ck
  obtain ⟨hd, hf, hci, hk, hty⟩ := ck
  obtain ⟨w, hw⟩ := hasF_of hf
  obtain ⟨x0, r0, e0, g0⟩ := pR_inv h
  clear h
  subst e0
  have h := g0
  clear g0
  obtain ⟨cc, e9, g9⟩ := isS_inv h
  clear h
  subst e9
  obtain ⟨hgs, h⟩ := g9
  obtain ⟨q, rfl, hq⟩ := gd_in hH.2.2 (c := cc) (by rw [hgs]; show _ ≠ _; omega) (by rw [hgs]; show _ ≠ _; omega)
  have hwe := wo_get (z := z) (b := b) (dA := dA) hq
  rw [wnt_obj hgs hci] at hwe
  refine va_get (D := D) (cl := clsL) hx hb hts (lay_ok _ hci) hown hK hH.2.1 q hwe (cls_ok _ hci) _ hk (hts _ (fldT_ok _ hw)) (fun y hy => by rw [fT_1 _ hci _ hk] at hy; exact hy) (v := vt z b (vI (gi σ (q + 1) _))) (by rw [List.getElem?_map, List.getElem?_range hk]; show some (fvl _ _ _ _ _ _) = _; congr 1; unfold fvl isrf; rw [hty]; rfl) hd ?_
  exact ih _ _ (vI (gi σ (q + 1) _) :: r0) _ _ _ _ h hL (okc (hH.2.2.1 _ _) (okt hst)) hH hSS hg0 hl0
set_option maxHeartbeats 4000000 in
set_option maxRecDepth 100000 in
theorem bd_51 {a0 : Nat} {ci : Nat} {k : Nat} {fin : Nat} {vw : Int} (hC : Ctx p R s m args meth c z b L xs D dA j) {N : Nat} (hS : ∀ k, k < N → SimAt l z b L xs D dA k) {v : Option mv_T} {τ : ms_T} {g0 l0 : Nat} {Z : State → Prop} (hs0 : s.heap.size = z + g0) (hgR : gn τ - g0 ≤ R.cells ∧ gl τ - l0 ≤ R.slots)
    (hZ : ∀ (pc : Nat) (H : Heap) (locs : List Loc) (lsR : Array Slot), retOK j pc v → HR z b L xs D dA τ H → va_S (fun q => z ≤ q) s.heap H locs → W p l e R s m args below meth c H locs (gn τ - g0) (gl τ - l0) Z (F0 m pc lsR (v.toList.map (vt z b))))
    {n : Nat} (hnN : n + 1 ≤ N) {pc : Nat} {ls : ml_T} {st : List mv_T} {σ : ms_T} {H : Heap} {locs : List Loc} {lsR : Array Slot} (hlew : gn σ ≤ gn τ ∧ gl σ ≤ gl τ) (hL : LR z b (mxl j) ls lsR) (hst : ∀ a ∈ st, inV a) (hH : HR z b L xs D dA σ H) (hSS : va_S (fun q => z ≤ q) s.heap H locs) (hg0 : g0 ≤ gn σ) (hl0 : l0 ≤ gl σ)
    (ih : ∀ (pc : Nat) (ls : ml_T) (st : List mv_T) (σ : ms_T) (H : Heap) (locs : List Loc) (lsR : Array Slot), Wm n j pc ls st σ (fun v' τ' => v' = v ∧ τ' = τ) → LR z b (mxl j) ls lsR → (∀ a ∈ st, inV a) → HR z b L xs D dA σ H → va_S (fun q => z ≤ q) s.heap H locs → g0 ≤ gn σ → l0 ≤ gl σ →
      W p l e R s m args below meth c H locs (gn σ - g0) (gl σ - l0) Z (F0 m pc lsR (st.map (vt z b))))
    (ck : ckE j pc (.putfield a0, [ci, k, 2, fin], vw) = true) (h : wpi pc (.putfield a0, [ci, k, 2, fin], vw) (mrt j) ls st σ (fun pc' ls' st' σ' => Wm n j pc' ls' st' σ' (fun v' τ' => v' = v ∧ τ' = τ)) (fun j' as σ' k => Wm n j' 0 (pad (mxl j') as) [] σ' k) (fun v' τ' => v' = v ∧ τ' = τ)) : W p l e R s m args below meth c H locs (gn σ - g0) (gl σ - l0) Z (F0 m pc lsR (st.map (vt z b))) := by
  obtain ⟨hx, hb, hml, hret, hlocks, hown, hts, hmn, hK, hnw, hAO, hRF, hRL, hX, hbz, hzs, hj, hL25⟩ := hC
  have hbs : b < s.heap.size := by omega
  have hbA : ¬ (fun q : Nat => z ≤ q) b := by show ¬ z ≤ b; omega
  unfold wpi at h
  dsimp only at h
  simp only [ckE, dq, dqa, Bool.and_eq_true, Bool.or_eq_true, decide_eq_true_eq, beq_iff_eq, Nat.blt_eq, Nat.ble_eq] at ck
  obtain ⟨hd, hf, hci, hk, hty, hfin, hin⟩ := ck
  obtain ⟨w, hw⟩ := hasF_of hf
  obtain ⟨x0, r0, e0, g0⟩ := pR_inv h
  clear h
  subst e0
  have h := g0
  clear g0
  obtain ⟨x1, r1, e1, g1⟩ := pR_inv h
  clear h
  subst e1
  have h := g1
  clear g1
  obtain ⟨cc, e9, g9⟩ := isS_inv h
  clear h
  subst e9
  obtain ⟨hgs, h⟩ := g9
  obtain ⟨q, rfl, hq⟩ := gd_in hH.2.2 (c := cc) (by rw [hgs]; show _ ≠ _; omega) (by rw [hgs]; show _ ≠ _; omega)
  have hwe := wo_get (z := z) (b := b) (dA := dA) hq
  rw [wnt_obj hgs hci] at hwe
  have hty2 := fkd_ty2 hty
  have hwo : wo z b dA (sR σ (q + 1) _ x0) = (wo z b dA σ).set q (z + q, .inr (_, ((List.range (nfl _)).map (fvl z b σ _ (q + 1))).set _ (vt z b (vR x0)))) := wo_put rfl (fun c hc => wnt_same rfl (fun k => rfl) (fun k => by rw [gr_sR, if_neg (fun y => hc y.1)])) (by rw [wnt_obj (c := q + 1) (ci := _) (by exact hgs) hci]; congr 2; exact map_set (fun i hi => fvl_ne rfl (by rw [gr_sR, if_neg (fun y => hi y.2)])) (by unfold fvl isrf; rw [hty]; show va_rf ((gr _ _ _).map _) = _; rw [gr_sR, if_pos ⟨rfl, rfl⟩]; rfl))
  rcases hin with hin | ⟨hin, hdc⟩
  · refine va_put (D := D) (cl := clsL) hx hb hts (lay_ok _ hci) (fty _) (fty_ok _ hci) (nm_ok _ hci) hown hK hH.2.1 (wo_D (z := z)) hSS q hwe (cls_ok _ hci) _ hk (hts _ (fldT_ok _ hw)) (fun y hy => by rw [fT_1 _ hci _ hk] at hy; exact hy) (by rw [hfin, hin]; rfl) (v := vt z b (vR x0)) (fty_ok _ hci _ hk) (narrow_ref hty2) (fits_ref hty2) (by rw [List.length_map, List.length_range]; exact hk) hd (fun H1 locs1 hP1 hD1 hS1 => W.hsz (fun hz => ?_))
    have h3 := ih _ _ _ _ H1 locs1 lsR h hL (okt (okt hst)) (HRm hs0 (by exact hg0) (by exact hz) hS1 (by rw [hwo]; exact hP1) (gd_sR hH.2.2)) hS1 hg0 hl0; exact h3
  · skip
    by_cases hf1 : fin = 1
    · refine va_putF (D := D) (cl := clsL) hx hb hts (lay_ok _ hci) (fty _) (fty_ok _ hci) (nm_ok _ hci) hown hK hH.2.1 (wo_D (z := z)) hSS q hwe (cls_ok _ hci) _ hk (hts _ (fldT_ok _ hw)) (fun y hy => by rw [fT_1 _ hci _ hk] at hy; exact hy) (by rw [hfin, hf1]; rfl) (hmn hin) hdc (v := vt z b (vR x0)) (fty_ok _ hci _ hk) (narrow_ref hty2) (fits_ref hty2) (by rw [List.length_map, List.length_range]; exact hk) hd (fun H1 locs1 hP1 hD1 hS1 => W.hsz (fun hz => ?_))
      have h3 := ih _ _ _ _ H1 locs1 lsR h hL (okt (okt hst)) (HRm hs0 (by exact hg0) (by exact hz) hS1 (by rw [hwo]; exact hP1) (gd_sR hH.2.2)) hS1 hg0 hl0; exact h3
    · refine va_put (D := D) (cl := clsL) hx hb hts (lay_ok _ hci) (fty _) (fty_ok _ hci) (nm_ok _ hci) hown hK hH.2.1 (wo_D (z := z)) hSS q hwe (cls_ok _ hci) _ hk (hts _ (fldT_ok _ hw)) (fun y hy => by rw [fT_1 _ hci _ hk] at hy; exact hy) (by rw [hfin]; simpa using hf1) (v := vt z b (vR x0)) (fty_ok _ hci _ hk) (narrow_ref hty2) (fits_ref hty2) (by rw [List.length_map, List.length_range]; exact hk) hd (fun H1 locs1 hP1 hD1 hS1 => W.hsz (fun hz => ?_))
      have h3 := ih _ _ _ _ H1 locs1 lsR h hL (okt (okt hst)) (HRm hs0 (by exact hg0) (by exact hz) hS1 (by rw [hwo]; exact hP1) (gd_sR hH.2.2)) hS1 hg0 hl0; exact h3
set_option maxHeartbeats 4000000 in
set_option maxRecDepth 100000 in
theorem bd_52 {a0 : Nat} {ci : Nat} {k : Nat} {fin : Nat} {vw : Int} (hC : Ctx p R s m args meth c z b L xs D dA j) {N : Nat} (hS : ∀ k, k < N → SimAt l z b L xs D dA k) {v : Option mv_T} {τ : ms_T} {g0 l0 : Nat} {Z : State → Prop} (hs0 : s.heap.size = z + g0) (hgR : gn τ - g0 ≤ R.cells ∧ gl τ - l0 ≤ R.slots)
    (hZ : ∀ (pc : Nat) (H : Heap) (locs : List Loc) (lsR : Array Slot), retOK j pc v → HR z b L xs D dA τ H → va_S (fun q => z ≤ q) s.heap H locs → W p l e R s m args below meth c H locs (gn τ - g0) (gl τ - l0) Z (F0 m pc lsR (v.toList.map (vt z b))))
    {n : Nat} (hnN : n + 1 ≤ N) {pc : Nat} {ls : ml_T} {st : List mv_T} {σ : ms_T} {H : Heap} {locs : List Loc} {lsR : Array Slot} (hlew : gn σ ≤ gn τ ∧ gl σ ≤ gl τ) (hL : LR z b (mxl j) ls lsR) (hst : ∀ a ∈ st, inV a) (hH : HR z b L xs D dA σ H) (hSS : va_S (fun q => z ≤ q) s.heap H locs) (hg0 : g0 ≤ gn σ) (hl0 : l0 ≤ gl σ)
    (ih : ∀ (pc : Nat) (ls : ml_T) (st : List mv_T) (σ : ms_T) (H : Heap) (locs : List Loc) (lsR : Array Slot), Wm n j pc ls st σ (fun v' τ' => v' = v ∧ τ' = τ) → LR z b (mxl j) ls lsR → (∀ a ∈ st, inV a) → HR z b L xs D dA σ H → va_S (fun q => z ≤ q) s.heap H locs → g0 ≤ gn σ → l0 ≤ gl σ →
      W p l e R s m args below meth c H locs (gn σ - g0) (gl σ - l0) Z (F0 m pc lsR (st.map (vt z b))))
    (ck : ckE j pc (.putfield a0, [ci, k, 1, fin], vw) = true) (h : wpi pc (.putfield a0, [ci, k, 1, fin], vw) (mrt j) ls st σ (fun pc' ls' st' σ' => Wm n j pc' ls' st' σ' (fun v' τ' => v' = v ∧ τ' = τ)) (fun j' as σ' k => Wm n j' 0 (pad (mxl j') as) [] σ' k) (fun v' τ' => v' = v ∧ τ' = τ)) : W p l e R s m args below meth c H locs (gn σ - g0) (gl σ - l0) Z (F0 m pc lsR (st.map (vt z b))) := by
  obtain ⟨hx, hb, hml, hret, hlocks, hown, hts, hmn, hK, hnw, hAO, hRF, hRL, hX, hbz, hzs, hj, hL25⟩ := hC
  have hbs : b < s.heap.size := by omega
  have hbA : ¬ (fun q : Nat => z ≤ q) b := by show ¬ z ≤ b; omega
  unfold wpi at h
  dsimp only at h
  simp only [ckE, dq, dqa, Bool.and_eq_true, Bool.or_eq_true, decide_eq_true_eq, beq_iff_eq, Nat.blt_eq, Nat.ble_eq] at ck
  obtain ⟨hd, hf, hci, hk, hty, hfin, hin⟩ := ck
  obtain ⟨w, hw⟩ := hasF_of hf
  obtain ⟨x0, r0, e0, g0⟩ := pI_inv h
  clear h
  subst e0
  have h := g0
  clear g0
  obtain ⟨x1, r1, e1, g1⟩ := pR_inv h
  clear h
  subst e1
  have h := g1
  clear g1
  obtain ⟨cc, e9, g9⟩ := isS_inv h
  clear h
  subst e9
  obtain ⟨hgs, h⟩ := g9
  obtain ⟨q, rfl, hq⟩ := gd_in hH.2.2 (c := cc) (by rw [hgs]; show _ ≠ _; omega) (by rw [hgs]; show _ ≠ _; omega)
  have hwe := wo_get (z := z) (b := b) (dA := dA) hq
  rw [wnt_obj hgs hci] at hwe
  obtain ⟨h01, h⟩ := h
  have hty2 := fkd_ty1 hty
  have hwo : wo z b dA (sI σ (q + 1) _ x0) = (wo z b dA σ).set q (z + q, .inr (_, ((List.range (nfl _)).map (fvl z b σ _ (q + 1))).set _ (vt z b (vI x0)))) := wo_put rfl (fun c hc => wnt_same rfl (fun k => by rw [gi_sI, if_neg (fun y => hc y.1)]) (fun k => rfl)) (by rw [wnt_obj (c := q + 1) (ci := _) (by exact hgs) hci]; congr 2; exact map_set (fun i hi => fvl_ne (by rw [gi_sI, if_neg (fun y => hi y.2)]) rfl) (by unfold fvl isrf; rw [hty]; show Value.int (Int32.ofInt (gi _ _ _)) = _; rw [gi_sI, if_pos ⟨rfl, rfl⟩]; rfl))
  rcases hin with hin | ⟨hin, hdc⟩
  · refine va_put (D := D) (cl := clsL) hx hb hts (lay_ok _ hci) (fty _) (fty_ok _ hci) (nm_ok _ hci) hown hK hH.2.1 (wo_D (z := z)) hSS q hwe (cls_ok _ hci) _ hk (hts _ (fldT_ok _ hw)) (fun y hy => by rw [fT_1 _ hci _ hk] at hy; exact hy) (by rw [hfin, hin]; rfl) (v := vt z b (vI x0)) (fty_ok _ hci _ hk) (narrow_bool hty2 h01) (fits_bool hty2 h01) (by rw [List.length_map, List.length_range]; exact hk) hd (fun H1 locs1 hP1 hD1 hS1 => W.hsz (fun hz => ?_))
    have h3 := ih _ _ _ _ H1 locs1 lsR h hL (okt (okt hst)) (HRm hs0 (by exact hg0) (by exact hz) hS1 (by rw [hwo]; exact hP1) (gd_sI hH.2.2 (Nat.succ_ne_zero q) (okh hst))) hS1 hg0 hl0; exact h3
  · skip
    by_cases hf1 : fin = 1
    · refine va_putF (D := D) (cl := clsL) hx hb hts (lay_ok _ hci) (fty _) (fty_ok _ hci) (nm_ok _ hci) hown hK hH.2.1 (wo_D (z := z)) hSS q hwe (cls_ok _ hci) _ hk (hts _ (fldT_ok _ hw)) (fun y hy => by rw [fT_1 _ hci _ hk] at hy; exact hy) (by rw [hfin, hf1]; rfl) (hmn hin) hdc (v := vt z b (vI x0)) (fty_ok _ hci _ hk) (narrow_bool hty2 h01) (fits_bool hty2 h01) (by rw [List.length_map, List.length_range]; exact hk) hd (fun H1 locs1 hP1 hD1 hS1 => W.hsz (fun hz => ?_))
      have h3 := ih _ _ _ _ H1 locs1 lsR h hL (okt (okt hst)) (HRm hs0 (by exact hg0) (by exact hz) hS1 (by rw [hwo]; exact hP1) (gd_sI hH.2.2 (Nat.succ_ne_zero q) (okh hst))) hS1 hg0 hl0; exact h3
    · refine va_put (D := D) (cl := clsL) hx hb hts (lay_ok _ hci) (fty _) (fty_ok _ hci) (nm_ok _ hci) hown hK hH.2.1 (wo_D (z := z)) hSS q hwe (cls_ok _ hci) _ hk (hts _ (fldT_ok _ hw)) (fun y hy => by rw [fT_1 _ hci _ hk] at hy; exact hy) (by rw [hfin]; simpa using hf1) (v := vt z b (vI x0)) (fty_ok _ hci _ hk) (narrow_bool hty2 h01) (fits_bool hty2 h01) (by rw [List.length_map, List.length_range]; exact hk) hd (fun H1 locs1 hP1 hD1 hS1 => W.hsz (fun hz => ?_))
      have h3 := ih _ _ _ _ H1 locs1 lsR h hL (okt (okt hst)) (HRm hs0 (by exact hg0) (by exact hz) hS1 (by rw [hwo]; exact hP1) (gd_sI hH.2.2 (Nat.succ_ne_zero q) (okh hst))) hS1 hg0 hl0; exact h3
set_option maxHeartbeats 4000000 in
set_option maxRecDepth 100000 in
theorem bd_53 {a0 : Nat} {ci : Nat} {k : Nat} {fin : Nat} {vw : Int} (hC : Ctx p R s m args meth c z b L xs D dA j) {N : Nat} (hS : ∀ k, k < N → SimAt l z b L xs D dA k) {v : Option mv_T} {τ : ms_T} {g0 l0 : Nat} {Z : State → Prop} (hs0 : s.heap.size = z + g0) (hgR : gn τ - g0 ≤ R.cells ∧ gl τ - l0 ≤ R.slots)
    (hZ : ∀ (pc : Nat) (H : Heap) (locs : List Loc) (lsR : Array Slot), retOK j pc v → HR z b L xs D dA τ H → va_S (fun q => z ≤ q) s.heap H locs → W p l e R s m args below meth c H locs (gn τ - g0) (gl τ - l0) Z (F0 m pc lsR (v.toList.map (vt z b))))
    {n : Nat} (hnN : n + 1 ≤ N) {pc : Nat} {ls : ml_T} {st : List mv_T} {σ : ms_T} {H : Heap} {locs : List Loc} {lsR : Array Slot} (hlew : gn σ ≤ gn τ ∧ gl σ ≤ gl τ) (hL : LR z b (mxl j) ls lsR) (hst : ∀ a ∈ st, inV a) (hH : HR z b L xs D dA σ H) (hSS : va_S (fun q => z ≤ q) s.heap H locs) (hg0 : g0 ≤ gn σ) (hl0 : l0 ≤ gl σ)
    (ih : ∀ (pc : Nat) (ls : ml_T) (st : List mv_T) (σ : ms_T) (H : Heap) (locs : List Loc) (lsR : Array Slot), Wm n j pc ls st σ (fun v' τ' => v' = v ∧ τ' = τ) → LR z b (mxl j) ls lsR → (∀ a ∈ st, inV a) → HR z b L xs D dA σ H → va_S (fun q => z ≤ q) s.heap H locs → g0 ≤ gn σ → l0 ≤ gl σ →
      W p l e R s m args below meth c H locs (gn σ - g0) (gl σ - l0) Z (F0 m pc lsR (st.map (vt z b))))
    (ck : ckE j pc (.putfield a0, [ci, k, 0, fin], vw) = true) (h : wpi pc (.putfield a0, [ci, k, 0, fin], vw) (mrt j) ls st σ (fun pc' ls' st' σ' => Wm n j pc' ls' st' σ' (fun v' τ' => v' = v ∧ τ' = τ)) (fun j' as σ' k => Wm n j' 0 (pad (mxl j') as) [] σ' k) (fun v' τ' => v' = v ∧ τ' = τ)) : W p l e R s m args below meth c H locs (gn σ - g0) (gl σ - l0) Z (F0 m pc lsR (st.map (vt z b))) := by
  obtain ⟨hx, hb, hml, hret, hlocks, hown, hts, hmn, hK, hnw, hAO, hRF, hRL, hX, hbz, hzs, hj, hL25⟩ := hC
  have hbs : b < s.heap.size := by omega
  have hbA : ¬ (fun q : Nat => z ≤ q) b := by show ¬ z ≤ b; omega
  unfold wpi at h
  dsimp only at h
  simp only [ckE, dq, dqa, Bool.and_eq_true, Bool.or_eq_true, decide_eq_true_eq, beq_iff_eq, Nat.blt_eq, Nat.ble_eq] at ck
  obtain ⟨hd, hf, hci, hk, hty, hfin, hin⟩ := ck
  obtain ⟨w, hw⟩ := hasF_of hf
  obtain ⟨x0, r0, e0, g0⟩ := pI_inv h
  clear h
  subst e0
  have h := g0
  clear g0
  obtain ⟨x1, r1, e1, g1⟩ := pR_inv h
  clear h
  subst e1
  have h := g1
  clear g1
  obtain ⟨cc, e9, g9⟩ := isS_inv h
  clear h
  subst e9
  obtain ⟨hgs, h⟩ := g9
  obtain ⟨q, rfl, hq⟩ := gd_in hH.2.2 (c := cc) (by rw [hgs]; show _ ≠ _; omega) (by rw [hgs]; show _ ≠ _; omega)
  have hwe := wo_get (z := z) (b := b) (dA := dA) hq
  rw [wnt_obj hgs hci] at hwe
  have hty2 := fkd_ty0 hty
  have hwo : wo z b dA (sI σ (q + 1) _ x0) = (wo z b dA σ).set q (z + q, .inr (_, ((List.range (nfl _)).map (fvl z b σ _ (q + 1))).set _ (vt z b (vI x0)))) := wo_put rfl (fun c hc => wnt_same rfl (fun k => by rw [gi_sI, if_neg (fun y => hc y.1)]) (fun k => rfl)) (by rw [wnt_obj (c := q + 1) (ci := _) (by exact hgs) hci]; congr 2; exact map_set (fun i hi => fvl_ne (by rw [gi_sI, if_neg (fun y => hi y.2)]) rfl) (by unfold fvl isrf; rw [hty]; show Value.int (Int32.ofInt (gi _ _ _)) = _; rw [gi_sI, if_pos ⟨rfl, rfl⟩]; rfl))
  rcases hin with hin | ⟨hin, hdc⟩
  · refine va_put (D := D) (cl := clsL) hx hb hts (lay_ok _ hci) (fty _) (fty_ok _ hci) (nm_ok _ hci) hown hK hH.2.1 (wo_D (z := z)) hSS q hwe (cls_ok _ hci) _ hk (hts _ (fldT_ok _ hw)) (fun y hy => by rw [fT_1 _ hci _ hk] at hy; exact hy) (by rw [hfin, hin]; rfl) (v := vt z b (vI x0)) (fty_ok _ hci _ hk) (narrow_int hty2) (fits_int hty2) (by rw [List.length_map, List.length_range]; exact hk) hd (fun H1 locs1 hP1 hD1 hS1 => W.hsz (fun hz => ?_))
    have h3 := ih _ _ _ _ H1 locs1 lsR h hL (okt (okt hst)) (HRm hs0 (by exact hg0) (by exact hz) hS1 (by rw [hwo]; exact hP1) (gd_sI hH.2.2 (Nat.succ_ne_zero q) (okh hst))) hS1 hg0 hl0; exact h3
  · skip
    by_cases hf1 : fin = 1
    · refine va_putF (D := D) (cl := clsL) hx hb hts (lay_ok _ hci) (fty _) (fty_ok _ hci) (nm_ok _ hci) hown hK hH.2.1 (wo_D (z := z)) hSS q hwe (cls_ok _ hci) _ hk (hts _ (fldT_ok _ hw)) (fun y hy => by rw [fT_1 _ hci _ hk] at hy; exact hy) (by rw [hfin, hf1]; rfl) (hmn hin) hdc (v := vt z b (vI x0)) (fty_ok _ hci _ hk) (narrow_int hty2) (fits_int hty2) (by rw [List.length_map, List.length_range]; exact hk) hd (fun H1 locs1 hP1 hD1 hS1 => W.hsz (fun hz => ?_))
      have h3 := ih _ _ _ _ H1 locs1 lsR h hL (okt (okt hst)) (HRm hs0 (by exact hg0) (by exact hz) hS1 (by rw [hwo]; exact hP1) (gd_sI hH.2.2 (Nat.succ_ne_zero q) (okh hst))) hS1 hg0 hl0; exact h3
    · refine va_put (D := D) (cl := clsL) hx hb hts (lay_ok _ hci) (fty _) (fty_ok _ hci) (nm_ok _ hci) hown hK hH.2.1 (wo_D (z := z)) hSS q hwe (cls_ok _ hci) _ hk (hts _ (fldT_ok _ hw)) (fun y hy => by rw [fT_1 _ hci _ hk] at hy; exact hy) (by rw [hfin]; simpa using hf1) (v := vt z b (vI x0)) (fty_ok _ hci _ hk) (narrow_int hty2) (fits_int hty2) (by rw [List.length_map, List.length_range]; exact hk) hd (fun H1 locs1 hP1 hD1 hS1 => W.hsz (fun hz => ?_))
      have h3 := ih _ _ _ _ H1 locs1 lsR h hL (okt (okt hst)) (HRm hs0 (by exact hg0) (by exact hz) hS1 (by rw [hwo]; exact hP1) (gd_sI hH.2.2 (Nat.succ_ne_zero q) (okh hst))) hS1 hg0 hl0; exact h3
set_option maxHeartbeats 4000000 in
set_option maxRecDepth 100000 in
theorem bd_54 {kd : Nat} {vw : Int} (hC : Ctx p R s m args meth c z b L xs D dA j) {N : Nat} (hS : ∀ k, k < N → SimAt l z b L xs D dA k) {v : Option mv_T} {τ : ms_T} {g0 l0 : Nat} {Z : State → Prop} (hs0 : s.heap.size = z + g0) (hgR : gn τ - g0 ≤ R.cells ∧ gl τ - l0 ≤ R.slots)
    (hZ : ∀ (pc : Nat) (H : Heap) (locs : List Loc) (lsR : Array Slot), retOK j pc v → HR z b L xs D dA τ H → va_S (fun q => z ≤ q) s.heap H locs → W p l e R s m args below meth c H locs (gn τ - g0) (gl τ - l0) Z (F0 m pc lsR (v.toList.map (vt z b))))
    {n : Nat} (hnN : n + 1 ≤ N) {pc : Nat} {ls : ml_T} {st : List mv_T} {σ : ms_T} {H : Heap} {locs : List Loc} {lsR : Array Slot} (hlew : gn σ ≤ gn τ ∧ gl σ ≤ gl τ) (hL : LR z b (mxl j) ls lsR) (hst : ∀ a ∈ st, inV a) (hH : HR z b L xs D dA σ H) (hSS : va_S (fun q => z ≤ q) s.heap H locs) (hg0 : g0 ≤ gn σ) (hl0 : l0 ≤ gl σ)
    (ih : ∀ (pc : Nat) (ls : ml_T) (st : List mv_T) (σ : ms_T) (H : Heap) (locs : List Loc) (lsR : Array Slot), Wm n j pc ls st σ (fun v' τ' => v' = v ∧ τ' = τ) → LR z b (mxl j) ls lsR → (∀ a ∈ st, inV a) → HR z b L xs D dA σ H → va_S (fun q => z ≤ q) s.heap H locs → g0 ≤ gn σ → l0 ≤ gl σ →
      W p l e R s m args below meth c H locs (gn σ - g0) (gl σ - l0) Z (F0 m pc lsR (st.map (vt z b))))
    (ck : ckE j pc (.iaload, [kd], vw) = true) (h : wpi pc (.iaload, [kd], vw) (mrt j) ls st σ (fun pc' ls' st' σ' => Wm n j pc' ls' st' σ' (fun v' τ' => v' = v ∧ τ' = τ)) (fun j' as σ' k => Wm n j' 0 (pad (mxl j') as) [] σ' k) (fun v' τ' => v' = v ∧ τ' = τ)) : W p l e R s m args below meth c H locs (gn σ - g0) (gl σ - l0) Z (F0 m pc lsR (st.map (vt z b))) := by
  obtain ⟨hx, hb, hml, hret, hlocks, hown, hts, hmn, hK, hnw, hAO, hRF, hRL, hX, hbz, hzs, hj, hL25⟩ := hC
  have hbs : b < s.heap.size := by omega
  have hbA : ¬ (fun q : Nat => z ≤ q) b := by show ¬ z ≤ b; omega
  unfold wpi at h
  dsimp only at h
  simp only [ckE, dq, dqa, Bool.and_eq_true, Bool.or_eq_true, decide_eq_true_eq, beq_iff_eq, Nat.blt_eq, Nat.ble_eq] at ck
  obtain ⟨hd, hkd⟩ := ck
  obtain ⟨x0, r0, e0, g0⟩ := pI_inv h
  clear h
  subst e0
  have h := g0
  clear g0
  obtain ⟨x1, r1, e1, g1⟩ := pR_inv h
  clear h
  subst e1
  have h := g1
  clear g1
  have h0 : rg x0 := okh hst
  obtain ⟨cc, e9, g9⟩ := isS_inv h
  clear h
  subst e9
  obtain ⟨hgs, i1, i2, h⟩ := g9
  rcases hkd with hkd | hkd
  · subst hkd
    obtain ⟨q, rfl, hq⟩ := gd_in hH.2.2 (c := cc) (by rw [hgs]; show _ ≠ _; omega) (by rw [hgs]; show _ ≠ _; omega)
    have hwe := wo_get (z := z) (b := b) (dA := dA) hq
    rw [wnt_int hgs (Or.inl rfl)] at hwe
    refine va_iald hx hb hK hH.2.1 q 0 hwe rfl (i32_vin h0 i1 i2) hd ?_
    rw [i32_clamp h0]
    exact ih _ _ (vI _ :: r1) _ _ _ _ h hL (okc (hH.2.2.1 _ _) (okt (okt hst))) hH hSS hg0 hl0
  · subst hkd
    have hc0 : cc = 0 := by
      rcases Nat.eq_zero_or_pos cc with q | q
      · exact q
      · rcases Nat.lt_or_ge (gn σ) cc with q2 | q2
        · have := hH.2.2.2.2.2.1 cc q2; omega
        · have h7 := hH.2.2.2.2.2.2 cc q q2; unfold okk at h7; omega
    subst hc0
    have hz0 := hH.2.2.2.1
    rw [hz0] at i2
    refine va_sld hx hb hX hbs hbA hSS (i32_vin h0 i1 i2) hd ?_
    rw [i32_clamp h0]
    have e8 := hH.2.2.2.2.1 x0.toNat (by show x0.toNat < L; have i3 : x0 < ((49, L) : Nat × Nat).2 := i2; omega)
    have e9 : xs x0.toNat = Int32.ofInt (gi σ 0 x0.toNat) := by rw [e8, i32_self]
    rw [e9]
    exact ih _ _ (vI _ :: r1) _ _ _ _ h hL (okc (hH.2.2.1 _ _) (okt (okt hst))) hH hSS hg0 hl0
set_option maxHeartbeats 4000000 in
set_option maxRecDepth 100000 in
theorem bd_55 {kd : Nat} {vw : Int} (hC : Ctx p R s m args meth c z b L xs D dA j) {N : Nat} (hS : ∀ k, k < N → SimAt l z b L xs D dA k) {v : Option mv_T} {τ : ms_T} {g0 l0 : Nat} {Z : State → Prop} (hs0 : s.heap.size = z + g0) (hgR : gn τ - g0 ≤ R.cells ∧ gl τ - l0 ≤ R.slots)
    (hZ : ∀ (pc : Nat) (H : Heap) (locs : List Loc) (lsR : Array Slot), retOK j pc v → HR z b L xs D dA τ H → va_S (fun q => z ≤ q) s.heap H locs → W p l e R s m args below meth c H locs (gn τ - g0) (gl τ - l0) Z (F0 m pc lsR (v.toList.map (vt z b))))
    {n : Nat} (hnN : n + 1 ≤ N) {pc : Nat} {ls : ml_T} {st : List mv_T} {σ : ms_T} {H : Heap} {locs : List Loc} {lsR : Array Slot} (hlew : gn σ ≤ gn τ ∧ gl σ ≤ gl τ) (hL : LR z b (mxl j) ls lsR) (hst : ∀ a ∈ st, inV a) (hH : HR z b L xs D dA σ H) (hSS : va_S (fun q => z ≤ q) s.heap H locs) (hg0 : g0 ≤ gn σ) (hl0 : l0 ≤ gl σ)
    (ih : ∀ (pc : Nat) (ls : ml_T) (st : List mv_T) (σ : ms_T) (H : Heap) (locs : List Loc) (lsR : Array Slot), Wm n j pc ls st σ (fun v' τ' => v' = v ∧ τ' = τ) → LR z b (mxl j) ls lsR → (∀ a ∈ st, inV a) → HR z b L xs D dA σ H → va_S (fun q => z ≤ q) s.heap H locs → g0 ≤ gn σ → l0 ≤ gl σ →
      W p l e R s m args below meth c H locs (gn σ - g0) (gl σ - l0) Z (F0 m pc lsR (st.map (vt z b))))
    (ck : ckE j pc (.caload, [kd], vw) = true) (h : wpi pc (.caload, [kd], vw) (mrt j) ls st σ (fun pc' ls' st' σ' => Wm n j pc' ls' st' σ' (fun v' τ' => v' = v ∧ τ' = τ)) (fun j' as σ' k => Wm n j' 0 (pad (mxl j') as) [] σ' k) (fun v' τ' => v' = v ∧ τ' = τ)) : W p l e R s m args below meth c H locs (gn σ - g0) (gl σ - l0) Z (F0 m pc lsR (st.map (vt z b))) := by
  obtain ⟨hx, hb, hml, hret, hlocks, hown, hts, hmn, hK, hnw, hAO, hRF, hRL, hX, hbz, hzs, hj, hL25⟩ := hC
  have hbs : b < s.heap.size := by omega
  have hbA : ¬ (fun q : Nat => z ≤ q) b := by show ¬ z ≤ b; omega
  unfold wpi at h
  dsimp only at h
  simp only [ckE, dq, dqa, Bool.and_eq_true, Bool.or_eq_true, decide_eq_true_eq, beq_iff_eq, Nat.blt_eq, Nat.ble_eq] at ck
  obtain ⟨hd, hkd⟩ := ck
  obtain ⟨x0, r0, e0, g0⟩ := pI_inv h
  clear h
  subst e0
  have h := g0
  clear g0
  obtain ⟨x1, r1, e1, g1⟩ := pR_inv h
  clear h
  subst e1
  have h := g1
  clear g1
  have h0 : rg x0 := okh hst
  obtain ⟨cc, e9, g9⟩ := isS_inv h
  clear h
  subst e9
  obtain ⟨hgs, i1, i2, h⟩ := g9
  subst hkd
  obtain ⟨q, rfl, hq⟩ := gd_in hH.2.2 (c := cc) (by rw [hgs]; show _ ≠ _; omega) (by rw [hgs]; show _ ≠ _; omega)
  have hwe := wo_get (z := z) (b := b) (dA := dA) hq
  rw [wnt_int hgs (Or.inr rfl)] at hwe
  refine va_cald hx hb hK hH.2.1 q 1 hwe rfl (i32_vin h0 i1 i2) hd ?_
  rw [i32_clamp h0]
  exact ih _ _ (vI _ :: r1) _ _ _ _ h hL (okc (hH.2.2.1 _ _) (okt (okt hst))) hH hSS hg0 hl0
set_option maxHeartbeats 4000000 in
set_option maxRecDepth 100000 in
theorem bd_56 {lw : List Nat} {vw : Int} (hC : Ctx p R s m args meth c z b L xs D dA j) {N : Nat} (hS : ∀ k, k < N → SimAt l z b L xs D dA k) {v : Option mv_T} {τ : ms_T} {g0 l0 : Nat} {Z : State → Prop} (hs0 : s.heap.size = z + g0) (hgR : gn τ - g0 ≤ R.cells ∧ gl τ - l0 ≤ R.slots)
    (hZ : ∀ (pc : Nat) (H : Heap) (locs : List Loc) (lsR : Array Slot), retOK j pc v → HR z b L xs D dA τ H → va_S (fun q => z ≤ q) s.heap H locs → W p l e R s m args below meth c H locs (gn τ - g0) (gl τ - l0) Z (F0 m pc lsR (v.toList.map (vt z b))))
    {n : Nat} (hnN : n + 1 ≤ N) {pc : Nat} {ls : ml_T} {st : List mv_T} {σ : ms_T} {H : Heap} {locs : List Loc} {lsR : Array Slot} (hlew : gn σ ≤ gn τ ∧ gl σ ≤ gl τ) (hL : LR z b (mxl j) ls lsR) (hst : ∀ a ∈ st, inV a) (hH : HR z b L xs D dA σ H) (hSS : va_S (fun q => z ≤ q) s.heap H locs) (hg0 : g0 ≤ gn σ) (hl0 : l0 ≤ gl σ)
    (ih : ∀ (pc : Nat) (ls : ml_T) (st : List mv_T) (σ : ms_T) (H : Heap) (locs : List Loc) (lsR : Array Slot), Wm n j pc ls st σ (fun v' τ' => v' = v ∧ τ' = τ) → LR z b (mxl j) ls lsR → (∀ a ∈ st, inV a) → HR z b L xs D dA σ H → va_S (fun q => z ≤ q) s.heap H locs → g0 ≤ gn σ → l0 ≤ gl σ →
      W p l e R s m args below meth c H locs (gn σ - g0) (gl σ - l0) Z (F0 m pc lsR (st.map (vt z b))))
    (ck : ckE j pc (.aaload, lw, vw) = true) (h : wpi pc (.aaload, lw, vw) (mrt j) ls st σ (fun pc' ls' st' σ' => Wm n j pc' ls' st' σ' (fun v' τ' => v' = v ∧ τ' = τ)) (fun j' as σ' k => Wm n j' 0 (pad (mxl j') as) [] σ' k) (fun v' τ' => v' = v ∧ τ' = τ)) : W p l e R s m args below meth c H locs (gn σ - g0) (gl σ - l0) Z (F0 m pc lsR (st.map (vt z b))) := by
  obtain ⟨hx, hb, hml, hret, hlocks, hown, hts, hmn, hK, hnw, hAO, hRF, hRL, hX, hbz, hzs, hj, hL25⟩ := hC
  have hbs : b < s.heap.size := by omega
  have hbA : ¬ (fun q : Nat => z ≤ q) b := by show ¬ z ≤ b; omega
  unfold wpi at h
  dsimp only at h
  simp only [ckE, dq, dqa, Bool.and_eq_true, Bool.or_eq_true, decide_eq_true_eq, beq_iff_eq, Nat.blt_eq, Nat.ble_eq] at ck
  obtain ⟨x0, r0, e0, g0⟩ := pI_inv h
  clear h
  subst e0
  have h := g0
  clear g0
  obtain ⟨x1, r1, e1, g1⟩ := pR_inv h
  clear h
  subst e1
  have h := g1
  clear g1
  have h0 : rg x0 := okh hst
  obtain ⟨cc, e9, g9⟩ := isS_inv h
  clear h
  subst e9
  obtain ⟨k1, k2, i1, i2, h⟩ := g9
  obtain ⟨q, rfl, hq⟩ := gd_in hH.2.2 (c := cc) (by omega) (by omega)
  have hwe := wo_get (z := z) (b := b) (dA := dA) hq
  rw [wnt_ref rfl k1] at hwe
  have hkk := hH.2.2.2.2.2.2 (q + 1) (by omega) (by omega)
  have hk3 : (gs σ (q + 1)).1 = 62 ∨ (gs σ (q + 1)).1 = 64 ∨ (gs σ (q + 1)).1 = 67 := by unfold okk at hkk; omega
  rcases hk3 with hk3 | hk3 | hk3
  · refine va_aldq hx hb hK hH.2.1 q 2 (C := RX2) hwe (by rw [hk3]; rfl) (i32_vin h0 i1 i2) ck ?_
    rw [i32_clamp h0]
    exact ih _ _ (vR _ :: r1) _ _ _ _ h hL (okc trivial (okt (okt hst))) hH hSS hg0 hl0
  · refine va_aldq hx hb hK hH.2.1 q 3 (C := RX4) hwe (by rw [hk3]; rfl) (i32_vin h0 i1 i2) ck ?_
    rw [i32_clamp h0]
    exact ih _ _ (vR _ :: r1) _ _ _ _ h hL (okc trivial (okt (okt hst))) hH hSS hg0 hl0
  · refine va_aldq hx hb hK hH.2.1 q 4 (C := RX7) hwe (by rw [hk3]; rfl) (i32_vin h0 i1 i2) ck ?_
    rw [i32_clamp h0]
    exact ih _ _ (vR _ :: r1) _ _ _ _ h hL (okc trivial (okt (okt hst))) hH hSS hg0 hl0
set_option maxHeartbeats 4000000 in
set_option maxRecDepth 100000 in
theorem bd_57 {kd : Nat} {vw : Int} (hC : Ctx p R s m args meth c z b L xs D dA j) {N : Nat} (hS : ∀ k, k < N → SimAt l z b L xs D dA k) {v : Option mv_T} {τ : ms_T} {g0 l0 : Nat} {Z : State → Prop} (hs0 : s.heap.size = z + g0) (hgR : gn τ - g0 ≤ R.cells ∧ gl τ - l0 ≤ R.slots)
    (hZ : ∀ (pc : Nat) (H : Heap) (locs : List Loc) (lsR : Array Slot), retOK j pc v → HR z b L xs D dA τ H → va_S (fun q => z ≤ q) s.heap H locs → W p l e R s m args below meth c H locs (gn τ - g0) (gl τ - l0) Z (F0 m pc lsR (v.toList.map (vt z b))))
    {n : Nat} (hnN : n + 1 ≤ N) {pc : Nat} {ls : ml_T} {st : List mv_T} {σ : ms_T} {H : Heap} {locs : List Loc} {lsR : Array Slot} (hlew : gn σ ≤ gn τ ∧ gl σ ≤ gl τ) (hL : LR z b (mxl j) ls lsR) (hst : ∀ a ∈ st, inV a) (hH : HR z b L xs D dA σ H) (hSS : va_S (fun q => z ≤ q) s.heap H locs) (hg0 : g0 ≤ gn σ) (hl0 : l0 ≤ gl σ)
    (ih : ∀ (pc : Nat) (ls : ml_T) (st : List mv_T) (σ : ms_T) (H : Heap) (locs : List Loc) (lsR : Array Slot), Wm n j pc ls st σ (fun v' τ' => v' = v ∧ τ' = τ) → LR z b (mxl j) ls lsR → (∀ a ∈ st, inV a) → HR z b L xs D dA σ H → va_S (fun q => z ≤ q) s.heap H locs → g0 ≤ gn σ → l0 ≤ gl σ →
      W p l e R s m args below meth c H locs (gn σ - g0) (gl σ - l0) Z (F0 m pc lsR (st.map (vt z b))))
    (ck : ckE j pc (.iastore, [kd], vw) = true) (h : wpi pc (.iastore, [kd], vw) (mrt j) ls st σ (fun pc' ls' st' σ' => Wm n j pc' ls' st' σ' (fun v' τ' => v' = v ∧ τ' = τ)) (fun j' as σ' k => Wm n j' 0 (pad (mxl j') as) [] σ' k) (fun v' τ' => v' = v ∧ τ' = τ)) : W p l e R s m args below meth c H locs (gn σ - g0) (gl σ - l0) Z (F0 m pc lsR (st.map (vt z b))) := by
  obtain ⟨hx, hb, hml, hret, hlocks, hown, hts, hmn, hK, hnw, hAO, hRF, hRL, hX, hbz, hzs, hj, hL25⟩ := hC
  have hbs : b < s.heap.size := by omega
  have hbA : ¬ (fun q : Nat => z ≤ q) b := by show ¬ z ≤ b; omega
  unfold wpi at h
  dsimp only at h
  simp only [ckE, dq, dqa, Bool.and_eq_true, Bool.or_eq_true, decide_eq_true_eq, beq_iff_eq, Nat.blt_eq, Nat.ble_eq] at ck
  obtain ⟨hd, hkd⟩ := ck
  obtain ⟨x0, r0, e0, g0⟩ := pI_inv h
  clear h
  subst e0
  have h := g0
  clear g0
  obtain ⟨x1, r1, e1, g1⟩ := pI_inv h
  clear h
  subst e1
  have h := g1
  clear g1
  obtain ⟨x2, r2, e2, g2⟩ := pR_inv h
  clear h
  subst e2
  have h := g2
  clear g2
  have h0 : rg x0 := okh hst
  have h1 : rg x1 := okh (okt hst)
  obtain ⟨cc, e9, g9⟩ := isS_inv h
  clear h
  subst e9
  obtain ⟨hgs, i1, i2, h⟩ := g9
  subst hkd
  obtain ⟨q, rfl, hq⟩ := gd_in hH.2.2 (c := cc) (by rw [hgs]; show _ ≠ _; omega) (by rw [hgs]; show _ ≠ _; omega)
  have hwe := wo_get (z := z) (b := b) (dA := dA) hq
  rw [wnt_int hgs (Or.inl rfl)] at hwe
  have hwo : wo z b dA (sI σ (q + 1) x1.toNat x0) = (wo z b dA σ).set q (z + q, .inl (dA 50, (gs σ (q + 1)).2, .inl (upd (fun j => Int32.ofInt (gi σ (q + 1) j)) (Int32.ofInt x1).toNatClampNeg (Int32.ofInt x0)))) := wo_put rfl (fun c hc => wnt_same rfl (fun k => by rw [gi_sI, if_neg (fun y => hc y.1)]) (fun k => rfl)) (by rw [wnt_int (c := q + 1) (by exact hgs) (Or.inl rfl), i32_clamp h1]; refine congrArg (fun f : Nat → Int32 => (Sum.inl (dA 50, (gs σ (q + 1)).2, Sum.inl f) : va_E)) ?_; funext k; show Int32.ofInt (gi _ _ _) = upd _ _ _ _; rw [gi_sI]; unfold upd; by_cases e : k = x1.toNat <;> simp [e])
  refine va_iast hx hb hK hH.2.1 (wo_D (z := z)) hSS q 0 hwe rfl (i32_vin h1 i1 i2) hd (fun H1 locs1 hP1 hD1 hS1 => W.hsz (fun hz => ?_))
  have h3 := ih _ _ _ _ H1 locs1 lsR h hL (okt (okt (okt hst))) (HRm hs0 (by exact hg0) (by exact hz) hS1 (by rw [hwo]; exact hP1) (gd_sI hH.2.2 (Nat.succ_ne_zero q) h0)) hS1 hg0 hl0
  exact h3
set_option maxHeartbeats 4000000 in
set_option maxRecDepth 100000 in
theorem bd_58 {kd : Nat} {vw : Int} (hC : Ctx p R s m args meth c z b L xs D dA j) {N : Nat} (hS : ∀ k, k < N → SimAt l z b L xs D dA k) {v : Option mv_T} {τ : ms_T} {g0 l0 : Nat} {Z : State → Prop} (hs0 : s.heap.size = z + g0) (hgR : gn τ - g0 ≤ R.cells ∧ gl τ - l0 ≤ R.slots)
    (hZ : ∀ (pc : Nat) (H : Heap) (locs : List Loc) (lsR : Array Slot), retOK j pc v → HR z b L xs D dA τ H → va_S (fun q => z ≤ q) s.heap H locs → W p l e R s m args below meth c H locs (gn τ - g0) (gl τ - l0) Z (F0 m pc lsR (v.toList.map (vt z b))))
    {n : Nat} (hnN : n + 1 ≤ N) {pc : Nat} {ls : ml_T} {st : List mv_T} {σ : ms_T} {H : Heap} {locs : List Loc} {lsR : Array Slot} (hlew : gn σ ≤ gn τ ∧ gl σ ≤ gl τ) (hL : LR z b (mxl j) ls lsR) (hst : ∀ a ∈ st, inV a) (hH : HR z b L xs D dA σ H) (hSS : va_S (fun q => z ≤ q) s.heap H locs) (hg0 : g0 ≤ gn σ) (hl0 : l0 ≤ gl σ)
    (ih : ∀ (pc : Nat) (ls : ml_T) (st : List mv_T) (σ : ms_T) (H : Heap) (locs : List Loc) (lsR : Array Slot), Wm n j pc ls st σ (fun v' τ' => v' = v ∧ τ' = τ) → LR z b (mxl j) ls lsR → (∀ a ∈ st, inV a) → HR z b L xs D dA σ H → va_S (fun q => z ≤ q) s.heap H locs → g0 ≤ gn σ → l0 ≤ gl σ →
      W p l e R s m args below meth c H locs (gn σ - g0) (gl σ - l0) Z (F0 m pc lsR (st.map (vt z b))))
    (ck : ckE j pc (.castore, [kd], vw) = true) (h : wpi pc (.castore, [kd], vw) (mrt j) ls st σ (fun pc' ls' st' σ' => Wm n j pc' ls' st' σ' (fun v' τ' => v' = v ∧ τ' = τ)) (fun j' as σ' k => Wm n j' 0 (pad (mxl j') as) [] σ' k) (fun v' τ' => v' = v ∧ τ' = τ)) : W p l e R s m args below meth c H locs (gn σ - g0) (gl σ - l0) Z (F0 m pc lsR (st.map (vt z b))) := by
  obtain ⟨hx, hb, hml, hret, hlocks, hown, hts, hmn, hK, hnw, hAO, hRF, hRL, hX, hbz, hzs, hj, hL25⟩ := hC
  have hbs : b < s.heap.size := by omega
  have hbA : ¬ (fun q : Nat => z ≤ q) b := by show ¬ z ≤ b; omega
  unfold wpi at h
  dsimp only at h
  simp only [ckE, dq, dqa, Bool.and_eq_true, Bool.or_eq_true, decide_eq_true_eq, beq_iff_eq, Nat.blt_eq, Nat.ble_eq] at ck
  obtain ⟨hd, hkd⟩ := ck
  obtain ⟨x0, r0, e0, g0⟩ := pI_inv h
  clear h
  subst e0
  have h := g0
  clear g0
  obtain ⟨x1, r1, e1, g1⟩ := pI_inv h
  clear h
  subst e1
  have h := g1
  clear g1
  obtain ⟨x2, r2, e2, g2⟩ := pR_inv h
  clear h
  subst e2
  have h := g2
  clear g2
  have h0 : rg x0 := okh hst
  have h1 : rg x1 := okh (okt hst)
  obtain ⟨cc, e9, g9⟩ := isS_inv h
  clear h
  subst e9
  obtain ⟨hgs, i1, i2, c1, c2, h⟩ := g9
  subst hkd
  obtain ⟨q, rfl, hq⟩ := gd_in hH.2.2 (c := cc) (by rw [hgs]; show _ ≠ _; omega) (by rw [hgs]; show _ ≠ _; omega)
  have hwe := wo_get (z := z) (b := b) (dA := dA) hq
  rw [wnt_int hgs (Or.inr rfl)] at hwe
  have hwo : wo z b dA (sI σ (q + 1) x1.toNat x0) = (wo z b dA σ).set q (z + q, .inl (dA 51, (gs σ (q + 1)).2, .inl (upd (fun j => Int32.ofInt (gi σ (q + 1) j)) (Int32.ofInt x1).toNatClampNeg (vp_nar .char (Int32.ofInt x0))))) := wo_put rfl (fun c hc => wnt_same rfl (fun k => by rw [gi_sI, if_neg (fun y => hc y.1)]) (fun k => rfl)) (by rw [wnt_int (c := q + 1) (by exact hgs) (Or.inr rfl), i32_clamp h1, nar_char c1 c2]; refine congrArg (fun f : Nat → Int32 => (Sum.inl (dA 51, (gs σ (q + 1)).2, Sum.inl f) : va_E)) ?_; funext k; show Int32.ofInt (gi _ _ _) = upd _ _ _ _; rw [gi_sI]; unfold upd; by_cases e : k = x1.toNat <;> simp [e])
  refine va_cast hx hb hK hH.2.1 (wo_D (z := z)) hSS q 1 hwe rfl (i32_vin h1 i1 i2) hd (fun H1 locs1 hP1 hD1 hS1 => W.hsz (fun hz => ?_))
  have h3 := ih _ _ _ _ H1 locs1 lsR h hL (okt (okt (okt hst))) (HRm hs0 (by exact hg0) (by exact hz) hS1 (by rw [hwo]; exact hP1) (gd_sI hH.2.2 (Nat.succ_ne_zero q) h0)) hS1 hg0 hl0
  exact h3
set_option maxHeartbeats 4000000 in
set_option maxRecDepth 100000 in
theorem bd_59 {lw : List Nat} {vw : Int} (hC : Ctx p R s m args meth c z b L xs D dA j) {N : Nat} (hS : ∀ k, k < N → SimAt l z b L xs D dA k) {v : Option mv_T} {τ : ms_T} {g0 l0 : Nat} {Z : State → Prop} (hs0 : s.heap.size = z + g0) (hgR : gn τ - g0 ≤ R.cells ∧ gl τ - l0 ≤ R.slots)
    (hZ : ∀ (pc : Nat) (H : Heap) (locs : List Loc) (lsR : Array Slot), retOK j pc v → HR z b L xs D dA τ H → va_S (fun q => z ≤ q) s.heap H locs → W p l e R s m args below meth c H locs (gn τ - g0) (gl τ - l0) Z (F0 m pc lsR (v.toList.map (vt z b))))
    {n : Nat} (hnN : n + 1 ≤ N) {pc : Nat} {ls : ml_T} {st : List mv_T} {σ : ms_T} {H : Heap} {locs : List Loc} {lsR : Array Slot} (hlew : gn σ ≤ gn τ ∧ gl σ ≤ gl τ) (hL : LR z b (mxl j) ls lsR) (hst : ∀ a ∈ st, inV a) (hH : HR z b L xs D dA σ H) (hSS : va_S (fun q => z ≤ q) s.heap H locs) (hg0 : g0 ≤ gn σ) (hl0 : l0 ≤ gl σ)
    (ih : ∀ (pc : Nat) (ls : ml_T) (st : List mv_T) (σ : ms_T) (H : Heap) (locs : List Loc) (lsR : Array Slot), Wm n j pc ls st σ (fun v' τ' => v' = v ∧ τ' = τ) → LR z b (mxl j) ls lsR → (∀ a ∈ st, inV a) → HR z b L xs D dA σ H → va_S (fun q => z ≤ q) s.heap H locs → g0 ≤ gn σ → l0 ≤ gl σ →
      W p l e R s m args below meth c H locs (gn σ - g0) (gl σ - l0) Z (F0 m pc lsR (st.map (vt z b))))
    (ck : ckE j pc (.aastore, lw, vw) = true) (h : wpi pc (.aastore, lw, vw) (mrt j) ls st σ (fun pc' ls' st' σ' => Wm n j pc' ls' st' σ' (fun v' τ' => v' = v ∧ τ' = τ)) (fun j' as σ' k => Wm n j' 0 (pad (mxl j') as) [] σ' k) (fun v' τ' => v' = v ∧ τ' = τ)) : W p l e R s m args below meth c H locs (gn σ - g0) (gl σ - l0) Z (F0 m pc lsR (st.map (vt z b))) := by
  obtain ⟨hx, hb, hml, hret, hlocks, hown, hts, hmn, hK, hnw, hAO, hRF, hRL, hX, hbz, hzs, hj, hL25⟩ := hC
  have hbs : b < s.heap.size := by omega
  have hbA : ¬ (fun q : Nat => z ≤ q) b := by show ¬ z ≤ b; omega
  unfold wpi at h
  dsimp only at h
  simp only [ckE, dq, dqa, Bool.and_eq_true, Bool.or_eq_true, decide_eq_true_eq, beq_iff_eq, Nat.blt_eq, Nat.ble_eq] at ck
  obtain ⟨x0, r0, e0, g0⟩ := pR_inv h
  clear h
  subst e0
  have h := g0
  clear g0
  obtain ⟨x1, r1, e1, g1⟩ := pI_inv h
  clear h
  subst e1
  have h := g1
  clear g1
  obtain ⟨x2, r2, e2, g2⟩ := pR_inv h
  clear h
  subst e2
  have h := g2
  clear g2
  have h1 : rg x1 := okh (okt hst)
  obtain ⟨cc, e9, g9⟩ := isS_inv h
  clear h
  subst e9
  obtain ⟨k1, k2, i1, i2, hv, h⟩ := g9
  obtain ⟨q, rfl, hq⟩ := gd_in hH.2.2 (c := cc) (by omega) (by omega)
  have hwe := wo_get (z := z) (b := b) (dA := dA) hq
  rw [wnt_ref rfl k1] at hwe
  have hkk := hH.2.2.2.2.2.2 (q + 1) (by omega) (by omega)
  have hk3 : (gs σ (q + 1)).1 = 62 ∨ (gs σ (q + 1)).1 = 64 ∨ (gs σ (q + 1)).1 = 67 := by unfold okk at hkk; omega
  obtain ⟨w, e8, w1, w2⟩ := isS_inv hv
  subst e8
  obtain ⟨qw, rfl, hqw⟩ := gd_in hH.2.2 (c := w) (by omega) (by omega)
  have hwv := wo_get (z := z) (b := b) (dA := dA) hqw
  have hgw : gs σ (qw + 1) = ((gs σ (qw + 1)).1, 0) := by rw [← w2]
  have hwl : (gs σ (qw + 1)).1 < 9 := by omega
  rw [wnt_obj hgw hwl] at hwv
  have hwo : wo z b dA (sR σ (q + 1) x1.toNat (some (qw + 1))) = (wo z b dA σ).set q (z + q, .inl (dA (gs σ (q + 1)).1, (gs σ (q + 1)).2, .inr (.inr (.inr (.inr (va_up (fun j => (gr σ (q + 1) j).map (ad z b)) (Int32.ofInt x1).toNatClampNeg (some (z + qw)))))))) := wo_put rfl (fun c hc => wnt_same rfl (fun k => rfl) (fun k => by rw [gr_sR, if_neg (fun y => hc y.1)])) (by rw [wnt_ref (σ := sR σ (q + 1) x1.toNat (some (qw + 1))) (c := q + 1) (kd := (gs σ (q + 1)).1) rfl (by exact k1), i32_clamp h1]; refine congrArg (fun f : Nat → Option Nat => (Sum.inl (dA (gs σ (q + 1)).1, (gs σ (q + 1)).2, Sum.inr (Sum.inr (Sum.inr (Sum.inr f)))) : va_E)) ?_; funext k; show Option.map _ (gr _ _ _) = va_up _ _ _ _; rw [gr_sR]; unfold va_up; by_cases e : k = x1.toNat <;> simp [e, ad])
  rcases hk3 with hk3 | hk3 | hk3
  · refine va_astq hx hb hK hH.2.1 (wo_D (z := z)) hSS q 2 qw (gs σ (qw + 1)).1 (r := (cn (gs σ (qw + 1)).1, fT (gs σ (qw + 1)).1, nfl (gs σ (qw + 1)).1)) hwe (by rw [hk3, show (gs σ (qw + 1)).1 = 2 by omega]; rfl) hwv (cls_ok _ hwl) (i32_vin h1 i1 i2) ck (fun H1 locs1 hP1 hD1 hS1 => W.hsz (fun hz => ?_))
    have h3 := ih _ _ _ _ H1 locs1 lsR h hL (okt (okt (okt hst))) (HRm hs0 (by exact hg0) (by exact hz) hS1 (by rw [hwo]; exact hP1) (gd_sR hH.2.2)) hS1 hg0 hl0; exact h3
  · refine va_astq hx hb hK hH.2.1 (wo_D (z := z)) hSS q 3 qw (gs σ (qw + 1)).1 (r := (cn (gs σ (qw + 1)).1, fT (gs σ (qw + 1)).1, nfl (gs σ (qw + 1)).1)) hwe (by rw [hk3, show (gs σ (qw + 1)).1 = 4 by omega]; rfl) hwv (cls_ok _ hwl) (i32_vin h1 i1 i2) ck (fun H1 locs1 hP1 hD1 hS1 => W.hsz (fun hz => ?_))
    have h3 := ih _ _ _ _ H1 locs1 lsR h hL (okt (okt (okt hst))) (HRm hs0 (by exact hg0) (by exact hz) hS1 (by rw [hwo]; exact hP1) (gd_sR hH.2.2)) hS1 hg0 hl0; exact h3
  · refine va_astq hx hb hK hH.2.1 (wo_D (z := z)) hSS q 4 qw (gs σ (qw + 1)).1 (r := (cn (gs σ (qw + 1)).1, fT (gs σ (qw + 1)).1, nfl (gs σ (qw + 1)).1)) hwe (by rw [hk3, show (gs σ (qw + 1)).1 = 7 by omega]; rfl) hwv (cls_ok _ hwl) (i32_vin h1 i1 i2) ck (fun H1 locs1 hP1 hD1 hS1 => W.hsz (fun hz => ?_))
    have h3 := ih _ _ _ _ H1 locs1 lsR h hL (okt (okt (okt hst))) (HRm hs0 (by exact hg0) (by exact hz) hS1 (by rw [hwo]; exact hP1) (gd_sR hH.2.2)) hS1 hg0 hl0; exact h3
set_option maxHeartbeats 4000000 in
set_option maxRecDepth 100000 in
theorem bd_60 {lw : List Nat} {vw : Int} (hC : Ctx p R s m args meth c z b L xs D dA j) {N : Nat} (hS : ∀ k, k < N → SimAt l z b L xs D dA k) {v : Option mv_T} {τ : ms_T} {g0 l0 : Nat} {Z : State → Prop} (hs0 : s.heap.size = z + g0) (hgR : gn τ - g0 ≤ R.cells ∧ gl τ - l0 ≤ R.slots)
    (hZ : ∀ (pc : Nat) (H : Heap) (locs : List Loc) (lsR : Array Slot), retOK j pc v → HR z b L xs D dA τ H → va_S (fun q => z ≤ q) s.heap H locs → W p l e R s m args below meth c H locs (gn τ - g0) (gl τ - l0) Z (F0 m pc lsR (v.toList.map (vt z b))))
    {n : Nat} (hnN : n + 1 ≤ N) {pc : Nat} {ls : ml_T} {st : List mv_T} {σ : ms_T} {H : Heap} {locs : List Loc} {lsR : Array Slot} (hlew : gn σ ≤ gn τ ∧ gl σ ≤ gl τ) (hL : LR z b (mxl j) ls lsR) (hst : ∀ a ∈ st, inV a) (hH : HR z b L xs D dA σ H) (hSS : va_S (fun q => z ≤ q) s.heap H locs) (hg0 : g0 ≤ gn σ) (hl0 : l0 ≤ gl σ)
    (ih : ∀ (pc : Nat) (ls : ml_T) (st : List mv_T) (σ : ms_T) (H : Heap) (locs : List Loc) (lsR : Array Slot), Wm n j pc ls st σ (fun v' τ' => v' = v ∧ τ' = τ) → LR z b (mxl j) ls lsR → (∀ a ∈ st, inV a) → HR z b L xs D dA σ H → va_S (fun q => z ≤ q) s.heap H locs → g0 ≤ gn σ → l0 ≤ gl σ →
      W p l e R s m args below meth c H locs (gn σ - g0) (gl σ - l0) Z (F0 m pc lsR (st.map (vt z b))))
    (ck : ckE j pc (.arraylength, lw, vw) = true) (h : wpi pc (.arraylength, lw, vw) (mrt j) ls st σ (fun pc' ls' st' σ' => Wm n j pc' ls' st' σ' (fun v' τ' => v' = v ∧ τ' = τ)) (fun j' as σ' k => Wm n j' 0 (pad (mxl j') as) [] σ' k) (fun v' τ' => v' = v ∧ τ' = τ)) : W p l e R s m args below meth c H locs (gn σ - g0) (gl σ - l0) Z (F0 m pc lsR (st.map (vt z b))) := by
  obtain ⟨hx, hb, hml, hret, hlocks, hown, hts, hmn, hK, hnw, hAO, hRF, hRL, hX, hbz, hzs, hj, hL25⟩ := hC
  have hbs : b < s.heap.size := by omega
  have hbA : ¬ (fun q : Nat => z ≤ q) b := by show ¬ z ≤ b; omega
  unfold wpi at h
  dsimp only at h
  simp only [ckE, dq, dqa, Bool.and_eq_true, Bool.or_eq_true, decide_eq_true_eq, beq_iff_eq, Nat.blt_eq, Nat.ble_eq] at ck
  obtain ⟨x0, r0, e0, g0⟩ := pR_inv h
  clear h
  subst e0
  have h := g0
  clear g0
  obtain ⟨cc, e9, g9⟩ := isS_inv h
  clear h
  subst e9
  obtain ⟨hgs, h⟩ := g9
  have hc0 : cc = 0 := by
    rcases Nat.eq_zero_or_pos cc with q | q
    · exact q
    · rcases Nat.lt_or_ge (gn σ) cc with q2 | q2
      · have := hH.2.2.2.2.2.1 cc q2; omega
      · have h7 := hH.2.2.2.2.2.2 cc q q2; unfold okk at h7; omega
  subst hc0
  have hz0 := hH.2.2.2.1
  refine va_slen hx hb hX hbs hbA hSS ck ?_
  have e9 : Int32.ofNat L = Int32.ofInt ((gs σ 0).2 : Int) := by rw [hz0]; rfl
  rw [e9]
  exact ih _ _ (vI _ :: r0) _ _ _ _ h hL (okc (by show rg _; rw [hz0]; unfold rg; simp only []; omega) (okt hst)) hH hSS hg0 hl0
set_option maxHeartbeats 4000000 in
set_option maxRecDepth 100000 in
theorem bd_61 {a0 : Nat} {ci : Nat} {n0 : Nat} {vw : Int} (hC : Ctx p R s m args meth c z b L xs D dA j) {N : Nat} (hS : ∀ k, k < N → SimAt l z b L xs D dA k) {v : Option mv_T} {τ : ms_T} {g0 l0 : Nat} {Z : State → Prop} (hs0 : s.heap.size = z + g0) (hgR : gn τ - g0 ≤ R.cells ∧ gl τ - l0 ≤ R.slots)
    (hZ : ∀ (pc : Nat) (H : Heap) (locs : List Loc) (lsR : Array Slot), retOK j pc v → HR z b L xs D dA τ H → va_S (fun q => z ≤ q) s.heap H locs → W p l e R s m args below meth c H locs (gn τ - g0) (gl τ - l0) Z (F0 m pc lsR (v.toList.map (vt z b))))
    {n : Nat} (hnN : n + 1 ≤ N) {pc : Nat} {ls : ml_T} {st : List mv_T} {σ : ms_T} {H : Heap} {locs : List Loc} {lsR : Array Slot} (hlew : gn σ ≤ gn τ ∧ gl σ ≤ gl τ) (hL : LR z b (mxl j) ls lsR) (hst : ∀ a ∈ st, inV a) (hH : HR z b L xs D dA σ H) (hSS : va_S (fun q => z ≤ q) s.heap H locs) (hg0 : g0 ≤ gn σ) (hl0 : l0 ≤ gl σ)
    (ih : ∀ (pc : Nat) (ls : ml_T) (st : List mv_T) (σ : ms_T) (H : Heap) (locs : List Loc) (lsR : Array Slot), Wm n j pc ls st σ (fun v' τ' => v' = v ∧ τ' = τ) → LR z b (mxl j) ls lsR → (∀ a ∈ st, inV a) → HR z b L xs D dA σ H → va_S (fun q => z ≤ q) s.heap H locs → g0 ≤ gn σ → l0 ≤ gl σ →
      W p l e R s m args below meth c H locs (gn σ - g0) (gl σ - l0) Z (F0 m pc lsR (st.map (vt z b))))
    (ck : ckE j pc (.new a0, [ci, n0], vw) = true) (h : wpi pc (.new a0, [ci, n0], vw) (mrt j) ls st σ (fun pc' ls' st' σ' => Wm n j pc' ls' st' σ' (fun v' τ' => v' = v ∧ τ' = τ)) (fun j' as σ' k => Wm n j' 0 (pad (mxl j') as) [] σ' k) (fun v' τ' => v' = v ∧ τ' = τ)) : W p l e R s m args below meth c H locs (gn σ - g0) (gl σ - l0) Z (F0 m pc lsR (st.map (vt z b))) := by
  obtain ⟨hx, hb, hml, hret, hlocks, hown, hts, hmn, hK, hnw, hAO, hRF, hRL, hX, hbz, hzs, hj, hL25⟩ := hC
  have hbs : b < s.heap.size := by omega
  have hbA : ¬ (fun q : Nat => z ≤ q) b := by show ¬ z ≤ b; omega
  unfold wpi at h
  dsimp only at h
  simp only [ckE, dq, dqa, Bool.and_eq_true, Bool.or_eq_true, decide_eq_true_eq, beq_iff_eq, Nat.blt_eq, Nat.ble_eq] at ck
  obtain ⟨hd, hw, hci, hn⟩ := ck
  subst hn
  obtain ⟨w, hw⟩ := has3_of hw
  have hle : gn (alc σ ci 0 (nfl ci)) ≤ gn τ ∧ gl (alc σ ci 0 (nfl ci)) ≤ gl τ := Wm_le h
  rw [gn_alc, gl_alc] at hle
  have hKn := hK.1 _ _ (cls_ok _ hci)
  refine W.newcK (C := cn ci) (n := nfl ci) hx hb hown (hts _ (clT_ok _ hw)) (hts _ (isb_ok hci)) (hts _ (ini_ok hci)) rfl hd (by omega) (by omega) hKn.2.1 hH.1 fun H1 kC hkC e1 z1 o1 => ?_
  refine W.cnt (cells2 := gn (alc σ ci 0 (nfl ci)) - g0) (slots2 := gl (alc σ ci 0 (nfl ci)) - l0) (by rw [gn_alc]; omega) (by rw [gl_alc]; omega) ?_
  exact ih _ _ (vR (some (gn σ + 1)) :: st) _ _ _ _ h hL (okc trivial hst) (HR_new hH (Or.inl ⟨hci, rfl⟩) z1 o1 (by rw [wnt_obj (by rw [gs_alc, if_pos rfl]) hci]; exact ⟨_, cls_ok _ hci, (u_born (fty _) hts (lay_ok _ hci) hKn hkC e1 (fty_ok _ hci)).to (fun k hk => (fvl_new hci hk).symm)⟩)) (va_S_new hSS hH.1 z1 o1) (by rw [gn_alc]; omega) (by rw [gl_alc]; omega)
set_option maxHeartbeats 4000000 in
set_option maxRecDepth 100000 in
theorem bd_62 {a0 : ClassFile.ArrayType} {kd : Nat} {vw : Int} (hC : Ctx p R s m args meth c z b L xs D dA j) {N : Nat} (hS : ∀ k, k < N → SimAt l z b L xs D dA k) {v : Option mv_T} {τ : ms_T} {g0 l0 : Nat} {Z : State → Prop} (hs0 : s.heap.size = z + g0) (hgR : gn τ - g0 ≤ R.cells ∧ gl τ - l0 ≤ R.slots)
    (hZ : ∀ (pc : Nat) (H : Heap) (locs : List Loc) (lsR : Array Slot), retOK j pc v → HR z b L xs D dA τ H → va_S (fun q => z ≤ q) s.heap H locs → W p l e R s m args below meth c H locs (gn τ - g0) (gl τ - l0) Z (F0 m pc lsR (v.toList.map (vt z b))))
    {n : Nat} (hnN : n + 1 ≤ N) {pc : Nat} {ls : ml_T} {st : List mv_T} {σ : ms_T} {H : Heap} {locs : List Loc} {lsR : Array Slot} (hlew : gn σ ≤ gn τ ∧ gl σ ≤ gl τ) (hL : LR z b (mxl j) ls lsR) (hst : ∀ a ∈ st, inV a) (hH : HR z b L xs D dA σ H) (hSS : va_S (fun q => z ≤ q) s.heap H locs) (hg0 : g0 ≤ gn σ) (hl0 : l0 ≤ gl σ)
    (ih : ∀ (pc : Nat) (ls : ml_T) (st : List mv_T) (σ : ms_T) (H : Heap) (locs : List Loc) (lsR : Array Slot), Wm n j pc ls st σ (fun v' τ' => v' = v ∧ τ' = τ) → LR z b (mxl j) ls lsR → (∀ a ∈ st, inV a) → HR z b L xs D dA σ H → va_S (fun q => z ≤ q) s.heap H locs → g0 ≤ gn σ → l0 ≤ gl σ →
      W p l e R s m args below meth c H locs (gn σ - g0) (gl σ - l0) Z (F0 m pc lsR (st.map (vt z b))))
    (ck : ckE j pc (.newarray a0, [kd], vw) = true) (h : wpi pc (.newarray a0, [kd], vw) (mrt j) ls st σ (fun pc' ls' st' σ' => Wm n j pc' ls' st' σ' (fun v' τ' => v' = v ∧ τ' = τ)) (fun j' as σ' k => Wm n j' 0 (pad (mxl j') as) [] σ' k) (fun v' τ' => v' = v ∧ τ' = τ)) : W p l e R s m args below meth c H locs (gn σ - g0) (gl σ - l0) Z (F0 m pc lsR (st.map (vt z b))) := by
  obtain ⟨hx, hb, hml, hret, hlocks, hown, hts, hmn, hK, hnw, hAO, hRF, hRL, hX, hbz, hzs, hj, hL25⟩ := hC
  have hbs : b < s.heap.size := by omega
  have hbA : ¬ (fun q : Nat => z ≤ q) b := by show ¬ z ≤ b; omega
  unfold wpi at h
  dsimp only at h
  simp only [ckE, dq, dqa, Bool.and_eq_true, Bool.or_eq_true, decide_eq_true_eq, beq_iff_eq, Nat.blt_eq, Nat.ble_eq] at ck
  obtain ⟨hd, hkd⟩ := ck
  obtain ⟨x0, r0, e0, g0⟩ := pI_inv h
  clear h
  subst e0
  have h := g0
  clear g0
  have h0 : rg x0 := okh hst
  obtain ⟨c1, c2, h⟩ := h
  have hle := Wm_le h
  rw [gn_alc, gl_alc] at hle
  rcases hkd with ⟨hty, hkd⟩ | ⟨hty, hkd⟩
  · subst hty
    subst hkd
    refine va_newaK (atype := .int) hx hb (hts _ lw_arI) rfl hd rfl (by rw [← i32_0, i32_lt h0 rg0]; omega) (i32_clamp h0) (by show x0.toNat * _ ≤ _; simp only [componentBytes, newarray.typeOf]; omega) (by omega) (by omega) hH.1 fun H1 cA e1 z1 o1 hA1 hA2 => ?_
    refine W.cnt (cells2 := gn (alc σ 50 x0.toNat x0.toNat) - g0) (slots2 := gl (alc σ 50 x0.toNat x0.toNat) - l0) (by rw [gn_alc]; omega) (by rw [gl_alc]; omega) ?_
    have hcA : cA = dA 50 := Option.some.inj (hA2.symm.trans (hK.2 0 _ rfl).2)
    subst hcA
    exact ih _ _ (vR (some (gn σ + 1)) :: r0) _ _ _ _ h hL (okc trivial (okt hst)) (HR_new hH (Or.inr ⟨by omega, by show x0.toNat ≤ 1000; omega⟩) z1 o1 (by rw [wnt_int (kd := 50) (by rw [gs_alc, if_pos rfl]) (Or.inl rfl)]; refine (e1.trans ?_ : H1[_]? = _); rw [gs_alc, if_pos rfl]; show some _ = some (vp_cell _ _); rw [vp_cell_i]; congr 2; funext k; rw [gi_alc, if_pos rfl]; rfl)) (va_S_new hSS hH.1 z1 o1) (by rw [gn_alc]; omega) (by rw [gl_alc]; omega)
  · subst hty
    subst hkd
    refine va_newaK (atype := .char) hx hb (hts _ lw_arC) rfl hd rfl (by rw [← i32_0, i32_lt h0 rg0]; omega) (i32_clamp h0) (by show x0.toNat * _ ≤ _; simp only [componentBytes, newarray.typeOf]; omega) (by omega) (by omega) hH.1 fun H1 cA e1 z1 o1 hA1 hA2 => ?_
    refine W.cnt (cells2 := gn (alc σ 51 x0.toNat x0.toNat) - g0) (slots2 := gl (alc σ 51 x0.toNat x0.toNat) - l0) (by rw [gn_alc]; omega) (by rw [gl_alc]; omega) ?_
    have hcA : cA = dA 51 := Option.some.inj (hA2.symm.trans (hK.2 1 _ rfl).2)
    subst hcA
    exact ih _ _ (vR (some (gn σ + 1)) :: r0) _ _ _ _ h hL (okc trivial (okt hst)) (HR_new hH (Or.inr ⟨by omega, by show x0.toNat ≤ 1000; omega⟩) z1 o1 (by rw [wnt_int (kd := 51) (by rw [gs_alc, if_pos rfl]) (Or.inr rfl)]; refine (e1.trans ?_ : H1[_]? = _); rw [gs_alc, if_pos rfl]; show some _ = some (vp_cell _ _); rw [vp_cell_i]; congr 2; funext k; rw [gi_alc, if_pos rfl]; rfl)) (va_S_new hSS hH.1 z1 o1) (by rw [gn_alc]; omega) (by rw [gl_alc]; omega)
end BODY
