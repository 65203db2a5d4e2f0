/-! What the evaluator says holds -/
noncomputable section
set_option maxHeartbeats 1000000 in
theorem s_icmp {σ : ms_T} {Q : mq_T} {cf : cf_T} {k : kc_T} (hK : HK σ Q cf k) {j pc : Nat} {ls : ml_T} {st : List mv_T} {fs : List fr_T} {m : mm_T} {c : ClassFile.Cond} {t : Nat} (h : op_icmp c t j pc ls st fs m k = some cf) : pI st fun b r => pI r fun a r => (icnd c a b → At j t ls r (sg σ m) (CQ fs Q)) ∧ (¬ icnd c a b → At j (pc + 3) ls r (sg σ m) (CQ fs Q)) := by
  unfold op_icmp at h
  split at h
  · next b a r =>
    split at h
    · next e =>
      simp only [fz_eq, fzN_eq, lfz_eq] at h
      exact ⟨fun _ => hK _ _ _ _ _ _ h, fun z => absurd (cndE_ok.mp e) z⟩
    · next e =>
      simp only [fz_eq, fzN_eq, lfz_eq] at h
      exact ⟨fun z => Bool.noConfusion (e.symm.trans (cndE_ok.mpr z)), fun _ => hK _ _ _ _ _ _ h⟩
  · cases h

set_option maxHeartbeats 1000000 in
theorem s_ifnull {σ : ms_T} {Q : mq_T} {cf : cf_T} {k : kc_T} (hK : HK σ Q cf k) {j pc : Nat} {ls : ml_T} {st : List mv_T} {fs : List fr_T} {m : mm_T} {t : Nat} (h : op_ifnull t j pc ls st fs m k = some cf) : pR st fun a r => (a = none → At j t ls r (sg σ m) (CQ fs Q)) ∧ (¬ a = none → At j (pc + 3) ls r (sg σ m) (CQ fs Q)) := by
  unfold op_ifnull at h
  split at h
  · simp only [fz_eq, fzN_eq, lfz_eq] at h
    exact ⟨fun _ => hK _ _ _ _ _ _ h, fun z => absurd rfl z⟩
  · simp only [fz_eq, fzN_eq, lfz_eq] at h
    exact ⟨fun z => (by cases z), fun _ => hK _ _ _ _ _ _ h⟩
  · cases h

set_option maxHeartbeats 1000000 in
theorem s_ifnonnull {σ : ms_T} {Q : mq_T} {cf : cf_T} {k : kc_T} (hK : HK σ Q cf k) {j pc : Nat} {ls : ml_T} {st : List mv_T} {fs : List fr_T} {m : mm_T} {t : Nat} (h : op_ifnonnull t j pc ls st fs m k = some cf) : pR st fun a r => (¬ a = none → At j t ls r (sg σ m) (CQ fs Q)) ∧ (a = none → At j (pc + 3) ls r (sg σ m) (CQ fs Q)) := by
  unfold op_ifnonnull at h
  split at h
  · simp only [fz_eq, fzN_eq, lfz_eq] at h
    exact ⟨fun z => absurd rfl z, fun _ => hK _ _ _ _ _ _ h⟩
  · simp only [fz_eq, fzN_eq, lfz_eq] at h
    exact ⟨fun _ => hK _ _ _ _ _ _ h, fun z => (by cases z)⟩
  · cases h

set_option maxHeartbeats 1000000 in
theorem s_switch {σ : ms_T} {Q : mq_T} {cf : cf_T} {k : kc_T} (hK : HK σ Q cf k) {j pc : Nat} {ls : ml_T} {st : List mv_T} {fs : List fr_T} {m : mm_T} {d : Nat} {ts : List Nat} {lo : Int} (h : op_switch d ts lo j pc ls st fs m k = some cf) : pI st fun a r => (a < lo ∨ lo + ts.length ≤ a → At j d ls r (sg σ m) (CQ fs Q)) ∧ swt a (fun t => At j t ls r (sg σ m) (CQ fs Q)) lo ts := by
  unfold op_switch at h
  split at h
  · next a r =>
    simp only [fz_eq, fzN_eq, lfz_eq] at h
    exact swE_ok (K := fun t => At j t ls r (sg σ m) (CQ fs Q)) (hK _ _ _ _ _ _ h)
  · cases h

set_option maxHeartbeats 1000000 in
theorem s_getI {σ : ms_T} {Q : mq_T} {cf : cf_T} {k : kc_T} (hK : HK σ Q cf k) {j pc : Nat} {ls : ml_T} {st : List mv_T} {fs : List fr_T} {m : mm_T} {ci q : Nat} (h : op_getI ci q j pc ls st fs m k = some cf) : pR st fun o r => isS o fun c => gs (sg σ m) c = (ci, 0) ∧ At j (pc + 3) ls (vI (gi (sg σ m) c q) :: r) (sg σ m) (CQ fs Q) := by
  unfold op_getI at h
  obtain ⟨B, n0, g, rows⟩ := m
  dsimp only at h
  split at h
  · next c r =>
    obtain ⟨h1, h⟩ := wCel_ok (g := g) h
    obtain ⟨h2, h⟩ := wBool_ok h
    simp only [fz_eq, fzN_eq, lfz_eq] at h
    refine pR_mk ⟨(gs_e h1).trans (kdOk_ok h2), ?_⟩
    rw [gi_sg h1]
    exact hK _ _ _ _ _ _ h
  · cases h

set_option maxHeartbeats 1000000 in
theorem s_getR {σ : ms_T} {Q : mq_T} {cf : cf_T} {k : kc_T} (hK : HK σ Q cf k) {j pc : Nat} {ls : ml_T} {st : List mv_T} {fs : List fr_T} {m : mm_T} {ci q : Nat} (h : op_getR ci q j pc ls st fs m k = some cf) : pR st fun o r => isS o fun c => gs (sg σ m) c = (ci, 0) ∧ At j (pc + 3) ls (vR (gr (sg σ m) c q) :: r) (sg σ m) (CQ fs Q) := by
  unfold op_getR at h
  obtain ⟨B, n0, g, rows⟩ := m
  dsimp only at h
  split at h
  · next c r =>
    obtain ⟨h1, h⟩ := wCel_ok (g := g) h
    obtain ⟨h2, h⟩ := wBool_ok h
    simp only [ofz_eq, fzN_eq] at h
    refine pR_mk ⟨(gs_e h1).trans (kdOk_ok h2), ?_⟩
    rw [gr_sg h1]
    exact hK _ _ _ _ _ _ h
  · cases h

set_option maxHeartbeats 1000000 in
theorem s_putI {σ : ms_T} {Q : mq_T} {cf : cf_T} {k : kc_T} (hK : HK σ Q cf k) {j pc : Nat} {ls : ml_T} {st : List mv_T} {fs : List fr_T} {m : mm_T} {ci q : Nat} (h : op_putI ci q j pc ls st fs m k = some cf) : pI st fun v r => pR r fun o r => isS o fun c => gs (sg σ m) c = (ci, 0) ∧ At j (pc + 3) ls r (sI (sg σ m) c q v) (CQ fs Q) := by
  unfold op_putI at h
  obtain ⟨B, n0, g, rows⟩ := m
  dsimp only at h
  split at h
  · next v c r =>
    obtain ⟨h1, h⟩ := wCel_ok (g := g) h
    obtain ⟨h2, h⟩ := wBool_ok h
    obtain ⟨rows2, e, h⟩ := sg_I (σ := σ) h1 h
    rw [fzN_eq] at h
    refine pI_mk (pR_mk ⟨(gs_e h1).trans (kdOk_ok h2), ?_⟩)
    rw [← e]
    exact hK _ _ _ _ _ _ h
  · cases h

set_option maxHeartbeats 1000000 in
theorem s_putZ {σ : ms_T} {Q : mq_T} {cf : cf_T} {k : kc_T} (hK : HK σ Q cf k) {j pc : Nat} {ls : ml_T} {st : List mv_T} {fs : List fr_T} {m : mm_T} {ci q : Nat} (h : op_putZ ci q j pc ls st fs m k = some cf) : pI st fun v r => pR r fun o r => isS o fun c => gs (sg σ m) c = (ci, 0) ∧ (v = 0 ∨ v = 1) ∧ At j (pc + 3) ls r (sI (sg σ m) c q v) (CQ fs Q) := by
  unfold op_putZ at h
  obtain ⟨B, n0, g, rows⟩ := m
  dsimp only at h
  split at h
  · next v c r =>
    obtain ⟨hb, h⟩ := wBool_ok h
    obtain ⟨h1, h⟩ := wCel_ok (g := g) h
    obtain ⟨h2, h⟩ := wBool_ok h
    obtain ⟨rows2, e, h⟩ := sg_I (σ := σ) h1 h
    rw [fzN_eq] at h
    refine pI_mk (pR_mk ⟨(gs_e h1).trans (kdOk_ok h2), boolE_ok hb, ?_⟩)
    rw [← e]
    exact hK _ _ _ _ _ _ h
  · cases h

set_option maxHeartbeats 1000000 in
theorem s_putR {σ : ms_T} {Q : mq_T} {cf : cf_T} {k : kc_T} (hK : HK σ Q cf k) {j pc : Nat} {ls : ml_T} {st : List mv_T} {fs : List fr_T} {m : mm_T} {ci q : Nat} (h : op_putR ci q j pc ls st fs m k = some cf) : pR st fun v r => pR r fun o r => isS o fun c => gs (sg σ m) c = (ci, 0) ∧ At j (pc + 3) ls r (sR (sg σ m) c q v) (CQ fs Q) := by
  unfold op_putR at h
  obtain ⟨B, n0, g, rows⟩ := m
  dsimp only at h
  split at h
  · next v c r =>
    obtain ⟨h1, h⟩ := wCel_ok (g := g) h
    obtain ⟨h2, h⟩ := wBool_ok h
    obtain ⟨rows2, e, h⟩ := sg_R (σ := σ) h1 h
    rw [fzN_eq] at h
    refine pR_mk (pR_mk ⟨(gs_e h1).trans (kdOk_ok h2), ?_⟩)
    rw [← e]
    exact hK _ _ _ _ _ _ h
  · cases h

set_option maxHeartbeats 1000000 in
theorem s_ald {σ : ms_T} {Q : mq_T} {cf : cf_T} {k : kc_T} (hK : HK σ Q cf k) {j pc : Nat} {ls : ml_T} {st : List mv_T} {fs : List fr_T} {m : mm_T} {kd : Nat} (h : op_ald kd j pc ls st fs m k = some cf) : pI st fun i r => pR r fun o r => okA (sg σ m) o kd i fun c => At j (pc + 1) ls (vI (gi (sg σ m) c i.toNat) :: r) (sg σ m) (CQ fs Q) := by
  unfold op_ald at h
  obtain ⟨B, n0, g, rows⟩ := m
  dsimp only at h
  split at h
  · next i c r =>
    obtain ⟨h1, h⟩ := wCel_ok (g := g) h
    obtain ⟨h2, h⟩ := wBool_ok h
    obtain ⟨h3, h4, h⟩ := wIdx_ok h
    simp only [fz_eq, fzN_eq, lfz_eq] at h
    refine pI_mk (pR_mk ⟨?_, h3, ?_, ?_⟩)
    · rw [gs_e h1]; exact Nat.eq_of_beq_eq_true h2
    · rw [gs_e h1]; exact h4
    · dsimp only; rw [gi_sg h1]; exact hK _ _ _ _ _ _ h
  · cases h

set_option maxHeartbeats 1000000 in
theorem s_ast {σ : ms_T} {Q : mq_T} {cf : cf_T} {k : kc_T} (hK : HK σ Q cf k) {j pc : Nat} {ls : ml_T} {st : List mv_T} {fs : List fr_T} {m : mm_T} {kd : Nat} {ch : Bool} (h : op_ast kd ch j pc ls st fs m k = some cf) : pI st fun v r => pI r fun i r => pR r fun o r => okA (sg σ m) o kd i fun c => (ch = true → 0 ≤ v ∧ v < 65536) ∧ At j (pc + 1) ls r (sI (sg σ m) c i.toNat v) (CQ fs Q) := by
  unfold op_ast at h
  obtain ⟨B, n0, g, rows⟩ := m
  dsimp only at h
  split at h
  · next v i c r =>
    obtain ⟨h0, h⟩ := wBool_ok h
    obtain ⟨h1, h⟩ := wCel_ok (g := g) h
    obtain ⟨h2, h⟩ := wBool_ok h
    obtain ⟨h3, h4, h⟩ := wIdx_ok h
    obtain ⟨rows2, e, h⟩ := sg_I (σ := σ) h1 h
    rw [fzN_eq] at h
    refine pI_mk (pI_mk (pR_mk ⟨?_, h3, ?_, chE_ok h0, ?_⟩))
    · rw [gs_e h1]; exact Nat.eq_of_beq_eq_true h2
    · rw [gs_e h1]; exact h4
    · rw [← e]; exact hK _ _ _ _ _ _ h
  · cases h

set_option maxHeartbeats 1000000 in
theorem s_aald {σ : ms_T} {Q : mq_T} {cf : cf_T} {k : kc_T} (hK : HK σ Q cf k) {j pc : Nat} {ls : ml_T} {st : List mv_T} {fs : List fr_T} {m : mm_T}  (h : op_aald  j pc ls st fs m k = some cf) : pI st fun i r => pR r fun o r => okQ (sg σ m) o i fun c => At j (pc + 1) ls (vR (gr (sg σ m) c i.toNat) :: r) (sg σ m) (CQ fs Q) := by
  unfold op_aald at h
  obtain ⟨B, n0, g, rows⟩ := m
  dsimp only at h
  split at h
  · next i c r =>
    obtain ⟨h1, h⟩ := wCel_ok (g := g) h
    obtain ⟨h2, h⟩ := wBool_ok h
    obtain ⟨h3, h4, h⟩ := wIdx_ok h
    simp only [ofz_eq, fzN_eq] at h
    refine pI_mk (pR_mk ⟨?_, ?_, h3, ?_, ?_⟩)
    · rw [gs_e h1]; exact (rkE_ok h2).1
    · rw [gs_e h1]; exact (rkE_ok h2).2
    · rw [gs_e h1]; exact h4
    · dsimp only; rw [gr_sg h1]; exact hK _ _ _ _ _ _ h
  · cases h

set_option maxHeartbeats 1000000 in
theorem s_aast {σ : ms_T} {Q : mq_T} {cf : cf_T} {k : kc_T} (hK : HK σ Q cf k) {j pc : Nat} {ls : ml_T} {st : List mv_T} {fs : List fr_T} {m : mm_T}  (h : op_aast  j pc ls st fs m k = some cf) : pR st fun v r => pI r fun i r => pR r fun o r => okQ (sg σ m) o i fun c => (isS v fun w => (gs (sg σ m) w).1 + 60 = (gs (sg σ m) c).1 ∧ (gs (sg σ m) w).2 = 0) ∧ At j (pc + 1) ls r (sR (sg σ m) c i.toNat v) (CQ fs Q) := by
  unfold op_aast at h
  obtain ⟨B, n0, g, rows⟩ := m
  dsimp only at h
  split at h
  · next w i c r =>
    obtain ⟨hw, h⟩ := wCel_ok (g := g) h
    obtain ⟨h1, h⟩ := wCel_ok (g := g) h
    obtain ⟨h2, h⟩ := wBool_ok h
    obtain ⟨h5, h⟩ := wBool_ok h
    obtain ⟨h3, h4, h⟩ := wIdx_ok h
    obtain ⟨rows2, e, h⟩ := sg_R (σ := σ) h1 h
    rw [fzN_eq] at h
    have h6 := kdOk_ok h5
    refine pR_mk (pI_mk (pR_mk ⟨?_, ?_, h3, ?_, ⟨?_, ?_⟩, ?_⟩))
    · rw [gs_e h1]; exact (rkE_ok h2).1
    · rw [gs_e h1]; exact (rkE_ok h2).2
    · rw [gs_e h1]; exact h4
    · rw [gs_e hw, gs_e h1]; exact congrArg Prod.fst h6
    · rw [gs_e hw]; exact congrArg Prod.snd h6
    · rw [← e]; exact hK _ _ _ _ _ _ h
  · cases h

set_option maxHeartbeats 1000000 in
theorem s_new {σ : ms_T} {Q : mq_T} {cf : cf_T} {k : kc_T} (hK : HK σ Q cf k) {j pc : Nat} {ls : ml_T} {st : List mv_T} {fs : List fr_T} {m : mm_T} {ci w : Nat} (h : op_new ci w j pc ls st fs m k = some cf) : At j (pc + 3) ls (vR (some (gn (sg σ m) + 1)) :: st) (alc (sg σ m) ci 0 w) (CQ fs Q) := by
  unfold op_new at h
  obtain ⟨B, n0, g, rows⟩ := m
  dsimp only at h
  rw [lfz_eq, lfz_eq] at h
  obtain ⟨rows2, e, h⟩ := sg_new (σ := σ) (B := B) (g := g) (w := w) h
  simp only [fzN_eq] at h
  rw [← e]
  exact hK _ _ _ _ _ _ h

set_option maxHeartbeats 1000000 in
theorem s_newI {σ : ms_T} {Q : mq_T} {cf : cf_T} {k : kc_T} (hK : HK σ Q cf k) {j pc : Nat} {ls : ml_T} {st : List mv_T} {fs : List fr_T} {m : mm_T} {kd : Nat} (h : op_newI kd j pc ls st fs m k = some cf) : pI st fun a r => 0 ≤ a ∧ a ≤ 1000 ∧ At j (pc + 2) ls (vR (some (gn (sg σ m) + 1)) :: r) (alc (sg σ m) kd a.toNat a.toNat) (CQ fs Q) := by
  unfold op_newI at h
  obtain ⟨B, n0, g, rows⟩ := m
  dsimp only at h
  split at h
  · next a r =>
    obtain ⟨h3, h4, h⟩ := wIdx_ok h
    rw [lfz_eq] at h
    obtain ⟨rows2, e, h⟩ := sg_new (σ := σ) (B := B) (g := g) (w := a.toNat) (a := a.toNat) (b := 0) h
    simp only [fzN_eq] at h
    refine pI_mk ⟨h3, by omega, ?_⟩
    rw [← e]
    exact hK _ _ _ _ _ _ h
  · cases h

set_option maxHeartbeats 1000000 in
theorem s_newQ {σ : ms_T} {Q : mq_T} {cf : cf_T} {k : kc_T} (hK : HK σ Q cf k) {j pc : Nat} {ls : ml_T} {st : List mv_T} {fs : List fr_T} {m : mm_T} {kd : Nat} (h : op_newQ kd j pc ls st fs m k = some cf) : pI st fun a r => 0 ≤ a ∧ a ≤ 1000 ∧ At j (pc + 3) ls (vR (some (gn (sg σ m) + 1)) :: r) (alc (sg σ m) kd a.toNat a.toNat) (CQ fs Q) := by
  unfold op_newQ at h
  obtain ⟨B, n0, g, rows⟩ := m
  dsimp only at h
  split at h
  · next a r =>
    obtain ⟨h3, h4, h⟩ := wIdx_ok h
    rw [lfz_eq] at h
    obtain ⟨rows2, e, h⟩ := sg_new (σ := σ) (B := B) (g := g) (w := a.toNat) (a := 0) (b := a.toNat) h
    simp only [fzN_eq] at h
    refine pI_mk ⟨h3, by omega, ?_⟩
    rw [← e]
    exact hK _ _ _ _ _ _ h
  · cases h

set_option maxHeartbeats 1000000 in
theorem s_callV {σ : ms_T} {Q : mq_T} {cf : cf_T} {k : kc_T} (hK : HK σ Q cf k) {j pc : Nat} {ls : ml_T} {st : List mv_T} {fs : List fr_T} {m : mm_T} {j2 n rk ci : Nat} (h : op_callV j2 n rk ci j pc ls st fs m k = some cf) : popn n [] st fun as r => pR r fun o r => isS o fun c => gs (sg σ m) c = (ci, 0) ∧ gd (Nat.ble (mwds r) 8 && all1 as) (Ca j2 (vR (some c) :: as) (sg σ m) (fun v τ => rtn rk v fun vs => At j (pc + 3) ls (vs ++ r) τ (CQ fs Q))) := by
  unfold op_callV at h
  obtain ⟨B, n0, g, rows⟩ := m
  dsimp only at h
  obtain ⟨as, r, h, mk⟩ := popE_ok h
  refine mk ?_
  split at h
  · next c r2 =>
    obtain ⟨h1, h⟩ := wCel_ok (g := g) h
    obtain ⟨h2, h⟩ := wBool_ok h
    obtain ⟨h3, h⟩ := wBool_ok h
    obtain ⟨h4, h⟩ := wBool_ok h
    simp only [fzN_eq, lfz_eq] at h
    exact pR_mk ⟨(gs_e h1).trans (kdOk_ok h2), gd_mk (and_mk h3 h4) (hK _ _ _ _ _ _ h)⟩
  · cases h

set_option maxHeartbeats 1000000 in
theorem s_callI {σ : ms_T} {Q : mq_T} {cf : cf_T} {k : kc_T} (hK : HK σ Q cf k) {j pc : Nat} {ls : ml_T} {st : List mv_T} {fs : List fr_T} {m : mm_T} {j2 n ci : Nat} (h : op_callI j2 n ci j pc ls st fs m k = some cf) : popn n [] st fun as r => pR r fun o r => isS o fun c => gs (sg σ m) c = (ci, 0) ∧ gd (Nat.ble (mwds r) 8 && all1 as) (Ca j2 (vR (some c) :: as) (sg σ m) (fun v τ => rtn 0 v fun vs => At j (pc + 3) ls (vs ++ r) τ (CQ fs Q))) := by
  unfold op_callI at h
  obtain ⟨B, n0, g, rows⟩ := m
  dsimp only at h
  obtain ⟨as, r, h, mk⟩ := popE_ok h
  refine mk ?_
  split at h
  · next c r2 =>
    obtain ⟨h1, h⟩ := wCel_ok (g := g) h
    obtain ⟨h2, h⟩ := wBool_ok h
    obtain ⟨h3, h⟩ := wBool_ok h
    obtain ⟨h4, h⟩ := wBool_ok h
    simp only [fzN_eq, lfz_eq] at h
    exact pR_mk ⟨(gs_e h1).trans (kdOk_ok h2), gd_mk (and_mk h3 h4) (hK _ _ _ _ _ _ h)⟩
  · cases h

set_option maxHeartbeats 1000000 in
theorem s_callS {σ : ms_T} {Q : mq_T} {cf : cf_T} {k : kc_T} (hK : HK σ Q cf k) {j pc : Nat} {ls : ml_T} {st : List mv_T} {fs : List fr_T} {m : mm_T} {j2 n rk : Nat} (h : op_callS j2 n rk j pc ls st fs m k = some cf) : popn n [] st fun as r => gd (Nat.ble (mwds r) 8 && okas j2 as) (Ca j2 as (sg σ m) (fun v τ => rtn rk v fun vs => At j (pc + 3) ls (vs ++ r) τ (CQ fs Q))) := by
  unfold op_callS at h
  obtain ⟨as, r, h, mk⟩ := popE_ok h
  refine mk ?_
  obtain ⟨h3, h⟩ := wBool_ok h
  obtain ⟨h4, h⟩ := wBool_ok h
  simp only [fzN_eq, lfz_eq] at h
  exact gd_mk (and_mk h3 h4) (hK _ _ _ _ _ _ h)

set_option maxHeartbeats 1000000 in
theorem s_obj {σ : ms_T} {Q : mq_T} {cf : cf_T} {k : kc_T} (hK : HK σ Q cf k) {j pc : Nat} {ls : ml_T} {st : List mv_T} {fs : List fr_T} {m : mm_T}  (h : op_obj  j pc ls st fs m k = some cf) : pR st fun o r => isS o fun c => gd (Nat.ble (mwds r) 8) (At j (pc + 3) ls r (sg σ m) (CQ fs Q)) := by
  unfold op_obj at h
  split at h
  · obtain ⟨h1, h⟩ := wBool_ok h
    simp only [fz_eq, fzN_eq, lfz_eq] at h
    exact pR_mk (gd_mk h1 (hK _ _ _ _ _ _ h))
  · cases h

set_option maxHeartbeats 1000000 in
theorem s_mm {σ : ms_T} {Q : mq_T} {cf : cf_T} {k : kc_T} (hK : HK σ Q cf k) {j pc : Nat} {ls : ml_T} {st : List mv_T} {fs : List fr_T} {m : mm_T} {f : Int → Int → Int} (h : op_mm f j pc ls st fs m k = some cf) : pI st fun b r => pI r fun a r => gd (Nat.ble (mwds r) 8) (At j (pc + 3) ls (vI (f a b) :: r) (sg σ m) (CQ fs Q)) := by
  unfold op_mm at h
  split at h
  · next b a r =>
    obtain ⟨h1, h⟩ := wBool_ok h
    simp only [fz_eq, fzN_eq, lfz_eq] at h
    exact pI_mk (pI_mk (gd_mk h1 (hK _ _ _ _ _ _ h)))
  · cases h

set_option maxHeartbeats 1000000 in
theorem s_ret {σ : ms_T} {Q : mq_T} {cf : cf_T} {k : kc_T} (hK : HK σ Q cf k) {j pc : Nat} {ls : ml_T} {st : List mv_T} {fs : List fr_T} {m : mm_T}  (h : op_ret  j pc ls st fs m k = some cf) : isE st (gd (Nat.beq (mrt j) 0) (CQ fs Q none (sg σ m))) := by
  unfold op_ret at h
  split at h
  · obtain ⟨h1, h⟩ := wBool_ok h
    split at h
    · rw [fzN_eq] at h
      exact gd_mk (F := CQ _ Q none _) h1 ⟨rfl, hK _ _ _ _ _ _ h⟩
    · cases h
  · cases h

set_option maxHeartbeats 1000000 in
theorem s_iret {σ : ms_T} {Q : mq_T} {cf : cf_T} {k : kc_T} (hK : HK σ Q cf k) {j pc : Nat} {ls : ml_T} {st : List mv_T} {fs : List fr_T} {m : mm_T}  (h : op_iret  j pc ls st fs m k = some cf) : pI st fun a r => isE r (retI (mrt j) a (CQ fs Q (some (vI a)) (sg σ m))) := by
  unfold op_iret at h
  split at h
  · next a =>
    split at h
    · cases h
    · cases h
    · cases h
    · next j2 p2 l2 r2 rk f2 z0 z3 z4 =>
      obtain ⟨h1, h⟩ := wBool_ok h
      rw [fzN_eq] at h
      refine pI_mk (riE_ok h1 (?_ : CQ ((j2, p2, l2, r2, rk) :: f2) Q (some (vI a)) _))
      show rtn rk (some (vI a)) (fun vs => At j2 (p2 + 3) l2 (vs ++ r2) (sg σ m) (CQ f2 Q))
      unfold rtn
      split
      · exact (z0 rfl).elim
      · exact (z3 rfl).elim
      · exact (z4 rfl).elim
      · exact ⟨a, rfl, hK _ _ _ _ _ _ h⟩
    · cases h
  · cases h

set_option maxHeartbeats 1000000 in
theorem s_lret {σ : ms_T} {Q : mq_T} {cf : cf_T} {k : kc_T} (hK : HK σ Q cf k) {j pc : Nat} {ls : ml_T} {st : List mv_T} {fs : List fr_T} {m : mm_T}  (h : op_lret  j pc ls st fs m k = some cf) : pL st fun a r => isE r (gd (Nat.beq (mrt j) 4) (CQ fs Q (some (vL a)) (sg σ m))) := by
  unfold op_lret at h
  split at h
  · next a =>
    obtain ⟨h1, h⟩ := wBool_ok h
    split at h
    · rw [fzN_eq] at h
      exact pL_mk (gd_mk (F := CQ _ Q _ _) h1 ⟨a, rfl, hK _ _ _ _ _ _ h⟩)
    · cases h
  · cases h

set_option maxHeartbeats 1000000 in
theorem s_aret {σ : ms_T} {Q : mq_T} {cf : cf_T} {k : kc_T} (hK : HK σ Q cf k) {j pc : Nat} {ls : ml_T} {st : List mv_T} {fs : List fr_T} {m : mm_T}  (h : op_aret  j pc ls st fs m k = some cf) : pR st fun a r => isE r (gd (Nat.beq (mrt j) 3) (CQ fs Q (some (vR a)) (sg σ m))) := by
  unfold op_aret at h
  split at h
  · next a =>
    obtain ⟨h1, h⟩ := wBool_ok h
    split at h
    · rw [fzN_eq] at h
      exact pR_mk (gd_mk (F := CQ _ Q _ _) h1 ⟨a, rfl, hK _ _ _ _ _ _ h⟩)
    · cases h
  · cases h
end
