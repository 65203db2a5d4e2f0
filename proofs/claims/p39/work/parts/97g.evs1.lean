/-! What the evaluator says holds -/
noncomputable section
set_option maxHeartbeats 1000000 in
theorem s_push {σ : ms_T} {Q : mq_T} {cf : cf_T} {k : kc_T} (hK : HK σ Q cf k) {j pc : Nat} {ls : ml_T} {st : List mv_T} {fs : List fr_T} {m : mm_T} {v : Int} {n : Nat} (h : op_push v n j pc ls st fs m k = some cf) : At j (pc + n) ls (vI v :: st) (sg σ m) (CQ fs Q) := by
  unfold op_push at h
  simp only [fz_eq, fzN_eq, lfz_eq] at h
  exact hK _ _ _ _ _ _ h

set_option maxHeartbeats 1000000 in
theorem s_pushL {σ : ms_T} {Q : mq_T} {cf : cf_T} {k : kc_T} (hK : HK σ Q cf k) {j pc : Nat} {ls : ml_T} {st : List mv_T} {fs : List fr_T} {m : mm_T} {v : Int} {n : Nat} (h : op_pushL v n j pc ls st fs m k = some cf) : At j (pc + n) ls (vL v :: st) (sg σ m) (CQ fs Q) := by
  unfold op_pushL at h
  simp only [fz_eq, fzN_eq, lfz_eq] at h
  exact hK _ _ _ _ _ _ h

set_option maxHeartbeats 1000000 in
theorem s_null {σ : ms_T} {Q : mq_T} {cf : cf_T} {k : kc_T} (hK : HK σ Q cf k) {j pc : Nat} {ls : ml_T} {st : List mv_T} {fs : List fr_T} {m : mm_T} {n : Nat} (h : op_null n j pc ls st fs m k = some cf) : At j (pc + n) ls (vR none :: st) (sg σ m) (CQ fs Q) := by
  unfold op_null at h
  simp only [fz_eq, fzN_eq, lfz_eq] at h
  exact hK _ _ _ _ _ _ h

set_option maxHeartbeats 1000000 in
theorem s_loadI {σ : ms_T} {Q : mq_T} {cf : cf_T} {k : kc_T} (hK : HK σ Q cf k) {j pc : Nat} {ls : ml_T} {st : List mv_T} {fs : List fr_T} {m : mm_T} {q n : Nat} (h : op_loadI q n j pc ls st fs m k = some cf) : ldI ls q fun a => At j (pc + n) ls (vI a :: st) (sg σ m) (CQ fs Q) := by
  unfold op_loadI at h
  split at h
  · next a e =>
    rw [nthE_eq] at e
    refine ldI_mk e ?_
    simp only [fz_eq, fzN_eq, lfz_eq] at h
    exact hK _ _ _ _ _ _ h
  · cases h

set_option maxHeartbeats 1000000 in
theorem s_loadL {σ : ms_T} {Q : mq_T} {cf : cf_T} {k : kc_T} (hK : HK σ Q cf k) {j pc : Nat} {ls : ml_T} {st : List mv_T} {fs : List fr_T} {m : mm_T} {q n : Nat} (h : op_loadL q n j pc ls st fs m k = some cf) : ldL ls q fun a => At j (pc + n) ls (vL a :: st) (sg σ m) (CQ fs Q) := by
  unfold op_loadL at h
  split at h
  · next a e =>
    rw [nthE_eq] at e
    refine ldL_mk e ?_
    simp only [fz_eq, fzN_eq, lfz_eq] at h
    exact hK _ _ _ _ _ _ h
  · cases h

set_option maxHeartbeats 1000000 in
theorem s_loadR {σ : ms_T} {Q : mq_T} {cf : cf_T} {k : kc_T} (hK : HK σ Q cf k) {j pc : Nat} {ls : ml_T} {st : List mv_T} {fs : List fr_T} {m : mm_T} {q n : Nat} (h : op_loadR q n j pc ls st fs m k = some cf) : ldR ls q fun a => At j (pc + n) ls (vR a :: st) (sg σ m) (CQ fs Q) := by
  unfold op_loadR at h
  split at h
  · next a e =>
    rw [nthE_eq] at e
    refine ldR_mk e ?_
    simp only [fz_eq, fzN_eq, lfz_eq] at h
    exact hK _ _ _ _ _ _ h
  · cases h

set_option maxHeartbeats 1000000 in
theorem s_storeI {σ : ms_T} {Q : mq_T} {cf : cf_T} {k : kc_T} (hK : HK σ Q cf k) {j pc : Nat} {ls : ml_T} {st : List mv_T} {fs : List fr_T} {m : mm_T} {q n : Nat} (h : op_storeI q n j pc ls st fs m k = some cf) : pI st fun a r => gd (Nat.blt q ls.length && nol ls q) (At j (pc + n) (put ls q (some (vI a))) r (sg σ m) (CQ fs Q)) := by
  unfold op_storeI at h
  split at h
  · next a r =>
    obtain ⟨h1, h⟩ := wBool_ok h
    obtain ⟨h2, h⟩ := setK_ok h
    rw [nolE_eq] at h1
    refine pI_mk (gd_mk (and_mk (blt_mk h2) h1) ?_)
    simp only [fz_eq, fzN_eq, lfz_eq] at h
    exact hK _ _ _ _ _ _ h
  · cases h

set_option maxHeartbeats 1000000 in
theorem s_storeR {σ : ms_T} {Q : mq_T} {cf : cf_T} {k : kc_T} (hK : HK σ Q cf k) {j pc : Nat} {ls : ml_T} {st : List mv_T} {fs : List fr_T} {m : mm_T} {q n : Nat} (h : op_storeR q n j pc ls st fs m k = some cf) : pR st fun a r => gd (Nat.blt q ls.length && nol ls q) (At j (pc + n) (put ls q (some (vR a))) r (sg σ m) (CQ fs Q)) := by
  unfold op_storeR at h
  split at h
  · next a r =>
    obtain ⟨h1, h⟩ := wBool_ok h
    obtain ⟨h2, h⟩ := setK_ok h
    rw [nolE_eq] at h1
    refine pR_mk (gd_mk (and_mk (blt_mk h2) h1) ?_)
    simp only [fz_eq, fzN_eq, lfz_eq] at h
    exact hK _ _ _ _ _ _ h
  · cases h

set_option maxHeartbeats 1000000 in
theorem s_storeL {σ : ms_T} {Q : mq_T} {cf : cf_T} {k : kc_T} (hK : HK σ Q cf k) {j pc : Nat} {ls : ml_T} {st : List mv_T} {fs : List fr_T} {m : mm_T} {q n : Nat} (h : op_storeL q n j pc ls st fs m k = some cf) : pL st fun a r => gd (Nat.blt (q + 1) ls.length && nol ls q) (At j (pc + n) (put (put ls q (some (vL a))) (q + 1) none) r (sg σ m) (CQ fs Q)) := by
  unfold op_storeL at h
  split at h
  · next a r =>
    obtain ⟨h1, h⟩ := wBool_ok h
    obtain ⟨h2, h⟩ := setK_ok h
    obtain ⟨h3, h⟩ := setK_ok h
    rw [putE_len] at h3
    rw [nolE_eq] at h1
    refine pL_mk (gd_mk (and_mk (blt_mk h3) h1) ?_)
    simp only [fz_eq, fzN_eq, lfz_eq] at h
    exact hK _ _ _ _ _ _ h
  · cases h

set_option maxHeartbeats 1000000 in
theorem s_iinc {σ : ms_T} {Q : mq_T} {cf : cf_T} {k : kc_T} (hK : HK σ Q cf k) {j pc : Nat} {ls : ml_T} {st : List mv_T} {fs : List fr_T} {m : mm_T} {q : Nat} {v : Int} (h : op_iinc q v j pc ls st fs m k = some cf) : ldI ls q fun a => gd (Nat.blt q ls.length && nol ls q) (At j (pc + 3) (put ls q (some (vI (wr (a + v))))) st (sg σ m) (CQ fs Q)) := by
  unfold op_iinc at h
  split at h
  · next a e =>
    rw [nthE_eq] at e
    obtain ⟨h1, h⟩ := wBool_ok h
    rw [fz_eq] at h
    obtain ⟨h2, h⟩ := setK_ok h
    rw [nolE_eq] at h1
    refine ldI_mk e (gd_mk (and_mk (blt_mk h2) h1) ?_)
    simp only [fz_eq, fzN_eq, lfz_eq] at h
    exact hK _ _ _ _ _ _ h
  · cases h

set_option maxHeartbeats 1000000 in
theorem s_bin {σ : ms_T} {Q : mq_T} {cf : cf_T} {k : kc_T} (hK : HK σ Q cf k) {j pc : Nat} {ls : ml_T} {st : List mv_T} {fs : List fr_T} {m : mm_T} {f : Int → Int → Int} (h : op_bin f j pc ls st fs m k = some cf) : pI st fun b r => pI r fun a r => At j (pc + 1) ls (vI (f a b) :: r) (sg σ m) (CQ fs Q) := by
  unfold op_bin at h
  split at h
  · next b a r =>
    simp only [fz_eq, fzN_eq, lfz_eq] at h
    exact hK _ _ _ _ _ _ h
  · cases h

set_option maxHeartbeats 1000000 in
theorem s_binL {σ : ms_T} {Q : mq_T} {cf : cf_T} {k : kc_T} (hK : HK σ Q cf k) {j pc : Nat} {ls : ml_T} {st : List mv_T} {fs : List fr_T} {m : mm_T} {f : Int → Int → Int} (h : op_binL f j pc ls st fs m k = some cf) : pL st fun b r => pL r fun a r => At j (pc + 1) ls (vL (f a b) :: r) (sg σ m) (CQ fs Q) := by
  unfold op_binL at h
  split at h
  · next b a r =>
    simp only [fz_eq, fzN_eq, lfz_eq] at h
    exact hK _ _ _ _ _ _ h
  · cases h

set_option maxHeartbeats 1000000 in
theorem s_binLI {σ : ms_T} {Q : mq_T} {cf : cf_T} {k : kc_T} (hK : HK σ Q cf k) {j pc : Nat} {ls : ml_T} {st : List mv_T} {fs : List fr_T} {m : mm_T} {f : Int → Int → Int} (h : op_binLI f j pc ls st fs m k = some cf) : pI st fun b r => pL r fun a r => At j (pc + 1) ls (vL (f a b) :: r) (sg σ m) (CQ fs Q) := by
  unfold op_binLI at h
  split at h
  · next b a r =>
    simp only [fz_eq, fzN_eq, lfz_eq] at h
    exact hK _ _ _ _ _ _ h
  · cases h

set_option maxHeartbeats 1000000 in
theorem s_cmp {σ : ms_T} {Q : mq_T} {cf : cf_T} {k : kc_T} (hK : HK σ Q cf k) {j pc : Nat} {ls : ml_T} {st : List mv_T} {fs : List fr_T} {m : mm_T} {f : Int → Int → Int} (h : op_cmp f j pc ls st fs m k = some cf) : pL st fun b r => pL r fun a r => At j (pc + 1) ls (vI (f a b) :: r) (sg σ m) (CQ fs Q) := by
  unfold op_cmp at h
  split at h
  · next b a r =>
    simp only [fz_eq, fzN_eq, lfz_eq] at h
    exact hK _ _ _ _ _ _ h
  · cases h

set_option maxHeartbeats 1000000 in
theorem s_div {σ : ms_T} {Q : mq_T} {cf : cf_T} {k : kc_T} (hK : HK σ Q cf k) {j pc : Nat} {ls : ml_T} {st : List mv_T} {fs : List fr_T} {m : mm_T} {f : Int → Int → Int} (h : op_div f j pc ls st fs m k = some cf) : pI st fun b r => pI r fun a r => ¬ b = 0 ∧ At j (pc + 1) ls (vI (f a b) :: r) (sg σ m) (CQ fs Q) := by
  unfold op_div at h
  split at h
  · next b a r =>
    obtain ⟨h1, h⟩ := wBool_ok h
    rw [notB_eq, beqI_ok] at h1
    simp only [fz_eq, fzN_eq, lfz_eq] at h
    exact ⟨h1, hK _ _ _ _ _ _ h⟩
  · cases h

set_option maxHeartbeats 1000000 in
theorem s_divL {σ : ms_T} {Q : mq_T} {cf : cf_T} {k : kc_T} (hK : HK σ Q cf k) {j pc : Nat} {ls : ml_T} {st : List mv_T} {fs : List fr_T} {m : mm_T} {f : Int → Int → Int} (h : op_divL f j pc ls st fs m k = some cf) : pL st fun b r => pL r fun a r => ¬ b = 0 ∧ At j (pc + 1) ls (vL (f a b) :: r) (sg σ m) (CQ fs Q) := by
  unfold op_divL at h
  split at h
  · next b a r =>
    obtain ⟨h1, h⟩ := wBool_ok h
    rw [notB_eq, beqI_ok] at h1
    simp only [fz_eq, fzN_eq, lfz_eq] at h
    exact ⟨h1, hK _ _ _ _ _ _ h⟩
  · cases h

set_option maxHeartbeats 1000000 in
theorem s_i2l {σ : ms_T} {Q : mq_T} {cf : cf_T} {k : kc_T} (hK : HK σ Q cf k) {j pc : Nat} {ls : ml_T} {st : List mv_T} {fs : List fr_T} {m : mm_T}  (h : op_i2l  j pc ls st fs m k = some cf) : pI st fun a r => At j (pc + 1) ls (vL a :: r) (sg σ m) (CQ fs Q) := by
  unfold op_i2l at h
  split at h
  · simp only [fz_eq, fzN_eq, lfz_eq] at h
    exact hK _ _ _ _ _ _ h
  · cases h

set_option maxHeartbeats 1000000 in
theorem s_l2i {σ : ms_T} {Q : mq_T} {cf : cf_T} {k : kc_T} (hK : HK σ Q cf k) {j pc : Nat} {ls : ml_T} {st : List mv_T} {fs : List fr_T} {m : mm_T}  (h : op_l2i  j pc ls st fs m k = some cf) : pL st fun a r => At j (pc + 1) ls (vI (wr a) :: r) (sg σ m) (CQ fs Q) := by
  unfold op_l2i at h
  split at h
  · simp only [fz_eq, fzN_eq, lfz_eq] at h
    exact hK _ _ _ _ _ _ h
  · cases h

set_option maxHeartbeats 1000000 in
theorem s_i2c {σ : ms_T} {Q : mq_T} {cf : cf_T} {k : kc_T} (hK : HK σ Q cf k) {j pc : Nat} {ls : ml_T} {st : List mv_T} {fs : List fr_T} {m : mm_T}  (h : op_i2c  j pc ls st fs m k = some cf) : pI st fun a r => 0 ≤ a ∧ a < 65536 ∧ At j (pc + 1) ls (vI a :: r) (sg σ m) (CQ fs Q) := by
  unfold op_i2c at h
  split at h
  · next a r =>
    obtain ⟨h1, h⟩ := wBool_ok h
    obtain ⟨h2, h⟩ := wBool_ok h
    rw [notB_eq, bltI_ok] at h1
    rw [bltI_ok] at h2
    simp only [fz_eq, fzN_eq, lfz_eq] at h
    have h1 : ¬ a < 0 := h1
    exact ⟨by omega, h2, hK _ _ _ _ _ _ h⟩
  · cases h

set_option maxHeartbeats 1000000 in
theorem s_dup {σ : ms_T} {Q : mq_T} {cf : cf_T} {k : kc_T} (hK : HK σ Q cf k) {j pc : Nat} {ls : ml_T} {st : List mv_T} {fs : List fr_T} {m : mm_T}  (h : op_dup  j pc ls st fs m k = some cf) : p1 st fun a r => At j (pc + 1) ls (a :: a :: r) (sg σ m) (CQ fs Q) := by
  unfold op_dup at h
  split at h
  · obtain ⟨h1, h⟩ := wBool_ok h
    simp only [fz_eq, fzN_eq, lfz_eq] at h
    exact p1_mk (isW_ok h1) (hK _ _ _ _ _ _ h)
  · cases h

set_option maxHeartbeats 1000000 in
theorem s_dup2 {σ : ms_T} {Q : mq_T} {cf : cf_T} {k : kc_T} (hK : HK σ Q cf k) {j pc : Nat} {ls : ml_T} {st : List mv_T} {fs : List fr_T} {m : mm_T}  (h : op_dup2  j pc ls st fs m k = some cf) : p1 st fun b r => p1 r fun a r => At j (pc + 1) ls (b :: a :: b :: a :: r) (sg σ m) (CQ fs Q) := by
  unfold op_dup2 at h
  split at h
  · obtain ⟨h1, h⟩ := wBool_ok h
    obtain ⟨h2, h⟩ := wBool_ok h
    simp only [fz_eq, fzN_eq, lfz_eq] at h
    exact p1_mk (isW_ok h1) (p1_mk (isW_ok h2) (hK _ _ _ _ _ _ h))
  · cases h

set_option maxHeartbeats 1000000 in
theorem s_pop {σ : ms_T} {Q : mq_T} {cf : cf_T} {k : kc_T} (hK : HK σ Q cf k) {j pc : Nat} {ls : ml_T} {st : List mv_T} {fs : List fr_T} {m : mm_T}  (h : op_pop  j pc ls st fs m k = some cf) : p1 st fun _ r => At j (pc + 1) ls r (sg σ m) (CQ fs Q) := by
  unfold op_pop at h
  split at h
  · obtain ⟨h1, h⟩ := wBool_ok h
    simp only [fz_eq, fzN_eq, lfz_eq] at h
    exact p1_mk (isW_ok h1) (hK _ _ _ _ _ _ h)
  · cases h

set_option maxHeartbeats 1000000 in
theorem s_goto {σ : ms_T} {Q : mq_T} {cf : cf_T} {k : kc_T} (hK : HK σ Q cf k) {j pc : Nat} {ls : ml_T} {st : List mv_T} {fs : List fr_T} {m : mm_T} {t : Nat} (h : op_goto t j pc ls st fs m k = some cf) : At j t ls st (sg σ m) (CQ fs Q) := by
  unfold op_goto at h
  simp only [fz_eq, fzN_eq, lfz_eq] at h
  exact hK _ _ _ _ _ _ h

set_option maxHeartbeats 1000000 in
theorem s_ifc {σ : ms_T} {Q : mq_T} {cf : cf_T} {k : kc_T} (hK : HK σ Q cf k) {j pc : Nat} {ls : ml_T} {st : List mv_T} {fs : List fr_T} {m : mm_T} {c : ClassFile.Cond} {t : Nat} (h : op_ifc c t j pc ls st fs m k = some cf) : pI st fun a r => (icnd c a 0 → At j t ls r (sg σ m) (CQ fs Q)) ∧ (¬ icnd c a 0 → At j (pc + 3) ls r (sg σ m) (CQ fs Q)) := by
  unfold op_ifc at h
  split at h
  · next a r =>
    split at h
    · next e =>
      simp only [fz_eq, fzN_eq, lfz_eq] at h
      exact ⟨fun _ => hK _ _ _ _ _ _ h, fun z => absurd (cndE_ok.mp e) z⟩
    · next e =>
      simp only [fz_eq, fzN_eq, lfz_eq] at h
      exact ⟨fun z => Bool.noConfusion (e.symm.trans (cndE_ok.mpr z)), fun _ => hK _ _ _ _ _ _ h⟩
  · cases h
end
