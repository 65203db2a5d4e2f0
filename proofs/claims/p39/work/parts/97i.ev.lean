/-! The evaluator -/
noncomputable section
theorem pI_w {st : List mv_T} {F G : Int → List mv_T → Prop} (hFG : ∀ a r, F a r → G a r) (h : pI st F) : pI st G := by
  obtain ⟨a, r, e, h⟩ := pI_inv h
  subst e
  exact hFG a r h
theorem pR_w {st : List mv_T} {F G : Option Nat → List mv_T → Prop} (hFG : ∀ a r, F a r → G a r) (h : pR st F) : pR st G := by
  obtain ⟨a, r, e, h⟩ := pR_inv h
  subst e
  exact hFG a r h
theorem okA_w {σ : ms_T} {o : Option Nat} {kd : Nat} {i : Int} {F G : Nat → Prop} (hFG : ∀ c, F c → G c) (h : okA σ o kd i F) : okA σ o kd i G := by
  obtain ⟨c, e, a1, a2, a3, a4⟩ := isS_inv h
  subst e
  exact ⟨a1, a2, a3, hFG c a4⟩
def opOf (e : Option me_T) : Option op_T := match e with
  | some (.aconst_null, _, _) => some (op_null 1)
  | some (.iconst _, [n], v) => some (op_push v n)
  | some (.bipush _, [n], v) => some (op_push v n)
  | some (.sipush _, [n], v) => some (op_push v n)
  | some (.lconst _, _, v) => some (op_pushL v 1)
  | some (.ldc _, _, v) => some (op_push v 2)
  | some (.ldc2_w _, _, v) => some (op_pushL v 3)
  | some (.iload_n _, [q, n], _) => some (op_loadI q n)
  | some (.iload _, [q, n], _) => some (op_loadI q n)
  | some (.lload_n _, [q, n], _) => some (op_loadL q n)
  | some (.lload _, [q, n], _) => some (op_loadL q n)
  | some (.aload_n _, [q, n], _) => some (op_loadR q n)
  | some (.aload _, [q, n], _) => some (op_loadR q n)
  | some (.istore_n _, [q, n], _) => some (op_storeI q n)
  | some (.istore _, [q, n], _) => some (op_storeI q n)
  | some (.lstore_n _, [q, n], _) => some (op_storeL q n)
  | some (.lstore _, [q, n], _) => some (op_storeL q n)
  | some (.astore_n _, [q, n], _) => some (op_storeR q n)
  | some (.astore _, [q, n], _) => some (op_storeR q n)
  | some (.iinc _ _, [q], v) => some (op_iinc q v)
  | some (.iadd, _, _) => some (op_bin fAdd)
  | some (.isub, _, _) => some (op_bin fSub)
  | some (.imul, _, _) => some (op_bin fMul)
  | some (.idiv, _, _) => some (op_div fDiv)
  | some (.irem, _, _) => some (op_div fRem)
  | some (.iand, _, _) => some (op_bin bAnd)
  | some (.ior, _, _) => some (op_bin bOr)
  | some (.ixor, _, _) => some (op_bin bXor)
  | some (.ishl, _, _) => some (op_bin bShl)
  | some (.ishr, _, _) => some (op_bin bShr)
  | some (.i2l, _, _) => some (op_i2l)
  | some (.i2c, _, _) => some (op_i2c)
  | some (.ladd, _, _) => some (op_binL gAdd)
  | some (.lmul, _, _) => some (op_binL gMul)
  | some (.lrem, _, _) => some (op_divL fRem)
  | some (.land, _, _) => some (op_binL lAnd)
  | some (.lshr, _, _) => some (op_binLI lShr)
  | some (.l2i, _, _) => some (op_l2i)
  | some (.lcmp, _, _) => some (op_cmp cmpE)
  | some (.dup, _, _) => some (op_dup)
  | some (.dup2, _, _) => some (op_dup2)
  | some (.pop, _, _) => some (op_pop)
  | some (.goto _, [t], _) => some (op_goto t)
  | some (.ifCond c _, [t], _) => some (op_ifc c t)
  | some (.if_icmp c _, [t], _) => some (op_icmp c t)
  | some (.ifnull _, [t], _) => some (op_ifnull t)
  | some (.ifnonnull _, [t], _) => some (op_ifnonnull t)
  | some (.tableswitch _ _ _ _, d :: ts, lo) => some (op_switch d ts lo)
  | some (.getfield _, [ci, q, 2, _], _) => some (op_getR ci q)
  | some (.getfield _, [ci, q, 1, _], _) => some (op_getI ci q)
  | some (.getfield _, [ci, q, 0, _], _) => some (op_getI ci q)
  | some (.putfield _, [ci, q, 2, _], _) => some (op_putR ci q)
  | some (.putfield _, [ci, q, 1, _], _) => some (op_putZ ci q)
  | some (.putfield _, [ci, q, 0, _], _) => some (op_putI ci q)
  | some (.iaload, [kd], _) => some (op_ald kd)
  | some (.caload, [kd], _) => some (op_ald kd)
  | some (.aaload, _, _) => some (op_aald)
  | some (.iastore, [kd], _) => some (op_ast kd false)
  | some (.castore, [kd], _) => some (op_ast kd true)
  | some (.aastore, _, _) => some (op_aast)
  | some (.new _, [ci, n], _) => some (op_new ci n)
  | some (.newarray _, [kd], _) => some (op_newI kd)
  | some (.anewarray _, [kd], _) => some (op_newQ kd)
  | some (.invokevirtual _, [j2, n, rk, ci], 0) => some (op_callV j2 n rk ci)
  | some (.invokestatic _, [j2, n, rk, _], 1) => some (op_callS j2 n rk)
  | some (.invokespecial _, [j2, n, _, ci], 2) => some (op_callI j2 n ci)
  | some (.invokespecial _, [], 3) => some (op_obj)
  | some (.invokestatic _, [], 4) => some (op_mm minE)
  | some (.invokestatic _, [], 5) => some (op_mm maxE)
  | some (.return_, _, _) => some (op_ret)
  | some (.ireturn, _, _) => some (op_iret)
  | some (.lreturn, _, _) => some (op_lret)
  | some (.areturn, _, _) => some (op_aret)
  | _ => none
set_option maxHeartbeats 8000000 in
set_option maxRecDepth 100000 in
theorem op_ok {σ : ms_T} {Q : mq_T} {cf : cf_T} {k : kc_T} (hK : HK σ Q cf k) {j pc : Nat} {ls : ml_T} {st : List mv_T} {fs : List fr_T} {m : mm_T} {f : op_T} (hf : opOf (code_of j pc) = some f) (h : f j pc ls st fs m k = some cf) : At j pc ls st (sg σ m) (CQ fs Q) := by
  generalize hc : code_of j pc = o at hf
  unfold opOf at hf
  split at hf
  · cases hf
    refine At_wpi hc ?_
    exact s_null hK h
  · cases hf
    refine At_wpi hc ?_
    exact s_push hK h
  · cases hf
    refine At_wpi hc ?_
    exact s_push hK h
  · cases hf
    refine At_wpi hc ?_
    exact s_push hK h
  · cases hf
    refine At_wpi hc ?_
    exact s_pushL hK h
  · cases hf
    refine At_wpi hc ?_
    exact s_push hK h
  · cases hf
    refine At_wpi hc ?_
    exact s_pushL hK h
  · cases hf
    refine At_wpi hc ?_
    exact s_loadI hK h
  · cases hf
    refine At_wpi hc ?_
    exact s_loadI hK h
  · cases hf
    refine At_wpi hc ?_
    exact s_loadL hK h
  · cases hf
    refine At_wpi hc ?_
    exact s_loadL hK h
  · cases hf
    refine At_wpi hc ?_
    exact s_loadR hK h
  · cases hf
    refine At_wpi hc ?_
    exact s_loadR hK h
  · cases hf
    refine At_wpi hc ?_
    exact s_storeI hK h
  · cases hf
    refine At_wpi hc ?_
    exact s_storeI hK h
  · cases hf
    refine At_wpi hc ?_
    exact s_storeL hK h
  · cases hf
    refine At_wpi hc ?_
    exact s_storeL hK h
  · cases hf
    refine At_wpi hc ?_
    exact s_storeR hK h
  · cases hf
    refine At_wpi hc ?_
    exact s_storeR hK h
  · cases hf
    refine At_wpi hc ?_
    exact s_iinc hK h
  · cases hf
    refine At_wpi hc ?_
    exact s_bin (f := fAdd) hK h
  · cases hf
    refine At_wpi hc ?_
    exact s_bin (f := fSub) hK h
  · cases hf
    refine At_wpi hc ?_
    exact s_bin (f := fMul) hK h
  · cases hf
    refine At_wpi hc ?_
    exact s_div (f := fDiv) hK h
  · cases hf
    refine At_wpi hc ?_
    exact s_div (f := fRem) hK h
  · cases hf
    refine At_wpi hc ?_
    exact s_bin (f := bAnd) hK h
  · cases hf
    refine At_wpi hc ?_
    exact s_bin (f := bOr) hK h
  · cases hf
    refine At_wpi hc ?_
    exact s_bin (f := bXor) hK h
  · cases hf
    refine At_wpi hc ?_
    exact s_bin (f := bShl) hK h
  · cases hf
    refine At_wpi hc ?_
    exact s_bin (f := bShr) hK h
  · cases hf
    refine At_wpi hc ?_
    exact s_i2l hK h
  · cases hf
    refine At_wpi hc ?_
    exact s_i2c hK h
  · cases hf
    refine At_wpi hc ?_
    exact s_binL (f := gAdd) hK h
  · cases hf
    refine At_wpi hc ?_
    exact s_binL (f := gMul) hK h
  · cases hf
    refine At_wpi hc ?_
    exact s_divL (f := fRem) hK h
  · cases hf
    refine At_wpi hc ?_
    exact s_binL (f := lAnd) hK h
  · cases hf
    refine At_wpi hc ?_
    exact s_binLI (f := lShr) hK h
  · cases hf
    refine At_wpi hc ?_
    exact s_l2i hK h
  · cases hf
    refine At_wpi hc ?_
    have h2 := s_cmp (f := cmpE) hK h
    simp only [cmpE_eq] at h2
    exact h2
  · cases hf
    refine At_wpi hc ?_
    exact s_dup hK h
  · cases hf
    refine At_wpi hc ?_
    exact s_dup2 hK h
  · cases hf
    refine At_wpi hc ?_
    exact s_pop hK h
  · cases hf
    refine At_wpi hc ?_
    exact s_goto hK h
  · cases hf
    refine At_wpi hc ?_
    exact s_ifc hK h
  · cases hf
    refine At_wpi hc ?_
    exact s_icmp hK h
  · cases hf
    refine At_wpi hc ?_
    exact s_ifnull hK h
  · cases hf
    refine At_wpi hc ?_
    exact s_ifnonnull hK h
  · cases hf
    refine At_wpi hc ?_
    exact s_switch hK h
  · cases hf
    refine At_wpi hc ?_
    exact s_getR hK h
  · cases hf
    refine At_wpi hc ?_
    exact s_getI hK h
  · cases hf
    refine At_wpi hc ?_
    exact s_getI hK h
  · cases hf
    refine At_wpi hc ?_
    exact s_putR hK h
  · cases hf
    refine At_wpi hc ?_
    exact s_putZ hK h
  · cases hf
    refine At_wpi hc ?_
    exact s_putI hK h
  · cases hf
    refine At_wpi hc ?_
    exact s_ald hK h
  · cases hf
    refine At_wpi hc ?_
    exact s_ald hK h
  · cases hf
    refine At_wpi hc ?_
    exact s_aald hK h
  · cases hf
    refine At_wpi hc ?_
    exact pI_w (fun _ _ => pI_w fun _ _ => pR_w fun _ _ => okA_w fun _ y => y.2) (s_ast (ch := false) hK h)
  · cases hf
    refine At_wpi hc ?_
    exact pI_w (fun _ _ => pI_w fun _ _ => pR_w fun _ _ => okA_w fun _ y => ⟨(y.1 rfl).1, (y.1 rfl).2, y.2⟩) (s_ast (ch := true) hK h)
  · cases hf
    refine At_wpi hc ?_
    exact s_aast hK h
  · cases hf
    refine At_wpi hc ?_
    exact s_new hK h
  · cases hf
    refine At_wpi hc ?_
    exact s_newI hK h
  · cases hf
    refine At_wpi hc ?_
    exact s_newQ hK h
  · cases hf
    refine At_wpi hc ?_
    exact s_callV hK h
  · cases hf
    refine At_wpi hc ?_
    exact s_callS hK h
  · cases hf
    refine At_wpi hc ?_
    exact s_callI hK h
  · cases hf
    refine At_wpi hc ?_
    exact s_obj hK h
  · cases hf
    refine At_wpi hc ?_
    have h2 := s_mm (f := minE) hK h
    simp only [minE_eq] at h2
    exact h2
  · cases hf
    refine At_wpi hc ?_
    have h2 := s_mm (f := maxE) hK h
    simp only [maxE_eq] at h2
    exact h2
  · cases hf
    refine At_wpi hc ?_
    exact s_ret hK h
  · cases hf
    refine At_wpi hc ?_
    exact s_iret hK h
  · cases hf
    refine At_wpi hc ?_
    exact s_lret hK h
  · cases hf
    refine At_wpi hc ?_
    exact s_aret hK h
  · cases hf
/-- n steps on -/
def go1 (o : Option op_T) : op_T := fun j pc ls st fs m k => match o with
  | some f => f j pc ls st fs m k
  | none => none
theorem go1_ok {o : Option op_T} {j pc : Nat} {ls : ml_T} {st : List mv_T} {fs : List fr_T} {m : mm_T} {k : kc_T} {cf : cf_T} (h : go1 o j pc ls st fs m k = some cf) : ∃ f, o = some f ∧ f j pc ls st fs m k = some cf := by
  unfold go1 at h
  split at h
  · exact ⟨_, rfl, h⟩
  · cases h
/-- n steps on: the evaluator itself -/
def rn (n : Nat) : kc_T := Nat.rec (motive := fun _ => kc_T) (fun j pc ls st fs m => some (j, pc, ls, st, fs, m)) (fun _ ih j pc ls st fs m => go1 (opOf (code_of j pc)) j pc ls st fs m ih) n
theorem rn_ok {σ : ms_T} {Q : mq_T} {j' pc' : Nat} {ls' : ml_T} {st' : List mv_T} {fs' : List fr_T} {m' : mm_T} (hE : At j' pc' ls' st' (sg σ m') (CQ fs' Q)) : ∀ n, HK σ Q (j', pc', ls', st', fs', m') (rn n)
  | 0, j, pc, ls, st, fs, m, h => by
    cases h
    exact hE
  | n + 1, j, pc, ls, st, fs, m, h => by
    obtain ⟨f, h1, h2⟩ := go1_ok (show go1 (opOf (code_of j pc)) j pc ls st fs m (rn n) = some _ from h)
    exact op_ok (rn_ok hE n) h1 h2
def eqL {α : Type} (f : α → α → Bool) : List α → List α → Bool
  | [], [] => true
  | x :: xs, y :: ys => match f x y with
    | true => eqL f xs ys
    | false => false
  | _, _ => false
theorem eqL_ok {α : Type} {f : α → α → Bool} (hf : ∀ a b, f a b = true → a = b) : ∀ {xs ys : List α}, eqL f xs ys = true → xs = ys
  | [], [], _ => rfl
  | [], _ :: _, h => by cases h
  | _ :: _, [], h => by cases h
  | x :: xs, y :: ys, h => by
    unfold eqL at h
    split at h
    · next e => rw [hf _ _ e, eqL_ok hf h]
    · cases h
def eqN (a b : Option Nat) : Bool := match a, b with
  | none, none => true
  | some x, some y => Nat.beq x y
  | _, _ => false
theorem eqN_ok (a b : Option Nat) (h : eqN a b = true) : a = b := by
  unfold eqN at h
  split at h
  · rfl
  · rw [Nat.eq_of_beq_eq_true h]
  · cases h
def eqV (a b : mv_T) : Bool := match a, b with
  | .inl x, .inl y => beqI x y
  | .inr (.inl x), .inr (.inl y) => beqI x y
  | .inr (.inr x), .inr (.inr y) => eqN x y
  | _, _ => false
theorem eqV_ok (a b : mv_T) (h : eqV a b = true) : a = b := by
  unfold eqV at h
  split at h
  · rw [beqI_ok.mp h]
  · rw [beqI_ok.mp h]
  · rw [eqN_ok _ _ h]
  · cases h
def eqM (a b : Option mv_T) : Bool := match a, b with
  | none, none => true
  | some x, some y => eqV x y
  | _, _ => false
theorem eqM_ok (a b : Option mv_T) (h : eqM a b = true) : a = b := by
  unfold eqM at h
  split at h
  · rfl
  · rw [eqV_ok _ _ h]
  · cases h
def bAn (a b : Bool) : Bool := match a with
  | true => b
  | false => false
theorem bAn_ok {a b : Bool} (h : bAn a b = true) : a = true ∧ b = true := by
  unfold bAn at h
  split at h
  · exact ⟨rfl, h⟩
  · cases h
def eqF (a b : fr_T) : Bool := match a, b with
  | (j, p, l, r, k), (j', p', l', r', k') => bAn (Nat.beq j j') (bAn (Nat.beq p p') (bAn (eqL eqM l l') (bAn (eqL eqV r r') (Nat.beq k k'))))
theorem eqF_ok (a b : fr_T) (h : eqF a b = true) : a = b := by
  obtain ⟨j, p, l, r, k⟩ := a
  obtain ⟨j', p', l', r', k'⟩ := b
  obtain ⟨h1, h⟩ := bAn_ok h
  obtain ⟨h2, h⟩ := bAn_ok h
  obtain ⟨h3, h⟩ := bAn_ok h
  obtain ⟨h4, h⟩ := bAn_ok h
  rw [Nat.eq_of_beq_eq_true h1, Nat.eq_of_beq_eq_true h2, eqL_ok eqM_ok h3, eqL_ok eqV_ok h4, Nat.eq_of_beq_eq_true h]
def eqE (a b : ec_T) : Bool := match a, b with
  | ((k, n), i, r), ((k', n'), i', r') => bAn (Nat.beq k k') (bAn (Nat.beq n n') (bAn (eqL beqI i i') (eqL eqN r r')))
theorem eqE_ok (a b : ec_T) (h : eqE a b = true) : a = b := by
  obtain ⟨⟨k, n⟩, i, r⟩ := a
  obtain ⟨⟨k', n'⟩, i', r'⟩ := b
  obtain ⟨h1, h⟩ := bAn_ok h
  obtain ⟨h2, h⟩ := bAn_ok h
  obtain ⟨h3, h⟩ := bAn_ok h
  rw [Nat.eq_of_beq_eq_true h1, Nat.eq_of_beq_eq_true h2, eqL_ok (fun _ _ => beqI_ok.mp) h3, eqL_ok eqN_ok h]
def eqG (a b : mm_T) : Bool := match a, b with
  | (B, n, g, r), (B', n', g', r') => bAn (Nat.beq B B') (bAn (Nat.beq n n') (bAn (Nat.beq g g') (eqL (eqL eqE) r r')))
theorem eqG_ok (a b : mm_T) (h : eqG a b = true) : a = b := by
  obtain ⟨B, n, g, r⟩ := a
  obtain ⟨B', n', g', r'⟩ := b
  obtain ⟨h1, h⟩ := bAn_ok h
  obtain ⟨h2, h⟩ := bAn_ok h
  obtain ⟨h3, h⟩ := bAn_ok h
  rw [Nat.eq_of_beq_eq_true h1, Nat.eq_of_beq_eq_true h2, Nat.eq_of_beq_eq_true h3, eqL_ok (fun _ _ => eqL_ok eqE_ok) h]
def eqC (a : Option cf_T) (b : cf_T) : Bool := match a, b with
  | some (j, p, l, s, f, m), (j', p', l', s', f', m') => bAn (Nat.beq j j') (bAn (Nat.beq p p') (bAn (eqL eqM l l') (bAn (eqL eqV s s') (bAn (eqL eqF f f') (eqG m m')))))
  | none, _ => false
theorem eqC_ok {a : Option cf_T} {b : cf_T} (h : eqC a b = true) : a = some b := by
  obtain ⟨j', p', l', s', f', m'⟩ := b
  cases a with
  | none => cases h
  | some a =>
    obtain ⟨j, p, l, s, f, m⟩ := a
    obtain ⟨h1, h⟩ := bAn_ok h
    obtain ⟨h2, h⟩ := bAn_ok h
    obtain ⟨h3, h⟩ := bAn_ok h
    obtain ⟨h4, h⟩ := bAn_ok h
    obtain ⟨h5, h⟩ := bAn_ok h
    rw [Nat.eq_of_beq_eq_true h1, Nat.eq_of_beq_eq_true h2, eqL_ok eqM_ok h3, eqL_ok eqV_ok h4, eqL_ok eqF_ok h5, eqG_ok _ _ h]
def rnc (n : Nat) (c : cf_T) : Option cf_T := match c with
  | (j, pc, ls, st, fs, m) => rn n j pc ls st fs m
/-- holds at a place of a run -/
def Ah (σ : ms_T) (Q : mq_T) (c : cf_T) : Prop := At c.1 c.2.1 c.2.2.1 c.2.2.2.1 (sg σ c.2.2.2.2.2) (CQ c.2.2.2.2.1 Q)
theorem rnc_ok {σ : ms_T} {Q : mq_T} {n : Nat} {c c' : cf_T} (h : rnc n c = some c') (hE : Ah σ Q c') : Ah σ Q c := rn_ok hE n _ _ _ _ _ _ h
end
