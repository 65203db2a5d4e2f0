theorem vt_cm {z b : Nat} (v : mv_T) : (vt z b v).category = mcat v := by
  rcases v with v | v | v
  · rfl
  · rfl
  · cases v <;> rfl
theorem lg_sl_len {z b : Nat} : ∀ {as : List mv_T}, (lg_sl (as.map (vt z b))).length = mwds as
  | [] => rfl
  | v :: r => by
    have ih := lg_sl_len (z := z) (b := b) (as := r)
    have e := vt_cm (z := z) (b := b) v
    unfold lg_sl at ih ⊢
    simp only [List.map_cons, List.flatMap_cons, List.length_append, e, mwds]
    rw [ih]
    rcases v with v | v | v
    · rfl
    · rfl
    · rfl
theorem enN_nil {z b : Nat} : ∀ {n k : Nat}, en z b k (padN n []) = []
  | 0, _ => rfl
  | n + 1, k => enN_nil (n := n) (k := k + 1)
theorem en_pad {z b : Nat} : ∀ {as : List mv_T} {n k : Nat}, ∀ q ∈ en z b k (pad n as), q ∈ lv_args k (as.map (vt z b))
  | [], n, k, q, hq => by
    unfold pad xpa at hq
    rw [enN_nil] at hq
    cases hq
  | .inl a :: r, 0, k, q, hq => by cases hq
  | .inl a :: r, n + 1, k, q, hq => by
    rcases List.mem_cons.mp (show q ∈ (k, vt z b (vI a)) :: en z b (k + 1) (pad n r) from hq) with e1 | e1
    · rw [e1]
      exact List.mem_cons_self
    · exact List.mem_cons_of_mem _ (en_pad (as := r) q e1)
  | .inr (.inr a) :: r, 0, k, q, hq => by cases hq
  | .inr (.inr a) :: r, n + 1, k, q, hq => by
    have e := vt_cm (z := z) (b := b) (vR a)
    simp only [List.map_cons, lv_args, e]
    rcases List.mem_cons.mp (show q ∈ (k, vt z b (vR a)) :: en z b (k + 1) (pad n r) from hq) with e1 | e1
    · rw [e1]
      exact List.mem_cons_self
    · exact List.mem_cons_of_mem _ (en_pad (as := r) q e1)
  | .inr (.inl a) :: r, 0, k, q, hq => by cases hq
  | .inr (.inl a) :: r, 1, k, q, hq => by
    rcases List.mem_cons.mp (show q ∈ (k, vt z b (vL a)) :: [] from hq) with e1 | e1
    · rw [e1]
      exact List.mem_cons_self
    · cases e1
  | .inr (.inl a) :: r, n + 2, k, q, hq => by
    rcases List.mem_cons.mp (show q ∈ (k, vt z b (vL a)) :: en z b (k + 2) (pad n r) from hq) with e1 | e1
    · rw [e1]
      exact List.mem_cons_self
    · exact List.mem_cons_of_mem _ (en_pad (as := r) q e1)
theorem padN_len : ∀ {n : Nat} {xs : ml_T}, (padN n xs).length = n
  | 0, _ => rfl
  | n + 1, [] => by simp [padN, padN_len (n := n)]
  | n + 1, _ :: r => by simp [padN, padN_len (n := n)]
theorem pad_len {n : Nat} {as : List mv_T} : (pad n as).length = n := padN_len
theorem padN_in : ∀ {n : Nat} {xs : ml_T} {i : Nat} {v : mv_T}, nth (padN n xs) i = some (some v) → some v ∈ xs
  | 0, _, _, _, h => by cases h
  | n + 1, [], 0, v, h => by cases h
  | n + 1, [], i + 1, v, h => padN_in (n := n) h
  | n + 1, w :: r, 0, v, h => by cases h; exact List.mem_cons_self
  | n + 1, w :: r, i + 1, v, h => List.mem_cons_of_mem _ (padN_in (n := n) h)
theorem xpa_in : ∀ {as : List mv_T} {v : mv_T}, some v ∈ xpa as → v ∈ as
  | .inl a :: r, v, h => by
    rcases List.mem_cons.mp (show some v ∈ some (vI a) :: xpa r from h) with e | e
    · cases e; exact List.mem_cons_self
    · exact List.mem_cons_of_mem _ (xpa_in e)
  | .inr (.inr a) :: r, v, h => by
    rcases List.mem_cons.mp (show some v ∈ some (vR a) :: xpa r from h) with e | e
    · cases e; exact List.mem_cons_self
    · exact List.mem_cons_of_mem _ (xpa_in e)
  | .inr (.inl a) :: r, v, h => by
    rcases List.mem_cons.mp (show some v ∈ some (vL a) :: none :: xpa r from h) with e | e
    · cases e; exact List.mem_cons_self
    · rcases List.mem_cons.mp e with e | e
      · cases e
      · exact List.mem_cons_of_mem _ (xpa_in e)
theorem pad_in {n : Nat} {as : List mv_T} {i : Nat} {v : mv_T} (h : nth (pad n as) i = some (some v)) : v ∈ as := xpa_in (padN_in h)
set_option maxHeartbeats 4000000 in
set_option maxRecDepth 100000 in
theorem sim_all (l : Launch) (z b L : Nat) (xs : Nat → Int32) (D : va_G) (dA : Nat → ClassId) : ∀ n, SimAt l z b L xs D dA n := by
  intro n
  induction n using Nat.strongRecOn with
  | ind n ihn =>
    intro j as σ v τ hj hlen hin hL h
    refine Met.ofW (cc := bts j) (maxL := mxl j) (ret := rty j) (plain_ok j hj).1 rfl ?_
    intro p e s m args below meth c s₁ B hml hv
    obtain ⟨rfl, ⟨hK, hnw, hAO, hX, hbz, hzs⟩, hH⟩ := hv
    have hts := atoms_spec (ws := wsJ j) B.pre
    have hown : s.vm.findClass (cn (ow j)) = some m.cls := (plain_ok j hj).2.1 ▸ findClass_of_methodNamed B.named
    have hmn : (yn j).name = "<init>" → meth.name = "<init>" := fun h => (name_of_methodNamed B.named B.method).1.trans h
    have hle := Wm_le h
    have hl := lv_entry (as.map (vt z b)) (n := mxl j) (by rw [lg_sl_len]; exact hlen)
    rw [lg_entry_eq]
    generalize (lg_sl (as.map (vt z b)) ++ List.replicate (mxl j - (lg_sl (as.map (vt z b))).length) Slot.unset).toArray = lsR at hl ⊢
    have hLR : LR z b (mxl j) (pad (mxl j) as) lsR := ⟨lv_some hl en_pad, pad_len, fun i w hw => hin w (pad_in hw)⟩
    have hC : Ctx p (headSpec (wsJ j) ({ frames := rmF j, cells := gn τ - gn σ, slots := gl τ - gl σ, locals := rmL j } : Room)).room s m (List.map (vt z b) as).toArray meth c z b L xs D dA j :=
      ⟨B.exec, B.bytes, hml, B.returns, B.notSynchronized, hown, fun w hw => hts w (List.mem_cons_of_mem _ hw), hmn, hK, hnw, hAO, Nat.le_refl _, Nat.le_refl _, hX, hbz, hzs, hj, hL⟩
    have key := Body (l := l) (e := e) (below := below) (τ := τ) (v := v) (g0 := gn σ) (l0 := gl σ) hC (fun k hk => ihn k hk) hH.1 ⟨Nat.le_refl _, Nat.le_refl _⟩ (Z := MQ below (QcS z b L xs D dA v τ) (List.map (vt z b) as).toArray s (gn τ - gn σ) (gl τ - gl σ) (fun q => z ≤ q)) ?_ n (Nat.le_refl n) 0 (pad (mxl j) as) [] σ s.heap [] lsR h hLR (fun a ha => by cases ha) hH va_S.rf (Nat.le_refl _) (Nat.le_refl _)
    · rw [Nat.sub_self, Nat.sub_self] at key
      exact key
    · intro pc H locs lsR2 hr hH1 hS1
      have hrt := rty_ok j hj
      have hq : ∀ t : State, t.heap = H → s.WarmedH t.vm → QcS z b L xs D dA v τ (List.map (vt z b) as).toArray s (.returned (v.map (vt z b))) t := fun t ht _ => ⟨rfl, by rw [ht]; exact hH1, fun a ha => by
        subst ha
        rcases a with a | a | a
        · exact hr.2.2
        · exact hr.2.2
        · trivial, hS1.F ht⟩
      rcases v with _ | v | v | v
      · exact W.vret B.exec B.bytes (by rw [B.returns]; exact hrt.1 hr.2) hq hS1.2.2 hr.1 B.notSynchronized
      · rcases hr.2.1 with h1 | ⟨h1, h2⟩
        · exact W.iret B.exec B.bytes (by rw [B.returns]; exact hrt.2.1 h1) hq hS1.2.2 hr.1 B.notSynchronized
        · exact W.zret B.exec B.bytes (by rw [B.returns]; exact hrt.2.2.1 h1) (narrow_bool (z := z) (b := b) rfl h2) hq hS1.2.2 hr.1 B.notSynchronized
      · exact W.lret B.exec B.bytes (by rw [B.returns]; exact hrt.2.2.2.2.1 hr.2.1) hq hS1.2.2 hr.1 B.notSynchronized
      · rcases hrt.2.2.2.1 hr.2 with h1 | h1
        · exact W.aret B.exec B.bytes (by rw [B.returns]; exact h1) (Or.inl ⟨_, rfl⟩) (by cases v with
            | none => exact Or.inl rfl
            | some q => exact Or.inr ⟨_, rfl⟩) hq hS1.2.2 hr.1 B.notSynchronized
        · exact W.aret B.exec B.bytes (by rw [B.returns]; exact h1) (Or.inl ⟨_, rfl⟩) (by cases v with
            | none => exact Or.inl rfl
            | some q => exact Or.inr ⟨_, rfl⟩) hq hS1.2.2 hr.1 B.notSynchronized
/-- the start: the script alone -/
def st0 (L : Nat) (xs : Nat → Int32) : ms_T := ((0, 0), fun c => if c = 0 then (49, L) else (99, 0), fun c k => if c = 0 ∧ k < L then (xs k).toInt else 0, fun _ _ => none)
def R_law : String := "OrbitMailboxLaw"
def lw_P (b : Addr) (xs : List Int32) (args : Array Value) (s : State) : Prop := args = #[.ref b] ∧ s.IntsAt b xs ∧ xs.length ≤ 260 ∧ (Jvm.Cond.and given_1 narrow_1).before args s = true
def lw_Q (_ : Array Value) (s : State) (o : Outcome) (t : State) : Prop := o = .returned (some (.int 1)) ∧ Framed s o t [] 600000 7302250
def lw_Z (below : List Frame) (a : Array Value) (s : State) : State → Prop := fun t => ∃ o, t.status = .running ∧ Ended t below o ∧ lw_Q a s o t
/-- the law's own end, with 1 on the stack, nothing written that was there before, its room as the claim has it -/
theorem lw_ret {p : Program} {l : Launch} {e : Env} {s : State} {m : MethodId} {below : List Frame} {meth : Method} {c : Code} {b : Nat} (hx : p.tables.exec = Jvm.exec) (hb : c.code = code) (hr : meth.sig.returnType = ret) (hlocks : meth.locks = false) {pc : Nat} {H : Heap} {ls : Array Slot} (hdg : decode code pc = .ok (.ireturn, 1)) : W p l e room_1 s m #[Value.ref b] below meth c H [] 600000 7302250 (lw_Z below #[Value.ref b] s) (F0 m pc ls [.int 1]) := by
  intro T hT X
  obtain ⟨fs, hret, hrun, hended, hW, hframe⟩ := X.leave (v := some (.int 1)) (hlocks := hlocks) (fun h => by rw [hr] at h; cases h)
  have hmeth' : T.vm.method? m = some meth := X.method'
  refine ⟨T.setFrames fs, ?_, .returned (some (.int 1)), hrun, hended, rfl, ⟨_, rfl⟩, hW, hframe⟩
  jvm_step X.here [X.here.top, hx, hb, hdg, hmeth', hr, ret, narrow_b1]
  (try refine ⟨rfl, ?_⟩); (try refine ⟨rfl, ?_⟩)
  first | (intro acts; rw [hret _ acts rfl rfl rfl]) | rw [hret _ _ rfl rfl rfl]
  exact Steps.refl _
/-- what holds at the law's entry: the machine, the code, the tables' words (any of lw_tbl by 'hts w (by decide +kernel)'), the script of L ints xs at the cell b, what the Statement gives of the start (any of its parts by flat_of_before) -/
def lw_At (p : Program) (s : State) (m : MethodId) (meth : Method) (c : Code) (b L : Nat) (xs : Nat → Int32) : Prop :=
  p.tables.exec = Jvm.exec ∧ c.code = code ∧ meth.sig.returnType = ret ∧ c.maxLocals = 10 ∧ s.vm.findClass R_law = some m.cls ∧ (∀ w ∈ lw_tbl, w.before #[Value.ref b] s = true) ∧ va_X b L xs s s.heap ∧ b < s.heap.size ∧ meth.locks = false ∧ (Jvm.Cond.and given_1 narrow_1).before #[Value.ref b] s = true
set_option maxHeartbeats 4000000 in
set_option maxRecDepth 100000 in
/-- out of what the small machine says of the law -/
theorem start_of {p : Program} {e : Env} {s : State} {m : MethodId} {below : List Frame} {meth : Method} {c : Code} (l : Launch) {b L : Nat} {xs : Nat → Int32} (hL : L ≤ 260) (C0 : lw_At p s m meth c b L xs)
    (hF : Ca n_L_law [vR (some 0)] (st0 L xs) (fun v τ => v = some (vI 1) ∧ gn τ ≤ 600000 ∧ gl τ ≤ 7302250)) : W p l e room_1 s m #[Value.ref b] below meth c s.heap [] 0 0 (lw_Z below #[Value.ref b] s) (entryFrame m ([Value.ref b] : List Value).toArray 10) := by
  obtain ⟨hx, hb, hr, hml, hown, hts0, hX, hbl, hlocks, hgv⟩ := id C0
  have hts : ∀ w ∈ lwg, w.before #[Value.ref b] s = true := fun w hw => hts0 w (lwg_tbl w hw)
  have hkn : ∀ i, ∃ (c0 : ClassId) (iS : Nat → Nat), i < 9 → u_Kn s (cn i) (fT i) (nfl i) c0 iS := by
    intro i
    by_cases h : i < 9
    · obtain ⟨c0, iS, hk⟩ := u_known (C := cn i) (T := fT i) (N := nfl i) (n := nfl i) hts (lay_ok i h) (hts _ (isb_ok h))
      exact ⟨c0, iS, fun _ => hk⟩
    · exact ⟨0, fun _ => 0, fun h2 => absurd h2 h⟩
  have hcA : ∀ ty : FieldType, (Cond.arrayClass ty).before #[Value.ref b] s = true → ∃ cA, ArrOfT s cA ty ∧ s.vm.findClass ("[" ++ ty.toString) = some cA := by
    intro ty h
    obtain ⟨cA, kA, comp, h1, h2, h3⟩ := Cond.arrayClass_spec h
    exact ⟨cA, fun n z => ⟨fun k h => (by cases h), kA, h2, comp, h3⟩, h1⟩
  have hcO : ∀ C : String, (Cond.arrayOver (.object C)).before #[Value.ref b] s = true → ∃ cA, ArrOfT s cA (.object C) ∧ va_RA s cA (.object C) := by
    intro C h
    obtain ⟨comp, cA, kA, h1, -, h3, h4, h5⟩ := Cond.arrayOver_spec h
    exact ⟨cA, fun n z => ⟨fun k h => (by cases h), kA, h3, comp, h4⟩, kA, comp, h3, h4, h1, h5⟩
  obtain ⟨a50, h50, h50'⟩ := hcA .int (hts _ lw_arI)
  obtain ⟨a51, h51, h51'⟩ := hcA .char (hts _ lw_arC)
  obtain ⟨a62, h62, h62'⟩ := hcO RX2 (hts0 _ lw_ao2)
  obtain ⟨a64, h64, h64'⟩ := hcO RX4 (hts0 _ lw_ao4)
  obtain ⟨a67, h67, h67'⟩ := hcO RX7 (hts0 _ lw_ao7)
  obtain ⟨dC, hdC⟩ := Classical.axiomOfChoice hkn
  obtain ⟨dI, hdI⟩ := Classical.axiomOfChoice hdC
  let dA : Nat → ClassId := fun k => if k = 50 then a50 else if k = 51 then a51 else if k = 62 then a62 else if k = 64 then a64 else a67
  have hK : va_K (dC, dI) clsL (tysL dA) s := by
    refine ⟨fun k q hq => ?_, fun k q hq => ?_⟩
    · have hk : k < 9 := (List.getElem?_eq_some_iff.mp hq).1
      rw [cls_ok k hk] at hq
      cases hq
      exact hdI k hk
    · match k, hq with
      | 0, hq => cases hq; exact ⟨h50, h50'⟩
      | 1, hq => cases hq; exact ⟨h51, h51'⟩
      | 2, hq => cases hq; exact ⟨h62, h62'⟩
      | 3, hq => cases hq; exact ⟨h64, h64'⟩
      | 4, hq => cases hq; exact ⟨h67, h67'⟩
      | k + 5, hq => simp [tysL] at hq
  obtain ⟨n, hW⟩ := hF
  obtain ⟨v, τ, ⟨hv, hg1, hg2⟩, hW⟩ := Wm_pt hW
  subst hv
  have hj : (n_L_law : Nat) < 122 := by decide
  have hl := lv_entry ([.ref b]) (n := 10) (Nat.le_of_ble_eq_true rfl)
  rw [lg_entry_eq]
  generalize (lg_sl ([.ref b]) ++ List.replicate (10 - (lg_sl ([.ref b])).length) Slot.unset).toArray = lsR at hl ⊢
  have hmm : mxl n_L_law = 10 := mxl_121
  have hLR : LR s.heap.size b (mxl n_L_law) (pad (mxl n_L_law) [vR (some 0)]) lsR := ⟨by rw [hmm]; exact lv_some hl (en_pad (as := [vR (some 0)])), pad_len, fun i w hw => by
    have := pad_in hw
    rcases List.mem_singleton.mp this with rfl
    trivial⟩
  have hC : Ctx p room_1 s m #[Value.ref b] meth c s.heap.size b L xs (dC, dI) dA n_L_law :=
    ⟨hx, hb, by rw [hml, hmm], hr, hlocks, hown, hts, fun h => absurd h (by decide +kernel), hK, fun q hq => va_Nw.of rfl (hts0 _ (nst_ok q hq)), ⟨va_AO.of (hts0 _ lw_ao2), va_AO.of (hts0 _ lw_ao4), va_AO.of (hts0 _ lw_ao7)⟩, Nat.le_refl _, Nat.le_refl _, hX, hbl, Nat.le_refl _, hj, hL⟩
  have hH : HR s.heap.size b L xs (dC, dI) dA (st0 L xs) s.heap := by
    refine ⟨rfl, fun k q h => ?_, fun c k => ?_, rfl, fun k hk => ?_, fun c hc => ?_, fun c h1 h2 => ?_⟩
    · exact absurd h (by simp [wo, st0, gn])
    · show rg (if c = 0 ∧ k < L then (xs k).toInt else 0)
      split
      · exact rg_i32 _
      · exact rg0
    · show (if (0 : Nat) = 0 ∧ k < L then (xs k).toInt else 0) = _
      rw [if_pos ⟨rfl, hk⟩]
    · have h1 : c ≠ 0 := Nat.ne_of_gt hc
      show (if c = 0 then (49, L) else (99, 0)).1 = 99
      rw [if_neg h1]
    · exact absurd h2 (by show ¬ c ≤ 0; omega)
  have key := Body (l := l) (e := e) (below := below) (τ := τ) (v := some (vI 1)) (g0 := 0) (l0 := 0) hC (N := n) (fun k _ => sim_all l s.heap.size b L xs (dC, dI) dA k) rfl ⟨hg1, hg2⟩ (Z := lw_Z below #[Value.ref b] s) ?_ n (Nat.le_refl n) 0 (pad (mxl n_L_law) [vR (some 0)]) [] (st0 L xs) s.heap [] lsR hW hLR (fun a ha => by cases ha) hH va_S.rf (Nat.zero_le _) (Nat.zero_le _)
  · exact key
  · intro pc H locs lsR2 hro hH1 hS1
    refine va_forget (fun q hq => hS1.2.2 q hq) ?_
    refine W.widen (k := 600000) (n := 7302250) hg1 hg2 ?_
    exact lw_ret hx hb hr hlocks hro.1
