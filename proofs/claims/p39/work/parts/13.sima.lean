theorem i8_32 {v : Int} (h : -128 ≤ v ∧ v < 128) : (Int8.ofInt v).toInt32 = Int32.ofInt v := Int32.toInt_inj.mp (by
  rw [Int8.toInt_toInt32, Int8.toInt_ofInt, i32_in (by unfold rg; omega)]
  show v.bmod 256 = v
  unfold Int.bmod
  simp only []
  split <;> omega)
theorem i16_32 {v : Int} (h : -32768 ≤ v ∧ v < 32768) : (Int16.ofInt v).toInt32 = Int32.ofInt v := Int32.toInt_inj.mp (by
  rw [Int16.toInt_toInt32, Int16.toInt_ofInt, i32_in (by unfold rg; omega)]
  show v.bmod 65536 = v
  unfold Int.bmod
  simp only []
  split <;> omega)
theorem ri_rg {v : Int} (h : ri v = true) : rg v := (of_decide_eq_true h : -2147483648 ≤ v ∧ v ≤ 2147483647)
theorem rl_rg {v : Int} (h : rl v = true) : rgl v := (of_decide_eq_true h : -9223372036854775808 ≤ v ∧ v ≤ 9223372036854775807)
theorem i64_fin : ∀ d : Fin 2, Int64.ofNat (d : Nat) = Int64.ofInt ((d : Nat) : Int) := by decide +kernel
theorem vt_cat {z b : Nat} {v : mv_T} (h : mcat v = 1) : (vt z b v).category = 1 := by
  rcases v with v | v | v
  · rfl
  · cases h
  · cases v <;> rfl
theorem okc {v : mv_T} {st : List mv_T} (h : inV v) (hs : ∀ a ∈ st, inV a) : ∀ a ∈ v :: st, inV a := fun a ha => (List.mem_cons.mp ha).elim (fun e => e ▸ h) (hs a)
theorem okh {v : mv_T} {st : List mv_T} (hs : ∀ a ∈ v :: st, inV a) : inV v := hs v List.mem_cons_self
theorem okt {v : mv_T} {st : List mv_T} (hs : ∀ a ∈ v :: st, inV a) : ∀ a ∈ st, inV a := fun a h => hs a (List.mem_cons_of_mem _ h)
theorem popn_st : ∀ (n : Nat) (acc st : List mv_T) (F : List mv_T → List mv_T → Prop), popn n acc st F → ∃ as r, st = as.reverse ++ r ∧ as.length = n ∧ F (as ++ acc) r
  | 0, acc, st, F, h => ⟨[], st, rfl, rfl, h⟩
  | n + 1, acc, [], F, h => h.elim
  | n + 1, acc, v :: st, F, h => by
    obtain ⟨as, r, h1, h2, h3⟩ := popn_st n (v :: acc) st F h
    exact ⟨as ++ [v], r, by rw [h1]; simp, by simp [h2], by simpa using h3⟩
theorem mwds_sum {z b : Nat} : ∀ {r : List mv_T}, ((r.map (vt z b)).map fun v => v.category).sum = mwds r
  | [] => rfl
  | v :: r => by
    simp only [List.map_cons, List.sum_cons, mwds, mwds_sum (r := r)]
    congr 1
    rcases v with v | v | v
    · rfl
    · rfl
    · cases v <;> rfl
theorem mwds_all1 : ∀ {as : List mv_T}, all1 as = true → mwds as = as.length
  | [], _ => rfl
  | v :: r, h => by
    unfold all1 at h
    simp only [Bool.and_eq_true] at h
    have h1 := Nat.eq_of_beq_eq_true h.1
    have ih := mwds_all1 h.2
    show mcat v + mwds r = r.length + 1
    omega
theorem okas_le {j n : Nat} {as : List mv_T} (h : okas j as = true) (e : as.length = n) (hn : n ≤ mxl j) : mwds as ≤ mxl j := by
  unfold okas at h
  split at h
  · next h1 => rw [mwds_all1 h1]; omega
  · exact Nat.le_of_ble_eq_true h
theorem cls_ok : ∀ ci, ci < 9 → clsL[ci]? = some (cn ci, fT ci, nfl ci) := by
  intro ci h
  match ci, h with
  | 0, _ => rfl
  | 1, _ => rfl
  | 2, _ => rfl
  | 3, _ => rfl
  | 4, _ => rfl
  | 5, _ => rfl
  | 6, _ => rfl
  | 7, _ => rfl
  | 8, _ => rfl
  | n + 9, h => exact absurd h (by omega)
theorem fty_ok : ∀ ci, ci < 9 → ∀ k, k < nfl ci → parseFieldDescriptor (fT ci k).2.2.1 = some (fty ci k) := by decide +kernel
theorem nm_ok : ∀ ci, ci < 9 → ∀ a, a < nfl ci → ∀ b, b < nfl ci → a ≠ b → (fT ci a).2.1 ≠ (fT ci b).2.1 := by decide +kernel
theorem fT_1 : ∀ ci, ci < 9 → ∀ k, k < nfl ci → (fT ci k).1 = cn ci := by decide +kernel
theorem plain_ok : ∀ j, j < 122 → plainName (yn j).cls = true ∧ (yn j).cls = cn (ow j) ∧ (yn j).cls ≠ "java/lang/invoke/MethodHandle" ∧ (yn j).cls ≠ "java/lang/invoke/VarHandle" := by decide +kernel
theorem rty_ok : ∀ j, j < 122 → (mrt j = 0 → rty j = none) ∧ (mrt j = 1 → rty j = some .int) ∧ (mrt j = 2 → rty j = some .boolean) ∧ (mrt j = 3 → rty j = some (.object RX2) ∨ rty j = some (.object RX4)) ∧ (mrt j = 4 → rty j = some .long) ∧ mrt j < 5 := by decide +kernel
def Ctx (p : Program) (R : Room) (s : State) (m : MethodId) (args : Array Value) (meth : Method) (c : Code) (z b L : Nat) (xs : Nat → Int32) (D : va_G) (dA : Nat → ClassId) (j : Nat) : Prop :=
  p.tables.exec = Jvm.exec ∧ c.code = bts j ∧ c.maxLocals = mxl j ∧ meth.sig.returnType = rty j ∧ meth.locks = false ∧ s.vm.findClass (cn (ow j)) = some m.cls ∧ (∀ w ∈ lwg, w.before args s = true) ∧ ((yn j).name = "<init>" → meth.name = "<init>") ∧ va_K D clsL (tysL dA) s ∧ (∀ q ∈ nstT, va_Nw (nstW q) s) ∧ (va_AO RX2 s ∧ va_AO RX4 s ∧ va_AO RX7 s) ∧ rmF j ≤ R.frames ∧ rmL j ≤ R.locals ∧ va_X b L xs s s.heap ∧ b < z ∧ z ≤ s.heap.size ∧ j < 122 ∧ L ≤ 260
/-- what holds of the state at a method's entry, heap apart -/
def SP (z b L : Nat) (xs : Nat → Int32) (D : va_G) (dA : Nat → ClassId) (U : State) : Prop := va_K D clsL (tysL dA) U ∧ (∀ q ∈ nstT, va_Nw (nstW q) U) ∧ (va_AO RX2 U ∧ va_AO RX4 U ∧ va_AO RX7 U) ∧ va_X b L xs U U.heap ∧ b < z ∧ z ≤ U.heap.size
def PcS (z b L : Nat) (xs : Nat → Int32) (D : va_G) (dA : Nat → ClassId) (as : List mv_T) (σ : ms_T) : Array Value → State → Prop := va_Pc (as.map (vt z b)) (fun U => SP z b L xs D dA U ∧ HR z b L xs D dA σ U.heap)
def QcS (z b L : Nat) (xs : Nat → Int32) (D : va_G) (dA : Nat → ClassId) (v : Option mv_T) (τ : ms_T) : Array Value → State → Outcome → State → Prop := fun _ st oc t => oc = .returned (v.map (vt z b)) ∧ HR z b L xs D dA τ t.heap ∧ (∀ a, v = some a → inV a) ∧ va_F (fun q => z ≤ q) st t
def wsJ (j : Nat) : List Cond := .code (yn j) (bts j) (mxl j) (rty j) :: lwg
def SimAt (l : Launch) (z b L : Nat) (xs : Nat → Int32) (D : va_G) (dA : Nat → ClassId) (n : Nat) : Prop := ∀ (j : Nat) (as : List mv_T) (σ : ms_T) (v : Option mv_T) (τ : ms_T), j < 122 → mwds as ≤ mxl j → (∀ a ∈ as, inV a) → L ≤ 260 → Wm n j 0 (pad (mxl j) as) [] σ (fun v' τ' => v' = v ∧ τ' = τ) →
  Met l (yn j) (wsJ j) ({ frames := rmF j, cells := gn τ - gn σ, slots := gl τ - gl σ, locals := rmL j } : Room) (PcS z b L xs D dA as σ) (QcS z b L xs D dA v τ) (gn τ - gn σ) (gl τ - gl σ) (fun q => z ≤ q)
def retOK (j pc : Nat) (v : Option mv_T) : Prop := match v with
  | none => decode (bts j) pc = .ok (.return_, 1) ∧ mrt j = 0
  | some (.inl a) => decode (bts j) pc = .ok (.ireturn, 1) ∧ (mrt j = 1 ∨ mrt j = 2 ∧ (a = 0 ∨ a = 1)) ∧ rg a
  | some (.inr (.inr _)) => decode (bts j) pc = .ok (.areturn, 1) ∧ mrt j = 3
  | some (.inr (.inl a)) => decode (bts j) pc = .ok (.lreturn, 1) ∧ mrt j = 4 ∧ rgl a
theorem blind_P {z b L : Nat} {xs : Nat → Int32} {D : va_G} {dA : Nat → ClassId} {as : List mv_T} {σ : ms_T} : FrameBlind (PcS z b L xs D dA as σ) := fun a U g mk h => by
  obtain ⟨h0, ⟨h1, h2, h3, h4, h5, h6⟩, h7⟩ := h
  exact ⟨h0, ⟨va_K.moved (u := U) (U := U.calling g mk a) (Vm.Alike.refl U.vm) h1, fun q hq => va_Nw.same (u := U) (U := U.calling g mk a) rfl rfl (h2 q hq), ⟨va_AO.moved (u := U) (U := U.calling g mk a) (Vm.Alike.refl U.vm) h3.1, va_AO.moved (u := U) (U := U.calling g mk a) (Vm.Alike.refl U.vm) h3.2.1, va_AO.moved (u := U) (U := U.calling g mk a) (Vm.Alike.refl U.vm) h3.2.2⟩, va_X.moved (u := U) (U := U.calling g mk a) (Vm.Alike.refl U.vm) h4, h5, h6⟩, h7⟩
theorem gd_and {a b : Bool} (h : (a && b) = true) : a = true ∧ b = true := by simpa using h
theorem Wm_le {n j pc : Nat} {ls : ml_T} {st : List mv_T} {σ : ms_T} {v : Option mv_T} {τ : ms_T} (h : Wm n j pc ls st σ (fun v' τ' => v' = v ∧ τ' = τ)) : gn σ ≤ gn τ ∧ gl σ ≤ gl τ := by
  obtain ⟨v', τ', ⟨⟨-, e⟩, h1⟩, -⟩ := Wm_pt (Wm_grow n h)
  rw [← e]
  exact h1
theorem inV_gr {z : Option Nat} : inV (vR z) := trivial
section BODY
variable {p : Program} {l : Launch} {e : Env} {R : Room} {s : State} {m : MethodId} {args : Array Value} {below : List Frame} {meth : Method} {c : Code} {z b L : Nat} {xs : Nat → Int32} {D : va_G} {dA : Nat → ClassId} {j : Nat}
theorem W.hsz {H : Heap} {locs : List Loc} {cells slots : Nat} {Q : State → Prop} {g : JFrame} (k : H.size ≤ s.heap.size + cells → W p l e R s m args below meth c H locs cells slots Q g) : W p l e R s m args below meth c H locs cells slots Q g := fun T hT X => k (by rw [← hT]; exact X.heapSize) T hT X
theorem W.cnt {H : Heap} {locs : List Loc} {cells slots cells2 slots2 : Nat} {Q : State → Prop} {g : JFrame} (h1 : cells2 = cells) (h2 : slots2 = slots) (k : W p l e R s m args below meth c H locs cells2 slots2 Q g) : W p l e R s m args below meth c H locs cells slots Q g := by
  subst h1
  subst h2
  exact k
theorem HRm {σ : ms_T} {H : Heap} {locs : List Loc} {g0 : Nat} (hs0 : s.heap.size = z + g0) (hg0 : g0 ≤ gn σ) (hz : H.size ≤ s.heap.size + (gn σ - g0)) (hS : va_S (fun q => z ≤ q) s.heap H locs) (hP : va_P D clsL (wo z b dA σ) H) (hg : gdS L xs σ) : HR z b L xs D dA σ H := by
  refine ⟨?_, hP, hg⟩
  have h1 : H.size ≤ z + gn σ := by omega
  have h2 : s.heap.size ≤ H.size := hS.1
  rcases Nat.eq_zero_or_pos (gn σ) with e | e
  · omega
  · have h3 := (hP (gn σ - 1) _ (wo_get (by omega))).lt
    have h4 : z + (gn σ - 1) < H.size := h3
    omega
theorem va_S_new {σ : ms_T} {H H1 : Heap} {locs : List Loc} (hS : va_S (fun q => z ≤ q) s.heap H locs) (hz : H.size = z + gn σ) (z1 : H1.size = z + gn σ + 1) (o1 : ∀ q : Nat, q < z + gn σ → H1[q]? = H[q]?) : va_S (fun q => z ≤ q) s.heap H1 locs :=
  ⟨by have := hS.1; omega, fun q h1 h2 => (o1 q (by have := hS.1; omega)).trans (hS.2.1 q h1 h2), hS.2.2⟩
theorem HR_new {σ : ms_T} {H H1 : Heap} {kd len n : Nat} (hH : HR z b L xs D dA σ H) (hk : okk (kd, len)) (z1 : H1.size = z + gn σ + 1) (o1 : ∀ q : Nat, q < z + gn σ → H1[q]? = H[q]?) (e1 : va_at D clsL (z + gn σ, wnt z b dA (alc σ kd len n) (gn σ + 1)) H1) : HR z b L xs D dA (alc σ kd len n) H1 := by
  refine ⟨by rw [gn_alc]; omega, ?_, gd_alc hH.2.2 hk⟩
  rw [wo_alc]
  refine va_P.app (hH.2.1.kept fun k q hq => o1 q.1 ?_) (fun k q hq => ?_)
  · have h1 := (hH.2.1 k q hq).lt
    rw [hH.1] at h1
    exact h1
  · have hz : k < 1 := (List.getElem?_eq_some_iff.mp hq).1
    rw [show k = 0 by omega] at hq
    cases hq
    exact e1
theorem ini_ok {i : Nat} (h : i < 9) : (Cond.initialized (cn i)) ∈ lwg := by
  have key : ∀ i, i < 9 → has1 iniT i = true := by decide +kernel
  obtain ⟨p, hp⟩ := has1_of (key i h)
  exact iniT_ok _ hp
theorem ini_has {i : Nat} (h : has1 iniT i = true) : (Cond.initialized (cn i)) ∈ lwg := by
  obtain ⟨p, hp⟩ := has1_of h
  exact iniT_ok _ hp
theorem isb_ok {i : Nat} (h : i < 9) : (Cond.instantiable (cn i) (nfl i)) ∈ lwg := by
  have key : ∀ i, i < 9 → has1 isbT i = true := by decide +kernel
  obtain ⟨p, hp⟩ := has1_of (key i h)
  exact isbT_ok _ hp
theorem yn_lt {k w : Nat} (h : (k, w) ∈ codT) : k < 122 := by
  have key : (codT.all fun q => decide (q.1 < 122)) = true := by decide +kernel
  exact of_decide_eq_true (List.all_eq_true.mp key _ h)
theorem rm_pos {j : Nat} (h : j < 122) : 1 ≤ rmF j ∧ 21 ≤ rmL j := by
  have key : ∀ j, j < 122 → 1 ≤ rmF j ∧ 21 ≤ rmL j := by decide +kernel
  exact key j h
theorem retI_ok {rk : Nat} {a : Int} {F : Prop} (h : retI rk a F) : F ∧ (rk = 1 ∨ rk = 2 ∧ (a = 0 ∨ a = 1)) := by
  unfold retI at h
  split at h
  · exact ⟨h, Or.inl rfl⟩
  · exact ⟨h.2, Or.inr ⟨rfl, h.1⟩⟩
  · exact h.elim
theorem dqa_of {j pc : Nat} {i : ClassFile.Instr} (h : dqa j pc i = true) : ∃ n, decode (bts j) pc = .ok (i, n) := by
  unfold dqa at h
  split at h
  · next i' n e => exact ⟨n, by rw [e, of_decide_eq_true h]⟩
  · cases h
theorem i32_char {x : Int} (h1 : 0 ≤ x) (h2 : x < 65536) : ((Int32.ofInt x).toUInt32 % 65536).toInt32 = Int32.ofInt x := by
  have e : (Int32.ofInt x).toUInt32 % 65536 = (Int32.ofInt x).toUInt32 := by
    apply UInt32.toNat_inj.mp
    rw [UInt32.toNat_mod]
    have e2 : (Int32.ofInt x).toUInt32.toNat = x.toNat := by
      rw [Int32.toNat_toUInt32_of_le (by rw [← i32_0, i32_le rg0 (by unfold rg; omega)]; exact h1), i32_clamp (by unfold rg; omega)]
    rw [e2]
    show x.toNat % 65536 = _
    omega
  rw [e]
  simp
theorem nar_char {x : Int} (h1 : 0 ≤ x) (h2 : x < 65536) : vp_nar .char (Int32.ofInt x) = Int32.ofInt x := i32_char h1 h2
theorem fkd_ty0 {ci k : Nat} (h : fkd ci k = 0) : fty ci k = .int := by
  unfold fkd at h
  split at h <;> first | assumption | (exact absurd h (by decide))
theorem fkd_ty1 {ci k : Nat} (h : fkd ci k = 1) : fty ci k = .boolean := by
  unfold fkd at h
  split at h <;> first | assumption | (exact absurd h (by decide))
theorem fkd_ty2 {ci k : Nat} (h : fkd ci k = 2) : (∃ t, fty ci k = .array t) ∨ ∃ C, fty ci k = .object C := by
  unfold fkd at h
  split at h
  · exact absurd h (by decide)
  · exact absurd h (by decide)
  · next t e => exact Or.inl ⟨t, e⟩
  · next t e => exact Or.inr ⟨t, e⟩
  · exact absurd h (by decide)
theorem narrow_int {ty : FieldType} {x : Int} (h : ty = .int) : narrow ty (vt z b (vI x)) = vt z b (vI x) := by subst h; rfl
theorem fits_int {ty : FieldType} {x : Int} (h : ty = .int) : fits ty (vt z b (vI x)) = true := by subst h; rfl
theorem narrow_bool {ty : FieldType} {x : Int} (h : ty = .boolean) (hx : x = 0 ∨ x = 1) : narrow ty (vt z b (vI x)) = vt z b (vI x) := by
  subst h
  rcases hx with rfl | rfl
  · show narrow .boolean (.int (Int32.ofInt 0)) = .int (Int32.ofInt 0)
    decide +kernel
  · show narrow .boolean (.int (Int32.ofInt 1)) = .int (Int32.ofInt 1)
    decide +kernel
theorem fits_bool {ty : FieldType} {x : Int} (h : ty = .boolean) (hx : x = 0 ∨ x = 1) : fits ty (vt z b (vI x)) = true := by
  subst h
  rcases hx with rfl | rfl
  · show fits .boolean (.int (Int32.ofInt 0)) = true
    decide +kernel
  · show fits .boolean (.int (Int32.ofInt 1)) = true
    decide +kernel
theorem narrow_ref {ty : FieldType} {x : Option Nat} (h : (∃ t, ty = .array t) ∨ ∃ C, ty = .object C) : narrow ty (vt z b (vR x)) = vt z b (vR x) := by
  rcases h with ⟨t, rfl⟩ | ⟨t, rfl⟩ <;> cases x <;> rfl
theorem fits_ref {ty : FieldType} {x : Option Nat} (h : (∃ t, ty = .array t) ∨ ∃ C, ty = .object C) : fits ty (vt z b (vR x)) = true := by
  rcases h with ⟨t, rfl⟩ | ⟨t, rfl⟩ <;> cases x <;> rfl
theorem fvl_new {σ : ms_T} {ci n k : Nat} (hci : ci < 9) (hk : k < nfl ci) : vp_V ((List.range (nfl ci)).map (fvl z b (alc σ ci 0 n) ci (gn σ + 1))) k = defaultValue (fty ci k) := by
  unfold vp_V
  rw [List.getD_eq_getElem?_getD, List.getElem?_map, List.getElem?_range hk]
  show fvl z b (alc σ ci 0 n) ci (gn σ + 1) k = _
  unfold fvl isrf
  rw [gr_alc, if_pos rfl, gi_alc, if_pos rfl]
  have key : ∀ ci, ci < 9 → ∀ k, k < nfl ci → (fkd ci k = 0 ∨ fkd ci k = 1 ∨ fkd ci k = 2) := by decide +kernel
  rcases key ci hci k hk with h | h | h
  · rw [h, fkd_ty0 h]; rfl
  · rw [h, fkd_ty1 h]; rfl
  · rw [h]
    rcases fkd_ty2 h with ⟨t, e⟩ | ⟨t, e⟩ <;> rw [e] <;> rfl
theorem rtn_get {rk : Nat} {v : Option mv_T} {F : List mv_T → Prop} (h : rtn rk v F) : ∃ vs, vs = v.toList ∧ F vs := by
  unfold rtn at h
  split at h
  · obtain ⟨e, h⟩ := h
    subst e
    exact ⟨_, rfl, h⟩
  · obtain ⟨o, e, h⟩ := h
    subst e
    exact ⟨_, rfl, h⟩
  · obtain ⟨o, e, h⟩ := h
    subst e
    exact ⟨_, rfl, h⟩
  · obtain ⟨o, e, h⟩ := h
    subst e
    exact ⟨_, rfl, h⟩
theorem okapp {v : Option mv_T} {vs r : List mv_T} (e : vs = v.toList) (hv : ∀ a, v = some a → inV a) (hr : ∀ a ∈ r, inV a) : ∀ a ∈ vs ++ r, inV a := by
  subst e
  intro a ha
  rcases List.mem_append.mp ha with h | h
  · cases v with
    | none => cases h
    | some x =>
      rcases List.mem_singleton.mp h with rfl
      exact hv _ rfl
  · exact hr a h
theorem goodJ {k w : Nat} (h : (Cond.code (yn k) (bts k) (mxl k) (rty k)) ∈ lwg) : GoodIn lwg (wsJ k) := by
  intro w hw
  rcases List.mem_cons.mp hw with e | e
  · subst e
    exact ⟨h, good_of_word (lwg_good _ h)⟩
  · exact ⟨e, good_of_word (lwg_good _ e)⟩
theorem cwK {k n : Nat} {own : String} {index mc ms : Nat} (n : Nat) (ht : ∀ w ∈ lwg, w.before args s = true) (hc : (Cond.code (yn k) (bts k) (mxl k) (rty k)) ∈ lwg) (hl : (Cond.methodLink own index (yn k)).before args s = true) (hini : (Cond.initialized (yn k).cls).before args s = true) (hpl : plainName (yn k).cls = true ∧ (yn k).cls = cn (ow k) ∧ (yn k).cls ≠ "java/lang/invoke/MethodHandle" ∧ (yn k).cls ≠ "java/lang/invoke/VarHandle") (hpm : (parseMethodDescriptor (yn k).desc).map (fun d => d.parameters.length) = some n) (hR : rmF k + 1 ≤ R.frames ∧ 8 + (mxl k + 11) + rmL k ≤ R.locals) :
    CallB R s args own index (yn k) (bts k) (mxl k) (rty k) (wsJ k) ({ frames := rmF k, cells := mc, slots := ms, locals := rmL k } : Room) mc ms n :=
  callB_of n ht (goodJ (w := 0) hc) rfl rfl rfl hini hl ⟨hpl.2.2.1, hpl.2.2.2, hpm⟩ hR
theorem cwJ {k : Nat} {own : String} {index mc ms : Nat} (n : Nat) (ht : ∀ w ∈ lwg, w.before args s = true) (hc : (Cond.code (yn k) (bts k) (mxl k) (rty k)) ∈ lwg) (hl : (Cond.methodLink own index (yn k)).before args s = true) (hi : (Cond.instanceMethod (yn k)).before args s = true) (hse : (Cond.selects (cn (ow k)) (yn k) (yn k)).before args s = true) (hini : (Cond.initialized (yn k).cls).before args s = true) (hpl : plainName (yn k).cls = true ∧ (yn k).cls = cn (ow k) ∧ (yn k).cls ≠ "java/lang/invoke/MethodHandle" ∧ (yn k).cls ≠ "java/lang/invoke/VarHandle") (hpm : (parseMethodDescriptor (yn k).desc).map (fun d => d.parameters.length) = some n) (hR : rmF k + 1 ≤ R.frames ∧ 8 + (mxl k + 11) + rmL k ≤ R.locals) :
    CallW R s args own (cn (ow k)) index (yn k) (bts k) (mxl k) (rty k) (wsJ k) ({ frames := rmF k, cells := mc, slots := ms, locals := rmL k } : Room) mc ms n :=
  ⟨cwK (n := 0) n ht hc hl hini hpl hpm hR, hi, hse⟩
theorem cwN {k : Nat} {own : String} {index mc ms : Nat} (n : Nat) (ht : ∀ w ∈ lwg, w.before args s = true) (hc : (Cond.code (yn k) (bts k) (mxl k) (rty k)) ∈ lwg) (hl : va_Nw (.methodLinkNest own index (yn k) "OrbitMailbox") s) (hini : (Cond.initialized (yn k).cls).before args s = true) (hpl : plainName (yn k).cls = true ∧ (yn k).cls = cn (ow k) ∧ (yn k).cls ≠ "java/lang/invoke/MethodHandle" ∧ (yn k).cls ≠ "java/lang/invoke/VarHandle") (hpm : (parseMethodDescriptor (yn k).desc).map (fun d => d.parameters.length) = some n) (hR : rmF k + 1 ≤ R.frames ∧ 8 + (mxl k + 11) + rmL k ≤ R.locals) :
    va_CN R s args own index (yn k) "OrbitMailbox" (bts k) (mxl k) (rty k) (wsJ k) ({ frames := rmF k, cells := mc, slots := ms, locals := rmL k } : Room) mc ms n :=
  va_cnB n ht (goodJ (w := 0) hc) rfl rfl rfl hl hini ⟨hpl.2.2.1, hpl.2.2.2, hpm⟩ hR
theorem runJ {H : Heap} {locs : List Loc} {cells slots mc ms pc : Nat} {ls : Array Slot} {st0 rest : List Value} {a : Array Value} {v : Option mv_T} {τ : ms_T} {Q : State → Prop} (hr : va_Run p l e R s m args below meth c H locs cells slots mc ms (F0 m pc ls st0) rest (QcS z b L xs D dA v τ a) (fun q => z ≤ q)) (hS : va_S (fun q => z ≤ q) s.heap H locs)
    (kk : ∀ (H1 : Heap) (locs1 : List Loc), (∀ a, v = some a → inV a) → HR z b L xs D dA τ H1 → va_S (fun q => z ≤ q) s.heap H1 locs1 → W p l e R s m args below meth c H1 locs1 (cells + mc) (slots + ms) Q (F0 m (pc + 3) ls (v.toList.map (vt z b) ++ rest))) : W p l e R s m args below meth c H locs cells slots Q (F0 m pc ls st0) := by
  intro T hT X
  obtain ⟨v', st₀, t, T', L', h0, X', hL, e1, e2, ⟨hv, hh, hin, hz, hk⟩, st⟩ := hr T hT X
  cases hv
  rw [h0] at hz hk
  obtain ⟨t2, a1, b1⟩ := kk T'.heap (locs ++ L') hin (by rw [e1]; exact hh)
    ⟨Nat.le_trans hS.1 (by rw [e1]; exact hz), fun q h1 h2 => by rw [e1, hk q (Nat.lt_of_lt_of_le h1 hS.1) h2]; exact hS.2.1 q h1 h2, fun q hq => by
      rcases List.mem_append.mp hq with h | h
      · exact hS.2.2 q h
      · exact hL q h⟩ T' rfl X'
  refine ⟨t2, st t2 ?_, b1⟩
  have e3 : (v.map (vt z b)).toList = v.toList.map (vt z b) := by cases v <;> rfl
  rw [e3]
  exact a1
end BODY
