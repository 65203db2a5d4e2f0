-- printed by wip/p39/gen10.py
def dq (j pc : Nat) (i : ClassFile.Instr) (n : Nat) : Bool := decide (decode (bts j) pc = .ok (i, n))
def dqa (j pc : Nat) (i : ClassFile.Instr) : Bool := match decode (bts j) pc with
  | .ok (i', _) => decide (i' = i)
  | _ => false
def ri (v : Int) : Bool := decide (-2147483648 ≤ v ∧ v ≤ 2147483647)
def rl (v : Int) : Bool := decide (-9223372036854775808 ≤ v ∧ v ≤ 9223372036854775807)
def hasF (o idx ci k : Nat) : Bool := fldT.any fun q => q.1.1 == o && (q.1.2.1 == idx && (q.1.2.2.1 == ci && q.1.2.2.2 == k))
def has3 (L : List ((Nat × Nat × Nat) × Nat)) (o idx x : Nat) : Bool := L.any fun q => q.1.1 == o && (q.1.2.1 == idx && q.1.2.2 == x)
def hasI (L : List ((Nat × Nat × Int) × Nat)) (o idx : Nat) (x : Int) : Bool := L.any fun q => q.1.1 == o && (q.1.2.1 == idx && q.1.2.2 == x)
def has2 (L : List ((Nat × Nat) × Nat)) (o idx : Nat) : Bool := L.any fun q => q.1.1 == o && q.1.2 == idx
def has1 (L : List (Nat × Nat)) (x : Nat) : Bool := L.any fun q => q.1 == x
theorem hasF_of {o idx ci k : Nat} (h : hasF o idx ci k = true) : ∃ p, ((o, idx, ci, k), p) ∈ fldT := by
  obtain ⟨⟨⟨a, b, c, d⟩, p⟩, hq, h2⟩ := List.any_eq_true.mp h
  simp only [Bool.and_eq_true, beq_iff_eq] at h2
  obtain ⟨rfl, rfl, rfl, rfl⟩ := h2
  exact ⟨p, hq⟩
theorem has3_of {L : List ((Nat × Nat × Nat) × Nat)} {o idx x : Nat} (h : has3 L o idx x = true) : ∃ p, ((o, idx, x), p) ∈ L := by
  obtain ⟨⟨⟨a, b, c⟩, p⟩, hq, h2⟩ := List.any_eq_true.mp h
  simp only [Bool.and_eq_true, beq_iff_eq] at h2
  obtain ⟨rfl, rfl, rfl⟩ := h2
  exact ⟨p, hq⟩
theorem hasI_of {L : List ((Nat × Nat × Int) × Nat)} {o idx : Nat} {x : Int} (h : hasI L o idx x = true) : ∃ p, ((o, idx, x), p) ∈ L := by
  obtain ⟨⟨⟨a, b, c⟩, p⟩, hq, h2⟩ := List.any_eq_true.mp h
  simp only [Bool.and_eq_true, beq_iff_eq] at h2
  obtain ⟨rfl, rfl, rfl⟩ := h2
  exact ⟨p, hq⟩
theorem has2_of {L : List ((Nat × Nat) × Nat)} {o idx : Nat} (h : has2 L o idx = true) : ∃ p, ((o, idx), p) ∈ L := by
  obtain ⟨⟨⟨a, b⟩, p⟩, hq, h2⟩ := List.any_eq_true.mp h
  simp only [Bool.and_eq_true, beq_iff_eq] at h2
  obtain ⟨rfl, rfl⟩ := h2
  exact ⟨p, hq⟩
theorem has1_of {L : List (Nat × Nat)} {x : Nat} (h : has1 L x = true) : ∃ p, (x, p) ∈ L := by
  obtain ⟨⟨a, p⟩, hq, h2⟩ := List.any_eq_true.mp h
  simp only [beq_iff_eq] at h2
  subst h2
  exact ⟨p, hq⟩
/-- what a call of method k in method j needs of rooms and words -/
def callOk (j k n rk : Nat) : Bool := Nat.ble (rmF k + 1) (rmF j) && (Nat.ble (8 + (mxl k + 11) + rmL k) (rmL j) && (has1 codT k && (has1 iniT (ow k) && (decide (mrt k = rk) && decide ((parseMethodDescriptor (yn k).desc).map (fun d => d.parameters.length) = some n)))))
def fkd (ci k : Nat) : Nat := match fty ci k with
  | .int => 0
  | .boolean => 1
  | .array _ => 2
  | .object _ => 2
  | _ => 3
/-- the entry e at pc of method j says what the bytecode does -/
def ckE (j pc : Nat) (e : me_T) : Bool := match e with
  | (.aconst_null, _, _) => dq j pc e.1 1
  | (.iconst v', [n], v) => dq j pc e.1 1 && (n == 1 && (decide (v' = v) && ri v))
  | (.bipush v', [n], v) => dq j pc e.1 2 && (n == 2 && (decide (v' = v) && decide (-128 ≤ v ∧ v < 128)))
  | (.sipush v', [n], v) => dq j pc e.1 3 && (n == 3 && (decide (v' = v) && decide (-32768 ≤ v ∧ v < 32768)))
  | (.lconst d, _, v) => dq j pc e.1 1 && decide (v = (d.val : Int))
  | (.ldc idx, _, v) => dq j pc e.1 2 && (hasI conT (ow j) idx v && ri v)
  | (.ldc2_w idx, _, v) => dq j pc e.1 3 && (hasI conL (ow j) idx v && rl v)
  | (.iload_n k', [k, n], _) => dq j pc e.1 1 && (n == 1 && k'.val == k)
  | (.iload k', [k, n], _) => dq j pc e.1 2 && (n == 2 && k' == k)
  | (.lload_n k', [k, n], _) => dq j pc e.1 1 && (n == 1 && k'.val == k)
  | (.lload k', [k, n], _) => dq j pc e.1 2 && (n == 2 && k' == k)
  | (.aload_n k', [k, n], _) => dq j pc e.1 1 && (n == 1 && k'.val == k)
  | (.aload k', [k, n], _) => dq j pc e.1 2 && (n == 2 && k' == k)
  | (.istore_n k', [k, n], _) => dq j pc e.1 1 && (n == 1 && k'.val == k)
  | (.istore k', [k, n], _) => dq j pc e.1 2 && (n == 2 && k' == k)
  | (.lstore_n k', [k, n], _) => dq j pc e.1 1 && (n == 1 && k'.val == k)
  | (.lstore k', [k, n], _) => dq j pc e.1 2 && (n == 2 && k' == k)
  | (.astore_n k', [k, n], _) => dq j pc e.1 1 && (n == 1 && k'.val == k)
  | (.astore k', [k, n], _) => dq j pc e.1 2 && (n == 2 && k' == k)
  | (.iinc k' c, [k], v) => dq j pc e.1 3 && (k' == k && (decide (c = v) && ri v))
  | (.iadd, _, _) => dq j pc e.1 1
  | (.isub, _, _) => dq j pc e.1 1
  | (.imul, _, _) => dq j pc e.1 1
  | (.idiv, _, _) => dq j pc e.1 1
  | (.irem, _, _) => dq j pc e.1 1
  | (.iand, _, _) => dq j pc e.1 1
  | (.ior, _, _) => dq j pc e.1 1
  | (.ixor, _, _) => dq j pc e.1 1
  | (.ishl, _, _) => dq j pc e.1 1
  | (.ishr, _, _) => dq j pc e.1 1
  | (.i2l, _, _) => dq j pc e.1 1
  | (.i2c, _, _) => dq j pc e.1 1
  | (.ladd, _, _) => dq j pc e.1 1
  | (.lmul, _, _) => dq j pc e.1 1
  | (.lrem, _, _) => dq j pc e.1 1
  | (.land, _, _) => dq j pc e.1 1
  | (.lshr, _, _) => dq j pc e.1 1
  | (.l2i, _, _) => dq j pc e.1 1
  | (.lcmp, _, _) => dq j pc e.1 1
  | (.dup, _, _) => dq j pc e.1 1
  | (.dup2, _, _) => dq j pc e.1 1
  | (.pop, _, _) => dq j pc e.1 1
  | (.goto off, [t], _) => dq j pc e.1 3 && decide ((pc : Int) + off = t)
  | (.ifCond _ off, [t], _) => dq j pc e.1 3 && decide ((pc : Int) + off = t)
  | (.if_icmp _ off, [t], _) => dq j pc e.1 3 && decide ((pc : Int) + off = t)
  | (.ifnull off, [t], _) => dq j pc e.1 3 && decide ((pc : Int) + off = t)
  | (.ifnonnull off, [t], _) => dq j pc e.1 3 && decide ((pc : Int) + off = t)
  | (.tableswitch dd lo' hi offs, d :: ts, lo) => dqa j pc e.1 && (decide (lo' = lo ∧ hi = lo + ts.length - 1 ∧ (pc : Int) + dd = d) && (List.range ts.length).all fun i => match offs[i]?, ts[i]? with
    | some o, some t => decide ((pc : Int) + o = t)
    | _, _ => false)
  | (.getfield idx, [ci, k, ty, _], _) => dq j pc e.1 3 && (hasF (ow j) idx ci k && (Nat.blt ci 9 && (Nat.blt k (nfl ci) && fkd ci k == ty)))
  | (.putfield idx, [ci, k, ty, fin], _) => dq j pc e.1 3 && (hasF (ow j) idx ci k && (Nat.blt ci 9 && (Nat.blt k (nfl ci) && (fkd ci k == ty && (decide ((fT ci k).2.2.2 = (fin == 1)) && (fin == 0 || (decide ((yn j).name = "<init>") && decide ((fT ci k).1 = cn (ow j)))))))))
  | (.iaload, [kd], _) => dq j pc e.1 1 && (kd == 50 || kd == 49)
  | (.caload, [kd], _) => dq j pc e.1 1 && kd == 51
  | (.aaload, _, _) => dq j pc e.1 1
  | (.iastore, [kd], _) => dq j pc e.1 1 && kd == 50
  | (.castore, [kd], _) => dq j pc e.1 1 && kd == 51
  | (.aastore, _, _) => dq j pc e.1 1
  | (.arraylength, _, _) => dq j pc e.1 1
  | (.new idx, [ci, n], _) => dq j pc e.1 3 && (has3 clT (ow j) idx ci && (Nat.blt ci 9 && n == nfl ci))
  | (.newarray ty, [kd], _) => dq j pc e.1 2 && ((decide (ty = .int) && kd == 50) || (decide (ty = .char) && kd == 51))
  | (.anewarray idx, [kd], _) => dq j pc e.1 3 && ((kd == 62 && has3 clT (ow j) idx 2) || ((kd == 64 && has3 clT (ow j) idx 4) || (kd == 67 && has3 clT (ow j) idx 7)))
  | (.invokevirtual idx, [k, n, rk, ci], 0) => dq j pc e.1 3 && (has3 mthT (ow j) idx k && (has1 insT k && (has1 selT k && (decide (ow k = ci) && (Nat.blt ci 9 && (Nat.blt n (mxl k) && callOk j k n rk))))))
  | (.invokestatic idx, [k, n, rk, _], 1) => dq j pc e.1 3 && (has3 mthT (ow j) idx k && (has1 staT k && (Nat.ble n (mxl k) && callOk j k n rk)))
  | (.invokespecial idx, [k, n, _, ci], 2) => dq j pc e.1 3 && ((has3 mthT (ow j) idx k || has3 nstT (ow j) idx k) && (has1 insT k && (decide ((yn k).name = "<init>") && (decide (ow k = ci) && (Nat.blt ci 9 && (Nat.blt n (mxl k) && callOk j k n 0))))))
  | (.invokespecial idx, [], 3) => dq j pc e.1 3 && has2 objT (ow j) idx
  | (.invokestatic idx, [], 4) => dq j pc e.1 3 && has3 matT (ow j) idx 4
  | (.invokestatic idx, [], 5) => dq j pc e.1 3 && has3 matT (ow j) idx 5
  | (.return_, _, _) => dq j pc e.1 1
  | (.ireturn, _, _) => dq j pc e.1 1
  | (.lreturn, _, _) => dq j pc e.1 1
  | (.areturn, _, _) => dq j pc e.1 1
  | _ => false
def ckO (j : Nat) (cd : Nat → Option me_T) (pc : Nat) : Bool := match cd pc with
  | none => true
  | some e => ckE j pc e
def ckAll (j : Nat) (cd : Nat → Option me_T) (n : Nat) : Bool := (List.range n).all (ckO j cd)
theorem ckAll_of {j : Nat} {cd : Nat → Option me_T} {n : Nat} (h : ckAll j cd n = true) {pc : Nat} {e : me_T} (he : bnd cd n pc = some e) : ckE j pc e = true := by
  unfold bnd at he
  split at he
  · next hb =>
    have hlt : pc < n := by simpa [Nat.blt_eq] using hb
    have h1 := List.all_eq_true.mp h pc (List.mem_range.mpr hlt)
    unfold ckO at h1
    rw [he] at h1
    exact h1
  · cases he
