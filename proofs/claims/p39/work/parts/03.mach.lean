/-! A small machine of our own: values are whole numbers (int, long) and numbers of cells; its meaning is a predicate transformer. -/
abbrev mv_T : Type := Int ⊕ (Int ⊕ Option Nat)
abbrev vI (a : Int) : mv_T := .inl a
abbrev vL (a : Int) : mv_T := .inr (.inl a)
abbrev vR (a : Option Nat) : mv_T := .inr (.inr a)
def wr (x : Int) : Int := (x + 2147483648) % 4294967296 - 2147483648
def wl (x : Int) : Int := (x + 9223372036854775808) % 18446744073709551616 - 9223372036854775808
theorem wr_id {x : Int} (h1 : -2147483648 ≤ x) (h2 : x ≤ 2147483647) : wr x = x := by unfold wr; omega
theorem wl_id {x : Int} (h1 : -9223372036854775808 ≤ x) (h2 : x ≤ 9223372036854775807) : wl x = x := by unfold wl; omega
/-- cells made, their slots; kind and length of a cell; its whole numbers; its references -/
abbrev ms_T : Type := (Nat × Nat) × (Nat → Nat × Nat) × (Nat → Nat → Int) × (Nat → Nat → Option Nat)
def gn (σ : ms_T) : Nat := σ.1.1
def gl (σ : ms_T) : Nat := σ.1.2
def gs (σ : ms_T) (c : Nat) : Nat × Nat := σ.2.1 c
def gi (σ : ms_T) (c k : Nat) : Int := σ.2.2.1 c k
def gr (σ : ms_T) (c k : Nat) : Option Nat := σ.2.2.2 c k
def sI (σ : ms_T) (c k : Nat) (v : Int) : ms_T := (σ.1, σ.2.1, fun c' k' => if c' = c ∧ k' = k then v else σ.2.2.1 c' k', σ.2.2.2)
def sR (σ : ms_T) (c k : Nat) (v : Option Nat) : ms_T := (σ.1, σ.2.1, σ.2.2.1, fun c' k' => if c' = c ∧ k' = k then v else σ.2.2.2 c' k')
/-- a new cell of a kind and length, of n slots -/
def alc (σ : ms_T) (kd len n : Nat) : ms_T := ((σ.1.1 + 1, σ.1.2 + n), fun c => if c = σ.1.1 + 1 then (kd, len) else σ.2.1 c, fun c k => if c = σ.1.1 + 1 then 0 else σ.2.2.1 c k, fun c k => if c = σ.1.1 + 1 then none else σ.2.2.2 c k)
theorem gn_sI (σ : ms_T) (c k : Nat) (v : Int) : gn (sI σ c k v) = gn σ := rfl
theorem gl_sI (σ : ms_T) (c k : Nat) (v : Int) : gl (sI σ c k v) = gl σ := rfl
theorem gs_sI (σ : ms_T) (c k : Nat) (v : Int) (c' : Nat) : gs (sI σ c k v) c' = gs σ c' := rfl
theorem gi_sI (σ : ms_T) (c k : Nat) (v : Int) (c' k' : Nat) : gi (sI σ c k v) c' k' = if c' = c ∧ k' = k then v else gi σ c' k' := rfl
theorem gr_sI (σ : ms_T) (c k : Nat) (v : Int) (c' k' : Nat) : gr (sI σ c k v) c' k' = gr σ c' k' := rfl
theorem gn_sR (σ : ms_T) (c k : Nat) (v : Option Nat) : gn (sR σ c k v) = gn σ := rfl
theorem gl_sR (σ : ms_T) (c k : Nat) (v : Option Nat) : gl (sR σ c k v) = gl σ := rfl
theorem gs_sR (σ : ms_T) (c k : Nat) (v : Option Nat) (c' : Nat) : gs (sR σ c k v) c' = gs σ c' := rfl
theorem gi_sR (σ : ms_T) (c k : Nat) (v : Option Nat) (c' k' : Nat) : gi (sR σ c k v) c' k' = gi σ c' k' := rfl
theorem gr_sR (σ : ms_T) (c k : Nat) (v : Option Nat) (c' k' : Nat) : gr (sR σ c k v) c' k' = if c' = c ∧ k' = k then v else gr σ c' k' := rfl
abbrev ml_T : Type := List (Option mv_T)
def nth {α : Type} : List α → Nat → Option α
  | [], _ => none
  | x :: _, 0 => some x
  | _ :: xs, k + 1 => nth xs k
def put {α : Type} : List α → Nat → α → List α
  | [], _, _ => []
  | _ :: xs, 0, y => y :: xs
  | x :: xs, k + 1, y => x :: put xs k y
def ldI (ls : ml_T) (k : Nat) (F : Int → Prop) : Prop := match nth ls k with
  | some (some (.inl a)) => F a
  | _ => False
def ldL (ls : ml_T) (k : Nat) (F : Int → Prop) : Prop := match nth ls k with
  | some (some (.inr (.inl a))) => F a
  | _ => False
def ldR (ls : ml_T) (k : Nat) (F : Option Nat → Prop) : Prop := match nth ls k with
  | some (some (.inr (.inr a))) => F a
  | _ => False
/-- no long lies in the place before -/
def nol (ls : ml_T) (k : Nat) : Bool := match k with
  | 0 => true
  | j + 1 => match nth ls j with
    | some (some (.inr (.inl _))) => false
    | _ => true
/-- a test of the tables' own, that falls away -/
def gd (b : Bool) (F : Prop) : Prop := match b with
  | true => F
  | false => False
def isS (o : Option Nat) (F : Nat → Prop) : Prop := match o with
  | some c => F c
  | none => False
def isE (r : List mv_T) (F : Prop) : Prop := match r with
  | [] => F
  | _ :: _ => False
def pI (st : List mv_T) (F : Int → List mv_T → Prop) : Prop := match st with
  | .inl a :: r => F a r
  | _ => False
def pL (st : List mv_T) (F : Int → List mv_T → Prop) : Prop := match st with
  | .inr (.inl a) :: r => F a r
  | _ => False
def pR (st : List mv_T) (F : Option Nat → List mv_T → Prop) : Prop := match st with
  | .inr (.inr a) :: r => F a r
  | _ => False
/-- a value of one word -/
def p1 (st : List mv_T) (F : mv_T → List mv_T → Prop) : Prop := match st with
  | .inl a :: r => F (.inl a) r
  | .inr (.inr a) :: r => F (.inr (.inr a)) r
  | _ => False
def icnd (c : ClassFile.Cond) (a b : Int) : Prop := match c with
  | .eq => a = b
  | .ne => ¬ a = b
  | .lt => a < b
  | .ge => b ≤ a
  | .gt => b < a
  | .le => a ≤ b
def swt (a : Int) (K : Nat → Prop) : Int → List Nat → Prop
  | _, [] => True
  | i, t :: ts => (a = i → K t) ∧ swt a K (i + 1) ts
def bAnd (a b : Int) : Int := (Int32.ofInt a &&& Int32.ofInt b).toInt
def bXor (a b : Int) : Int := (Int32.ofInt a ^^^ Int32.ofInt b).toInt
def lAnd (a b : Int) : Int := (Int64.ofInt a &&& Int64.ofInt b).toInt
def lShr (a b : Int) : Int := (Int64.ofInt a >>> ((Int32.ofInt b).toInt64 &&& 63)).toInt
def bOr (a b : Int) : Int := (Int32.ofInt a ||| Int32.ofInt b).toInt
def bShl (a b : Int) : Int := (Int32.ofInt a <<< (Int32.ofInt b &&& 31)).toInt
def bShr (a b : Int) : Int := (Int32.ofInt a >>> (Int32.ofInt b &&& 31)).toInt
def cmp3 (a b : Int) : Int := if a < b then -1 else if a = b then 0 else 1
def rtn (rk : Nat) (r : Option mv_T) (F : List mv_T → Prop) : Prop := match rk with
  | 0 => r = none ∧ F []
  | 3 => ∃ o, r = some (vR o) ∧ F [vR o]
  | 4 => ∃ a, r = some (vL a) ∧ F [vL a]
  | _ => ∃ a, r = some (vI a) ∧ F [vI a]
/-- n values off the stack, the deepest first -/
def popn : Nat → List mv_T → List mv_T → (List mv_T → List mv_T → Prop) → Prop
  | 0, acc, st, F => F acc st
  | _ + 1, _, [], _ => False
  | n + 1, acc, v :: st, F => popn n (v :: acc) st F
def mcat (v : mv_T) : Nat := match v with
  | .inr (.inl _) => 2
  | _ => 1
def mwds : List mv_T → Nat
  | [] => 0
  | v :: r => mcat v + mwds r
def all1 : List mv_T → Bool
  | [] => true
  | v :: r => Nat.beq (mcat v) 1 && all1 r
/-- arguments of one word, or no more words than the method's locals -/
def okas (j : Nat) (as : List mv_T) : Bool := match all1 as with
  | true => true
  | false => Nat.ble (mwds as) (mxl j)
def okA (σ : ms_T) (o : Option Nat) (kd : Nat) (i : Int) (F : Nat → Prop) : Prop := isS o fun c => (gs σ c).1 = kd ∧ 0 ≤ i ∧ i < ((gs σ c).2 : Int) ∧ F c
/-- an array of references, of any element kind -/
def okQ (σ : ms_T) (o : Option Nat) (i : Int) (F : Nat → Prop) : Prop := isS o fun c => 60 ≤ (gs σ c).1 ∧ (gs σ c).1 < 70 ∧ 0 ≤ i ∧ i < ((gs σ c).2 : Int) ∧ F c
def retI (rk : Nat) (a : Int) (F : Prop) : Prop := match rk with
  | 1 => F
  | 2 => (a = 0 ∨ a = 1) ∧ F
  | _ => False
abbrev mk_T : Type := Nat → ml_T → List mv_T → ms_T → Prop
abbrev mq_T : Type := Option mv_T → ms_T → Prop
abbrev mc_T : Type := Nat → List mv_T → ms_T → mq_T → Prop
def wpi (pc : Nat) (e : me_T) (rk : Nat) (ls : ml_T) (st : List mv_T) (σ : ms_T) (K : mk_T) (C : mc_T) (Q : mq_T) : Prop := match e with
  | (.aconst_null, _, _) => K (pc + 1) ls (vR none :: st) σ
  | (.iconst _, [n], v) => K (pc + n) ls (vI v :: st) σ
  | (.bipush _, [n], v) => K (pc + n) ls (vI v :: st) σ
  | (.sipush _, [n], v) => K (pc + n) ls (vI v :: st) σ
  | (.lconst _, _, v) => K (pc + 1) ls (vL v :: st) σ
  | (.ldc _, _, v) => K (pc + 2) ls (vI v :: st) σ
  | (.ldc2_w _, _, v) => K (pc + 3) ls (vL v :: st) σ
  | (.iload_n _, [k, n], _) => ldI ls k fun a => K (pc + n) ls (vI a :: st) σ
  | (.iload _, [k, n], _) => ldI ls k fun a => K (pc + n) ls (vI a :: st) σ
  | (.lload_n _, [k, n], _) => ldL ls k fun a => K (pc + n) ls (vL a :: st) σ
  | (.lload _, [k, n], _) => ldL ls k fun a => K (pc + n) ls (vL a :: st) σ
  | (.aload_n _, [k, n], _) => ldR ls k fun a => K (pc + n) ls (vR a :: st) σ
  | (.aload _, [k, n], _) => ldR ls k fun a => K (pc + n) ls (vR a :: st) σ
  | (.istore_n _, [k, n], _) => pI st fun a r => gd (Nat.blt k ls.length && nol ls k) (K (pc + n) (put ls k (some (vI a))) r σ)
  | (.istore _, [k, n], _) => pI st fun a r => gd (Nat.blt k ls.length && nol ls k) (K (pc + n) (put ls k (some (vI a))) r σ)
  | (.lstore_n _, [k, n], _) => pL st fun a r => gd (Nat.blt (k + 1) ls.length && nol ls k) (K (pc + n) (put (put ls k (some (vL a))) (k + 1) none) r σ)
  | (.lstore _, [k, n], _) => pL st fun a r => gd (Nat.blt (k + 1) ls.length && nol ls k) (K (pc + n) (put (put ls k (some (vL a))) (k + 1) none) r σ)
  | (.astore_n _, [k, n], _) => pR st fun a r => gd (Nat.blt k ls.length && nol ls k) (K (pc + n) (put ls k (some (vR a))) r σ)
  | (.astore _, [k, n], _) => pR st fun a r => gd (Nat.blt k ls.length && nol ls k) (K (pc + n) (put ls k (some (vR a))) r σ)
  | (.iinc _ _, [k], v) => ldI ls k fun a => gd (Nat.blt k ls.length && nol ls k) (K (pc + 3) (put ls k (some (vI (wr (a + v))))) st σ)
  | (.iadd, _, _) => pI st fun b r => pI r fun a r => K (pc + 1) ls (vI (wr (a + b)) :: r) σ
  | (.isub, _, _) => pI st fun b r => pI r fun a r => K (pc + 1) ls (vI (wr (a - b)) :: r) σ
  | (.imul, _, _) => pI st fun b r => pI r fun a r => K (pc + 1) ls (vI (wr (a * b)) :: r) σ
  | (.idiv, _, _) => pI st fun b r => pI r fun a r => ¬ b = 0 ∧ K (pc + 1) ls (vI (wr (a.tdiv b)) :: r) σ
  | (.irem, _, _) => pI st fun b r => pI r fun a r => ¬ b = 0 ∧ K (pc + 1) ls (vI (a.tmod b) :: r) σ
  | (.iand, _, _) => pI st fun b r => pI r fun a r => K (pc + 1) ls (vI (bAnd a b) :: r) σ
  | (.ior, _, _) => pI st fun b r => pI r fun a r => K (pc + 1) ls (vI (bOr a b) :: r) σ
  | (.ixor, _, _) => pI st fun b r => pI r fun a r => K (pc + 1) ls (vI (bXor a b) :: r) σ
  | (.ishl, _, _) => pI st fun b r => pI r fun a r => K (pc + 1) ls (vI (bShl a b) :: r) σ
  | (.ishr, _, _) => pI st fun b r => pI r fun a r => K (pc + 1) ls (vI (bShr a b) :: r) σ
  | (.i2l, _, _) => pI st fun a r => K (pc + 1) ls (vL a :: r) σ
  | (.i2c, _, _) => pI st fun a r => 0 ≤ a ∧ a < 65536 ∧ K (pc + 1) ls (vI a :: r) σ
  | (.ladd, _, _) => pL st fun b r => pL r fun a r => K (pc + 1) ls (vL (wl (a + b)) :: r) σ
  | (.lmul, _, _) => pL st fun b r => pL r fun a r => K (pc + 1) ls (vL (wl (a * b)) :: r) σ
  | (.lrem, _, _) => pL st fun b r => pL r fun a r => ¬ b = 0 ∧ K (pc + 1) ls (vL (a.tmod b) :: r) σ
  | (.land, _, _) => pL st fun b r => pL r fun a r => K (pc + 1) ls (vL (lAnd a b) :: r) σ
  | (.lshr, _, _) => pI st fun b r => pL r fun a r => K (pc + 1) ls (vL (lShr a b) :: r) σ
  | (.l2i, _, _) => pL st fun a r => K (pc + 1) ls (vI (wr a) :: r) σ
  | (.lcmp, _, _) => pL st fun b r => pL r fun a r => K (pc + 1) ls (vI (cmp3 a b) :: r) σ
  | (.dup, _, _) => p1 st fun a r => K (pc + 1) ls (a :: a :: r) σ
  | (.dup2, _, _) => p1 st fun b r => p1 r fun a r => K (pc + 1) ls (b :: a :: b :: a :: r) σ
  | (.pop, _, _) => p1 st fun _ r => K (pc + 1) ls r σ
  | (.goto _, [t], _) => K t ls st σ
  | (.ifCond c _, [t], _) => pI st fun a r => (icnd c a 0 → K t ls r σ) ∧ (¬ icnd c a 0 → K (pc + 3) ls r σ)
  | (.if_icmp c _, [t], _) => pI st fun b r => pI r fun a r => (icnd c a b → K t ls r σ) ∧ (¬ icnd c a b → K (pc + 3) ls r σ)
  | (.ifnull _, [t], _) => pR st fun a r => (a = none → K t ls r σ) ∧ (¬ a = none → K (pc + 3) ls r σ)
  | (.ifnonnull _, [t], _) => pR st fun a r => (¬ a = none → K t ls r σ) ∧ (a = none → K (pc + 3) ls r σ)
  | (.tableswitch _ _ _ _, d :: ts, lo) => pI st fun a r => (a < lo ∨ lo + ts.length ≤ a → K d ls r σ) ∧ swt a (fun t => K t ls r σ) lo ts
  | (.getfield _, [ci, k, 2, _], _) => pR st fun o r => isS o fun c => gs σ c = (ci, 0) ∧ K (pc + 3) ls (vR (gr σ c k) :: r) σ
  | (.getfield _, [ci, k, 1, _], _) => pR st fun o r => isS o fun c => gs σ c = (ci, 0) ∧ K (pc + 3) ls (vI (gi σ c k) :: r) σ
  | (.getfield _, [ci, k, 0, _], _) => pR st fun o r => isS o fun c => gs σ c = (ci, 0) ∧ K (pc + 3) ls (vI (gi σ c k) :: r) σ
  | (.putfield _, [ci, k, 2, _], _) => pR st fun v r => pR r fun o r => isS o fun c => gs σ c = (ci, 0) ∧ K (pc + 3) ls r (sR σ c k v)
  | (.putfield _, [ci, k, 1, _], _) => pI st fun v r => pR r fun o r => isS o fun c => gs σ c = (ci, 0) ∧ (v = 0 ∨ v = 1) ∧ K (pc + 3) ls r (sI σ c k v)
  | (.putfield _, [ci, k, 0, _], _) => pI st fun v r => pR r fun o r => isS o fun c => gs σ c = (ci, 0) ∧ K (pc + 3) ls r (sI σ c k v)
  | (.iaload, [kd], _) => pI st fun i r => pR r fun o r => okA σ o kd i fun c => K (pc + 1) ls (vI (gi σ c i.toNat) :: r) σ
  | (.caload, [kd], _) => pI st fun i r => pR r fun o r => okA σ o kd i fun c => K (pc + 1) ls (vI (gi σ c i.toNat) :: r) σ
  | (.aaload, _, _) => pI st fun i r => pR r fun o r => okQ σ o i fun c => K (pc + 1) ls (vR (gr σ c i.toNat) :: r) σ
  | (.iastore, [kd], _) => pI st fun v r => pI r fun i r => pR r fun o r => okA σ o kd i fun c => K (pc + 1) ls r (sI σ c i.toNat v)
  | (.castore, [kd], _) => pI st fun v r => pI r fun i r => pR r fun o r => okA σ o kd i fun c => 0 ≤ v ∧ v < 65536 ∧ K (pc + 1) ls r (sI σ c i.toNat v)
  | (.aastore, _, _) => pR st fun v r => pI r fun i r => pR r fun o r => okQ σ o i fun c => (isS v fun w => (gs σ w).1 + 60 = (gs σ c).1 ∧ (gs σ w).2 = 0) ∧ K (pc + 1) ls r (sR σ c i.toNat v)
  | (.arraylength, _, _) => pR st fun o r => isS o fun c => (gs σ c).1 = 49 ∧ K (pc + 1) ls (vI ((gs σ c).2 : Int) :: r) σ
  | (.new _, [ci, n], _) => K (pc + 3) ls (vR (some (gn σ + 1)) :: st) (alc σ ci 0 n)
  | (.newarray _, [kd], _) => pI st fun a r => 0 ≤ a ∧ a ≤ 1000 ∧ K (pc + 2) ls (vR (some (gn σ + 1)) :: r) (alc σ kd a.toNat a.toNat)
  | (.anewarray _, [kd], _) => pI st fun a r => 0 ≤ a ∧ a ≤ 1000 ∧ K (pc + 3) ls (vR (some (gn σ + 1)) :: r) (alc σ kd a.toNat a.toNat)
  | (.invokevirtual _, [j, n, rk', ci], 0) => popn n [] st fun as r => pR r fun o r => isS o fun c => gs σ c = (ci, 0) ∧ gd (Nat.ble (mwds r) 8 && all1 as) (C j (vR (some c) :: as) σ fun v τ => rtn rk' v fun vs => K (pc + 3) ls (vs ++ r) τ)
  | (.invokestatic _, [j, n, rk', _], 1) => popn n [] st fun as r => gd (Nat.ble (mwds r) 8 && okas j as) (C j as σ fun v τ => rtn rk' v fun vs => K (pc + 3) ls (vs ++ r) τ)
  | (.invokespecial _, [j, n, _, ci], 2) => popn n [] st fun as r => pR r fun o r => isS o fun c => gs σ c = (ci, 0) ∧ gd (Nat.ble (mwds r) 8 && all1 as) (C j (vR (some c) :: as) σ fun v τ => rtn 0 v fun vs => K (pc + 3) ls (vs ++ r) τ)
  | (.invokespecial _, [], 3) => pR st fun o r => isS o fun c => gd (Nat.ble (mwds r) 8) (K (pc + 3) ls r σ)
  | (.invokestatic _, [], 4) => pI st fun b r => pI r fun a r => gd (Nat.ble (mwds r) 8) (K (pc + 3) ls (vI (min a b) :: r) σ)
  | (.invokestatic _, [], 5) => pI st fun b r => pI r fun a r => gd (Nat.ble (mwds r) 8) (K (pc + 3) ls (vI (max a b) :: r) σ)
  | (.return_, _, _) => isE st (gd (Nat.beq rk 0) (Q none σ))
  | (.ireturn, _, _) => pI st fun a r => isE r (retI rk a (Q (some (vI a)) σ))
  | (.lreturn, _, _) => pL st fun a r => isE r (gd (Nat.beq rk 4) (Q (some (vL a)) σ))
  | (.areturn, _, _) => pR st fun a r => isE r (gd (Nat.beq rk 3) (Q (some (vR a)) σ))
  | _ => False
/-- a method's locals at its entry -/
def xpa : List mv_T → ml_T
  | [] => []
  | .inr (.inl a) :: vs => some (vL a) :: none :: xpa vs
  | .inl a :: vs => some (vI a) :: xpa vs
  | .inr (.inr a) :: vs => some (vR a) :: xpa vs
def padN : Nat → ml_T → ml_T
  | 0, _ => []
  | n + 1, [] => none :: padN n []
  | n + 1, x :: xs => x :: padN n xs
def pad (n : Nat) (as : List mv_T) : ml_T := padN n (xpa as)
def Wm : Nat → Nat → Nat → ml_T → List mv_T → ms_T → mq_T → Prop
  | 0, _, _, _, _, _, _ => False
  | n + 1, j, pc, ls, st, σ, Q => ∃ e, code_of j pc = some e ∧ wpi pc e (mrt j) ls st σ (fun pc' ls' st' σ' => Wm n j pc' ls' st' σ' Q) (fun j' as σ' k => Wm n j' 0 (pad (mxl j') as) [] σ' k) Q
def At (j pc : Nat) (ls : ml_T) (st : List mv_T) (σ : ms_T) (Q : mq_T) : Prop := ∃ n, Wm n j pc ls st σ Q
def Ca (j : Nat) (as : List mv_T) (σ : ms_T) (Q : mq_T) : Prop := At j 0 (pad (mxl j) as) [] σ Q
