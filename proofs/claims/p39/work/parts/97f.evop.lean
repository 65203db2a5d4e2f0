/-! The evaluator's steps -/
noncomputable section
abbrev fr_T : Type := Nat × Nat × ml_T × List mv_T × Nat
abbrev cf_T : Type := Nat × Nat × ml_T × List mv_T × List fr_T × mm_T
abbrev kc_T : Type := Nat → Nat → ml_T → List mv_T → List fr_T → mm_T → Option cf_T
abbrev op_T : Type := Nat → Nat → ml_T → List mv_T → List fr_T → mm_T → kc_T → Option cf_T
/-- what waits behind a call's return -/
def CQ : List fr_T → mq_T → mq_T
  | [], Q => Q
  | (j, pc, ls, r, rk) :: fs, Q => fun v τ => rtn rk v fun vs => At j (pc + 3) ls (vs ++ r) τ (CQ fs Q)
def HK (σ : ms_T) (Q : mq_T) (cf : cf_T) (K : kc_T) : Prop := ∀ j pc ls st fs m, K j pc ls st fs m = some cf → At j pc ls st (sg σ m) (CQ fs Q)
def wrE (x : Int) : Int := Int.sub (Int.emod (Int.add x (Int.ofNat 2147483648)) (Int.ofNat 4294967296)) (Int.ofNat 2147483648)
theorem wrE_eq {x : Int} : wrE x = wr x := rfl
def wlE (x : Int) : Int := Int.sub (Int.emod (Int.add x (Int.ofNat 9223372036854775808)) (Int.ofNat 18446744073709551616)) (Int.ofNat 9223372036854775808)
theorem wlE_eq {x : Int} : wlE x = wl x := rfl
def negb (x : Int) : Bool := Int.rec (fun _ => false) (fun _ => true) x
theorem negb_ok {x : Int} : negb x = true ↔ x < 0 := by
  cases x with
  | ofNat n => exact ⟨fun h => (by cases h), fun h => (by
      have h : ((n : Nat) : Int) < 0 := h
      omega)⟩
  | negSucc n => exact ⟨fun _ => Int.negSucc_lt_zero n, fun _ => rfl⟩
def bltI (a b : Int) : Bool := negb (Int.sub a b)
theorem bltI_ok {a b : Int} : bltI a b = true ↔ a < b := by
  unfold bltI
  rw [negb_ok]
  show a - b < 0 ↔ a < b
  omega
def beqI (a b : Int) : Bool := Int.rec (fun n => Int.rec (fun m => Nat.beq n m) (fun _ => false) b) (fun n => Int.rec (fun _ => false) (fun m => Nat.beq n m) b) a
theorem beqI_ok {a b : Int} : beqI a b = true ↔ a = b := by
  cases a with
  | ofNat n => cases b with
    | ofNat m => exact ⟨fun h => congrArg Int.ofNat (Nat.eq_of_beq_eq_true h), fun h => (by cases h; exact Nat.beq_refl n)⟩
    | negSucc m => exact ⟨fun h => (by cases h), fun h => (by cases h)⟩
  | negSucc n => cases b with
    | ofNat m => exact ⟨fun h => (by cases h), fun h => (by cases h)⟩
    | negSucc m => exact ⟨fun h => congrArg Int.negSucc (Nat.eq_of_beq_eq_true h), fun h => (by cases h; exact Nat.beq_refl n)⟩
theorem bltI_no {a b : Int} : bltI a b = false ↔ b ≤ a := by
  rw [← Bool.not_eq_true, bltI_ok]
  omega
theorem beqI_no {a b : Int} : beqI a b = false ↔ ¬ a = b := by rw [← Bool.not_eq_true, beqI_ok]
def notB (b : Bool) : Bool := Bool.rec true false b
theorem notB_eq {b : Bool} : notB b = true ↔ ¬ b = true := by cases b <;> simp [notB]
def cndE (c : ClassFile.Cond) (a b : Int) : Bool := match c with
  | .eq => beqI a b
  | .ne => notB (beqI a b)
  | .lt => bltI a b
  | .ge => notB (bltI a b)
  | .gt => bltI b a
  | .le => notB (bltI b a)
theorem cndE_ok {c : ClassFile.Cond} {a b : Int} : cndE c a b = true ↔ icnd c a b := by
  cases c
  · exact beqI_ok
  · show notB _ = true ↔ _
    rw [notB_eq, beqI_ok]; rfl
  · exact bltI_ok
  · show notB _ = true ↔ _
    rw [notB_eq, bltI_ok]
    show ¬ a < b ↔ b ≤ a
    omega
  · exact bltI_ok
  · show notB _ = true ↔ _
    rw [notB_eq, bltI_ok]
    show ¬ b < a ↔ a ≤ b
    omega
def cmpE (a b : Int) : Int := Bool.rec (Bool.rec (Int.ofNat 1) (Int.ofNat 0) (beqI a b)) (Int.negSucc 0) (bltI a b)
theorem cmpE_eq {a b : Int} : cmpE a b = cmp3 a b := by
  unfold cmpE cmp3
  by_cases h : a < b
  · rw [if_pos h, bltI_ok.mpr h]; rfl
  · rw [if_neg h, bltI_no.mpr (by omega)]
    by_cases e : a = b
    · rw [if_pos e, beqI_ok.mpr e]; rfl
    · rw [if_neg e, beqI_no.mpr e]; rfl
def minE (a b : Int) : Int := Bool.rec a b (bltI b a)
theorem minE_eq {a b : Int} : minE a b = min a b := by
  unfold minE
  by_cases h : b < a
  · rw [bltI_ok.mpr h]
    show b = min a b
    omega
  · rw [bltI_no.mpr (by omega)]
    show a = min a b
    omega
def maxE (a b : Int) : Int := Bool.rec b a (bltI b a)
theorem maxE_eq {a b : Int} : maxE a b = max a b := by
  unfold maxE
  by_cases h : b < a
  · rw [bltI_ok.mpr h]
    show a = max a b
    omega
  · rw [bltI_no.mpr (by omega)]
    show b = max a b
    omega
def nolE (ls : ml_T) (k : Nat) : Bool := Nat.rec true (fun j _ => match nthE ls j with
    | some (some (.inr (.inl _))) => false
    | _ => true) k
theorem nolE_eq {ls : ml_T} {k : Nat} : nolE ls k = nol ls k := by
  cases k with
  | zero => rfl
  | succ j =>
    show (match nthE ls j with
    | some (some (.inr (.inl _))) => false
    | _ => true) = nol ls (j + 1)
    rw [nthE_eq]
    unfold nol
    rfl
/-- a cell of the memory, its parts -/
def wCel (B n : Nat) (rows : List (List ec_T)) (c : Nat) (f : Nat → Nat → Nat → List Int → List (Option Nat) → Option cf_T) : Option cf_T := match inMb B n c with
  | true => match celR rows (Nat.sub (Nat.sub c B) 1) with
    | ((kd, ln), is, rs) => f (Nat.sub (Nat.sub c B) 1) kd ln is rs
  | false => none
theorem wCel_ok {B n g : Nat} {rows : List (List ec_T)} {c : Nat} {f : Nat → Nat → Nat → List Int → List (Option Nat) → Option cf_T} {cf : cf_T} (h : wCel B n rows c f = some cf) : inM (B, n, g, rows) c ∧ f (c - B - 1) (celR rows (c - B - 1)).1.1 (celR rows (c - B - 1)).1.2 (celR rows (c - B - 1)).2.1 (celR rows (c - B - 1)).2.2 = some cf := by
  unfold wCel at h
  split at h
  · next h1 => exact ⟨inMb_ok h1, h⟩
  · cases h
theorem gs_e {σ : ms_T} {B n g : Nat} {rows : List (List ec_T)} {c : Nat} (h : inM (B, n, g, rows) c) : gs (sg σ (B, n, g, rows)) c = ((celR rows (c - B - 1)).1.1, (celR rows (c - B - 1)).1.2) := gs_sg h
def kdOk (kd ln a b : Nat) : Bool := match Nat.beq kd a with
  | true => Nat.beq ln b
  | false => false
theorem kdOk_ok {kd ln a b : Nat} (h : kdOk kd ln a b = true) : (kd, ln) = (a, b) := by
  unfold kdOk at h
  split at h
  · next h1 => rw [Nat.eq_of_beq_eq_true h1, Nat.eq_of_beq_eq_true h]
  · cases h
/-- an index in a row of ln -/
def wIdx (i : Int) (ln : Nat) (f : Nat → Option cf_T) : Option cf_T := Int.rec (fun q => match Nat.ble (Nat.succ q) ln with
    | true => f q
    | false => none) (fun _ => none) i
theorem wIdx_ok {i : Int} {ln : Nat} {f : Nat → Option cf_T} {cf : cf_T} (h : wIdx i ln f = some cf) : 0 ≤ i ∧ i < (ln : Int) ∧ f i.toNat = some cf := by
  cases i with
  | ofNat q =>
    have h : (match Nat.ble (Nat.succ q) ln with
      | true => f q
      | false => none) = some cf := h
    split at h
    · next h1 =>
      have h2 := Nat.le_of_ble_eq_true h1
      refine ⟨Int.natCast_nonneg q, ?_, h⟩
      show (q : Int) < (ln : Int)
      omega
    · cases h
  | negSucc q => cases h
def wBool (b : Bool) (o : Option cf_T) : Option cf_T := match b with
  | true => o
  | false => none
theorem wBool_ok {b : Bool} {o : Option cf_T} {cf : cf_T} (h : wBool b o = some cf) : b = true ∧ o = some cf := by
  unfold wBool at h
  split at h
  · exact ⟨rfl, h⟩
  · cases h
theorem pI_mk {a : Int} {r : List mv_T} {F : Int → List mv_T → Prop} (h : F a r) : pI (vI a :: r) F := h
theorem pL_mk {a : Int} {r : List mv_T} {F : Int → List mv_T → Prop} (h : F a r) : pL (vL a :: r) F := h
theorem pR_mk {a : Option Nat} {r : List mv_T} {F : Option Nat → List mv_T → Prop} (h : F a r) : pR (vR a :: r) F := h
theorem blt_mk {a b : Nat} (h : a < b) : Nat.blt a b = true := Nat.blt_eq.mpr h
theorem and_mk {a b : Bool} (h1 : a = true) (h2 : b = true) : (a && b) = true := by rw [h1, h2]; rfl
def isW (v : mv_T) : Bool := match v with
  | .inr (.inl _) => false
  | _ => true
theorem isW_ok {v : mv_T} (h : isW v = true) : mcat v = 1 := by
  rcases v with v | v | v
  · rfl
  · cases h
  · rfl
def swE (a lo : Int) (d : Nat) (ts : List Nat) : Nat := Bool.rec (nthO d (nthE ts (Int.toNat (Int.sub a lo)))) d (bltI a lo)
theorem swt_of {a : Int} {K : Nat → Prop} : ∀ {ts : List Nat} {lo : Int}, (∀ (i : Nat) t, nth ts i = some t → a = lo + i → K t) → swt a K lo ts
  | [], _, _ => trivial
  | t :: ts, lo, h => ⟨fun e => h 0 t rfl (by rw [e]; simp), swt_of fun i t' e z => h (i + 1) t' e (by rw [z]; omega)⟩
theorem nth_none {α : Type} : ∀ {xs : List α} {k : Nat}, xs.length ≤ k → nth xs k = none
  | [], _, _ => rfl
  | _ :: xs, 0, h => by simp at h
  | _ :: xs, k + 1, h => nth_none (xs := xs) (k := k) (by simp at h; omega)
theorem swE_ok {a lo : Int} {d : Nat} {ts : List Nat} {K : Nat → Prop} (h : K (swE a lo d ts)) : (a < lo ∨ lo + ts.length ≤ a → K d) ∧ swt a K lo ts := by
  unfold swE at h
  by_cases c : a < lo
  · rw [bltI_ok.mpr c] at h
    exact ⟨fun _ => h, swt_lt c⟩
  · rw [bltI_no.mpr (by omega)] at h
    have h : K (nthO d (nthE ts (a - lo).toNat)) := h
    rw [nthE_eq] at h
    refine ⟨fun z => ?_, swt_of fun i t e z => ?_⟩
    · rw [nth_none (by omega)] at h
      exact h
    · rw [show (a - lo).toNat = i by omega, e] at h
      exact h
def ofz {β : Type} (o : Option Nat) (k : Option Nat → β) : β := match o with
  | none => k none
  | some c => k (some c)
theorem ofz_eq {β : Type} {o : Option Nat} {k : Option Nat → β} : ofz o k = k o := by cases o <;> rfl
def boolE (v : Int) : Bool := match beqI v (Int.ofNat 0) with
  | true => true
  | false => beqI v (Int.ofNat 1)
theorem boolE_ok {v : Int} (h : boolE v = true) : v = 0 ∨ v = 1 := by
  unfold boolE at h
  split at h
  · next e => exact Or.inl (beqI_ok.mp e)
  · exact Or.inr (beqI_ok.mp h)
def chE (ch : Bool) (v : Int) : Bool := match ch with
  | false => true
  | true => match bltI v (Int.ofNat 0) with
    | true => false
    | false => bltI v (Int.ofNat 65536)
theorem chE_ok {ch : Bool} {v : Int} (h : chE ch v = true) : ch = true → 0 ≤ v ∧ v < 65536 := by
  intro e
  subst e
  have h : (match bltI v (Int.ofNat 0) with
    | true => false
    | false => bltI v (Int.ofNat 65536)) = true := h
  split at h
  · cases h
  · next e => exact ⟨bltI_no.mp e, bltI_ok.mp h⟩
def rkE (kd : Nat) : Bool := match Nat.ble 60 kd with
  | true => Nat.ble (Nat.succ kd) 70
  | false => false
theorem rkE_ok {kd : Nat} (h : rkE kd = true) : 60 ≤ kd ∧ kd < 70 := by
  unfold rkE at h
  split at h
  · next e => exact ⟨Nat.le_of_ble_eq_true e, Nat.le_of_ble_eq_true h⟩
  · cases h
def riE (rk : Nat) (a : Int) : Bool := match rk with
  | 1 => true
  | 2 => boolE a
  | _ => false
theorem riE_ok {rk : Nat} {a : Int} {F : Prop} (h : riE rk a = true) (hF : F) : retI rk a F := by
  unfold riE at h
  unfold retI
  split at h
  · exact hF
  · exact ⟨boolE_ok h, hF⟩
  · cases h
/-- n values off the stack, the deepest first -/
def popE (n : Nat) (acc st : List mv_T) (f : List mv_T → List mv_T → Option cf_T) : Option cf_T := Nat.rec (motive := fun _ => List mv_T → List mv_T → Option cf_T) (fun acc st => f acc st) (fun _ ih acc st => match st with
  | [] => none
  | v :: r => ih (v :: acc) r) n acc st
theorem popE_ok {f : List mv_T → List mv_T → Option cf_T} {cf : cf_T} : ∀ {n : Nat} {acc st : List mv_T}, popE n acc st f = some cf → ∃ as r, f as r = some cf ∧ ∀ {G : List mv_T → List mv_T → Prop}, G as r → popn n acc st G
  | 0, acc, st, h => ⟨acc, st, h, fun g => g⟩
  | n + 1, acc, [], h => by cases h
  | n + 1, acc, v :: r, h => by
    obtain ⟨as, r2, h1, h2⟩ := popE_ok (n := n) (acc := v :: acc) (st := r) h
    exact ⟨as, r2, h1, fun g => h2 g⟩
def fAdd (a b : Int) : Int := wrE (Int.add a b)
def fSub (a b : Int) : Int := wrE (Int.sub a b)
def fMul (a b : Int) : Int := wrE (Int.mul a b)
def fDiv (a b : Int) : Int := wrE (Int.tdiv a b)
def fRem (a b : Int) : Int := Int.tmod a b
def gAdd (a b : Int) : Int := wlE (Int.add a b)
def gMul (a b : Int) : Int := wlE (Int.mul a b)
def op_push (v : Int) (n : Nat) : op_T := fun j pc ls st fs m k => fzN (Nat.add pc n) fun p => k j p ls (.inl v :: st) fs m
def op_pushL (v : Int) (n : Nat) : op_T := fun j pc ls st fs m k => fzN (Nat.add pc n) fun p => k j p ls (.inr (.inl v) :: st) fs m
def op_null (n : Nat) : op_T := fun j pc ls st fs m k => fzN (Nat.add pc n) fun p => k j p ls (.inr (.inr none) :: st) fs m
def op_loadI (q n : Nat) : op_T := fun j pc ls st fs m k => match nthE ls q with
  | some (some (.inl a)) => fzN (Nat.add pc n) fun p => k j p ls (.inl a :: st) fs m
  | _ => none
def op_loadL (q n : Nat) : op_T := fun j pc ls st fs m k => match nthE ls q with
  | some (some (.inr (.inl a))) => fzN (Nat.add pc n) fun p => k j p ls (.inr (.inl a) :: st) fs m
  | _ => none
def op_loadR (q n : Nat) : op_T := fun j pc ls st fs m k => match nthE ls q with
  | some (some (.inr (.inr a))) => fzN (Nat.add pc n) fun p => k j p ls (.inr (.inr a) :: st) fs m
  | _ => none
def op_storeI (q n : Nat) : op_T := fun j pc ls st fs m k => match st with
  | .inl a :: r => wBool (nolE ls q) (setK ls q (some (.inl a)) fun l2 => fzN (Nat.add pc n) fun p => k j p l2 r fs m)
  | _ => none
def op_storeR (q n : Nat) : op_T := fun j pc ls st fs m k => match st with
  | .inr (.inr a) :: r => wBool (nolE ls q) (setK ls q (some (.inr (.inr a))) fun l2 => fzN (Nat.add pc n) fun p => k j p l2 r fs m)
  | _ => none
def op_storeL (q n : Nat) : op_T := fun j pc ls st fs m k => match st with
  | .inr (.inl a) :: r => wBool (nolE ls q) (setK ls q (some (.inr (.inl a))) fun l2 => setK l2 (Nat.succ q) none fun l3 => fzN (Nat.add pc n) fun p => k j p l3 r fs m)
  | _ => none
def op_iinc (q : Nat) (v : Int) : op_T := fun j pc ls st fs m k => match nthE ls q with
  | some (some (.inl a)) => wBool (nolE ls q) (fz (wrE (Int.add a v)) fun x => setK ls q (some (.inl x)) fun l2 => fzN (Nat.add pc 3) fun p => k j p l2 st fs m)
  | _ => none
def op_bin (f : Int → Int → Int) : op_T := fun j pc ls st fs m k => match st with
  | .inl b :: .inl a :: r => fz (f a b) fun x => fzN (Nat.add pc 1) fun p => k j p ls (.inl x :: r) fs m
  | _ => none
def op_binL (f : Int → Int → Int) : op_T := fun j pc ls st fs m k => match st with
  | .inr (.inl b) :: .inr (.inl a) :: r => fz (f a b) fun x => fzN (Nat.add pc 1) fun p => k j p ls (.inr (.inl x) :: r) fs m
  | _ => none
def op_binLI (f : Int → Int → Int) : op_T := fun j pc ls st fs m k => match st with
  | .inl b :: .inr (.inl a) :: r => fz (f a b) fun x => fzN (Nat.add pc 1) fun p => k j p ls (.inr (.inl x) :: r) fs m
  | _ => none
def op_cmp (f : Int → Int → Int) : op_T := fun j pc ls st fs m k => match st with
  | .inr (.inl b) :: .inr (.inl a) :: r => fz (f a b) fun x => fzN (Nat.add pc 1) fun p => k j p ls (.inl x :: r) fs m
  | _ => none
def op_div (f : Int → Int → Int) : op_T := fun j pc ls st fs m k => match st with
  | .inl b :: .inl a :: r => wBool (notB (beqI b (Int.ofNat 0))) (fz (f a b) fun x => fzN (Nat.add pc 1) fun p => k j p ls (.inl x :: r) fs m)
  | _ => none
def op_divL (f : Int → Int → Int) : op_T := fun j pc ls st fs m k => match st with
  | .inr (.inl b) :: .inr (.inl a) :: r => wBool (notB (beqI b (Int.ofNat 0))) (fz (f a b) fun x => fzN (Nat.add pc 1) fun p => k j p ls (.inr (.inl x) :: r) fs m)
  | _ => none
def op_i2l  : op_T := fun j pc ls st fs m k => match st with
  | .inl a :: r => fzN (Nat.add pc 1) fun p => k j p ls (.inr (.inl a) :: r) fs m
  | _ => none
def op_l2i  : op_T := fun j pc ls st fs m k => match st with
  | .inr (.inl a) :: r => fz (wrE a) fun x => fzN (Nat.add pc 1) fun p => k j p ls (.inl x :: r) fs m
  | _ => none
def op_i2c  : op_T := fun j pc ls st fs m k => match st with
  | .inl a :: r => wBool (notB (bltI a (Int.ofNat 0))) (wBool (bltI a (Int.ofNat 65536)) (fzN (Nat.add pc 1) fun p => k j p ls (.inl a :: r) fs m))
  | _ => none
def op_dup  : op_T := fun j pc ls st fs m k => match st with
  | a :: r => wBool (isW a) (fzN (Nat.add pc 1) fun p => k j p ls (a :: a :: r) fs m)
  | _ => none
def op_dup2  : op_T := fun j pc ls st fs m k => match st with
  | b :: a :: r => wBool (isW b) (wBool (isW a) (fzN (Nat.add pc 1) fun p => k j p ls (b :: a :: b :: a :: r) fs m))
  | _ => none
def op_pop  : op_T := fun j pc ls st fs m k => match st with
  | a :: r => wBool (isW a) (fzN (Nat.add pc 1) fun p => k j p ls r fs m)
  | _ => none
def op_goto (t : Nat) : op_T := fun j pc ls st fs m k => fzN t fun p => k j p ls st fs m
def op_ifc (c : ClassFile.Cond) (t : Nat) : op_T := fun j pc ls st fs m k => match st with
  | .inl a :: r => match cndE c a (Int.ofNat 0) with
    | true => fzN t fun p => k j p ls r fs m
    | false => fzN (Nat.add pc 3) fun p => k j p ls r fs m
  | _ => none
def op_icmp (c : ClassFile.Cond) (t : Nat) : op_T := fun j pc ls st fs m k => match st with
  | .inl b :: .inl a :: r => match cndE c a b with
    | true => fzN t fun p => k j p ls r fs m
    | false => fzN (Nat.add pc 3) fun p => k j p ls r fs m
  | _ => none
def op_ifnull (t : Nat) : op_T := fun j pc ls st fs m k => match st with
  | .inr (.inr none) :: r => fzN t fun p => k j p ls r fs m
  | .inr (.inr (some _)) :: r => fzN (Nat.add pc 3) fun p => k j p ls r fs m
  | _ => none
def op_ifnonnull (t : Nat) : op_T := fun j pc ls st fs m k => match st with
  | .inr (.inr none) :: r => fzN (Nat.add pc 3) fun p => k j p ls r fs m
  | .inr (.inr (some _)) :: r => fzN t fun p => k j p ls r fs m
  | _ => none
def op_switch (d : Nat) (ts : List Nat) (lo : Int) : op_T := fun j pc ls st fs m k => match st with
  | .inl a :: r => fzN (swE a lo d ts) fun p => k j p ls r fs m
  | _ => none
def op_getI (ci q : Nat) : op_T := fun j pc ls st fs m k => match m with
  | (B, n0, g, rows) => match st with
    | .inr (.inr (some c)) :: r => wCel B n0 rows c fun _ kd ln is _ => wBool (kdOk kd ln ci 0) (fz (nthO (Int.ofNat 0) (nthE is q)) fun x => fzN (Nat.add pc 3) fun p => k j p ls (.inl x :: r) fs (B, n0, g, rows))
    | _ => none
def op_getR (ci q : Nat) : op_T := fun j pc ls st fs m k => match m with
  | (B, n0, g, rows) => match st with
    | .inr (.inr (some c)) :: r => wCel B n0 rows c fun _ kd ln _ rs => wBool (kdOk kd ln ci 0) (ofz (nthO none (nthE rs q)) fun x => fzN (Nat.add pc 3) fun p => k j p ls (.inr (.inr x) :: r) fs (B, n0, g, rows))
    | _ => none
def op_putI (ci q : Nat) : op_T := fun j pc ls st fs m k => match m with
  | (B, n0, g, rows) => match st with
    | .inl v :: .inr (.inr (some c)) :: r => wCel B n0 rows c fun i kd ln is rs => wBool (kdOk kd ln ci 0) (setK is q v fun ys => setC rows i ((kd, ln), ys, rs) fun rows2 => fzN (Nat.add pc 3) fun p => k j p ls r fs (B, n0, g, rows2))
    | _ => none
def op_putZ (ci q : Nat) : op_T := fun j pc ls st fs m k => match m with
  | (B, n0, g, rows) => match st with
    | .inl v :: .inr (.inr (some c)) :: r => wBool (boolE v) (wCel B n0 rows c fun i kd ln is rs => wBool (kdOk kd ln ci 0) (setK is q v fun ys => setC rows i ((kd, ln), ys, rs) fun rows2 => fzN (Nat.add pc 3) fun p => k j p ls r fs (B, n0, g, rows2)))
    | _ => none
def op_putR (ci q : Nat) : op_T := fun j pc ls st fs m k => match m with
  | (B, n0, g, rows) => match st with
    | .inr (.inr v) :: .inr (.inr (some c)) :: r => wCel B n0 rows c fun i kd ln is rs => wBool (kdOk kd ln ci 0) (setK rs q v fun ys => setC rows i ((kd, ln), is, ys) fun rows2 => fzN (Nat.add pc 3) fun p => k j p ls r fs (B, n0, g, rows2))
    | _ => none
def op_ald (kd : Nat) : op_T := fun j pc ls st fs m k => match m with
  | (B, n0, g, rows) => match st with
    | .inl i :: .inr (.inr (some c)) :: r => wCel B n0 rows c fun _ kd2 ln is _ => wBool (Nat.beq kd2 kd) (wIdx i ln fun q => fz (nthO (Int.ofNat 0) (nthE is q)) fun x => fzN (Nat.add pc 1) fun p => k j p ls (.inl x :: r) fs (B, n0, g, rows))
    | _ => none
def op_ast (kd : Nat) (ch : Bool) : op_T := fun j pc ls st fs m k => match m with
  | (B, n0, g, rows) => match st with
    | .inl v :: .inl i :: .inr (.inr (some c)) :: r => wBool (chE ch v) (wCel B n0 rows c fun ix kd2 ln is rs => wBool (Nat.beq kd2 kd) (wIdx i ln fun q => setK is q v fun ys => setC rows ix ((kd2, ln), ys, rs) fun rows2 => fzN (Nat.add pc 1) fun p => k j p ls r fs (B, n0, g, rows2)))
    | _ => none
def op_aald  : op_T := fun j pc ls st fs m k => match m with
  | (B, n0, g, rows) => match st with
    | .inl i :: .inr (.inr (some c)) :: r => wCel B n0 rows c fun _ kd2 ln _ rs => wBool (rkE kd2) (wIdx i ln fun q => ofz (nthO none (nthE rs q)) fun x => fzN (Nat.add pc 1) fun p => k j p ls (.inr (.inr x) :: r) fs (B, n0, g, rows))
    | _ => none
def op_aast  : op_T := fun j pc ls st fs m k => match m with
  | (B, n0, g, rows) => match st with
    | .inr (.inr (some w)) :: .inl i :: .inr (.inr (some c)) :: r => wCel B n0 rows w fun _ kdw lnw _ _ => wCel B n0 rows c fun ix kd2 ln is rs => wBool (rkE kd2) (wBool (kdOk (Nat.add kdw 60) lnw kd2 0) (wIdx i ln fun q => setK rs q (some w) fun ys => setC rows ix ((kd2, ln), is, ys) fun rows2 => fzN (Nat.add pc 1) fun p => k j p ls r fs (B, n0, g, rows2)))
    | _ => none
def op_new (ci w : Nat) : op_T := fun j pc ls st fs m k => match m with
  | (B, n0, g, rows) => lfz (zrs (Int.ofNat 0) w) fun xs => lfz (zrs none w) fun ys => setC rows n0 ((ci, 0), xs, ys) fun rows2 => fzN (Nat.succ (Nat.add B n0)) fun a => fzN (Nat.succ n0) fun n2 => fzN (Nat.add g w) fun g2 => fzN (Nat.add pc 3) fun p => k j p ls (.inr (.inr (some a)) :: st) fs (B, n2, g2, rows2)
def op_newI (kd : Nat) : op_T := fun j pc ls st fs m k => match m with
  | (B, n0, g, rows) => match st with
    | .inl a :: r => wIdx a 1001 fun w => lfz (zrs (Int.ofNat 0) w) fun ws => setC rows n0 ((kd, w), ws, []) fun rows2 => fzN (Nat.succ (Nat.add B n0)) fun q => fzN (Nat.succ n0) fun n2 => fzN (Nat.add g w) fun g2 => fzN (Nat.add pc 2) fun p => k j p ls (.inr (.inr (some q)) :: r) fs (B, n2, g2, rows2)
    | _ => none
def op_newQ (kd : Nat) : op_T := fun j pc ls st fs m k => match m with
  | (B, n0, g, rows) => match st with
    | .inl a :: r => wIdx a 1001 fun w => lfz (zrs none w) fun ws => setC rows n0 ((kd, w), [], ws) fun rows2 => fzN (Nat.succ (Nat.add B n0)) fun q => fzN (Nat.succ n0) fun n2 => fzN (Nat.add g w) fun g2 => fzN (Nat.add pc 3) fun p => k j p ls (.inr (.inr (some q)) :: r) fs (B, n2, g2, rows2)
    | _ => none
def op_callV (j2 n rk ci : Nat) : op_T := fun j pc ls st fs m k => match m with
  | (B, n0, g, rows) => popE n [] st fun as r => match r with
    | .inr (.inr (some c)) :: r2 => wCel B n0 rows c fun _ kd ln _ _ => wBool (kdOk kd ln ci 0) (wBool (Nat.ble (mwds r2) 8) (wBool (all1 as) (fzN j2 fun j3 => lfz (pad (mxl j3) (.inr (.inr (some c)) :: as)) fun l2 => k j3 0 l2 [] ((j, pc, ls, r2, rk) :: fs) (B, n0, g, rows))))
    | _ => none
def op_callI (j2 n ci : Nat) : op_T := fun j pc ls st fs m k => match m with
  | (B, n0, g, rows) => popE n [] st fun as r => match r with
    | .inr (.inr (some c)) :: r2 => wCel B n0 rows c fun _ kd ln _ _ => wBool (kdOk kd ln ci 0) (wBool (Nat.ble (mwds r2) 8) (wBool (all1 as) (fzN j2 fun j3 => lfz (pad (mxl j3) (.inr (.inr (some c)) :: as)) fun l2 => k j3 0 l2 [] ((j, pc, ls, r2, 0) :: fs) (B, n0, g, rows))))
    | _ => none
def op_callS (j2 n rk : Nat) : op_T := fun j pc ls st fs m k => popE n [] st fun as r => wBool (Nat.ble (mwds r) 8) (wBool (okas j2 as) (fzN j2 fun j3 => lfz (pad (mxl j3) as) fun l2 => k j3 0 l2 [] ((j, pc, ls, r, rk) :: fs) m))
def op_obj  : op_T := fun j pc ls st fs m k => match st with
  | .inr (.inr (some _)) :: r => wBool (Nat.ble (mwds r) 8) (fzN (Nat.add pc 3) fun p => k j p ls r fs m)
  | _ => none
def op_mm (f : Int → Int → Int) : op_T := fun j pc ls st fs m k => match st with
  | .inl b :: .inl a :: r => wBool (Nat.ble (mwds r) 8) (fz (f a b) fun x => fzN (Nat.add pc 3) fun p => k j p ls (.inl x :: r) fs m)
  | _ => none
def op_ret  : op_T := fun j pc ls st fs m k => match st with
  | [] => wBool (Nat.beq (mrt j) 0) (match fs with
    | (j2, p2, l2, r2, 0) :: f2 => fzN (Nat.add p2 3) fun p => k j2 p l2 r2 f2 m
    | _ => none)
  | _ :: _ => none
def op_iret  : op_T := fun j pc ls st fs m k => match st with
  | [.inl a] => match fs with
    | (_, _, _, _, 0) :: _ => none
    | (_, _, _, _, 3) :: _ => none
    | (_, _, _, _, 4) :: _ => none
    | (j2, p2, l2, r2, _) :: f2 => wBool (riE (mrt j) a) (fzN (Nat.add p2 3) fun p => k j2 p l2 (.inl a :: r2) f2 m)
    | [] => none
  | _ => none
def op_lret  : op_T := fun j pc ls st fs m k => match st with
  | [.inr (.inl a)] => wBool (Nat.beq (mrt j) 4) (match fs with
    | (j2, p2, l2, r2, 4) :: f2 => fzN (Nat.add p2 3) fun p => k j2 p l2 (.inr (.inl a) :: r2) f2 m
    | _ => none)
  | _ => none
def op_aret  : op_T := fun j pc ls st fs m k => match st with
  | [.inr (.inr a)] => wBool (Nat.beq (mrt j) 3) (match fs with
    | (j2, p2, l2, r2, 3) :: f2 => fzN (Nat.add p2 3) fun p => k j2 p l2 (.inr (.inr a) :: r2) f2 m
    | _ => none)
  | _ => none
end
