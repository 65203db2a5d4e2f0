/-! An evaluator of the small machine, for closed runs: cells above B in lists, values forced; what it says holds of the machine -/
noncomputable section
def fzN {β : Type} (n : Nat) (k : Nat → β) : β := Nat.rec (k 0) (fun m _ => k (Nat.succ m)) n
theorem fzN_eq {β : Type} {n : Nat} {k : Nat → β} : fzN n k = k n := by cases n <;> rfl
def fz {β : Type} (x : Int) (k : Int → β) : β := Int.rec (fun n => fzN n fun m => k (Int.ofNat m)) (fun n => fzN n fun m => k (Int.negSucc m)) x
theorem fz_eq {β : Type} {x : Int} {k : Int → β} : fz x k = k x := by
  cases x with
  | ofNat a => exact fzN_eq (n := a) (k := fun m => k (Int.ofNat m))
  | negSucc a => exact fzN_eq (n := a) (k := fun m => k (Int.negSucc m))
def lfz {α β : Type} (xs : List α) (k : List α → β) : β := List.rec (motive := fun _ => (List α → β) → β) (fun k => k []) (fun x _ ih k => ih fun ys => k (x :: ys)) xs k
theorem lfz_eq {α β : Type} : ∀ {xs : List α} {k : List α → β}, lfz xs k = k xs
  | [], _ => rfl
  | x :: xs, k => by
    show lfz xs (fun ys => k (x :: ys)) = _
    exact lfz_eq
def nthE {α : Type} (xs : List α) (k : Nat) : Option α := List.rec (motive := fun _ => Nat → Option α) (fun _ => none) (fun x _ ih k => Nat.rec (motive := fun _ => Option α) (some x) (fun k' _ => ih k') k) xs k
theorem nthE_eq {α : Type} : ∀ {xs : List α} {k : Nat}, nthE xs k = nth xs k
  | [], _ => rfl
  | _ :: _, 0 => rfl
  | _ :: xs, k + 1 => nthE_eq (xs := xs) (k := k)
/-- the k-th changed: none, where there is none -/
def setK {α β : Type} (xs : List α) (k : Nat) (v : α) (c : List α → Option β) : Option β := List.rec (motive := fun _ => Nat → (List α → Option β) → Option β) (fun _ _ => none) (fun x xs ih k c => Nat.rec (motive := fun _ => Option β) (c (v :: xs)) (fun k' _ => ih k' fun ys => c (x :: ys)) k) xs k c
theorem setK_ok {α β : Type} {v : α} {cf : β} : ∀ {xs : List α} {k : Nat} {c : List α → Option β}, setK xs k v c = some cf → k < xs.length ∧ c (put xs k v) = some cf
  | [], _, _, h => by cases h
  | x :: xs, 0, c, h => ⟨Nat.succ_pos _, h⟩
  | x :: xs, k + 1, c, h => by
    have h2 : setK xs k v (fun ys => c (x :: ys)) = some cf := h
    obtain ⟨h3, h4⟩ := setK_ok h2
    exact ⟨Nat.succ_lt_succ h3, h4⟩
theorem putE_len {α : Type} {v : α} : ∀ {xs : List α} {k : Nat}, (put xs k v).length = xs.length
  | [], _ => rfl
  | _ :: _, 0 => rfl
  | _ :: xs, k + 1 => congrArg (· + 1) (putE_len (xs := xs) (k := k))
theorem nth_putE {α : Type} {v : α} : ∀ {xs : List α} {k i : Nat}, k < xs.length → nth (put xs k v) i = if i = k then some v else nth xs i
  | [], _, _, h => absurd h (Nat.not_lt_zero _)
  | x :: xs, 0, 0, _ => rfl
  | x :: xs, 0, i + 1, _ => by rw [if_neg (by omega)]; rfl
  | x :: xs, k + 1, 0, _ => by rw [if_neg (by omega)]; rfl
  | x :: xs, k + 1, i + 1, h => by
    show nth (put xs k v) i = _
    rw [nth_putE (Nat.lt_of_succ_lt_succ h)]
    by_cases e : i = k
    · rw [if_pos e, if_pos (by omega)]
    · rw [if_neg e, if_neg (by omega)]; rfl
def nthO {α : Type} (d : α) (o : Option α) : α := Option.rec d (fun x => x) o
/-- kind and length, whole numbers, references -/
abbrev ec_T : Type := (Nat × Nat) × List Int × List (Option Nat)
/-- base, cells, slots (of all), rows of sixteen cells -/
abbrev mm_T : Type := Nat × Nat × Nat × List (List ec_T)
def blk : ec_T := ((0, 0), [], [])
def celR (rows : List (List ec_T)) (i : Nat) : ec_T := nthO blk (nthE (nthO [] (nthE rows (Nat.div i 16))) (Nat.mod i 16))
def inM (m : mm_T) (c : Nat) : Prop := m.1 < c ∧ c ≤ m.1 + m.2.1
def inMb (B n c : Nat) : Bool := match Nat.ble (Nat.succ B) c with
  | true => Nat.ble c (Nat.add B n)
  | false => false
theorem inMb_ok {B n c : Nat} {r : Nat × List (List ec_T)} (h : inMb B n c = true) : inM (B, n, r) c := by
  unfold inMb at h
  split at h
  · next h1 =>
    have h2 := Nat.le_of_ble_eq_true h1
    have h3 := Nat.le_of_ble_eq_true h
    exact ⟨h2, h3⟩
  · cases h
def sgS (σ : ms_T) (m : mm_T) (c : Nat) : Nat × Nat := @ite _ (inM m c) (Classical.propDecidable _) (celR m.2.2.2 (c - m.1 - 1)).1 (gs σ c)
def sgI (σ : ms_T) (m : mm_T) (c k : Nat) : Int := @ite _ (inM m c) (Classical.propDecidable _) (nthO 0 (nthE (celR m.2.2.2 (c - m.1 - 1)).2.1 k)) (gi σ c k)
def sgR (σ : ms_T) (m : mm_T) (c k : Nat) : Option Nat := @ite _ (inM m c) (Classical.propDecidable _) (nthO none (nthE (celR m.2.2.2 (c - m.1 - 1)).2.2 k)) (gr σ c k)
def sg (σ : ms_T) (m : mm_T) : ms_T := ((m.1 + m.2.1, m.2.2.1), sgS σ m, sgI σ m, sgR σ m)
theorem gs_sg {σ : ms_T} {m : mm_T} {c : Nat} (h : inM m c) : gs (sg σ m) c = (celR m.2.2.2 (c - m.1 - 1)).1 := @if_pos _ (Classical.propDecidable _) h _ _ _
theorem gi_sg {σ : ms_T} {m : mm_T} {c k : Nat} (h : inM m c) : gi (sg σ m) c k = nthO 0 (nthE (celR m.2.2.2 (c - m.1 - 1)).2.1 k) := @if_pos _ (Classical.propDecidable _) h _ _ _
theorem gr_sg {σ : ms_T} {m : mm_T} {c k : Nat} (h : inM m c) : gr (sg σ m) c k = nthO none (nthE (celR m.2.2.2 (c - m.1 - 1)).2.2 k) := @if_pos _ (Classical.propDecidable _) h _ _ _
theorem gs_sgo {σ : ms_T} {m : mm_T} {c : Nat} (h : ¬ inM m c) : gs (sg σ m) c = gs σ c := @if_neg _ (Classical.propDecidable _) h _ _ _
theorem gi_sgo {σ : ms_T} {m : mm_T} {c k : Nat} (h : ¬ inM m c) : gi (sg σ m) c k = gi σ c k := @if_neg _ (Classical.propDecidable _) h _ _ _
theorem gr_sgo {σ : ms_T} {m : mm_T} {c k : Nat} (h : ¬ inM m c) : gr (sg σ m) c k = gr σ c k := @if_neg _ (Classical.propDecidable _) h _ _ _
theorem ms_ext {σ τ : ms_T} (h0 : σ.1 = τ.1) (h1 : ∀ c, gs σ c = gs τ c) (h2 : ∀ c k, gi σ c k = gi τ c k) (h3 : ∀ c k, gr σ c k = gr τ c k) : σ = τ := by
  obtain ⟨a, b, c, d⟩ := σ
  obtain ⟨a', b', c', d'⟩ := τ
  have e0 : a = a' := h0
  have e1 : b = b' := funext h1
  have e2 : c = c' := funext fun x => funext (h2 x)
  have e3 : d = d' := funext fun x => funext (h3 x)
  rw [e0, e1, e2, e3]
/-- a cell changed -/
def setC {β : Type} (rows : List (List ec_T)) (i : Nat) (x : ec_T) (c : List (List ec_T) → Option β) : Option β := match nthE rows (Nat.div i 16) with
  | some row => setK row (Nat.mod i 16) x fun row2 => setK rows (Nat.div i 16) row2 c
  | none => none
theorem setC_ok {β : Type} {rows : List (List ec_T)} {i : Nat} {x : ec_T} {c : List (List ec_T) → Option β} {cf : β} (h : setC rows i x c = some cf) : ∃ rows2, (∀ q, celR rows2 q = if q = i then x else celR rows q) ∧ c rows2 = some cf := by
  unfold setC at h
  split at h
  · next row hr =>
    obtain ⟨h1, h2⟩ := setK_ok h
    obtain ⟨h3, h4⟩ := setK_ok h2
    refine ⟨_, fun q => ?_, h4⟩
    unfold celR
    rw [nthE_eq, nthE_eq, nth_putE h3]
    by_cases e : Nat.div q 16 = Nat.div i 16
    · rw [if_pos e]
      show nthO blk (nth (put row (Nat.mod i 16) x) (Nat.mod q 16)) = _
      rw [nth_putE h1]
      by_cases e2 : Nat.mod q 16 = Nat.mod i 16
      · rw [if_pos e2, if_pos (by
          have e : q / 16 = i / 16 := e
          have e2 : q % 16 = i % 16 := e2
          omega)]
        rfl
      · rw [if_neg e2, if_neg (by
          intro z
          rw [z] at e2
          exact e2 rfl), e, hr, nthE_eq]
        rfl
    · rw [if_neg e, if_neg (by
        intro z
        rw [z] at e
        exact e rfl), nthE_eq, nthE_eq]
  · cases h
theorem sg_I {β : Type} {σ : ms_T} {B n g : Nat} {rows : List (List ec_T)} {c k : Nat} {v : Int} {f : List (List ec_T) → Option β} {cf : β} (hc : inM (B, n, g, rows) c) (h : setK (celR rows (c - B - 1)).2.1 k v (fun ys => setC rows (c - B - 1) ((celR rows (c - B - 1)).1, ys, (celR rows (c - B - 1)).2.2) f) = some cf) : ∃ rows2, sg σ (B, n, g, rows2) = sI (sg σ (B, n, g, rows)) c k v ∧ f rows2 = some cf := by
  obtain ⟨h1, h2⟩ := setK_ok h
  obtain ⟨rows2, h3, h4⟩ := setC_ok h2
  have key : ∀ c', inM (B, n, g, rows) c' → c' - B - 1 = c - B - 1 → c' = c := fun c' h' e => by
    have a := h'.1; have b := hc.1
    have a : B < c' := a; have b : B < c := b
    omega
  refine ⟨rows2, ms_ext rfl (fun c' => ?_) (fun c' k' => ?_) (fun c' k' => ?_), h4⟩
  · rw [gs_sI]
    by_cases q : inM (B, n, g, rows) c'
    · rw [gs_sg (m := (B, n, g, rows2)) q, gs_sg q]
      show (celR rows2 (c' - B - 1)).1 = (celR rows (c' - B - 1)).1
      rw [h3]
      by_cases e : c' - B - 1 = c - B - 1
      · rw [if_pos e, e]
      · rw [if_neg e]
    · rw [gs_sgo (m := (B, n, g, rows2)) q, gs_sgo q]
  · rw [gi_sI]
    by_cases q : inM (B, n, g, rows) c'
    · rw [gi_sg (m := (B, n, g, rows2)) q, gi_sg q]
      show nthO 0 (nthE (celR rows2 (c' - B - 1)).2.1 k') = if c' = c ∧ k' = k then v else nthO 0 (nthE (celR rows (c' - B - 1)).2.1 k')
      rw [h3]
      by_cases e : c' - B - 1 = c - B - 1
      · rw [if_pos e, nthE_eq, nthE_eq, nth_putE h1, e]
        by_cases e2 : k' = k
        · rw [if_pos e2, if_pos ⟨key c' q e, e2⟩]; rfl
        · rw [if_neg e2, if_neg (fun z => e2 z.2)]
      · rw [if_neg e, if_neg (fun z => e (by rw [z.1]))]
    · rw [gi_sgo (m := (B, n, g, rows2)) q, gi_sgo q, if_neg (fun z : c' = c ∧ k' = k => q (z.1 ▸ hc))]
  · rw [gr_sI]
    by_cases q : inM (B, n, g, rows) c'
    · rw [gr_sg (m := (B, n, g, rows2)) q, gr_sg q]
      show nthO none (nthE (celR rows2 (c' - B - 1)).2.2 k') = nthO none (nthE (celR rows (c' - B - 1)).2.2 k')
      rw [h3]
      by_cases e : c' - B - 1 = c - B - 1
      · rw [if_pos e, e]
      · rw [if_neg e]
    · rw [gr_sgo (m := (B, n, g, rows2)) q, gr_sgo q]
theorem sg_R {β : Type} {σ : ms_T} {B n g : Nat} {rows : List (List ec_T)} {c k : Nat} {v : Option Nat} {f : List (List ec_T) → Option β} {cf : β} (hc : inM (B, n, g, rows) c) (h : setK (celR rows (c - B - 1)).2.2 k v (fun ys => setC rows (c - B - 1) ((celR rows (c - B - 1)).1, (celR rows (c - B - 1)).2.1, ys) f) = some cf) : ∃ rows2, sg σ (B, n, g, rows2) = sR (sg σ (B, n, g, rows)) c k v ∧ f rows2 = some cf := by
  obtain ⟨h1, h2⟩ := setK_ok h
  obtain ⟨rows2, h3, h4⟩ := setC_ok h2
  have key : ∀ c', inM (B, n, g, rows) c' → c' - B - 1 = c - B - 1 → c' = c := fun c' h' e => by
    have a := h'.1; have b := hc.1
    have a : B < c' := a; have b : B < c := b
    omega
  refine ⟨rows2, ms_ext rfl (fun c' => ?_) (fun c' k' => ?_) (fun c' k' => ?_), h4⟩
  · rw [gs_sR]
    by_cases q : inM (B, n, g, rows) c'
    · rw [gs_sg (m := (B, n, g, rows2)) q, gs_sg q]
      show (celR rows2 (c' - B - 1)).1 = (celR rows (c' - B - 1)).1
      rw [h3]
      by_cases e : c' - B - 1 = c - B - 1
      · rw [if_pos e, e]
      · rw [if_neg e]
    · rw [gs_sgo (m := (B, n, g, rows2)) q, gs_sgo q]
  · rw [gi_sR]
    by_cases q : inM (B, n, g, rows) c'
    · rw [gi_sg (m := (B, n, g, rows2)) q, gi_sg q]
      show nthO 0 (nthE (celR rows2 (c' - B - 1)).2.1 k') = nthO 0 (nthE (celR rows (c' - B - 1)).2.1 k')
      rw [h3]
      by_cases e : c' - B - 1 = c - B - 1
      · rw [if_pos e, e]
      · rw [if_neg e]
    · rw [gi_sgo (m := (B, n, g, rows2)) q, gi_sgo q]
  · rw [gr_sR]
    by_cases q : inM (B, n, g, rows) c'
    · rw [gr_sg (m := (B, n, g, rows2)) q, gr_sg q]
      show nthO none (nthE (celR rows2 (c' - B - 1)).2.2 k') = if c' = c ∧ k' = k then v else nthO none (nthE (celR rows (c' - B - 1)).2.2 k')
      rw [h3]
      by_cases e : c' - B - 1 = c - B - 1
      · rw [if_pos e, nthE_eq, nthE_eq, nth_putE h1, e]
        by_cases e2 : k' = k
        · rw [if_pos e2, if_pos ⟨key c' q e, e2⟩]; rfl
        · rw [if_neg e2, if_neg (fun z => e2 z.2)]
      · rw [if_neg e, if_neg (fun z => e (by rw [z.1]))]
    · rw [gr_sgo (m := (B, n, g, rows2)) q, gr_sgo q, if_neg (fun z : c' = c ∧ k' = k => q (z.1 ▸ hc))]
theorem gs_alcE (σ : ms_T) (kd len n c : Nat) : gs (alc σ kd len n) c = if c = gn σ + 1 then (kd, len) else gs σ c := rfl
theorem gi_alcE (σ : ms_T) (kd len n c k : Nat) : gi (alc σ kd len n) c k = if c = gn σ + 1 then 0 else gi σ c k := rfl
theorem gr_alcE (σ : ms_T) (kd len n c k : Nat) : gr (alc σ kd len n) c k = if c = gn σ + 1 then none else gr σ c k := rfl
def zrs {α : Type} (d : α) (n : Nat) : List α := Nat.rec [] (fun _ ih => d :: ih) n
theorem nth_zrs {α : Type} {d : α} : ∀ {n k : Nat}, nthO d (nthE (zrs d n) k) = d
  | 0, _ => rfl
  | n + 1, 0 => rfl
  | n + 1, k + 1 => nth_zrs (n := n) (k := k)
theorem sg_new {β : Type} {σ : ms_T} {B n g : Nat} {rows : List (List ec_T)} {kd len a b w : Nat} {f : List (List ec_T) → Option β} {cf : β} (h : setC rows n ((kd, len), zrs 0 a, zrs none b) f = some cf) : ∃ rows2, sg σ (B, n + 1, g + w, rows2) = alc (sg σ (B, n, g, rows)) kd len w ∧ f rows2 = some cf := by
  obtain ⟨rows2, h3, h4⟩ := setC_ok h
  have hN : ∀ c', inM (B, n + 1, g + w, rows2) c' ↔ inM (B, n, g, rows) c' ∨ c' = B + n + 1 := fun c' => by
    show (B < c' ∧ c' ≤ B + (n + 1)) ↔ ((B < c' ∧ c' ≤ B + n) ∨ c' = B + n + 1)
    omega
  have hI : ∀ c', inM (B, n, g, rows) c' → ¬ c' - B - 1 = n ∧ ¬ c' = B + n + 1 := fun c' z => by
    have z1 : B < c' := z.1
    have z2 : c' ≤ B + n := z.2
    omega
  have hg : gn (sg σ (B, n, g, rows)) = B + n := rfl
  refine ⟨rows2, ms_ext (by show (B + (n + 1), g + w) = (B + n + 1, g + w); rw [Nat.add_assoc]) (fun c' => ?_) (fun c' k' => ?_) (fun c' k' => ?_), h4⟩
  · rw [gs_alcE, hg]
    by_cases q : inM (B, n, g, rows) c'
    · rw [gs_sg (m := (B, n + 1, g + w, rows2)) ((hN c').mpr (Or.inl q)), if_neg (hI c' q).2, gs_sg q]
      show (celR rows2 (c' - B - 1)).1 = (celR rows (c' - B - 1)).1
      rw [h3, if_neg (hI c' q).1]
    · by_cases e : c' = B + n + 1
      · rw [gs_sg (m := (B, n + 1, g + w, rows2)) ((hN c').mpr (Or.inr e)), if_pos e]
        show (celR rows2 (c' - B - 1)).1 = _
        rw [h3, if_pos (by omega)]
      · rw [gs_sgo (m := (B, n + 1, g + w, rows2)) (fun z => ((hN c').mp z).elim q e), if_neg e, gs_sgo q]
  · rw [gi_alcE, hg]
    by_cases q : inM (B, n, g, rows) c'
    · rw [gi_sg (m := (B, n + 1, g + w, rows2)) ((hN c').mpr (Or.inl q)), if_neg (hI c' q).2, gi_sg q]
      show nthO 0 (nthE (celR rows2 (c' - B - 1)).2.1 k') = nthO 0 (nthE (celR rows (c' - B - 1)).2.1 k')
      rw [h3, if_neg (hI c' q).1]
    · by_cases e : c' = B + n + 1
      · rw [gi_sg (m := (B, n + 1, g + w, rows2)) ((hN c').mpr (Or.inr e)), if_pos e]
        show nthO 0 (nthE (celR rows2 (c' - B - 1)).2.1 k') = _
        rw [h3, if_pos (by omega)]
        exact nth_zrs
      · rw [gi_sgo (m := (B, n + 1, g + w, rows2)) (fun z => ((hN c').mp z).elim q e), if_neg e, gi_sgo q]
  · rw [gr_alcE, hg]
    by_cases q : inM (B, n, g, rows) c'
    · rw [gr_sg (m := (B, n + 1, g + w, rows2)) ((hN c').mpr (Or.inl q)), if_neg (hI c' q).2, gr_sg q]
      show nthO none (nthE (celR rows2 (c' - B - 1)).2.2 k') = nthO none (nthE (celR rows (c' - B - 1)).2.2 k')
      rw [h3, if_neg (hI c' q).1]
    · by_cases e : c' = B + n + 1
      · rw [gr_sg (m := (B, n + 1, g + w, rows2)) ((hN c').mpr (Or.inr e)), if_pos e]
        show nthO none (nthE (celR rows2 (c' - B - 1)).2.2 k') = _
        rw [h3, if_pos (by omega)]
        exact nth_zrs
      · rw [gr_sgo (m := (B, n + 1, g + w, rows2)) (fun z => ((hN c').mp z).elim q e), if_neg e, gr_sgo q]
end
