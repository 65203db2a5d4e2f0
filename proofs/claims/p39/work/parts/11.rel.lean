/-! Whole numbers against the machine's -/
theorem bm32 (x : Int) : x.bmod 4294967296 = wr x := by
  unfold wr Int.bmod
  simp only []
  split <;> omega
theorem bm64 (x : Int) : x.bmod 18446744073709551616 = wl x := by
  unfold wl Int.bmod
  simp only []
  split <;> omega
theorem i32_to (x : Int) : (Int32.ofInt x).toInt = wr x := by
  rw [Int32.toInt_ofInt]
  exact bm32 x
theorem i64_to (x : Int) : (Int64.ofInt x).toInt = wl x := by
  rw [Int64.toInt_ofInt]
  exact bm64 x
def rg (x : Int) : Prop := -2147483648 ≤ x ∧ x ≤ 2147483647
def rgl (x : Int) : Prop := -9223372036854775808 ≤ x ∧ x ≤ 9223372036854775807
theorem rg_wr (x : Int) : rg (wr x) := by unfold rg wr; omega
theorem rgl_wl (x : Int) : rgl (wl x) := by unfold rgl wl; omega
theorem i32_in {x : Int} (h : rg x) : (Int32.ofInt x).toInt = x := by rw [i32_to]; exact wr_id h.1 h.2
theorem i64_in {x : Int} (h : rgl x) : (Int64.ofInt x).toInt = x := by rw [i64_to]; exact wl_id h.1 h.2
theorem i32_eq {x : Int32} {a : Int} (h : x.toInt = wr a) : x = Int32.ofInt a := Int32.toInt_inj.mp (by rw [h, i32_to])
theorem i64_eq {x : Int64} {a : Int} (h : x.toInt = wl a) : x = Int64.ofInt a := Int64.toInt_inj.mp (by rw [h, i64_to])
theorem wr_wr (x : Int) : wr (wr x) = wr x := by unfold wr; omega
theorem wl_wl (x : Int) : wl (wl x) = wl x := by unfold wl; omega
theorem i32_wr (x : Int) : Int32.ofInt (wr x) = Int32.ofInt x := Int32.toInt_inj.mp (by rw [i32_to, i32_to, wr_wr])
theorem i64_wl (x : Int) : Int64.ofInt (wl x) = Int64.ofInt x := Int64.toInt_inj.mp (by rw [i64_to, i64_to, wl_wl])
theorem i32_add {a b : Int} (ha : rg a) (hb : rg b) : Int32.ofInt a + Int32.ofInt b = Int32.ofInt (wr (a + b)) := i32_eq (by rw [Int32.toInt_add, i32_in ha, i32_in hb, wr_wr]; exact bm32 _)
theorem i32_sub {a b : Int} (ha : rg a) (hb : rg b) : Int32.ofInt a - Int32.ofInt b = Int32.ofInt (wr (a - b)) := i32_eq (by rw [Int32.toInt_sub, i32_in ha, i32_in hb, wr_wr]; exact bm32 _)
theorem i32_mul {a b : Int} (ha : rg a) (hb : rg b) : Int32.ofInt a * Int32.ofInt b = Int32.ofInt (wr (a * b)) := i32_eq (by rw [Int32.toInt_mul, i32_in ha, i32_in hb, wr_wr]; exact bm32 _)
theorem i32_div {a b : Int} (ha : rg a) (hb : rg b) : Int32.ofInt a / Int32.ofInt b = Int32.ofInt (wr (a.tdiv b)) := i32_eq (by rw [Int32.toInt_div, i32_in ha, i32_in hb, wr_wr]; exact bm32 _)
theorem rg_tmod {a b : Int} (ha : rg a) (hb : rg b) : rg (a.tmod b) := by
  unfold rg at *
  have h1 : (a.tmod b).natAbs ≤ a.natAbs := by rw [Int.natAbs_tmod]; exact Nat.mod_le _ _
  rcases Int.le_total 0 a with h | h
  · have := Int.tmod_nonneg b h
    omega
  · have h2 : a.tmod b ≤ 0 := by
      have h3 := Int.tmod_nonneg b (a := -a) (by omega)
      rw [Int.neg_tmod] at h3
      omega
    omega
theorem rgl_tmod {a b : Int} (ha : rgl a) (hb : rgl b) : rgl (a.tmod b) := by
  unfold rgl at *
  have h1 : (a.tmod b).natAbs ≤ a.natAbs := by rw [Int.natAbs_tmod]; exact Nat.mod_le _ _
  rcases Int.le_total 0 a with h | h
  · have := Int.tmod_nonneg b h
    omega
  · have h2 : a.tmod b ≤ 0 := by
      have h3 := Int.tmod_nonneg b (a := -a) (by omega)
      rw [Int.neg_tmod] at h3
      omega
    omega
theorem i32_rem {a b : Int} (ha : rg a) (hb : rg b) : Int32.ofInt a - Int32.ofInt a / Int32.ofInt b * Int32.ofInt b = Int32.ofInt (a.tmod b) := by
  rw [i32_div ha hb, i32_mul (rg_wr _) hb, i32_sub ha (rg_wr _), i32_wr]
  apply Int32.toInt_inj.mp
  rw [i32_to, i32_to]
  have e : a.tmod b = a - a.tdiv b * b := by rw [Int.tmod_def, Int.mul_comm]
  rw [e]
  have h3 : wr (a.tdiv b) = a.tdiv b ∨ wr (a.tdiv b) = a.tdiv b - 4294967296 := by
    have h1 : (a.tdiv b).natAbs ≤ a.natAbs := by rw [Int.natAbs_tdiv]; exact Nat.div_le_self _ _
    unfold rg at ha
    unfold wr
    omega
  rcases h3 with h3 | h3
  · rw [h3]
    unfold wr
    omega
  · rw [h3, Int.sub_mul]
    generalize a.tdiv b * b = y
    unfold wr
    omega
theorem i64_add {a b : Int} (ha : rgl a) (hb : rgl b) : Int64.ofInt a + Int64.ofInt b = Int64.ofInt (wl (a + b)) := i64_eq (by rw [Int64.toInt_add, i64_in ha, i64_in hb, wl_wl]; exact bm64 _)
theorem i64_sub {a b : Int} (ha : rgl a) (hb : rgl b) : Int64.ofInt a - Int64.ofInt b = Int64.ofInt (wl (a - b)) := i64_eq (by rw [Int64.toInt_sub, i64_in ha, i64_in hb, wl_wl]; exact bm64 _)
theorem i64_mul {a b : Int} (ha : rgl a) (hb : rgl b) : Int64.ofInt a * Int64.ofInt b = Int64.ofInt (wl (a * b)) := i64_eq (by rw [Int64.toInt_mul, i64_in ha, i64_in hb, wl_wl]; exact bm64 _)
theorem i64_div {a b : Int} (ha : rgl a) (hb : rgl b) : Int64.ofInt a / Int64.ofInt b = Int64.ofInt (wl (a.tdiv b)) := i64_eq (by rw [Int64.toInt_div, i64_in ha, i64_in hb, wl_wl]; exact bm64 _)
theorem i64_rem {a b : Int} (ha : rgl a) (hb : rgl b) : Int64.ofInt a - Int64.ofInt a / Int64.ofInt b * Int64.ofInt b = Int64.ofInt (a.tmod b) := by
  rw [i64_div ha hb, i64_mul (rgl_wl _) hb, i64_sub ha (rgl_wl _), i64_wl]
  apply Int64.toInt_inj.mp
  rw [i64_to, i64_to]
  have e : a.tmod b = a - a.tdiv b * b := by rw [Int.tmod_def, Int.mul_comm]
  rw [e]
  have h3 : wl (a.tdiv b) = a.tdiv b ∨ wl (a.tdiv b) = a.tdiv b - 18446744073709551616 := by
    have h1 : (a.tdiv b).natAbs ≤ a.natAbs := by rw [Int.natAbs_tdiv]; exact Nat.div_le_self _ _
    unfold rgl at ha
    unfold wl
    omega
  rcases h3 with h3 | h3
  · rw [h3]
    unfold wl
    omega
  · rw [h3, Int.sub_mul]
    generalize a.tdiv b * b = y
    unfold wl
    omega
theorem i32_ne0 {a : Int} (ha : rg a) (h : ¬ a = 0) : ¬ Int32.ofInt a = 0 := fun e => h (by rw [← i32_in ha, e]; rfl)
theorem i64_ne0 {a : Int} (ha : rgl a) (h : ¬ a = 0) : ¬ Int64.ofInt a = 0 := fun e => h (by rw [← i64_in ha, e]; rfl)
theorem i32_inj {a b : Int} (ha : rg a) (hb : rg b) : Int32.ofInt a = Int32.ofInt b ↔ a = b := by rw [← Int32.toInt_inj, i32_in ha, i32_in hb]
theorem i32_lt {a b : Int} (ha : rg a) (hb : rg b) : Int32.ofInt a < Int32.ofInt b ↔ a < b := by rw [Int32.lt_iff_toInt_lt, i32_in ha, i32_in hb]
theorem i32_le {a b : Int} (ha : rg a) (hb : rg b) : Int32.ofInt a ≤ Int32.ofInt b ↔ a ≤ b := by rw [Int32.le_iff_toInt_le, i32_in ha, i32_in hb]
theorem rg0 : rg 0 := by unfold rg; omega
theorem i32_0 : (Int32.ofInt 0) = 0 := rfl
theorem i32_self (x : Int32) : Int32.ofInt x.toInt = x := Int32.toInt_inj.mp (by rw [i32_to]; exact wr_id (by have := x.le_toInt; omega) (by have := x.toInt_lt; omega))
theorem rg_i32 (x : Int32) : rg x.toInt := by
  have h1 := x.le_toInt
  have h2 := x.toInt_lt
  unfold rg
  omega
theorem rgl_i64 (x : Int64) : rgl x.toInt := by
  have h1 := Int64.le_toInt x
  have h2 := Int64.toInt_lt x
  unfold rgl
  omega
theorem i64_self (x : Int64) : Int64.ofInt x.toInt = x := Int64.toInt_inj.mp (by rw [i64_in (rgl_i64 x)])
theorem i64_and (a b : Int) : Int64.ofInt a &&& Int64.ofInt b = Int64.ofInt (lAnd a b) := (i64_self _).symm
theorem i64_shr (a b : Int) : Int64.ofInt a >>> ((Int32.ofInt b).toInt64 &&& 63) = Int64.ofInt (lShr a b) := (i64_self _).symm
theorem i64_i32 (a : Int) : (Int64.ofInt a).toInt32 = Int32.ofInt (wr a) := by rw [i32_wr, Int64.toInt32_ofInt]
theorem i32_and (a b : Int) : Int32.ofInt a &&& Int32.ofInt b = Int32.ofInt (bAnd a b) := (i32_self _).symm
theorem i32_or (a b : Int) : Int32.ofInt a ||| Int32.ofInt b = Int32.ofInt (bOr a b) := (i32_self _).symm
theorem i32_shl (a b : Int) : Int32.ofInt a <<< (Int32.ofInt b &&& 31) = Int32.ofInt (bShl a b) := (i32_self _).symm
theorem i32_xor (a b : Int) : Int32.ofInt a ^^^ Int32.ofInt b = Int32.ofInt (bXor a b) := (i32_self _).symm
theorem i32_shr (a b : Int) : Int32.ofInt a >>> (Int32.ofInt b &&& 31) = Int32.ofInt (bShr a b) := (i32_self _).symm
theorem i32_i64 {a : Int} (ha : rg a) : (Int32.ofInt a).toInt64 = Int64.ofInt a := i64_eq (by
  rw [Int32.toInt_toInt64, i32_in ha]
  unfold rg at ha
  exact (wl_id (by omega) (by omega)).symm)
theorem i64_cmp {a b : Int} (ha : rgl a) (hb : rgl b) : lg_cmp (Int64.ofInt a) (Int64.ofInt b) = Int32.ofInt (cmp3 a b) := by
  unfold lg_cmp cmp3
  simp only [gt_iff_lt, Int64.lt_iff_toInt_lt, ← Int64.toInt_inj, i64_in ha, i64_in hb]
  by_cases h1 : a < b
  · rw [if_neg (by omega), if_neg (by omega), if_pos h1]; rfl
  · by_cases h2 : a = b
    · rw [if_neg (by omega), if_pos h2, if_neg h1, if_pos h2]; rfl
    · rw [if_pos (by omega), if_neg h1, if_neg h2]; rfl
theorem i32_min {a b : Int} (ha : rg a) (hb : rg b) : (if Int32.ofInt b < Int32.ofInt a then Int32.ofInt b else Int32.ofInt a) = Int32.ofInt (min a b) := by
  by_cases h : b < a
  · rw [if_pos ((i32_lt hb ha).mpr h)]
    congr 1
    omega
  · rw [if_neg (fun z => h ((i32_lt hb ha).mp z))]
    congr 1
    omega
theorem i32_max {a b : Int} (ha : rg a) (hb : rg b) : (if Int32.ofInt a < Int32.ofInt b then Int32.ofInt b else Int32.ofInt a) = Int32.ofInt (max a b) := by
  by_cases h : a < b
  · rw [if_pos ((i32_lt ha hb).mpr h)]
    congr 1
    omega
  · rw [if_neg (fun z => h ((i32_lt ha hb).mp z))]
    congr 1
    omega
theorem i32_clamp {a : Int} (ha : rg a) : (Int32.ofInt a).toNatClampNeg = a.toNat := by
  rw [← Int32.toNat_toInt, i32_in ha]
theorem i32_vin {a : Int} {n : Nat} (ha : rg a) (h1 : 0 ≤ a) (h2 : a < (n : Int)) : vp_in (Int32.ofInt a) n := by
  intro h
  rcases h with h | h
  · rw [← i32_0, i32_lt ha rg0] at h
    omega
  · rw [i32_clamp ha] at h
    omega
theorem rg_cmp3 (a b : Int) : rg (cmp3 a b) := by
  unfold rg cmp3
  split
  · omega
  · split <;> omega
/-! The heap of the small machine against the machine's -/
def ad (z b r : Nat) : Nat := match r with
  | 0 => b
  | k + 1 => z + k
def vt (z b : Nat) (v : mv_T) : Value := match v with
  | .inl a => .int (Int32.ofInt a)
  | .inr (.inl a) => .long (Int64.ofInt a)
  | .inr (.inr o) => va_rf (o.map (ad z b))
def inV (v : mv_T) : Prop := match v with
  | .inl a => rg a
  | .inr (.inl a) => rgl a
  | .inr (.inr _) => True
def isrf (ci k : Nat) : Bool := fkd ci k == 2
def fvl (z b : Nat) (σ : ms_T) (ci c k : Nat) : Value := if isrf ci k = true then va_rf ((gr σ c k).map (ad z b)) else .int (Int32.ofInt (gi σ c k))
def wnt (z b : Nat) (dA : Nat → ClassId) (σ : ms_T) (c : Nat) : va_E :=
  if (gs σ c).1 < 50 then .inr ((gs σ c).1, (List.range (nfl (gs σ c).1)).map (fvl z b σ (gs σ c).1 c))
  else if (gs σ c).1 < 60 then .inl (dA (gs σ c).1, (gs σ c).2, .inl fun j => Int32.ofInt (gi σ c j))
  else .inl (dA (gs σ c).1, (gs σ c).2, .inr (.inr (.inr (.inr fun j => (gr σ c j).map (ad z b)))))
def wo (z b : Nat) (dA : Nat → ClassId) (σ : ms_T) : va_W := (List.range (gn σ)).map fun k => (z + k, wnt z b dA σ (k + 1))
def okk (q : Nat × Nat) : Prop := (q.1 < 9 ∧ q.2 = 0) ∨ ((q.1 = 50 ∨ q.1 = 51 ∨ q.1 = 62 ∨ q.1 = 64 ∨ q.1 = 67) ∧ q.2 ≤ 1000)
def gdS (L : Nat) (xs : Nat → Int32) (σ : ms_T) : Prop := (∀ c k, rg (gi σ c k)) ∧ gs σ 0 = (49, L) ∧ (∀ k, k < L → gi σ 0 k = (xs k).toInt) ∧ (∀ c, gn σ < c → (gs σ c).1 = 99) ∧ ∀ c, 0 < c → c ≤ gn σ → okk (gs σ c)
def HR (z b L : Nat) (xs : Nat → Int32) (D : va_G) (dA : Nat → ClassId) (σ : ms_T) (H : Heap) : Prop := H.size = z + gn σ ∧ va_P D clsL (wo z b dA σ) H ∧ gdS L xs σ
def tysL (dA : Nat → ClassId) : List (ClassId × FieldType) := [(dA 50, .int), (dA 51, .char), (dA 62, .object RX2), (dA 64, .object RX4), (dA 67, .object RX7)]
theorem wo_get {z b : Nat} {dA : Nat → ClassId} {σ : ms_T} {k : Nat} (h : k < gn σ) : (wo z b dA σ)[k]? = some (z + k, wnt z b dA σ (k + 1)) := by
  unfold wo
  rw [List.getElem?_map, List.getElem?_range h]
  rfl
theorem wo_D {z b : Nat} {dA : Nat → ClassId} {σ : ms_T} : va_D (fun q => z ≤ q) (wo z b dA σ) := by
  have key : ∀ (k : Nat) (q : Nat × va_E), (wo z b dA σ)[k]? = some q → q.1 = z + k := by
    intro k q h
    unfold wo at h
    rw [List.getElem?_map] at h
    by_cases hk : k < gn σ
    · rw [List.getElem?_range hk] at h
      cases h
      rfl
    · rw [List.getElem?_eq_none (by simpa using hk)] at h
      cases h
  refine ⟨fun i j p q hi hj hpq => ?_, fun k q h => ?_⟩
  · have h1 := key i p hi
    have h2 := key j q hj
    omega
  · have h1 := key k q h
    show z ≤ q.1
    omega
/-- a cell that is there -/
theorem gd_in {L : Nat} {xs : Nat → Int32} {σ : ms_T} (h : gdS L xs σ) {c : Nat} (h1 : (gs σ c).1 ≠ 99) (h2 : (gs σ c).1 ≠ 49) : ∃ q, c = q + 1 ∧ q < gn σ := by
  obtain ⟨-, h3, -, h4, -⟩ := h
  rcases Nat.eq_zero_or_pos c with e | e
  · subst e
    rw [h3] at h2
    exact absurd rfl h2
  · refine ⟨c - 1, by omega, ?_⟩
    rcases Nat.lt_or_ge (gn σ) c with h5 | h5
    · exact absurd (h4 c h5) h1
    · omega
theorem wo_put {z b : Nat} {dA : Nat → ClassId} {σ σ' : ms_T} {q : Nat} {E : va_E} (hn : gn σ' = gn σ) (ho : ∀ c, c ≠ q + 1 → wnt z b dA σ' c = wnt z b dA σ c) (ht : wnt z b dA σ' (q + 1) = E) : wo z b dA σ' = (wo z b dA σ).set q (z + q, E) := by
  apply List.ext_getElem?
  intro k
  rw [List.getElem?_set]
  unfold wo
  rw [hn]
  simp only [List.getElem?_map, List.length_map, List.length_range]
  by_cases hk : k < gn σ
  · rw [List.getElem?_range hk]
    by_cases e : q = k
    · subst e
      rw [if_pos rfl, if_pos hk]
      simp [ht]
    · rw [if_neg e]
      simp [ho (k + 1) (by omega)]
  · rw [List.getElem?_eq_none (by simpa using hk)]
    split
    · rw [if_neg (by omega)]; rfl
    · rfl
theorem fvl_ne {z b : Nat} {σ σ' : ms_T} {ci c k : Nat} (h1 : gi σ' c k = gi σ c k) (h2 : gr σ' c k = gr σ c k) : fvl z b σ' ci c k = fvl z b σ ci c k := by
  unfold fvl
  rw [h1, h2]
theorem wnt_same {z b : Nat} {dA : Nat → ClassId} {σ σ' : ms_T} {c : Nat} (h0 : gs σ' c = gs σ c) (h1 : ∀ k, gi σ' c k = gi σ c k) (h2 : ∀ k, gr σ' c k = gr σ c k) : wnt z b dA σ' c = wnt z b dA σ c := by
  unfold wnt
  rw [h0]
  have e1 : (fun j => Int32.ofInt (gi σ' c j)) = fun j => Int32.ofInt (gi σ c j) := funext fun k => by rw [h1]
  have e2 : (fun j => (gr σ' c j).map (ad z b)) = fun j => (gr σ c j).map (ad z b) := funext fun k => by rw [h2]
  have e3 : fvl z b σ' (gs σ c).1 c = fvl z b σ (gs σ c).1 c := funext fun k => fvl_ne (h1 k) (h2 k)
  rw [e1, e2, e3]
theorem wnt_obj {z b : Nat} {dA : Nat → ClassId} {σ : ms_T} {c ci : Nat} (h : gs σ c = (ci, 0)) (hc : ci < 9) : wnt z b dA σ c = .inr (ci, (List.range (nfl ci)).map (fvl z b σ ci c)) := by
  unfold wnt
  rw [h]
  exact if_pos (by show ci < 50; omega)
theorem wnt_int {z b : Nat} {dA : Nat → ClassId} {σ : ms_T} {c kd : Nat} (h : (gs σ c).1 = kd) (hk : kd = 50 ∨ kd = 51) : wnt z b dA σ c = .inl (dA kd, (gs σ c).2, .inl fun j => Int32.ofInt (gi σ c j)) := by
  unfold wnt
  rw [h, if_neg (by omega), if_pos (by omega)]
theorem wnt_ref {z b : Nat} {dA : Nat → ClassId} {σ : ms_T} {c kd : Nat} (h : (gs σ c).1 = kd) (hk : 60 ≤ kd) : wnt z b dA σ c = .inl (dA kd, (gs σ c).2, .inr (.inr (.inr (.inr fun j => (gr σ c j).map (ad z b))))) := by
  unfold wnt
  rw [h, if_neg (by omega), if_neg (by omega)]
theorem map_set {f g : Nat → Value} {n k : Nat} {v : Value} (h1 : ∀ j, j ≠ k → f j = g j) (h2 : f k = v) : (List.range n).map f = ((List.range n).map g).set k v := by
  apply List.ext_getElem?
  intro j
  rw [List.getElem?_set]
  simp only [List.getElem?_map, List.length_map, List.length_range]
  by_cases hj : j < n
  · rw [List.getElem?_range hj]
    by_cases e : k = j
    · subst e
      rw [if_pos rfl, if_pos hj]
      simp [h2]
    · rw [if_neg e]
      simp [h1 j (Ne.symm e)]
  · rw [List.getElem?_eq_none (by simpa using hj)]
    split
    · rw [if_neg (by omega)]; rfl
    · rfl
theorem gd_sI {L : Nat} {xs : Nat → Int32} {σ : ms_T} (h : gdS L xs σ) {c k : Nat} {v : Int} (hc : c ≠ 0) (hv : rg v) : gdS L xs (sI σ c k v) := by
  obtain ⟨h1, h2, h3, h4, h5⟩ := h
  refine ⟨fun c' k' => ?_, h2, fun k' hk => ?_, h4, h5⟩
  · rw [gi_sI]
    split
    · exact hv
    · exact h1 _ _
  · rw [gi_sI, if_neg (fun z => hc z.1.symm)]
    exact h3 k' hk
theorem gd_sR {L : Nat} {xs : Nat → Int32} {σ : ms_T} (h : gdS L xs σ) {c k : Nat} {v : Option Nat} : gdS L xs (sR σ c k v) := h
theorem gs_alc (σ : ms_T) (kd len n c : Nat) : gs (alc σ kd len n) c = if c = gn σ + 1 then (kd, len) else gs σ c := rfl
theorem gi_alc (σ : ms_T) (kd len n c k : Nat) : gi (alc σ kd len n) c k = if c = gn σ + 1 then 0 else gi σ c k := rfl
theorem gr_alc (σ : ms_T) (kd len n c k : Nat) : gr (alc σ kd len n) c k = if c = gn σ + 1 then none else gr σ c k := rfl
theorem gn_alc (σ : ms_T) (kd len n : Nat) : gn (alc σ kd len n) = gn σ + 1 := rfl
theorem gl_alc (σ : ms_T) (kd len n : Nat) : gl (alc σ kd len n) = gl σ + n := rfl
theorem gd_alc {L : Nat} {xs : Nat → Int32} {σ : ms_T} (h : gdS L xs σ) {kd len n : Nat} (hk : okk (kd, len)) : gdS L xs (alc σ kd len n) := by
  obtain ⟨h1, h2, h3, h4, h5⟩ := h
  refine ⟨fun c' k' => ?_, ?_, fun k' hk => ?_, fun c hc => ?_, fun c hc1 hc2 => ?_⟩
  · rw [gi_alc]
    split
    · exact rg0
    · exact h1 _ _
  · rw [gs_alc, if_neg (by omega)]
    exact h2
  · rw [gi_alc, if_neg (by omega)]
    exact h3 k' hk
  · rw [gn_alc] at hc
    rw [gs_alc, if_neg (by omega)]
    exact h4 c (by omega)
  · rw [gn_alc] at hc2
    rw [gs_alc]
    split
    · exact hk
    · exact h5 c hc1 (by omega)
theorem wo_alc {z b : Nat} {dA : Nat → ClassId} {σ : ms_T} {kd len n : Nat} : wo z b dA (alc σ kd len n) = wo z b dA σ ++ [(z + gn σ, wnt z b dA (alc σ kd len n) (gn σ + 1))] := by
  unfold wo
  rw [gn_alc, List.range_succ, List.map_append]
  congr 1
  apply List.map_congr_left
  intro k hk
  have hk' : k < gn σ := List.mem_range.mp hk
  congr 1
  refine wnt_same ?_ (fun j => ?_) (fun j => ?_)
  · rw [gs_alc, if_neg (by omega)]
  · rw [gi_alc, if_neg (by omega)]
  · rw [gr_alc, if_neg (by omega)]
/-! Locals -/
def en (z b : Nat) : Nat → ml_T → List (Nat × Value)
  | _, [] => []
  | k, none :: r => en z b (k + 1) r
  | k, some v :: r => (k, vt z b v) :: en z b (k + 1) r
theorem en_mem {z b : Nat} : ∀ {ls : ml_T} {k : Nat} {q : Nat × Value}, q ∈ en z b k ls ↔ ∃ i v, nth ls i = some (some v) ∧ q = (k + i, vt z b v)
  | [], k, q => by
    constructor
    · intro h; cases h
    · rintro ⟨i, v, h, -⟩; cases h
  | none :: r, k, q => by
    unfold en
    rw [en_mem]
    constructor
    · rintro ⟨i, v, h, e⟩
      exact ⟨i + 1, v, h, by rw [e]; congr 1; omega⟩
    · rintro ⟨i, v, h, e⟩
      cases i with
      | zero => cases h
      | succ i => exact ⟨i, v, h, by rw [e]; congr 1; omega⟩
  | some w :: r, k, q => by
    unfold en
    rw [List.mem_cons, en_mem]
    constructor
    · rintro (e | ⟨i, v, h, e⟩)
      · exact ⟨0, w, rfl, e⟩
      · exact ⟨i + 1, v, h, by rw [e]; congr 1; omega⟩
    · rintro ⟨i, v, h, e⟩
      cases i with
      | zero => cases h; exact Or.inl e
      | succ i => exact Or.inr ⟨i, v, h, by rw [e]; congr 1; omega⟩
theorem put_len {α : Type} : ∀ {ls : List α} {k : Nat} {x : α}, (put ls k x).length = ls.length
  | [], _, _ => rfl
  | _ :: _, 0, _ => rfl
  | _ :: r, k + 1, x => by simp [put, put_len (ls := r)]
theorem nth_put {α : Type} : ∀ {ls : List α} {k i : Nat} {x : α}, nth (put ls k x) i = if i = k then (if k < ls.length then some x else none) else nth ls i
  | [], k, i, x => by
    have e : nth ([] : List α) i = none := by cases i <;> rfl
    show nth ([] : List α) i = _
    rw [e]
    split
    · rw [if_neg (by simp)]
    · rfl
  | y :: r, 0, i, x => by
    cases i with
    | zero => simp [put, nth]
    | succ i => simp [put, nth]
  | y :: r, k + 1, i, x => by
    cases i with
    | zero => simp [put, nth]
    | succ i =>
      show nth (put r k x) i = _
      rw [nth_put]
      simp only [Nat.add_right_cancel_iff, List.length_cons, Nat.add_lt_add_iff_right]
      rfl
def LR (z b : Nat) (nL : Nat) (ls : ml_T) (lsR : Array Slot) : Prop := lv_has lsR nL (en z b 0 ls) ∧ ls.length = nL ∧ ∀ i v, nth ls i = some (some v) → inV v
theorem LR.at {z b nL : Nat} {ls : ml_T} {lsR : Array Slot} (h : LR z b nL ls lsR) {i : Nat} {v : mv_T} (hi : nth ls i = some (some v)) : lsR[i]? = some (.val (vt z b v)) ∧ inV v :=
  ⟨h.1.2.2 (i, vt z b v) (en_mem.mpr ⟨i, v, hi, by simp⟩), h.2.2 i v hi⟩
theorem lv_some {ls : Array Slot} {n : Nat} {l l' : List (Nat × Value)} (h : lv_has ls n l) (hs : ∀ q ∈ l', q ∈ l) : lv_has ls n l' := ⟨h.1, h.2.1, fun q hq => h.2.2 q (hs q hq)⟩
theorem LR.pu {z b nL : Nat} {ls : ml_T} {lsR lsR' : Array Slot} (h : LR z b nL ls lsR) {k : Nat} {v : mv_T} (hg : (Nat.blt k ls.length && nol ls k) = true) (hv : inV v) (h' : lv_has lsR' nL ((k, vt z b v) :: (en z b 0 ls).filter (fun q => !(q.1 == k) && !(q.1 + 1 == k && q.2.category == 2)))) : LR z b nL (put ls k (some v)) lsR' := by
  simp only [Bool.and_eq_true, Nat.blt_eq] at hg
  refine ⟨lv_some h' fun q hq => ?_, put_len.trans h.2.1, fun i w hw => ?_⟩
  · obtain ⟨i, w, hw, rfl⟩ := en_mem.mp hq
    rw [Nat.zero_add]
    rw [nth_put] at hw
    by_cases e : i = k
    · subst e
      rw [if_pos rfl, if_pos hg.1] at hw
      cases hw
      exact List.mem_cons_self
    · rw [if_neg e] at hw
      refine List.mem_cons_of_mem _ (List.mem_filter.mpr ⟨en_mem.mpr ⟨i, w, hw, by simp⟩, ?_⟩)
      have h1 : (i == k) = false := by simpa using e
      simp only [h1, Bool.not_false, Bool.true_and, Bool.not_eq_true', Bool.and_eq_false_iff]
      by_cases e2 : i + 1 = k
      · right
        subst e2
        have h3 := hg.2
        unfold nol at h3
        simp only [hw] at h3
        rcases w with w | w | w
        · rfl
        · simp at h3
        · cases w <;> rfl
      · left
        simpa using e2
  · rw [nth_put] at hw
    by_cases e : i = k
    · subst e
      rw [if_pos rfl, if_pos hg.1] at hw
      cases hw
      exact hv
    · rw [if_neg e] at hw
      exact h.2.2 i w hw
theorem LR.puL {z b nL : Nat} {ls : ml_T} {lsR lsR' : Array Slot} (h : LR z b nL ls lsR) {k : Nat} {a : Int} (hg : (Nat.blt (k + 1) ls.length && nol ls k) = true) (hv : rgl a) (h' : lv_has lsR' nL ((k, .long (Int64.ofInt a)) :: (en z b 0 ls).filter (fun q => !(q.1 == k) && (!(q.1 == k + 1) && !(q.1 + 1 == k && q.2.category == 2))))) : LR z b nL (put (put ls k (some (vL a))) (k + 1) none) lsR' := by
  simp only [Bool.and_eq_true, Nat.blt_eq] at hg
  refine ⟨lv_some h' fun q hq => ?_, put_len.trans (put_len.trans h.2.1), fun i w hw => ?_⟩
  · obtain ⟨i, w, hw, rfl⟩ := en_mem.mp hq
    rw [Nat.zero_add]
    rw [nth_put, nth_put, put_len] at hw
    by_cases e1 : i = k + 1
    · rw [if_pos e1, if_pos hg.1] at hw
      cases hw
    · rw [if_neg e1] at hw
      by_cases e : i = k
      · subst e
        rw [if_pos rfl, if_pos (by omega)] at hw
        cases hw
        exact List.mem_cons_self
      · rw [if_neg e] at hw
        refine List.mem_cons_of_mem _ (List.mem_filter.mpr ⟨en_mem.mpr ⟨i, w, hw, by simp⟩, ?_⟩)
        have h1 : (i == k) = false := by simpa using e
        have h2 : (i == k + 1) = false := by simpa using e1
        simp only [h1, h2, Bool.not_false, Bool.true_and, Bool.not_eq_true', Bool.and_eq_false_iff]
        by_cases e2 : i + 1 = k
        · right
          subst e2
          have h3 := hg.2
          unfold nol at h3
          simp only [hw] at h3
          rcases w with w | w | w
          · rfl
          · simp at h3
          · cases w <;> rfl
        · left
          simpa using e2
  · rw [nth_put, nth_put, put_len] at hw
    by_cases e1 : i = k + 1
    · rw [if_pos e1, if_pos hg.1] at hw
      cases hw
    · rw [if_neg e1] at hw
      by_cases e : i = k
      · subst e
        rw [if_pos rfl, if_pos (by omega)] at hw
        cases hw
        exact hv
      · rw [if_neg e] at hw
        exact h.2.2 i w hw
