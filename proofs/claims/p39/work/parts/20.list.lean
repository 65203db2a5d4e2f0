/-! Lists of intervals, read by whole numbers -/
abbrev Iv : Type := List (Int × Int)
def lb (L : Iv) (i : Int) : Int := (L.getD i.toNat (0, 0)).1
def le_ (L : Iv) (i : Int) : Int := (L.getD i.toNat (0, 0)).2
def ln (L : Iv) : Int := (L.length : Int)
def tab (n : Int) (f g : Int → Int) : Iv := (List.range n.toNat).map fun (k : Nat) => (f (k : Int), g (k : Int))
theorem ln_nn (L : Iv) : 0 ≤ ln L := by unfold ln; omega
theorem ln_tab {n : Int} {f g : Int → Int} (h : 0 ≤ n) : ln (tab n f g) = n := by unfold ln tab; simp; omega
theorem lb_tab {n : Int} {f g : Int → Int} {i : Int} (h0 : 0 ≤ i) (h : i < n) : lb (tab n f g) i = f i := by
  have h2 : i.toNat < n.toNat := by omega
  unfold lb tab
  rw [List.getD_eq_getElem?_getD, List.getElem?_map, List.getElem?_range h2]
  show f ((i.toNat : Nat) : Int) = f i
  rw [Int.toNat_of_nonneg h0]
theorem le_tab {n : Int} {f g : Int → Int} {i : Int} (h0 : 0 ≤ i) (h : i < n) : le_ (tab n f g) i = g i := by
  have h2 : i.toNat < n.toNat := by omega
  unfold le_ tab
  rw [List.getD_eq_getElem?_getD, List.getElem?_map, List.getElem?_range h2]
  show g ((i.toNat : Nat) : Int) = g i
  rw [Int.toNat_of_nonneg h0]
theorem iv_ext {L M : Iv} (h1 : ln L = ln M) (h2 : ∀ i, 0 ≤ i → i < ln L → lb L i = lb M i ∧ le_ L i = le_ M i) : L = M := by
  unfold ln at h1 h2
  have h1' : L.length = M.length := by omega
  apply List.ext_getElem h1'
  intro k hk hk'
  have h := h2 (k : Int) (by omega) (by omega)
  unfold lb le_ at h
  simp only [Int.toNat_natCast, List.getD_eq_getElem?_getD, List.getElem?_eq_getElem hk, List.getElem?_eq_getElem hk', Option.getD_some] at h
  exact Prod.ext h.1 h.2
theorem ln_nil : ln [] = 0 := rfl
theorem ln_app {L : Iv} {p : Int × Int} : ln (L ++ [p]) = ln L + 1 := by unfold ln; simp
theorem lb_app {L : Iv} {p : Int × Int} {i : Int} (h0 : 0 ≤ i) (h : i < ln L) : lb (L ++ [p]) i = lb L i := by
  unfold ln at h
  unfold lb
  rw [List.getD_eq_getElem?_getD, List.getD_eq_getElem?_getD, List.getElem?_append_left (by omega)]
theorem le_app {L : Iv} {p : Int × Int} {i : Int} (h0 : 0 ≤ i) (h : i < ln L) : le_ (L ++ [p]) i = le_ L i := by
  unfold ln at h
  unfold le_
  rw [List.getD_eq_getElem?_getD, List.getD_eq_getElem?_getD, List.getElem?_append_left (by omega)]
theorem lb_app' {L : Iv} {p : Int × Int} {i : Int} (h : i = ln L) : lb (L ++ [p]) i = p.1 := by
  subst h
  unfold lb ln
  simp
theorem le_app' {L : Iv} {p : Int × Int} {i : Int} (h : i = ln L) : le_ (L ++ [p]) i = p.2 := by
  subst h
  unfold le_ ln
  simp
/-- well made: ascending, merged, within what fits -/
def ok (L : Iv) : Prop := ln L ≤ 12 ∧ ∀ i, 0 ≤ i → i < ln L → 0 ≤ lb L i ∧ lb L i ≤ le_ L i ∧ le_ L i ≤ 4000000 ∧ (i + 1 < ln L → le_ L i + 2 ≤ lb L (i + 1))
theorem ok_nil : ok [] := ⟨by decide, fun i h0 h => absurd h (by rw [ln_nil]; omega)⟩
theorem ok_lt {L : Iv} (h : ok L) : ∀ (k : Nat) {i j : Int}, 0 ≤ i → i < j → j - i = k → j < ln L → le_ L i + 2 ≤ lb L j := by
  intro k
  induction k with
  | zero => intro i j h0 h1 h2; omega
  | succ k ih =>
    intro i j h0 h1 h2 h3
    have a := (h.2 i h0 (by omega)).2.2.2 (by omega)
    by_cases e : i + 1 = j
    · rw [← e]; exact a
    · have b := ih (i := i + 1) (j := j) (by omega) (by omega) (by omega) h3
      have c := (h.2 (i + 1) (by omega) (by omega)).2.1
      omega
theorem ok_mono {L : Iv} (h : ok L) {i j : Int} (h0 : 0 ≤ i) (h1 : i < j) (h3 : j < ln L) : le_ L i + 2 ≤ lb L j := ok_lt h (j - i).toNat h0 h1 (by omega) h3
/-- sums -/
def sm (f : Int → Int) : Nat → Int
  | 0 => 0
  | k + 1 => sm f k + f (k : Int)
def smI (f : Int → Int) (i : Int) : Int := sm f i.toNat
theorem smI_0 {f : Int → Int} : smI f 0 = 0 := rfl
theorem smI_s {f : Int → Int} {i : Int} (h : 0 ≤ i) : smI f (i + 1) = smI f i + f i := by
  unfold smI
  rw [show (i + 1).toNat = i.toNat + 1 by omega]
  show sm f i.toNat + f (i.toNat : Int) = _
  rw [Int.toNat_of_nonneg h]
theorem smI_ind {f : Int → Int} {n : Int} (P : Int → Int → Prop) (h0 : P 0 0) (hs : ∀ i x, 0 ≤ i → i < n → P i x → P (i + 1) (x + f i)) : ∀ i, 0 ≤ i → i ≤ n → P i (smI f i) := by
  have key : ∀ (k : Nat), (k : Int) ≤ n → P k (smI f k) := by
    intro k
    induction k with
    | zero => intro _; exact h0
    | succ k ih =>
      intro h
      have h1 := hs k _ (by omega) (by omega) (ih (by omega))
      rw [← smI_s (by omega)] at h1
      exact h1
  intro i h1 h2
  have := key i.toNat (by omega)
  rw [Int.toNat_of_nonneg h1] at this
  exact this
theorem smI_congr {f g : Int → Int} {n : Int} (h : ∀ i, 0 ≤ i → i < n → f i = g i) : ∀ i, 0 ≤ i → i ≤ n → smI f i = smI g i := by
  intro i h0 h1
  refine smI_ind (f := f) (n := n) (fun i x => x = smI g i) rfl (fun i x h2 h3 h4 => ?_) i h0 h1
  rw [smI_s h2, h4, h i h2 h3]
theorem smI_bd {f : Int → Int} {n lo hi : Int} (h : ∀ i, 0 ≤ i → i < n → lo ≤ f i ∧ f i ≤ hi) (hlo : lo ≤ 0) (hhi : 0 ≤ hi) : ∀ i, 0 ≤ i → i ≤ n → lo * i ≤ smI f i ∧ smI f i ≤ hi * i := by
  intro i h0 h1
  refine smI_ind (f := f) (n := n) (fun i x => lo * i ≤ x ∧ x ≤ hi * i) (by simp) (fun i x h2 h3 h4 => ?_) i h0 h1
  have h5 := h i h2 h3
  rw [Int.mul_add, Int.mul_add, Int.mul_one, Int.mul_one]
  omega
def szF (L : Iv) (i : Int) : Int := le_ L i - lb L i + 1
def sizeL (L : Iv) : Int := smI (szF L) (ln L)
theorem sz_bd {L : Iv} (h : ok L) : ∀ i, 0 ≤ i → i ≤ ln L → 0 ≤ smI (szF L) i ∧ smI (szF L) i ≤ 4000001 * i := by
  intro i h0 h1
  have := smI_bd (f := szF L) (n := ln L) (lo := 0) (hi := 4000001) (fun i h2 h3 => by
    have := h.2 i h2 h3
    unfold szF
    omega) (by omega) (by omega) i h0 h1
  omega
def ovF (L : Iv) (a b : Int) (i : Int) : Int := max (min b (le_ L i) - max a (lb L i) + 1) 0
def overL (L : Iv) (a b : Int) : Int := smI (ovF L a b) (ln L)
theorem ov_bd {L : Iv} (h : ok L) {a b : Int} (ha : 0 ≤ a) : ∀ i, 0 ≤ i → i ≤ ln L → 0 ≤ smI (ovF L a b) i ∧ smI (ovF L a b) i ≤ 4000001 * i := by
  intro i h0 h1
  have := smI_bd (f := ovF L a b) (n := ln L) (lo := 0) (hi := 4000001) (fun i h2 h3 => by
    have := h.2 i h2 h3
    unfold ovF
    omega) (by omega) (by omega) i h0 h1
  omega
def hasL (L : Iv) (v : Int) : Prop := ∃ i, 0 ≤ i ∧ i < ln L ∧ lb L i ≤ v ∧ v ≤ le_ L i
def hasB (L : Iv) (v : Int) : Int := overL L v v
/-- what [v, v] has in common with a list: nothing, or 1 -/
theorem has01 {L : Iv} (h : ok L) (v : Int) : ∀ i, 0 ≤ i → i ≤ ln L → (smI (ovF L v v) i = 0 ∧ ∀ j, 0 ≤ j → j < i → ¬ (lb L j ≤ v ∧ v ≤ le_ L j)) ∨ (smI (ovF L v v) i = 1 ∧ ∃ j, 0 ≤ j ∧ j < i ∧ lb L j ≤ v ∧ v ≤ le_ L j) := by
  refine smI_ind (f := ovF L v v) (n := ln L) (fun i x => (x = 0 ∧ ∀ j, 0 ≤ j → j < i → ¬ (lb L j ≤ v ∧ v ≤ le_ L j)) ∨ (x = 1 ∧ ∃ j, 0 ≤ j ∧ j < i ∧ lb L j ≤ v ∧ v ≤ le_ L j)) (Or.inl ⟨rfl, fun j h1 h2 => by omega⟩) ?_
  intro i x h0 h1 hx
  have hi := h.2 i h0 h1
  rcases hx with ⟨hx, hj⟩ | ⟨hx, j, hj1, hj2, hj3, hj4⟩
  · by_cases e : lb L i ≤ v ∧ v ≤ le_ L i
    · right
      refine ⟨by unfold ovF; omega, i, h0, by omega, e.1, e.2⟩
    · left
      refine ⟨by unfold ovF; omega, fun j h2 h3 => ?_⟩
      by_cases e2 : j = i
      · rw [e2]; exact e
      · exact hj j h2 (by omega)
  · right
    have hm := ok_mono h hj1 hj2 h1
    refine ⟨by unfold ovF; omega, j, hj1, by omega, hj3, hj4⟩
theorem hasB_ok {L : Iv} (h : ok L) (v : Int) : (hasB L v = 1 ∧ hasL L v) ∨ (hasB L v = 0 ∧ ¬ hasL L v) := by
  rcases has01 h v (ln L) (ln_nn L) (by omega) with ⟨h1, h2⟩ | ⟨h1, h2⟩
  · right
    refine ⟨h1, ?_⟩
    rintro ⟨i, a, b, c, d⟩
    exact h2 i a b ⟨c, d⟩
  · left
    exact ⟨h1, h2⟩
/-- counted one by one, or by intervals -/
theorem over_s {L : Iv} (h : ok L) {a m : Int} (ham : a ≤ m + 1) : overL L a (m + 1) = overL L a m + hasB L (m + 1) := by
  unfold hasB overL
  have key : ∀ i, 0 ≤ i → i ≤ ln L → smI (ovF L a (m + 1)) i = smI (ovF L a m) i + smI (ovF L (m + 1) (m + 1)) i := by
    refine smI_ind (f := ovF L a (m + 1)) (n := ln L) (fun i x => x = smI (ovF L a m) i + smI (ovF L (m + 1) (m + 1)) i) rfl ?_
    intro i x h0 h1 hx
    have hi := h.2 i h0 h1
    rw [smI_s h0, smI_s h0, hx]
    unfold ovF
    omega
  exact key (ln L) (ln_nn L) (by omega)
theorem over_e {L : Iv} (h : ok L) {a m : Int} (ham : m < a) : overL L a m = 0 := by
  unfold overL
  have key : ∀ i, 0 ≤ i → i ≤ ln L → smI (ovF L a m) i = 0 := by
    refine smI_ind (f := ovF L a m) (n := ln L) (fun i x => x = 0) rfl ?_
    intro i x h0 h1 hx
    unfold ovF
    omega
  exact key (ln L) (ln_nn L) (by omega)
theorem hasB_le {L : Iv} (h : ok L) (v : Int) : 0 ≤ hasB L v ∧ hasB L v ≤ 1 := by rcases hasB_ok h v with h | h <;> omega
theorem over_nn {L : Iv} (h : ok L) {a : Int} (ha : 0 ≤ a) (b : Int) : 0 ≤ overL L a b ∧ overL L a b ≤ 4000001 * 12 := by
  have h1 := ov_bd h ha (b := b) (ln L) (ln_nn L) (by omega)
  have h2 := h.1
  unfold overL
  omega
/-! To add an interval: the first one that doesn't end too early, the first behind it that begins too late -/
def AddC (L : Iv) (a b f x : Int) : Prop := 0 ≤ f ∧ f ≤ x ∧ x ≤ ln L ∧ (∀ i, 0 ≤ i → i < f → le_ L i + 1 < a) ∧ (∀ i, f ≤ i → i < ln L → a ≤ le_ L i + 1) ∧ (∀ i, 0 ≤ i → i < x → i < ln L → lb L i ≤ b + 1) ∧ (∀ i, x ≤ i → i < ln L → b + 1 < lb L i)
def insL (L : Iv) (a b f x : Int) : Iv := tab (ln L - (x - f) + 1) (fun i => if i < f then lb L i else if i = f then (if f < x then min a (lb L f) else a) else lb L (i + (x - f) - 1)) (fun i => if i < f then le_ L i else if i = f then (if f < x then max b (le_ L (x - 1)) else b) else le_ L (i + (x - f) - 1))
def fndI (p : Int → Bool) : Nat → Int → Int
  | 0, i => i
  | k + 1, i => if p i = true then i else fndI p k (i + 1)
theorem fndI_ok {p : Int → Bool} : ∀ (k : Nat) (i : Int), i ≤ fndI p k i ∧ fndI p k i ≤ i + k ∧ (∀ j, i ≤ j → j < fndI p k i → p j = false) ∧ (fndI p k i < i + k → p (fndI p k i) = true)
  | 0, i => ⟨by simp [fndI], by simp [fndI], fun j h1 h2 => by simp [fndI] at h2; omega, fun h => by simp [fndI] at h⟩
  | k + 1, i => by
    unfold fndI
    by_cases e : p i = true
    · rw [if_pos e]
      exact ⟨by omega, by omega, fun j h1 h2 => by omega, fun _ => e⟩
    · rw [if_neg e]
      obtain ⟨h1, h2, h3, h4⟩ := fndI_ok k (i + 1) (p := p)
      refine ⟨by omega, by omega, fun j h5 h6 => ?_, fun h => h4 (by omega)⟩
      by_cases e2 : j = i
      · rw [e2]; simpa using e
      · exact h3 j (by omega) h6
def fI (L : Iv) (a : Int) : Int := fndI (fun i => decide (a ≤ le_ L i + 1)) L.length 0
def xI (L : Iv) (b : Int) : Int := fndI (fun i => decide (b + 1 < lb L i)) L.length 0
theorem addC_ex {L : Iv} (h : ok L) {a b : Int} (hab : a ≤ b) : AddC L a b (fI L a) (xI L b) := by
  obtain ⟨a1, a2, a3, a4⟩ := fndI_ok (p := fun i => decide (a ≤ le_ L i + 1)) L.length 0
  obtain ⟨b1, b2, b3, b4⟩ := fndI_ok (p := fun i => decide (b + 1 < lb L i)) L.length 0
  simp only [decide_eq_false_iff_not, decide_eq_true_eq, Int.zero_add] at a2 a3 a4 b2 b3 b4
  have hl : ln L = (L.length : Int) := rfl
  have f1 : ∀ i, fI L a ≤ i → i < ln L → a ≤ le_ L i + 1 := by
    intro i h1 h2
    have h3 := a4 (by unfold fI at h1; omega)
    by_cases e : fI L a = i
    · rw [← e]; exact h3
    · have h4 := ok_mono h (i := fI L a) (j := i) a1 (by omega) h2
      have h5 := h.2 i (by unfold fI at h1; omega) h2
      unfold fI at h4
      omega
  have x1 : ∀ i, xI L b ≤ i → i < ln L → b + 1 < lb L i := by
    intro i h1 h2
    have h3 := b4 (by unfold xI at h1; omega)
    by_cases e : xI L b = i
    · rw [← e]; exact h3
    · have h4 := ok_mono h (i := xI L b) (j := i) b1 (by omega) h2
      have h5 := h.2 (xI L b) b1 (by omega)
      unfold xI at h4 h5
      omega
  have x2 : ∀ i, 0 ≤ i → i < xI L b → i < ln L → lb L i ≤ b + 1 := by
    intro i h1 h2 h3
    have := b3 i h1 h2
    omega
  have f2 : ∀ i, 0 ≤ i → i < fI L a → le_ L i + 1 < a := by
    intro i h1 h2
    have := a3 i h1 h2
    omega
  refine ⟨a1, ?_, by unfold xI; omega, f2, f1, x2, x1⟩
  rcases Int.lt_or_le (xI L b) (fI L a) with e | e
  · have h1 := f2 (xI L b) b1 e
    have h2 : xI L b < ln L := by unfold fI at e; omega
    have h3 := x1 (xI L b) (by omega) h2
    have h4 := h.2 (xI L b) b1 h2
    omega
  · exact e
theorem addC_un {L : Iv} {a b f x f' x' : Int} (h : AddC L a b f x) (h' : AddC L a b f' x') : f = f' ∧ x = x' := by
  obtain ⟨h1, h2, h3, h4, h5, h6, h7⟩ := h
  obtain ⟨k1, k2, k3, k4, k5, k6, k7⟩ := h'
  constructor
  · rcases Int.lt_trichotomy f f' with e | e | e
    · have := h5 f (by omega) (by omega); have := k4 f (by omega) e; omega
    · exact e
    · have := k5 f' (by omega) (by omega); have := h4 f' (by omega) e; omega
  · rcases Int.lt_trichotomy x x' with e | e | e
    · have := h7 x (by omega) (by omega); have := k6 x (by omega) e (by omega); omega
    · exact e
    · have := k7 x' (by omega) (by omega); have := h6 x' (by omega) e (by omega); omega
def addN (L : Iv) (a b : Int) : Int := ln L - (xI L b - fI L a) + 1
def addL (L : Iv) (a b : Int) : Iv := if addN L a b ≤ 12 then insL L a b (fI L a) (xI L b) else L
theorem ln_ins {L : Iv} {a b f x : Int} (h : AddC L a b f x) : ln (insL L a b f x) = ln L - (x - f) + 1 := by
  obtain ⟨h1, h2, h3, -⟩ := h
  exact ln_tab (by omega)
theorem ok_ins {L : Iv} (h : ok L) {a b f x : Int} (ha : 0 ≤ a) (hab : a ≤ b) (hb : b ≤ 4000000) (hc : AddC L a b f x) (hn : ln L - (x - f) + 1 ≤ 12) : ok (insL L a b f x) := by
  have hln := ln_ins hc
  obtain ⟨h1, h2, h3, h4, h5, h6, h7⟩ := hc
  refine ⟨by rw [hln]; exact hn, fun i h0 hi => ?_⟩
  rw [hln] at hi ⊢
  have bF : ∀ i, 0 ≤ i → i < ln L - (x - f) + 1 → lb (insL L a b f x) i = (if i < f then lb L i else if i = f then (if f < x then min a (lb L f) else a) else lb L (i + (x - f) - 1)) := fun i a1 a2 => lb_tab a1 a2
  have eF : ∀ i, 0 ≤ i → i < ln L - (x - f) + 1 → le_ (insL L a b f x) i = (if i < f then le_ L i else if i = f then (if f < x then max b (le_ L (x - 1)) else b) else le_ L (i + (x - f) - 1)) := fun i a1 a2 => le_tab a1 a2
  rw [bF i h0 hi, eF i h0 hi]
  rcases Int.lt_trichotomy i f with e | e | e
  · simp only [if_pos e]
    have g := h.2 i h0 (by omega)
    refine ⟨g.1, g.2.1, g.2.2.1, fun hn2 => ?_⟩
    rw [bF (i + 1) (by omega) hn2]
    have g4 := h4 i h0 e
    by_cases e2 : i + 1 = f
    · rw [if_neg (by omega), if_pos e2]
      split
      · have := ok_mono h h0 e (by omega)
        omega
      · omega
    · rw [if_pos (by omega)]
      exact g.2.2.2 (by omega)
  · simp only [if_neg (show ¬ i < f by omega), if_pos e]
    refine ⟨?_, ?_, ?_, fun hn2 => ?_⟩
    · split
      · have := h.2 f h1 (by omega); omega
      · exact ha
    · split <;> omega
    · split
      · have := h.2 (x - 1) (by omega) (by omega); omega
      · exact hb
    · rw [bF (i + 1) (by omega) hn2]
      simp only [if_neg (show ¬ i + 1 < f by omega), if_neg (show ¬ i + 1 = f by omega)]
      have g7 := h7 (i + 1 + (x - f) - 1) (by omega) (by omega)
      split
      · have := ok_mono h (i := x - 1) (j := i + 1 + (x - f) - 1) (by omega) (by omega) (by omega)
        omega
      · omega
  · simp only [if_neg (show ¬ i < f by omega), if_neg (show ¬ i = f by omega)]
    have g := h.2 (i + (x - f) - 1) (by omega) (by omega)
    refine ⟨g.1, g.2.1, g.2.2.1, fun hn2 => ?_⟩
    rw [bF (i + 1) (by omega) hn2, if_neg (by omega), if_neg (by omega)]
    have := g.2.2.2 (by omega)
    rw [show i + 1 + (x - f) - 1 = i + (x - f) - 1 + 1 by omega]
    exact this
theorem ok_add {L : Iv} (h : ok L) {a b : Int} (ha : 0 ≤ a) (hab : a ≤ b) (hb : b ≤ 4000000) : ok (addL L a b) := by
  unfold addL
  split
  · next e => exact ok_ins h ha hab hb (addC_ex h hab) e
  · exact h
/-- behind all -/
theorem add_app {L : Iv} (h : ok L) {a b : Int} (hab : a ≤ b) (hn : ln L < 12) (hl : ∀ i, 0 ≤ i → i < ln L → le_ L i + 2 ≤ a) : addL L a b = L ++ [(a, b)] ∧ addN L a b ≤ 12 := by
  have hc := addC_ex h hab
  have hc2 : AddC L a b (ln L) (ln L) := ⟨ln_nn L, by omega, by omega, fun i h1 h2 => by have := hl i h1 h2; omega, fun i h1 h2 => by omega, fun i h1 h2 h3 => by have := hl i h1 h2; have := h.2 i h1 h2; omega, fun i h1 h2 => by omega⟩
  obtain ⟨e1, e2⟩ := addC_un hc hc2
  have hN : addN L a b ≤ 12 := by unfold addN; omega
  refine ⟨?_, hN⟩
  unfold addL
  rw [if_pos hN, e1, e2]
  have hi := ln_ins hc2
  refine iv_ext (by rw [hi, ln_app]; omega) (fun i h0 h1 => ?_)
  rw [hi] at h1
  unfold insL
  rw [lb_tab h0 h1, le_tab h0 h1]
  rcases Int.lt_or_le i (ln L) with e | e
  · rw [if_pos e, if_pos e, lb_app h0 e, le_app h0 e]
    exact ⟨rfl, rfl⟩
  · rw [if_neg (by omega), if_pos (by omega), if_neg (by omega), if_neg (by omega), if_pos (by omega), if_neg (by omega), lb_app' (by omega), le_app' (by omega)]
    exact ⟨rfl, rfl⟩
