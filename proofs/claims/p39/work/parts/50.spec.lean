/-! What there is: files, stations, requests; what is done to them -/
def up {α : Type} (f : Int → α) (k : Int) (v : α) : Int → α := fun i => if i = k then v else f i
theorem up_eq {α : Type} {f : Int → α} {k : Int} {v : α} : up f k v k = v := if_pos rfl
theorem up_ne {α : Type} {f : Int → α} {k i : Int} {v : α} (h : ¬ i = k) : up f k v i = f i := if_neg h
/-- files: how many; of each 0 its length, 1 its time, 2 its life, 3 its seed -/
abbrev Fl : Type := Int × (Int → Int → Int)
def exP (F : Fl) (f t : Int) : Prop := 0 ≤ f ∧ f < F.1 ∧ t < F.2 f 1 + F.2 f 2
def exB (F : Fl) (t : Int) (f : Int) : Bool := decide (t < F.2 f 1 + F.2 f 2)
def FW (F : Fl) : Prop := 0 ≤ F.1 ∧ F.1 ≤ 30 ∧ ∀ f, 0 ≤ f → f < F.1 → (1 ≤ F.2 f 0 ∧ F.2 f 0 ≤ 320) ∧ (0 ≤ F.2 f 1 ∧ F.2 f 1 ≤ 2000000) ∧ (1 ≤ F.2 f 2 ∧ F.2 f 2 ≤ 100000) ∧ (0 ≤ F.2 f 3 ∧ F.2 f 3 ≤ 255)
def exN (F : Fl) (t : Int) : Int := smI (fun f => if exB F t f = true then 1 else 0) F.1
def byF (F : Fl) (f k : Int) : Int := (wr (wr (F.2 f 3 + wr (31 * k)) + wr ((wr (k * k)).tdiv 7))).tmod 256
/-- the first, the last that p holds of, below n; none: -1 -/
def frI (p : Int → Bool) : Nat → Int
  | 0 => -1
  | k + 1 => if 0 ≤ frI p k then frI p k else if p (k : Int) = true then (k : Int) else -1
def lsI (p : Int → Bool) : Nat → Int
  | 0 => -1
  | k + 1 => if p (k : Int) = true then (k : Int) else lsI p k
theorem frI_s {p : Int → Bool} {i : Int} (h : 0 ≤ i) : frI p (i + 1).toNat = if 0 ≤ frI p i.toNat then frI p i.toNat else if p i = true then i else -1 := by
  rw [show (i + 1).toNat = i.toNat + 1 by omega]
  show (if 0 ≤ frI p i.toNat then frI p i.toNat else if p ((i.toNat : Nat) : Int) = true then ((i.toNat : Nat) : Int) else -1) = _
  rw [Int.toNat_of_nonneg h]
theorem lsI_s {p : Int → Bool} {i : Int} (h : 0 ≤ i) : lsI p (i + 1).toNat = if p i = true then i else lsI p i.toNat := by
  rw [show (i + 1).toNat = i.toNat + 1 by omega]
  show (if p ((i.toNat : Nat) : Int) = true then ((i.toNat : Nat) : Int) else lsI p i.toNat) = _
  rw [Int.toNat_of_nonneg h]
theorem frI_up {p : Int → Bool} {k : Nat} (h : 0 ≤ frI p k) : ∀ n, k ≤ n → frI p n = frI p k := by
  intro n hn
  induction n with
  | zero => rw [show k = 0 by omega]
  | succ n ih =>
    by_cases e : k = n + 1
    · rw [e]
    · have h1 := ih (by omega)
      show (if 0 ≤ frI p n then frI p n else _) = _
      rw [h1, if_pos h]
theorem frI_bd {p : Int → Bool} : ∀ n, -1 ≤ frI p n ∧ frI p n < n ∧ (0 ≤ frI p n → p (frI p n) = true) := by
  intro n
  induction n with
  | zero => exact ⟨by simp [frI], by simp [frI], by simp [frI]⟩
  | succ n ih =>
    unfold frI
    split
    · exact ⟨ih.1, by omega, ih.2.2⟩
    · split
      · next h => exact ⟨by omega, by omega, fun _ => h⟩
      · exact ⟨by omega, by omega, fun h => absurd h (by decide)⟩
theorem lsI_bd {p : Int → Bool} : ∀ n, -1 ≤ lsI p n ∧ lsI p n < n ∧ (0 ≤ lsI p n → p (lsI p n) = true) := by
  intro n
  induction n with
  | zero => exact ⟨by simp [lsI], by simp [lsI], by simp [lsI]⟩
  | succ n ih =>
    unfold lsI
    split
    · next h => exact ⟨by omega, by omega, fun _ => h⟩
    · exact ⟨ih.1, by omega, ih.2.2⟩
/-- the first file that exists and was stored at a time or later; the last one before it; the time behind that -/
def fsF (F : Fl) (a t : Int) : Int := frI (fun f => decide (a ≤ F.2 f 1) && exB F t f) F.1.toNat
def lsF (F : Fl) (a t : Int) : Int := lsI (fun f => decide (F.2 f 1 < a) && exB F t f) F.1.toNat
def bhF (F : Fl) (a t : Int) : Int := if lsF F a t < 0 then 0 else F.2 (lsF F a t) 1 + 1
/-- a station: 0 period, 1 offset, 2 duration, 3 priority, 4 loss, 5 what it knows; covered times; its three places: the file (-1: none), the bytes; its counts -/
abbrev St : Type := (Int → Int) × Iv × (Int → Int) × (Int → Iv) × (Int → Int)
def sc (s : St) : Int → Int := s.1
def cov (s : St) : Iv := s.2.1
def of_ (s : St) : Int → Int := s.2.2.1
def ol (s : St) : Int → Iv := s.2.2.2.1
def ct (s : St) : Int → Int := s.2.2.2.2
def seesP (s : St) (t : Int) : Prop := sc s 1 ≤ t ∧ (t - sc s 1).tmod (sc s 0) < sc s 2
def hitX (n t : Int) : Int := (7919 * t + 613 * n + 1).tmod 65521
def hitP (s : St) (n t : Int) : Prop := ((hitX n t * hitX n t).tmod 65521).tmod 1000 < sc s 4
def knP (s : St) (f : Int) : Prop := bAnd (bShr (sc s 5) f) 1 = 1
/-- where a file is open; -1: nowhere -/
def opl (s : St) (f : Int) : Int := if of_ s 0 = f then 0 else if of_ s 1 = f then 1 else if of_ s 2 = f then 2 else -1
def opn (s : St) : Int := smI (fun k => if of_ s k = -1 then 0 else 1) 3
theorem opl_bd (s : St) (f : Int) : -1 ≤ opl s f ∧ opl s f < 3 ∧ (0 ≤ opl s f → of_ s (opl s f) = f) := by
  unfold opl
  split
  · next h => exact ⟨by omega, by omega, fun _ => h⟩
  · split
    · next h => exact ⟨by omega, by omega, fun _ => h⟩
    · split
      · next h => exact ⟨by omega, by omega, fun _ => h⟩
      · exact ⟨by omega, by omega, fun h => absurd h (by decide)⟩
/-- well made, F the files, i its number below nst if it was added -/
def SW (F : Fl) (s : St) : Prop := ((1 ≤ sc s 0 ∧ sc s 0 ≤ 1000) ∧ (0 ≤ sc s 1 ∧ sc s 1 ≤ 1000) ∧ (1 ≤ sc s 2 ∧ sc s 2 ≤ 1000) ∧ (0 ≤ sc s 3 ∧ sc s 3 ≤ 2) ∧ (0 ≤ sc s 4 ∧ sc s 4 ≤ 1000) ∧ rg (sc s 5)) ∧ ok (cov s) ∧ (∀ k, 0 ≤ k → k < 3 → -1 ≤ of_ s k ∧ of_ s k < F.1 ∧ ok (ol s k) ∧ (0 ≤ of_ s k → ∀ i, 0 ≤ i → i < ln (ol s k) → le_ (ol s k) i < F.2 (of_ s k) 0) ∧ ∀ j, 0 ≤ j → j < 3 → 0 ≤ of_ s k → of_ s j = of_ s k → j = k) ∧ ∀ w, 0 ≤ w → w < 4 → rg (ct s w)
/-- a frame: 0 kind, 1 file, 2 first, 3 last -/
abbrev Fr : Type := Int × Int × Int × Int
def tkB (s : St) (f a b : Int) : St := if opl s f < 0 ∨ f = -1 then s else (sc s, cov s, of_ s, up (ol s) (opl s f) (addL (ol s (opl s f)) a b), up (up (ct s) 3 (wr (ct s 3 + overL (ol s (opl s f)) a b))) 2 (if addN (ol s (opl s f)) a b ≤ 12 then wr (ct s 2 + (b - a + 1 - overL (ol s (opl s f)) a b)) else ct s 2))
def tkE (s : St) (f a b : Int) : St := (if f = -1 then sc s else up (sc s) 5 (bOr (sc s 5) (bShl 1 f)), addL (cov s) a b, of_ s, ol s, ct s)
def ctU (s : St) (w v : Int) : St := (sc s, cov s, of_ s, ol s, up (ct s) w v)
def tkF (s : St) (r : Fr) : St := if r.1 = 1 then tkB (ctU s 0 (wr (ct s 0 + 1))) r.2.1 r.2.2.1 r.2.2.2 else if r.1 = 2 then tkE (ctU s 0 (wr (ct s 0 + 1))) r.2.1 r.2.2.1 r.2.2.2 else ctU s 0 (wr (ct s 0 + 1))
/-- a request: station, file (-1: the directory), holes, frames left of its turn -/
abbrev Rq : Type := Int × Int × Iv × Int
def rst (r : Rq) : Int := r.1
def rfl_ (r : Rq) : Int := r.2.1
def rho (r : Rq) : Iv := r.2.2.1
def rle (r : Rq) : Int := r.2.2.2
def qg (Q : List Rq) (i : Int) : Rq := Q.getD i.toNat (0, 0, [], 0)
def ql (Q : List Rq) : Int := (Q.length : Int)
theorem ql_nn (Q : List Rq) : 0 ≤ ql Q := by unfold ql; omega
/-- a satellite: the time, how many stations, the stations, the queue, the totals -/
abbrev Sa : Type := Int × Int × (Int → St) × List Rq × (Int → Int)
def now (S : Sa) : Int := S.1
def nst (S : Sa) : Int := S.2.1
def sts (S : Sa) : Int → St := S.2.2.1
def que (S : Sa) : List Rq := S.2.2.2.1
def tot (S : Sa) : Int → Int := S.2.2.2.2
