/-! The holes of a list within [0, last] -/
def hlTo (L : Iv) (last i : Int) : Int := min (if i < ln L then lb L i - 1 else last) last
def hlF (L : Iv) (last : Int) : Nat → Iv × Int
  | 0 => ([], 0)
  | k + 1 => (if (hlF L last k).2 ≤ hlTo L last k then (hlF L last k).1 ++ [((hlF L last k).2, hlTo L last k)] else (hlF L last k).1, if (k : Int) < ln L then le_ L k + 1 else (hlF L last k).2)
def hlH (L : Iv) (last i : Int) : Iv := (hlF L last i.toNat).1
def hlB (L : Iv) (last i : Int) : Int := (hlF L last i.toNat).2
def holesL (L : Iv) (last : Int) : Iv := hlH L last (ln L + 1)
theorem hlH_0 {L : Iv} {last : Int} : hlH L last 0 = [] := rfl
theorem hlB_0 {L : Iv} {last : Int} : hlB L last 0 = 0 := rfl
theorem hl_s {L : Iv} {last i : Int} (h : 0 ≤ i) : hlF L last (i + 1).toNat = (if hlB L last i ≤ hlTo L last i then hlH L last i ++ [(hlB L last i, hlTo L last i)] else hlH L last i, if i < ln L then le_ L i + 1 else hlB L last i) := by
  unfold hlH hlB
  rw [show (i + 1).toNat = i.toNat + 1 by omega]
  show (if (hlF L last i.toNat).2 ≤ hlTo L last (i.toNat : Int) then _ else _, if ((i.toNat : Nat) : Int) < ln L then _ else _) = _
  rw [Int.toNat_of_nonneg h]
theorem hlH_s {L : Iv} {last i : Int} (h : 0 ≤ i) : hlH L last (i + 1) = if hlB L last i ≤ hlTo L last i then hlH L last i ++ [(hlB L last i, hlTo L last i)] else hlH L last i := by
  unfold hlH
  rw [hl_s h]
  rfl
theorem hlB_s {L : Iv} {last i : Int} (h : 0 ≤ i) : hlB L last (i + 1) = if i < ln L then le_ L i + 1 else hlB L last i := by
  unfold hlB
  rw [hl_s h]
  rfl
theorem hl_ind {L : Iv} {last : Int} (P : Int → Iv → Int → Prop) (h0 : P 0 [] 0) (hs : ∀ i H B, 0 ≤ i → i ≤ ln L → P i H B → P (i + 1) (if B ≤ hlTo L last i then H ++ [(B, hlTo L last i)] else H) (if i < ln L then le_ L i + 1 else B)) : ∀ i, 0 ≤ i → i ≤ ln L + 1 → P i (hlH L last i) (hlB L last i) := by
  have key : ∀ (k : Nat), (k : Int) ≤ ln L + 1 → P k (hlH L last k) (hlB L last k) := by
    intro k
    induction k with
    | zero => intro _; exact h0
    | succ k ih =>
      intro h
      have h1 := hs k _ _ (by omega) (by omega) (ih (by omega))
      rw [← hlH_s (by omega), ← hlB_s (by omega)] at h1
      exact h1
  intro i h1 h2
  have := key i.toNat (by omega)
  rw [Int.toNat_of_nonneg h1] at this
  exact this
/-- what holds on the way -/
def hlP (L : Iv) (last i : Int) (H : Iv) (B : Int) : Prop := 0 ≤ B ∧ B ≤ 4000001 ∧ 0 ≤ ln H ∧ ln H ≤ i ∧ (i ≤ ln L → 0 < i → B = le_ L (i - 1) + 1) ∧ (i = 0 → B = 0) ∧ (i ≤ ln L → ∀ j, 0 ≤ j → j < ln H → le_ H j + 2 ≤ B) ∧ (∀ j, 0 ≤ j → j < ln H → 0 ≤ lb H j ∧ lb H j ≤ le_ H j ∧ le_ H j ≤ last ∧ (j + 1 < ln H → le_ H j + 2 ≤ lb H (j + 1)))
theorem hlP_ok {L : Iv} (h : ok L) {last : Int} : ∀ i, 0 ≤ i → i ≤ ln L + 1 → hlP L last i (hlH L last i) (hlB L last i) := by
  refine hl_ind (hlP L last) ⟨by omega, by omega, by rw [ln_nil]; omega, by rw [ln_nil]; omega, fun _ z => by omega, fun _ => rfl, fun _ j z1 z2 => by rw [ln_nil] at z2; omega, fun j z1 z2 => by rw [ln_nil] at z2; omega⟩ ?_
  intro i H B h0 h1 ⟨p1, p2, p3, p4, p5, p6, p7, p8⟩
  have hl12 := h.1
  have bB : 0 ≤ (if i < ln L then le_ L i + 1 else B) ∧ (if i < ln L then le_ L i + 1 else B) ≤ 4000001 := by
    split
    · next e => have := h.2 i h0 e; omega
    · exact ⟨p1, p2⟩
  have hto1 : hlTo L last i ≤ last := by unfold hlTo; omega
  have hto2 : i < ln L → hlTo L last i ≤ lb L i - 1 := by intro e; unfold hlTo; rw [if_pos e]; omega
  refine ⟨bB.1, bB.2, by split <;> (try rw [ln_app]) <;> omega, by split <;> (try rw [ln_app]) <;> omega, fun z1 z2 => by rw [if_pos (by omega), show i + 1 - 1 = i by omega], fun z => by omega, ?_, ?_⟩
  · intro z j z1 z2
    have e : i < ln L := by omega
    rw [if_pos e]
    have g := h.2 i h0 e
    have p7' := p7 (by omega)
    have pB : B ≤ lb L i := by
      by_cases e0 : i = 0
      · rw [p6 e0]; exact g.1
      · rw [p5 (by omega) (by omega)]
        have := ok_mono h (i := i - 1) (j := i) (by omega) (by omega) e
        omega
    revert z2
    split
    · next hB =>
      rw [ln_app]
      intro z2
      by_cases e2 : j < ln H
      · rw [le_app z1 e2]
        have := p7' j z1 e2
        omega
      · rw [le_app' (by omega)]
        have := hto2 e
        show hlTo L last i + 2 ≤ _
        omega
    · intro z2
      have := p7' j z1 z2
      omega
  · intro j z1 z2
    have pj := p8 j z1
    revert z2
    split
    · next hB =>
      rw [ln_app]
      intro z2
      by_cases e2 : j < ln H
      · rw [lb_app z1 e2, le_app z1 e2]
        have q := pj e2
        refine ⟨q.1, q.2.1, q.2.2.1, fun z3 => ?_⟩
        by_cases e3 : j + 1 < ln H
        · rw [lb_app (by omega) e3]
          exact q.2.2.2 e3
        · rw [lb_app' (by omega)]
          exact p7 h1 j z1 e2
      · rw [lb_app' (by omega), le_app' (by omega)]
        exact ⟨p1, hB, hto1, fun z3 => by omega⟩
    · intro z2
      exact pj z2
theorem hlB_bd {L : Iv} (h : ok L) {last i : Int} (h0 : 0 ≤ i) (h1 : i ≤ ln L + 1) : 0 ≤ hlB L last i ∧ hlB L last i ≤ 4000001 := ⟨(hlP_ok h i h0 h1).1, (hlP_ok h i h0 h1).2.1⟩
theorem hlH_bd {L : Iv} (h : ok L) {last i : Int} (h0 : 0 ≤ i) (h1 : i ≤ ln L + 1) : 0 ≤ ln (hlH L last i) ∧ ln (hlH L last i) ≤ i := ⟨(hlP_ok h i h0 h1).2.2.1, (hlP_ok h i h0 h1).2.2.2.1⟩
/-- what was found stays -/
theorem hl_pre {L : Iv} {last : Int} {i : Int} (h0 : 0 ≤ i) : ∀ (k : Nat), ln (hlH L last i) ≤ ln (hlH L last (i + k)) ∧ ∀ j, 0 ≤ j → j < ln (hlH L last i) → lb (hlH L last (i + k)) j = lb (hlH L last i) j ∧ le_ (hlH L last (i + k)) j = le_ (hlH L last i) j := by
  intro k
  induction k with
  | zero => rw [show i + ((0 : Nat) : Int) = i by omega]; exact ⟨by omega, fun j _ _ => ⟨rfl, rfl⟩⟩
  | succ k ih =>
    rw [show i + ((k + 1 : Nat) : Int) = (i + k) + 1 by omega, hlH_s (by omega)]
    split
    · rw [ln_app]
      refine ⟨by omega, fun j h1 h2 => ?_⟩
      rw [lb_app h1 (by omega), le_app h1 (by omega)]
      exact ih.2 j h1 h2
    · exact ih
theorem hl_fin {L : Iv} {last i : Int} (h0 : 0 ≤ i) (h1 : i ≤ ln L + 1) : ln (hlH L last i) ≤ ln (holesL L last) ∧ ∀ j, 0 ≤ j → j < ln (hlH L last i) → lb (holesL L last) j = lb (hlH L last i) j ∧ le_ (holesL L last) j = le_ (hlH L last i) j := by
  have h := hl_pre (L := L) (last := last) h0 (ln L + 1 - i).toNat
  rw [show i + ((ln L + 1 - i).toNat : Int) = ln L + 1 by omega] at h
  exact h
theorem ok_holes {L : Iv} (h : ok L) {last : Int} (hl : last ≤ 4000000) : ln (holesL L last) ≤ 13 ∧ ∀ j, 0 ≤ j → j < ln (holesL L last) → 0 ≤ lb (holesL L last) j ∧ lb (holesL L last) j ≤ le_ (holesL L last) j ∧ le_ (holesL L last) j ≤ last ∧ (j + 1 < ln (holesL L last) → le_ (holesL L last) j + 2 ≤ lb (holesL L last) (j + 1)) := by
  have hp := hlP_ok h (last := last) (ln L + 1) (by have := ln_nn L; omega) (by omega)
  have := h.1
  exact ⟨by have := hp.2.2.2.1; unfold holesL; omega, hp.2.2.2.2.2.2.2⟩
/-- a number of a list: how many, or a beginning, or an end -/
def numL (L : Iv) (i : Int) : Int := if i = -1 then ln L else if i < 2 * ln L then (if i.tmod 2 = 0 then lb L (i.tdiv 2) else le_ L (i.tdiv 2)) else -4
theorem td2 {i : Int} (h : 0 ≤ i) : i.tdiv 2 = i / 2 := Int.tdiv_eq_ediv_of_nonneg h
theorem tm2 {i : Int} (h : 0 ≤ i) : i.tmod 2 = i % 2 := Int.tmod_eq_emod_of_nonneg h
/-- bytes and holes are all there is -/
theorem holes_size {L : Iv} (h : ok L) {last : Int} (hlast : 0 ≤ last) (hle : ∀ i, 0 ≤ i → i < ln L → le_ L i ≤ last) : sizeL L + sizeL (holesL L last) = last + 1 := by
  have app : ∀ (H : Iv) (p : Int × Int), sizeL (H ++ [p]) = sizeL H + (p.2 - p.1 + 1) := by
    intro H p
    unfold sizeL
    rw [ln_app, smI_s (ln_nn H)]
    have e1 : szF (H ++ [p]) (ln H) = p.2 - p.1 + 1 := by unfold szF; rw [lb_app' rfl, le_app' rfl]
    rw [e1, smI_congr (f := szF (H ++ [p])) (g := szF H) (n := ln H) (fun i h1 h2 => by unfold szF; rw [lb_app h1 h2, le_app h1 h2]) (ln H) (ln_nn H) (by omega)]
  have key := hl_ind (L := L) (last := last) (fun i H B => (i ≤ ln L → smI (szF L) i + sizeL H = B ∧ B ≤ last + 1) ∧ (i = ln L + 1 → sizeL L + sizeL H = last + 1) ∧ (i = 0 → B = 0) ∧ (0 < i → i ≤ ln L → B = le_ L (i - 1) + 1)) ⟨fun _ => ⟨rfl, by omega⟩, fun z => by have := ln_nn L; omega, fun _ => rfl, fun z => by omega⟩ (by
    intro i H B h0 h1 ⟨p1, p2, p3, p4⟩
    obtain ⟨q1, q2⟩ := p1 h1
    have hcase : i < ln L → B ≤ lb L i := by
      intro e
      by_cases e0 : i = 0
      · rw [p3 e0]; exact (h.2 i h0 e).1
      · rw [p4 (by omega) h1]
        have := ok_mono h (i := i - 1) (j := i) (by omega) (by omega) e
        omega
    refine ⟨fun z => ?_, fun z => ?_, fun z => by omega, fun z1 z2 => by rw [if_pos (by omega), show i + 1 - 1 = i by omega]⟩
    · have e : i < ln L := by omega
      have g := h.2 i h0 e
      have hB := hcase e
      rw [if_pos e, smI_s h0]
      have hto : hlTo L last i = lb L i - 1 := by
        unfold hlTo
        rw [if_pos e]
        have := hle i h0 e
        omega
      rw [hto]
      have hl2 := hle i h0 e
      unfold szF at q1 ⊢
      split
      · rw [app]
        simp only []
        omega
      · omega
    · have e : i = ln L := by omega
      have hto : hlTo L last i = last := by unfold hlTo; rw [if_neg (by omega)]; omega
      rw [hto]
      unfold sizeL at *
      rw [← e]
      split
      · have := app H (B, last)
        simp only [] at this
        omega
      · omega)
  have k2 := (key (ln L + 1) (by have := ln_nn L; omega) (by omega)).2.1 rfl
  exact k2
theorem size_pos {L : Iv} (h : ∀ i, 0 ≤ i → i < ln L → lb L i ≤ le_ L i) : ∀ i, 0 ≤ i → i ≤ ln L → i ≤ smI (szF L) i := by
  refine smI_ind (f := szF L) (n := ln L) (fun i x => i ≤ x) (by omega) ?_
  intro i x h0 h1 hx
  have := h i h0 h1
  unfold szF
  omega
theorem holes_none {L : Iv} (h : ok L) {last : Int} (hlast : 0 ≤ last) (hlast2 : last ≤ 4000000) (hle : ∀ i, 0 ≤ i → i < ln L → le_ L i ≤ last) : sizeL L = last + 1 ↔ ¬ 0 < ln (holesL L last) := by
  have h1 := holes_size h hlast hle
  have h2 := ok_holes h hlast2
  have h3 := size_pos (L := holesL L last) (fun i a b => (h2.2 i a b).2.1) (ln (holesL L last)) (ln_nn _) (by omega)
  have h4 : sizeL (holesL L last) = smI (szF (holesL L last)) (ln (holesL L last)) := rfl
  constructor
  · intro e; omega
  · intro e
    have e2 : ln (holesL L last) = 0 := by have := ln_nn (holesL L last); omega
    rw [e2] at h4
    have : smI (szF (holesL L last)) 0 = 0 := rfl
    omega
/-- the first n -/
def tkL (n : Int) (L : Iv) : Iv := L.take n.toNat
theorem ln_tk {n : Int} {L : Iv} (h : 0 ≤ n) (h2 : n ≤ ln L) : ln (tkL n L) = n := by unfold ln at *; unfold tkL; simp; omega
theorem lb_tk {n : Int} {L : Iv} {i : Int} (h0 : 0 ≤ i) (h : i < n) : lb (tkL n L) i = lb L i := by
  unfold lb tkL
  rw [List.getD_eq_getElem?_getD, List.getD_eq_getElem?_getD, List.getElem?_take_of_lt (by omega)]
theorem le_tk {n : Int} {L : Iv} {i : Int} (h0 : 0 ≤ i) (h : i < n) : le_ (tkL n L) i = le_ L i := by
  unfold le_ tkL
  rw [List.getD_eq_getElem?_getD, List.getD_eq_getElem?_getD, List.getElem?_take_of_lt (by omega)]
theorem tk_0 {L : Iv} : tkL 0 L = [] := by unfold tkL; simp
theorem tk_s {n : Int} {L : Iv} (h0 : 0 ≤ n) (h : n < ln L) : tkL (n + 1) L = tkL n L ++ [(lb L n, le_ L n)] := by
  have e1 := ln_tk (n := n + 1) (L := L) (by omega) (by omega)
  have e2 := ln_tk (n := n) (L := L) h0 (by omega)
  refine iv_ext (by rw [e1, ln_app, e2]) (fun i a b => ?_)
  rw [e1] at b
  rw [lb_tk a b, le_tk a b]
  by_cases e : i < n
  · rw [lb_app a (by omega), le_app a (by omega), lb_tk a e, le_tk a e]
    exact ⟨rfl, rfl⟩
  · rw [lb_app' (by omega), le_app' (by omega), show i = n by omega]
    exact ⟨rfl, rfl⟩
/-- the first interval is cut -/
def cutL (L : Iv) (last : Int) : Iv := if ln L ≤ 0 then L else if last < le_ L 0 then tab (ln L) (fun i => if i = 0 then last + 1 else lb L i) (le_ L) else tab (ln L - 1) (fun i => lb L (i + 1)) (fun i => le_ L (i + 1))
theorem ok_cut {L : Iv} (h : ok L) {last : Int} (h0 : -1 ≤ last) : ok (cutL L last) := by
  unfold cutL
  split
  · exact h
  · next hn =>
    have hln := ln_nn L
    split
    · next hl =>
      have e := ln_tab (n := ln L) (f := fun i => if i = 0 then last + 1 else lb L i) (g := le_ L) (by omega)
      refine ⟨by rw [e]; exact h.1, fun i a b => ?_⟩
      rw [e] at b ⊢
      have g := h.2 i a b
      rw [lb_tab a b, le_tab a b]
      refine ⟨by split <;> omega, ?_, g.2.2.1, fun z => ?_⟩
      · split
        · next e3 => rw [e3]; omega
        · exact g.2.1
      · rw [lb_tab (by omega) z, if_neg (by omega)]
        exact g.2.2.2 z
    · have e := ln_tab (n := ln L - 1) (f := fun i => lb L (i + 1)) (g := fun i => le_ L (i + 1)) (by omega)
      refine ⟨by rw [e]; have := h.1; omega, fun i a b => ?_⟩
      rw [e] at b ⊢
      have g := h.2 (i + 1) (by omega) (by omega)
      rw [lb_tab a b, le_tab a b]
      refine ⟨g.1, g.2.1, g.2.2.1, fun z => ?_⟩
      rw [lb_tab (by omega) z]
      exact g.2.2.2 (by omega)
