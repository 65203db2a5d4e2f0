/-- the joined row holds the first n of M -/
def JnM (τ : ms_T) (m : Nat) (M : Iv) (n : Int) : Prop := ∀ j : Int, 0 ≤ j → j < n → gi τ (m + 3) (2 * j).toNat = lb M j ∧ gi τ (m + 3) (2 * j + 1).toNat = le_ M j
theorem JnM.app {τ : ms_T} {m : Nat} {M : Iv} {n u v : Int} (h : JnM τ m M n) (hn : 0 ≤ n) (hu : u = lb M n) (hv : v = le_ M n) : JnM (sI (sI τ (m + 3) (2 * n).toNat u) (m + 3) (2 * n + 1).toNat v) m M (n + 1) := by
  intro j a b
  by_cases e : j = n
  · subst e
    refine ⟨?_, ?_⟩
    · rw [gi_nk (by omega), gi_eq, hu]
    · rw [gi_eq, hv]
  · refine ⟨?_, ?_⟩
    · rw [gi_nk (by omega), gi_nk (by omega)]; exact (h j a (by omega)).1
    · rw [gi_nk (by omega), gi_nk (by omega)]; exact (h j a (by omega)).2
def inA (m c : Nat) : Prop := c = m + 1 ∨ c = m + 3
def loF (L : Iv) (a f x i : Int) : Int := if f < i ∧ f < x then min a (lb L f) else a
def hiF (L : Iv) (b f x i : Int) : Int := if f < i ∧ f < x then max b (le_ L (min i x - 1)) else b
theorem lh_step {L : Iv} {a b f x i : Int} (hk : ok L) (hc : AddC L a b f x) (h0 : 0 ≤ i) (hi : i < ln L) : ((lb L i ≤ b + 1 ∧ a - 1 ≤ le_ L i) ∧ loF L a f x (i + 1) = min (lb L i) (loF L a f x i) ∧ hiF L b f x (i + 1) = max (le_ L i) (hiF L b f x i)) ∨ (¬ (lb L i ≤ b + 1 ∧ a - 1 ≤ le_ L i) ∧ loF L a f x (i + 1) = loF L a f x i ∧ hiF L b f x (i + 1) = hiF L b f x i) := by
  obtain ⟨a1, a2, a3, a4, a5, a6, a7⟩ := hc
  have gk := hk.2 i h0 hi
  unfold loF hiF
  rcases Int.lt_or_le i f with c | c
  · have n3 := a4 i h0 c
    right
    simp only [if_neg (show ¬ (f < i + 1 ∧ f < x) by omega), if_neg (show ¬ (f < i ∧ f < x) by omega)]
    exact ⟨by omega, trivial, trivial⟩
  · have n4 := a5 i c hi
    rcases Int.lt_or_le i x with d | d
    · have n5 := a6 i h0 d hi
      left
      refine ⟨by omega, ?_⟩
      simp only [if_pos (show (f < i + 1 ∧ f < x) by omega)]
      rw [show min (i + 1) x - 1 = i by omega]
      by_cases e : f < i
      · simp only [if_pos (show (f < i ∧ f < x) by omega)]
        rw [show min i x - 1 = i - 1 by omega]
        have n1 := ok_mono hk a1 e hi
        have n2 := hk.2 f a1 (by omega)
        have n6 := ok_mono hk (i := i - 1) (j := i) (by omega) (by omega) hi
        clear a4 a5 a6 a7
        omega
      · simp only [if_neg (show ¬ (f < i ∧ f < x) by omega)]
        have : f = i := by omega
        rw [this]
        clear a4 a5 a6 a7
        omega
    · have n6 := a7 i d hi
      right
      refine ⟨by omega, ?_⟩
      by_cases e : f < x
      · simp only [if_pos (show (f < i ∧ f < x) by omega), if_pos (show (f < i + 1 ∧ f < x) by omega)]
        rw [show min (i + 1) x = min i x by omega]
        exact ⟨trivial, rfl⟩
      · simp only [if_neg (show ¬ (f < i ∧ f < x) by omega), if_neg (show ¬ (f < i + 1 ∧ f < x) by omega)]
        exact ⟨trivial, trivial⟩
theorem lh_fin {L : Iv} {a b f x i : Int} (hk : ok L) (hab : a ≤ b) (hc : AddC L a b f x) (h0 : 0 ≤ i) (hi : i < ln L) : (i < f ∧ le_ L i < loF L a f x (ln L) ∧ lb L i ≤ hiF L b f x (ln L)) ∨ (f ≤ i ∧ i < x ∧ ¬ le_ L i < loF L a f x (ln L) ∧ lb L i ≤ hiF L b f x (ln L)) ∨ (x ≤ i ∧ ¬ le_ L i < loF L a f x (ln L) ∧ hiF L b f x (ln L) < lb L i) := by
  obtain ⟨a1, a2, a3, a4, a5, a6, a7⟩ := hc
  have gk := hk.2 i h0 hi
  unfold loF hiF
  by_cases e : f < x
  · simp only [if_pos (show (f < ln L ∧ f < x) by omega)]
    rw [show min (ln L) x - 1 = x - 1 by omega]
    have gf := hk.2 f a1 (by omega)
    have gx := hk.2 (x - 1) (by omega) (by omega)
    rcases Int.lt_or_le i f with c | c
    · have n3 := a4 i h0 c
      have n1 := ok_mono hk h0 c (by omega)
      left
      clear a4 a5 a6 a7
      omega
    · rcases Int.lt_or_le i x with d | d
      · have n5 := a6 i h0 d hi
        right; left
        have m1 : lb L f ≤ lb L i := by
          by_cases e : f = i
          · rw [e]; omega
          · have := ok_mono hk (i := f) (j := i) a1 (by omega) hi
            omega
        have m6 : le_ L i ≤ le_ L (x - 1) := by
          by_cases e : i = x - 1
          · rw [e]; omega
          · have := ok_mono hk (i := i) (j := x - 1) h0 (by omega) (by omega)
            omega
        clear a4 a5 a6 a7
        omega
      · have n6 := a7 i d hi
        have n7 := ok_mono hk (i := x - 1) (j := i) (by omega) (by omega) hi
        right; right
        clear a4 a5 a6 a7
        omega
  · simp only [if_neg (show ¬ (f < ln L ∧ f < x) by omega)]
    rcases Int.lt_or_le i f with c | c
    · have n3 := a4 i h0 c
      left
      clear a4 a5 a6 a7
      omega
    · have n6 := a7 i (by omega) hi
      right; right
      clear a4 a5 a6 a7
      omega
set_option maxHeartbeats 8000000 in
theorem X9_adds {m : Nat} {σ : ms_T} {p a b : Int} {L : Iv} {Q : mq_T} (hm : isM σ m) (h : LsM σ m p L) (hk : ok L) (hp : 0 ≤ p) (hp2 : p + 25 ≤ 767) (ha : 0 ≤ a) (hab : a ≤ b) (hbm : b ≤ 4000000) (hQ : ∀ τ, Sm σ τ (inA m) → LsM τ m p (addL L a b) → (∀ j, 0 ≤ j → (j < p ∨ p + 25 ≤ j) → ro τ m j = ro σ m j) → Q (some (vI (if addN L a b ≤ 12 then 1 else 0))) τ) : Ca n_X9_adds [vR (some m), vI p, vI a, vI b] σ Q := by
  have hl := hk.1
  have hnn := ln_nn L
  have hc := addC_ex hk hab
  have hfd : ∃ f, f = fI L a := ⟨_, rfl⟩
  have hxd : ∃ x, x = xI L b := ⟨_, rfl⟩
  obtain ⟨f, hf⟩ := hfd
  obtain ⟨x, hx⟩ := hxd
  rw [← hf, ← hx] at hc
  have hNd : addN L a b = ln L - (x - f) + 1 := by unfold addN; rw [← hf, ← hx]
  have hAd : ln L - (x - f) + 1 ≤ 12 → addL L a b = insL L a b f x := fun z => by unfold addL; rw [hNd, if_pos z, ← hf, ← hx]
  have hAd2 : ¬ ln L - (x - f) + 1 ≤ 12 → addL L a b = L := fun z => by unfold addL; rw [hNd, if_neg z]
  rw [hNd] at hQ
  clear hNd hf hx
  have hlnM := ln_ins hc
  have hc0 := hc
  obtain ⟨a1, a2, a3, -, -, -, -⟩ := hc
  have bF : ∀ i, 0 ≤ i → i < ln L - (x - f) + 1 → lb (insL L a b f x) i = (if i < f then lb L i else if i = f then (if f < x then min a (lb L f) else a) else lb L (i + (x - f) - 1)) := fun i c1 c2 => lb_tab c1 c2
  have eF : ∀ i, 0 ≤ i → i < ln L - (x - f) + 1 → le_ (insL L a b f x) i = (if i < f then le_ L i else if i = f then (if f < x then max b (le_ L (x - 1)) else b) else le_ L (i + (x - f) - 1)) := fun i c1 c2 => le_tab c1 c2
  generalize hM : insL L a b f x = M at *
  have hLO : loF L a f x (ln L) = (if f < x then min a (lb L f) else a) := by
    unfold loF
    by_cases e : f < x
    · rw [if_pos ⟨by omega, e⟩, if_pos e]
    · rw [if_neg (by omega), if_neg e]
  have hHI : hiF L b f x (ln L) = (if f < x then max b (le_ L (x - 1)) else b) := by
    unfold hiF
    by_cases e : f < x
    · rw [if_pos ⟨by omega, e⟩, if_pos e, show min (ln L) x = x by omega]
    · rw [if_neg (by omega), if_neg e]
  have hLOb : loF L a f x (ln L) ≤ a := by rw [hLO]; split <;> omega
  have hHIb : b ≤ hiF L b f x (ln L) := by rw [hHI]; split <;> omega
  have hMf : f < ln L - (x - f) + 1 → lb M f = loF L a f x (ln L) ∧ le_ M f = hiF L b f x (ln L) := fun z => by
    rw [bF f a1 z, eF f a1 z, hLO, hHI]
    simp only [if_neg (show ¬ f < f by omega), if_true]
    exact ⟨trivial, trivial⟩
  -- the copy back
  have key3 : ∀ (k : Nat) (i : Int) (n l7 : Int) (y1 y2 : Option mv_T) (τ : ms_T), ln L - (x - f) + 1 ≤ 12 → n = ln L - (x - f) + 1 → 0 ≤ i → i ≤ 2 * n → 2 * n - i < k → Sm σ τ (inA m) → JnM τ m M n → ro τ m p = n → (∀ j, 0 ≤ j → j < i → ro τ m (p + 1 + j) = if j % 2 = 0 then lb M (j / 2) else le_ M (j / 2)) → (∀ j, 0 ≤ j → (j < p ∨ p + 25 ≤ j) → ro τ m j = ro σ m j) → ∀ lo hi : Int, At n_X9_adds 295 [some (vR (some m)), some (vI p), some (vI a), some (vI b), some (vI lo), some (vI hi), some (vI n), some (vI l7), some (vI i), y1, y2] [] τ Q := by
    intro k
    induction k with
    | zero => intro i n l7 y1 y2 τ _ _ h0 h1 h2; omega
    | succ k ih =>
      intro i n l7 y1 y2 τ h12 hn h0 h1 h2 hs hJ hpn hcp hfr lo hi
      obtain ⟨s0, g0, g1, g2, g4, g5, g11, z1, z2, z3, z4, z5, z6⟩ := hm.sm hs
      refine vc_X9_adds_295 _ _ _ _ _ _ _ _ _ _ _ _ _ ?_
      simp only [gs_sI, gr_sI, s0, g0, g2, z1, z3, isS_some, true_and]
      rw [wr_i (x := 2 * n) (by omega), wr_i (x := p + 1) (by omega), wr_i (x := p + 1 + i) (by omega), wr_i (x := i + 1) (by omega)]
      refine ⟨fun e => ⟨by simp, ?_⟩, fun e => ⟨by omega, by omega, by omega, by omega, ?_⟩⟩
      · have := hQ τ hs ?_ hfr
        · rw [if_pos h12] at this; exact this
        · rw [hAd h12]
          refine ⟨by rw [hpn, hlnM, hn], fun j c1 c2 => ?_⟩
          have e1 := hcp (2 * j) (by omega) (by omega)
          have e2 := hcp (2 * j + 1) (by omega) (by omega)
          rw [if_pos (by omega), show 2 * j / 2 = j by omega] at e1
          rw [if_neg (by omega), show (2 * j + 1) / 2 = j by omega] at e2
          rw [← e1, ← e2, show p + 1 + (2 * j + 1) = p + 2 + 2 * j by omega]
          exact ⟨rfl, rfl⟩
      · refine ih (i + 1) n l7 y1 y2 _ h12 hn (by omega) (by omega) (by omega) (hs.st (Or.inl rfl)) ?_ ?_ ?_ ?_ lo hi
        · intro j c1 c2
          rw [gi_ne (by omega), gi_ne (by omega)]
          exact hJ j c1 c2
        · rw [ro_nk hp (by omega) (by omega)]; exact hpn
        · intro j c1 c2
          by_cases e3 : j = i
          · subst e3
            rw [ro_eq]
            have g := hJ (j / 2) (by omega) (by omega)
            by_cases e4 : j % 2 = 0
            · rw [if_pos e4, ← g.1, show 2 * (j / 2) = j by omega]
            · rw [if_neg e4, ← g.2, show 2 * (j / 2) + 1 = j by omega]
          · rw [ro_nk (by omega) (by omega) (by omega)]
            exact hcp j c1 (by omega)
        · intro j c1 c2
          rw [ro_nk c1 (by omega) (by omega)]
          exact hfr j c1 c2
  have h275 : ∀ (n l7 l8 : Int) (y1 y2 : Option mv_T) (τ : ms_T), n = ln L - (x - f) + 1 → Sm σ τ (inA m) → JnM τ m M n → (∀ j, ro τ m j = ro σ m j) → ∀ lo hi : Int, At n_X9_adds 275 [some (vR (some m)), some (vI p), some (vI a), some (vI b), some (vI lo), some (vI hi), some (vI n), some (vI l7), some (vI l8), y1, y2] [] τ Q := by
    intro n l7 l8 y1 y2 τ hn hs hJ hfr lo hi
    obtain ⟨s0, g0, g1, g2, g4, g5, g11, z1, z2, z3, z4, z5, z6⟩ := hm.sm hs
    refine vc_X9_adds_275 _ _ _ _ _ _ _ _ _ _ _ _ _ ?_
    simp only [gs_sI, gr_sI, s0, g0, g2, z1, z3, isS_some, true_and]
    refine ⟨fun e => ⟨by omega, by omega, ?_⟩, fun e => ⟨by simp, ?_⟩⟩
    · refine key3 (2 * n + 1).toNat 0 n l7 y1 y2 _ (by omega) hn (by omega) (by omega) (by omega) (hs.st (Or.inl rfl)) ?_ ro_eq ?_ ?_ lo hi
      · intro j c1 c2
        rw [gi_ne (by omega), gi_ne (by omega)]
        exact hJ j c1 c2
      · intro j c1 c2; omega
      · intro j c1 c2
        rw [ro_nk c1 hp (by omega)]
        exact hfr j
    · have := hQ τ hs ?_ (fun j _ _ => hfr j)
      · rw [if_neg (by omega)] at this; exact this
      · rw [hAd2 (by omega)]
        exact h.eqv hl (fun j _ _ => hfr j)
  -- the second walk
  have key2 : ∀ (k : Nat) (i n q : Int) (y1 y2 : Option mv_T) (τ : ms_T), 0 ≤ i → i ≤ ln L → ln L - i < k → Sm σ τ (inA m) → JnM τ m M n → (∀ j, ro τ m j = ro σ m j) → ((i ≤ x ∧ q = 0 ∧ n = min i f) ∨ (x < i ∧ q = 1 ∧ n = i - (x - f) + 1)) → At n_X9_adds 113 [some (vR (some m)), some (vI p), some (vI a), some (vI b), some (vI (loF L a f x (ln L))), some (vI (hiF L b f x (ln L))), some (vI n), some (vI q), some (vI i), y1, y2] [] τ Q := by
    intro k
    induction k with
    | zero => intro i n q y1 y2 τ h0 h1 h2; omega
    | succ k ih =>
      intro i n q y1 y2 τ h0 h1 h2 hs hJ hfr hI
      obtain ⟨s0, g0, g1, g2, g4, g5, g11, z1, z2, z3, z4, z5, z6⟩ := hm.sm hs
      obtain ⟨hn, hb⟩ := h.eqv (τ := τ) hl (fun j _ _ => hfr j)
      have hn' : gi τ (m + 1) p.toNat = ln L := hn
      -- the second half of a step
      have h196 : ∀ (n q : Int) (τ : ms_T), i < ln L → Sm σ τ (inA m) → JnM τ m M n → (∀ j, ro τ m j = ro σ m j) → ((i < x ∧ q = 0 ∧ n = min i f) ∨ (x ≤ i ∧ q = 1 ∧ n = i - (x - f) + 1)) → At n_X9_adds 196 [some (vR (some m)), some (vI p), some (vI a), some (vI b), some (vI (loF L a f x (ln L))), some (vI (hiF L b f x (ln L))), some (vI n), some (vI q), some (vI i), some (vI (lb L i)), some (vI (le_ L i))] [] τ Q := by
        intro n q τ hi hs hJ hfr hI
        obtain ⟨s0, g0, g1, g2, g4, g5, g11, z1, z2, z3, z4, z5, z6⟩ := hm.sm hs
        have gk := hk.2 i h0 hi
        refine vc_X9_adds_196 _ _ _ _ _ _ _ _ _ _ _ _ _ ?_
        simp only [gs_sI, gr_sI, s0, g0, g2, z1, z3, isS_some, true_and]
        rw [wr_i (x := 2 * n) (by omega), wr_i (x := 2 * n + 1) (by omega), wr_i (x := n + 1) (by omega), wr_i (x := i + 1) (by omega)]
        have emit : (i < f ∨ x ≤ i) → At n_X9_adds 113 [some (vR (some m)), some (vI p), some (vI a), some (vI b), some (vI (loF L a f x (ln L))), some (vI (hiF L b f x (ln L))), some (vI (n + 1)), some (vI q), some (vI (i + 1)), some (vI (lb L i)), some (vI (le_ L i))] [] (sI (sI τ (m + 3) (2 * n).toNat (lb L i)) (m + 3) (2 * n + 1).toNat (le_ L i)) Q := by
          intro z
          have he : lb M n = lb L i ∧ le_ M n = le_ L i := by
            rw [bF n (by omega) (by omega), eF n (by omega) (by omega)]
            rcases hI with ⟨i1, i2, i3⟩ | ⟨i1, i2, i3⟩
            · have : n = i := by omega
              rw [this]
              simp only [if_pos (show i < f by omega)]
              exact ⟨trivial, trivial⟩
            · simp only [if_neg (show ¬ n < f by omega), if_neg (show ¬ n = f by omega)]
              rw [show n + (x - f) - 1 = i by omega]
              exact ⟨rfl, rfl⟩
          refine ih (i + 1) (n + 1) q _ _ _ (by omega) (by omega) (by omega) ((hs.st (Or.inr rfl)).st (Or.inr rfl)) (hJ.app (by omega) he.1.symm he.2.symm) (fun j => ?_) (by omega)
          rw [ro_ne (by omega), ro_ne (by omega)]
          exact hfr j
        have hF := lh_fin hk hab hc0 h0 hi
        refine ⟨fun d => ⟨by omega, by omega, by omega, by omega, emit (by omega)⟩, fun d => ⟨fun d2 => ?_, fun d2 => ⟨by omega, by omega, by omega, by omega, emit (by omega)⟩⟩⟩
        exact ih (i + 1) n q _ _ _ (by omega) (by omega) (by omega) hs hJ hfr (by omega)
      refine vc_X9_adds_113 _ _ _ _ _ _ _ _ _ _ _ _ _ ?_
      simp only [gs_sI, gr_sI, s0, g0, g2, z1, z3, hn', isS_some, true_and]
      rw [wr_i (x := 2 * n) (by omega), wr_i (x := 2 * n + 1) (by omega), wr_i (x := n + 1) (by omega)]
      have emitM : q = 0 → n = f → (i = ln L ∨ i = x) → Sm σ (sI (sI τ (m + 3) (2 * n).toNat (loF L a f x (ln L))) (m + 3) (2 * n + 1).toNat (hiF L b f x (ln L))) (inA m) ∧ JnM (sI (sI τ (m + 3) (2 * n).toNat (loF L a f x (ln L))) (m + 3) (2 * n + 1).toNat (hiF L b f x (ln L))) m M (n + 1) ∧ ∀ j, ro (sI (sI τ (m + 3) (2 * n).toNat (loF L a f x (ln L))) (m + 3) (2 * n + 1).toNat (hiF L b f x (ln L))) m j = ro σ m j := by
        intro c1 c2 c3
        have he := hMf (by omega)
        refine ⟨(hs.st (Or.inr rfl)).st (Or.inr rfl), hJ.app (by omega) (by rw [c2]; exact he.1.symm) (by rw [c2]; exact he.2.symm), fun j => ?_⟩
        rw [ro_ne (by omega), ro_ne (by omega)]
        exact hfr j
      refine ⟨by omega, by omega, fun e => ⟨fun e2 => ?_, fun e2 => ⟨by omega, by omega, by omega, by omega, ?_⟩⟩, fun e => ?_⟩
      · exact h275 n q i _ _ τ (by omega) hs hJ hfr _ _
      · obtain ⟨k1, k2, k3⟩ := emitM (by omega) (by omega) (by omega)
        exact h275 (n + 1) q i _ _ _ (by omega) k1 k2 k3 _ _
      · have hb' := hb i h0 (by omega)
        have gk := hk.2 i h0 (by omega)
        rw [wr_i (x := p + 2) (by omega), wr_i (x := p + 1) (by omega), wr_i (x := 2 * i) (by omega), wr_i (x := p + 2 + 2 * i) (by omega), wr_i (x := p + 1 + 2 * i) (by omega)]
        have e3 : gi τ (m + 1) (p + 1 + 2 * i).toNat = lb L i := hb'.1
        have e4 : gi τ (m + 1) (p + 2 + 2 * i).toNat = le_ L i := hb'.2
        rw [e3, e4]
        have hF := lh_fin hk hab hc0 h0 (show i < ln L by omega)
        refine ⟨by omega, by omega, by omega, by omega, fun e5 => ?_, fun e5 => ⟨fun e6 => ?_, fun e6 => ⟨by omega, by omega, by omega, by omega, ?_⟩⟩⟩
        · exact h196 n q τ (by omega) hs hJ hfr (by omega)
        · exact h196 n q τ (by omega) hs hJ hfr (by omega)
        · obtain ⟨k1, k2, k3⟩ := emitM (by omega) (by omega) (by omega)
          exact h196 (n + 1) 1 _ (by omega) k1 k2 k3 (by omega)
  have key : ∀ (k : Nat) (i lo hi : Int) (y1 y2 : Option mv_T), 0 ≤ i → i ≤ ln L → ln L - i < k → lo = loF L a f x i → hi = hiF L b f x i → At n_X9_adds 15 [some (vR (some m)), some (vI p), some (vI a), some (vI b), some (vI lo), some (vI hi), some (vI 0), some (vI 0), some (vI i), y1, y2] [] σ Q := by
    intro k
    induction k with
    | zero => intro i lo hi y1 y2 h0 h1 h2; omega
    | succ k ih =>
      intro i lo hi y1 y2 h0 h1 h2 hlo hhi
      obtain ⟨s0, g0, g1, g2, g4, g5, g11, z1, z2, z3, z4, z5, z6⟩ := hm
      obtain ⟨hn, hb⟩ := h
      have hn' : gi σ (m + 1) p.toNat = ln L := hn
      refine vc_X9_adds_15 _ _ _ _ _ _ _ _ _ _ _ _ _ ?_
      simp only [gs_sI, gr_sI, s0, g0, g2, z1, z3, hn', isS_some, true_and]
      refine ⟨by omega, by omega, fun e => ?_, fun e => ?_⟩
      · have ei : i = ln L := by omega
        rw [ei] at hlo hhi
        rw [hlo, hhi]
        exact key2 (ln L + 1).toNat 0 0 0 _ _ σ (by omega) (by omega) (by omega) Sm.rf (fun j c1 c2 => by omega) (fun j => rfl) (by omega)
      · have hb' := hb i h0 (by omega)
        have gk := hk.2 i h0 (by omega)
        rw [wr_i (x := p + 2) (by omega), wr_i (x := p + 1) (by omega), wr_i (x := 2 * i) (by omega), wr_i (x := p + 2 + 2 * i) (by omega), wr_i (x := p + 1 + 2 * i) (by omega), wr_i (x := b + 1) (by omega), wr_i (x := a - 1) (by omega), wr_i (x := i + 1) (by omega)]
        have e3 : gi σ (m + 1) (p + 1 + 2 * i).toNat = lb L i := hb'.1
        have e4 : gi σ (m + 1) (p + 2 + 2 * i).toNat = le_ L i := hb'.2
        rw [e3, e4]
        have hS := lh_step hk hc0 h0 (show i < ln L by omega)
        rw [← hlo, ← hhi] at hS
        refine ⟨by omega, by omega, by omega, by omega, fun d1 => ?_, fun d1 => ⟨fun d2 => ?_, fun d2 => ⟨fun d3 => ⟨fun d4 => ?_, fun d4 => ?_⟩, fun d3 => ⟨fun d4 => ?_, fun d4 => ?_⟩⟩⟩⟩
        all_goals exact ih (i + 1) _ _ _ _ (by omega) (by omega) (by omega) (by omega) (by omega)
  refine vc_X9_adds _ _ _ _ _ _ (key (ln L + 1).toNat 0 a b _ _ (by omega) (by omega) (by omega) ?_ ?_)
  · unfold loF; rw [if_neg (by omega)]
  · unfold hiF; rw [if_neg (by omega)]
