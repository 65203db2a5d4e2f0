theorem Sm.one {σ : ms_T} {c k : Nat} {v : Int} : Sm σ (sI σ c k v) (fun c' => c' = c) := Sm.st (P := fun c' => c' = c) Sm.rf rfl
theorem q_ext {Q M : List Rq} (h1 : ql Q = ql M) (h2 : ∀ i, 0 ≤ i → i < ql Q → qg Q i = qg M i) : Q = M := by
  unfold ql at h1 h2
  have h1' : Q.length = M.length := by omega
  apply List.ext_getElem h1'
  intro k hk hk'
  have h := h2 (k : Int) (by omega) (by omega)
  unfold qg at h
  simpa only [Int.toNat_natCast, List.getD_eq_getElem?_getD, List.getElem?_eq_getElem hk, List.getElem?_eq_getElem hk', Option.getD_some] using h
theorem ql_app {Q : List Rq} {r : Rq} : ql (Q ++ [r]) = ql Q + 1 := by unfold ql; simp
theorem qg_app {Q : List Rq} {r : Rq} {i : Int} (h0 : 0 ≤ i) (h : i < ql Q) : qg (Q ++ [r]) i = qg Q i := by
  unfold ql at h
  unfold qg
  rw [List.getD_eq_getElem?_getD, List.getD_eq_getElem?_getD, List.getElem?_append_left (by omega)]
theorem qg_app' {Q : List Rq} {r : Rq} {i : Int} (h : i = ql Q) : qg (Q ++ [r]) i = r := by
  subst h
  unfold qg ql
  simp
def rmQ (Q : List Rq) (p : Int) : List Rq := Q.eraseIdx p.toNat
def stQ (Q : List Rq) (p : Int) (r : Rq) : List Rq := Q.set p.toNat r
def mvQ (Q : List Rq) (p : Int) : List Rq := rmQ Q p ++ [qg Q p]
theorem ql_rm {Q : List Rq} {p : Int} (h0 : 0 ≤ p) (h : p < ql Q) : ql (rmQ Q p) = ql Q - 1 := by
  unfold ql rmQ at *
  rw [List.length_eraseIdx, if_pos (by omega)]
  omega
theorem qg_rm {Q : List Rq} {p i : Int} (h0 : 0 ≤ p) (hi : 0 ≤ i) : qg (rmQ Q p) i = if i < p then qg Q i else qg Q (i + 1) := by
  unfold qg rmQ
  rw [List.getD_eq_getElem?_getD, List.getElem?_eraseIdx]
  by_cases e : i < p
  · rw [if_pos (by omega), if_pos e, List.getD_eq_getElem?_getD]
  · rw [if_neg (by omega), if_neg e, List.getD_eq_getElem?_getD, show (i + 1).toNat = i.toNat + 1 by omega]
theorem ql_st {Q : List Rq} {p : Int} {r : Rq} : ql (stQ Q p r) = ql Q := by unfold ql stQ; simp
theorem qg_st {Q : List Rq} {p i : Int} {r : Rq} (h0 : 0 ≤ p) (h : p < ql Q) (hi : 0 ≤ i) : qg (stQ Q p r) i = if i = p then r else qg Q i := by
  unfold ql at h
  unfold qg stQ
  rw [List.getD_eq_getElem?_getD, List.getElem?_set, List.getD_eq_getElem?_getD]
  by_cases e : i = p
  · rw [if_pos (by omega), if_pos (by omega), if_pos e]
    rfl
  · rw [if_neg (by omega), if_neg e]
theorem ql_mv {Q : List Rq} {p : Int} (h0 : 0 ≤ p) (h : p < ql Q) : ql (mvQ Q p) = ql Q := by
  unfold mvQ
  rw [ql_app, ql_rm h0 h]
  omega
theorem qg_mv {Q : List Rq} {p i : Int} (h0 : 0 ≤ p) (h : p < ql Q) (hi : 0 ≤ i) (h2 : i < ql Q) : qg (mvQ Q p) i = if i < p then qg Q i else if i < ql Q - 1 then qg Q (i + 1) else qg Q p := by
  unfold mvQ
  have hl := ql_rm h0 h
  by_cases e : i < ql Q - 1
  · rw [qg_app hi (by omega), qg_rm h0 hi]
    simp only [if_pos e]
  · rw [qg_app' (by omega), if_neg (by omega), if_neg e]
/-- the queue's object u, its row u + 1, its requests from u + 2 on, the k-th place taken by the p k-th -/
def QuP (σ : ms_T) (u : Nat) (Q : List Rq) (p : Int → Nat) : Prop := (gs σ u = (3, 0) ∧ gr σ u 0 = some (u + 1) ∧ gs σ (u + 1) = (64, 6)) ∧ gi σ u 1 = ql Q ∧ ql Q ≤ 6 ∧ (∀ k : Int, 0 ≤ k → k < 6 → gr σ (u + 1) k.toNat = some (u + 2 + 4 * p k) ∧ p k < 6) ∧ (∀ k j : Int, 0 ≤ k → k < 6 → 0 ≤ j → j < 6 → p k = p j → k = j) ∧ (∀ j : Nat, j < 6 → isRq σ (u + 2 + 4 * j)) ∧ ∀ k : Int, 0 ≤ k → k < ql Q → RqC σ (u + 2 + 4 * p k) (qg Q k)
def QuC (σ : ms_T) (u : Nat) (Q : List Rq) : Prop := ∃ p, QuP σ u Q p
def inQu (u c : Nat) : Prop := u ≤ c ∧ c ≤ u + 25
theorem QuP.ag {σ τ : ms_T} {u : Nat} {Q : List Rq} {p : Int → Nat} (h : QuP σ u Q p) (hs : Ag σ τ (inQu u)) : QuP τ u Q p := by
  obtain ⟨⟨h1, h2, h3⟩, h4, h5, h6, h7, h8, h9⟩ := h
  have g0 : inQu u u := ⟨by omega, by omega⟩
  have g1 : inQu u (u + 1) := ⟨by omega, by omega⟩
  refine ⟨⟨by rw [hs.s g0]; exact h1, by rw [hs.r g0]; exact h2, by rw [hs.s g1]; exact h3⟩, by rw [hs.i g0]; exact h4, h5, fun k a b => by rw [hs.r g1]; exact h6 k a b, h7, fun j hj => (h8 j hj).ag (hs.wk fun c hc => by unfold inRq at hc; unfold inQu; omega), fun k a b => (h9 k a b).ag (hs.wk fun c hc => ?_)⟩
  have := (h6 k a (by omega)).2
  unfold inRq at hc
  unfold inQu
  omega
theorem QuC.ag {σ τ : ms_T} {u : Nat} {Q : List Rq} (h : QuC σ u Q) (hs : Ag σ τ (inQu u)) : QuC τ u Q := by
  obtain ⟨p, h⟩ := h
  exact ⟨p, h.ag hs⟩
/-- one request is another -/
theorem QuP.rq {σ τ : ms_T} {u : Nat} {Q : List Rq} {p : Int → Nat} {i : Int} {r : Rq} (h : QuP σ u Q p) (h0 : 0 ≤ i) (hi : i < ql Q) (hs : Sm σ τ (inRq (u + 2 + 4 * p i))) (hr : RqC τ (u + 2 + 4 * p i) r) : QuP τ u (stQ Q i r) p := by
  obtain ⟨⟨h1, h2, h3⟩, h4, h5, h6, h7, h8, h9⟩ := h
  refine ⟨⟨by rw [hs.s]; exact h1, by rw [hs.r]; exact h2, by rw [hs.s]; exact h3⟩, by rw [hs.i (by unfold inRq; omega), ql_st]; exact h4, by rw [ql_st]; exact h5, fun k a b => by rw [hs.r]; exact h6 k a b, h7, fun j hj => (h8 j hj).sm hs, fun k a b => ?_⟩
  rw [ql_st] at b
  rw [qg_st h0 hi a]
  by_cases e : k = i
  · rw [if_pos e, e]; exact hr
  · rw [if_neg e]
    refine (h9 k a b).ag (hs.ag fun c hc => ?_)
    have n1 : ¬ p k = p i := fun z => e (h7 k i a (by omega) h0 (by omega) z)
    unfold inRq at *
    omega
def plQ (Q : List Rq) (n : Int) : Int := frI (fun i => decide (rst (qg Q i) = n)) (ql Q).toNat
set_option maxHeartbeats 4000000 in
theorem X3_placeOf {u : Nat} {σ : ms_T} {L : List Rq} {n : Int} {Q : mq_T} (h : QuC σ u L) (hQ : Q (some (vI (plQ L n))) σ) : Ca n_X3_placeOf [vR (some u), vI n] σ Q := by
  obtain ⟨p, ⟨h1, h2, h3⟩, h4, h5, h6, h7, h8, h9⟩ := h
  have hnn := ql_nn L
  have key : ∀ (k : Nat) (i : Int), 0 ≤ i → i ≤ ql L → ql L - i < k → frI (fun i => decide (rst (qg L i) = n)) i.toNat = -1 → At n_X3_placeOf 2 [some (vR (some u)), some (vI n), some (vI i)] [] σ Q := by
    intro k
    induction k with
    | zero => intro i a0 a1 a2; omega
    | succ k ih =>
      intro i a0 a1 a2 hx
      have hss := frI_s (p := fun i => decide (rst (qg L i) = n)) a0
      rw [hx, if_neg (by decide)] at hss
      refine vc_X3_placeOf_2 _ _ _ _ _ ?_
      simp only [h1, h2, h3, h4, isS_some, true_and]
      refine ⟨fun e => ?_, fun e => ⟨by decide, by decide, a0, by omega, ?_⟩⟩
      · have : plQ L n = -1 := by unfold plQ; rw [show ql L = i by omega]; exact hx
        rw [this] at hQ
        exact hQ
      · obtain ⟨⟨q0, -⟩, ⟨q1, -⟩, -⟩ := h9 i a0 (by omega)
        simp only [(h6 i a0 (by omega)).1, q0, q1, isS_some, true_and]
        rw [wr_i (x := i + 1) (by omega)]
        refine ⟨fun e2 => ?_, fun e2 => ?_⟩
        · refine ih _ (by omega) (by omega) (by omega) ?_
          rw [hss, if_neg (by simpa using e2)]
        · rw [if_pos (by simp only [decide_eq_true_eq]; omega)] at hss
          have h3 := frI_up (p := fun i => decide (rst (qg L i) = n)) (k := (i + 1).toNat) (by rw [hss]; exact a0) (ql L).toNat (by omega)
          have : plQ L n = i := by unfold plQ; rw [h3, hss]
          rw [this] at hQ
          exact hQ
  exact vc_X3_placeOf _ _ _ _ (key (ql L + 1).toNat 0 (by omega) hnn (by omega) rfl)
theorem frI_of {p : Int → Bool} {n d : Int} (h0 : 0 ≤ d) (hd : d < n) (hp : p d = true) (hn : ∀ j, 0 ≤ j → j < d → ¬ p j = true) : frI p n.toNat = d := by
  have key : ∀ k : Nat, (k : Int) ≤ d → frI p k = -1 := by
    intro k
    induction k with
    | zero => intro _; rfl
    | succ k ih =>
      intro hk
      show (if 0 ≤ frI p k then frI p k else if p (k : Int) = true then (k : Int) else -1) = -1
      rw [ih (by omega), if_neg (by decide), if_neg (hn k (by omega) (by omega))]
  have h1 := frI_s (p := p) h0
  rw [key d.toNat (by omega), if_neg (by decide), if_pos hp] at h1
  rw [frI_up (k := (d + 1).toNat) (by rw [h1]; exact h0) n.toNat (by omega), h1]
theorem frI_no {p : Int → Bool} : ∀ {n : Nat}, (∀ j : Int, 0 ≤ j → j < n → ¬ p j = true) → frI p n = -1
  | 0, _ => rfl
  | n + 1, h => by
    show (if 0 ≤ frI p n then frI p n else if p (n : Int) = true then (n : Int) else -1) = -1
    rw [frI_no (fun j a b => h j a (by omega)), if_neg (by decide), if_neg (h n (by omega) (by omega))]
theorem lsI_of {p : Int → Bool} {d : Int} (h0 : 0 ≤ d) (hp : p d = true) : ∀ {n : Nat}, d < n → (∀ j : Int, d < j → j < n → ¬ p j = true) → lsI p n = d
  | 0, h, _ => by omega
  | n + 1, h, hn => by
    show (if p (n : Int) = true then (n : Int) else lsI p n) = d
    by_cases e : (n : Int) = d
    · rw [if_pos (by rw [e]; exact hp), e]
    · rw [if_neg (hn n (by omega) (by omega))]
      exact lsI_of h0 hp (by omega) (fun j a b => hn j a (by omega))
theorem lsI_no {p : Int → Bool} : ∀ {n : Nat}, (∀ j : Int, 0 ≤ j → j < n → ¬ p j = true) → lsI p n = -1
  | 0, _ => rfl
  | n + 1, h => by
    show (if p (n : Int) = true then (n : Int) else lsI p n) = -1
    rw [if_neg (h n (by omega) (by omega))]
    exact lsI_no (fun j a b => h j a (by omega))
/-- the request that is sent next: the one that has the turn, else the first for the directory, else the first -/
def trQ (Q : List Rq) : Int := lsI (fun i => decide (0 < rle (qg Q i))) (ql Q).toNat
def diQ (Q : List Rq) : Int := frI (fun i => decide (rfl_ (qg Q i) = -1)) (ql Q).toNat
def ptQ (Q : List Rq) : Int := if 0 ≤ trQ Q then trQ Q else if 0 ≤ diQ Q then diQ Q else if 0 < ql Q then 0 else -1
set_option maxHeartbeats 4000000 in
theorem X3_placeToSend {u : Nat} {σ : ms_T} {L : List Rq} {Q : mq_T} (h : QuC σ u L) (hQ : Q (some (vI (ptQ L))) σ) : Ca n_X3_placeToSend [vR (some u)] σ Q := by
  obtain ⟨p, ⟨h1, h2, h3⟩, h4, h5, h6, h7, h8, h9⟩ := h
  have hnn := ql_nn L
  have key : ∀ (k : Nat) (i d : Int), -1 ≤ i → i < ql L → i + 1 < k → (∀ j, i < j → j < ql L → ¬ 0 < rle (qg L j)) → ((d = -1 ∧ ∀ j, i < j → j < ql L → ¬ rfl_ (qg L j) = -1) ∨ (i < d ∧ d < ql L ∧ rfl_ (qg L d) = -1 ∧ ∀ j, i < j → j < d → ¬ rfl_ (qg L j) = -1)) → At n_X3_placeToSend 9 [some (vR (some u)), some (vI d), some (vI i)] [] σ Q := by
    intro k
    induction k with
    | zero => intro i d a0 a1 a2; omega
    | succ k ih =>
      intro i d a0 a1 a2 hx hd
      refine vc_X3_placeToSend_9 _ _ _ _ _ ?_
      simp only [h1, h2, h3, h4, isS_some, true_and]
      refine ⟨fun e => ?_, fun e => ⟨by decide, by decide, by omega, by omega, ?_⟩⟩
      · have ht : trQ L = -1 := lsI_no (fun j b0 b1 => by simpa using hx j (by omega) (by omega))
        have hdd : diQ L = d := by
          rcases hd with ⟨e1, e2⟩ | ⟨e1, e2, e3, e4⟩
          · rw [e1]
            exact frI_no (fun j b0 b1 => by simpa using e2 j (by omega) (by omega))
          · exact frI_of (by omega) e2 (by simpa using e3) (fun j b0 b1 => by simpa using e4 j (by omega) b1)
        unfold ptQ at hQ
        rw [ht, if_neg (by decide), hdd] at hQ
        refine ⟨fun e2 => ⟨fun e3 => ?_, fun e3 => ?_⟩, fun e2 => ?_⟩
        · rw [if_neg (by omega), if_neg (by omega)] at hQ; exact hQ
        · rw [if_neg (by omega), if_pos (by omega)] at hQ; exact hQ
        · rw [if_pos (by omega)] at hQ; exact hQ
      · have hr := h9 i (by omega) (by omega)
        obtain ⟨⟨q0, -⟩, ⟨q1, q2, q3⟩, -⟩ := h9 i (by omega) (by omega)
        simp only [(h6 i (by omega) (by omega)).1, q0, q3, isS_some, true_and]
        rw [wr_i (x := i + -1) (by omega)]
        refine ⟨fun e2 => ⟨by decide, by decide, by omega, by omega, ?_⟩, fun e2 => ?_⟩
        · refine X4_isForDirectory hr (fun c => ⟨1, rfl, fun z => by omega, fun _ => ?_⟩) (fun c => ⟨0, rfl, fun _ => ?_, fun z => absurd rfl z⟩)
          · refine ih _ _ (by omega) (by omega) (by omega) (fun j b0 b1 => ?_) (Or.inr ⟨by omega, by omega, c, fun j b0 b1 => by omega⟩)
            by_cases e3 : j = i
            · rw [e3]; omega
            · exact hx j (by omega) b1
          · refine ih _ _ (by omega) (by omega) (by omega) (fun j b0 b1 => ?_) ?_
            · by_cases e3 : j = i
              · rw [e3]; omega
              · exact hx j (by omega) b1
            · rcases hd with ⟨d1, d2⟩ | ⟨d1, d2, d3, d4⟩
              · refine Or.inl ⟨d1, fun j b0 b1 => ?_⟩
                by_cases e3 : j = i
                · rw [e3]; exact c
                · exact d2 j (by omega) b1
              · refine Or.inr ⟨by omega, d2, d3, fun j b0 b1 => ?_⟩
                by_cases e3 : j = i
                · rw [e3]; exact c
                · exact d4 j (by omega) b1
        · have ht : trQ L = i := lsI_of (by omega) (by simp only [decide_eq_true_eq]; omega) (by omega) (fun j b0 b1 => by simpa using hx j b0 (by omega))
          unfold ptQ at hQ
          rw [ht, if_pos (by omega)] at hQ
          exact hQ
  refine vc_X3_placeToSend _ _ _ ⟨h1, ?_⟩
  rw [h4, wr_i (by omega)]
  exact key (ql L + 1).toNat (ql L - 1) (-1) (by omega) (by omega) (by omega) (fun j b0 b1 => by omega) (Or.inl ⟨rfl, fun j b0 b1 => by omega⟩)
set_option maxHeartbeats 4000000 in
theorem X3_put {u : Nat} {σ : ms_T} {L : List Rq} {n f : Int} {Q : mq_T} (h : QuC σ u L) (h0 : 6 ≤ ql L → Q (some (vR none)) σ) (hQ1 : ql L < 6 → ∀ τ p, Sm σ τ (inQu u) → QuP τ u (L ++ [(n, f, [], 0)]) p → Q (some (vR (some (u + 2 + 4 * p (ql L))))) τ) : Ca n_X3_put [vR (some u), vI n, vI f] σ Q := by
  obtain ⟨p, ⟨h1, h2, h3⟩, h4, h5, h6, h7, h8, h9⟩ := h
  have hnn := ql_nn L
  refine vc_X3_put _ _ _ _ _ ?_
  simp only [h1, h2, h3, h4, isS_some, true_and]
  refine ⟨fun e => ⟨by decide, by decide, by omega, by omega, ?_⟩, fun e => h0 (by omega)⟩
  have g := h6 (ql L) hnn (by omega)
  have hq := h8 _ g.2
  simp only [g.1, hq.1, isS_some, true_and]
  refine X4_begin hq (fun τ hs hr => ⟨rfl, by rw [hs.s]; exact h1, by rw [hs.s]; exact h1, ?_⟩)
  rw [hs.i (show ¬ inRq (u + 2 + 4 * p (ql L)) u by unfold inRq; omega), h4, wr_i (by omega)]
  have hs1 : Sm σ τ (inQu u) := hs.wk fun c hc => by unfold inRq at hc; unfold inQu; omega
  refine hQ1 e _ p (hs1.st ⟨by omega, by omega⟩) ⟨⟨?_, ?_, ?_⟩, ?_, ?_, fun k a b => ?_, h7, fun j hj => ?_, fun k a b => ?_⟩
  · rw [gs_sI, hs.s]; exact h1
  · rw [gr_sI, hs.r]; exact h2
  · rw [gs_sI, hs.s]; exact h3
  · rw [gi_eq, ql_app]
  · rw [ql_app]; omega
  · rw [gr_sI, hs.r]; exact h6 k a b
  · exact ((h8 j hj).sm hs).sm Sm.one
  · rw [ql_app] at b
    have hx : ∀ c, inRq (u + 2 + 4 * p k) c → ¬ c = u := fun c hc => by unfold inRq at hc; omega
    by_cases e2 : k = ql L
    · rw [qg_app' e2, e2]
      exact hr.ag (Sm.one.ag (by rw [← e2]; exact hx))
    · rw [qg_app a (by omega)]
      refine ((h9 k a (by omega)).ag (hs.ag fun c hc => ?_)).ag (Sm.one.ag hx)
      have n1 : ¬ p k = p (ql L) := fun z => e2 (h7 k (ql L) a (by omega) hnn (by omega) z)
      unfold inRq at *
      omega
set_option maxHeartbeats 4000000 in
theorem X3_moveToEnd {u : Nat} {σ : ms_T} {L : List Rq} {q : Int} {Q : mq_T} (h : QuC σ u L) (hq0 : 0 ≤ q) (hq : q < ql L) (hQ : ∀ τ, Sq σ τ (fun c => c = u + 1) → QuC τ u (mvQ L q) → Q none τ) : Ca n_X3_moveToEnd [vR (some u), vI q] σ Q := by
  obtain ⟨p, ⟨h1, h2, h3⟩, h4, h5, h6, h7, h8, h9⟩ := h
  have hnn := ql_nn L
  have key : ∀ (k : Nat) (i : Int) (τ : ms_T), q ≤ i → i ≤ ql L - 1 → ql L - i < k → Sq σ τ (fun c => c = u + 1) → (∀ j : Int, 0 ≤ j → j < 6 → gr τ (u + 1) j.toNat = some (u + 2 + 4 * (if q ≤ j ∧ j < i then p (j + 1) else p j))) → At n_X3_moveToEnd 22 [some (vR (some u)), some (vI q), some (vR (some (u + 2 + 4 * p q))), some (vI i)] [] τ Q := by
    intro k
    induction k with
    | zero => intro i τ a0 a1 a2; omega
    | succ k ih =>
      intro i τ a0 a1 a2 hs hr
      have hu : ¬ (fun c => c = u + 1) u := by show ¬ u = u + 1; omega
      have t1 : gs τ u = (3, 0) := by rw [hs.2.2.1]; exact h1
      have t2 : gr τ u 0 = some (u + 1) := by rw [(hs.2.2.2 u hu).1]; exact h2
      have t3 : gs τ (u + 1) = (64, 6) := by rw [hs.2.2.1]; exact h3
      have t4 : gi τ u 1 = ql L := by rw [(hs.2.2.2 u hu).2]; exact h4
      have t5 : gs τ (u + 2 + 4 * p q) = (4, 0) := by rw [hs.2.2.1]; exact (h8 _ (h6 q hq0 (by omega)).2).1
      refine vc_X3_moveToEnd_22 _ _ _ _ _ _ ?_
      simp only [t1, t2, t3, t4, t5, isS_some, true_and]
      rw [wr_i (x := ql L - 1) (by omega), wr_i (x := i + 1) (by omega)]
      refine ⟨fun e => ⟨by decide, by decide, by omega, by omega, ?_⟩, fun e => ⟨by decide, by decide, by omega, by omega, by decide, by decide, by omega, by omega, ?_, ?_⟩⟩
      · have ei : i = ql L - 1 := by omega
        have hs2 : Sq σ (sR τ (u + 1) (ql L - 1).toNat (some (u + 2 + 4 * p q))) (fun c => c = u + 1) := hs.sr rfl
        have hml := ql_mv hq0 hq
        refine hQ _ hs2 ⟨fun j => if q ≤ j ∧ j < ql L - 1 then p (j + 1) else if j = ql L - 1 then p q else p j, ⟨?_, ?_, ?_⟩, ?_, by rw [hml]; exact h5, fun j b0 b1 => ⟨?_, ?_⟩, fun j l b0 b1 b2 b3 hjl => ?_, fun j hj => ?_, fun j b0 b1 => ?_⟩
        · rw [hs2.2.2.1]; exact h1
        · rw [(hs2.2.2.2 u hu).1]; exact h2
        · rw [hs2.2.2.1]; exact h3
        · rw [(hs2.2.2.2 u hu).2, hml]; exact h4
        · rw [gr_sR]
          have := hr j b0 b1
          by_cases e2 : j = ql L - 1
          · rw [if_pos ⟨rfl, by rw [e2]⟩]
            simp only [if_neg (show ¬ (q ≤ j ∧ j < ql L - 1) by omega), if_pos e2]
          · rw [if_neg (by omega), this, ei]
            by_cases e3 : q ≤ j ∧ j < ql L - 1
            · simp only [if_pos e3]
            · simp only [if_neg e3, if_neg e2]
        · show (if q ≤ j ∧ j < ql L - 1 then p (j + 1) else if j = ql L - 1 then p q else p j) < 6
          split
          · exact (h6 (j + 1) (by omega) (by omega)).2
          · split
            · exact (h6 q hq0 (by omega)).2
            · exact (h6 j b0 b1).2
        · have inj : ∀ x y : Int, 0 ≤ x → x < 6 → 0 ≤ y → y < 6 → ¬ x = y → ¬ p x = p y := fun x y c0 c1 c2 c3 c4 z => c4 (h7 x y c0 c1 c2 c3 z)
          rcases Int.lt_trichotomy j l with e2 | e2 | e2
          · exfalso
            revert hjl
            show ¬ (if q ≤ j ∧ j < ql L - 1 then p (j + 1) else if j = ql L - 1 then p q else p j) = (if q ≤ l ∧ l < ql L - 1 then p (l + 1) else if l = ql L - 1 then p q else p l)
            split
            · split
              · exact inj _ _ (by omega) (by omega) (by omega) (by omega) (by omega)
              · split
                · exact inj _ _ (by omega) (by omega) (by omega) (by omega) (by omega)
                · exact inj _ _ (by omega) (by omega) (by omega) (by omega) (by omega)
            · split
              · split
                · exact inj _ _ (by omega) (by omega) (by omega) (by omega) (by omega)
                · split
                  · omega
                  · exact inj _ _ (by omega) (by omega) (by omega) (by omega) (by omega)
              · split
                · exact inj _ _ (by omega) (by omega) (by omega) (by omega) (by omega)
                · split
                  · exact inj _ _ (by omega) (by omega) (by omega) (by omega) (by omega)
                  · exact inj _ _ (by omega) (by omega) (by omega) (by omega) (by omega)
          · exact e2
          · exfalso
            revert hjl
            show ¬ (if q ≤ j ∧ j < ql L - 1 then p (j + 1) else if j = ql L - 1 then p q else p j) = (if q ≤ l ∧ l < ql L - 1 then p (l + 1) else if l = ql L - 1 then p q else p l)
            split
            · split
              · exact inj _ _ (by omega) (by omega) (by omega) (by omega) (by omega)
              · split
                · exact inj _ _ (by omega) (by omega) (by omega) (by omega) (by omega)
                · exact inj _ _ (by omega) (by omega) (by omega) (by omega) (by omega)
            · split
              · split
                · exact inj _ _ (by omega) (by omega) (by omega) (by omega) (by omega)
                · split
                  · omega
                  · exact inj _ _ (by omega) (by omega) (by omega) (by omega) (by omega)
              · split
                · exact inj _ _ (by omega) (by omega) (by omega) (by omega) (by omega)
                · split
                  · exact inj _ _ (by omega) (by omega) (by omega) (by omega) (by omega)
                  · exact inj _ _ (by omega) (by omega) (by omega) (by omega) (by omega)
        · exact (h8 j hj).ag (hs2.ag fun c hc => by unfold inRq at hc; show ¬ c = u + 1; omega)
        · rw [hml] at b1
          have agr : ∀ (x : Nat) (r : Rq), RqC σ (u + 2 + 4 * x) r → RqC (sR τ (u + 1) (ql L - 1).toNat (some (u + 2 + 4 * p q))) (u + 2 + 4 * x) r := fun x r hx => hx.ag (hs2.ag fun c hc => by unfold inRq at hc; show ¬ c = u + 1; omega)
          rw [qg_mv hq0 hq b0 b1]
          refine agr _ _ ?_
          show RqC σ (u + 2 + 4 * (if q ≤ j ∧ j < ql L - 1 then p (j + 1) else if j = ql L - 1 then p q else p j)) _
          by_cases e2 : j < q
          · rw [if_neg (by omega), if_neg (by omega), if_pos e2]; exact h9 j b0 b1
          · by_cases e3 : j < ql L - 1
            · rw [if_pos ⟨by omega, e3⟩, if_neg e2, if_pos e3]; exact h9 (j + 1) (by omega) (by omega)
            · rw [if_neg (by omega), if_pos (by omega), if_neg e2, if_neg e3]; exact h9 q hq0 hq
      · rw [hr (i + 1) (by omega) (by omega), if_neg (by omega)]
        show (gs τ _).1 + 60 = 64 ∧ (gs τ _).2 = 0
        rw [hs.2.2.1, (h8 _ (h6 (i + 1) (by omega) (by omega)).2).1]
        exact ⟨rfl, rfl⟩
      · refine ih (i + 1) _ (by omega) (by omega) (by omega) (hs.sr rfl) (fun j b0 b1 => ?_)
        rw [gr_sR]
        by_cases e2 : j = i
        · rw [if_pos ⟨rfl, by rw [e2]⟩, hr (i + 1) (by omega) (by omega), if_neg (by omega), if_pos ⟨by omega, by omega⟩, e2]
        · rw [if_neg (by omega), hr j b0 b1]
          by_cases e3 : q ≤ j ∧ j < i
          · rw [if_pos e3, if_pos (by omega)]
          · rw [if_neg e3, if_neg (by omega)]
  refine vc_X3_moveToEnd _ _ _ _ ⟨fun e => by omega, fun e => ?_⟩
  simp only [h1, h2, h3, h4, isS_some, true_and]
  refine ⟨fun e2 => ⟨by decide, by decide, hq0, by omega, ?_⟩, fun e2 => absurd hq e2⟩
  rw [(h6 q hq0 (by omega)).1]
  exact key (ql L + 1).toNat q σ (by omega) (by omega) (by omega) Sq.rf (fun j b0 b1 => by rw [if_neg (by omega)]; exact (h6 j b0 b1).1)
theorem X3_remove {u : Nat} {σ : ms_T} {L : List Rq} {q : Int} {Q : mq_T} (h : QuC σ u L) (hq0 : 0 ≤ q) (hq : q < ql L) (hQ : ∀ τ, Sq σ τ (inQu u) → QuC τ u (rmQ L q) → Q none τ) : Ca n_X3_remove [vR (some u), vI q] σ Q := by
  have h' := h
  obtain ⟨p, ⟨h1, h2, h3⟩, h4, h5, -⟩ := h
  refine vc_X3_remove _ _ _ _ ⟨fun e => by omega, fun e => ⟨h1, fun e2 => by omega, fun e2 => ⟨h1, X3_moveToEnd h' hq0 hq (fun τ hs hm => ⟨rfl, ?_⟩)⟩⟩⟩
  have hml := ql_mv hq0 hq
  have hrl := ql_rm hq0 hq
  obtain ⟨p', ⟨k1, k2, k3⟩, k4, k5, k6, k7, k8, k9⟩ := hm
  rw [hml] at k4 k5
  refine ⟨k1, k1, ?_⟩
  rw [k4, wr_i (by omega)]
  refine hQ _ ((hs.wk fun c hc => by unfold inQu; omega).st ⟨by omega, by omega⟩) ⟨p', ⟨k1, k2, k3⟩, by rw [gi_eq, hrl], by omega, k6, k7, fun j hj => (k8 j hj).sm Sm.one, fun j b0 b1 => ?_⟩
  have := k9 j b0 (by rw [hml]; omega)
  rw [qg_mv hq0 hq b0 (by omega)] at this
  rw [qg_rm hq0 b0]
  have h3 := this.ag ((Sm.one (k := 1) (c := u) (v := ql L - 1)).ag (fun c hc => by unfold inRq at hc; show ¬ c = u; omega))
  by_cases e3 : j < q
  · rw [if_pos e3] at h3 ⊢; exact h3
  · rw [if_neg e3, if_pos (by omega)] at h3
    rw [if_neg e3]; exact h3
