theorem wtQ_filter {F : Fl} {p : Rq → Bool} (hF : FW F) : ∀ {Q : List Rq}, (∀ r ∈ Q, ok (rho r)) → wtQ F (Q.filter p) ≤ wtQ F Q
  | [], _ => Int.le_refl _
  | r :: Q, h => by
    have h1 := wtR_nn hF (h r List.mem_cons_self)
    have h2 := wtQ_filter (p := p) hF (fun x hx => h x (List.mem_cons_of_mem _ hx)) (Q := Q)
    rw [List.filter_cons]
    split
    · show wtR F r + wtQ F (Q.filter p) ≤ wtR F r + wtQ F Q
      omega
    · show wtQ F (Q.filter p) ≤ wtR F r + wtQ F Q
      omega
theorem wtQ_set {F : Fl} {r d : Rq} : ∀ (Q : List Rq) (k : Nat), k < Q.length → wtQ F (Q.set k r) + wtR F (Q.getD k d) = wtQ F Q + wtR F r
  | [], k, h => absurd h (by simp)
  | a :: Q, 0, h => by
    show wtR F r + wtQ F Q + wtR F a = wtR F a + wtQ F Q + wtR F r
    omega
  | a :: Q, k + 1, h => by
    have := wtQ_set (F := F) (r := r) (d := d) Q k (by simpa using h)
    show wtR F a + wtQ F (Q.set k r) + wtR F (Q.getD k d) = wtR F a + wtQ F Q + wtR F r
    omega
theorem wtQ_erase {F : Fl} {d : Rq} : ∀ (Q : List Rq) (k : Nat), k < Q.length → wtQ F (Q.eraseIdx k) + wtR F (Q.getD k d) = wtQ F Q
  | [], k, h => absurd h (by simp)
  | a :: Q, 0, h => by
    show wtQ F Q + wtR F a = wtR F a + wtQ F Q
    omega
  | a :: Q, k + 1, h => by
    have := wtQ_erase (F := F) (d := d) Q k (by simpa using h)
    show wtR F a + wtQ F (Q.eraseIdx k) + wtR F (Q.getD k d) = wtR F a + wtQ F Q
    omega
theorem wt_tic {F : Fl} {S : Sa} (hF : FW F) (hw : SaW F S) : ql (que (ticS F S)) ≤ 0 ∨ wtQ F (que (ticS F S)) + 1 ≤ wtQ F (que S) := by
  have hwD := SaW_drp hw
  have hpb := pt_bd (que (drpS F S))
  have hnn := ql_nn (que (drpS F S))
  have okS : ∀ r ∈ que S, ok (rho r) := all_iff.mp fun k k0 k1 => (hw.2.2.2.2.1 k k0 k1).2.2.1
  have hd : wtQ F (que (drpS F S)) ≤ wtQ F (que S) := wtQ_filter hF okS
  by_cases c : ptQ (que (drpS F S)) < 0
  · left
    have e : que (ticS F S) = que (drpS F S) := by
      show que (tkS3 F S) = _
      unfold tkS3
      rw [if_pos c]
      show que (tkS1 F S) = _
      unfold tkS1
      rw [if_pos c]
      rfl
    rw [e]
    unfold ptQ at c
    have ht := trQ_bd (que (drpS F S))
    by_cases a : 0 ≤ trQ (que (drpS F S))
    · rw [if_pos a] at c; omega
    · rw [if_neg a] at c
      by_cases b : 0 ≤ diQ (que (drpS F S))
      · rw [if_pos b] at c; omega
      · rw [if_neg b] at c
        by_cases x : 0 < ql (que (drpS F S))
        · rw [if_pos x] at c; omega
        · omega
  · right
    have p0 : 0 ≤ ptQ (que (drpS F S)) := by omega
    have p1 : ptQ (que (drpS F S)) < ql (que (drpS F S)) := by omega
    have e1 : que (tkS2 F S) = stQ (que (drpS F S)) (ptQ (que (drpS F S))) (sndR F (drpS F S) (qg (que (drpS F S)) (ptQ (que (drpS F S))))) := by
      show que (tkS1 F S) = _
      unfold tkS1
      rw [if_neg c]
      rfl
    have hs := wt_snd hF (hwD.2.2.2.2.1 _ p0 p1)
    have e2 : que (ticS F S) = que (setS (tkS2 F S) (ptQ (que (drpS F S)))) := by
      show que (tkS3 F S) = _
      unfold tkS3
      rw [if_neg c]
    generalize ptQ (que (drpS F S)) = p at *
    have hp : p.toNat < (que (drpS F S)).length := by unfold ql at p1; omega
    have w1 := wtQ_set (F := F) (r := sndR F (drpS F S) (qg (que (drpS F S)) p)) (d := (0, 0, [], 0)) (que (drpS F S)) p.toNat hp
    have w1 : wtQ F (que (tkS2 F S)) + wtR F (qg (que (drpS F S)) p) = wtQ F (que (drpS F S)) + wtR F (sndR F (drpS F S) (qg (que (drpS F S)) p)) := by rw [e1]; exact w1
    have hp2 : p.toNat < (que (tkS2 F S)).length := by rw [e1]; unfold stQ; rw [List.length_set]; exact hp
    have w2 := wtQ_erase (F := F) (d := (0, 0, [], 0)) (que (tkS2 F S)) p.toNat hp2
    have eg : qg (que (tkS2 F S)) p = sndR F (drpS F S) (qg (que (drpS F S)) p) := by rw [e1, qg_st p0 p1 p0, if_pos rfl]
    have w2 : wtQ F (rmQ (que (tkS2 F S)) p) + wtR F (qg (que (tkS2 F S)) p) = wtQ F (que (tkS2 F S)) := w2
    rw [e2]
    unfold setS
    split
    · next z =>
      have z0 : wtR F (qg (que (tkS2 F S)) p) = 0 := by unfold wtR; rw [if_pos (by omega)]
      show wtQ F (rmQ (que (tkS2 F S)) p) + 1 ≤ _
      omega
    · split
      · show wtQ F (mvQ (que (tkS2 F S)) p) + 1 ≤ _
        unfold mvQ
        rw [wtQ_app]
        show wtQ F (rmQ (que (tkS2 F S)) p) + (wtR F (qg (que (tkS2 F S)) p) + 0) + 1 ≤ _
        omega
      · omega
