section M
variable {σ : ms_T} {m : Nat} {F : Fl} {S : Sa} {K : Int → Int} {n : Int} {T : Int → Int} {Q : mq_T}
theorem X9_storedFrom1 {a : Int} (hm : isM σ m) (hr : FiR (ro σ m) F) (ht : ro σ m 0 = now S) (hF : FW F) (hQ : Q (some (vI (fsF F a (now S)))) σ) : Ca n_X9_storedFrom [vR (some m), vI a, vI 1] σ Q := by
  obtain ⟨s0, g0, g1, g2, g4, g5, g11, z1, z2, z3, z4, z5, z6⟩ := id hm
  have e2 : gi σ (m + 1) (2 : Int).toNat = F.1 := hr.1
  have f0 := hF.1
  have f30 := hF.2.1
  have key : ∀ (k : Nat) (j : Int) (o : Option mv_T), 0 ≤ j → j ≤ F.1 → F.1 - j < k → At n_X9_storedFrom 5 [some (vR (some m)), some (vI a), some (vI 1), some (vI (frI (fun f => decide (a ≤ F.2 f 1) && exB F (now S) f) j.toNat)), some (vI j), o] [] σ Q := by
    intro k
    induction k with
    | zero => intro j o h0 h1 h2; omega
    | succ k ih =>
      intro j o h0 h1 h2
      have hss := frI_s (p := fun f => decide (a ≤ F.2 f 1) && exB F (now S) f) h0
      have hbd := frI_bd (p := fun f => decide (a ≤ F.2 f 1) && exB F (now S) f) j.toNat
      refine vc_X9_storedFrom_5 _ _ _ _ _ _ _ _ ?_
      simp only [s0, g0, z1, e2, isS_some, true_and]
      refine ⟨by decide, by decide, fun e => ?_, fun e => ?_⟩
      · have : j = F.1 := by omega
        rw [this]; exact hQ
      · have no : ¬ ((decide (a ≤ F.2 j 1) && exB F (now S) j) = true) ∨ 0 ≤ frI (fun f => decide (a ≤ F.2 f 1) && exB F (now S) f) j.toNat → At n_X9_storedFrom 63 [some (vR (some m)), some (vI a), some (vI 1), some (vI (frI (fun f => decide (a ≤ F.2 f 1) && exB F (now S) f) j.toNat)), some (vI j), o] [vI (0 : Int)] σ Q := fun z => by
          refine vc_X9_storedFrom_63 _ _ _ _ _ _ _ _ _ ⟨fun _ => ?_, fun z => absurd rfl z⟩
          have hh := ih (j + 1) (some (vI 0)) (by omega) (by omega) (by omega)
          rw [wr_i (by omega)]
          rw [hss] at hh
          by_cases y : 0 ≤ frI (fun f => decide (a ≤ F.2 f 1) && exB F (now S) f) j.toNat
          · rw [if_pos y] at hh; exact hh
          · have z := z.resolve_right y
            rw [if_neg y, if_neg z] at hh
            rw [show frI (fun f => decide (a ≤ F.2 f 1) && exB F (now S) f) j.toNat = -1 by omega]
            exact hh
        have yes : ((decide (a ≤ F.2 j 1) && exB F (now S) j) = true) → ¬ 0 ≤ frI (fun f => decide (a ≤ F.2 f 1) && exB F (now S) f) j.toNat → At n_X9_storedFrom 63 [some (vR (some m)), some (vI a), some (vI 1), some (vI (frI (fun f => decide (a ≤ F.2 f 1) && exB F (now S) f) j.toNat)), some (vI j), o] [vI (1 : Int)] σ Q := fun z y => by
          refine vc_X9_storedFrom_63 _ _ _ _ _ _ _ _ _ ⟨fun z => absurd z (by decide), fun _ => ?_⟩
          have hh := ih (j + 1) (some (vI 1)) (by omega) (by omega) (by omega)
          rw [wr_i (by omega)]
          rw [hss, if_neg y, if_pos z] at hh
          exact hh
        refine X9_exists hm hr ht hF ⟨h0, by omega⟩ (fun x => ⟨1, rfl, fun z => absurd z (by decide), fun _ => ⟨fun z => absurd z (by decide), fun _ => ⟨s0, X9_file hm h0 (by omega) (by decide) (by decide) ⟨_, rfl, ?_⟩⟩⟩⟩) (fun x => ⟨0, rfl, fun _ => no (Or.inl (by simp [x])), fun z => absurd rfl z⟩)
        rw [hr.2 j h0 (by omega) 1 (by decide) (by decide)]
        exact ⟨fun y => no (Or.inl (by simp; omega)), fun y => ⟨fun y2 => no (Or.inr y2), fun y2 => yes (by simp [x]; omega) y2⟩⟩
  exact vc_X9_storedFrom _ _ _ _ _ (key (F.1 + 1).toNat 0 none (by omega) f0 (by omega))
theorem X9_storedFrom0 {a : Int} (hm : isM σ m) (hr : FiR (ro σ m) F) (ht : ro σ m 0 = now S) (hF : FW F) (hQ : Q (some (vI (lsF F a (now S)))) σ) : Ca n_X9_storedFrom [vR (some m), vI a, vI 0] σ Q := by
  obtain ⟨s0, g0, g1, g2, g4, g5, g11, z1, z2, z3, z4, z5, z6⟩ := id hm
  have e2 : gi σ (m + 1) (2 : Int).toNat = F.1 := hr.1
  have f0 := hF.1
  have f30 := hF.2.1
  have key : ∀ (k : Nat) (j : Int) (o : Option mv_T), 0 ≤ j → j ≤ F.1 → F.1 - j < k → At n_X9_storedFrom 5 [some (vR (some m)), some (vI a), some (vI 0), some (vI (lsI (fun f => decide (F.2 f 1 < a) && exB F (now S) f) j.toNat)), some (vI j), o] [] σ Q := by
    intro k
    induction k with
    | zero => intro j o h0 h1 h2; omega
    | succ k ih =>
      intro j o h0 h1 h2
      have hss := lsI_s (p := fun f => decide (F.2 f 1 < a) && exB F (now S) f) h0
      refine vc_X9_storedFrom_5 _ _ _ _ _ _ _ _ ?_
      simp only [s0, g0, z1, e2, isS_some, true_and]
      refine ⟨by decide, by decide, fun e => ?_, fun e => ?_⟩
      · have : j = F.1 := by omega
        rw [this]; exact hQ
      · have no : ¬ ((decide (F.2 j 1 < a) && exB F (now S) j) = true) → At n_X9_storedFrom 63 [some (vR (some m)), some (vI a), some (vI 0), some (vI (lsI (fun f => decide (F.2 f 1 < a) && exB F (now S) f) j.toNat)), some (vI j), o] [vI (0 : Int)] σ Q := fun z => by
          refine vc_X9_storedFrom_63 _ _ _ _ _ _ _ _ _ ⟨fun _ => ?_, fun z => absurd rfl z⟩
          have hh := ih (j + 1) (some (vI 0)) (by omega) (by omega) (by omega)
          rw [wr_i (by omega)]
          rw [hss, if_neg z] at hh
          exact hh
        have yes : ((decide (F.2 j 1 < a) && exB F (now S) j) = true) → At n_X9_storedFrom 63 [some (vR (some m)), some (vI a), some (vI 0), some (vI (lsI (fun f => decide (F.2 f 1 < a) && exB F (now S) f) j.toNat)), some (vI j), o] [vI (1 : Int)] σ Q := fun z => by
          refine vc_X9_storedFrom_63 _ _ _ _ _ _ _ _ _ ⟨fun z => absurd z (by decide), fun _ => ?_⟩
          have hh := ih (j + 1) (some (vI 1)) (by omega) (by omega) (by omega)
          rw [wr_i (by omega)]
          rw [hss, if_pos z] at hh
          exact hh
        refine X9_exists hm hr ht hF ⟨h0, by omega⟩ (fun x => ⟨1, rfl, fun z => absurd z (by decide), fun _ => ⟨fun _ => ⟨s0, X9_file hm h0 (by omega) (by decide) (by decide) ⟨_, rfl, ?_⟩⟩, fun z => absurd trivial z⟩⟩) (fun x => ⟨0, rfl, fun _ => no (by simp [x]), fun z => absurd rfl z⟩)
        rw [hr.2 j h0 (by omega) 1 (by decide) (by decide)]
        exact ⟨fun y => no (by simp; omega), fun y => yes (by simp [x]; omega)⟩
  exact vc_X9_storedFrom _ _ _ _ _ (key (F.1 + 1).toNat 0 none (by omega) f0 (by omega))
theorem X9_behind {a : Int} (hm : isM σ m) (hr : FiR (ro σ m) F) (ht : ro σ m 0 = now S) (hF : FW F) (hQ : Q (some (vI (bhF F a (now S)))) σ) : Ca n_X9_behind [vR (some m), vI a] σ Q := by
  have b := lsI_bd (p := fun f => decide (F.2 f 1 < a) && exB F (now S) f) F.1.toNat
  have b2 : lsF F a (now S) < ((F.1.toNat : Nat) : Int) := b.2.1
  have f0 := hF.1
  have f30 := hF.2.1
  unfold bhF at hQ
  refine vc_X9_behind _ _ _ _ ⟨hm.1, X9_storedFrom0 hm hr ht hF ⟨_, rfl, fun c => ⟨hm.1, X9_file hm c (by omega) (by decide) (by decide) ⟨_, rfl, ?_⟩⟩, fun c => ?_⟩⟩
  · rw [hr.2 _ c (by omega) 1 (by decide) (by decide)]
    have hb := hF.2.2 _ c (by omega)
    rw [wr_i (by omega)]
    rw [if_neg (by omega)] at hQ; exact hQ
  · rw [if_pos (by omega)] at hQ; exact hQ
theorem rm_app (b : Rq) (B : List Rq) : ∀ A : List Rq, (A ++ b :: B).eraseIdx A.length = A ++ B
  | [] => rfl
  | a :: A => by
    show a :: (A ++ b :: B).eraseIdx A.length = a :: (A ++ B)
    rw [rm_app b B A]
/-- another queue, so many dropped -/
def dqS (S : Sa) (L : List Rq) (v : Int) : Sa := (now S, nst S, sts S, L, up (tot S) 4 v)
set_option maxHeartbeats 8000000 in
theorem M_drops (h : MoC σ m F S K n T) (hF : FW F) (hw : SaW F S) (hn2 : now S ≤ 2000000) (hQ : ∀ τ, Sm σ τ (fun c => c = m + 1) → MoC τ m F (drpS F S) K n T → Q none τ) : Ca n_X9_drops [vR (some m)] σ Q := by
  have hn := hw.1
  have key : ∀ (B A L : List Rq) (v : Int) (o : Option mv_T) (τ : ms_T), L = A ++ B → List.Sublist L (que S) → (que S).filter (kpB F S) = A ++ B.filter (kpB F S) → rg v → wr (v + (ql L - ql ((que S).filter (kpB F S)))) = wr (tot S 4 + (ql (que S) - ql ((que S).filter (kpB F S)))) → Sm σ τ (fun c => c = m + 1) → MoC τ m F (dqS S L v) K n T → At n_X9_drops 2 [some (vR (some m)), some (vI (ql A)), o] [] τ Q := by
    intro B
    induction B with
    | nil =>
      intro A L v o τ hL hsub hfil hv hv2 hs hC
      obtain ⟨s0, g0, g1, g2, g4, g5, g11, z1, z2, z3, z4, z5, z6⟩ := hC.1
      have eL : L = A := by rw [hL, List.append_nil]
      have e3 : gi τ (m + 1) (3 : Int).toNat = ql A := by rw [← eL]; exact hC.2.1.2.1.2.1.1
      refine vd_X9_drops_2 _ _ _ _ _ ?_
      simp only [s0, g0, z1, e3, isS_some, true_and]
      refine ⟨by decide, by decide, fun _ => hQ τ hs ?_, fun z => absurd (Int.le_refl _) z⟩
      have ef : (que S).filter (kpB F S) = L := by rw [hfil, eL]; exact List.append_nil A
      rw [ef] at hv2
      have e4 : drpS F S = dqS S L v := by
        unfold drpS dqS
        rw [ef, ← hv2, Int.sub_self, Int.add_zero, wr_i hv]
      rw [e4]
      exact hC
    | cons b B ih =>
      intro A L v o τ hL hsub hfil hv hv2 hs hC
      obtain ⟨s0, g0, g1, g2, g4, g5, g11, z1, z2, z3, z4, z5, z6⟩ := hC.1
      obtain ⟨w1, w2, w3, w4, w5⟩ := SaW_iff.mp hw
      have hwL : SaW F (dqS S L v) := SaW_iff.mpr ⟨w1, w2, w3, QuW_sub w4 hsub, rg_up w5 hv⟩
      have hqL : ql L = ql A + 1 + ql B := by rw [hL]; unfold ql; simp; omega
      have hA0 := ql_nn A
      have hB0 := ql_nn B
      have h6 : ql L ≤ 6 := hwL.2.2.2.1
      have egb : qg L (ql A) = b := by
        have := qg_get (Q := L) (k := A.length) (by unfold ql at hqL; omega)
        show qg L (A.length : Int) = b
        rw [this]
        simp only [hL]
        simp
      have e3 : gi τ (m + 1) (3 : Int).toNat = ql L := hC.2.1.2.1.2.1.1
      obtain ⟨r1, r2, r3⟩ := hC.2.1.2.1.2.1.2.1 (ql A) hA0 (by show ql A < ql L; omega)
      have r1 : gi τ (m + 1) (qb (ql A)).toNat = rst b := by rw [← egb]; exact r1
      have r2 : gi τ (m + 1) (qb (ql A) + 1).toNat = rfl_ b := by rw [← egb]; exact r2
      have rw_ := hwL.2.2.2.2.1 (ql A) hA0 (by show ql A < ql L; omega)
      have rw_ : RqW F (dqS S L v) b := by rw [← egb]; exact rw_
      obtain ⟨rs, rf, -⟩ := rw_
      have rs : 0 ≤ rst b ∧ rst b < nst S := rs
      have e0 : gi τ (m + 1) (0 : Int).toNat = now S := hC.2.1.2.1.1.1
      have hq : qb (ql A) = 136 + 11 * ql A := rfl
      have keep : kpB F S b = true → At n_X9_drops 80 [some (vR (some m)), some (vI (wr (ql A + 1))), some (vI (rfl_ b))] [] τ Q := fun y => by
        refine vd_X9_drops_80 _ _ _ _ _ ?_
        rw [wr_i (by omega), show ql A + 1 = ql (A ++ [b]) by rw [ql_app]]
        refine ih (A ++ [b]) L v _ τ (by rw [hL]; simp) hsub ?_ hv hv2 hs hC
        rw [hfil, List.filter_cons, if_pos y]
        simp
      have drop : ¬ kpB F S b = true → At n_X9_drops 58 [some (vR (some m)), some (vI (ql A)), some (vI (rfl_ b))] [] τ Q := fun y => by
        refine vd_X9_drops_58 _ _ _ _ _ ⟨s0, X9_removes hC.1 hC.2.1.2.1.2.1 h6 (MoC.q4 hwL) hA0 (by show ql A < ql L; omega) fun υ hs2 hq2 t1 t2 he => ⟨rfl, ?_⟩⟩
        have hR2 : MoR (ro υ m) F (quS (dqS S L v) (rmQ L (ql A))) K := hC.2.1.que hF hwL hq2 (fun z => by have := t1 z; rw [this.2]; exact hC.2.1.2.2.1 this.1) he
        have hh := hC.row hs2 (fun c hc => Or.inl hc) hR2
        obtain ⟨s0, g0, g1, g2, g4, g5, g11, z1, z2, z3, z4, z5, z6⟩ := hh.2.1
        have e15 : gi υ (m + 1) (15 : Int).toNat = v := (hR2.2.1.2.2.2.2 4 (by decide) (by decide)).trans (show up (tot S) 4 v 4 = v from up_eq)
        simp only [s0, g0, z1, e15, isS_some, true_and]
        refine ⟨by decide, by decide, by decide, by decide, vd_X9_drops_80 _ _ _ _ _ ?_⟩
        have eR : rmQ L (ql A) = A ++ B := by
          rw [hL]
          unfold rmQ ql
          rw [Int.toNat_natCast]
          exact rm_app b B A
        have hsub2 : List.Sublist (A ++ B) (que S) := by rw [← eR]; exact (List.eraseIdx_sublist _ _).trans hsub
        have hqAB : ql (A ++ B) = ql L - 1 := by rw [hqL]; unfold ql; simp; omega
        refine ih A (A ++ B) (wr (v + 1)) _ _ rfl hsub2 ?_ (rg_wr _) ?_ ((hs.tr hs2).st rfl) ?_
        · rw [hfil, List.filter_cons, if_neg y]
        · rw [← hv2, hqAB]
          unfold wr
          omega
        · have hs3 : Sm υ (sI υ (m + 1) (15 : Int).toNat (wr (v + 1))) (fun c => c = m + 1) := Sm.one
          have ek : ∀ j, 0 ≤ j → ¬ j = 15 → ro (sI υ (m + 1) (15 : Int).toNat (wr (v + 1))) m j = ro υ m j := fun j j0 j1 => ro_nk j0 (by decide) j1
          have hwq : SaW F (quS (dqS S L v) (rmQ L (ql A))) := SaW_iff.mpr ⟨w1, w2, w3, by show QuW F (nst S) (rmQ L (ql A)); rw [eR]; exact QuW_sub w4 hsub2, rg_up w5 hv⟩
          refine (hh.2.row (F' := F) (K' := K) (S' := dqS S (A ++ B) (wr (v + 1))) hs3 (fun c hc => Or.inl hc) ⟨hR2.1.eqv hF.2.1 (fun j z => ek j (by omega) (by omega)), ⟨⟨(ek 0 (by omega) (by omega)).trans hR2.2.1.1.1, (ek 1 (by omega) (by omega)).trans hR2.2.1.1.2⟩, ?_, fun j a b => (hR2.2.1.2.2.1 j a b).loc (hwq.2.2.1 j a b) fun k k0 k1 => ek k (by unfold sb at k0; omega) (by unfold sb at k0; omega), fun j a b => (hR2.2.1.2.2.2.1 j a b).eqv fun k k0 k1 => ek k (by have a : nst S ≤ j := a; unfold sb at k0; omega) (by have a : nst S ≤ j := a; unfold sb at k0; omega), fun w a b => ?_⟩, by rw [ek 4 (by omega) (by omega), ek 5 (by omega) (by omega)]; exact hR2.2.2.1, fun w a b => (ek _ (by omega) (by omega)).trans (hR2.2.2.2 w a b)⟩).2
          · show QuR _ (A ++ B)
            rw [← eR]
            exact hR2.2.1.2.1.eqv hwq.2.2.2.1 (MoC.q4 hwq) (fun j z => ek j (by omega) (by omega))
          · show _ = up (tot S) 4 (wr (v + 1)) w
            by_cases e5 : w = 4
            · rw [e5, up_eq]; exact ro_eq
            · rw [up_ne e5, ek _ (by omega) (by omega)]
              exact (hR2.2.1.2.2.2.2 w a b).trans (up_ne e5)
      refine vd_X9_drops_2 _ _ _ _ _ ?_
      simp only [s0, g0, z1, e3, isS_some, true_and]
      refine ⟨by decide, by decide, fun z => by omega, fun _ => X9_requestAt hA0 (by omega) ⟨_, rfl, ?_⟩⟩
      rw [wr_i (x := qb (ql A) + 1) (by omega)]
      simp only [s0, g0, z1, r2, isS_some, true_and]
      refine ⟨by omega, by omega, X9_requestAt hA0 (by omega) ⟨_, rfl, ?_⟩⟩
      simp only [s0, g0, z1, r1, e0, isS_some, true_and]
      have hst := hC.2.1.2.1.2.2.1 (rst b) rs.1 rs.2
      have hk : kpB F S b = true ↔ seesP (sts S (rst b)) (now S) ∧ (rfl_ b = -1 ∨ exP F (rfl_ b) (now S)) := kpB_iff
      refine ⟨by omega, by omega, by decide, by decide, X9_isInView hC.1 hst.1 (w3 _ rs.1 rs.2) rs.1 (by omega) w2 hn2 (fun x => ⟨1, rfl, fun z => absurd z (by decide), fun _ => ⟨fun y => keep (hk.mpr ⟨x, Or.inl (by omega)⟩), fun y => ⟨s0, ?_⟩⟩⟩) (fun x => ⟨0, rfl, fun _ => drop fun z => x (hk.mp z).1, fun z => absurd rfl z⟩)⟩
      refine X9_exists (S := S) hC.1 hC.2.1.1 hC.2.1.2.1.1.1 hF ⟨by omega, rf.2⟩ (fun x2 => ⟨1, rfl, fun _ => keep (hk.mpr ⟨x, Or.inr ⟨by omega, rf.2, by unfold exB at x2; simpa using x2⟩⟩), fun z => absurd (show ¬ (1 : Int) = 0 by decide) z⟩) (fun x2 => ⟨0, rfl, fun z => absurd rfl z, fun _ => drop fun z => ?_⟩)
      rcases (hk.mp z).2 with z | z
      · omega
      · exact x2 (by unfold exB; simpa using z.2.2)
  refine vd_X9_drops _ _ _ (key (que S) [] (que S) (tot S 4) none σ rfl (List.Sublist.refl _) rfl (hw.2.2.2.2.2.2.2 4 (by decide) (by decide)) rfl Sm.rf ?_)
  have : dqS S (que S) (tot S 4) = S := by
    unfold dqS
    rw [up_same]
    rfl
  rw [this]
  exact h
end M
