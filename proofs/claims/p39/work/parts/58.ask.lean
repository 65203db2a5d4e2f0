theorem st_app {Q : List Rq} {r r' : Rq} : stQ (Q ++ [r]) (ql Q) r' = Q ++ [r'] := by
  unfold stQ ql
  simp
theorem ok_tk {H : Iv} {n m : Int} (h0 : 0 ≤ n) (h : n ≤ ln H) (h12 : n ≤ 12) (hm : m ≤ 4000000) (hh : ∀ j, 0 ≤ j → j < ln H → 0 ≤ lb H j ∧ lb H j ≤ le_ H j ∧ le_ H j ≤ m ∧ (j + 1 < ln H → le_ H j + 2 ≤ lb H (j + 1))) : ok (tkL n H) := by
  have e := ln_tk h0 h
  refine ⟨by omega, fun i a b => ?_⟩
  rw [e] at b ⊢
  rw [lb_tk a b, le_tk a b]
  have g := hh i a (by omega)
  refine ⟨g.1, g.2.1, by omega, fun z => ?_⟩
  rw [lb_tk (by omega) z]
  exact g.2.2.2 (by omega)
theorem hh_mono {H : Iv} {m : Int} (hh : ∀ j, 0 ≤ j → j < ln H → 0 ≤ lb H j ∧ lb H j ≤ le_ H j ∧ le_ H j ≤ m ∧ (j + 1 < ln H → le_ H j + 2 ≤ lb H (j + 1))) : ∀ (k : Nat) {i j : Int}, 0 ≤ i → i < j → j - i = k → j < ln H → le_ H i + 2 ≤ lb H j := by
  intro k
  induction k with
  | zero => intro i j h0 h1 h2; omega
  | succ k ih =>
    intro i j h0 h1 h2 h3
    have a := (hh i h0 (by omega)).2.2.2 (by omega)
    by_cases e : i + 1 = j
    · rw [← e]; exact a
    · have b := ih (i := i + 1) (j := j) (by omega) (by omega) (by omega) h3
      have c := (hh (i + 1) (by omega) (by omega)).2.1
      omega
theorem tk_add {H : Iv} {n m : Int} (h0 : 0 ≤ n) (h : n < ln H) (h12 : n < 12) (hm : m ≤ 4000000) (hh : ∀ j, 0 ≤ j → j < ln H → 0 ≤ lb H j ∧ lb H j ≤ le_ H j ∧ le_ H j ≤ m ∧ (j + 1 < ln H → le_ H j + 2 ≤ lb H (j + 1))) : addL (tkL n H) (lb H n) (le_ H n) = tkL (n + 1) H := by
  have e := ln_tk (n := n) (L := H) h0 (by omega)
  rw [tk_s h0 h]
  refine (add_app (ok_tk h0 (by omega) (by omega) hm hh) (hh n h0 h).2.1 (by omega) (fun i a b => ?_)).1
  rw [e] at b
  rw [le_tk a b]
  exact hh_mono hh (n - i).toNat a b (by omega) h
set_option maxHeartbeats 8000000 in
theorem X6_putFirstHoles {t b : Nat} {σ : ms_T} {S : Sa} {i f lim : Int} {L : Iv} {Q : mq_T} (h : SaC σ t S) (hq6 : ql (que S) ≤ 6) (hb : IvC σ b L) (hbd : ∀ c, inIv b c → ¬ inQu (t + 2) c) (hk : ok L) (hl0 : -1 ≤ lim) (hl1 : lim ≤ 4000000) (h3 : 6 ≤ ql (que S) → Q (some (vI (-3))) σ) (h1 : ql (que S) < 6 → ∀ τ, Sm σ τ (inQu (t + 2)) → QuC τ (t + 2) (que S ++ [(i, f, tkL (min (ln (holesL L lim)) 4) (holesL L lim), 0)]) → Q (some (vI (ql (que S) + 1))) τ) : Ca n_X6_putFirstHoles [vR (some t), vI i, vI f, vR (some b), vI lim] σ Q := by
  obtain ⟨⟨⟨k1, k2, k3, k4, k5, k6, k7, k8, k9⟩, k10, k11⟩, e6, e2, hst, hq, ht⟩ := h
  have hq' := hq
  obtain ⟨p0, ⟨q1, q2, q3⟩, -⟩ := hq
  have hh := (ok_holes hk hl1).2
  have hh13 := (ok_holes hk hl1).1
  have hHn := ln_nn (holesL L lim)
  generalize hHd : holesL L lim = H at *
  refine vc_X6_putFirstHoles _ _ _ _ _ _ _ ?_
  simp only [k1, k4, q1, isS_some, true_and]
  refine X3_put hq' (fun z => ⟨_, rfl, fun y => absurd rfl y, fun _ => h3 z⟩) (fun z τ p hs hp => ⟨_, rfl, fun _ => ?_, fun y => (by cases y)⟩)
  have hnn := ql_nn (que S)
  -- the walk over the holes
  have key : ∀ (k : Nat) (j : Int) (y : Option mv_T) (υ : ms_T), 0 ≤ j → j ≤ min (ln H) 4 → min (ln H) 4 - j < k → Sm σ υ (inQu (t + 2)) → QuP υ (t + 2) (que S ++ [(i, f, tkL j H, 0)]) p → At n_X6_putFirstHoles 35 [some (vR (some t)), some (vI i), some (vI f), some (vR (some b)), some (vI lim), some (vR (some (t + 2 + 2 + 4 * p (ql (que S))))), some (vI (min (ln H) 4)), some (vI j), y] [] υ Q := by
    intro k
    induction k with
    | zero => intro j y υ a0 a1 a2; omega
    | succ k ih =>
      intro j y υ a0 a1 a2 hs hp
      have t1 : gs υ t = (6, 0) := by rw [hs.s]; exact k1
      have t2 : gr υ t 3 = some (t + 2) := by rw [hs.r]; exact k4
      have hbL := hb.sm hs hbd
      have hp' := hp
      obtain ⟨⟨u1, u2, u3⟩, u4, u5, u6, u7, u8, u9⟩ := hp
      rw [ql_app] at u4 u5
      refine vc_X6_putFirstHoles_35 _ _ _ _ _ _ _ _ _ _ _ ?_
      simp only [t1, t2, u1, u4, hbL.1.1, isS_some, true_and]
      refine ⟨fun c => ?_, fun c => ?_⟩
      · have ej : j = min (ln H) 4 := by omega
        rw [ej] at hp'
        exact h1 z υ hs ⟨p, hp'⟩
      · have hr := u9 (ql (que S)) hnn (by rw [ql_app]; omega)
        rw [qg_app' rfl] at hr
        obtain ⟨⟨r0, r3, riv⟩, ⟨g0, g1, g2⟩, gL⟩ := hr
        rw [wr_i (x := 2 * j) (by omega), wr_i (x := 2 * j + 1) (by omega), wr_i (x := j + 1) (by omega)]
        refine X2_holeNumber hbL hk hl0 hl1 (by omega) (by omega) ⟨_, rfl, ?_⟩
        simp only [r0, hbL.1.1, isS_some, true_and]
        refine X2_holeNumber hbL hk hl0 hl1 (by omega) (by omega) ⟨_, rfl, ?_⟩
        simp only [r3, riv.1, isS_some, true_and]
        rw [hHd]
        have n1 : numL H (2 * j) = lb H j := by
          unfold numL
          rw [if_neg (by omega), if_pos (by omega), td2 (by omega), tm2 (by omega), if_pos (by omega), show 2 * j / 2 = j by omega]
        have n2 : numL H (2 * j + 1) = le_ H j := by
          unfold numL
          rw [if_neg (by omega), if_pos (by omega), td2 (by omega), tm2 (by omega), if_neg (by omega), show (2 * j + 1) / 2 = j by omega]
        rw [n1, n2]
        have gj := hh j a0 (by omega)
        refine X2_add gL (ok_tk a0 (by omega) (by omega) hl1 hh) gj.1 gj.2.1 (by omega) (fun τ2 hs2 hL2 => ⟨_, rfl, ?_⟩)
        have e1 : addL (rho (i, f, tkL j H, 0)) (lb H j) (le_ H j) = tkL (j + 1) H := tk_add a0 (by omega) (by omega) hl1 hh
        rw [e1] at hL2
        have hlt := (u6 (ql (que S)) hnn (by omega)).2
        have hsr : Sm υ τ2 (inRq (t + 2 + 2 + 4 * p (ql (que S)))) := hs2.wk fun c hc => by unfold inIv at hc; unfold inRq; omega
        have hP := hp'.rq (i := ql (que S)) (r := (i, f, tkL (j + 1) H, 0)) hnn (by rw [ql_app]; omega) hsr ⟨⟨by rw [hs2.s]; exact r0, by rw [hs2.r]; exact r3, riv.sm hs2⟩, ?_, hL2⟩
        · rw [st_app] at hP
          exact ih (j + 1) _ τ2 (by omega) (by omega) (by omega) (hs.tr (hsr.wk fun c hc => by unfold inRq at hc; unfold inQu; omega)) hP
        · have hni : ¬ inIv (t + 2 + 2 + 4 * p (ql (que S)) + 1) (t + 2 + 2 + 4 * p (ql (que S))) := by unfold inIv; omega
          rw [hs2.i hni, hs2.i hni, hs2.i hni]
          exact ⟨g0, g1, g2⟩
  have hbL := hb.sm hs hbd
  simp only [hbL.1.1, isS_some, true_and]
  refine X2_holeNumber hbL hk hl0 hl1 (by omega) (by omega) ⟨_, rfl, ?_⟩
  rw [hHd]
  have n0 : numL H (-1) = ln H := by unfold numL; rw [if_pos rfl]
  rw [n0]
  exact key 6 0 _ τ (by omega) (by omega) (by omega) hs (by rw [tk_0]; exact hp)
def putS (S : Sa) (i f : Int) (H : Iv) : Sa := (now S, nst S, sts S, que S ++ [(i, f, H, 0)], tot S)
def dirH (S : Sa) (i : Int) : Iv := holesL (cov (sts S i)) (now S)
def filH (F : Fl) (S : Sa) (i f : Int) : Iv := holesL (ol (sts S i) (opl (sts S i) f)) (F.2 f 0 - 1)
def fst4 (H : Iv) : Iv := tkL (min (ln H) 4) H
theorem Qu_Sa {t c : Nat} (h : inQu (t + 2) c) : inSa t c := by unfold inQu at h; unfold inSa; omega
set_option maxHeartbeats 4000000 in
theorem X6_askDirectory {t : Nat} {σ : ms_T} {S : Sa} {F : Fl} {i : Int} {Q : mq_T} (h : SaC σ t S) (hw : SaW F S) (hn : now S ≤ 2000000) (h0 : 0 ≤ i) (hi : i < nst S) (h2 : ¬ (mayP S i ∧ 0 < ln (dirH S i)) → Q (some (vI (-2))) σ) (h3 : mayP S i → 0 < ln (dirH S i) → 6 ≤ ql (que S) → Q (some (vI (-3))) σ) (h1 : mayP S i → 0 < ln (dirH S i) → ql (que S) < 6 → ∀ τ, Sm σ τ (inQu (t + 2)) → SaC τ t (putS S i (-1) (fst4 (dirH S i))) → Q (some (vI (ql (que S) + 1))) τ) : Ca n_X6_askDirectory [vR (some t), vI i] σ Q := by
  have h' := h
  obtain ⟨⟨⟨k1, k2, k3, k4, k5, k6, k7, k8, k9⟩, k10, k11⟩, e6, e2, hst, hq, ht⟩ := h
  have hS := hst i h0 hi
  have hSW := hw.2.2.1 i h0 hi
  have hn0 := hw.2.1
  have hn5 := hw.1.2
  obtain ⟨⟨s0, r7, -⟩, -, hcv, -⟩ := hS
  refine vc_X6_askDirectory _ _ _ _ ?_
  simp only [k1, k3, k7, k10 i h0 (by omega), s0, isS_some, true_and]
  refine ⟨by decide, by decide, h0, by omega, X6_mayAsk h' hw hn h0 hi (fun c => ⟨1, rfl, fun z => absurd z (by decide), fun _ => ?_⟩) (fun c => ⟨0, rfl, fun _ => h2 fun z => c z.1, fun z => absurd rfl z⟩)⟩
  simp only [k1, r7, hcv.1.1, e6, isS_some, true_and]
  refine X2_holeNumber hcv hSW.2.1 (by omega) (by omega) (by omega) (by omega) ⟨_, rfl, fun z => ?_, fun z => ?_⟩
  · have n0 : numL (holesL (cov (sts S i)) (now S)) (-1) = ln (dirH S i) := by unfold numL dirH; rw [if_pos rfl]
    rw [n0] at z
    have hp : 0 < ln (dirH S i) := by have := ln_nn (dirH S i); omega
    simp only [k1, e6, isS_some, true_and]
    refine X6_putFirstHoles h' hw.2.2.2.1 hcv (fun c hc => by unfold inIv sa at hc; unfold inQu; omega) hSW.2.1 (by omega) (by omega) (fun y => ⟨_, rfl, h3 c hp y⟩) (fun y τ hs hQ => ⟨_, rfl, h1 c hp y τ hs ?_⟩)
    exact h'.quU hn5 hs.q hQ
  · refine h2 fun y => ?_
    have n0 : numL (holesL (cov (sts S i)) (now S)) (-1) = ln (dirH S i) := by unfold numL dirH; rw [if_pos rfl]
    rw [n0] at z
    have := y.2
    omega
def filP (F : Fl) (S : Sa) (i f : Int) : Prop := 0 ≤ opl (sts S i) f ∧ exP F f (now S) ∧ ¬ sizeL (ol (sts S i) (opl (sts S i) f)) = F.2 f 0 ∧ mayP S i
set_option maxHeartbeats 4000000 in
theorem X6_askFile {t : Nat} {σ : ms_T} {S : Sa} {F : Fl} {i f : Int} {Q : mq_T} (h : SaC σ t S) (hw : SaW F S) (hF : FlC σ 2 F) (hFW : FW F) (ht7 : 7 ≤ t) (hn : now S ≤ 2000000) (h0 : 0 ≤ i) (hi : i < nst S) (hf : 0 ≤ f) (hf2 : f < F.1) (h2 : ¬ filP F S i f → Q (some (vI (-2))) σ) (h3 : filP F S i f → 6 ≤ ql (que S) → Q (some (vI (-3))) σ) (h1 : filP F S i f → ql (que S) < 6 → ∀ τ, Sm σ τ (inQu (t + 2)) → SaC τ t (putS S i f (fst4 (filH F S i f))) → Q (some (vI (ql (que S) + 1))) τ) : Ca n_X6_askFile [vR (some t), vI i, vI f] σ Q := by
  have h' := h
  obtain ⟨⟨⟨k1, k2, k3, k4, k5, k6, k7, k8, k9⟩, k10, k11⟩, e6, e2, hst, hq, ht⟩ := h
  have hS := hst i h0 hi
  have hSW := hw.2.2.1 i h0 hi
  have hn0 := hw.2.1
  have hn5 := hw.1.2
  have hb := opl_bd (sts S i) f
  have hFW1 := hFW.2.1
  have hfl := hFW.2.2 f hf hf2
  have hF' := hF
  obtain ⟨⟨f0, fr0, -, -, -, f1, -⟩, hfn, hfb⟩ := hF
  refine vc_X6_askFile _ _ _ _ _ ?_
  simp only [k1, k3, k7, k10 i h0 (by omega), hS.1.1, isS_some, true_and]
  refine ⟨by decide, by decide, h0, by omega, X7_bytesOf hS (fun c1 c2 => ⟨_, rfl, fun z => (by cases z), fun _ => ?_⟩) (fun c => ⟨_, rfl, fun _ => h2 fun z => ?_, fun z => absurd rfl z⟩)⟩
  · have hL := (hS.2.2.2.1 _ c1 hb.2.1).2
    have hok := (hSW.2.2.1 _ c1 hb.2.1).2.2.1
    simp only [k1, k2, f0, e6, isS_some, true_and]
    refine X0_exists hF' hFW (fun d => ⟨1, rfl, fun z => absurd z (by decide), fun _ => ?_⟩) (fun d => ⟨0, rfl, fun _ => h2 fun z => d z.2.1, fun z => absurd rfl z⟩)
    simp only [k1, isS_some, true_and]
    refine X6_isComplete h' hw hF' hFW h0 hi hf hf2 (fun e => ⟨1, rfl, fun _ => h2 fun z => z.2.2.1 e.2.2, fun z => absurd (show ¬ (1 : Int) = 0 by decide) z⟩) (fun e => ⟨0, rfl, fun z => absurd rfl z, fun _ => ?_⟩)
    simp only [k1, isS_some, true_and]
    refine X6_mayAsk h' hw hn h0 hi (fun g => ⟨1, rfl, fun _ => ?_, fun z => absurd (show ¬ (1 : Int) = 0 by decide) z⟩) (fun g => ⟨0, rfl, fun z => absurd rfl z, fun _ => h2 fun z => g z.2.2.2⟩)
    have hp : filP F S i f := ⟨c1, d, fun z => e ⟨c1, c2, z⟩, g⟩
    simp only [k1, k2, f0, fr0, f1, (hfb f hf hf2).1, isS_some, true_and]
    rw [wr_i (x := F.2 f 0 - 1) (by omega)]
    refine ⟨hf, by omega, X6_putFirstHoles h' hw.2.2.2.1 hL (fun c hc => by unfold inIv sa at hc; unfold inQu; omega) hok (by omega) (by omega) (fun y => ⟨_, rfl, h3 hp y⟩) (fun y τ hs hQ => ⟨_, rfl, h1 hp y τ hs ?_⟩)⟩
    exact h'.quU hn5 hs.q hQ
  · rcases c with c | c
    · have := z.1; omega
    · omega
def hoP (F : Fl) (S : Sa) (i f : Int) (H : Iv) : Prop := (f = -1 ∨ exP F f (now S)) ∧ ¬ (if f = -1 then now S else F.2 f 0 - 1) < le_ H (ln H - 1) ∧ mayP S i
set_option maxHeartbeats 4000000 in
theorem X6_askHoles {t b : Nat} {σ : ms_T} {S : Sa} {F : Fl} {i f : Int} {H : Iv} {Q : mq_T} (h : SaC σ t S) (hw : SaW F S) (hF : FlC σ 2 F) (hFW : FW F) (ht7 : 7 ≤ t) (hb : IvC σ b H) (hbd : ∀ c, inIv b c → ¬ inQu (t + 2) c) (hk : ok H) (hH1 : 1 ≤ ln H) (hn : now S ≤ 2000000) (h0 : 0 ≤ i) (hi : i < nst S) (hf : -1 ≤ f) (h2 : ¬ hoP F S i f H → Q (some (vI (-2))) σ) (h3 : hoP F S i f H → 6 ≤ ql (que S) → Q (some (vI (-3))) σ) (h1 : hoP F S i f H → ql (que S) < 6 → ∀ τ, Sm σ τ (inQu (t + 2)) → SaC τ t (putS S i f H) → Q (some (vI (ql (que S) + 1))) τ) : Ca n_X6_askHoles [vR (some t), vI i, vI f, vR (some b)] σ Q := by
  have h' := h
  obtain ⟨⟨⟨k1, k2, k3, k4, k5, k6, k7, k8, k9⟩, k10, k11⟩, e6, e2, hst, hq, ht⟩ := h
  have hn5 := hw.1.2
  have hq6 := hw.2.2.2.1
  have hF' := hF
  have hH12 := hk.1
  have hnn := ql_nn (que S)
  obtain ⟨⟨f0, fr0, -, -, -, f1, -⟩, hfn, hfb⟩ := hF
  have hq' := hq
  obtain ⟨p0, ⟨q1, q2, q3⟩, -⟩ := hq
  have h46 : ∀ s0 : Int, (f = -1 ∨ exP F f (now S)) → s0 = (if f = -1 then now S else F.2 f 0 - 1) → At n_X6_askHoles 46 [some (vR (some t)), some (vI i), some (vI f), some (vR (some b)), none, none, none] [vI s0] σ Q := by
    intro s0 hex hs0
    unfold hoP at h1 h2 h3
    rw [← hs0] at h1 h2 h3
    refine vc_X6_askHoles_46 _ _ _ _ _ _ _ ?_
    simp only [hb.1.1, hb.2.1, isS_some, true_and]
    rw [wr_i (x := 2 * ln H) (by omega), wr_i (x := 2 * ln H - 1) (by omega)]
    refine X2_number hb hk (by omega) (by omega) ⟨_, rfl, ?_⟩
    have hnum : numL H (2 * ln H - 1) = le_ H (ln H - 1) := by
      unfold numL
      rw [if_neg (by omega), if_pos (by omega), td2 (by omega), tm2 (by omega), if_neg (by omega), show (2 * ln H - 1) / 2 = ln H - 1 by omega]
    rw [hnum]
    refine ⟨fun c => h2 fun z => z.2.1 c, fun c => ⟨k1, X6_mayAsk h' hw hn h0 hi (fun d => ⟨1, rfl, fun _ => ?_, fun z => absurd (show ¬ (1 : Int) = 0 by decide) z⟩) (fun d => ⟨0, rfl, fun z => absurd rfl z, fun _ => h2 fun z => d z.2.2⟩)⟩⟩
    simp only [k1, k4, q1, isS_some, true_and]
    refine X3_put hq' (fun y => ⟨_, rfl, fun z => absurd rfl z, fun _ => h3 ⟨hex, c, d⟩ y⟩) (fun y τ p hs hp => ⟨_, rfl, fun _ => ?_, fun z => (by cases z)⟩)
    have hp' := hp
    obtain ⟨⟨u1, u2, u3⟩, u4, u5, u6, u7, u8, u9⟩ := hp
    have hr := u9 (ql (que S)) hnn (by rw [ql_app]; omega)
    rw [qg_app' rfl] at hr
    obtain ⟨⟨r0, r3, riv⟩, ⟨g0, g1, g2⟩, gL⟩ := hr
    simp only [r0, r3, riv.1, isS_some, true_and]
    have hlt := (u6 (ql (que S)) hnn (by omega)).2
    have hbn : ∀ c, inIv b c → ¬ inQu (t + 2) c := hbd
    have hdis : t + 2 + 2 + 4 * p (ql (que S)) + 1 + 2 < b ∨ b + 2 < t + 2 + 2 + 4 * p (ql (que S)) + 1 := by
      have a1 := hbn b ⟨by omega, by omega⟩
      have a2 := hbn (b + 2) ⟨by omega, by omega⟩
      unfold inQu at a1 a2
      omega
    refine X2_copyFrom riv (hb.sm hs hbd) hH12 hdis (fun τ2 hs2 hL2 => ⟨rfl, ?_⟩)
    have hni : ¬ inIv (t + 2 + 2 + 4 * p (ql (que S)) + 1) (t + 2 + 2 + 4 * p (ql (que S))) := by unfold inIv; omega
    have hsr : Sm τ τ2 (inRq (t + 2 + 2 + 4 * p (ql (que S)))) := hs2.wk fun c hc => by unfold inIv at hc; unfold inRq; omega
    have hP := hp'.rq (i := ql (que S)) (r := (i, f, H, 0)) hnn (by rw [ql_app]; omega) hsr ⟨⟨by rw [hs2.s]; exact r0, by rw [hs2.r]; exact r3, riv.sm hs2⟩, by rw [hs2.i hni, hs2.i hni, hs2.i hni]; exact ⟨g0, g1, g2⟩, hL2⟩
    rw [st_app] at hP
    have hall : Sm σ τ2 (inQu (t + 2)) := hs.tr (hsr.wk fun c hc => by unfold inRq at hc; unfold inQu; omega)
    have t1 : gs τ2 t = (6, 0) := by rw [hall.s]; exact k1
    have t2 : gr τ2 t 3 = some (t + 2) := by rw [hall.r]; exact k4
    have hP' := hP
    obtain ⟨⟨v1, v2, v3⟩, v4, -⟩ := hP
    rw [ql_app] at v4
    simp only [t1, t2, v1, v4, isS_some, true_and]
    exact h1 ⟨hex, c, d⟩ y τ2 hall (h'.quU hn5 hall.q ⟨p, hP'⟩)
  refine vc_X6_askHoles _ _ _ _ _ _ ?_
  simp only [k1, k2, f0, e6, isS_some, true_and]
  refine ⟨fun c => ⟨fun d => absurd c d, fun _ => h46 _ (Or.inl c) (by rw [if_pos c])⟩, fun c => ?_⟩
  refine X0_exists hF' hFW (fun d => ⟨1, rfl, fun _ => ⟨fun _ => ?_, fun z => absurd c z⟩, fun z => absurd (show ¬ (1 : Int) = 0 by decide) z⟩) (fun d => ⟨0, rfl, fun z => absurd rfl z, fun _ => h2 fun z => ?_⟩)
  · have hf2 := d.2.1
    have hfl := hFW.2.2 f d.1 hf2
    have := hFW.2.1
    simp only [k1, k2, f0, fr0, f1, (hfb f d.1 hf2).1, isS_some, true_and]
    rw [wr_i (x := F.2 f 0 - 1) (by omega)]
    exact ⟨d.1, by omega, h46 _ (Or.inr d) (by rw [if_neg c])⟩
  · rcases z.1 with z | z
    · exact c z
    · exact d z
