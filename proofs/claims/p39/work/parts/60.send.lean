theorem bh_bd {F : Fl} {u t : Int} (hF : FW F) : 0 ≤ bhF F u t ∧ (0 ≤ u → bhF F u t ≤ u) := by
  have h := lsI_bd (p := fun f => decide (F.2 f 1 < u) && exB F t f) F.1.toNat
  have h0 := hF.1
  unfold bhF lsF
  split
  · exact ⟨by omega, fun z => z⟩
  · next e =>
    have hp := h.2.2 (by omega)
    simp only [Bool.and_eq_true, decide_eq_true_eq] at hp
    have hf := hF.2.2 (lsI (fun f => decide (F.2 f 1 < u) && exB F t f) F.1.toNat) (by omega) (by omega)
    exact ⟨by omega, fun _ => by omega⟩
theorem fs_bd {F : Fl} {u t : Int} (hF : FW F) : -1 ≤ fsF F u t ∧ fsF F u t < F.1 ∧ (0 ≤ fsF F u t → u ≤ F.2 (fsF F u t) 1 ∧ exB F t (fsF F u t) = true) := by
  have h := frI_bd (p := fun f => decide (u ≤ F.2 f 1) && exB F t f) F.1.toNat
  have h0 := hF.1
  unfold fsF
  refine ⟨h.1, by omega, fun e => ?_⟩
  have hp := h.2.2 e
  simp only [Bool.and_eq_true, decide_eq_true_eq] at hp
  exact hp
/-- what is sent for a request, and what is left of its holes -/
def entF (F : Fl) (n : Int) (H : Iv) : Fr := if 0 ≤ fsF F (lb H 0) n ∧ F.2 (fsF F (lb H 0) n) 1 ≤ le_ H 0 then (2, fsF F (lb H 0) n, bhF F (F.2 (fsF F (lb H 0) n) 1) n, F.2 (fsF F (lb H 0) n) 1) else (2, -1, bhF F (lb H 0) n, le_ H 0)
def bytF (f : Int) (H : Iv) : Fr := (1, f, lb H 0, min (le_ H 0) (lb H 0 + 15))
def sndF (F : Fl) (n : Int) (r : Rq) : Fr := if rfl_ r = -1 then entF F n (rho r) else bytF (rfl_ r) (rho r)
def sndH (F : Fl) (n : Int) (r : Rq) : Iv := cutL (rho r) (sndF F n r).2.2.2
/-- the part of a satellite that sending sees -/
def inSn (t q c : Nat) : Prop := inRq q c ∨ c = t + 28 ∨ c = t + 29
set_option maxHeartbeats 4000000 in
theorem X6_sendBytes {t b : Nat} {σ : ms_T} {f : Int} {H : Iv} {Q : mq_T} (hS : SaS σ t) (hb : IvC σ b H) (hbd : ¬ inIv b (t + 28)) (hk : ok H) (hH1 : 1 ≤ ln H) (hQ : ∀ τ, Sm σ τ (fun c => inIv b c ∨ c = t + 28) → FrC τ (t + 28) (bytF f H) 0 → IvC τ b (cutL H (bytF f H).2.2.2) → Q none τ) : Ca n_X6_sendBytes [vR (some t), vI f, vR (some b)] σ Q := by
  obtain ⟨⟨k1, k2, k3, k4, k5, k6, k7, k8, k9⟩, k10, k11⟩ := hS
  have hb' := hb
  obtain ⟨⟨s0, r0, r1, s1, s2⟩, hn, hbb, hee⟩ := hb
  have g := hk.2 0 (by omega) (by omega)
  refine vc_X6_sendBytes _ _ _ _ _ ?_
  simp only [k1, k5, k8, s0, r0, r1, s1, s2, isS_some, true_and]
  rw [hbb 0 (by omega) (by omega), hee 0 (by omega) (by omega), wr_i (x := lb H 0 + 16) (by omega), wr_i (x := lb H 0 + 16 - 1) (by omega), show lb H 0 + 16 - 1 = lb H 0 + 15 by omega]
  refine ⟨by omega, by omega, by omega, by omega, X1_fill k8 (fun τ hs hF => ⟨rfl, ?_⟩)⟩
  have hb2 := hb'.sm hs (fun c hc z => hbd (by rw [← z]; exact hc))
  simp only [hb2.1.1, isS_some, true_and]
  refine X2_cutFirst hb2 hk (by omega) (by omega) (fun τ2 hs2 hL => ⟨rfl, hQ τ2 ((hs.wk fun c hc => Or.inr hc).tr (hs2.wk fun c hc => Or.inl hc)) (hF.sm hs2 hbd) hL⟩)
set_option maxHeartbeats 8000000 in
theorem X6_sendEntry {t b : Nat} {σ : ms_T} {n : Int} {F : Fl} {H : Iv} {Q : mq_T} (hS : SaS σ t) (h6 : gi σ t 6 = n) (hF : FlC σ 2 F) (hFW : FW F) (ht7 : 7 ≤ t) (hb : IvC σ b H) (hbd : ¬ inIv b (t + 28)) (hk : ok H) (hH1 : 1 ≤ ln H) (hQ : ∀ τ, Sm σ τ (fun c => inIv b c ∨ c = t + 28) → FrC τ (t + 28) (entF F n H) 0 → IvC τ b (cutL H (entF F n H).2.2.2) → Q none τ) : Ca n_X6_sendEntry [vR (some t), vR (some b)] σ Q := by
  obtain ⟨⟨k1, k2, k3, k4, k5, k6, k7, k8, k9⟩, k10, k11⟩ := hS
  have hb' := hb
  obtain ⟨⟨s0, r0, r1, s1, s2⟩, hn, hbb, hee⟩ := hb
  have hF' := hF
  obtain ⟨⟨f0, -, -, -, fr3, -, -, -, f4⟩, hfn, hfb⟩ := hF
  have g := hk.2 0 (by omega) (by omega)
  have hfs := fs_bd (u := lb H 0) (t := n) hFW
  have hF1 := hFW.2.1
  have hempty : (¬ (0 ≤ fsF F (lb H 0) n ∧ F.2 (fsF F (lb H 0) n) 1 ≤ le_ H 0)) → entF F n H = (2, -1, bhF F (lb H 0) n, le_ H 0) := fun z => by unfold entF; rw [if_neg z]
  have hfull : (0 ≤ fsF F (lb H 0) n ∧ F.2 (fsF F (lb H 0) n) 1 ≤ le_ H 0) → entF F n H = (2, fsF F (lb H 0) n, bhF F (F.2 (fsF F (lb H 0) n) 1) n, F.2 (fsF F (lb H 0) n) 1) := fun z => by unfold entF; rw [if_pos z]
  have fin : ∀ (a e : Int) (x : Int), entF F n H = (2, x, a, e) → -1 ≤ e → e ≤ 2000000000 → Ca n_X1_fill [vR (some (t + 28)), vI 2, vI x, vI a, vI e] σ fun v14 τ15 => v14 = none ∧ isS (some b) fun c16 => gs τ15 c16 = (2, 0) ∧ Ca n_X2_cutFirst [vR (some c16), vI e] τ15 fun v17 τ18 => v17 = none ∧ Q none τ18 := by
    intro a e x hx he1 he2
    refine X1_fill k8 (fun τ hs hFr => ⟨rfl, ?_⟩)
    have hb2 := hb'.sm hs (fun c hc z => hbd (by rw [← z]; exact hc))
    simp only [hb2.1.1, isS_some, true_and]
    rw [hx] at hQ
    refine X2_cutFirst hb2 hk he1 he2 (fun τ2 hs2 hL => ⟨rfl, hQ τ2 ((hs.wk fun c hc => Or.inr hc).tr (hs2.wk fun c hc => Or.inl hc)) (hFr.sm hs2 hbd) hL⟩)
  refine vc_X6_sendEntry _ _ _ _ ?_
  simp only [k1, k2, h6, f0, s0, r0, r1, s1, s2, isS_some, true_and]
  rw [hbb 0 (by omega) (by omega), hee 0 (by omega) (by omega)]
  refine ⟨by omega, by omega, by omega, by omega, X0_firstStoredFrom hF' hFW ⟨_, rfl, fun c => ?_, fun c => ?_⟩⟩
  · simp only [k1, k2, k5, h6, f0, isS_some, true_and]
    have hbh := bh_bd (F := F) (u := lb H 0) (t := n) hFW
    have hbh2 := hbh.2 g.1
    refine X0_lastStoringBefore hF' hFW ⟨_, rfl, ?_⟩
    simp only [k8, isS_some, true_and]
    rw [wr_i (by omega), show bhF F (lb H 0) n - 1 + 1 = bhF F (lb H 0) n by omega]
    exact fin _ _ _ (hempty (by omega)) (by omega) (by omega)
  · have hff := hfb (fsF F (lb H 0) n) (by omega) hfs.2.1
    have hfw := hFW.2.2 (fsF F (lb H 0) n) (by omega) hfs.2.1
    simp only [k1, k2, k5, h6, f0, fr3, f4, hff.2.2.2, isS_some, true_and]
    refine ⟨by omega, by omega, fun d => ?_, fun d => ⟨by omega, by omega, ?_⟩⟩
    · have hbh := bh_bd (F := F) (u := lb H 0) (t := n) hFW
      have hbh2 := hbh.2 g.1
      refine X0_lastStoringBefore hF' hFW ⟨_, rfl, ?_⟩
      simp only [k8, isS_some, true_and]
      rw [wr_i (by omega), show bhF F (lb H 0) n - 1 + 1 = bhF F (lb H 0) n by omega]
      exact fin _ _ _ (hempty (by omega)) (by omega) (by omega)
    · have hbh := bh_bd (F := F) (u := F.2 (fsF F (lb H 0) n) 1) (t := n) hFW
      have hbh2 := hbh.2 hfw.2.1.1
      refine X0_lastStoringBefore hF' hFW ⟨_, rfl, ?_⟩
      simp only [k8, isS_some, true_and]
      rw [wr_i (by omega), show bhF F (F.2 (fsF F (lb H 0) n) 1) n - 1 + 1 = bhF F (F.2 (fsF F (lb H 0) n) 1) n by omega]
      exact fin _ _ _ (hfull (by omega)) (by omega) (by omega)
def lf0 (S : Sa) (r : Rq) : Int := if rle r = 0 then 1 + sc (sts S (rst r)) 3 else rle r
def sndR (F : Fl) (S : Sa) (r : Rq) : Rq := (rst r, rfl_ r, sndH F (now S) r, lf0 S r - 1)
/-- sending for the request at place i -/
def sndS (F : Fl) (S : Sa) (i : Int) : Sa := (now S, nst S, sts S, stQ (que S) i (sndR F S (qg (que S) i)), if rfl_ (qg (que S) i) = -1 then up (tot S) 1 (wr (tot S 1 + 1)) else up (tot S) 0 (wr (tot S 0 + 1)))
def inTk (t c : Nat) : Prop := inQu (t + 2) c ∨ c = t + 28 ∨ c = t + 29
set_option maxHeartbeats 8000000 in
theorem X6_send {t : Nat} {σ : ms_T} {S : Sa} {F : Fl} {i : Int} {p : Int → Nat} {Q : mq_T} (h : SaC σ t S) (hw : SaW F S) (hp : QuP σ (t + 2) (que S) p) (hF : FlC σ 2 F) (hFW : FW F) (ht7 : 7 ≤ t) (h0 : 0 ≤ i) (hi : i < ql (que S)) (hQ : ∀ τ, Sm σ τ (inTk t) → SaC τ t (sndS F S i) → FrC τ (t + 28) (sndF F (now S) (qg (que S) i)) 0 → Q none τ) : Ca n_X6_send [vR (some t), vR (some (t + 2 + 2 + 4 * p i))] σ Q := by
  have h' := h
  obtain ⟨⟨⟨k1, k2, k3, k4, k5, k6, k7, k8, k9⟩, k10, k11⟩, e6, e2, hst, hq, ht⟩ := h
  have hn5 := hw.1.2
  have hq6 := hw.2.2.2.1
  have hp' := hp
  obtain ⟨-, -, -, q6, q7, q8, q9⟩ := hp
  have hplt := (q6 i h0 (by omega)).2
  have hr := q9 i h0 hi
  have hrw := hw.2.2.2.2.1 i h0 hi
  have hsw := hw.2.2.1 _ hrw.1.1 hrw.1.2
  generalize hrd : qg (que S) i = r at *
  generalize hqd : t + 2 + 2 + 4 * p i = q at *
  have hqin : ∀ c, inRq q c → inQu (t + 2) c := fun c hc => by unfold inRq at hc; unfold inQu; omega
  have hq28 : ¬ inIv (q + 1) (t + 28) := by unfold inIv; omega
  -- from the place where the turn is known
  have h25 : ∀ (υ : ms_T), Sm σ υ (fun c => c = q) → gi υ q 0 = rst r → gi υ q 1 = rfl_ r → gi υ q 2 = lf0 S r → At n_X6_send 25 [some (vR (some t)), some (vR (some q))] [] υ Q := by
    intro υ hs g0 g1 g2
    have hlf : 1 ≤ lf0 S r ∧ lf0 S r ≤ 3 := by
      have := hrw.2.2.2.2.2
      have := hsw.1.2.2.2.1
      unfold lf0
      split <;> omega
    have hs1 : Sm σ (sI υ q 2 (wr (lf0 S r - 1))) (fun c => c = q) := hs.st rfl
    have t0 : gs (sI υ q 2 (wr (lf0 S r - 1))) q = (4, 0) := by rw [hs1.s]; exact hr.1.1
    have hne : ¬ t = q := by omega
    refine vd_X6_send_25 _ _ _ _ ?_
    have u0 : gs υ q = (4, 0) := by rw [hs.s]; exact hr.1.1
    simp only [u0, g2, t0, isS_some, true_and]
    rw [wr_i (x := lf0 S r - 1) (by omega)] at *
    generalize hυ : sI υ q 2 (lf0 S r - 1) = υ1 at *
    have g0' : gi υ1 q 0 = rst r := by rw [← hυ, gi_nk (by omega)]; exact g0
    have g1' : gi υ1 q 1 = rfl_ r := by rw [← hυ, gi_nk (by omega)]; exact g1
    have g2' : gi υ1 q 2 = lf0 S r - 1 := by rw [← hυ, gi_eq]
    have hS1 : SaS υ1 t := h'.1.ag (hs1.ag fun c hc z => hc.2 (hqin c (by rw [z]; unfold inRq; omega)))
    have hiv1 : IvC υ1 (q + 1) (rho r) := hr.2.2.sm hs1 fun c hc => by unfold inIv at hc; omega
    have hF1 : FlC υ1 2 F := hF.sm hs1 fun c hc => by unfold inF at hc; omega
    have h61 : gi υ1 t 6 = now S := by rw [hs1.i hne]; exact e6
    have r31 : gr υ1 q 3 = some (q + 1) := by rw [hs1.r]; exact hr.1.2.1
    have hR1 : RqC υ1 q (rst r, rfl_ r, rho r, lf0 S r - 1) := ⟨hr.1.sm hs1, ⟨g0', g1', g2'⟩, hiv1⟩
    -- behind the frame
    have done : ∀ (τ : ms_T) (w : Int), Sm υ1 τ (fun c => inIv (q + 1) c ∨ c = t + 28) → FrC τ (t + 28) (sndF F (now S) r) 0 → IvC τ (q + 1) (sndH F (now S) r) → 0 ≤ w → w < 5 → (if rfl_ r = -1 then up (tot S) 1 (wr (tot S 1 + 1)) else up (tot S) 0 (wr (tot S 0 + 1))) = up (tot S) w (wr (tot S w + 1)) → gi τ (t + 29) w.toNat = tot S w ∧ gs τ t = (6, 0) ∧ gr τ t 5 = some (t + 29) ∧ gs τ (t + 29) = (50, 5) ∧ Q none (sI τ (t + 29) w.toNat (wr (tot S w + 1))) := by
      intro τ w hs2 hFr hL w0 w5 hup
      have hall : Sm σ τ (fun c => inRq q c ∨ c = t + 28) := (hs1.wk fun c hc => Or.inl (by unfold inRq; omega)).tr (hs2.wk fun c hc => by
        rcases hc with hc | hc
        · exact Or.inl (by unfold inIv at hc; unfold inRq; omega)
        · exact Or.inr hc)
      have n29 : ¬ (inRq q (t + 29) ∨ t + 29 = t + 28) := by unfold inRq; omega
      refine ⟨by rw [hall.i n29]; exact ht w w0 w5, by rw [hall.s]; exact k1, by rw [hall.r]; exact k6, by rw [hall.s]; exact k9, ?_⟩
      have hsplit : QuP τ (t + 2) (stQ (que S) i (sndR F S r)) p := by
        have hR2 : RqC υ1 q (rst r, rfl_ r, rho r, lf0 S r - 1) := hR1
        have hm : QuP υ1 (t + 2) (stQ (que S) i (rst r, rfl_ r, rho r, lf0 S r - 1)) p := hp'.rq h0 hi (by rw [hqd]; exact hs1.wk fun c hc => by unfold inRq; omega) (by rw [hqd]; exact hR2)
        -- the frame's cell does not belong to the queue: go by agreement
        obtain ⟨⟨a1, a2, a3⟩, a4, a5, a6, a7, a8, a9⟩ := hm
        have nIn : ∀ c, inQu (t + 2) c → ¬ inRq q c → ¬ (inIv (q + 1) c ∨ c = t + 28) := fun c hc hn => by
          unfold inQu at hc
          unfold inRq at hn
          unfold inIv
          omega
        have nu : ¬ (inIv (q + 1) (t + 2) ∨ t + 2 = t + 28) := by unfold inIv; omega
        refine ⟨⟨by rw [hs2.s]; exact a1, by rw [hs2.r]; exact a2, by rw [hs2.s]; exact a3⟩, by rw [hs2.i nu, a4, ql_st, ql_st], by rw [ql_st]; rw [ql_st] at a5; exact a5, fun k b0 b1 => by rw [hs2.r]; exact a6 k b0 b1, a7, fun j hj => (a8 j hj).sm hs2, fun k b0 b1 => ?_⟩
        rw [ql_st] at b1
        rw [qg_st h0 hi b0]
        by_cases e : k = i
        · rw [if_pos e, e, hqd]
          have nq : ¬ (inIv (q + 1) q ∨ q = t + 28) := by unfold inIv; omega
          exact ⟨hR1.1.sm hs2, ⟨by rw [hs2.i nq]; exact g0', by rw [hs2.i nq]; exact g1', by rw [hs2.i nq]; exact g2'⟩, hL⟩
        · rw [if_neg e]
          have hx := a9 k b0 (by rw [ql_st]; exact b1)
          rw [qg_st h0 hi b0, if_neg e] at hx
          refine hx.ag (hs2.ag fun c hc => ?_)
          have n1 : ¬ p k = p i := fun z => e (q7 k i b0 (by omega) h0 (by omega) z)
          have n2 := (q6 k b0 (by omega)).2
          unfold inRq at hc
          unfold inIv
          omega
      have hSa : SaC τ t (now S, nst S, sts S, stQ (que S) i (sndR F S r), tot S) := by
        have hag : Ag σ τ (fun c => inSa t c ∧ ¬ inQu (t + 2) c ∧ ¬ c = t + 28) := hall.ag fun c hc z => by
          rcases z with z | z
          · exact hc.2.1 (hqin c z)
          · exact hc.2.2 z
        have gt : inSa t t ∧ ¬ inQu (t + 2) t ∧ ¬ t = t + 28 := by unfold inSa inQu; omega
        have g3 : inSa t (t + 29) ∧ ¬ inQu (t + 2) (t + 29) ∧ ¬ t + 29 = t + 28 := by unfold inSa inQu; omega
        refine ⟨⟨⟨by rw [hall.s]; exact k1, by rw [hall.r]; exact k2, by rw [hall.r]; exact k3, by rw [hall.r]; exact k4, by rw [hall.r]; exact k5, by rw [hall.r]; exact k6, by rw [hall.s]; exact k7, by rw [hall.s]; exact k8, by rw [hall.s]; exact k9⟩, fun i a b => by rw [hall.r]; exact k10 i a b, fun j a b => ⟨(k11 j a b).1.sm hall, by rw [hag.i (c := sa t j) (by unfold inSa inQu sa; omega)]; exact (k11 j a b).2⟩⟩, by rw [hag.i gt]; exact e6, by rw [hag.i gt]; exact e2, fun j a b => (hst j a b).ag (hag.wk fun c hc => ?_), ⟨p, hsplit⟩, fun w a b => by rw [hag.i g3]; exact ht w a b⟩
        have b' : j < nst S := b
        unfold inSt sa at hc
        unfold inSa inQu
        omega
      have hfin := hSa.toU (w := w) (v := wr (tot S w + 1)) hn5 w0
      refine hQ _ ((hall.wk fun c hc => ?_).st (Or.inr (Or.inr rfl))) ?_ (hFr.sm Sm.one (by omega))
      · rcases hc with hc | hc
        · exact Or.inl (hqin c hc)
        · exact Or.inr (Or.inl hc)
      · unfold sndS
        rw [hrd, hup]
        exact hfin
    refine X4_isForDirectory hR1 (fun d => ⟨1, rfl, fun z => absurd z (by decide), fun _ => ?_⟩) (fun d => ⟨0, rfl, fun _ => ?_, fun z => absurd rfl z⟩)
    · have d' : rfl_ r = -1 := d
      simp only [t0, hS1.1.1, r31, isS_some, true_and]
      have hsf : sndF F (now S) r = entF F (now S) (rho r) := by unfold sndF; rw [if_pos d']
      refine X6_sendEntry hS1 h61 hF1 hFW ht7 hiv1 hq28 hrw.2.2.1 hrw.2.2.2.1.1 (fun τ hs2 hFr hL => ⟨rfl, ?_⟩)
      obtain ⟨z1, z2, z3, z4, z5⟩ := done τ 1 hs2 (by rw [hsf]; exact hFr) (by unfold sndH; rw [hsf]; exact hL) (by omega) (by omega) (by rw [if_pos d'])
      simp only [z1, z2, z3, z4, isS_some, true_and]
      exact ⟨by decide, by decide, by decide, by decide, z5⟩
    · have d' : ¬ rfl_ r = -1 := d
      simp only [t0, hS1.1.1, r31, g1', isS_some, true_and]
      have hsf : sndF F (now S) r = bytF (rfl_ r) (rho r) := by unfold sndF; rw [if_neg d']
      refine X6_sendBytes hS1 hiv1 hq28 hrw.2.2.1 hrw.2.2.2.1.1 (fun τ hs2 hFr hL => ⟨rfl, ?_⟩)
      obtain ⟨z1, z2, z3, z4, z5⟩ := done τ 0 hs2 (by rw [hsf]; exact hFr) (by unfold sndH; rw [hsf]; exact hL) (by omega) (by omega) (by rw [if_neg d'])
      simp only [z1, z2, z3, z4, isS_some, true_and]
      exact ⟨by decide, by decide, by decide, by decide, z5⟩
  have hSt := hst _ hrw.1.1 hrw.1.2
  have hb1 := hrw.1
  refine vd_X6_send _ _ _ _ ?_
  simp only [k1, k3, k7, hr.1.1, hr.2.1.1, hr.2.1.2.2, k10 _ hrw.1.1 (show rst r < 5 by omega), hSt.1.1, hSt.2.1.2.2.2.2.1, isS_some, true_and]
  refine ⟨fun c => h25 σ Sm.rf hr.2.1.1 hr.2.1.2.1 ?_, fun c => ⟨by decide, by decide, hrw.1.1, by omega, h25 _ Sm.one ?_ ?_ ?_⟩⟩
  · unfold lf0
    rw [if_neg c]
    exact hr.2.1.2.2
  · rw [gi_nk (by omega)]; exact hr.2.1.1
  · rw [gi_nk (by omega)]; exact hr.2.1.2.1
  · have := hsw.1.2.2.2.1
    rw [gi_eq, wr_i (by omega)]
    unfold lf0
    rw [if_pos (by omega)]
