/-! What is refused changes nothing -/
section REF
variable {σ : ms_T} {F : Fl} {S : Sa} {K : Int → Int} {n : Int} {T : Int → Int} {Q : mq_T}
theorem B_addStation {p o d r : Int} (hb : ¬ addP p o d r) (h : ClC σ F S K n T) (hw : StW F S K n T) (hQ : ∀ τ, Sq σ τ inCl → ClC τ F S K n T → Q (some (vI (-1))) τ) : Ca n_X8_addStation [vR (some 1), vI p, vI o, vI d, vI r] σ Q := by
  have e : rAdd S p o d r = (-1, S) := by unfold rAdd; exact cif_n hb
  refine C_addStation h hw fun τ s c => ?_
  rw [e] at c ⊢
  exact hQ τ s c
theorem B_setLoss {i r : Int} (hb : ¬ losP S i r) (h : ClC σ F S K n T) (hw : StW F S K n T) (hQ : ∀ τ, Sq σ τ inCl → ClC τ F S K n T → Q (some (vI (-1))) τ) : Ca n_X8_setLoss [vR (some 1), vI i, vI r] σ Q := by
  have e : rLoss S i r = (-1, S) := by unfold rLoss; exact cif_n hb
  refine C_setLoss h hw fun τ s c => ?_
  rw [e] at c ⊢
  exact hQ τ s c
theorem B_inView {i t : Int} (hb : ¬ askP S i t) (h : ClC σ F S K n T) (hw : StW F S K n T) (hQ : ∀ τ, Sq σ τ inCl → ClC τ F S K n T → Q (some (vI (-1))) τ) : Ca n_X8_inView [vR (some 1), vI i, vI t] σ Q := by
  refine C_inView h hw ?_
  rw [show rInView S i t = -1 by unfold rInView; exact cif_n hb]
  exact hQ σ Sq.rf h
theorem B_nextView {i t : Int} (hb : ¬ askP S i t) (h : ClC σ F S K n T) (hw : StW F S K n T) (hQ : ∀ τ, Sq σ τ inCl → ClC τ F S K n T → Q (some (vI (-1))) τ) : Ca n_X8_nextView [vR (some 1), vI i, vI t] σ Q := by
  refine C_nextView h hw ?_
  rw [show rNext S i t = -1 by unfold rNext; exact cif_n hb]
  exact hQ σ Sq.rf h
theorem B_receives {i t : Int} (hb : ¬ askP S i t) (h : ClC σ F S K n T) (hw : StW F S K n T) (hQ : ∀ τ, Sq σ τ inCl → ClC τ F S K n T → Q (some (vI (-1))) τ) : Ca n_X8_receives [vR (some 1), vI i, vI t] σ Q := by
  refine C_receives h hw ?_
  rw [show rRecv S i t = -1 by unfold rRecv; exact cif_n hb]
  exact hQ σ Sq.rf h
theorem B_store {l s t : Int} (hb : ¬ stoP l s t) (h : ClC σ F S K n T) (hw : StW F S K n T) (hQ : ∀ τ, Sq σ τ inCl → ClC τ F S K n T → Q (some (vI (-1))) τ) : Ca n_X8_store [vR (some 1), vI l, vI s, vI t] σ Q := by
  have e : rStore F (now S) l s t = (-1, F) := by unfold rStore; exact cif_n hb
  refine C_store h hw fun τ s c => ?_
  rw [e] at c ⊢
  exact hQ τ s c
theorem B_fileInfo {f w : Int} (hb : ¬ (filQ F f ∧ 0 ≤ w ∧ w ≤ 3)) (h : ClC σ F S K n T) (hw : StW F S K n T) (hQ : ∀ τ, Sq σ τ inCl → ClC τ F S K n T → Q (some (vI (-1))) τ) : Ca n_X8_fileInfo [vR (some 1), vI f, vI w] σ Q := by
  refine C_fileInfo h hw ?_
  rw [show rInfo F (now S) f w = -1 by unfold rInfo; exact cif_n hb]
  exact hQ σ Sq.rf h
theorem B_fileByte {f k : Int} (hb : ¬ (filQ F f ∧ 0 ≤ k)) (h : ClC σ F S K n T) (hw : StW F S K n T) (hQ : ∀ τ, Sq σ τ inCl → ClC τ F S K n T → Q (some (vI (-1))) τ) : Ca n_X8_fileByte [vR (some 1), vI f, vI k] σ Q := by
  refine C_fileByte h hw ?_
  rw [show rByte F f k = -1 by unfold rByte; exact cif_n hb]
  exact hQ σ Sq.rf h
theorem B_directory {i : Int} (hb : ¬ stnP S i) (h : ClC σ F S K n T) (hw : StW F S K n T) (hQ : ∀ τ, Sq σ τ inCl → ClC τ F S K n T → Q (some (vI (-1))) τ) : Ca n_X8_directory [vR (some 1), vI i] σ Q := by
  refine C_directory h hw ?_
  rw [show rDir S i = -1 by unfold rDir; exact cif_n hb]
  exact hQ σ Sq.rf h
theorem B_unknownFiles {i : Int} (hb : ¬ stnP S i) (h : ClC σ F S K n T) (hw : StW F S K n T) (hQ : ∀ τ, Sq σ τ inCl → ClC τ F S K n T → Q (some (vI (-1))) τ) : Ca n_X8_unknownFiles [vR (some 1), vI i] σ Q := by
  refine C_unknownFiles h hw ?_
  rw [show rUnk F S i = -1 by unfold rUnk; exact cif_n hb]
  exact hQ σ Sq.rf h
theorem B_covered {i x : Int} (hx : x ≤ 2147483647) (hb : ¬ (stnP S i ∧ -1 ≤ x)) (h : ClC σ F S K n T) (hw : StW F S K n T) (hQ : ∀ τ, Sq σ τ inCl → ClC τ F S K n T → Q (some (vI (-1))) τ) : Ca n_X8_covered [vR (some 1), vI i, vI x] σ Q := by
  refine C_covered h hw hx ?_
  rw [show rCov S i x = -1 by unfold rCov; exact cif_n hb]
  exact hQ σ Sq.rf h
theorem B_timeHole {i x : Int} (hx : x ≤ 2147483647) (hb : ¬ (stnP S i ∧ -1 ≤ x)) (h : ClC σ F S K n T) (hw : StW F S K n T) (hQ : ∀ τ, Sq σ τ inCl → ClC τ F S K n T → Q (some (vI (-1))) τ) : Ca n_X8_timeHole [vR (some 1), vI i, vI x] σ Q := by
  refine C_timeHole h hw hx ?_
  rw [show rTHole S i x = -1 by unfold rTHole; exact cif_n hb]
  exact hQ σ Sq.rf h
theorem B_open {i f : Int} (hb : ¬ stfP F S i f) (h : ClC σ F S K n T) (hw : StW F S K n T) (hQ : ∀ τ, Sq σ τ inCl → ClC τ F S K n T → Q (some (vI (-1))) τ) : Ca n_X8_open [vR (some 1), vI i, vI f] σ Q := by
  have e : rOpen F S i f = (-1, S) := by unfold rOpen; exact cif_n hb
  refine C_open h hw fun τ s c => ?_
  rw [e] at c ⊢
  exact hQ τ s c
theorem B_close {i f : Int} (hb : ¬ stfP F S i f) (h : ClC σ F S K n T) (hw : StW F S K n T) (hQ : ∀ τ, Sq σ τ inCl → ClC τ F S K n T → Q (some (vI (-1))) τ) : Ca n_X8_close [vR (some 1), vI i, vI f] σ Q := by
  have e : rClose F S i f = (-1, S) := by unfold rClose; exact cif_n hb
  refine C_close h hw fun τ s c => ?_
  rw [e] at c ⊢
  exact hQ τ s c
theorem B_receivedBytes {i f : Int} (hb : ¬ stfP F S i f) (h : ClC σ F S K n T) (hw : StW F S K n T) (hQ : ∀ τ, Sq σ τ inCl → ClC τ F S K n T → Q (some (vI (-1))) τ) : Ca n_X8_receivedBytes [vR (some 1), vI i, vI f] σ Q := by
  refine C_receivedBytes h hw ?_
  rw [show rBytes F S i f = -1 by unfold rBytes; exact cif_n hb]
  exact hQ σ Sq.rf h
theorem B_receivedByte {i f k : Int} (hx : k ≤ 2147483647) (hb : ¬ (stfP F S i f ∧ 0 ≤ k)) (h : ClC σ F S K n T) (hw : StW F S K n T) (hQ : ∀ τ, Sq σ τ inCl → ClC τ F S K n T → Q (some (vI (-1))) τ) : Ca n_X8_receivedByte [vR (some 1), vI i, vI f, vI k] σ Q := by
  refine C_receivedByte h hw hx ?_
  rw [show rRByte F S i f k = -1 by unfold rRByte; exact cif_n hb]
  exact hQ σ Sq.rf h
theorem B_byteHole {i f x : Int} (hx : x ≤ 2147483647) (hb : ¬ (stfP F S i f ∧ -1 ≤ x)) (h : ClC σ F S K n T) (hw : StW F S K n T) (hQ : ∀ τ, Sq σ τ inCl → ClC τ F S K n T → Q (some (vI (-1))) τ) : Ca n_X8_byteHole [vR (some 1), vI i, vI f, vI x] σ Q := by
  refine C_byteHole h hw hx ?_
  rw [show rBHole F S i f x = -1 by unfold rBHole; exact cif_n hb]
  exact hQ σ Sq.rf h
theorem B_completeFiles {i : Int} (hb : ¬ stnP S i) (h : ClC σ F S K n T) (hw : StW F S K n T) (hQ : ∀ τ, Sq σ τ inCl → ClC τ F S K n T → Q (some (vI (-1))) τ) : Ca n_X8_completeFiles [vR (some 1), vI i] σ Q := by
  refine C_completeFiles h hw ?_
  rw [show rComp F S i = -1 by unfold rComp; exact cif_n hb]
  exact hQ σ Sq.rf h
theorem B_requestDirectory {i : Int} (hb : ¬ stnP S i) (h : ClC σ F S K n T) (hw : StW F S K n T) (hQ : ∀ τ, Sq σ τ inCl → ClC τ F S K n T → Q (some (vI (-1))) τ) : Ca n_X8_requestDirectory [vR (some 1), vI i] σ Q := by
  have e : rReqD S i = (-1, S) := by unfold rReqD; exact cif_n hb
  refine C_requestDirectory h hw fun τ s c => ?_
  rw [e] at c ⊢
  exact hQ τ s c
theorem B_requestFile {i f : Int} (hb : ¬ stfP F S i f) (h : ClC σ F S K n T) (hw : StW F S K n T) (hQ : ∀ τ, Sq σ τ inCl → ClC τ F S K n T → Q (some (vI (-1))) τ) : Ca n_X8_requestFile [vR (some 1), vI i, vI f] σ Q := by
  have e : rReqF F S i f = (-1, S) := by unfold rReqF; exact cif_n hb
  refine C_requestFile h hw fun τ s c => ?_
  rw [e] at c ⊢
  exact hQ τ s c
theorem B_withdraw {i : Int} (hb : ¬ stnP S i) (h : ClC σ F S K n T) (hw : StW F S K n T) (hQ : ∀ τ, Sq σ τ inCl → ClC τ F S K n T → Q (some (vI (-1))) τ) : Ca n_X8_withdraw [vR (some 1), vI i] σ Q := by
  have e : rWith S i = (-1, S) := by unfold rWith; exact cif_n hb
  refine C_withdraw h hw fun τ s c => ?_
  rw [e] at c ⊢
  exact hQ τ s c
theorem B_queued {p w : Int} (hb : ¬ (0 ≤ p ∧ 0 ≤ w ∧ w ≤ 5)) (h : ClC σ F S K n T) (hw : StW F S K n T) (hQ : ∀ τ, Sq σ τ inCl → ClC τ F S K n T → Q (some (vI (-1))) τ) : Ca n_X8_queued [vR (some 1), vI p, vI w] σ Q := by
  refine C_queued h hw ?_
  rw [show rQued S p w = -1 by unfold rQued; exact cif_n hb]
  exact hQ σ Sq.rf h
theorem B_requestText {i : Int} (hb : ¬ stnP S i) (h : ClC σ F S K n T) (hw : StW F S K n T) (hQ : ∀ τ, Sq σ τ inCl → ClC τ F S K n T → Q (some (vI (-1))) τ) : Ca n_X8_requestText [vR (some 1), vI i] σ Q := by
  have e : rReqT F S n T i = (-1, S) := by unfold rReqT; exact cif_n hb
  refine C_requestText h hw fun τ s c => ?_
  rw [e] at c ⊢
  exact hQ τ s c
theorem B_type {c : Int} (hb : ¬ (32 ≤ c ∧ c ≤ 126)) (h : ClC σ F S K n T) (hw : StW F S K n T) (hQ : ∀ τ, Sq σ τ inCl → ClC τ F S K n T → Q (some (vI (-1))) τ) : Ca n_X8_type [vR (some 1), vI c] σ Q := by
  have e : rType n T c = (-1, n, T) := by unfold rType; exact cif_n hb
  refine C_type h hw fun τ s c => ?_
  rw [e] at c ⊢
  exact hQ τ s c
theorem B_run {k : Int} (hb : ¬ (1 ≤ k ∧ k ≤ 1000)) (h : ClC σ F S K n T) (hw : StW F S K n T) (hQ : ∀ τ, Sq σ τ inCl → ClC τ F S K n T → Q (some (vI (-1))) τ) : Ca n_X8_run [vR (some 1), vI k] σ Q := by
  have e : rRun F S K k = (-1, S, K) := by unfold rRun; exact cif_n hb
  refine C_run h hw fun τ s c => ?_
  rw [e] at c ⊢
  exact hQ τ s c
theorem B_lastFrame {w : Int} (hb : ¬ (0 ≤ w ∧ w ≤ 4)) (h : ClC σ F S K n T) (hw : StW F S K n T) (hQ : ∀ τ, Sq σ τ inCl → ClC τ F S K n T → Q (some (vI (-1))) τ) : Ca n_X8_lastFrame [vR (some 1), vI w] σ Q := by
  refine C_lastFrame h ?_
  rw [show rLast K w = -1 by unfold rLast; exact cif_n hb]
  exact hQ σ Sq.rf h
theorem B_total {w : Int} (hb : ¬ (0 ≤ w ∧ w ≤ 4)) (h : ClC σ F S K n T) (hw : StW F S K n T) (hQ : ∀ τ, Sq σ τ inCl → ClC τ F S K n T → Q (some (vI (-1))) τ) : Ca n_X8_total [vR (some 1), vI w] σ Q := by
  refine C_total h ?_
  rw [show rTot S w = -1 by unfold rTot; exact cif_n hb]
  exact hQ σ Sq.rf h
theorem B_stationTotal {i w : Int} (hb : ¬ (stnP S i ∧ 0 ≤ w ∧ w ≤ 3)) (h : ClC σ F S K n T) (hw : StW F S K n T) (hQ : ∀ τ, Sq σ τ inCl → ClC τ F S K n T → Q (some (vI (-1))) τ) : Ca n_X8_stationTotal [vR (some 1), vI i, vI w] σ Q := by
  refine C_stationTotal h hw ?_
  rw [show rSTot S i w = -1 by unfold rSTot; exact cif_n hb]
  exact hQ σ Sq.rf h
theorem B_ticksToComplete {i f : Int} (hb : ¬ stfP F S i f) (h : ClC σ F S K n T) (hw : StW F S K n T) (hQ : ∀ τ, Sq σ τ inCl → ClC τ F S K n T → Q (some (vI (-1))) τ) : Ca n_X8_ticksToComplete [vR (some 1), vI i, vI f] σ Q := by
  have e : rToC F S i f = -1 := by unfold rToC; exact cif_n hb
  refine C_ticksToComplete h hw fun τ s c => ?_
  rw [e]
  exact hQ τ s c
theorem B_queued4 {p w : Int} (h1 : 0 ≤ p ∧ 0 ≤ w ∧ w ≤ 5) (h2 : ¬ p < ql (que S)) (h : ClC σ F S K n T) (hw : StW F S K n T) (hQ : ∀ τ, Sq σ τ inCl → ClC τ F S K n T → Q (some (vI (-4))) τ) : Ca n_X8_queued [vR (some 1), vI p, vI w] σ Q := by
  refine C_queued h hw ?_
  rw [show rQued S p w = -4 by unfold rQued; rw [cif_p h1, cif_n h2]]
  exact hQ σ Sq.rf h
set_option maxHeartbeats 16000000 in
set_option maxRecDepth 100000 in
theorem L_ref (h0 : ClC σ F S K n T) (hw : StW F S K n T) (hQ : ∀ τ, Sq σ τ inCl → ClC τ F S K n T → Q (some (vI 1)) τ) : Ca n_L_refused [vR (some 1), vI (nst S), vI F.1] σ Q := by
  obtain ⟨d, hd⟩ := L_dig hw
  have hq6 := hw.2.1.2.2.2.1
  refine vc_L_refused _ _ _ _ _ (hd σ _ h0 ⟨d, rfl, gs8 h0, ?_⟩)
  have s0 : Sq σ σ inCl := Sq.rf
  refine B_addStation (fun z => by unfold addP at z; omega) h0 hw fun τ1 t1 h1 => ⟨_, rfl, fun z => absurd rfl z, fun _ => ⟨gs8 h1, ?_⟩⟩
  have s1 := s0.tr t1
  clear s0 t1 h0
  refine B_addStation (fun z => by unfold addP at z; omega) h1 hw fun τ2 t2 h2 => ⟨_, rfl, fun z => absurd rfl z, fun _ => ⟨gs8 h2, ?_⟩⟩
  have s2 := s1.tr t2
  clear s1 t2 h1
  refine B_addStation (fun z => by unfold addP at z; omega) h2 hw fun τ3 t3 h3 => ⟨_, rfl, fun z => absurd rfl z, fun _ => ⟨gs8 h3, ?_⟩⟩
  have s3 := s2.tr t3
  clear s2 t3 h2
  refine B_addStation (fun z => by unfold addP at z; omega) h3 hw fun τ4 t4 h4 => ⟨_, rfl, fun z => absurd rfl z, fun _ => ⟨gs8 h4, ?_⟩⟩
  have s4 := s3.tr t4
  clear s3 t4 h3
  refine B_addStation (fun z => by unfold addP at z; omega) h4 hw fun τ5 t5 h5 => ⟨_, rfl, fun z => absurd rfl z, fun _ => ⟨gs8 h5, ?_⟩⟩
  have s5 := s4.tr t5
  clear s4 t5 h4
  refine B_addStation (fun z => by unfold addP at z; omega) h5 hw fun τ6 t6 h6 => ⟨_, rfl, fun z => absurd rfl z, fun _ => ⟨gs8 h6, ?_⟩⟩
  have s6 := s5.tr t6
  clear s5 t6 h5
  refine B_addStation (fun z => by unfold addP at z; omega) h6 hw fun τ7 t7 h7 => ⟨_, rfl, fun z => absurd rfl z, fun _ => ⟨gs8 h7, ?_⟩⟩
  have s7 := s6.tr t7
  clear s6 t7 h6
  refine B_setLoss (fun z => by unfold losP stnP at z; omega) h7 hw fun τ8 t8 h8 => ⟨_, rfl, fun z => absurd rfl z, fun _ => ⟨gs8 h8, ?_⟩⟩
  have s8 := s7.tr t8
  clear s7 t8 h7
  refine B_setLoss (fun z => by unfold losP stnP at z; omega) h8 hw fun τ9 t9 h9 => ⟨_, rfl, fun z => absurd rfl z, fun _ => ⟨gs8 h9, ?_⟩⟩
  have s9 := s8.tr t9
  clear s8 t9 h8
  refine B_setLoss (fun z => by unfold losP stnP at z; omega) h9 hw fun τ10 t10 h10 => ⟨_, rfl, fun _ => ⟨gs8 h10, ?_⟩, fun z => absurd rfl z⟩
  have s10 := s9.tr t10
  clear s9 t10 h9
  refine B_inView (fun z => by unfold askP stnP at z; omega) h10 hw fun τ11 t11 h11 => ⟨_, rfl, fun z => absurd rfl z, fun _ => ⟨gs8 h11, ?_⟩⟩
  have s11 := s10.tr t11
  clear s10 t11 h10
  refine B_inView (fun z => by unfold askP stnP at z; omega) h11 hw fun τ12 t12 h12 => ⟨_, rfl, fun z => absurd rfl z, fun _ => ⟨gs8 h12, ?_⟩⟩
  have s12 := s11.tr t12
  clear s11 t12 h11
  refine B_inView (fun z => by unfold askP stnP at z; omega) h12 hw fun τ13 t13 h13 => ⟨_, rfl, fun z => absurd rfl z, fun _ => ⟨gs8 h13, ?_⟩⟩
  have s13 := s12.tr t13
  clear s12 t13 h12
  refine B_nextView (fun z => by unfold askP stnP at z; omega) h13 hw fun τ14 t14 h14 => ⟨_, rfl, fun z => absurd rfl z, fun _ => ⟨gs8 h14, ?_⟩⟩
  have s14 := s13.tr t14
  clear s13 t14 h13
  refine B_nextView (fun z => by unfold askP stnP at z; omega) h14 hw fun τ15 t15 h15 => ⟨_, rfl, fun z => absurd rfl z, fun _ => ⟨gs8 h15, ?_⟩⟩
  have s15 := s14.tr t15
  clear s14 t15 h14
  refine B_receives (fun z => by unfold askP stnP at z; omega) h15 hw fun τ16 t16 h16 => ⟨_, rfl, fun z => absurd rfl z, fun _ => ⟨gs8 h16, ?_⟩⟩
  have s16 := s15.tr t16
  clear s15 t16 h15
  refine B_receives (fun z => by unfold askP stnP at z; omega) h16 hw fun τ17 t17 h17 => ⟨_, rfl, fun _ => ⟨gs8 h17, ?_⟩, fun z => absurd rfl z⟩
  have s17 := s16.tr t17
  clear s16 t17 h16
  refine B_store (fun z => by unfold stoP at z; omega) h17 hw fun τ18 t18 h18 => ⟨_, rfl, fun z => absurd rfl z, fun _ => ⟨gs8 h18, ?_⟩⟩
  have s18 := s17.tr t18
  clear s17 t18 h17
  refine B_store (fun z => by unfold stoP at z; omega) h18 hw fun τ19 t19 h19 => ⟨_, rfl, fun z => absurd rfl z, fun _ => ⟨gs8 h19, ?_⟩⟩
  have s19 := s18.tr t19
  clear s18 t19 h18
  refine B_store (fun z => by unfold stoP at z; omega) h19 hw fun τ20 t20 h20 => ⟨_, rfl, fun z => absurd rfl z, fun _ => ⟨gs8 h20, ?_⟩⟩
  have s20 := s19.tr t20
  clear s19 t20 h19
  refine B_store (fun z => by unfold stoP at z; omega) h20 hw fun τ21 t21 h21 => ⟨_, rfl, fun z => absurd rfl z, fun _ => ⟨gs8 h21, ?_⟩⟩
  have s21 := s20.tr t21
  clear s20 t21 h20
  refine B_store (fun z => by unfold stoP at z; omega) h21 hw fun τ22 t22 h22 => ⟨_, rfl, fun z => absurd rfl z, fun _ => ⟨gs8 h22, ?_⟩⟩
  have s22 := s21.tr t22
  clear s21 t22 h21
  refine B_store (fun z => by unfold stoP at z; omega) h22 hw fun τ23 t23 h23 => ⟨_, rfl, fun z => absurd rfl z, fun _ => ⟨gs8 h23, ?_⟩⟩
  have s23 := s22.tr t23
  clear s22 t23 h22
  refine B_fileInfo (fun z => by unfold filQ at z; omega) h23 hw fun τ24 t24 h24 => ⟨_, rfl, fun z => absurd rfl z, fun _ => ⟨gs8 h24, ?_⟩⟩
  have s24 := s23.tr t24
  clear s23 t24 h23
  refine B_fileInfo (fun z => by unfold filQ at z; omega) h24 hw fun τ25 t25 h25 => ⟨_, rfl, fun z => absurd rfl z, fun _ => ⟨gs8 h25, ?_⟩⟩
  have s25 := s24.tr t25
  clear s24 t25 h24
  refine B_fileByte (fun z => by unfold filQ at z; omega) h25 hw fun τ26 t26 h26 => ⟨_, rfl, fun z => absurd rfl z, fun _ => ⟨gs8 h26, ?_⟩⟩
  have s26 := s25.tr t26
  clear s25 t26 h25
  refine B_fileByte (fun z => by unfold filQ at z; omega) h26 hw fun τ27 t27 h27 => ⟨_, rfl, fun _ => ⟨gs8 h27, ?_⟩, fun z => absurd rfl z⟩
  have s27 := s26.tr t27
  clear s26 t27 h26
  refine B_directory (fun z => by unfold stnP at z; omega) h27 hw fun τ28 t28 h28 => ⟨_, rfl, fun z => absurd rfl z, fun _ => ⟨gs8 h28, ?_⟩⟩
  have s28 := s27.tr t28
  clear s27 t28 h27
  refine B_unknownFiles (fun z => by unfold stnP at z; omega) h28 hw fun τ29 t29 h29 => ⟨_, rfl, fun z => absurd rfl z, fun _ => ⟨gs8 h29, ?_⟩⟩
  have s29 := s28.tr t29
  clear s28 t29 h28
  refine B_covered (by decide) (fun z => by unfold stnP at z; omega) h29 hw fun τ30 t30 h30 => ⟨_, rfl, fun z => absurd rfl z, fun _ => ⟨gs8 h30, ?_⟩⟩
  have s30 := s29.tr t30
  clear s29 t30 h29
  refine B_covered (by decide) (fun z => by unfold stnP at z; omega) h30 hw fun τ31 t31 h31 => ⟨_, rfl, fun z => absurd rfl z, fun _ => ⟨gs8 h31, ?_⟩⟩
  have s31 := s30.tr t31
  clear s30 t31 h30
  refine B_timeHole (by decide) (fun z => by unfold stnP at z; omega) h31 hw fun τ32 t32 h32 => ⟨_, rfl, fun z => absurd rfl z, fun _ => ⟨gs8 h32, ?_⟩⟩
  have s32 := s31.tr t32
  clear s31 t32 h31
  refine B_timeHole (by decide) (fun z => by unfold stnP at z; omega) h32 hw fun τ33 t33 h33 => ⟨_, rfl, fun z => absurd rfl z, fun _ => ⟨gs8 h33, ?_⟩⟩
  have s33 := s32.tr t33
  clear s32 t33 h32
  refine B_open (fun z => by unfold stfP stnP filQ at z; omega) h33 hw fun τ34 t34 h34 => ⟨_, rfl, fun z => absurd rfl z, fun _ => ⟨gs8 h34, ?_⟩⟩
  have s34 := s33.tr t34
  clear s33 t34 h33
  refine B_open (fun z => by unfold stfP stnP filQ at z; omega) h34 hw fun τ35 t35 h35 => ⟨_, rfl, fun z => absurd rfl z, fun _ => ⟨gs8 h35, ?_⟩⟩
  have s35 := s34.tr t35
  clear s34 t35 h34
  refine B_close (fun z => by unfold stfP stnP filQ at z; omega) h35 hw fun τ36 t36 h36 => ⟨_, rfl, fun z => absurd rfl z, fun _ => ⟨gs8 h36, ?_⟩⟩
  have s36 := s35.tr t36
  clear s35 t36 h35
  refine B_receivedBytes (fun z => by unfold stfP stnP filQ at z; omega) h36 hw fun τ37 t37 h37 => ⟨_, rfl, fun z => absurd rfl z, fun _ => ⟨gs8 h37, ?_⟩⟩
  have s37 := s36.tr t37
  clear s36 t37 h36
  refine B_receivedByte (by decide) (fun z => by unfold stfP stnP filQ at z; omega) h37 hw fun τ38 t38 h38 => ⟨_, rfl, fun z => absurd rfl z, fun _ => ⟨gs8 h38, ?_⟩⟩
  have s38 := s37.tr t38
  clear s37 t38 h37
  refine B_byteHole (by decide) (fun z => by unfold stfP stnP filQ at z; omega) h38 hw fun τ39 t39 h39 => ⟨_, rfl, fun z => absurd rfl z, fun _ => ⟨gs8 h39, ?_⟩⟩
  have s39 := s38.tr t39
  clear s38 t39 h38
  refine B_byteHole (by decide) (fun z => by unfold stfP stnP filQ at z; omega) h39 hw fun τ40 t40 h40 => ⟨_, rfl, fun z => absurd rfl z, fun _ => ⟨gs8 h40, ?_⟩⟩
  have s40 := s39.tr t40
  clear s39 t40 h39
  refine B_completeFiles (fun z => by unfold stnP at z; omega) h40 hw fun τ41 t41 h41 => ⟨_, rfl, fun _ => ⟨gs8 h41, ?_⟩, fun z => absurd rfl z⟩
  have s41 := s40.tr t41
  clear s40 t41 h40
  refine B_requestDirectory (fun z => by unfold stnP at z; omega) h41 hw fun τ42 t42 h42 => ⟨_, rfl, fun z => absurd rfl z, fun _ => ⟨gs8 h42, ?_⟩⟩
  have s42 := s41.tr t42
  clear s41 t42 h41
  refine B_requestFile (fun z => by unfold stfP stnP filQ at z; omega) h42 hw fun τ43 t43 h43 => ⟨_, rfl, fun z => absurd rfl z, fun _ => ⟨gs8 h43, ?_⟩⟩
  have s43 := s42.tr t43
  clear s42 t43 h42
  refine B_requestFile (fun z => by unfold stfP stnP filQ at z; omega) h43 hw fun τ44 t44 h44 => ⟨_, rfl, fun z => absurd rfl z, fun _ => ⟨gs8 h44, ?_⟩⟩
  have s44 := s43.tr t44
  clear s43 t44 h43
  refine B_withdraw (fun z => by unfold stnP at z; omega) h44 hw fun τ45 t45 h45 => ⟨_, rfl, fun z => absurd rfl z, fun _ => ⟨gs8 h45, ?_⟩⟩
  have s45 := s44.tr t45
  clear s44 t45 h44
  refine B_queued (fun z => by omega) h45 hw fun τ46 t46 h46 => ⟨_, rfl, fun z => absurd rfl z, fun _ => ⟨gs8 h46, ?_⟩⟩
  have s46 := s45.tr t46
  clear s45 t46 h45
  refine B_queued (fun z => by omega) h46 hw fun τ47 t47 h47 => ⟨_, rfl, fun z => absurd rfl z, fun _ => ⟨gs8 h47, ?_⟩⟩
  have s47 := s46.tr t47
  clear s46 t47 h46
  refine B_queued4 ⟨by decide, by decide, by decide⟩ (by omega) h47 hw fun τ48 t48 h48 => ⟨_, rfl, fun z => absurd rfl z, fun _ => ⟨gs8 h48, ?_⟩⟩
  have s48 := s47.tr t48
  clear s47 t48 h47
  refine B_requestText (fun z => by unfold stnP at z; omega) h48 hw fun τ49 t49 h49 => ⟨_, rfl, fun z => absurd rfl z, fun _ => ⟨gs8 h49, ?_⟩⟩
  have s49 := s48.tr t49
  clear s48 t49 h48
  refine B_type (fun z => by omega) h49 hw fun τ50 t50 h50 => ⟨_, rfl, fun z => absurd rfl z, fun _ => ⟨gs8 h50, ?_⟩⟩
  have s50 := s49.tr t50
  clear s49 t50 h49
  refine B_type (fun z => by omega) h50 hw fun τ51 t51 h51 => ⟨_, rfl, fun _ => ⟨gs8 h51, ?_⟩, fun z => absurd rfl z⟩
  have s51 := s50.tr t51
  clear s50 t51 h50
  refine B_run (fun z => by omega) h51 hw fun τ52 t52 h52 => ⟨_, rfl, fun z => absurd rfl z, fun _ => ⟨gs8 h52, ?_⟩⟩
  have s52 := s51.tr t52
  clear s51 t52 h51
  refine B_run (fun z => by omega) h52 hw fun τ53 t53 h53 => ⟨_, rfl, fun z => absurd rfl z, fun _ => ⟨gs8 h53, ?_⟩⟩
  have s53 := s52.tr t53
  clear s52 t53 h52
  refine B_lastFrame (fun z => by omega) h53 hw fun τ54 t54 h54 => ⟨_, rfl, fun z => absurd rfl z, fun _ => ⟨gs8 h54, ?_⟩⟩
  have s54 := s53.tr t54
  clear s53 t54 h53
  refine B_lastFrame (fun z => by omega) h54 hw fun τ55 t55 h55 => ⟨_, rfl, fun z => absurd rfl z, fun _ => ⟨gs8 h55, ?_⟩⟩
  have s55 := s54.tr t55
  clear s54 t55 h54
  refine B_total (fun z => by omega) h55 hw fun τ56 t56 h56 => ⟨_, rfl, fun z => absurd rfl z, fun _ => ⟨gs8 h56, ?_⟩⟩
  have s56 := s55.tr t56
  clear s55 t56 h55
  refine B_stationTotal (fun z => by unfold stnP at z; omega) h56 hw fun τ57 t57 h57 => ⟨_, rfl, fun z => absurd rfl z, fun _ => ⟨gs8 h57, ?_⟩⟩
  have s57 := s56.tr t57
  clear s56 t57 h56
  refine B_stationTotal (fun z => by unfold stnP at z; omega) h57 hw fun τ58 t58 h58 => ⟨_, rfl, fun z => absurd rfl z, fun _ => ⟨gs8 h58, ?_⟩⟩
  have s58 := s57.tr t58
  clear s57 t58 h57
  refine B_ticksToComplete (fun z => by unfold stfP stnP filQ at z; omega) h58 hw fun τ59 t59 h59 => ⟨_, rfl, fun z => absurd rfl z, fun _ => ⟨gs8 h59, ?_⟩⟩
  have s59 := s58.tr t59
  clear s58 t59 h58
  refine B_ticksToComplete (fun z => by unfold stfP stnP filQ at z; omega) h59 hw fun τ60 t60 h60 => ⟨_, rfl, fun _ => ?_, fun z => absurd rfl z⟩
  have s60 := s59.tr t60
  clear s59 t60 h59
  refine hd τ60 _ h60 ⟨d, rfl, ?_⟩
  have e : cmp3 d d = 0 := by unfold cmp3; rw [if_neg (by omega), if_pos rfl]
  rw [e]
  exact ⟨fun z => absurd rfl z, fun _ => ⟨Or.inr rfl, hQ _ s60 h60⟩⟩
end REF
