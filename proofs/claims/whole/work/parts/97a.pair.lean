/-! Each call on both sides -/
theorem P_addStation {p o d r : Int} {L : Nat} {σ : ms_T} {Q : mq_T} (hE : Ex L σ) (hQ : Aft L n_X9_addStation [vI p, vI o, vI d, vI r] σ Q) : Ca n_X8_addStation [vR (some 1), vI p, vI o, vI d, vI r] σ Q := by
  obtain ⟨F, S, K, n, T, hI⟩ := hE
  exact C_addStation hI.2.2.1 hI.2.2.2.2 fun τ hs hc => hI.aft hQ hs fun Q2 hQ2 => M_addStation (hI.mo hs) hI.2.2.2.2.x fun υ hm hM => hQ2 υ (hI.fin hs hc (hm.wk inMoMx) hM (W_add hI.2.2.2.2))
theorem P_setLoss {i r : Int} {L : Nat} {σ : ms_T} {Q : mq_T} (hE : Ex L σ) (hQ : Aft L n_X9_setLoss [vI i, vI r] σ Q) : Ca n_X8_setLoss [vR (some 1), vI i, vI r] σ Q := by
  obtain ⟨F, S, K, n, T, hI⟩ := hE
  exact C_setLoss hI.2.2.1 hI.2.2.2.2 fun τ hs hc => hI.aft hQ hs fun Q2 hQ2 => M_setLoss (hI.mo hs) hI.2.2.2.2.x fun υ hm hM => hQ2 υ (hI.fin hs hc (hm.wk inMoMx) hM (W_loss hI.2.2.2.2))
theorem P_inView {i t : Int} {L : Nat} {σ : ms_T} {Q : mq_T} (hE : Ex L σ) (hQ : Aft L n_X9_inView [vI i, vI t] σ Q) : Ca n_X8_inView [vR (some 1), vI i, vI t] σ Q := by
  obtain ⟨F, S, K, n, T, hI⟩ := hE
  exact C_inView hI.2.2.1 hI.2.2.2.2 (hI.aft hQ Sq.rf fun Q2 hQ2 => M_inView (hI.mo Sq.rf) hI.2.2.2.2.x (hQ2 _ (hI.fin Sq.rf hI.2.2.1 Sm.rf (hI.mo Sq.rf) hI.2.2.2.2)))
theorem P_nextView {i t : Int} {L : Nat} {σ : ms_T} {Q : mq_T} (hE : Ex L σ) (hQ : Aft L n_X9_nextView [vI i, vI t] σ Q) : Ca n_X8_nextView [vR (some 1), vI i, vI t] σ Q := by
  obtain ⟨F, S, K, n, T, hI⟩ := hE
  exact C_nextView hI.2.2.1 hI.2.2.2.2 (hI.aft hQ Sq.rf fun Q2 hQ2 => M_nextView (hI.mo Sq.rf) hI.2.2.2.2.x (hQ2 _ (hI.fin Sq.rf hI.2.2.1 Sm.rf (hI.mo Sq.rf) hI.2.2.2.2)))
theorem P_receives {i t : Int} {L : Nat} {σ : ms_T} {Q : mq_T} (hE : Ex L σ) (hQ : Aft L n_X9_receives [vI i, vI t] σ Q) : Ca n_X8_receives [vR (some 1), vI i, vI t] σ Q := by
  obtain ⟨F, S, K, n, T, hI⟩ := hE
  exact C_receives hI.2.2.1 hI.2.2.2.2 (hI.aft hQ Sq.rf fun Q2 hQ2 => M_receives (hI.mo Sq.rf) hI.2.2.2.2.x (hQ2 _ (hI.fin Sq.rf hI.2.2.1 Sm.rf (hI.mo Sq.rf) hI.2.2.2.2)))
theorem P_store {l s t : Int} {L : Nat} {σ : ms_T} {Q : mq_T} (hE : Ex L σ) (hQ : Aft L n_X9_store [vI l, vI s, vI t] σ Q) : Ca n_X8_store [vR (some 1), vI l, vI s, vI t] σ Q := by
  obtain ⟨F, S, K, n, T, hI⟩ := hE
  exact C_store hI.2.2.1 hI.2.2.2.2 fun τ hs hc => hI.aft hQ hs fun Q2 hQ2 => M_store (hI.mo hs) hI.2.2.2.2.x fun υ hm hM => hQ2 υ (hI.fin hs hc (hm.wk inMoMx) hM (W_store hI.2.2.2.2))
theorem P_fileInfo {f w : Int} {L : Nat} {σ : ms_T} {Q : mq_T} (hE : Ex L σ) (hQ : Aft L n_X9_fileInfo [vI f, vI w] σ Q) : Ca n_X8_fileInfo [vR (some 1), vI f, vI w] σ Q := by
  obtain ⟨F, S, K, n, T, hI⟩ := hE
  exact C_fileInfo hI.2.2.1 hI.2.2.2.2 (hI.aft hQ Sq.rf fun Q2 hQ2 => M_fileInfo (hI.mo Sq.rf) hI.2.2.2.2.x (hQ2 _ (hI.fin Sq.rf hI.2.2.1 Sm.rf (hI.mo Sq.rf) hI.2.2.2.2)))
theorem P_fileByte {f k : Int} {L : Nat} {σ : ms_T} {Q : mq_T} (hE : Ex L σ) (hQ : Aft L n_X9_fileByte [vI f, vI k] σ Q) : Ca n_X8_fileByte [vR (some 1), vI f, vI k] σ Q := by
  obtain ⟨F, S, K, n, T, hI⟩ := hE
  exact C_fileByte hI.2.2.1 hI.2.2.2.2 (hI.aft hQ Sq.rf fun Q2 hQ2 => M_fileByte (hI.mo Sq.rf) hI.2.2.2.2.x (hQ2 _ (hI.fin Sq.rf hI.2.2.1 Sm.rf (hI.mo Sq.rf) hI.2.2.2.2)))
theorem P_fileCount {L : Nat} {σ : ms_T} {Q : mq_T} (hE : Ex L σ) (hQ : Aft L n_X9_fileCount [] σ Q) : Ca n_X8_fileCount [vR (some 1)] σ Q := by
  obtain ⟨F, S, K, n, T, hI⟩ := hE
  exact C_fileCount hI.2.2.1 (hI.aft hQ Sq.rf fun Q2 hQ2 => M_fileCount (hI.mo Sq.rf) (hQ2 _ (hI.fin Sq.rf hI.2.2.1 Sm.rf (hI.mo Sq.rf) hI.2.2.2.2)))
theorem P_existingCount {L : Nat} {σ : ms_T} {Q : mq_T} (hE : Ex L σ) (hQ : Aft L n_X9_existingCount [] σ Q) : Ca n_X8_existingCount [vR (some 1)] σ Q := by
  obtain ⟨F, S, K, n, T, hI⟩ := hE
  exact C_existingCount hI.2.2.1 hI.2.2.2.2 (hI.aft hQ Sq.rf fun Q2 hQ2 => M_existingCount (hI.mo Sq.rf) hI.2.2.2.2.x (hQ2 _ (hI.fin Sq.rf hI.2.2.1 Sm.rf (hI.mo Sq.rf) hI.2.2.2.2)))
theorem P_directory {i : Int} {L : Nat} {σ : ms_T} {Q : mq_T} (hE : Ex L σ) (hQ : Aft L n_X9_directory [vI i] σ Q) : Ca n_X8_directory [vR (some 1), vI i] σ Q := by
  obtain ⟨F, S, K, n, T, hI⟩ := hE
  exact C_directory hI.2.2.1 hI.2.2.2.2 (hI.aft hQ Sq.rf fun Q2 hQ2 => M_directory (hI.mo Sq.rf) hI.2.2.2.2.x (hQ2 _ (hI.fin Sq.rf hI.2.2.1 Sm.rf (hI.mo Sq.rf) hI.2.2.2.2)))
theorem P_unknownFiles {i : Int} {L : Nat} {σ : ms_T} {Q : mq_T} (hE : Ex L σ) (hQ : Aft L n_X9_unknownFiles [vI i] σ Q) : Ca n_X8_unknownFiles [vR (some 1), vI i] σ Q := by
  obtain ⟨F, S, K, n, T, hI⟩ := hE
  exact C_unknownFiles hI.2.2.1 hI.2.2.2.2 (hI.aft hQ Sq.rf fun Q2 hQ2 => M_unknownFiles (hI.mo Sq.rf) hI.2.2.2.2.x (hQ2 _ (hI.fin Sq.rf hI.2.2.1 Sm.rf (hI.mo Sq.rf) hI.2.2.2.2)))
theorem P_covered {i x : Int} {L : Nat} {σ : ms_T} {Q : mq_T} (hE : Ex L σ) (hx : x ≤ 2147483647) (hQ : Aft L n_X9_covered [vI i, vI x] σ Q) : Ca n_X8_covered [vR (some 1), vI i, vI x] σ Q := by
  obtain ⟨F, S, K, n, T, hI⟩ := hE
  exact C_covered hI.2.2.1 hI.2.2.2.2 hx (hI.aft hQ Sq.rf fun Q2 hQ2 => M_covered (hI.mo Sq.rf) hI.2.2.2.2.x hx (hQ2 _ (hI.fin Sq.rf hI.2.2.1 Sm.rf (hI.mo Sq.rf) hI.2.2.2.2)))
theorem P_timeHole {i x : Int} {L : Nat} {σ : ms_T} {Q : mq_T} (hE : Ex L σ) (hx : x ≤ 2147483647) (hQ : Aft L n_X9_timeHole [vI i, vI x] σ Q) : Ca n_X8_timeHole [vR (some 1), vI i, vI x] σ Q := by
  obtain ⟨F, S, K, n, T, hI⟩ := hE
  exact C_timeHole hI.2.2.1 hI.2.2.2.2 hx (hI.aft hQ Sq.rf fun Q2 hQ2 => M_timeHole (hI.mo Sq.rf) hI.2.2.2.2.x fun υ hm hM => hQ2 υ (hI.fin Sq.rf hI.2.2.1 (hm.wk inMoMx) hM hI.2.2.2.2))
theorem P_open {i f : Int} {L : Nat} {σ : ms_T} {Q : mq_T} (hE : Ex L σ) (hQ : Aft L n_X9_open [vI i, vI f] σ Q) : Ca n_X8_open [vR (some 1), vI i, vI f] σ Q := by
  obtain ⟨F, S, K, n, T, hI⟩ := hE
  exact C_open hI.2.2.1 hI.2.2.2.2 fun τ hs hc => hI.aft hQ hs fun Q2 hQ2 => M_open (hI.mo hs) hI.2.2.2.2 fun υ hm hM => hQ2 υ (hI.fin hs hc (hm.wk inMoMx) hM (W_open hI.2.2.2.2))
theorem P_close {i f : Int} {L : Nat} {σ : ms_T} {Q : mq_T} (hE : Ex L σ) (hQ : Aft L n_X9_close [vI i, vI f] σ Q) : Ca n_X8_close [vR (some 1), vI i, vI f] σ Q := by
  obtain ⟨F, S, K, n, T, hI⟩ := hE
  exact C_close hI.2.2.1 hI.2.2.2.2 fun τ hs hc => hI.aft hQ hs fun Q2 hQ2 => M_close (hI.mo hs) hI.2.2.2.2.x fun υ hm hM => hQ2 υ (hI.fin hs hc (hm.wk inMoMx) hM (W_close hI.2.2.2.2))
theorem P_receivedBytes {i f : Int} {L : Nat} {σ : ms_T} {Q : mq_T} (hE : Ex L σ) (hQ : Aft L n_X9_receivedBytes [vI i, vI f] σ Q) : Ca n_X8_receivedBytes [vR (some 1), vI i, vI f] σ Q := by
  obtain ⟨F, S, K, n, T, hI⟩ := hE
  exact C_receivedBytes hI.2.2.1 hI.2.2.2.2 (hI.aft hQ Sq.rf fun Q2 hQ2 => M_receivedBytes (hI.mo Sq.rf) hI.2.2.2.2.x (hQ2 _ (hI.fin Sq.rf hI.2.2.1 Sm.rf (hI.mo Sq.rf) hI.2.2.2.2)))
theorem P_receivedByte {i f k : Int} {L : Nat} {σ : ms_T} {Q : mq_T} (hE : Ex L σ) (hx : k ≤ 2147483647) (hQ : Aft L n_X9_receivedByte [vI i, vI f, vI k] σ Q) : Ca n_X8_receivedByte [vR (some 1), vI i, vI f, vI k] σ Q := by
  obtain ⟨F, S, K, n, T, hI⟩ := hE
  exact C_receivedByte hI.2.2.1 hI.2.2.2.2 hx (hI.aft hQ Sq.rf fun Q2 hQ2 => M_receivedByte (hI.mo Sq.rf) hI.2.2.2.2.x (hQ2 _ (hI.fin Sq.rf hI.2.2.1 Sm.rf (hI.mo Sq.rf) hI.2.2.2.2)))
theorem P_byteHole {i f x : Int} {L : Nat} {σ : ms_T} {Q : mq_T} (hE : Ex L σ) (hx : x ≤ 2147483647) (hQ : Aft L n_X9_byteHole [vI i, vI f, vI x] σ Q) : Ca n_X8_byteHole [vR (some 1), vI i, vI f, vI x] σ Q := by
  obtain ⟨F, S, K, n, T, hI⟩ := hE
  exact C_byteHole hI.2.2.1 hI.2.2.2.2 hx (hI.aft hQ Sq.rf fun Q2 hQ2 => M_byteHole (hI.mo Sq.rf) hI.2.2.2.2.x fun υ hm hM => hQ2 υ (hI.fin Sq.rf hI.2.2.1 (hm.wk inMoMx) hM hI.2.2.2.2))
theorem P_completeFiles {i : Int} {L : Nat} {σ : ms_T} {Q : mq_T} (hE : Ex L σ) (hQ : Aft L n_X9_completeFiles [vI i] σ Q) : Ca n_X8_completeFiles [vR (some 1), vI i] σ Q := by
  obtain ⟨F, S, K, n, T, hI⟩ := hE
  exact C_completeFiles hI.2.2.1 hI.2.2.2.2 (hI.aft hQ Sq.rf fun Q2 hQ2 => M_completeFiles (hI.mo Sq.rf) hI.2.2.2.2.x (hQ2 _ (hI.fin Sq.rf hI.2.2.1 Sm.rf (hI.mo Sq.rf) hI.2.2.2.2)))
theorem P_requestDirectory {i : Int} {L : Nat} {σ : ms_T} {Q : mq_T} (hE : Ex L σ) (hQ : Aft L n_X9_requestDirectory [vI i] σ Q) : Ca n_X8_requestDirectory [vR (some 1), vI i] σ Q := by
  obtain ⟨F, S, K, n, T, hI⟩ := hE
  exact C_requestDirectory hI.2.2.1 hI.2.2.2.2 fun τ hs hc => hI.aft hQ hs fun Q2 hQ2 => M_requestDirectory (hI.mo hs) hI.2.2.2.2.x fun υ hm hM => hQ2 υ (hI.fin hs hc (hm.wk inMoMx) hM (W_reqD hI.2.2.2.2))
theorem P_requestFile {i f : Int} {L : Nat} {σ : ms_T} {Q : mq_T} (hE : Ex L σ) (hQ : Aft L n_X9_requestFile [vI i, vI f] σ Q) : Ca n_X8_requestFile [vR (some 1), vI i, vI f] σ Q := by
  obtain ⟨F, S, K, n, T, hI⟩ := hE
  exact C_requestFile hI.2.2.1 hI.2.2.2.2 fun τ hs hc => hI.aft hQ hs fun Q2 hQ2 => M_requestFile (hI.mo hs) hI.2.2.2.2.x fun υ hm hM => hQ2 υ (hI.fin hs hc (hm.wk inMoMx) hM (W_reqF hI.2.2.2.2))
theorem P_withdraw {i : Int} {L : Nat} {σ : ms_T} {Q : mq_T} (hE : Ex L σ) (hQ : Aft L n_X9_withdraw [vI i] σ Q) : Ca n_X8_withdraw [vR (some 1), vI i] σ Q := by
  obtain ⟨F, S, K, n, T, hI⟩ := hE
  exact C_withdraw hI.2.2.1 hI.2.2.2.2 fun τ hs hc => hI.aft hQ hs fun Q2 hQ2 => M_withdraw (hI.mo hs) hI.2.2.2.2.x fun υ hm hM => hQ2 υ (hI.fin hs hc (hm.wk inMoMx) hM (W_with hI.2.2.2.2))
theorem P_queueLength {L : Nat} {σ : ms_T} {Q : mq_T} (hE : Ex L σ) (hQ : Aft L n_X9_queueLength [] σ Q) : Ca n_X8_queueLength [vR (some 1)] σ Q := by
  obtain ⟨F, S, K, n, T, hI⟩ := hE
  exact C_queueLength hI.2.2.1 (hI.aft hQ Sq.rf fun Q2 hQ2 => M_queueLength (hI.mo Sq.rf) (hQ2 _ (hI.fin Sq.rf hI.2.2.1 Sm.rf (hI.mo Sq.rf) hI.2.2.2.2)))
theorem P_queued {p w : Int} {L : Nat} {σ : ms_T} {Q : mq_T} (hE : Ex L σ) (hQ : Aft L n_X9_queued [vI p, vI w] σ Q) : Ca n_X8_queued [vR (some 1), vI p, vI w] σ Q := by
  obtain ⟨F, S, K, n, T, hI⟩ := hE
  exact C_queued hI.2.2.1 hI.2.2.2.2 (hI.aft hQ Sq.rf fun Q2 hQ2 => M_queued (hI.mo Sq.rf) hI.2.2.2.2.x (hQ2 _ (hI.fin Sq.rf hI.2.2.1 Sm.rf (hI.mo Sq.rf) hI.2.2.2.2)))
theorem P_type {c : Int} {L : Nat} {σ : ms_T} {Q : mq_T} (hE : Ex L σ) (hQ : Aft L n_X9_type [vI c] σ Q) : Ca n_X8_type [vR (some 1), vI c] σ Q := by
  obtain ⟨F, S, K, n, T, hI⟩ := hE
  exact C_type hI.2.2.1 hI.2.2.2.2 fun τ hs hc => hI.aft hQ hs fun Q2 hQ2 => M_type (hI.mo hs) hI.2.2.2.2.x fun υ hm hM => hQ2 υ (hI.fin hs hc (hm.wk inMoMx) hM (W_type hI.2.2.2.2))
theorem P_clearText {L : Nat} {σ : ms_T} {Q : mq_T} (hE : Ex L σ) (hQ : Aft L n_X9_clearText [] σ Q) : Ca n_X8_clearText [vR (some 1)] σ Q := by
  obtain ⟨F, S, K, n, T, hI⟩ := hE
  exact C_clearText hI.2.2.1 hI.2.2.2.2 fun τ hs hc => hI.aft hQ hs fun Q2 hQ2 => M_clearText (hI.mo hs) hI.2.2.2.2.x fun υ hm hM => hQ2 υ (hI.fin hs hc (hm.wk inMoMx) hM (W_clear hI.2.2.2.2))
theorem P_fault {L : Nat} {σ : ms_T} {Q : mq_T} (hE : Ex L σ) (hQ : Aft L n_X9_fault [] σ Q) : Ca n_X8_fault [vR (some 1)] σ Q := by
  obtain ⟨F, S, K, n, T, hI⟩ := hE
  exact C_fault hI.2.2.1 hI.2.2.2.2 fun τ hs hc => hI.aft hQ hs fun Q2 hQ2 => M_fault (hI.mo hs) hI.2.2.2.2.x fun υ hm hM => hQ2 υ (hI.fin hs hc (hm.wk inMoMx) hM hI.2.2.2.2)
theorem P_requestText {i : Int} {L : Nat} {σ : ms_T} {Q : mq_T} (hE : Ex L σ) (hQ : Aft L n_X9_requestText [vI i] σ Q) : Ca n_X8_requestText [vR (some 1), vI i] σ Q := by
  obtain ⟨F, S, K, n, T, hI⟩ := hE
  exact C_requestText hI.2.2.1 hI.2.2.2.2 fun τ hs hc => hI.aft hQ hs fun Q2 hQ2 => M_requestText (hI.mo hs) hI.2.2.2.2.x fun υ hm hM => hQ2 υ (hI.fin hs hc (hm.wk inMoMx) hM (W_reqT hI.2.2.2.2))
theorem P_run {m : Int} {L : Nat} {σ : ms_T} {Q : mq_T} (hE : Ex L σ) (hQ : Aft L n_X9_run [vI m] σ Q) : Ca n_X8_run [vR (some 1), vI m] σ Q := by
  obtain ⟨F, S, K, n, T, hI⟩ := hE
  exact C_run hI.2.2.1 hI.2.2.2.2 fun τ hs hc => hI.aft hQ hs fun Q2 hQ2 => M_run (hI.mo hs) hI.2.2.2.2 fun υ hm hM => hQ2 υ (hI.fin hs hc (hm.wk inMoMx) hM (W_run hI.2.2.2.2))
theorem P_time {L : Nat} {σ : ms_T} {Q : mq_T} (hE : Ex L σ) (hQ : Aft L n_X9_time [] σ Q) : Ca n_X8_time [vR (some 1)] σ Q := by
  obtain ⟨F, S, K, n, T, hI⟩ := hE
  exact C_time hI.2.2.1 (hI.aft hQ Sq.rf fun Q2 hQ2 => M_time (hI.mo Sq.rf) (hQ2 _ (hI.fin Sq.rf hI.2.2.1 Sm.rf (hI.mo Sq.rf) hI.2.2.2.2)))
theorem P_lastFrame {w : Int} {L : Nat} {σ : ms_T} {Q : mq_T} (hE : Ex L σ) (hQ : Aft L n_X9_lastFrame [vI w] σ Q) : Ca n_X8_lastFrame [vR (some 1), vI w] σ Q := by
  obtain ⟨F, S, K, n, T, hI⟩ := hE
  exact C_lastFrame hI.2.2.1 (hI.aft hQ Sq.rf fun Q2 hQ2 => M_lastFrame (hI.mo Sq.rf) (hQ2 _ (hI.fin Sq.rf hI.2.2.1 Sm.rf (hI.mo Sq.rf) hI.2.2.2.2)))
theorem P_total {w : Int} {L : Nat} {σ : ms_T} {Q : mq_T} (hE : Ex L σ) (hQ : Aft L n_X9_total [vI w] σ Q) : Ca n_X8_total [vR (some 1), vI w] σ Q := by
  obtain ⟨F, S, K, n, T, hI⟩ := hE
  exact C_total hI.2.2.1 (hI.aft hQ Sq.rf fun Q2 hQ2 => M_total (hI.mo Sq.rf) (hQ2 _ (hI.fin Sq.rf hI.2.2.1 Sm.rf (hI.mo Sq.rf) hI.2.2.2.2)))
theorem P_stationTotal {i w : Int} {L : Nat} {σ : ms_T} {Q : mq_T} (hE : Ex L σ) (hQ : Aft L n_X9_stationTotal [vI i, vI w] σ Q) : Ca n_X8_stationTotal [vR (some 1), vI i, vI w] σ Q := by
  obtain ⟨F, S, K, n, T, hI⟩ := hE
  exact C_stationTotal hI.2.2.1 hI.2.2.2.2 (hI.aft hQ Sq.rf fun Q2 hQ2 => M_stationTotal (hI.mo Sq.rf) hI.2.2.2.2.x (hQ2 _ (hI.fin Sq.rf hI.2.2.1 Sm.rf (hI.mo Sq.rf) hI.2.2.2.2)))
theorem P_ticksToComplete {i f : Int} {L : Nat} {σ : ms_T} {Q : mq_T} (hE : Ex L σ) (hQ : Aft L n_X9_ticksToComplete [vI i, vI f] σ Q) : Ca n_X8_ticksToComplete [vR (some 1), vI i, vI f] σ Q := by
  obtain ⟨F, S, K, n, T, hI⟩ := hE
  exact C_ticksToComplete hI.2.2.1 hI.2.2.2.2 fun τ hs hc => hI.aft hQ hs fun Q2 hQ2 => M_ticksToComplete (hI.mo hs) hI.2.2.2.2 fun υ hm hM => hQ2 υ (hI.fin hs hc hm hM hI.2.2.2.2)
theorem P_ticksToEmpty {L : Nat} {σ : ms_T} {Q : mq_T} (hE : Ex L σ) (hQ : Aft L n_X9_ticksToEmpty [] σ Q) : Ca n_X8_ticksToEmpty [vR (some 1)] σ Q := by
  obtain ⟨F, S, K, n, T, hI⟩ := hE
  exact C_ticksToEmpty hI.2.2.1 hI.2.2.2.2 fun τ hs hc => hI.aft hQ hs fun Q2 hQ2 => M_ticksToEmpty (hI.mo hs) hI.2.2.2.2 fun υ hm hM => hQ2 υ (hI.fin hs hc hm hM hI.2.2.2.2)
