/-! The digest: a number that the mailbox' state alone decides -/
def DgE (F : Fl) (S : Sa) (K : Int → Int) (n : Int) (T : Int → Int) (pc : Nat) (ls : ml_T) : Prop := ∃ d, ∀ (σ : ms_T) (Q : mq_T), ClC σ F S K n T → Q (some (vL d)) σ → At n_L_digest pc ls [] σ Q
section DIG
variable {F : Fl} {S : Sa} {K : Int → Int} {n : Int} {T : Int → Int}
theorem g239 (hw : StW F S K n T) {i : Int} (hi : 0 ≤ i ∧ i ≤ 5) (hn : ∀ h l4, DgE F S K n T 114 [some (vR (some 1)), some (vL h), none, some (vI (i + 1)), l4]) : ∀ (d : Nat) (k h : Int), k + d = 4 → 0 ≤ k → DgE F S K n T 239 [some (vR (some 1)), some (vL h), none, some (vI i), some (vI k)]
  | 0, k, h, e, k0 => by
    obtain ⟨d, hd⟩ := hn h (some (vI k))
    refine ⟨d, fun σ Q hC hQ => vc_L_digest_239 _ _ _ _ _ _ ⟨fun _ => ?_, fun z => absurd (by omega) z⟩⟩
    rw [wr_i (x := i + 1) (by omega)]
    exact hd σ Q hC hQ
  | d + 1, k, h, e, k0 => by
    obtain ⟨d2, hd⟩ := g239 hw hi hn d (k + 1) (wl (wl (31 * h) + rSTot S i k)) (by omega) (by omega)
    refine ⟨d2, fun σ Q hC hQ => vc_L_digest_239 _ _ _ _ _ _ ⟨fun z => by omega, fun _ => ⟨gs8 hC, C_stationTotal hC hw ⟨_, rfl, ?_⟩⟩⟩⟩
    rw [wr_i (x := k + 1) (by omega)]
    exact hd σ Q hC hQ
theorem g192 (hw : StW F S K n T) {i : Int} (hn : ∀ h, DgE F S K n T 239 [some (vR (some 1)), some (vL h), none, some (vI i), some (vI 0)]) : ∀ (d : Nat) (k h : Int), k + d = F.1 → 0 ≤ k → DgE F S K n T 192 [some (vR (some 1)), some (vL h), none, some (vI i), some (vI k)]
  | 0, k, h, e, k0 => by
    obtain ⟨d, hd⟩ := hn h
    refine ⟨d, fun σ Q hC hQ => vc_L_digest_192 _ _ _ _ _ _ ⟨gs8 hC, C_fileCount hC ⟨_, rfl, fun _ => hd σ Q hC hQ, fun z => absurd (by omega) z⟩⟩⟩
  | d + 1, k, h, e, k0 => by
    have h30 := hw.1.2.1
    obtain ⟨d2, hd⟩ := g192 hw hn d (k + 1) (wl (wl (31 * wl (wl (31 * h) + rBytes F S i k)) + rBHole F S i k 0)) (by omega) (by omega)
    refine ⟨d2, fun σ Q hC hQ => vc_L_digest_192 _ _ _ _ _ _ ⟨gs8 hC, C_fileCount hC ⟨_, rfl, fun z => by omega, fun _ => ⟨gs8 hC, C_receivedBytes hC hw ⟨_, rfl, gs8 hC, C_byteHole hC hw (by decide) ⟨_, rfl, ?_⟩⟩⟩⟩⟩⟩
    rw [wr_i (x := k + 1) (by omega)]
    exact hd σ Q hC hQ
theorem g149 (hw : StW F S K n T) {i : Int} (hn : ∀ h, DgE F S K n T 192 [some (vR (some 1)), some (vL h), none, some (vI i), some (vI 0)]) : ∀ (d : Nat) (k h : Int), k + d = 5 → -1 ≤ k → DgE F S K n T 149 [some (vR (some 1)), some (vL h), none, some (vI i), some (vI k)]
  | 0, k, h, e, k0 => by
    obtain ⟨d, hd⟩ := hn h
    refine ⟨d, fun σ Q hC hQ => vc_L_digest_149 _ _ _ _ _ _ ⟨fun _ => hd σ Q hC hQ, fun z => absurd (by omega) z⟩⟩
  | d + 1, k, h, e, k0 => by
    obtain ⟨d2, hd⟩ := g149 hw hn d (k + 1) (wl (wl (31 * wl (wl (31 * h) + rCov S i k)) + rTHole S i k)) (by omega) (by omega)
    refine ⟨d2, fun σ Q hC hQ => vc_L_digest_149 _ _ _ _ _ _ ⟨fun z => by omega, fun _ => ⟨gs8 hC, C_covered hC hw (by omega) ⟨_, rfl, gs8 hC, C_timeHole hC hw (by omega) ⟨_, rfl, ?_⟩⟩⟩⟩⟩
    rw [wr_i (x := k + 1) (by omega)]
    exact hd σ Q hC hQ
theorem g114 (hw : StW F S K n T) : ∀ (d : Nat) (i h : Int) (l4 : Option mv_T), i + d = nst S → 0 ≤ i → DgE F S K n T 114 [some (vR (some 1)), some (vL h), none, some (vI i), l4]
  | d, i, h, l4, e, i0 => by
    have hn5 := hw.2.1.1.2
    by_cases c : rDir S i < 0
    · exact ⟨h, fun σ Q hC hQ => vc_L_digest_114 _ _ _ _ _ _ ⟨gs8 hC, C_directory hC hw ⟨_, rfl, fun _ => hQ, fun z => absurd c z⟩⟩⟩
    · have hi : i < nst S := by
        rcases Int.lt_or_le i (nst S) with z | z
        · exact z
        · exfalso
          apply c
          unfold rDir
          rw [cif_n (fun y => by have := y.2; omega)]
          decide
      cases d with
      | zero => exfalso; omega
      | succ d =>
        have h114 : ∀ h' l4', DgE F S K n T 114 [some (vR (some 1)), some (vL h'), none, some (vI (i + 1)), l4'] := fun h' l4' => g114 hw d (i + 1) h' l4' (by omega) (by omega)
        have h239 : ∀ h', DgE F S K n T 239 [some (vR (some 1)), some (vL h'), none, some (vI i), some (vI 0)] := fun h' => g239 hw ⟨i0, by omega⟩ h114 4 0 h' (by decide) (by decide)
        have h192 : ∀ h', DgE F S K n T 192 [some (vR (some 1)), some (vL h'), none, some (vI i), some (vI 0)] := fun h' => g192 hw h239 F.1.toNat 0 h' (by have := hw.1.1; omega) (by decide)
        obtain ⟨d2, hd⟩ := g149 hw h192 6 (-1) (wl (wl (31 * wl (wl (31 * h) + rDir S i)) + rComp F S i)) (by decide) (by decide)
        exact ⟨d2, fun σ Q hC hQ => vc_L_digest_114 _ _ _ _ _ _ ⟨gs8 hC, C_directory hC hw ⟨_, rfl, fun z => absurd z c, fun _ => ⟨gs8 hC, C_directory hC hw ⟨_, rfl, gs8 hC, C_completeFiles hC hw ⟨_, rfl, hd σ Q hC hQ⟩⟩⟩⟩⟩⟩
theorem g78 (hw : StW F S K n T) {i : Int} (hi : 0 ≤ i ∧ i ≤ 6) (hn : ∀ h l4, DgE F S K n T 67 [some (vR (some 1)), some (vL h), none, some (vI (i + 1)), l4]) : ∀ (d : Nat) (k h : Int), k + d = 6 → 0 ≤ k → DgE F S K n T 78 [some (vR (some 1)), some (vL h), none, some (vI i), some (vI k)]
  | 0, k, h, e, k0 => by
    obtain ⟨d, hd⟩ := hn h (some (vI k))
    refine ⟨d, fun σ Q hC hQ => vc_L_digest_78 _ _ _ _ _ _ ⟨fun _ => ?_, fun z => absurd (by omega) z⟩⟩
    rw [wr_i (x := i + 1) (by omega)]
    exact hd σ Q hC hQ
  | d + 1, k, h, e, k0 => by
    obtain ⟨d2, hd⟩ := g78 hw hi hn d (k + 1) (wl (wl (31 * h) + rQued S i k)) (by omega) (by omega)
    refine ⟨d2, fun σ Q hC hQ => vc_L_digest_78 _ _ _ _ _ _ ⟨fun z => by omega, fun _ => ⟨gs8 hC, C_queued hC hw ⟨_, rfl, ?_⟩⟩⟩⟩
    rw [wr_i (x := k + 1) (by omega)]
    exact hd σ Q hC hQ
theorem g67 (hw : StW F S K n T) : ∀ (d : Nat) (i h : Int) (l4 : Option mv_T), i + d = ql (que S) → 0 ≤ i → DgE F S K n T 67 [some (vR (some 1)), some (vL h), none, some (vI i), l4]
  | 0, i, h, l4, e, i0 => by
    obtain ⟨d, hd⟩ := g114 hw (nst S).toNat 0 h l4 (by have := hw.2.1.1.1; omega) (by decide)
    exact ⟨d, fun σ Q hC hQ => vc_L_digest_67 _ _ _ _ _ _ ⟨gs8 hC, C_queueLength hC ⟨_, rfl, fun _ => hd σ Q hC hQ, fun z => absurd (by omega) z⟩⟩⟩
  | d + 1, i, h, l4, e, i0 => by
    have h6 := hw.2.1.2.2.2.1
    obtain ⟨d2, hd⟩ := g78 hw (i := i) ⟨i0, by omega⟩ (fun h' l4' => g67 hw d (i + 1) h' l4' (by omega) (by omega)) 6 0 h (by decide) (by decide)
    exact ⟨d2, fun σ Q hC hQ => vc_L_digest_67 _ _ _ _ _ _ ⟨gs8 hC, C_queueLength hC ⟨_, rfl, fun z => by omega, fun _ => hd σ Q hC hQ⟩⟩⟩
theorem g8 (hw : StW F S K n T) : ∀ (d : Nat) (k h : Int), k + d = 5 → 0 ≤ k → DgE F S K n T 8 [some (vR (some 1)), some (vL h), none, some (vI k), none]
  | 0, k, h, e, k0 => by
    obtain ⟨d, hd⟩ := g67 hw (ql (que S)).toNat 0 (wl (wl (31 * wl (wl (31 * h) + ql (que S))) + F.1)) none (by have := ql_nn (que S); omega) (by decide)
    exact ⟨d, fun σ Q hC hQ => vc_L_digest_8 _ _ _ _ _ ⟨fun _ => ⟨gs8 hC, C_queueLength hC ⟨_, rfl, gs8 hC, C_fileCount hC ⟨_, rfl, hd σ Q hC hQ⟩⟩⟩, fun z => absurd (by omega) z⟩⟩
  | d + 1, k, h, e, k0 => by
    obtain ⟨d2, hd⟩ := g8 hw d (k + 1) (wl (wl (31 * wl (wl (31 * h) + rTot S k)) + rLast K k)) (by omega) (by omega)
    refine ⟨d2, fun σ Q hC hQ => vc_L_digest_8 _ _ _ _ _ ⟨fun z => by omega, fun _ => ⟨gs8 hC, C_total hC ⟨_, rfl, gs8 hC, C_lastFrame hC ⟨_, rfl, ?_⟩⟩⟩⟩⟩
    rw [wr_i (x := k + 1) (by omega)]
    exact hd σ Q hC hQ
theorem L_dig (hw : StW F S K n T) : ∃ d, ∀ (σ : ms_T) (Q : mq_T), ClC σ F S K n T → Q (some (vL d)) σ → Ca n_L_digest [vR (some 1)] σ Q := by
  obtain ⟨d, hd⟩ := g8 hw 5 0 (now S) (by decide) (by decide)
  exact ⟨d, fun σ Q hC hQ => vc_L_digest _ _ _ ⟨gs8 hC, C_time hC ⟨_, rfl, hd σ Q hC hQ⟩⟩⟩
end DIG
