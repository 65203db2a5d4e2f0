section BODY
variable {p : Program} {l : Launch} {e : Env} {R : Room} {s : State} {m : MethodId} {args : Array Value} {below : List Frame} {meth : Method} {c : Code} {z b L : Nat} {xs : Nat → Int32} {D : va_G} {dA : Nat → ClassId} {j : Nat}
set_option maxHeartbeats 40000000 in
set_option maxRecDepth 100000 in
theorem Body (hC : Ctx p R s m args meth c z b L xs D dA j) {N : Nat} (hS : ∀ k, k < N → SimAt l z b L xs D dA k) {v : Option mv_T} {τ : ms_T} {g0 l0 : Nat} {Z : State → Prop} (hs0 : s.heap.size = z + g0) (hgR : gn τ - g0 ≤ R.cells ∧ gl τ - l0 ≤ R.slots)
    (hZ : ∀ (pc : Nat) (H : Heap) (locs : List Loc) (lsR : Array Slot), retOK j pc v → HR z b L xs D dA τ H → va_S (fun q => z ≤ q) s.heap H locs → W p l e R s m args below meth c H locs (gn τ - g0) (gl τ - l0) Z (F0 m pc lsR (v.toList.map (vt z b)))) :
    ∀ (n : Nat), n ≤ N → ∀ (pc : Nat) (ls : ml_T) (st : List mv_T) (σ : ms_T) (H : Heap) (locs : List Loc) (lsR : Array Slot), Wm n j pc ls st σ (fun v' τ' => v' = v ∧ τ' = τ) → LR z b (mxl j) ls lsR → (∀ a ∈ st, inV a) → HR z b L xs D dA σ H → va_S (fun q => z ≤ q) s.heap H locs → g0 ≤ gn σ → l0 ≤ gl σ →
      W p l e R s m args below meth c H locs (gn σ - g0) (gl σ - l0) Z (F0 m pc lsR (st.map (vt z b))) := by
  have hj : j < 122 := hC.2.2.2.2.2.2.2.2.2.2.2.2.2.2.2.2.1
  intro n
  induction n with
  | zero => intro _ pc ls st σ H locs lsR h; exact h.elim
  | succ n ih0 =>
    intro hnN pc ls st σ H locs lsR h hL hst hH hSS hg0 hl0
    have ih := ih0 (by omega)
    have hlew := Wm_le h
    obtain ⟨e, he, h⟩ := h
    have ck := ck_all j hj pc e he
    have h0 := h
    unfold wpi at h
    split at h
    · exact bd_0 hC hS hs0 hgR hZ hnN hlew hL hst hH hSS hg0 hl0 ih ck h0
    · exact bd_1 hC hS hs0 hgR hZ hnN hlew hL hst hH hSS hg0 hl0 ih ck h0
    · exact bd_2 hC hS hs0 hgR hZ hnN hlew hL hst hH hSS hg0 hl0 ih ck h0
    · exact bd_3 hC hS hs0 hgR hZ hnN hlew hL hst hH hSS hg0 hl0 ih ck h0
    · exact bd_4 hC hS hs0 hgR hZ hnN hlew hL hst hH hSS hg0 hl0 ih ck h0
    · exact bd_5 hC hS hs0 hgR hZ hnN hlew hL hst hH hSS hg0 hl0 ih ck h0
    · exact bd_6 hC hS hs0 hgR hZ hnN hlew hL hst hH hSS hg0 hl0 ih ck h0
    · exact bd_7 hC hS hs0 hgR hZ hnN hlew hL hst hH hSS hg0 hl0 ih ck h0
    · exact bd_8 hC hS hs0 hgR hZ hnN hlew hL hst hH hSS hg0 hl0 ih ck h0
    · exact bd_9 hC hS hs0 hgR hZ hnN hlew hL hst hH hSS hg0 hl0 ih ck h0
    · exact bd_10 hC hS hs0 hgR hZ hnN hlew hL hst hH hSS hg0 hl0 ih ck h0
    · exact bd_11 hC hS hs0 hgR hZ hnN hlew hL hst hH hSS hg0 hl0 ih ck h0
    · exact bd_12 hC hS hs0 hgR hZ hnN hlew hL hst hH hSS hg0 hl0 ih ck h0
    · exact bd_13 hC hS hs0 hgR hZ hnN hlew hL hst hH hSS hg0 hl0 ih ck h0
    · exact bd_14 hC hS hs0 hgR hZ hnN hlew hL hst hH hSS hg0 hl0 ih ck h0
    · exact bd_15 hC hS hs0 hgR hZ hnN hlew hL hst hH hSS hg0 hl0 ih ck h0
    · exact bd_16 hC hS hs0 hgR hZ hnN hlew hL hst hH hSS hg0 hl0 ih ck h0
    · exact bd_17 hC hS hs0 hgR hZ hnN hlew hL hst hH hSS hg0 hl0 ih ck h0
    · exact bd_18 hC hS hs0 hgR hZ hnN hlew hL hst hH hSS hg0 hl0 ih ck h0
    · exact bd_19 hC hS hs0 hgR hZ hnN hlew hL hst hH hSS hg0 hl0 ih ck h0
    · exact bd_20 hC hS hs0 hgR hZ hnN hlew hL hst hH hSS hg0 hl0 ih ck h0
    · exact bd_21 hC hS hs0 hgR hZ hnN hlew hL hst hH hSS hg0 hl0 ih ck h0
    · exact bd_22 hC hS hs0 hgR hZ hnN hlew hL hst hH hSS hg0 hl0 ih ck h0
    · exact bd_23 hC hS hs0 hgR hZ hnN hlew hL hst hH hSS hg0 hl0 ih ck h0
    · exact bd_24 hC hS hs0 hgR hZ hnN hlew hL hst hH hSS hg0 hl0 ih ck h0
    · exact bd_25 hC hS hs0 hgR hZ hnN hlew hL hst hH hSS hg0 hl0 ih ck h0
    · exact bd_26 hC hS hs0 hgR hZ hnN hlew hL hst hH hSS hg0 hl0 ih ck h0
    · exact bd_27 hC hS hs0 hgR hZ hnN hlew hL hst hH hSS hg0 hl0 ih ck h0
    · exact bd_28 hC hS hs0 hgR hZ hnN hlew hL hst hH hSS hg0 hl0 ih ck h0
    · exact bd_29 hC hS hs0 hgR hZ hnN hlew hL hst hH hSS hg0 hl0 ih ck h0
    · exact bd_30 hC hS hs0 hgR hZ hnN hlew hL hst hH hSS hg0 hl0 ih ck h0
    · exact bd_31 hC hS hs0 hgR hZ hnN hlew hL hst hH hSS hg0 hl0 ih ck h0
    · exact bd_32 hC hS hs0 hgR hZ hnN hlew hL hst hH hSS hg0 hl0 ih ck h0
    · exact bd_33 hC hS hs0 hgR hZ hnN hlew hL hst hH hSS hg0 hl0 ih ck h0
    · exact bd_34 hC hS hs0 hgR hZ hnN hlew hL hst hH hSS hg0 hl0 ih ck h0
    · exact bd_35 hC hS hs0 hgR hZ hnN hlew hL hst hH hSS hg0 hl0 ih ck h0
    · exact bd_36 hC hS hs0 hgR hZ hnN hlew hL hst hH hSS hg0 hl0 ih ck h0
    · exact bd_37 hC hS hs0 hgR hZ hnN hlew hL hst hH hSS hg0 hl0 ih ck h0
    · exact bd_38 hC hS hs0 hgR hZ hnN hlew hL hst hH hSS hg0 hl0 ih ck h0
    · exact bd_39 hC hS hs0 hgR hZ hnN hlew hL hst hH hSS hg0 hl0 ih ck h0
    · exact bd_40 hC hS hs0 hgR hZ hnN hlew hL hst hH hSS hg0 hl0 ih ck h0
    · exact bd_41 hC hS hs0 hgR hZ hnN hlew hL hst hH hSS hg0 hl0 ih ck h0
    · exact bd_42 hC hS hs0 hgR hZ hnN hlew hL hst hH hSS hg0 hl0 ih ck h0
    · exact bd_43 hC hS hs0 hgR hZ hnN hlew hL hst hH hSS hg0 hl0 ih ck h0
    · exact bd_44 hC hS hs0 hgR hZ hnN hlew hL hst hH hSS hg0 hl0 ih ck h0
    · exact bd_45 hC hS hs0 hgR hZ hnN hlew hL hst hH hSS hg0 hl0 ih ck h0
    · exact bd_46 hC hS hs0 hgR hZ hnN hlew hL hst hH hSS hg0 hl0 ih ck h0
    · exact bd_47 hC hS hs0 hgR hZ hnN hlew hL hst hH hSS hg0 hl0 ih ck h0
    · exact bd_48 hC hS hs0 hgR hZ hnN hlew hL hst hH hSS hg0 hl0 ih ck h0
    · exact bd_49 hC hS hs0 hgR hZ hnN hlew hL hst hH hSS hg0 hl0 ih ck h0
    · exact bd_50 hC hS hs0 hgR hZ hnN hlew hL hst hH hSS hg0 hl0 ih ck h0
    · exact bd_51 hC hS hs0 hgR hZ hnN hlew hL hst hH hSS hg0 hl0 ih ck h0
    · exact bd_52 hC hS hs0 hgR hZ hnN hlew hL hst hH hSS hg0 hl0 ih ck h0
    · exact bd_53 hC hS hs0 hgR hZ hnN hlew hL hst hH hSS hg0 hl0 ih ck h0
    · exact bd_54 hC hS hs0 hgR hZ hnN hlew hL hst hH hSS hg0 hl0 ih ck h0
    · exact bd_55 hC hS hs0 hgR hZ hnN hlew hL hst hH hSS hg0 hl0 ih ck h0
    · exact bd_56 hC hS hs0 hgR hZ hnN hlew hL hst hH hSS hg0 hl0 ih ck h0
    · exact bd_57 hC hS hs0 hgR hZ hnN hlew hL hst hH hSS hg0 hl0 ih ck h0
    · exact bd_58 hC hS hs0 hgR hZ hnN hlew hL hst hH hSS hg0 hl0 ih ck h0
    · exact bd_59 hC hS hs0 hgR hZ hnN hlew hL hst hH hSS hg0 hl0 ih ck h0
    · exact bd_60 hC hS hs0 hgR hZ hnN hlew hL hst hH hSS hg0 hl0 ih ck h0
    · exact bd_61 hC hS hs0 hgR hZ hnN hlew hL hst hH hSS hg0 hl0 ih ck h0
    · exact bd_62 hC hS hs0 hgR hZ hnN hlew hL hst hH hSS hg0 hl0 ih ck h0
    · exact bd_63 hC hS hs0 hgR hZ hnN hlew hL hst hH hSS hg0 hl0 ih ck h0
    · exact bd_64 hC hS hs0 hgR hZ hnN hlew hL hst hH hSS hg0 hl0 ih ck h0
    · exact bd_65 hC hS hs0 hgR hZ hnN hlew hL hst hH hSS hg0 hl0 ih ck h0
    · exact bd_66 hC hS hs0 hgR hZ hnN hlew hL hst hH hSS hg0 hl0 ih ck h0
    · exact bd_67 hC hS hs0 hgR hZ hnN hlew hL hst hH hSS hg0 hl0 ih ck h0
    · exact bd_68 hC hS hs0 hgR hZ hnN hlew hL hst hH hSS hg0 hl0 ih ck h0
    · exact bd_69 hC hS hs0 hgR hZ hnN hlew hL hst hH hSS hg0 hl0 ih ck h0
    · exact bd_70 hC hS hs0 hgR hZ hnN hlew hL hst hH hSS hg0 hl0 ih ck h0
    · exact bd_71 hC hS hs0 hgR hZ hnN hlew hL hst hH hSS hg0 hl0 ih ck h0
    · exact bd_72 hC hS hs0 hgR hZ hnN hlew hL hst hH hSS hg0 hl0 ih ck h0
    · exact bd_73 hC hS hs0 hgR hZ hnN hlew hL hst hH hSS hg0 hl0 ih ck h0
    · exact False.elim h
end BODY
