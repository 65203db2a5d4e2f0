/-! The empty mailbox -/
theorem st_w0 : StW Fl0 Sa0 K0 0 (fun _ => 0) := by
  refine ⟨⟨by decide, by decide, fun f a b => by have b : f < 0 := b; omega⟩, ⟨⟨by decide, by decide⟩, by decide, fun i a b => by have b : i < 0 := b; omega, by decide, fun k a b => by have b : k < 0 := b; omega, fun k j a b c => by have c : j < 0 := c; omega, fun k j a b c => by have c : j < 0 := c; omega, fun w _ _ => ⟨by show (-2147483648 : Int) ≤ 0; decide, by show (0 : Int) ≤ 2147483647; decide⟩⟩, by decide, ⟨by decide, by decide, fun i a b => by omega⟩, ?_, fun _ _ _ => rfl, by decide⟩
  show (0 : Int) ≤ 8
  decide
theorem ClC.ag {σ τ : ms_T} {F : Fl} {S : Sa} {K : Int → Int} {n : Int} {T : Int → Int} (h : ClC σ F S K n T) (hn : 0 ≤ nst S ∧ nst S ≤ 5) (hs : Ag σ τ inCl) : ClC τ F S K n T := by
  obtain ⟨⟨m0, m1, m2, m3, m4⟩, hF, hS, hf, ⟨h1, L0, h2⟩, hT, hK⟩ := h
  have g1 : inCl 1 := ⟨by decide, by decide⟩
  have g35 : inCl 35 := ⟨by decide, by decide⟩
  refine ⟨⟨by rw [hs.s g1]; exact m0, by rw [hs.r g1]; exact m1, by rw [hs.r g1]; exact m2, by rw [hs.r g1]; exact m3, by rw [hs.r g1]; exact m4⟩, hF.ag (hs.wk fun c hc => ?_), hS.ag hn.2 (hs.wk fun c hc => ?_) ?_, fun i a b => (hf i a b).ag (hs.wk fun c hc => ?_), ⟨h1.ag (hs.wk fun c hc => ?_), L0, h2.ag (hs.wk fun c hc => ?_)⟩, hT.ag (hs.wk fun c hc => ?_), hK.ag (hs.wk fun c hc => ?_)⟩
  · unfold inF at hc; unfold inCl; omega
  · obtain ⟨hc, -⟩ := hc; unfold inSa at hc; unfold inCl; omega
  · rw [hs.s g35]; exact hK.1
  · unfold inSt sa at hc; unfold inCl; omega
  · obtain ⟨hc, -⟩ := hc; unfold inSa at hc; unfold inCl; omega
  · unfold inQu at hc; unfold inCl; omega
  · unfold inTx at hc; unfold inCl; omega
  · subst hc; exact g35
