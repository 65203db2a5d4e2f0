/-! The empty mailbox, and the two sides beside each other -/
theorem st_w0 : StW Fl0 Sa0 K0 0 (fun _ => 0) := by
  refine ⟨⟨by decide, by decide, fun f a b => by have b : f < 0 := b; omega⟩, ⟨⟨by decide, by decide⟩, by decide, fun i a b => by have b : i < 0 := b; omega, by decide, fun k a b => by have b : k < 0 := b; omega, fun k j a b c => by have c : j < 0 := c; omega, fun k j a b c => by have c : j < 0 := c; omega, fun w _ _ => ⟨by show (-2147483648 : Int) ≤ 0; decide, by show (0 : Int) ≤ 2147483647; decide⟩⟩, by decide, ⟨by decide, by decide, fun i a b => by omega⟩, ?_, fun _ _ _ => rfl, by decide⟩
  show (0 : Int) ≤ 8
  decide
theorem mo_w0 {σ : ms_T} {m : Nat} (hM : isM σ m) (h6 : gi σ m 6 = 0) (hr : ∀ k, gi σ (m + 1) k = if k = 6 then -1 else if k = 4 then -1 else 0) : MoC σ m Fl0 Sa0 K0 0 (fun _ => 0) := by
  have hR : ∀ j : Int, ro σ m j = if j.toNat = 6 then -1 else if j.toNat = 4 then -1 else 0 := fun j => hr j.toNat
  have hz : ∀ j : Int, ¬ j = 6 → ¬ j = 4 → ro σ m j = 0 := fun j h1 h2 => by
    rw [hR, if_neg (by omega), if_neg (by omega)]
  have h4 : ro σ m 4 = -1 := by rw [hR]; rfl
  refine ⟨hM, ⟨⟨?_, fun f a b => by have b : f < 0 := b; omega⟩, ⟨⟨?_, ?_⟩, ⟨?_, fun k a b => by have b : k < 0 := b; omega, ?_, ?_, fun k a b => by have b : k < 0 := b; omega⟩, fun i a b => by have b : i < 0 := b; omega, fun i a b w c d => ?_, fun w a b => ?_⟩, fun z => ?_, fun w a b => ?_⟩, h6, fun i a b => by omega⟩
  · exact hz 2 (by omega) (by omega)
  · exact hz 0 (by omega) (by omega)
  · exact hz 1 (by omega) (by omega)
  · exact hz 3 (by omega) (by omega)
  · rw [h4]; decide
  · rw [h4]; decide
  · have a : 0 ≤ i := a
    exact hz _ (by unfold sb; omega) (by unfold sb; omega)
  · exact hz _ (by omega) (by omega)
  · rw [h4] at z; omega
  · unfold K0
    by_cases e : w = 0
    · subst e
      rw [hR]
      simp
    · rw [if_neg e]
      exact hz _ (by omega) (by omega)
theorem MoC.sq {σ τ : ms_T} {F : Fl} {S : Sa} {K : Int → Int} {n : Int} {T : Int → Int} (h : MoC σ 232 F S K n T) (hs : Sq σ τ inCl) : MoC τ 232 F S K n T := by
  have g : ∀ c, 232 ≤ c → ¬ inCl c := fun c hc z => by unfold inCl at z; omega
  have hr : ∀ c, 232 ≤ c → ∀ k, gr τ c k = gr σ c k := fun c hc => (hs.2.2.2 c (g c hc)).1
  have hi : ∀ c, 232 ≤ c → ∀ k, gi τ c k = gi σ c k := fun c hc => (hs.2.2.2 c (g c hc)).2
  obtain ⟨h1, h2, h3, h4⟩ := h
  have e : ro τ 232 = ro σ 232 := funext fun j => hi 233 (by decide) _
  refine ⟨?_, by rw [e]; exact h2, by rw [hi 232 (by decide)]; exact h3, fun i a b => by rw [hi _ (by omega)]; exact h4 i a b⟩
  unfold isM at h1 ⊢
  simp only [hs.2.2.1, hr 232 (by decide)]
  exact h1
theorem ClC.ag {σ τ : ms_T} {F : Fl} {S : Sa} {K : Int → Int} {n : Int} {T : Int → Int} (h : ClC σ F S K n T) (hn : 0 ≤ nst S ∧ nst S ≤ 5) (hs : Ag σ τ inCl) : ClC τ F S K n T := by
  obtain ⟨⟨m0, m1, m2, m3, m4⟩, hF, hS, hf, ⟨h1, L0, h2⟩, hT, hK⟩ := h
  have g1 : inCl 1 := ⟨by decide, by decide⟩
  have g35 : inCl 35 := ⟨by decide, by decide⟩
  refine ⟨⟨by rw [hs.s g1]; exact m0, by rw [hs.r g1]; exact m1, by rw [hs.r g1]; exact m2, by rw [hs.r g1]; exact m3, by rw [hs.r g1]; exact m4⟩, hF.ag (hs.wk fun c hc => ?_), hS.ag hn.2 (hs.wk fun c hc => ?_) ?_, fun i a b => (hf i a b).ag (hs.wk fun c hc => ?_), ⟨h1.ag (hs.wk fun c hc => ?_), L0, h2.ag (hs.wk fun c hc => ?_)⟩, hT.ag (hs.wk fun c hc => ?_), hK.ag (hs.wk fun c hc => ?_)⟩
  · unfold inF at hc; unfold inCl; omega
  · obtain ⟨hc, -⟩ := hc; unfold inSa at hc; unfold inCl; omega
  · rw [hs.s g35]; exact hK.1
  · unfold inSt sa at hc; unfold inCl; omega
  · obtain ⟨hc, -⟩ := hc; unfold inSa at hc; unfold inCl; omega
  · unfold inQu at hc; unfold inCl; omega
  · unfold inTx at hc; unfold inCl; omega
  · subst hc; exact g35
/-- both sides stand for the same mailbox; the script -/
def LI (L : Nat) (σ : ms_T) (F : Fl) (S : Sa) (K : Int → Int) (n : Int) (T : Int → Int) : Prop := (gn σ ≤ 600000 ∧ gl σ ≤ 7302250) ∧ (gs σ 0 = (49, L) ∧ ∀ k, rg (gi σ 0 k)) ∧ ClC σ F S K n T ∧ MoC σ 232 F S K n T ∧ StW F S K n T
def Ex (L : Nat) (σ : ms_T) : Prop := ∃ F S K n T, LI L σ F S K n T
/-- what follows the class' call -/
def Aft (L j : Nat) (as : List mv_T) (σ : ms_T) (Q : mq_T) : Prop := ∀ τ x, gs τ 0 = gs σ 0 → (∀ k, gi τ 0 k = gi σ 0 k) → gs τ 232 = (9, 0) → (∀ Q' : mq_T, (∀ υ, Ex L υ → Q' (some (vI x)) υ) → Ca j (vR (some 232) :: as) τ Q') → Q (some (vI x)) τ
theorem LI.mo {L : Nat} {σ τ : ms_T} {F : Fl} {S : Sa} {K : Int → Int} {n : Int} {T : Int → Int} (h : LI L σ F S K n T) (hs : Sq σ τ inCl) : MoC τ 232 F S K n T := h.2.2.2.1.sq hs
theorem LI.aft {L j : Nat} {σ τ : ms_T} {F : Fl} {S : Sa} {K : Int → Int} {n : Int} {T : Int → Int} {as : List mv_T} {Q : mq_T} {x : Int} (h : LI L σ F S K n T) (hQ : Aft L j as σ Q) (hs : Sq σ τ inCl) (hM : ∀ Q' : mq_T, (∀ υ, Ex L υ → Q' (some (vI x)) υ) → Ca j (vR (some 232) :: as) τ Q') : Q (some (vI x)) τ := by
  have g : ¬ inCl 0 := fun z => by unfold inCl at z; omega
  exact hQ τ x (hs.2.2.1 0) (hs.2.2.2 0 g).2 (by rw [hs.2.2.1]; exact h.2.2.2.1.1.1) hM
theorem LI.fin {L : Nat} {σ τ υ : ms_T} {F F' : Fl} {S S' : Sa} {K K' : Int → Int} {n n' : Int} {T T' : Int → Int} (h : LI L σ F S K n T) (hs : Sq σ τ inCl) (hc : ClC τ F' S' K' n' T') (hm : Sm τ υ (inMx 232)) (hM : MoC υ 232 F' S' K' n' T') (hw : StW F' S' K' n' T') : Ex L υ := by
  have g : ¬ inCl 0 := fun z => by unfold inCl at z; omega
  have g' : ¬ inMx 232 0 := fun z => by unfold inMx at z; omega
  refine ⟨F', S', K', n', T', ⟨by rw [hm.1, hs.1]; exact h.1.1, by rw [hm.2.1, hs.2.1]; exact h.1.2⟩, ⟨by rw [hm.s, hs.2.2.1]; exact h.2.1.1, fun k => ?_⟩, hc.ag hw.2.1.1 (hm.ag fun c hc z => ?_), hM, hw⟩
  · rw [hm.i g', (hs.2.2.2 0 g).2]; exact h.2.1.2 k
  · unfold inCl at hc; unfold inMx at z; omega
theorem inMoMx : ∀ c, inMo 232 c → inMx 232 c := fun c hc => ⟨hc.1, hc.2.1⟩
