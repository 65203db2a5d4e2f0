/-! The mailbox' constructor and the reference's -/
def Fl0 : Fl := (0, fun _ _ => 0)
def K0 : Int → Int := fun w => if w = 0 then -1 else 0
theorem SaN.ag {σ τ : ms_T} {t : Nat} (h : SaN σ t) (hs : Ag σ τ (inSa t)) : SaN τ t := by
  have g : inSa t (t + 28) := ⟨by omega, by omega⟩
  have hf : gs τ (t + 28) = (1, 0) := by rw [hs.s g]; exact h.2.2.1
  refine ⟨h.1.ag (by decide) (hs.wk fun c hc => hc.1) hf, fun i a b => (h.2.1 i a b).ag (hs.wk fun c hc => ?_), hf, by rw [hs.i g]; exact h.2.2.2⟩
  unfold inSt sa at hc
  unfold inSa
  omega
theorem N_X8 {σ : ms_T} {Q : mq_T} (hg : gn σ = 1) (hs : gs σ 1 = (8, 0)) (hQ : ∀ τ, Nw σ τ 1 230 1942 → ClC τ Fl0 Sa0 K0 0 (fun _ => 0) → Q none τ) : Ca n_X8_init [vR (some 1)] σ Q := by
  refine vc_X8_init _ _ _ ?_
  rw [hg]
  refine ⟨by simp [gs_alc, hg], N_X0 (a := 2) (by rw [gn_alc, hg]) (by simp [gs_alc, hg]) (fun j => by simp [gi_alc, hg]) fun τ ht hF => ⟨rfl, ?_⟩⟩
  have t0 : Nw σ τ 1 5 125 := ((Nw.rf (σ := σ) (a := 1)).al (kd := 0) (len := 0) (k := 5) (by omega)).tr ht (by omega)
  have tg : gn τ = 6 := by rw [t0.1, hg]
  have t1 : gs τ 1 = (8, 0) := by rw [ht.2.2.s (c := 1) (by decide), gs_alc, hg]; exact hs
  simp only [gn_sR, tg]
  refine ⟨t1, by simp [gs_alc, gs_sR, gn_sR, tg, t1], by simp [gs_alc, gn_sR, tg], ?_⟩
  have er : gr (alc (sR τ 1 0 (some 2)) 6 0 7) 1 0 = some 2 := by simp [gr_alc, gr_sR, gn_sR, tg]
  have er' : gr (alc (sR τ 1 0 (some (1 + 1))) 6 0 7) 1 0 = some 2 := er
  rw [er']
  refine N_X6 (t := 7) (by simp [gn_alc, gn_sR, tg]) (by simp [gs_alc, gn_sR, tg]) (fun j => by simp [gi_alc, gn_sR, tg]) fun υ hu hS => ⟨rfl, ?_⟩
  have u0 : Nw σ υ 1 115 987 := ((t0.wR (b := 1) (k := 0) (v := some 2) (by omega)).al (kd := 6) (len := 0) (k := 7) (by omega)).tr hu (by omega)
  have ug : gn υ = 116 := by rw [u0.1, hg]
  have uk : ∀ c, c < 7 → gs υ c = gs τ c ∧ (∀ k, gr υ c k = if c = 1 ∧ k = 0 then some 2 else gr τ c k) ∧ ∀ k, gi υ c k = gi τ c k := fun c hc => ⟨by rw [hu.2.2.s hc, gs_alc, gn_sR, tg, if_neg (by omega), gs_sR], fun k => by rw [hu.2.2.r hc, gr_alc, gn_sR, tg, if_neg (by omega), gr_sR], fun k => by rw [hu.2.2.i hc, gi_alc, gn_sR, tg, if_neg (by omega), gi_sR]⟩
  have u1 : gs υ 1 = (8, 0) := by rw [(uk 1 (by omega)).1, t1]
  simp only [gn_sR, ug]
  refine ⟨u1, by simp [gs_alc, gs_sR, gn_sR, ug, u1], by simp [gs_alc, gn_sR, ug], ?_⟩
  have er2 : gr (alc (sR υ 1 1 (some (6 + 1))) 6 0 7) 1 0 = some 2 := by simp [gr_alc, gr_sR, gn_sR, ug, (uk 1 (by omega)).2.1]
  rw [er2]
  refine N_X6 (t := 117) (by simp [gn_alc, gn_sR, ug]) (by simp [gs_alc, gn_sR, ug]) (fun j => by simp [gi_alc, gn_sR, ug]) fun ω ho hS2 => ⟨rfl, ?_⟩
  have o0 : Nw σ ω 1 225 1849 := ((u0.wR (b := 1) (k := 1) (v := some 7) (by omega)).al (kd := 6) (len := 0) (k := 7) (by omega)).tr ho (by omega)
  have og : gn ω = 226 := by rw [o0.1, hg]
  have ok : ∀ c, c < 117 → gs ω c = gs υ c ∧ (∀ k, gr ω c k = if c = 1 ∧ k = 1 then some 7 else gr υ c k) ∧ ∀ k, gi ω c k = gi υ c k := fun c hc => ⟨by rw [ho.2.2.s hc, gs_alc, gn_sR, ug, if_neg (by omega), gs_sR], fun k => by rw [ho.2.2.r hc, gr_alc, gn_sR, ug, if_neg (by omega), gr_sR], fun k => by rw [ho.2.2.i hc, gi_alc, gn_sR, ug, if_neg (by omega), gi_sR]⟩
  have o1 : gs ω 1 = (8, 0) := by rw [(ok 1 (by omega)).1, u1]
  simp only [gn_sR, og]
  refine ⟨o1, by simp [gs_alc, gn_sR, og], ?_⟩
  refine N_X5 (a := 227) (by simp [gn_alc, gn_sR, og]) (by simp [gs_alc, gn_sR, og]) (fun j => by simp [gi_alc, gn_sR, og]) fun ρ hp hT => ⟨rfl, ?_, ?_⟩
  · rw [hp.2.2.s (c := 1) (by omega), gs_alc, gn_sR, og, if_neg (by omega), gs_sR, o1]
  have p0 : Nw σ ρ 1 230 1942 := ((o0.wR (b := 1) (k := 2) (v := some 117) (by omega)).al (kd := 5) (len := 0) (k := 6) (by omega)).tr hp (by omega)
  have pk : ∀ c, c < 227 → gs ρ c = gs ω c ∧ (∀ k, gr ρ c k = if c = 1 ∧ k = 2 then some 117 else gr ω c k) ∧ ∀ k, gi ρ c k = gi ω c k := fun c hc => ⟨by rw [hp.2.2.s hc, gs_alc, gn_sR, og, if_neg (by omega), gs_sR], fun k => by rw [hp.2.2.r hc, gr_alc, gn_sR, og, if_neg (by omega), gr_sR], fun k => by rw [hp.2.2.i hc, gi_alc, gn_sR, og, if_neg (by omega), gi_sR]⟩
  have aq : ∀ R : Nat → Prop, (∀ c, R c → ¬ c = 1) → Ag ρ (sR ρ 1 3 (some (226 + 1))) R := fun R hR => Sq.ag (P := fun c => c = 1) (Sq.rf.sr rfl) hR
  have a3 : ∀ R : Nat → Prop, (∀ c, R c → ¬ c = 1 ∧ c < 227) → Ag ω ρ R := fun R hR c hc => ⟨(pk c (hR c hc).2).1, fun k => by rw [(pk c (hR c hc).2).2.1, if_neg (fun z => (hR c hc).1 z.1)], (pk c (hR c hc).2).2.2⟩
  have a2 : ∀ R : Nat → Prop, (∀ c, R c → ¬ c = 1 ∧ c < 117) → Ag υ ω R := fun R hR c hc => ⟨(ok c (hR c hc).2).1, fun k => by rw [(ok c (hR c hc).2).2.1, if_neg (fun z => (hR c hc).1 z.1)], (ok c (hR c hc).2).2.2⟩
  have a1 : ∀ R : Nat → Prop, (∀ c, R c → ¬ c = 1 ∧ c < 7) → Ag τ υ R := fun R hR c hc => ⟨(uk c (hR c hc).2).1, fun k => by rw [(uk c (hR c hc).2).2.1, if_neg (fun z => (hR c hc).1 z.1)], (uk c (hR c hc).2).2.2⟩
  have hF' := (((hF.ag (a1 _ fun c hc => by unfold inF at hc; omega)).ag (a2 _ fun c hc => by unfold inF at hc; omega)).ag (a3 _ fun c hc => by unfold inF at hc; omega)).ag (aq _ fun c hc => by unfold inF at hc; omega)
  have hS' := ((hS.ag (a2 _ fun c hc => by unfold inSa at hc; omega)).ag (a3 _ fun c hc => by unfold inSa at hc; omega)).ag (aq _ fun c hc => by unfold inSa at hc; omega)
  have hS2' := (hS2.ag (a3 _ fun c hc => by unfold inSa at hc; omega)).ag (aq _ fun c hc => by unfold inSa at hc; omega)
  have hT' := hT.ag (aq _ fun c hc => by unfold inTx at hc; omega)
  refine hQ _ (p0.wR (b := 1) (k := 3) (v := some (226 + 1)) (by omega)) ⟨⟨?_, ?_, ?_, ?_, ?_⟩, hF', hS'.1, fun i a b => hS'.2.1 i a b, ⟨hS2'.1.1, ?_⟩, hT', hS'.2.2.1, fun _ => hS'.2.2.2, fun z => absurd z (by decide)⟩
  · rw [gs_sR, (pk 1 (by omega)).1, o1]
  · simp [gr_sR, (pk 1 (by omega)).2.1, (ok 1 (by omega)).2.1, (uk 1 (by omega)).2.1]
  · simp [gr_sR, (pk 1 (by omega)).2.1, (ok 1 (by omega)).2.1]
  · simp [gr_sR, (pk 1 (by omega)).2.1]
  · simp [gr_sR]
  · exact ⟨[], hS2'.1.2.2.2.2.1⟩
