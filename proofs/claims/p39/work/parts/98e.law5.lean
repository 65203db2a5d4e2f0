/-! The law's loops -/
/-- the law's locals -/
abbrev lc (m : Nat) (l3 l4 : Int) (r : ml_T) : ml_T := some (vR (some 0)) :: some (vR (some 1)) :: some (vR (some m)) :: some (vI l3) :: some (vI l4) :: r
/-- at a round's head; what is made stands still -/
def At85 (L m : Nat) (l3 l4 l5 : Int) (σ0 σ : ms_T) : Prop := Fmk σ0 σ ∧ ∃ F S K n T, LW σ L m F S K n T ∧ Rd0 F S l3 l4 (4 * l5)
section LOOPS
variable {L m : Nat} {σ0 : ms_T} {Q : mq_T} {l3 l4 l5 : Int}
set_option maxHeartbeats 1000000 in
theorem law_312 {F : Fl} {S : Sa} {K : Int → Int} {n : Int} {T : Int → Int} {d : Int} {i : Int} (hi : 0 ≤ i ∧ i < l3) (h3 : l3 = nst S) (h4 : l4 = F.1)
    (hn : ∀ (σ : ms_T) (l8 l9 : Option mv_T), Fmk σ0 σ → LW σ L m F S K n T → At n_L_law 256 (lc m l3 l4 [some (vL d), none, some (vI (i + 1)), l8, l9]) [] σ Q) :
    ∀ (e : Nat) (k : Int) (σ : ms_T) (l9 : Option mv_T), k + e = l4 → 0 ≤ k → Fmk σ0 σ → LW σ L m F S K n T → At n_L_law 265 (lc m l3 l4 [some (vL d), none, some (vI i), some (vI k), l9]) [] σ Q
  | 0, k, σ, l9, he, hk, hf, h => by
    have h5 := h.2.2.2.2.1.1.2
    refine vc_L_law_265 _ _ _ _ _ _ _ _ _ _ _ ⟨fun _ => ?_, fun z => absurd (by omega) z⟩
    rw [wr_i (x := i + 1) (by omega)]
    exact hn σ _ _ hf h
  | e + 1, k, σ, l9, he, hk, hf, h => by
    have h30 := h.2.2.2.1.2.1
    obtain ⟨c1, c2⟩ := toC_ok (i := i) (f := k) h.2.2.2
    refine vc_L_law_265 _ _ _ _ _ _ _ _ _ _ _ ⟨fun z => by omega, fun _ => ⟨gs8 h.2.2.1, C_ticksToComplete h.2.2.1 h.2.2.2 fun τ hs hC => ⟨_, rfl, ?_⟩⟩⟩
    have hw2 := h.sq hs hC h.2.2.2
    have go : ∀ s0 : Int, (s0 = if rToC F S i k = -2 then 1 else 0) → At n_L_law 294 (lc m l3 l4 [some (vL d), none, some (vI i), some (vI k), some (vI (rToC F S i k))]) [vI s0] τ Q := by
      intro s0 hs0
      have fin : ∀ s1 : Int, s1 = s0 → At n_L_law 312 (lc m l3 l4 [some (vL d), none, some (vI i), some (vI k), some (vI (rToC F S i k))]) [vI s1, vI s0] τ Q := by
        intro s1 hs1
        refine vc_L_law_312 _ _ _ _ _ _ _ _ _ _ _ _ _ ⟨fun z => absurd hs1.symm z, fun _ => ⟨fun _ => ?_, fun z => absurd c2 z⟩⟩
        rw [wr_i (x := k + 1) (by omega)]
        exact law_312 hi h3 h4 hn e (k + 1) τ _ (by omega) (by omega) (hf.tr (Fmk.of hs)) hw2
      refine vc_L_law_294 _ _ _ _ _ _ _ _ _ _ _ _ ⟨gs8 hC, C_receivedBytes hC hw2.2.2.2 ⟨_, rfl, fun z => fin 0 ?_, fun z => fin 1 ?_⟩⟩
      · rw [hs0, if_neg (fun y => z (c1.mp y))]
      · rw [hs0, if_pos (c1.mpr (Decidable.not_not.mp z))]
    exact ⟨fun z => go 0 (by rw [if_neg z]), fun z => go 1 (by rw [if_pos (Decidable.not_not.mp z)])⟩
set_option maxHeartbeats 1000000 in
theorem law_256 {F : Fl} {S : Sa} {K : Int → Int} {n : Int} {T : Int → Int} {d : Int} (h3 : l3 = nst S) (h4 : l4 = F.1) (hd : ∀ (σ : ms_T) (Q : mq_T), ClC σ F S K n T → Q (some (vL d)) σ → Ca n_L_digest [vR (some 1)] σ Q) (hQ : ∀ τ, Fmk σ0 τ → Q (some (vI 1)) τ) :
    ∀ (e : Nat) (i : Int) (σ : ms_T) (l8 l9 : Option mv_T), i + e = l3 → 0 ≤ i → Fmk σ0 σ → LW σ L m F S K n T → At n_L_law 256 (lc m l3 l4 [some (vL d), none, some (vI i), l8, l9]) [] σ Q
  | 0, i, σ, l8, l9, he, hi, hf, h => by
    refine vc_L_law_256 _ _ _ _ _ _ _ _ _ _ _ ⟨fun _ => ⟨gs8 h.2.2.1, C_ticksToEmpty h.2.2.1 h.2.2.2 fun τ hs hC => ⟨_, rfl, fun z => ?_, fun _ => hd τ _ hC ⟨d, rfl, ?_⟩⟩⟩, fun z => absurd (by omega) z⟩
    · have := empN_nn (F := F) 1000000 S 0 (by decide)
      unfold rToE at z
      omega
    · have e : cmp3 d d = 0 := by unfold cmp3; rw [if_neg (by omega), if_pos rfl]
      rw [e]
      exact ⟨fun z => absurd rfl z, fun _ => ⟨Or.inr rfl, hQ τ (hf.tr (Fmk.of hs))⟩⟩
  | e + 1, i, σ, l8, l9, he, hi, hf, h => by
    refine vc_L_law_256 _ _ _ _ _ _ _ _ _ _ _ ⟨fun z => by omega, fun _ => ?_⟩
    have h0 := h.2.2.2.1.1
    exact law_312 ⟨hi, by omega⟩ h3 h4 (fun τ y8 y9 f1 w1 => law_256 h3 h4 hd hQ e (i + 1) τ y8 y9 (by omega) (by omega) f1 w1) l4.toNat 0 σ _ (by omega) (Int.le_refl _) hf h
set_option maxHeartbeats 1000000 in
theorem law_179 {x : Int} {i : Int} (hi : 0 ≤ i) (hl : 0 ≤ l5 ∧ l5 < 12)
    (hn : ∀ (σ : ms_T) (l6 l7 l8 l9 : Option mv_T), At85 L m l3 l4 (l5 + 1) σ0 σ → At n_L_law 85 (lc m l3 l4 [some (vI (l5 + 1)), l6, l7, l8, l9]) [] σ Q) :
    ∀ (e : Nat) (k : Int) (σ : ms_T) (l8 : Int) (F : Fl) (S : Sa) (K : Int → Int) (n : Int) (T : Int → Int), k + e = l4 → 0 ≤ k → Fmk σ0 σ → LW σ L m F S K n T → Rd1 F S l3 l4 (4 * l5) → At n_L_law 179 (lc m l3 l4 [some (vI l5), some (vI x), some (vI i), some (vI l8), some (vI k)]) [] σ Q
  | 0, k, σ, l8, F, S, K, n, T, he, hk, hf, h, ⟨r1, r2, r3, r4⟩ => by
    refine vc_L_law_179 _ _ _ _ _ _ _ _ _ _ _ _ ⟨fun _ => L_part (by decide) fun y y0 y1 => ⟨y, rfl, gs8 h.2.2.1, ?_⟩, fun z => absurd (by omega) z⟩
    rw [wr_i (x := 1 + y) (by omega)]
    have h0 := h.2.2.2.2.1.2.1
    obtain ⟨e1, e2⟩ := run_same (k := 1 + y) h.2.2.2 (by omega) (by omega)
    refine C_run h.2.2.1 h.2.2.2 fun τ hs hC => ⟨_, rfl, ?_⟩
    have hW := W_run (m := 1 + y) h.2.2.2
    have hw2 := h.sq hs hC hW
    rw [← r1, ← r2, ← e2]
    refine L_ref hC hW fun υ hs2 hC2 => ⟨1, rfl, fun _ => ?_, fun z => absurd (by decide) z⟩
    rw [wr_i (x := l5 + 1) (by omega), e2, r1, r2]
    exact hn υ _ _ _ _ ⟨(hf.tr (Fmk.of hs)).tr (Fmk.of hs2), F, _, _, n, T, hw2.sq hs2 hC2 hW, e2.trans r1, r2, by rw [e1]; omega, fun z => by rw [e1]; have := r4 z; omega⟩
  | e + 1, k, σ, l8, F, S, K, n, T, he, hk, hf, h, ⟨r1, r2, r3, r4⟩ => by
    have h30 := h.2.2.2.1.2.1
    obtain ⟨o1, o2⟩ := opn_same (F := F) (S := S) (i := i) (f := k)
    refine vc_L_law_179 _ _ _ _ _ _ _ _ _ _ _ _ ⟨fun z => by omega, fun _ => ⟨gs8 h.2.2.1, C_open h.2.2.1 h.2.2.2 fun τ hs hC => ⟨_, rfl, fun _ => ?_, fun _ => ?_⟩⟩⟩
    · rw [wr_i (x := k + 1) (by omega)]
      exact law_179 hi hl hn e (k + 1) τ _ F _ K n T (by omega) (by omega) (hf.tr (Fmk.of hs)) (h.sq hs hC (W_open h.2.2.2)) ⟨o2.trans r1, r2, by rw [o1]; exact r3, by rw [o1]; exact r4⟩
    · have hw2 := h.sq hs hC (W_open h.2.2.2)
      obtain ⟨q1, q2, -⟩ := reqF_same (F := F) (S := (rOpen F S i k).2) (i := i) (f := k)
      refine ⟨gs8 hC, C_requestFile hC hw2.2.2.2 fun υ hs2 hC2 => ⟨_, rfl, ?_⟩⟩
      rw [wr_i (x := k + 1) (by omega)]
      exact law_179 hi hl hn e (k + 1) υ _ F _ K n T (by omega) (by omega) ((hf.tr (Fmk.of hs)).tr (Fmk.of hs2)) (hw2.sq hs2 hC2 (W_reqF hw2.2.2.2)) ⟨(q2.trans o2).trans r1, r2, by rw [q1, o1]; exact r3, by rw [q1, o1]; exact r4⟩
theorem law_158 {x : Int} (hl : 0 ≤ l5 ∧ l5 < 12) (h3 : 1 ≤ l3) (h4 : 0 ≤ l4)
    (hn : ∀ (σ : ms_T) (l6 l7 l8 l9 : Option mv_T), At85 L m l3 l4 (l5 + 1) σ0 σ → At n_L_law 85 (lc m l3 l4 [some (vI (l5 + 1)), l6, l7, l8, l9]) [] σ Q) {σ : ms_T} {l7 l8 l9 : Option mv_T} {F : Fl} {S : Sa} {K : Int → Int} {n : Int} {T : Int → Int} (hf : Fmk σ0 σ) (h : LW σ L m F S K n T) (hr : Rd1 F S l3 l4 (4 * l5)) :
    At n_L_law 158 (lc m l3 l4 [some (vI l5), some (vI x), l7, l8, l9]) [] σ Q := by
  refine vc_L_law_158 _ _ _ _ _ _ _ _ _ _ _ _ (L_part (by omega) fun y y0 y1 => ⟨y, rfl, gs8 h.2.2.1, C_requestDirectory h.2.2.1 h.2.2.2 fun τ hs hC => ⟨_, rfl, ?_⟩⟩)
  have d := reqD_same (S := S) (i := y)
  exact law_179 y0 hl hn l4.toNat 0 τ _ F _ K n T (by omega) (by decide) (hf.tr (Fmk.of hs)) (h.sq hs hC (W_reqD h.2.2.2)) ⟨d.2.trans hr.1, hr.2.1, by rw [d.1]; exact hr.2.2.1, by rw [d.1]; exact hr.2.2.2⟩
end LOOPS
set_option maxHeartbeats 1000000 in
theorem law_85 {L m : Nat} {σ0 : ms_T} {Q : mq_T} {l3 : Int} (h3 : 1 ≤ l3) (hQ : ∀ τ, Fmk σ0 τ → Q (some (vI 1)) τ) : ∀ (e : Nat) (l5 l4 : Int) (σ : ms_T) (l6 l7 l8 l9 : Option mv_T), l5 + e = 12 → 0 ≤ l5 → 0 ≤ l4 → l4 ≤ 8 → At85 L m l3 l4 l5 σ0 σ → At n_L_law 85 (lc m l3 l4 [some (vI l5), l6, l7, l8, l9]) [] σ Q
  | 0, l5, l4, σ, l6, l7, l8, l9, he, h5, h4, h48, ⟨hf, F, S, K, n, T, h, r1, r2, r3, r4⟩ => by
    obtain ⟨d, hd⟩ := L_dig h.2.2.2
    refine vc_L_law_85 _ _ _ _ _ _ _ _ _ _ _ _ ⟨fun _ => hd σ _ h.2.2.1 ⟨d, rfl, ?_⟩, fun z => absurd (by omega) z⟩
    exact law_256 r1.symm r2.symm hd hQ l3.toNat 0 σ _ _ (by omega) (by decide) hf h
  | e + 1, l5, l4, σ, l6, l7, l8, l9, he, h5, h4, h48, ⟨hf, F, S, K, n, T, h, r1, r2, r3, r4⟩ => by
    have hA : ∀ (x : Int), At n_L_law 158 (lc m l3 l4 [some (vI l5), some (vI x), l7, l8, l9]) [] σ Q := fun x =>
      law_158 ⟨h5, by omega⟩ h3 h4 (fun τ y6 y7 y8 y9 hy => law_85 h3 hQ e (l5 + 1) l4 τ y6 y7 y8 y9 (by omega) (by omega) h4 h48 hy) hf h ⟨r1, r2, r3, fun z => by have := r4 z; omega⟩
    refine vc_L_law_85 _ _ _ _ _ _ _ _ _ _ _ _ ⟨fun z => by omega, fun _ => ?_⟩
    rw [wr_i (x := 8 + l5) (by omega)]
    refine L_cell h.1 (by omega) fun x => ⟨x, rfl, L_part (by decide) fun y y0 y1 => ⟨y, rfl, fun _ => hA x, fun _ => ⟨fun _ => hA x, fun z8 => ?_⟩⟩⟩
    refine L_part (by decide) fun a a0 a1 => ⟨a, rfl, L_part (by decide) fun b b0 b1 => ⟨b, rfl, gs8 h.2.2.1, ?_⟩⟩
    rw [wr_i (x := 1 + a) (by omega)]
    refine C_store h.2.2.1 h.2.2.2 fun τ hs hC => ⟨_, rfl, ?_⟩
    have hst := store_ok (l := a) (s := b) h.2.2.2 (by omega) r4 ⟨a0, a1⟩ ⟨b0, b1⟩
    have hW := W_store (l := 1 + a) (s := b) (t := 1000) h.2.2.2
    rw [hst] at hC hW
    rw [hst]
    refine ⟨fun _ => ?_, fun z => absurd r2 z⟩
    rw [wr_i (x := l4 + 1) (by omega)]
    exact law_158 ⟨h5, by omega⟩ h3 (by omega) (fun υ y6 y7 y8 y9 hy => law_85 h3 hQ e (l5 + 1) (l4 + 1) υ y6 y7 y8 y9 (by omega) (by omega) (by omega) (by omega) hy) (hf.tr (Fmk.of hs)) (h.sq hs hC hW) ⟨r1, by show F.1 + 1 = l4 + 1; omega, r3, fun _ => by rw [stoF_1]; exact Int.le_refl _⟩
/-- cells up to b as they were -/
def Kp (b : Nat) (σ τ : ms_T) : Prop := ∀ c, c ≤ b → gs τ c = gs σ c ∧ (∀ k, gr τ c k = gr σ c k) ∧ ∀ k, gi τ c k = gi σ c k
theorem Kp.tr {b : Nat} {σ τ υ : ms_T} (h : Kp b σ τ) (k : Kp b τ υ) : Kp b σ υ := fun c hc => ⟨(k c hc).1.trans (h c hc).1, fun i => ((k c hc).2.1 i).trans ((h c hc).2.1 i), fun i => ((k c hc).2.2 i).trans ((h c hc).2.2 i)⟩
theorem Kp.le {b b' : Nat} {σ τ : ms_T} (h : Kp b σ τ) (hb : b' ≤ b) : Kp b' σ τ := fun c hc => h c (Nat.le_trans hc hb)
/-- the law's first locals -/
abbrev l0s : ml_T := [some (vR (some 0)), some (vR (some 1)), none, none, none, none, none, none, none, none]
set_option maxHeartbeats 1000000 in
theorem law_40 {L : Nat} {σ : ms_T} {Q : mq_T} (hs0 : gs σ 0 = (49, L)) (hg : gn σ = 924) (hC : ClC σ Fl0 Sa0 K0 0 (fun _ => 0)) (hQ : ∀ τ, gn τ = 925 → gl τ = gl σ + 25 → Q (some (vI 1)) τ) : At n_L_law 40 l0s [] σ Q := by
  have hW : StW Fl0 Sa0 K0 0 (fun _ => 0) := st_w0
  refine vc_L_law_40 _ _ _ _ (L_ref hC hW fun τ hs hC1 => ⟨1, rfl, fun _ => ?_, fun z => absurd (by decide) z⟩)
  refine vc_L_law_51 _ _ _ _ ⟨by decide, by decide, ?_⟩
  have hgt : gn τ = 924 := hs.1.trans hg
  rw [hgt]
  have h1 : LW (alc τ 50 (25 : Int).toNat (25 : Int).toNat) L 925 Fl0 Sa0 K0 0 (fun _ => 0) := by
    refine ⟨?_, ?_, hC1.ag ⟨by decide, by decide⟩ fun c hc => ?_, hW⟩
    · rw [gs_alc, hgt, if_neg (by decide), hs.2.2.1]; exact hs0
    · rw [gs_alc, hgt, if_pos rfl]; rfl
    · have hc : ¬ c = 924 + 1 := by unfold inCl at hc; omega
      exact ⟨by rw [gs_alc, hgt, if_neg hc], fun k => by rw [gr_alc, hgt, if_neg hc], fun k => by rw [gi_alc, hgt, if_neg hc]⟩
  refine L_adds (m := 925) h1 (by decide) rfl fun υ S' x x1 x5 f1 w1 n1 t1 => ⟨x, rfl, fun z => by omega, fun _ => ?_⟩
  have hF0 : (Fl0.1 : Int) = 0 := rfl
  rw [← n1]
  refine L_ref (F := Fl0) w1.2.2.1 w1.2.2.2 fun ω s2 hC2 => ⟨1, rfl, fun _ => ?_, fun z => absurd (by decide) z⟩
  have hn0 : now S' = 0 := t1
  exact law_85 (L := L) (m := 925) (σ0 := alc τ 50 (25 : Int).toNat (25 : Int).toNat) (l3 := nst S') (by omega) (fun ρ hf => hQ ρ (by rw [hf.1, gn_alc, hgt]) (by rw [hf.2.1, gl_alc, hs.2.1]; rfl)) 12 0 0 ω _ _ _ _ (by decide) (by decide) (by decide) (by decide)
    ⟨f1.tr (Fmk.of s2), Fl0, S', K0, 0, fun _ => 0, w1.sq s2 hC2 w1.2.2.2, rfl, rfl, by rw [hn0]; decide, fun z => absurd z (by decide)⟩
/-- the closed runs: three objects more, nothing below them changed -/
def Cld : Prop := ∀ (σ : ms_T) (Q : mq_T), gn σ = 231 → gl σ = 1946 → (∀ τ, gn τ = 924 → gl τ = 7784 → Kp 231 σ τ → At n_L_law 40 l0s [] τ Q) → At n_L_law 8 l0s [] σ Q
set_option maxHeartbeats 1000000 in
theorem law_of (hcl : Cld) (L : Nat) (xs : Nat → Int32) : Ca n_L_law [vR (some 0)] (st0 L xs) (fun v τ => v = some (vI 1) ∧ gn τ ≤ 600000 ∧ gl τ ≤ 7302250) := by
  refine vc_L_law _ _ _ ?_
  have hg0 : gn (st0 L xs) = 0 := rfl
  rw [hg0]
  refine ⟨by rw [gs_alc, hg0, if_pos rfl], N_X8 (by rw [gn_alc, hg0]) (by rw [gs_alc, hg0, if_pos rfl]) fun τ ht hC => ⟨rfl, ?_⟩⟩
  refine hcl τ _ (by rw [ht.1, gn_alc, hg0]) (by rw [ht.2.1, gl_alc]; rfl) fun υ g1 g2 kp => ?_
  have hs0 : gs υ 0 = (49, L) := by
    rw [(kp 0 (by decide)).1, ht.2.2.s (c := 0) (by decide), gs_alc, hg0, if_neg (by decide)]
    rfl
  refine law_40 hs0 g1 (hC.ag ⟨by decide, by decide⟩ fun c hc => kp c (by unfold inCl at hc; omega)) fun ρ r1 r2 => ⟨rfl, by omega, by omega⟩
