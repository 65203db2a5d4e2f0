/-! The law's small methods: part, cell, adds -/
theorem bAnd_nn (a : Int) : 0 ≤ bAnd a 2147483647 := by
  have h : ∀ y : BitVec 32, 0 ≤ (y &&& 2147483647#32).toInt := by
    intro y
    have e : (y &&& 2147483647#32).toNat < 2147483648 := by
      rw [BitVec.toNat_and]
      exact Nat.lt_of_le_of_lt Nat.and_le_right (by decide)
    rw [BitVec.toInt_eq_toNat_of_lt (by omega)]
    omega
  exact h (Int32.ofInt a).toBitVec
theorem L_part {σ : ms_T} {Q : mq_T} {v n : Int} (hn : 0 < n) (hQ : ∀ x, 0 ≤ x → x < n → Q (some (vI x)) σ) : Ca n_L_part [vI v, vI n] σ Q :=
  vc_L_part _ _ _ _ ⟨by omega, hQ _ (Int.tmod_nonneg _ (bAnd_nn v)) (Int.tmod_lt_of_pos _ hn)⟩
theorem L_cell {σ : ms_T} {Q : mq_T} {L : Nat} {k : Int} (hs : gs σ 0 = (49, L)) (hk : 0 ≤ k) (hQ : ∀ x, Q (some (vI x)) σ) : Ca n_L_cell [vR (some 0), vI k] σ Q := by
  refine vc_L_cell _ _ _ _ ?_
  rw [hs]
  refine ⟨rfl, fun z => ?_, fun _ => hQ _⟩
  have z : ¬ (L : Int) = 0 := z
  exact ⟨rfl, z, rfl, Int.tmod_nonneg _ hk, Int.tmod_lt_of_pos _ (by omega), by decide, rfl, z, hQ _⟩
/-- what stands in the law's world: the script, its own array at m, the mailbox -/
def LW (σ : ms_T) (L m : Nat) (F : Fl) (S : Sa) (K : Int → Int) (n : Int) (T : Int → Int) : Prop := gs σ 0 = (49, L) ∧ gs σ m = (50, 25) ∧ ClC σ F S K n T ∧ StW F S K n T
/-- nothing made -/
def Fmk (σ τ : ms_T) : Prop := gn τ = gn σ ∧ gl τ = gl σ ∧ ∀ c, gs τ c = gs σ c
theorem Fmk.rf {σ : ms_T} : Fmk σ σ := ⟨rfl, rfl, fun _ => rfl⟩
theorem Fmk.tr {σ τ υ : ms_T} (h : Fmk σ τ) (k : Fmk τ υ) : Fmk σ υ := ⟨k.1.trans h.1, k.2.1.trans h.2.1, fun c => (k.2.2 c).trans (h.2.2 c)⟩
theorem Fmk.of {σ τ : ms_T} {P : Nat → Prop} (h : Sq σ τ P) : Fmk σ τ := ⟨h.1, h.2.1, h.2.2.1⟩
theorem LW.sq {σ τ : ms_T} {L m : Nat} {F F' : Fl} {S S' : Sa} {K K' : Int → Int} {n n' : Int} {T T' : Int → Int} (h : LW σ L m F S K n T) (hs : Sq σ τ inCl) (hC : ClC τ F' S' K' n' T') (hw : StW F' S' K' n' T') : LW τ L m F' S' K' n' T' :=
  ⟨by rw [hs.2.2.1]; exact h.1, by rw [hs.2.2.1]; exact h.2.1, hC, hw⟩
theorem LW.wr {σ : ms_T} {L m k : Nat} {v : Int} {F : Fl} {S : Sa} {K : Int → Int} {n : Int} {T : Int → Int} (h : LW σ L m F S K n T) (hm : 231 < m) : LW (sI σ m k v) L m F S K n T :=
  ⟨h.1, h.2.1, h.2.2.1.ag ⟨h.2.2.2.2.1.1.1, h.2.2.2.2.1.1.2⟩ fun c hc => ⟨rfl, fun _ => rfl, fun j => by rw [gi_sI, if_neg (fun z => by unfold inCl at hc; omega)]⟩, h.2.2.2⟩
theorem gs8 {σ : ms_T} {F : Fl} {S : Sa} {K : Int → Int} {n : Int} {T : Int → Int} (h : ClC σ F S K n T) : gs σ 1 = (8, 0) := h.1.1
set_option maxHeartbeats 4000000 in
theorem L_adds_140 {σ : ms_T} {Q : mq_T} {L m : Nat} {F : Fl} {S : Sa} {K : Int → Int} {n : Int} {T : Int → Int} {l3 l4 i l6 s0 a b c d : Int} (h : LW σ L m F S K n T) (hm : 231 < m) (hi : nst S = i) (hi5 : i < 5) (h0 : 0 ≤ s0 ∧ s0 ≤ 1000) (ha : gi σ m (5 * i).toNat = a) (hb : gi σ m (5 * i + 1).toNat = b) (hc : gi σ m (5 * i + 2).toNat = c) (hd : gi σ m (5 * i + 3).toNat = d) (hp : addP a b c d)
    (hQ : ∀ τ S', Fmk σ τ → LW τ L m F S' K n T → nst S' = i + 1 → now S' = now S → At n_L_adds 16 [some (vR (some 1)), some (vR (some m)), some (vR (some 0)), some (vI l3), some (vI l4), some (vI (i + 1)), some (vI l6)] [] τ Q) :
    At n_L_adds 140 [some (vR (some 1)), some (vR (some m)), some (vR (some 0)), some (vI l3), some (vI l4), some (vI i), some (vI l6)] [vI s0, vI (5 * i + 4), vR (some m)] σ Q := by
  have hi0 : 0 ≤ i := hi ▸ h.2.2.2.2.1.1.1
  refine vc_L_adds_140 _ _ _ _ _ _ _ _ _ _ _ _ ?_
  have e5 : wr (5 * i) = 5 * i := wr_i (by omega)
  have e1 : wr (5 * i + 1) = 5 * i + 1 := wr_i (by omega)
  have e2 : wr (5 * i + 2) = 5 * i + 2 := wr_i (by omega)
  have e3 : wr (5 * i + 3) = 5 * i + 3 := wr_i (by omega)
  have e4 : wr (5 * i + 4) = 5 * i + 4 := wr_i (by omega)
  have hw := h.wr (k := (5 * i + 4).toNat) (v := s0) hm
  have hgm : gs σ m = (50, 25) := h.2.1
  simp only [isS_some, e5, e1, e2, e3, e4, gs_sI, hgm, gs8 h.2.2.1, true_and]
  have r : ∀ j : Int, 0 ≤ j → j < 5 * i + 4 → gi (sI σ m (5 * i + 4).toNat s0) m j.toNat = gi σ m j.toNat := fun j z1 z2 => by rw [gi_sI, if_neg (fun z => by omega)]
  have q : ∀ j : Int, 0 ≤ j → j ≤ 5 * i + 4 → 0 ≤ j ∧ j < ((25 : Nat) : Int) := fun j z1 z2 => by omega
  refine ⟨(q _ (by omega) (by omega)).1, (q _ (by omega) (by omega)).2, (q _ (by omega) (by omega)).1, (q _ (by omega) (by omega)).2, (q _ (by omega) (by omega)).1, (q _ (by omega) (by omega)).2, (q _ (by omega) (by omega)).1, (q _ (by omega) (by omega)).2, (q _ (by omega) (by omega)).1, (q _ (by omega) (by omega)).2, ?_⟩
  rw [r (5 * i) (by omega) (by omega), r (5 * i + 1) (by omega) (by omega), r (5 * i + 2) (by omega) (by omega), r (5 * i + 3) (by omega) (by omega), ha, hb, hc, hd]
  refine C_addStation hw.2.2.1 hw.2.2.2 fun τ hs hC => ?_
  have hW := W_add (p := a) (o := b) (d := c) (r := d) hw.2.2.2
  have hr : rAdd S a b c d = (nst S, admS S a b c d) := by
    unfold rAdd
    rw [cif_p hp, cif_n (by omega)]
  rw [hr] at hC hW
  rw [hr]
  have hw2 := hw.sq hs hC hW
  have hg2 : gs τ m = (50, 25) := hw2.2.1
  have hq2 : gi τ m (5 * i + 4).toNat = s0 := by
    rw [(hs.2.2.2 m (fun z => by unfold inCl at z; omega)).2, gi_sI, if_pos ⟨rfl, rfl⟩]
  refine ⟨nst S, rfl, fun z => absurd hi z, fun _ => ?_⟩
  simp only [hg2, gs8 hC, true_and]
  refine ⟨(q _ (by omega) (by omega)).1, (q _ (by omega) (by omega)).2, ?_⟩
  rw [hq2]
  refine C_setLoss hC hW fun υ hs2 hC2 => ?_
  have hW2 := W_loss (i := i) (r := s0) hW
  have hlp : losP (admS S a b c d) i s0 := ⟨⟨hi0, by show i < nst S + 1; omega⟩, h0⟩
  have hf : sts S (nst S) = frs := h.2.2.2.2.2.2.2.2.1 (nst S) (by omega) (by omega)
  have hz : sc (sts (admS S a b c d) i) 4 = 0 := by
    show sc (up (sts S) (nst S) _ i) 4 = 0
    rw [← hi, up_eq, hf]
    rfl
  have hl : rLoss (admS S a b c d) i s0 = (0, losS (admS S a b c d) i s0) := by
    unfold rLoss
    rw [cif_p hlp, hz]
  rw [hl] at hC2 hW2
  rw [hl]
  refine ⟨0, rfl, fun _ => ?_, fun z => absurd rfl z⟩
  rw [wr_i (x := i + 1) (by omega)]
  exact hQ υ _ (Fmk.tr (σ := σ) (τ := sI σ m (5 * i + 4).toNat s0) ⟨rfl, rfl, fun _ => rfl⟩ ((Fmk.of hs).tr (Fmk.of hs2))) (hw2.sq hs2 hC2 hW2) (by show nst S + 1 = i + 1; omega) rfl
set_option maxHeartbeats 4000000 in
theorem L_adds_16 {Q : mq_T} {L m : Nat} {F : Fl} {K : Int → Int} {n : Int} {T : Int → Int} {l4 : Int} {σ0 : ms_T} {t : Int} (hm : 231 < m) (h4 : l4 ≤ 5) (hQ : ∀ τ S', Fmk σ0 τ → LW τ L m F S' K n T → nst S' = l4 → now S' = t → Q (some (vI l4)) τ) :
    ∀ (d : Nat) (i : Int) (S : Sa) (σ : ms_T) (l6 : Option mv_T), i + d = l4 → 0 ≤ i → Fmk σ0 σ → LW σ L m F S K n T → nst S = i → now S = t → At n_L_adds 16 [some (vR (some 1)), some (vR (some m)), some (vR (some 0)), some (vI 0), some (vI l4), some (vI i), l6] [] σ Q
  | 0, i, S, σ, l6, e, hi0, hf, h, hi, ht => by
    refine vc_L_adds_16 _ _ _ _ _ _ _ _ _ ⟨fun _ => ?_, fun z => absurd (by omega) z⟩
    exact hQ σ S hf h (by omega) ht
  | d + 1, i, S, σ, l6, e, hi0, hf, h, hi, ht => by
    refine vc_L_adds_16 _ _ _ _ _ _ _ _ _ ⟨fun z => by omega, fun _ => ?_⟩
    have e5 : wr (5 * i) = 5 * i := wr_i (by omega)
    have e1 : wr (5 * i + 1) = 5 * i + 1 := wr_i (by omega)
    have e2 : wr (5 * i + 2) = 5 * i + 2 := wr_i (by omega)
    have e3 : wr (5 * i + 3) = 5 * i + 3 := wr_i (by omega)
    have e4 : wr (5 * i + 4) = 5 * i + 4 := wr_i (by omega)
    have e0 : wr (wr ((0 : Int) + 1) + i) = 1 + i := by rw [wr_i (x := (0 : Int) + 1) (by omega), wr_i (by omega)]; omega
    rw [e0]
    refine L_cell h.1 (by omega) fun x => ⟨x, rfl, L_part (by decide) fun a a0 a1 => ⟨a, rfl, ?_⟩⟩
    have q : ∀ j : Int, 0 ≤ j → j ≤ 5 * i + 4 → 0 ≤ j ∧ j < ((25 : Nat) : Int) := fun j z1 z2 => by omega
    have hgm : gs σ m = (50, 25) := h.2.1
    simp only [e5, e1, e2, e3, e4, gs_sI, hgm, true_and]
    refine ⟨(q _ (by omega) (by omega)).1, (q _ (by omega) (by omega)).2, ?_⟩
    rw [wr_i (x := 4 + a) (by omega)]
    refine L_part (by decide) fun b b0 b1 => ⟨b, rfl, ?_⟩
    simp only [gs_sI, hgm, true_and]
    refine ⟨(q _ (by omega) (by omega)).1, (q _ (by omega) (by omega)).2, (q _ (by omega) (by omega)).1, (q _ (by omega) (by omega)).2, ?_⟩
    have r1 : gi (sI (sI σ m (5 * i).toNat (4 + a)) m (5 * i + 1).toNat b) m (5 * i).toNat = 4 + a := by
      rw [gi_sI, if_neg (fun z => by omega), gi_sI, if_pos ⟨rfl, rfl⟩]
    rw [r1]
    refine L_part (by omega) fun c c0 c1 => ⟨c, rfl, ?_⟩
    simp only [gs_sI, hgm, true_and]
    refine ⟨(q _ (by omega) (by omega)).1, (q _ (by omega) (by omega)).2, ?_⟩
    rw [wr_i (x := 1 + c) (by omega)]
    refine L_part (by decide) fun d2 d0 d1 => ⟨d2, rfl, ?_⟩
    simp only [gs_sI, hgm, true_and]
    refine ⟨(q _ (by omega) (by omega)).1, (q _ (by omega) (by omega)).2, ?_⟩
    have hW4 := (((h.wr (k := (5 * i).toNat) (v := 4 + a) hm).wr (k := (5 * i + 1).toNat) (v := b) hm).wr (k := (5 * i + 2).toNat) (v := 1 + c) hm).wr (k := (5 * i + 3).toNat) (v := d2) hm
    have v0 : gi (sI (sI (sI (sI σ m (5 * i).toNat (4 + a)) m (5 * i + 1).toNat b) m (5 * i + 2).toNat (1 + c)) m (5 * i + 3).toNat d2) m (5 * i).toNat = 4 + a := by
      rw [gi_sI, if_neg (fun z => by omega), gi_sI, if_neg (fun z => by omega), gi_sI, if_neg (fun z => by omega), gi_sI, if_pos ⟨rfl, rfl⟩]
    have v1 : gi (sI (sI (sI (sI σ m (5 * i).toNat (4 + a)) m (5 * i + 1).toNat b) m (5 * i + 2).toNat (1 + c)) m (5 * i + 3).toNat d2) m (5 * i + 1).toNat = b := by
      rw [gi_sI, if_neg (fun z => by omega), gi_sI, if_neg (fun z => by omega), gi_sI, if_pos ⟨rfl, rfl⟩]
    have v2 : gi (sI (sI (sI (sI σ m (5 * i).toNat (4 + a)) m (5 * i + 1).toNat b) m (5 * i + 2).toNat (1 + c)) m (5 * i + 3).toNat d2) m (5 * i + 2).toNat = 1 + c := by
      rw [gi_sI, if_neg (fun z => by omega), gi_sI, if_pos ⟨rfl, rfl⟩]
    have v3 : gi (sI (sI (sI (sI σ m (5 * i).toNat (4 + a)) m (5 * i + 1).toNat b) m (5 * i + 2).toNat (1 + c)) m (5 * i + 3).toNat d2) m (5 * i + 3).toNat = d2 := by
      rw [gi_sI, if_pos ⟨rfl, rfl⟩]
    have hp : addP (4 + a) b (1 + c) d2 := ⟨by omega, by omega, by omega, by omega⟩
    have hgo : ∀ s0 : Int, 0 ≤ s0 ∧ s0 ≤ 1000 → At n_L_adds 140 [some (vR (some 1)), some (vR (some m)), some (vR (some 0)), some (vI 0), some (vI l4), some (vI i), some (vI x)] [vI s0, vI (5 * i + 4), vR (some m)] (sI (sI (sI (sI σ m (5 * i).toNat (4 + a)) m (5 * i + 1).toNat b) m (5 * i + 2).toNat (1 + c)) m (5 * i + 3).toNat d2) Q := fun s0 z =>
      L_adds_140 hW4 hm hi (by omega) z v0 v1 v2 v3 hp fun τ S' f1 f2 f3 f4 => L_adds_16 hm h4 hQ d (i + 1) S' τ _ (by omega) (by omega) (hf.tr f1) f2 f3 (f4.trans ht)
    refine L_part (by decide) fun y y0 y1 => ⟨y, rfl, fun _ => hgo 0 ⟨by decide, by decide⟩, fun _ => L_part (by decide) fun w w0 w1 => ⟨w, rfl, hgo w ⟨w0, by omega⟩⟩⟩
theorem L_adds {σ : ms_T} {Q : mq_T} {L m : Nat} {F : Fl} {S : Sa} {K : Int → Int} {n : Int} {T : Int → Int} (h : LW σ L m F S K n T) (hm : 231 < m) (hz : nst S = 0) (hQ : ∀ τ S' x, 1 ≤ x → x ≤ 5 → Fmk σ τ → LW τ L m F S' K n T → nst S' = x → now S' = now S → Q (some (vI x)) τ) : Ca n_L_adds [vR (some 1), vR (some m), vR (some 0), vI 0] σ Q := by
  refine vc_L_adds _ _ _ _ _ _ (L_cell h.1 (by decide) fun x => ⟨x, rfl, L_part (by decide) fun a a0 a1 => ⟨a, rfl, ?_⟩⟩)
  rw [wr_i (x := 1 + a) (by omega)]
  exact L_adds_16 hm (by omega) (fun τ S' f1 f2 f3 f4 => hQ τ S' _ (by omega) (by omega) f1 f2 f3 f4) (1 + a).toNat 0 S σ _ (by omega) (Int.le_refl _) Fmk.rf h hz rfl
