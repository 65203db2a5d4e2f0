/-- what a request still asks for, at most -/
def wtR (F : Fl) (r : Rq) : Int := if ln (rho r) ≤ 0 then 0 else if rfl_ r = -1 then ln (rho r) + cnF F (lb (rho r) 0) else sizeL (rho r)
theorem size_nn {L : Iv} (h : ok L) : 0 ≤ sizeL L := (sz_bd h (ln L) (ln_nn L) (Int.le_refl _)).1
theorem wtR_nn {F : Fl} {r : Rq} (hF : FW F) (h : ok (rho r)) : 0 ≤ wtR F r := by
  have := size_nn h
  have := cnF_bd (a := lb (rho r) 0) hF
  unfold wtR
  split
  · exact Int.le_refl _
  · split <;> omega
theorem wt_snd {F : Fl} {S : Sa} {r : Rq} (hF : FW F) (h : RqW F S r) : wtR F (sndR F S r) + 1 ≤ wtR F r := by
  obtain ⟨h1, h2, hk, h4, h5, h6⟩ := h
  have h0 := hk.2 0 (by omega) (by omega)
  have cb := cnF_bd (a := lb (rho r) 0) hF
  have er : rho (sndR F S r) = cutL (rho r) (sndF F (now S) r).2.2.2 := rfl
  have ef : rfl_ (sndR F S r) = rfl_ r := rfl
  have e1 : wtR F r = if rfl_ r = -1 then ln (rho r) + cnF F (lb (rho r) 0) else sizeL (rho r) := by
    unfold wtR
    rw [if_neg (by omega)]
  by_cases c : rfl_ r = -1
  · rw [e1, if_pos c]
    have big : ∀ u, sndH F (now S) r = cutL (rho r) u → (u < le_ (rho r) 0 → cnF F (u + 1) + 1 ≤ cnF F (lb (rho r) 0)) → wtR F (sndR F S r) + 1 ≤ ln (rho r) + cnF F (lb (rho r) 0) := by
      intro u eu hc
      have er2 : rho (sndR F S r) = cutL (rho r) u := eu
      unfold wtR
      rw [er2, ef, if_pos c]
      by_cases y : u < le_ (rho r) 0
      · have ec : cutL (rho r) u = tab (ln (rho r)) (fun i => if i = 0 then u + 1 else lb (rho r) i) (le_ (rho r)) := by unfold cutL; rw [if_neg (by omega), if_pos y]
        rw [ec, ln_tab (by omega), if_neg (by omega), lb_tab (by omega) (by omega), if_pos rfl]
        have := hc y
        omega
      · have ec : cutL (rho r) u = tab (ln (rho r) - 1) (fun i => lb (rho r) (i + 1)) (fun i => le_ (rho r) (i + 1)) := by unfold cutL; rw [if_neg (by omega), if_neg y]
        rw [ec, ln_tab (by omega)]
        by_cases z : ln (rho r) - 1 ≤ 0
        · rw [if_pos z]; omega
        · rw [if_neg z, lb_tab (by omega) (by omega)]
          have hm := ok_mono hk (i := 0) (j := 0 + 1) (by omega) (by omega) (by omega)
          have := cnF_le (a := lb (rho r) 0) (b := lb (rho r) (0 + 1)) hF (by omega)
          omega
    have es : sndF F (now S) r = entF F (now S) (rho r) := by unfold sndF; rw [if_pos c]
    by_cases d : 0 ≤ fsF F (lb (rho r) 0) (now S) ∧ F.2 (fsF F (lb (rho r) 0) (now S)) 1 ≤ le_ (rho r) 0
    · have eu : (sndF F (now S) r).2.2.2 = F.2 (fsF F (lb (rho r) 0) (now S)) 1 := by rw [es]; unfold entF; rw [if_pos d]
      refine big _ (by unfold sndH; rw [eu]) fun _ => ?_
      have bd := frI_bd (p := fun f => decide (lb (rho r) 0 ≤ F.2 f 1) && exB F (now S) f) F.1.toNat
      have b1 : fsF F (lb (rho r) 0) (now S) < ((F.1.toNat : Nat) : Int) := bd.2.1
      have b2 := bd.2.2 d.1
      have f0 := hF.1
      rw [Bool.and_eq_true, decide_eq_true_eq] at b2
      exact cnF_lt hF d.1 (by omega) b2.1
    · have eu : (sndF F (now S) r).2.2.2 = le_ (rho r) 0 := by rw [es]; unfold entF; rw [if_neg d]
      exact big _ (by unfold sndH; rw [eu]) fun y => absurd y (by omega)
  · rw [e1, if_neg c]
    have es : sndF F (now S) r = bytF (rfl_ r) (rho r) := by unfold sndF; rw [if_neg c]
    have eu : (sndF F (now S) r).2.2.2 = min (le_ (rho r) 0) (lb (rho r) 0 + 15) := by rw [es]; rfl
    have hc := size_cut (u := (sndF F (now S) r).2.2.2) hk h4.1 (by rw [eu]; omega)
    have hn := size_nn (ok_cut hk (last := (sndF F (now S) r).2.2.2) (by rw [eu]; omega))
    unfold wtR
    rw [er, ef, if_neg c]
    split
    · omega
    · exact hc
/-- of a queue -/
def wtQ (F : Fl) : List Rq → Int
  | [] => 0
  | r :: Q => wtR F r + wtQ F Q
theorem wtQ_nn {F : Fl} (hF : FW F) : ∀ {Q : List Rq}, (∀ r ∈ Q, ok (rho r)) → 0 ≤ wtQ F Q
  | [], _ => Int.le_refl _
  | r :: Q, h => by
    have h1 := wtR_nn hF (h r List.mem_cons_self)
    have h2 := wtQ_nn hF (fun x hx => h x (List.mem_cons_of_mem _ hx)) (Q := Q)
    show 0 ≤ wtR F r + wtQ F Q
    omega
theorem wtQ_app {F : Fl} {A B : List Rq} : wtQ F (A ++ B) = wtQ F A + wtQ F B := by
  induction A with
  | nil => show wtQ F B = 0 + wtQ F B; omega
  | cons a A ih =>
    show wtR F a + wtQ F (A ++ B) = wtR F a + wtQ F A + wtQ F B
    omega
