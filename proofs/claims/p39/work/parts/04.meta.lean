theorem br_em {c A B : Prop} (h : (c → A) ∧ (¬ c → B)) : (c ∧ A) ∨ (¬ c ∧ B) := (Classical.em c).elim (fun q => Or.inl ⟨q, h.1 q⟩) (fun q => Or.inr ⟨q, h.2 q⟩)
theorem ldI_inv {ls : ml_T} {k : Nat} {F : Int → Prop} (h : ldI ls k F) : ∃ a, nth ls k = some (some (vI a)) ∧ F a := by
  unfold ldI at h
  split at h
  · next a e => exact ⟨a, e, h⟩
  · exact h.elim
theorem ldL_inv {ls : ml_T} {k : Nat} {F : Int → Prop} (h : ldL ls k F) : ∃ a, nth ls k = some (some (vL a)) ∧ F a := by
  unfold ldL at h
  split at h
  · next a e => exact ⟨a, e, h⟩
  · exact h.elim
theorem ldR_inv {ls : ml_T} {k : Nat} {F : Option Nat → Prop} (h : ldR ls k F) : ∃ a, nth ls k = some (some (vR a)) ∧ F a := by
  unfold ldR at h
  split at h
  · next a e => exact ⟨a, e, h⟩
  · exact h.elim
theorem ldI_mk {ls : ml_T} {k : Nat} {F : Int → Prop} {a : Int} (e : nth ls k = some (some (vI a))) (h : F a) : ldI ls k F := by unfold ldI; rw [e]; exact h
theorem ldL_mk {ls : ml_T} {k : Nat} {F : Int → Prop} {a : Int} (e : nth ls k = some (some (vL a))) (h : F a) : ldL ls k F := by unfold ldL; rw [e]; exact h
theorem ldR_mk {ls : ml_T} {k : Nat} {F : Option Nat → Prop} {a : Option Nat} (e : nth ls k = some (some (vR a))) (h : F a) : ldR ls k F := by unfold ldR; rw [e]; exact h
theorem pI_inv {st : List mv_T} {F : Int → List mv_T → Prop} (h : pI st F) : ∃ a r, st = vI a :: r ∧ F a r := by
  unfold pI at h
  split at h
  · exact ⟨_, _, rfl, h⟩
  · exact h.elim
theorem pL_inv {st : List mv_T} {F : Int → List mv_T → Prop} (h : pL st F) : ∃ a r, st = vL a :: r ∧ F a r := by
  unfold pL at h
  split at h
  · exact ⟨_, _, rfl, h⟩
  · exact h.elim
theorem pR_inv {st : List mv_T} {F : Option Nat → List mv_T → Prop} (h : pR st F) : ∃ a r, st = vR a :: r ∧ F a r := by
  unfold pR at h
  split at h
  · exact ⟨_, _, rfl, h⟩
  · exact h.elim
theorem gd_inv {b : Bool} {F : Prop} (h : gd b F) : b = true ∧ F := by
  cases b
  · exact h.elim
  · exact ⟨rfl, h⟩
theorem gd_mk {b : Bool} {F : Prop} (e : b = true) (h : F) : gd b F := by subst e; exact h
theorem isS_inv {o : Option Nat} {F : Nat → Prop} (h : isS o F) : ∃ c, o = some c ∧ F c := by
  cases o with
  | none => exact h.elim
  | some c => exact ⟨c, rfl, h⟩
theorem isS_mk {o : Option Nat} {F : Nat → Prop} {c : Nat} (e : o = some c) (h : F c) : isS o F := by subst e; exact h
theorem isE_inv {r : List mv_T} {F : Prop} (h : isE r F) : r = [] ∧ F := by
  cases r with
  | nil => exact ⟨rfl, h⟩
  | cons _ _ => exact h.elim
theorem retI_inv {rk : Nat} {a : Int} {F : Prop} (h : retI rk a F) : F ∧ ∀ {G : Prop}, G → retI rk a G := by
  unfold retI at h
  split at h
  · exact ⟨h, fun g => g⟩
  · exact ⟨h.2, fun g => ⟨h.1, g⟩⟩
  · exact h.elim
theorem p1_inv {st : List mv_T} {F : mv_T → List mv_T → Prop} (h : p1 st F) : ∃ a r, st = a :: r ∧ mcat a = 1 ∧ F a r := by
  unfold p1 at h
  split at h
  · exact ⟨_, _, rfl, rfl, h⟩
  · exact ⟨_, _, rfl, rfl, h⟩
  · exact h.elim
theorem p1_mk {a : mv_T} {r : List mv_T} {F : mv_T → List mv_T → Prop} (m : mcat a = 1) (h : F a r) : p1 (a :: r) F := by
  rcases a with a | a | a
  · exact h
  · cases m
  · exact h
theorem popn_inv : ∀ (n : Nat) (acc st : List mv_T) (F : List mv_T → List mv_T → Prop), popn n acc st F → ∃ as r, (∀ {G : List mv_T → List mv_T → Prop}, G as r → popn n acc st G) ∧ F as r
  | 0, acc, st, F, h => ⟨acc, st, fun h => h, h⟩
  | n + 1, acc, [], F, h => h.elim
  | n + 1, acc, v :: st, F, h => by
    obtain ⟨as, r, h1, h2⟩ := popn_inv n (v :: acc) st F h
    exact ⟨as, r, fun h => h1 h, h2⟩
theorem swt_t {a : Int} {K : Nat → Prop} : ∀ {ts : List Nat} {i : Int}, (∀ t, K t) → swt a K i ts
  | [], _, _ => trivial
  | _ :: _, _, h => ⟨fun _ => h _, swt_t h⟩
theorem swt_lt {a : Int} {K : Nat → Prop} : ∀ {ts : List Nat} {i : Int}, a < i → swt a K i ts
  | [], _, _ => trivial
  | _ :: _, i, h => ⟨fun z => by omega, swt_lt (by omega)⟩
theorem swt_one {a : Int} {K : Nat → Prop} : ∀ {ts : List Nat} {i : Int}, i ≤ a → a < i + ts.length → swt a K i ts → ∃ (k : Nat) (t : Nat), ts[k]? = some t ∧ a = i + k ∧ K t ∧ ∀ {K' : Nat → Prop}, K' t → swt a K' i ts
  | [], i, h1, h2, _ => by simp only [List.length_nil] at h2; omega
  | t :: ts, i, h1, h2, h => by
    by_cases q : a = i
    · exact ⟨0, t, rfl, by omega, h.1 q, fun h' => ⟨fun _ => h', swt_lt (by omega)⟩⟩
    · have h2' : a < i + 1 + ts.length := by simp only [List.length_cons] at h2; omega
      obtain ⟨k, t', e, e2, h3, h4⟩ := swt_one (i := i + 1) (by omega) h2' h.2
      exact ⟨k + 1, t', e, by omega, h3, fun h' => ⟨fun z => absurd z q, h4 h'⟩⟩
theorem swt_inv {a lo : Int} {ts : List Nat} {d : Nat} {K : Nat → Prop} (h1 : a < lo ∨ lo + ts.length ≤ a → K d) (h2 : swt a K lo ts) : ∃ t, (t = d ∨ t ∈ ts) ∧ K t ∧ ∀ {K' : Nat → Prop}, K' t → (a < lo ∨ lo + ts.length ≤ a → K' d) ∧ swt a K' lo ts := by
  by_cases q : a < lo ∨ lo + ts.length ≤ a
  · refine ⟨d, Or.inl rfl, h1 q, fun h => ⟨fun _ => h, ?_⟩⟩
    clear h1 h2
    revert q
    generalize lo = i
    intro q
    induction ts generalizing i with
    | nil => trivial
    | cons t ts ih =>
      simp only [List.length_cons] at q
      refine ⟨fun z => by omega, ih (i + 1) (by omega)⟩
  · obtain ⟨k, t, e, -, h3, h4⟩ := swt_one (by omega) (by omega) h2
    exact ⟨t, Or.inr (List.mem_of_getElem? e), h3, fun h => ⟨fun z => absurd z q, h4 h⟩⟩
set_option maxHeartbeats 4000000 in
set_option maxRecDepth 100000 in
theorem wpi_inv {pc : Nat} {e : me_T} {rk : Nat} {ls : ml_T} {st : List mv_T} {σ : ms_T} {K : mk_T} {C : mc_T} {Q : mq_T} (h : wpi pc e rk ls st σ K C Q) :
    (∃ pc' ls' st' σ', K pc' ls' st' σ' ∧ (gn σ ≤ gn σ' ∧ gl σ ≤ gl σ') ∧ ∀ (K' : mk_T) (C' : mc_T) (Q' : mq_T), K' pc' ls' st' σ' → wpi pc e rk ls st σ K' C' Q') ∨
    (∃ j as rk' r, C j as σ (fun v τ => rtn rk' v fun vs => K (pc + 3) ls (vs ++ r) τ) ∧ ∀ (K' : mk_T) (C' : mc_T) (Q' : mq_T), C' j as σ (fun v τ => rtn rk' v fun vs => K' (pc + 3) ls (vs ++ r) τ) → wpi pc e rk ls st σ K' C' Q') ∨
    (∃ v, Q v σ ∧ ∀ (K' : mk_T) (C' : mc_T) (Q' : mq_T), Q' v σ → wpi pc e rk ls st σ K' C' Q') := by
  unfold wpi at h
  split at h
  · exact Or.inl ⟨_, _, _, _, h, ⟨Nat.le_refl _, Nat.le_refl _⟩, fun _ _ _ h' => h'⟩
  · exact Or.inl ⟨_, _, _, _, h, ⟨Nat.le_refl _, Nat.le_refl _⟩, fun _ _ _ h' => h'⟩
  · exact Or.inl ⟨_, _, _, _, h, ⟨Nat.le_refl _, Nat.le_refl _⟩, fun _ _ _ h' => h'⟩
  · exact Or.inl ⟨_, _, _, _, h, ⟨Nat.le_refl _, Nat.le_refl _⟩, fun _ _ _ h' => h'⟩
  · exact Or.inl ⟨_, _, _, _, h, ⟨Nat.le_refl _, Nat.le_refl _⟩, fun _ _ _ h' => h'⟩
  · exact Or.inl ⟨_, _, _, _, h, ⟨Nat.le_refl _, Nat.le_refl _⟩, fun _ _ _ h' => h'⟩
  · exact Or.inl ⟨_, _, _, _, h, ⟨Nat.le_refl _, Nat.le_refl _⟩, fun _ _ _ h' => h'⟩
  · obtain ⟨a, ha, h⟩ := ldI_inv h
    exact Or.inl ⟨_, _, _, _, h, ⟨Nat.le_refl _, Nat.le_refl _⟩, fun _ _ _ h' => ldI_mk ha h'⟩
  · obtain ⟨a, ha, h⟩ := ldI_inv h
    exact Or.inl ⟨_, _, _, _, h, ⟨Nat.le_refl _, Nat.le_refl _⟩, fun _ _ _ h' => ldI_mk ha h'⟩
  · obtain ⟨a, ha, h⟩ := ldL_inv h
    exact Or.inl ⟨_, _, _, _, h, ⟨Nat.le_refl _, Nat.le_refl _⟩, fun _ _ _ h' => ldL_mk ha h'⟩
  · obtain ⟨a, ha, h⟩ := ldL_inv h
    exact Or.inl ⟨_, _, _, _, h, ⟨Nat.le_refl _, Nat.le_refl _⟩, fun _ _ _ h' => ldL_mk ha h'⟩
  · obtain ⟨a, ha, h⟩ := ldR_inv h
    exact Or.inl ⟨_, _, _, _, h, ⟨Nat.le_refl _, Nat.le_refl _⟩, fun _ _ _ h' => ldR_mk ha h'⟩
  · obtain ⟨a, ha, h⟩ := ldR_inv h
    exact Or.inl ⟨_, _, _, _, h, ⟨Nat.le_refl _, Nat.le_refl _⟩, fun _ _ _ h' => ldR_mk ha h'⟩
  · obtain ⟨x0, r0, e0, g0⟩ := pI_inv h
    clear h
    subst e0
    have h := g0
    clear g0
    obtain ⟨c0, h⟩ := gd_inv h
    exact Or.inl ⟨_, _, _, _, h, ⟨Nat.le_refl _, Nat.le_refl _⟩, fun _ _ _ h' => gd_mk c0 h'⟩
  · obtain ⟨x0, r0, e0, g0⟩ := pI_inv h
    clear h
    subst e0
    have h := g0
    clear g0
    obtain ⟨c0, h⟩ := gd_inv h
    exact Or.inl ⟨_, _, _, _, h, ⟨Nat.le_refl _, Nat.le_refl _⟩, fun _ _ _ h' => gd_mk c0 h'⟩
  · obtain ⟨x0, r0, e0, g0⟩ := pL_inv h
    clear h
    subst e0
    have h := g0
    clear g0
    obtain ⟨c0, h⟩ := gd_inv h
    exact Or.inl ⟨_, _, _, _, h, ⟨Nat.le_refl _, Nat.le_refl _⟩, fun _ _ _ h' => gd_mk c0 h'⟩
  · obtain ⟨x0, r0, e0, g0⟩ := pL_inv h
    clear h
    subst e0
    have h := g0
    clear g0
    obtain ⟨c0, h⟩ := gd_inv h
    exact Or.inl ⟨_, _, _, _, h, ⟨Nat.le_refl _, Nat.le_refl _⟩, fun _ _ _ h' => gd_mk c0 h'⟩
  · obtain ⟨x0, r0, e0, g0⟩ := pR_inv h
    clear h
    subst e0
    have h := g0
    clear g0
    obtain ⟨c0, h⟩ := gd_inv h
    exact Or.inl ⟨_, _, _, _, h, ⟨Nat.le_refl _, Nat.le_refl _⟩, fun _ _ _ h' => gd_mk c0 h'⟩
  · obtain ⟨x0, r0, e0, g0⟩ := pR_inv h
    clear h
    subst e0
    have h := g0
    clear g0
    obtain ⟨c0, h⟩ := gd_inv h
    exact Or.inl ⟨_, _, _, _, h, ⟨Nat.le_refl _, Nat.le_refl _⟩, fun _ _ _ h' => gd_mk c0 h'⟩
  · obtain ⟨a, ha, h⟩ := ldI_inv h
    obtain ⟨c0, h⟩ := gd_inv h
    exact Or.inl ⟨_, _, _, _, h, ⟨Nat.le_refl _, Nat.le_refl _⟩, fun _ _ _ h' => ldI_mk ha (gd_mk c0 h')⟩
  · obtain ⟨x0, r0, e0, g0⟩ := pI_inv h
    clear h
    subst e0
    have h := g0
    clear g0
    obtain ⟨x1, r1, e1, g1⟩ := pI_inv h
    clear h
    subst e1
    have h := g1
    clear g1
    exact Or.inl ⟨_, _, _, _, h, ⟨Nat.le_refl _, Nat.le_refl _⟩, fun _ _ _ h' => h'⟩
  · obtain ⟨x0, r0, e0, g0⟩ := pI_inv h
    clear h
    subst e0
    have h := g0
    clear g0
    obtain ⟨x1, r1, e1, g1⟩ := pI_inv h
    clear h
    subst e1
    have h := g1
    clear g1
    exact Or.inl ⟨_, _, _, _, h, ⟨Nat.le_refl _, Nat.le_refl _⟩, fun _ _ _ h' => h'⟩
  · obtain ⟨x0, r0, e0, g0⟩ := pI_inv h
    clear h
    subst e0
    have h := g0
    clear g0
    obtain ⟨x1, r1, e1, g1⟩ := pI_inv h
    clear h
    subst e1
    have h := g1
    clear g1
    exact Or.inl ⟨_, _, _, _, h, ⟨Nat.le_refl _, Nat.le_refl _⟩, fun _ _ _ h' => h'⟩
  · obtain ⟨x0, r0, e0, g0⟩ := pI_inv h
    clear h
    subst e0
    have h := g0
    clear g0
    obtain ⟨x1, r1, e1, g1⟩ := pI_inv h
    clear h
    subst e1
    have h := g1
    clear g1
    obtain ⟨c0, h⟩ := h
    exact Or.inl ⟨_, _, _, _, h, ⟨Nat.le_refl _, Nat.le_refl _⟩, fun _ _ _ h' => And.intro c0 (h')⟩
  · obtain ⟨x0, r0, e0, g0⟩ := pI_inv h
    clear h
    subst e0
    have h := g0
    clear g0
    obtain ⟨x1, r1, e1, g1⟩ := pI_inv h
    clear h
    subst e1
    have h := g1
    clear g1
    obtain ⟨c0, h⟩ := h
    exact Or.inl ⟨_, _, _, _, h, ⟨Nat.le_refl _, Nat.le_refl _⟩, fun _ _ _ h' => And.intro c0 (h')⟩
  · obtain ⟨x0, r0, e0, g0⟩ := pI_inv h
    clear h
    subst e0
    have h := g0
    clear g0
    obtain ⟨x1, r1, e1, g1⟩ := pI_inv h
    clear h
    subst e1
    have h := g1
    clear g1
    exact Or.inl ⟨_, _, _, _, h, ⟨Nat.le_refl _, Nat.le_refl _⟩, fun _ _ _ h' => h'⟩
  · obtain ⟨x0, r0, e0, g0⟩ := pI_inv h
    clear h
    subst e0
    have h := g0
    clear g0
    obtain ⟨x1, r1, e1, g1⟩ := pI_inv h
    clear h
    subst e1
    have h := g1
    clear g1
    exact Or.inl ⟨_, _, _, _, h, ⟨Nat.le_refl _, Nat.le_refl _⟩, fun _ _ _ h' => h'⟩
  · obtain ⟨x0, r0, e0, g0⟩ := pI_inv h
    clear h
    subst e0
    have h := g0
    clear g0
    obtain ⟨x1, r1, e1, g1⟩ := pI_inv h
    clear h
    subst e1
    have h := g1
    clear g1
    exact Or.inl ⟨_, _, _, _, h, ⟨Nat.le_refl _, Nat.le_refl _⟩, fun _ _ _ h' => h'⟩
  · obtain ⟨x0, r0, e0, g0⟩ := pI_inv h
    clear h
    subst e0
    have h := g0
    clear g0
    obtain ⟨x1, r1, e1, g1⟩ := pI_inv h
    clear h
    subst e1
    have h := g1
    clear g1
    exact Or.inl ⟨_, _, _, _, h, ⟨Nat.le_refl _, Nat.le_refl _⟩, fun _ _ _ h' => h'⟩
  · obtain ⟨x0, r0, e0, g0⟩ := pI_inv h
    clear h
    subst e0
    have h := g0
    clear g0
    obtain ⟨x1, r1, e1, g1⟩ := pI_inv h
    clear h
    subst e1
    have h := g1
    clear g1
    exact Or.inl ⟨_, _, _, _, h, ⟨Nat.le_refl _, Nat.le_refl _⟩, fun _ _ _ h' => h'⟩
  · obtain ⟨x0, r0, e0, g0⟩ := pI_inv h
    clear h
    subst e0
    have h := g0
    clear g0
    exact Or.inl ⟨_, _, _, _, h, ⟨Nat.le_refl _, Nat.le_refl _⟩, fun _ _ _ h' => h'⟩
  · obtain ⟨x0, r0, e0, g0⟩ := pI_inv h
    clear h
    subst e0
    have h := g0
    clear g0
    obtain ⟨c0, c1, h⟩ := h
    exact Or.inl ⟨_, _, _, _, h, ⟨Nat.le_refl _, Nat.le_refl _⟩, fun _ _ _ h' => And.intro c0 (And.intro c1 (h'))⟩
  · obtain ⟨x0, r0, e0, g0⟩ := pL_inv h
    clear h
    subst e0
    have h := g0
    clear g0
    obtain ⟨x1, r1, e1, g1⟩ := pL_inv h
    clear h
    subst e1
    have h := g1
    clear g1
    exact Or.inl ⟨_, _, _, _, h, ⟨Nat.le_refl _, Nat.le_refl _⟩, fun _ _ _ h' => h'⟩
  · obtain ⟨x0, r0, e0, g0⟩ := pL_inv h
    clear h
    subst e0
    have h := g0
    clear g0
    obtain ⟨x1, r1, e1, g1⟩ := pL_inv h
    clear h
    subst e1
    have h := g1
    clear g1
    exact Or.inl ⟨_, _, _, _, h, ⟨Nat.le_refl _, Nat.le_refl _⟩, fun _ _ _ h' => h'⟩
  · obtain ⟨x0, r0, e0, g0⟩ := pL_inv h
    clear h
    subst e0
    have h := g0
    clear g0
    obtain ⟨x1, r1, e1, g1⟩ := pL_inv h
    clear h
    subst e1
    have h := g1
    clear g1
    obtain ⟨c0, h⟩ := h
    exact Or.inl ⟨_, _, _, _, h, ⟨Nat.le_refl _, Nat.le_refl _⟩, fun _ _ _ h' => And.intro c0 (h')⟩
  · obtain ⟨x0, r0, e0, g0⟩ := pL_inv h
    clear h
    subst e0
    have h := g0
    clear g0
    obtain ⟨x1, r1, e1, g1⟩ := pL_inv h
    clear h
    subst e1
    have h := g1
    clear g1
    exact Or.inl ⟨_, _, _, _, h, ⟨Nat.le_refl _, Nat.le_refl _⟩, fun _ _ _ h' => h'⟩
  · obtain ⟨x0, r0, e0, g0⟩ := pI_inv h
    clear h
    subst e0
    have h := g0
    clear g0
    obtain ⟨x1, r1, e1, g1⟩ := pL_inv h
    clear h
    subst e1
    have h := g1
    clear g1
    exact Or.inl ⟨_, _, _, _, h, ⟨Nat.le_refl _, Nat.le_refl _⟩, fun _ _ _ h' => h'⟩
  · obtain ⟨x0, r0, e0, g0⟩ := pL_inv h
    clear h
    subst e0
    have h := g0
    clear g0
    exact Or.inl ⟨_, _, _, _, h, ⟨Nat.le_refl _, Nat.le_refl _⟩, fun _ _ _ h' => h'⟩
  · obtain ⟨x0, r0, e0, g0⟩ := pL_inv h
    clear h
    subst e0
    have h := g0
    clear g0
    obtain ⟨x1, r1, e1, g1⟩ := pL_inv h
    clear h
    subst e1
    have h := g1
    clear g1
    exact Or.inl ⟨_, _, _, _, h, ⟨Nat.le_refl _, Nat.le_refl _⟩, fun _ _ _ h' => h'⟩
  · obtain ⟨x0, r0, e0, m0, g0⟩ := p1_inv h
    clear h
    subst e0
    have h := g0
    clear g0
    rcases x0 with x0 | x0 | x0 <;> first | (cases m0; done) | exact Or.inl ⟨_, _, _, _, h, ⟨Nat.le_refl _, Nat.le_refl _⟩, fun _ _ _ h' => h'⟩
  · obtain ⟨x0, r0, e0, m0, g0⟩ := p1_inv h
    clear h
    subst e0
    have h := g0
    clear g0
    obtain ⟨x1, r1, e1, m1, g1⟩ := p1_inv h
    clear h
    subst e1
    have h := g1
    clear g1
    rcases x0 with x0 | x0 | x0 <;> rcases x1 with x1 | x1 | x1 <;> first | (cases m0; done) | (cases m1; done) | exact Or.inl ⟨_, _, _, _, h, ⟨Nat.le_refl _, Nat.le_refl _⟩, fun _ _ _ h' => h'⟩
  · obtain ⟨x0, r0, e0, m0, g0⟩ := p1_inv h
    clear h
    subst e0
    have h := g0
    clear g0
    rcases x0 with x0 | x0 | x0 <;> first | (cases m0; done) | exact Or.inl ⟨_, _, _, _, h, ⟨Nat.le_refl _, Nat.le_refl _⟩, fun _ _ _ h' => h'⟩
  · exact Or.inl ⟨_, _, _, _, h, ⟨Nat.le_refl _, Nat.le_refl _⟩, fun _ _ _ h' => h'⟩
  · obtain ⟨x0, r0, e0, g0⟩ := pI_inv h
    clear h
    subst e0
    have h := g0
    clear g0
    rcases br_em h with ⟨q, g⟩ | ⟨q, g⟩
    · exact Or.inl ⟨_, _, _, _, g, ⟨Nat.le_refl _, Nat.le_refl _⟩, fun _ _ _ h' => And.intro (fun _ => h') (fun z => absurd q z)⟩
    · exact Or.inl ⟨_, _, _, _, g, ⟨Nat.le_refl _, Nat.le_refl _⟩, fun _ _ _ h' => And.intro (fun z => absurd z q) (fun _ => h')⟩
  · obtain ⟨x0, r0, e0, g0⟩ := pI_inv h
    clear h
    subst e0
    have h := g0
    clear g0
    obtain ⟨x1, r1, e1, g1⟩ := pI_inv h
    clear h
    subst e1
    have h := g1
    clear g1
    rcases br_em h with ⟨q, g⟩ | ⟨q, g⟩
    · exact Or.inl ⟨_, _, _, _, g, ⟨Nat.le_refl _, Nat.le_refl _⟩, fun _ _ _ h' => And.intro (fun _ => h') (fun z => absurd q z)⟩
    · exact Or.inl ⟨_, _, _, _, g, ⟨Nat.le_refl _, Nat.le_refl _⟩, fun _ _ _ h' => And.intro (fun z => absurd z q) (fun _ => h')⟩
  · obtain ⟨x0, r0, e0, g0⟩ := pR_inv h
    clear h
    subst e0
    have h := g0
    clear g0
    rcases br_em h with ⟨q, g⟩ | ⟨q, g⟩
    · exact Or.inl ⟨_, _, _, _, g, ⟨Nat.le_refl _, Nat.le_refl _⟩, fun _ _ _ h' => And.intro (fun _ => h') (fun z => absurd q z)⟩
    · exact Or.inl ⟨_, _, _, _, g, ⟨Nat.le_refl _, Nat.le_refl _⟩, fun _ _ _ h' => And.intro (fun z => absurd z q) (fun _ => h')⟩
  · obtain ⟨x0, r0, e0, g0⟩ := pR_inv h
    clear h
    subst e0
    have h := g0
    clear g0
    by_cases q : x0 = none
    · exact Or.inl ⟨_, _, _, _, h.2 q, ⟨Nat.le_refl _, Nat.le_refl _⟩, fun _ _ _ h' => And.intro (fun z => absurd q z) (fun _ => h')⟩
    · exact Or.inl ⟨_, _, _, _, h.1 q, ⟨Nat.le_refl _, Nat.le_refl _⟩, fun _ _ _ h' => And.intro (fun _ => h') (fun z => absurd z q)⟩
  · obtain ⟨x0, r0, e0, g0⟩ := pI_inv h
    clear h
    subst e0
    have h := g0
    clear g0
    rcases swt_inv h.1 h.2 with ⟨t, ht, h', mk⟩
    exact Or.inl ⟨_, _, _, _, h', ⟨Nat.le_refl _, Nat.le_refl _⟩, fun K' _ _ h' => mk (K' := fun t => K' t ls r0 σ) h'⟩
  · obtain ⟨x0, r0, e0, g0⟩ := pR_inv h
    clear h
    subst e0
    have h := g0
    clear g0
    obtain ⟨c, e, g⟩ := isS_inv h
    clear h
    subst e
    have h := g
    clear g
    obtain ⟨c0, h⟩ := h
    exact Or.inl ⟨_, _, _, _, h, ⟨Nat.le_refl _, Nat.le_refl _⟩, fun _ _ _ h' => And.intro c0 (h')⟩
  · obtain ⟨x0, r0, e0, g0⟩ := pR_inv h
    clear h
    subst e0
    have h := g0
    clear g0
    obtain ⟨c, e, g⟩ := isS_inv h
    clear h
    subst e
    have h := g
    clear g
    obtain ⟨c0, h⟩ := h
    exact Or.inl ⟨_, _, _, _, h, ⟨Nat.le_refl _, Nat.le_refl _⟩, fun _ _ _ h' => And.intro c0 (h')⟩
  · obtain ⟨x0, r0, e0, g0⟩ := pR_inv h
    clear h
    subst e0
    have h := g0
    clear g0
    obtain ⟨c, e, g⟩ := isS_inv h
    clear h
    subst e
    have h := g
    clear g
    obtain ⟨c0, h⟩ := h
    exact Or.inl ⟨_, _, _, _, h, ⟨Nat.le_refl _, Nat.le_refl _⟩, fun _ _ _ h' => And.intro c0 (h')⟩
  · obtain ⟨x0, r0, e0, g0⟩ := pR_inv h
    clear h
    subst e0
    have h := g0
    clear g0
    obtain ⟨x1, r1, e1, g1⟩ := pR_inv h
    clear h
    subst e1
    have h := g1
    clear g1
    obtain ⟨c, e, g⟩ := isS_inv h
    clear h
    subst e
    have h := g
    clear g
    obtain ⟨c0, h⟩ := h
    exact Or.inl ⟨_, _, _, _, h, ⟨Nat.le_refl _, Nat.le_refl _⟩, fun _ _ _ h' => And.intro c0 (h')⟩
  · obtain ⟨x0, r0, e0, g0⟩ := pI_inv h
    clear h
    subst e0
    have h := g0
    clear g0
    obtain ⟨x1, r1, e1, g1⟩ := pR_inv h
    clear h
    subst e1
    have h := g1
    clear g1
    obtain ⟨c, e, g⟩ := isS_inv h
    clear h
    subst e
    have h := g
    clear g
    obtain ⟨c0, c1, h⟩ := h
    exact Or.inl ⟨_, _, _, _, h, ⟨Nat.le_refl _, Nat.le_refl _⟩, fun _ _ _ h' => And.intro c0 (And.intro c1 (h'))⟩
  · obtain ⟨x0, r0, e0, g0⟩ := pI_inv h
    clear h
    subst e0
    have h := g0
    clear g0
    obtain ⟨x1, r1, e1, g1⟩ := pR_inv h
    clear h
    subst e1
    have h := g1
    clear g1
    obtain ⟨c, e, g⟩ := isS_inv h
    clear h
    subst e
    have h := g
    clear g
    obtain ⟨c0, h⟩ := h
    exact Or.inl ⟨_, _, _, _, h, ⟨Nat.le_refl _, Nat.le_refl _⟩, fun _ _ _ h' => And.intro c0 (h')⟩
  · obtain ⟨x0, r0, e0, g0⟩ := pI_inv h
    clear h
    subst e0
    have h := g0
    clear g0
    obtain ⟨x1, r1, e1, g1⟩ := pR_inv h
    clear h
    subst e1
    have h := g1
    clear g1
    obtain ⟨c, e, g⟩ := isS_inv h
    clear h
    subst e
    have h := g
    clear g
    obtain ⟨c0, c1, c2, h⟩ := h
    exact Or.inl ⟨_, _, _, _, h, ⟨Nat.le_refl _, Nat.le_refl _⟩, fun _ _ _ h' => And.intro c0 (And.intro c1 (And.intro c2 (h')))⟩
  · obtain ⟨x0, r0, e0, g0⟩ := pI_inv h
    clear h
    subst e0
    have h := g0
    clear g0
    obtain ⟨x1, r1, e1, g1⟩ := pR_inv h
    clear h
    subst e1
    have h := g1
    clear g1
    obtain ⟨c, e, g⟩ := isS_inv h
    clear h
    subst e
    have h := g
    clear g
    obtain ⟨c0, c1, c2, h⟩ := h
    exact Or.inl ⟨_, _, _, _, h, ⟨Nat.le_refl _, Nat.le_refl _⟩, fun _ _ _ h' => And.intro c0 (And.intro c1 (And.intro c2 (h')))⟩
  · obtain ⟨x0, r0, e0, g0⟩ := pI_inv h
    clear h
    subst e0
    have h := g0
    clear g0
    obtain ⟨x1, r1, e1, g1⟩ := pR_inv h
    clear h
    subst e1
    have h := g1
    clear g1
    obtain ⟨c, e, g⟩ := isS_inv h
    clear h
    subst e
    have h := g
    clear g
    obtain ⟨c0, c1, c2, c3, h⟩ := h
    exact Or.inl ⟨_, _, _, _, h, ⟨Nat.le_refl _, Nat.le_refl _⟩, fun _ _ _ h' => And.intro c0 (And.intro c1 (And.intro c2 (And.intro c3 (h'))))⟩
  · obtain ⟨x0, r0, e0, g0⟩ := pI_inv h
    clear h
    subst e0
    have h := g0
    clear g0
    obtain ⟨x1, r1, e1, g1⟩ := pI_inv h
    clear h
    subst e1
    have h := g1
    clear g1
    obtain ⟨x2, r2, e2, g2⟩ := pR_inv h
    clear h
    subst e2
    have h := g2
    clear g2
    obtain ⟨c, e, g⟩ := isS_inv h
    clear h
    subst e
    have h := g
    clear g
    obtain ⟨c0, c1, c2, h⟩ := h
    exact Or.inl ⟨_, _, _, _, h, ⟨Nat.le_refl _, Nat.le_refl _⟩, fun _ _ _ h' => And.intro c0 (And.intro c1 (And.intro c2 (h')))⟩
  · obtain ⟨x0, r0, e0, g0⟩ := pI_inv h
    clear h
    subst e0
    have h := g0
    clear g0
    obtain ⟨x1, r1, e1, g1⟩ := pI_inv h
    clear h
    subst e1
    have h := g1
    clear g1
    obtain ⟨x2, r2, e2, g2⟩ := pR_inv h
    clear h
    subst e2
    have h := g2
    clear g2
    obtain ⟨c, e, g⟩ := isS_inv h
    clear h
    subst e
    have h := g
    clear g
    obtain ⟨c0, c1, c2, c3, c4, h⟩ := h
    exact Or.inl ⟨_, _, _, _, h, ⟨Nat.le_refl _, Nat.le_refl _⟩, fun _ _ _ h' => And.intro c0 (And.intro c1 (And.intro c2 (And.intro c3 (And.intro c4 (h')))))⟩
  · obtain ⟨x0, r0, e0, g0⟩ := pR_inv h
    clear h
    subst e0
    have h := g0
    clear g0
    obtain ⟨x1, r1, e1, g1⟩ := pI_inv h
    clear h
    subst e1
    have h := g1
    clear g1
    obtain ⟨x2, r2, e2, g2⟩ := pR_inv h
    clear h
    subst e2
    have h := g2
    clear g2
    obtain ⟨c, e, g⟩ := isS_inv h
    clear h
    subst e
    have h := g
    clear g
    obtain ⟨c0, c1, c2, c3, c4, h⟩ := h
    exact Or.inl ⟨_, _, _, _, h, ⟨Nat.le_refl _, Nat.le_refl _⟩, fun _ _ _ h' => And.intro c0 (And.intro c1 (And.intro c2 (And.intro c3 (And.intro c4 (h')))))⟩
  · obtain ⟨x0, r0, e0, g0⟩ := pR_inv h
    clear h
    subst e0
    have h := g0
    clear g0
    obtain ⟨c, e, g⟩ := isS_inv h
    clear h
    subst e
    have h := g
    clear g
    obtain ⟨c0, h⟩ := h
    exact Or.inl ⟨_, _, _, _, h, ⟨Nat.le_refl _, Nat.le_refl _⟩, fun _ _ _ h' => And.intro c0 (h')⟩
  · exact Or.inl ⟨_, _, _, _, h, ⟨Nat.le_succ _, Nat.le_add_right _ _⟩, fun _ _ _ h' => h'⟩
  · obtain ⟨x0, r0, e0, g0⟩ := pI_inv h
    clear h
    subst e0
    have h := g0
    clear g0
    obtain ⟨c0, c1, h⟩ := h
    exact Or.inl ⟨_, _, _, _, h, ⟨Nat.le_succ _, Nat.le_add_right _ _⟩, fun _ _ _ h' => And.intro c0 (And.intro c1 (h'))⟩
  · obtain ⟨x0, r0, e0, g0⟩ := pI_inv h
    clear h
    subst e0
    have h := g0
    clear g0
    obtain ⟨c0, c1, h⟩ := h
    exact Or.inl ⟨_, _, _, _, h, ⟨Nat.le_succ _, Nat.le_add_right _ _⟩, fun _ _ _ h' => And.intro c0 (And.intro c1 (h'))⟩
  · obtain ⟨as, r, hp, g⟩ := popn_inv _ _ _ _ h
    clear h
    have h := g
    clear g
    obtain ⟨x0, r0, e0, g0⟩ := pR_inv h
    clear h
    subst e0
    have h := g0
    clear g0
    obtain ⟨c, e, g⟩ := isS_inv h
    clear h
    subst e
    have h := g
    clear g
    obtain ⟨c0, h⟩ := h
    obtain ⟨c1, h⟩ := gd_inv h
    exact Or.inr (Or.inl ⟨_, _, _, _, h, fun _ _ _ h' => hp (And.intro c0 (gd_mk c1 h'))⟩)
  · obtain ⟨as, r, hp, g⟩ := popn_inv _ _ _ _ h
    clear h
    have h := g
    clear g
    obtain ⟨c1, h⟩ := gd_inv h
    exact Or.inr (Or.inl ⟨_, _, _, _, h, fun _ _ _ h' => hp (gd_mk c1 h')⟩)
  · obtain ⟨as, r, hp, g⟩ := popn_inv _ _ _ _ h
    clear h
    have h := g
    clear g
    obtain ⟨x0, r0, e0, g0⟩ := pR_inv h
    clear h
    subst e0
    have h := g0
    clear g0
    obtain ⟨c, e, g⟩ := isS_inv h
    clear h
    subst e
    have h := g
    clear g
    obtain ⟨c0, h⟩ := h
    obtain ⟨c1, h⟩ := gd_inv h
    exact Or.inr (Or.inl ⟨_, _, _, _, h, fun _ _ _ h' => hp (And.intro c0 (gd_mk c1 h'))⟩)
  · obtain ⟨x0, r0, e0, g0⟩ := pR_inv h
    clear h
    subst e0
    have h := g0
    clear g0
    obtain ⟨c, e, g⟩ := isS_inv h
    clear h
    subst e
    have h := g
    clear g
    obtain ⟨c0, h⟩ := gd_inv h
    exact Or.inl ⟨_, _, _, _, h, ⟨Nat.le_refl _, Nat.le_refl _⟩, fun _ _ _ h' => gd_mk c0 h'⟩
  · obtain ⟨x0, r0, e0, g0⟩ := pI_inv h
    clear h
    subst e0
    have h := g0
    clear g0
    obtain ⟨x1, r1, e1, g1⟩ := pI_inv h
    clear h
    subst e1
    have h := g1
    clear g1
    obtain ⟨c0, h⟩ := gd_inv h
    exact Or.inl ⟨_, _, _, _, h, ⟨Nat.le_refl _, Nat.le_refl _⟩, fun _ _ _ h' => gd_mk c0 h'⟩
  · obtain ⟨x0, r0, e0, g0⟩ := pI_inv h
    clear h
    subst e0
    have h := g0
    clear g0
    obtain ⟨x1, r1, e1, g1⟩ := pI_inv h
    clear h
    subst e1
    have h := g1
    clear g1
    obtain ⟨c0, h⟩ := gd_inv h
    exact Or.inl ⟨_, _, _, _, h, ⟨Nat.le_refl _, Nat.le_refl _⟩, fun _ _ _ h' => gd_mk c0 h'⟩
  · obtain ⟨e, h⟩ := isE_inv h
    subst e
    obtain ⟨c0, h⟩ := gd_inv h
    exact Or.inr (Or.inr ⟨_, h, fun _ _ _ h' => gd_mk c0 h'⟩)
  · obtain ⟨x0, r0, e0, g0⟩ := pI_inv h
    clear h
    subst e0
    have h := g0
    clear g0
    obtain ⟨e, h⟩ := isE_inv h
    subst e
    obtain ⟨h, mk⟩ := retI_inv h
    exact Or.inr (Or.inr ⟨_, h, fun _ _ _ h' => mk h'⟩)
  · obtain ⟨x0, r0, e0, g0⟩ := pL_inv h
    clear h
    subst e0
    have h := g0
    clear g0
    obtain ⟨e, h⟩ := isE_inv h
    subst e
    obtain ⟨c0, h⟩ := gd_inv h
    exact Or.inr (Or.inr ⟨_, h, fun _ _ _ h' => gd_mk c0 h'⟩)
  · obtain ⟨x0, r0, e0, g0⟩ := pR_inv h
    clear h
    subst e0
    have h := g0
    clear g0
    obtain ⟨e, h⟩ := isE_inv h
    subst e
    obtain ⟨c0, h⟩ := gd_inv h
    exact Or.inr (Or.inr ⟨_, h, fun _ _ _ h' => gd_mk c0 h'⟩)
  · exact False.elim h
theorem rtn_mono {rk : Nat} {v : Option mv_T} {F G : List mv_T → Prop} (hFG : ∀ vs, F vs → G vs) (h : rtn rk v F) : rtn rk v G := by
  unfold rtn at h ⊢
  split at h
  · exact ⟨h.1, hFG _ h.2⟩
  · obtain ⟨o, e, h⟩ := h
    exact ⟨o, e, hFG _ h⟩
  · obtain ⟨o, e, h⟩ := h
    exact ⟨o, e, hFG _ h⟩
  · obtain ⟨o, e, h⟩ := h
    exact ⟨o, e, hFG _ h⟩
theorem rtn_ex {rk : Nat} {v : Option mv_T} {F : Nat → List mv_T → Prop} (h : rtn rk v (fun vs => ∃ m, F m vs)) : ∃ m, rtn rk v (F m) := by
  unfold rtn at h
  split at h
  · obtain ⟨e, m, h⟩ := h
    exact ⟨m, e, h⟩
  · obtain ⟨o, e, m, h⟩ := h
    exact ⟨m, o, e, h⟩
  · obtain ⟨o, e, m, h⟩ := h
    exact ⟨m, o, e, h⟩
  · next z1 z2 z3 =>
    obtain ⟨o, e, m, h⟩ := h
    refine ⟨m, ?_⟩
    unfold rtn
    split
    · exact absurd rfl z1
    · exact absurd rfl z2
    · exact absurd rfl z3
    · exact ⟨o, e, h⟩
theorem rtn_exT {α : Type} {rk : Nat} {v : Option mv_T} {F : α → List mv_T → Prop} (h : rtn rk v (fun vs => ∃ m, F m vs)) : ∃ m, rtn rk v (F m) := by
  unfold rtn at h
  split at h
  · obtain ⟨e, m, h⟩ := h
    exact ⟨m, e, h⟩
  · obtain ⟨o, e, m, h⟩ := h
    exact ⟨m, o, e, h⟩
  · obtain ⟨o, e, m, h⟩ := h
    exact ⟨m, o, e, h⟩
  · next z1 z2 z3 =>
    obtain ⟨o, e, m, h⟩ := h
    refine ⟨m, ?_⟩
    unfold rtn
    split
    · exact absurd rfl z1
    · exact absurd rfl z2
    · exact absurd rfl z3
    · exact ⟨o, e, h⟩
theorem Wm_mono : ∀ (n : Nat) {j pc : Nat} {ls : ml_T} {st : List mv_T} {σ : ms_T} {Q Q' : mq_T} {m : Nat}, n ≤ m → (∀ v τ, Q v τ → Q' v τ) → Wm n j pc ls st σ Q → Wm m j pc ls st σ Q' := by
  intro n
  induction n with
  | zero => intro j pc ls st σ Q Q' m _ _ h; exact h.elim
  | succ n ih =>
    intro j pc ls st σ Q Q' m hm hQ h
    obtain ⟨m, rfl⟩ : ∃ k, m = k + 1 := ⟨m - 1, by omega⟩
    obtain ⟨e, he, h⟩ := h
    rcases wpi_inv h with ⟨pc', ls', st', σ', hk, hg, mk⟩ | ⟨j', as, rk', r, hc, mk⟩ | ⟨v, hq, mk⟩
    · exact ⟨e, he, mk _ _ _ (ih (by omega) hQ hk)⟩
    · exact ⟨e, he, mk _ _ _ (ih (by omega) (fun v τ hv => rtn_mono (fun vs hw => ih (by omega) hQ hw) hv) hc)⟩
    · exact ⟨e, he, mk _ _ _ (hQ _ _ hq)⟩
theorem Wm_ex : ∀ (n : Nat) {j pc : Nat} {ls : ml_T} {st : List mv_T} {σ : ms_T} (P : Nat → mq_T), (∀ m m' v τ, m ≤ m' → P m v τ → P m' v τ) → Wm n j pc ls st σ (fun v τ => ∃ m, P m v τ) → ∃ m, Wm n j pc ls st σ (P m) := by
  intro n
  induction n with
  | zero => intro j pc ls st σ P _ h; exact h.elim
  | succ n ih =>
    intro j pc ls st σ P hP h
    obtain ⟨e, he, h⟩ := h
    rcases wpi_inv h with ⟨pc', ls', st', σ', hk, hg, mk⟩ | ⟨j', as, rk', r, hc, mk⟩ | ⟨v, ⟨m, hq⟩, mk⟩
    · obtain ⟨m, hk⟩ := ih P hP hk
      exact ⟨m, e, he, mk _ _ _ hk⟩
    · have hc' := Wm_mono n (Nat.le_refl n) (Q' := fun v τ => ∃ m, rtn rk' v fun vs => Wm n j (pc + 3) ls (vs ++ r) τ (P m)) (fun v τ hv => rtn_ex (rtn_mono (fun vs hw => ih P hP hw) hv)) hc
      obtain ⟨m, hc'⟩ := ih (fun m v τ => rtn rk' v fun vs => Wm n j (pc + 3) ls (vs ++ r) τ (P m)) (fun m m' v τ hm hv => rtn_mono (fun vs hw => Wm_mono n (Nat.le_refl n) (fun v τ hx => hP m m' v τ hm hx) hw) hv) hc'
      exact ⟨m, e, he, mk _ _ _ hc'⟩
    · exact ⟨m, e, he, mk _ _ _ hq⟩
theorem Wm_exT {α : Type} : ∀ (n : Nat) {j pc : Nat} {ls : ml_T} {st : List mv_T} {σ : ms_T} (P : α → mq_T), Wm n j pc ls st σ (fun v τ => ∃ x, P x v τ) → ∃ x, Wm n j pc ls st σ (P x) := by
  intro n
  induction n with
  | zero => intro j pc ls st σ P h; exact h.elim
  | succ n ih =>
    intro j pc ls st σ P h
    obtain ⟨e, he, h⟩ := h
    rcases wpi_inv h with ⟨pc', ls', st', σ', hk, hg, mk⟩ | ⟨j', as, rk', r, hc, mk⟩ | ⟨v, ⟨x, hq⟩, mk⟩
    · obtain ⟨x, hk⟩ := ih P hk
      exact ⟨x, e, he, mk _ _ _ hk⟩
    · have hc' := Wm_mono n (Nat.le_refl n) (Q' := fun v τ => ∃ x, rtn rk' v fun vs => Wm n j (pc + 3) ls (vs ++ r) τ (P x)) (fun v τ hv => rtn_exT (rtn_mono (fun vs hw => ih P hw) hv)) hc
      obtain ⟨x, hc'⟩ := ih (fun x v τ => rtn rk' v fun vs => Wm n j (pc + 3) ls (vs ++ r) τ (P x)) hc'
      exact ⟨x, e, he, mk _ _ _ hc'⟩
    · exact ⟨x, e, he, mk _ _ _ hq⟩
/-- one end alone -/
theorem Wm_pt {n j pc : Nat} {ls : ml_T} {st : List mv_T} {σ : ms_T} {Q : mq_T} (h : Wm n j pc ls st σ Q) : ∃ v τ, Q v τ ∧ Wm n j pc ls st σ (fun v' τ' => v' = v ∧ τ' = τ) := by
  obtain ⟨⟨v, τ⟩, h⟩ := Wm_exT n (fun (x : Option mv_T × ms_T) v' τ' => (v' = x.1 ∧ τ' = x.2) ∧ Q x.1 x.2) (Wm_mono n (Nat.le_refl n) (fun v τ hq => ⟨(v, τ), ⟨rfl, rfl⟩, hq⟩) h)
  obtain ⟨u, h2⟩ := Wm_exT n (fun (_ : PLift (Q v τ)) v' τ' => v' = v ∧ τ' = τ) (Wm_mono n (Nat.le_refl n) (fun v' τ' hq => ⟨PLift.up hq.2, hq.1⟩) h)
  exact ⟨v, τ, u.down, h2⟩
theorem Wm_grow : ∀ (n : Nat) {j pc : Nat} {ls : ml_T} {st : List mv_T} {σ : ms_T} {Q : mq_T}, Wm n j pc ls st σ Q → Wm n j pc ls st σ (fun v τ => Q v τ ∧ gn σ ≤ gn τ ∧ gl σ ≤ gl τ) := by
  intro n
  induction n with
  | zero => intro j pc ls st σ Q h; exact h.elim
  | succ n ih =>
    intro j pc ls st σ Q h
    obtain ⟨e, he, h⟩ := h
    rcases wpi_inv h with ⟨pc', ls', st', σ', hk, hg, mk⟩ | ⟨j', as, rk', r, hc, mk⟩ | ⟨v, hq, mk⟩
    · exact ⟨e, he, mk _ _ _ (Wm_mono n (Nat.le_refl n) (fun v τ hx => ⟨hx.1, by omega, by omega⟩) (ih hk))⟩
    · exact ⟨e, he, mk _ _ _ (Wm_mono n (Nat.le_refl n) (fun v τ hx => rtn_mono (fun vs hw => Wm_mono n (Nat.le_refl n) (fun v' τ' hy => ⟨hy.1, by omega, by omega⟩) (ih hw)) hx.1) (ih hc))⟩
    · exact ⟨e, he, mk _ _ _ ⟨hq, Nat.le_refl _, Nat.le_refl _⟩⟩
theorem At.mono {j pc : Nat} {ls : ml_T} {st : List mv_T} {σ : ms_T} {Q Q' : mq_T} (h : At j pc ls st σ Q) (hQ : ∀ v τ, Q v τ → Q' v τ) : At j pc ls st σ Q' := by
  obtain ⟨n, h⟩ := h
  exact ⟨n, Wm_mono n (Nat.le_refl n) hQ h⟩
theorem Ca.mono {j : Nat} {as : List mv_T} {σ : ms_T} {Q Q' : mq_T} (h : Ca j as σ Q) (hQ : ∀ v τ, Q v τ → Q' v τ) : Ca j as σ Q' := At.mono h hQ
theorem At_wpi {j pc : Nat} {e : me_T} {ls : ml_T} {st : List mv_T} {σ : ms_T} {Q : mq_T} (he : code_of j pc = some e) (h : wpi pc e (mrt j) ls st σ (fun pc' ls' st' σ' => At j pc' ls' st' σ' Q) Ca Q) : At j pc ls st σ Q := by
  rcases wpi_inv h with ⟨pc', ls', st', σ', ⟨n, hk⟩, hg, mk⟩ | ⟨j', as, rk', r, ⟨n, hc⟩, mk⟩ | ⟨v, hq, mk⟩
  · exact ⟨n + 1, e, he, mk _ _ _ hk⟩
  · have hc' := Wm_mono n (Nat.le_refl n) (Q' := fun v τ => ∃ m, rtn rk' v fun vs => Wm m j (pc + 3) ls (vs ++ r) τ Q) (fun v τ hv => rtn_ex hv) hc
    obtain ⟨m, hc'⟩ := Wm_ex n (fun m v τ => rtn rk' v fun vs => Wm m j (pc + 3) ls (vs ++ r) τ Q) (fun m m' v τ hm hv => rtn_mono (fun vs hw => Wm_mono m hm (fun _ _ hx => hx) hw) hv) hc'
    refine ⟨max n m + 1, e, he, mk _ _ _ ?_⟩
    exact Wm_mono n (Nat.le_max_left n m) (fun v τ hv => rtn_mono (fun vs hw => Wm_mono m (Nat.le_max_right n m) (fun _ _ hx => hx) hw) hv) hc'
  · exact ⟨1, e, he, mk _ _ _ hq⟩
def stopAt : List Nat → Nat → Prop → Prop → Prop
  | [], _, _, B => B
  | x :: xs, p, A, B => if p = x then A else stopAt xs p A B
theorem stopAt_of {A B : Prop} : ∀ {hs : List Nat} {p : Nat}, stopAt hs p A B → A ∨ B
  | [], _, h => Or.inr h
  | x :: xs, p, h => by
    unfold stopAt at h
    split at h
    · exact Or.inl h
    · exact stopAt_of h
/-- the conditions of a method from a place on: to the places hs, or n instructions on -/
def wp (cd : Nat → Option me_T) (rk j : Nat) (hs : List Nat) : Nat → Nat → ml_T → List mv_T → ms_T → mq_T → Prop
  | 0, pc, ls, st, σ, Q => At j pc ls st σ Q
  | n + 1, pc, ls, st, σ, Q => match cd pc with
    | none => False
    | some e => wpi pc e rk ls st σ (fun pc' ls' st' σ' => stopAt hs pc' (At j pc' ls' st' σ' Q) (wp cd rk j hs n pc' ls' st' σ' Q)) Ca Q
theorem wp_At {cd : Nat → Option me_T} {rk j : Nat} {hs : List Nat} (hcd : code_of j = cd) (hrk : mrt j = rk) : ∀ (n : Nat) {pc : Nat} {ls : ml_T} {st : List mv_T} {σ : ms_T} {Q : mq_T}, wp cd rk j hs n pc ls st σ Q → At j pc ls st σ Q := by
  subst hcd
  subst hrk
  intro n
  induction n with
  | zero => intro pc ls st σ Q h; exact h
  | succ n ih =>
    intro pc ls st σ Q h
    unfold wp at h
    split at h
    · exact h.elim
    · next e he =>
      refine At_wpi he ?_
      have key : ∀ pc' ls' st' σ', stopAt hs pc' (At j pc' ls' st' σ' Q) (wp (code_of j) (mrt j) j hs n pc' ls' st' σ' Q) → At j pc' ls' st' σ' Q := fun pc' ls' st' σ' h => (stopAt_of h).elim id (fun h => ih h)
      rcases wpi_inv h with ⟨pc', ls', st', σ', hk, hg, mk⟩ | ⟨j', as, rk', r, hc, mk⟩ | ⟨v, hq, mk⟩
      · exact mk _ _ _ (key _ _ _ _ hk)
      · exact mk _ _ _ (Ca.mono hc fun v τ hv => rtn_mono (fun vs hw => key _ _ _ _ hw) hv)
      · exact mk _ _ _ hq
theorem Ca_wp {cd : Nat → Option me_T} {rk j ml : Nat} {as : List mv_T} {σ : ms_T} {Q : mq_T} (hs : List Nat) (hcd : code_of j = cd) (hrk : mrt j = rk) (hml : mxl j = ml) (n : Nat) (h : wp cd rk j hs n 0 (pad ml as) [] σ Q) : Ca j as σ Q := by
  subst hml
  exact wp_At hcd hrk n h
