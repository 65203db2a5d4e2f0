/-! The closed runs, from the law's place 8 to 40 -/
theorem run_t {σ : ms_T} {Q : mq_T} (hE : Ah σ Q qt5) : Ah σ Q qt0 := rnc_ok et1 (rnc_ok et2 (rnc_ok et3 (rnc_ok et4 (rnc_ok et5 (hE)))))
theorem sg_0 {σ : ms_T} {B g : Nat} {rows : List (List ec_T)} (h1 : gn σ = B) (h2 : gl σ = g) : sg σ (B, 0, g, rows) = σ := by
  have no : ∀ c, ¬ inM (B, 0, g, rows) c := fun c z => by
    have z1 : B < c := z.1
    have z2 : c ≤ B + 0 := z.2
    omega
  refine ms_ext ?_ (fun c => gs_sgo (no c)) (fun c k => gi_sgo (no c)) (fun c k => gr_sgo (no c))
  show (B + 0, g) = σ.1
  rw [← h1, ← h2]
  rfl
theorem sg_kp {σ : ms_T} {B n g : Nat} {rows : List (List ec_T)} : Kp B σ (sg σ (B, n, g, rows)) := fun c hc => by
  have no : ¬ inM (B, n, g, rows) c := fun z => by
    have z1 : B < c := z.1
    omega
  exact ⟨gs_sgo no, fun k => gr_sgo no, fun k => gi_sgo no⟩
theorem seg_t {σ : ms_T} {Q : mq_T} (h1 : gn σ = 231) (h2 : gl σ = 1946) (hE : ∀ τ, gn τ = 462 → gl τ = 3892 → Kp 231 σ τ → At n_L_law 21 l0s [] τ Q) : At n_L_law 8 l0s [] σ Q := by
  have h := run_t (σ := σ) (Q := Q) (hE (sg σ qt5.2.2.2.2.2) rfl rfl sg_kp)
  have h : At n_L_law 8 l0s [] (sg σ (231, 0, 1946, qt0.2.2.2.2.2.2.2.2)) Q := h
  rw [sg_0 h1 h2] at h
  exact h
