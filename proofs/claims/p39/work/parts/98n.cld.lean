/-! The closed runs, from the law's place 8 to 40 -/
theorem run_t {σ : ms_T} {Q : mq_T} (hE : Ah σ Q qt2) : Ah σ Q qt0 := rnc_ok et1 (rnc_ok et2 (hE))
theorem run_k {σ : ms_T} {Q : mq_T} (hE : Ah σ Q qk45) : Ah σ Q qk0 := rnc_ok ek1 (rnc_ok ek2 (rnc_ok ek3 (rnc_ok ek4 (rnc_ok ek5 (rnc_ok ek6 (rnc_ok ek7 (rnc_ok ek8 (rnc_ok ek9 (rnc_ok ek10 (rnc_ok ek11 (rnc_ok ek12 (rnc_ok ek13 (rnc_ok ek14 (rnc_ok ek15 (rnc_ok ek16 (rnc_ok ek17 (rnc_ok ek18 (rnc_ok ek19 (rnc_ok ek20 (rnc_ok ek21 (rnc_ok ek22 (rnc_ok ek23 (rnc_ok ek24 (rnc_ok ek25 (rnc_ok ek26 (rnc_ok ek27 (rnc_ok ek28 (rnc_ok ek29 (rnc_ok ek30 (rnc_ok ek31 (rnc_ok ek32 (rnc_ok ek33 (rnc_ok ek34 (rnc_ok ek35 (rnc_ok ek36 (rnc_ok ek37 (rnc_ok ek38 (rnc_ok ek39 (rnc_ok ek40 (rnc_ok ek41 (rnc_ok ek42 (rnc_ok ek43 (rnc_ok ek44 (rnc_ok ek45 (hE)))))))))))))))))))))))))))))))))))))))))))))
theorem run_f {σ : ms_T} {Q : mq_T} (hE : Ah σ Q qf2) : Ah σ Q qf0 := rnc_ok ef1 (rnc_ok ef2 (hE))
theorem sg_0 {σ : ms_T} {B g : Nat} {rows : List (List ec_T)} (h1 : gn σ = B) (h2 : gl σ = g) : sg σ (B, 0, g, rows) = σ := by
  have no : ∀ c, ¬ inM (B, 0, g, rows) c := fun c z => by
    have z1 : B < c := z.1
    have z2 : c ≤ B + 0 := z.2
    omega
  refine ms_ext ?_ (fun c => gs_sgo (no c)) (fun c k => gi_sgo (no c)) (fun c k => gr_sgo (no c))
  show (B + 0, g) = σ.1
  rw [← h1, ← h2]
  rfl
theorem sg_kp {σ : ms_T} {B n g : Nat} {rows : List (List ec_T)} : Kp B σ (sg σ (B, n, g, rows)) := fun c hc => by
  have no : ¬ inM (B, n, g, rows) c := fun z => by
    have z1 : B < c := z.1
    omega
  exact ⟨gs_sgo no, fun k => gr_sgo no, fun k => gi_sgo no⟩
theorem seg_t {σ : ms_T} {Q : mq_T} (h1 : gn σ = 231) (h2 : gl σ = 1946) (hE : ∀ τ, gn τ = 462 → gl τ = 3892 → Kp 231 σ τ → At n_L_law 21 l0s [] τ Q) : At n_L_law 8 l0s [] σ Q := by
  have h := run_t (σ := σ) (Q := Q) (hE (sg σ qt2.2.2.2.2.2) rfl rfl sg_kp)
  have h : At n_L_law 8 l0s [] (sg σ (231, 0, 1946, qt0.2.2.2.2.2.2.2.2)) Q := h
  rw [sg_0 h1 h2] at h
  exact h
theorem seg_k {σ : ms_T} {Q : mq_T} (h1 : gn σ = 462) (h2 : gl σ = 3892) (hE : ∀ τ, gn τ = 693 → gl τ = 5838 → Kp 462 σ τ → At n_L_law 34 l0s [] τ Q) : At n_L_law 21 l0s [] σ Q := by
  have h := run_k (σ := σ) (Q := Q) (hE (sg σ qk45.2.2.2.2.2) rfl rfl sg_kp)
  have h : At n_L_law 21 l0s [] (sg σ (462, 0, 3892, qk0.2.2.2.2.2.2.2.2)) Q := h
  rw [sg_0 h1 h2] at h
  exact h
theorem seg_f {σ : ms_T} {Q : mq_T} (h1 : gn σ = 693) (h2 : gl σ = 5838) (hE : ∀ τ, gn τ = 924 → gl τ = 7784 → Kp 693 σ τ → At n_L_law 40 l0s [] τ Q) : At n_L_law 34 l0s [] σ Q := by
  have h := run_f (σ := σ) (Q := Q) (hE (sg σ qf2.2.2.2.2.2) rfl rfl sg_kp)
  have h : At n_L_law 34 l0s [] (sg σ (693, 0, 5838, qf0.2.2.2.2.2.2.2.2)) Q := h
  rw [sg_0 h1 h2] at h
  exact h
theorem cld_ok : Cld := fun σ Q h1 h2 hE => seg_t h1 h2 fun τ t1 t2 t3 => seg_k t1 t2 fun υ u1 u2 u3 => seg_f u1 u2 fun ω w1 w2 w3 => hE ω w1 w2 ((t3.tr (u3.le (by decide))).tr (w3.le (by decide)))
