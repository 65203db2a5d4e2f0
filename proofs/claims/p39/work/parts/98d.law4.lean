/-! The law's rounds -/
section RND
variable {F : Fl} {S : Sa} {K : Int → Int} {n : Int} {T : Int → Int}
theorem exN_le (hF : 0 ≤ F.1) (t : Int) : exN F t ≤ F.1 := by
  have key : ∀ i, 0 ≤ i → i ≤ F.1 → smI (fun f => if exB F t f = true then (1 : Int) else 0) i ≤ i := by
    refine smI_ind (fun i x => x ≤ i) (Int.le_refl _) fun i x h0 h1 h2 => ?_
    show x + (if exB F t i = true then (1 : Int) else 0) ≤ i + 1
    split <;> omega
  exact key F.1 hF (Int.le_refl _)
/-- what a round begins with: files stored, the last before the present -/
def Rd0 (F : Fl) (S : Sa) (l3 l4 t : Int) : Prop := nst S = l3 ∧ F.1 = l4 ∧ now S ≤ t ∧ (0 < F.1 → F.2 (F.1 - 1) 1 < now S)
def Rd1 (F : Fl) (S : Sa) (l3 l4 t : Int) : Prop := nst S = l3 ∧ F.1 = l4 ∧ now S ≤ t ∧ (0 < F.1 → F.2 (F.1 - 1) 1 ≤ now S)
theorem store_ok {l s : Int} (hw : StW F S K n T) (h8 : F.1 < 8) (hl : 0 < F.1 → F.2 (F.1 - 1) 1 < now S) (h1 : 0 ≤ l ∧ l < 320) (h2 : 0 ≤ s ∧ s < 256) : rStore F (now S) (1 + l) s 1000 = (F.1, stoF F (now S) (1 + l) s 1000) := by
  have := exN_le hw.1.1 (now S)
  unfold rStore
  rw [cif_p (by unfold stoP; omega), cif_n (fun z => by have := hl z.1; omega), cif_n (by omega)]
theorem stoF_1 {t l s d : Int} : (stoF F t l s d).2 ((stoF F t l s d).1 - 1) 1 = t := by
  show up F.2 F.1 _ (F.1 + 1 - 1) 1 = t
  rw [show F.1 + 1 - 1 = F.1 by omega, up_eq]
  rfl
theorem reqD_same {i : Int} : now (rReqD S i).2 = now S ∧ nst (rReqD S i).2 = nst S := by
  unfold rReqD
  by_cases c : stnP S i
  · rw [cif_p c]
    by_cases d : mayP S i ∧ 0 < ln (dirH S i)
    · rw [cif_p d]
      by_cases e : 6 ≤ ql (que S)
      · rw [cif_p e]; exact ⟨rfl, rfl⟩
      · rw [cif_n e]; exact ⟨rfl, rfl⟩
    · rw [cif_n d]; exact ⟨rfl, rfl⟩
  · rw [cif_n c]; exact ⟨rfl, rfl⟩
theorem opn_same {i f : Int} : now (rOpen F S i f).2 = now S ∧ nst (rOpen F S i f).2 = nst S := by
  unfold rOpen
  by_cases c : stfP F S i f
  · rw [cif_p c]
    by_cases d : ¬ knP (sts S i) f ∨ 0 ≤ opl (sts S i) f
    · rw [cif_p d]; exact ⟨rfl, rfl⟩
    · rw [cif_n d]
      by_cases e : opl (sts S i) (-1) < 0
      · rw [cif_p e]; exact ⟨rfl, rfl⟩
      · rw [cif_n e]; exact ⟨rfl, rfl⟩
  · rw [cif_n c]; exact ⟨rfl, rfl⟩
theorem run_same {k : Int} (hw : StW F S K n T) (h1 : 1 ≤ k ∧ k ≤ 1000) (h2 : now S + k ≤ 1000000) : now (rRun F S K k).2.1 = now S + k ∧ nst (rRun F S K k).2.1 = nst S := by
  unfold rRun
  rw [cif_p h1, cif_p h2]
  obtain ⟨a1, a2, a3, a4, a5⟩ := ticN_ok (K := K) hw.1 hw.2.1 k.toNat
  exact ⟨by show now (ticN F k.toNat (S, K)).1 = _; omega, a3⟩
theorem empN_nn : ∀ (m : Nat) (S : Sa) (k : Int), 0 ≤ k → 0 ≤ empN F m S k
  | 0, S, k, h => h
  | m + 1, S, k, h => by
    unfold empN
    split
    · exact h
    · exact empN_nn m _ _ (by omega)
theorem comN_bd {i f : Int} : ∀ (m k : Nat), comN F S i f m k = -4 ∨ (0 ≤ comN F S i f m k ∧ comN F S i f m k ≤ (k : Int) + m)
  | 0, k => by
    unfold comN
    by_cases c : cmpP F (simN F i f k S) i f
    · rw [cif_p c]; omega
    · rw [cif_n c]; exact Or.inl rfl
  | m + 1, k => by
    unfold comN
    by_cases c : cmpP F (simN F i f k S) i f
    · rw [cif_p c]; omega
    · rw [cif_n c]
      have := comN_bd (i := i) (f := f) m (k + 1)
      omega
theorem toC_ok {i f : Int} (hw : StW F S K n T) : (rToC F S i f = -2 ↔ rBytes F S i f = -2) ∧ rToC F S i f ≤ 2000 := by
  unfold rToC rBytes
  by_cases c : stfP F S i f
  · rw [cif_p c, cif_p c]
    by_cases d : opl (sts S i) f < 0
    · rw [cif_p d, cif_p d]
      exact ⟨Iff.rfl, by decide⟩
    · rw [cif_n d, cif_n d]
      have h1 := comN_bd (F := F) (S := S) (i := i) (f := f) 2000 0
      have hb := opl_bd (sts S i) f
      have hL := ((hw.2.1.2.2.1 i c.1.1 c.1.2).2.2.1 _ (by omega) hb.2.1).2.2.1
      have h2 : 0 ≤ sizeL (lst S i f) := (sz_bd hL _ (by unfold ln; omega) (Int.le_refl _)).1
      omega
  · rw [cif_n c, cif_n c]
    exact ⟨Iff.rfl, by decide⟩
end RND
