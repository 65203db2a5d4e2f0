noncomputable def cif {α : Type} (P : Prop) (a b : α) : α := @ite α P (Classical.propDecidable P) a b
theorem cif_p {α : Type} {P : Prop} {a b : α} (h : P) : cif P a b = a := @if_pos P (Classical.propDecidable P) h α a b
theorem cif_n {α : Type} {P : Prop} {a b : α} (h : ¬ P) : cif P a b = b := @if_neg P (Classical.propDecidable P) h α a b
/-! What the calls answer, and what they leave -/
def stnP (S : Sa) (i : Int) : Prop := 0 ≤ i ∧ i < nst S
def filQ (F : Fl) (f : Int) : Prop := 0 ≤ f ∧ f < F.1
def askP (S : Sa) (i t : Int) : Prop := stnP S i ∧ 0 ≤ t ∧ t ≤ 1000000
noncomputable def rInView (S : Sa) (i t : Int) : Int := cif (askP S i t) (cif (seesP (sts S i) t) 1 0) (-1)
noncomputable def rNext (S : Sa) (i t : Int) : Int := cif (askP S i t) (fstS (sts S i) t) (-1)
noncomputable def rRecv (S : Sa) (i t : Int) : Int := cif (askP S i t) (cif (seesP (sts S i) t ∧ ¬ hitP (sts S i) i t) 1 0) (-1)
def addP (p o d r : Int) : Prop := (1 ≤ p ∧ p ≤ 1000) ∧ (0 ≤ o ∧ o ≤ 1000) ∧ (1 ≤ d ∧ d ≤ p) ∧ 0 ≤ r ∧ r ≤ 2
noncomputable def rAdd (S : Sa) (p o d r : Int) : Int × Sa := cif (addP p o d r) (cif (nst S = 5) (-3, S) (nst S, admS S p o d r)) (-1, S)
def losP (S : Sa) (i r : Int) : Prop := stnP S i ∧ 0 ≤ r ∧ r ≤ 1000
def losS (S : Sa) (i r : Int) : Sa := (now S, nst S, up (sts S) i (up (sc (sts S i)) 4 r, cov (sts S i), of_ (sts S i), ol (sts S i), ct (sts S i)), que S, tot S)
noncomputable def rLoss (S : Sa) (i r : Int) : Int × Sa := cif (losP S i r) (sc (sts S i) 4, losS S i r) (-1, S)
def stoP (l s t : Int) : Prop := (1 ≤ l ∧ l ≤ 320) ∧ (0 ≤ s ∧ s ≤ 255) ∧ 1 ≤ t ∧ t ≤ 100000
def stoF (F : Fl) (n l s t : Int) : Fl := (F.1 + 1, up F.2 F.1 fun w => if w = 0 then l else if w = 1 then n else if w = 2 then t else s)
noncomputable def rStore (F : Fl) (n l s t : Int) : Int × Fl := cif (stoP l s t) (cif (0 < F.1 ∧ F.2 (F.1 - 1) 1 = n) (-2, F) (cif (8 ≤ exN F n ∨ 30 ≤ F.1) (-3, F) (F.1, stoF F n l s t))) (-1, F)
noncomputable def rInfo (F : Fl) (n f w : Int) : Int := cif (filQ F f ∧ 0 ≤ w ∧ w ≤ 3) (cif (w < 3) (F.2 f w) (cif (exP F f n) 1 0)) (-1)
noncomputable def rByte (F : Fl) (f k : Int) : Int := cif (filQ F f ∧ 0 ≤ k) (cif (k < F.2 f 0) (byF F f k) (-4)) (-1)
noncomputable def rDir (S : Sa) (i : Int) : Int := cif (stnP S i) (sc (sts S i) 5) (-1)
noncomputable def unkF (F : Fl) (S : Sa) (i f : Int) : Int := cif (exB F (now S) f = true ∧ ¬ knP (sts S i) f) 1 0
noncomputable def rUnk (F : Fl) (S : Sa) (i : Int) : Int := cif (stnP S i) (smI (unkF F S i) F.1) (-1)
noncomputable def rCov (S : Sa) (i x : Int) : Int := cif (stnP S i ∧ -1 ≤ x) (numL (cov (sts S i)) x) (-1)
noncomputable def rTHole (S : Sa) (i x : Int) : Int := cif (stnP S i ∧ -1 ≤ x) (numL (dirH S i) x) (-1)
def stfP (F : Fl) (S : Sa) (i f : Int) : Prop := stnP S i ∧ filQ F f
def stS (S : Sa) (i : Int) (s : St) : Sa := (now S, nst S, up (sts S) i s, que S, tot S)
noncomputable def rOpen (F : Fl) (S : Sa) (i f : Int) : Int × Sa := cif (stfP F S i f) (cif (¬ knP (sts S i) f ∨ 0 ≤ opl (sts S i) f) (-2, S) (cif (opl (sts S i) (-1) < 0) (-3, S) (opn (opnS (sts S i) f), stS S i (opnS (sts S i) f)))) (-1, S)
def lst (S : Sa) (i f : Int) : Iv := ol (sts S i) (opl (sts S i) f)
noncomputable def rClose (F : Fl) (S : Sa) (i f : Int) : Int × Sa := cif (stfP F S i f) (cif (opl (sts S i) f < 0) (-2, S) (sizeL (lst S i f), stS S i (clsS (sts S i) f))) (-1, S)
noncomputable def rBytes (F : Fl) (S : Sa) (i f : Int) : Int := cif (stfP F S i f) (cif (opl (sts S i) f < 0) (-2) (sizeL (lst S i f))) (-1)
noncomputable def rRByte (F : Fl) (S : Sa) (i f k : Int) : Int := cif (stfP F S i f ∧ 0 ≤ k) (cif (opl (sts S i) f < 0) (-2) (cif (hasB (lst S i f) k = 0) (-4) (byF F f k))) (-1)
noncomputable def rBHole (F : Fl) (S : Sa) (i f x : Int) : Int := cif (stfP F S i f ∧ -1 ≤ x) (cif (opl (sts S i) f < 0) (-2) (numL (filH F S i f) x)) (-1)
noncomputable def comF (F : Fl) (S : Sa) (i k : Int) : Int := cif (0 ≤ of_ (sts S i) k ∧ sizeL (ol (sts S i) k) = F.2 (of_ (sts S i) k) 0) 1 0
noncomputable def rComp (F : Fl) (S : Sa) (i : Int) : Int := cif (stnP S i) (smI (comF F S i) 3) (-1)
noncomputable def rReqD (S : Sa) (i : Int) : Int × Sa := cif (stnP S i) (cif (mayP S i ∧ 0 < ln (dirH S i)) (cif (6 ≤ ql (que S)) (-3, S) (ql (que S) + 1, putS S i (-1) (fst4 (dirH S i)))) (-2, S)) (-1, S)
noncomputable def rReqF (F : Fl) (S : Sa) (i f : Int) : Int × Sa := cif (stfP F S i f) (cif (filP F S i f) (cif (6 ≤ ql (que S)) (-3, S) (ql (que S) + 1, putS S i f (fst4 (filH F S i f)))) (-2, S)) (-1, S)
def quS (S : Sa) (Q : List Rq) : Sa := (now S, nst S, sts S, Q, tot S)
noncomputable def rWith (S : Sa) (i : Int) : Int × Sa := cif (stnP S i) (cif (plQ (que S) i < 0) (-4, S) (ql (que S) - 1, quS S (rmQ (que S) (plQ (que S) i)))) (-1, S)
noncomputable def qudF (r : Rq) (w : Int) : Int := if w = 0 then rst r else if w = 1 then (if rfl_ r = -1 then 2 else 1) else if w = 2 then rfl_ r else if w = 3 then ln (rho r) else if w = 4 then sizeL (rho r) else rle r
noncomputable def rQued (S : Sa) (p w : Int) : Int := cif (0 ≤ p ∧ 0 ≤ w ∧ w ≤ 5) (cif (p < ql (que S)) (qudF (qg (que S) p) w) (-4)) (-1)
noncomputable def rType (n : Int) (T : Int → Int) (c : Int) : Int × Int × (Int → Int) := cif (32 ≤ c ∧ c ≤ 126) (cif (n < 60) (n + 1, n + 1, up T n c) (-3, n, T)) (-1, n, T)
noncomputable def rFault (n : Int) (T : Int → Int) : Int := cif (prsOK n T) (-4) (prs n T).1
def texP (F : Fl) (S : Sa) (n : Int) (T : Int → Int) (i : Int) : Prop := prsOK n T ∧ hoP F S i (prs n T).2.1 (prs n T).2.2
noncomputable def rReqT (F : Fl) (S : Sa) (n : Int) (T : Int → Int) (i : Int) : Int × Sa := cif (stnP S i) (cif (texP F S n T i) (cif (6 ≤ ql (que S)) (-3, S) (ql (que S) + 1, putS S i (prs n T).2.1 (prs n T).2.2)) (-2, S)) (-1, S)
/-- the last frame: 0 kind (-1: none was sent), 1 file, 2 first, 3 last, 4 receivers -/
def frK (r : Fr) (rc : Int) : Int → Int := fun w => if w = 0 then r.1 else if w = 1 then r.2.1 else if w = 2 then r.2.2.1 else if w = 3 then r.2.2.2 else rc
def ticN (F : Fl) : Nat → Sa × (Int → Int) → Sa × (Int → Int)
  | 0, x => x
  | k + 1, x => (ticS F (ticN F k x).1, frK (tkFr F (ticN F k x).1) (tkRc (ticN F k x).1))
noncomputable def rRun (F : Fl) (S : Sa) (K : Int → Int) (k : Int) : Int × Sa × (Int → Int) := cif (1 ≤ k ∧ k ≤ 1000) (cif (now S + k ≤ 1000000) (now S + k, ticN F k.toNat (S, K)) (-3, S, K)) (-1, S, K)
noncomputable def rLast (K : Int → Int) (w : Int) : Int := cif (0 ≤ w ∧ w ≤ 4) (cif (K 0 < 0 ∨ (K 0 = 0 ∧ 2 ≤ w ∧ w ≤ 3)) (-4) (K w)) (-1)
noncomputable def rTot (S : Sa) (w : Int) : Int := cif (0 ≤ w ∧ w ≤ 4) (tot S w) (-1)
noncomputable def rSTot (S : Sa) (i w : Int) : Int := cif (stnP S i ∧ 0 ≤ w ∧ w ≤ 3) (ct (sts S i) w) (-1)
/-- asked, if it may be, and a tick on -/
noncomputable def simS (F : Fl) (S : Sa) (i f : Int) : Sa := ticS F (rReqF F S i f).2
noncomputable def simN (F : Fl) (i f : Int) : Nat → Sa → Sa
  | 0, S => S
  | k + 1, S => simS F (simN F i f k S) i f
/-- the first k ≤ n with the file complete after k ticks; none: -4 -/
noncomputable def comN (F : Fl) (S : Sa) (i f : Int) : Nat → Nat → Int
  | 0, k => cif (cmpP F (simN F i f k S) i f) (k : Int) (-4)
  | n + 1, k => cif (cmpP F (simN F i f k S) i f) (k : Int) (comN F S i f n (k + 1))
noncomputable def rToC (F : Fl) (S : Sa) (i f : Int) : Int := cif (stfP F S i f) (cif (opl (sts S i) f < 0) (-2) (comN F S i f 2000 0)) (-1)
/-! The class whole: 1 itself, 2 files, 7 satellite, 117 the imagined one, 227 text -/
def FrK (σ : ms_T) (b : Nat) (K : Int → Int) : Prop := gs σ b = (1, 0) ∧ (K 0 < 0 → gi σ b 0 = 0) ∧ (0 ≤ K 0 → FrC σ b (K 0, K 1, K 2, K 3) (K 4))
theorem FrK.ag {σ τ : ms_T} {b : Nat} {K : Int → Int} (h : FrK σ b K) (hs : Ag σ τ (fun c => c = b)) : FrK τ b K := ⟨by rw [hs.s (c := b) rfl]; exact h.1, fun z => by rw [hs.i (c := b) rfl]; exact h.2.1 z, fun z => (h.2.2 z).ag hs⟩
theorem FrK.of {σ : ms_T} {b : Nat} {r : Fr} {rc : Int} (h : FrC σ b r rc) (hr : 0 ≤ r.1) : FrK σ b (frK r rc) := ⟨h.1, fun z => by have z : r.1 < 0 := z; omega, fun _ => h⟩
def ClC (σ : ms_T) (F : Fl) (S : Sa) (K : Int → Int) (n : Int) (T : Int → Int) : Prop := (gs σ 1 = (8, 0) ∧ gr σ 1 0 = some 2 ∧ gr σ 1 1 = some 7 ∧ gr σ 1 2 = some 117 ∧ gr σ 1 3 = some 227) ∧ FlC σ 2 F ∧ SaC σ 7 S ∧ (∀ i : Int, nst S ≤ i → i < 5 → StC σ (sa 7 i) i (sts S i)) ∧ (SaS σ 117 ∧ ∃ L0, QuC σ 119 L0) ∧ TxC σ 227 n T ∧ FrK σ 35 K
def frs : St := (fun _ => 0, [], fun _ => -1, fun _ => [], fun _ => 0)
def StW (F : Fl) (S : Sa) (K : Int → Int) (n : Int) (T : Int → Int) : Prop := FW F ∧ SaW F S ∧ now S ≤ 1000000 ∧ TxW n T ∧ exN F (now S) ≤ 8 ∧ (∀ i : Int, nst S ≤ i → i < 5 → sts S i = frs) ∧ -1 ≤ K 0
def inCl (c : Nat) : Prop := 1 ≤ c ∧ c ≤ 231
theorem TxC.ag {σ τ : ms_T} {x : Nat} {n : Int} {T : Int → Int} (h : TxC σ x n T) (hs : Ag σ τ (inTx x)) : TxC τ x n T := by
  have g0 : inTx x x := ⟨by omega, by omega⟩
  have g1 : inTx x (x + 1) := ⟨by omega, by omega⟩
  obtain ⟨⟨h1, h2, h3, h4, h5⟩, h6, h7⟩ := h
  exact ⟨⟨by rw [hs.s g0]; exact h1, by rw [hs.r g0]; exact h2, by rw [hs.r g0]; exact h3, by rw [hs.s g1]; exact h4, h5.ag (hs.wk fun c hc => by unfold inIv at hc; unfold inTx; omega)⟩, by rw [hs.i g0]; exact h6, fun i a b => by rw [hs.i g1]; exact h7 i a b⟩
/-- another satellite -/
theorem ClC.sat {σ τ : ms_T} {F : Fl} {S S' : Sa} {K K' : Int → Int} {n : Int} {T : Int → Int} (h : ClC σ F S K n T) (hs : Sq σ τ (inSa 7)) (hS : SaC τ 7 S') (hf : ∀ i : Int, nst S' ≤ i → i < 5 → StC τ (sa 7 i) i (sts S' i)) (hK : FrK τ 35 K') : ClC τ F S' K' n T := by
  obtain ⟨⟨m0, m1, m2, m3, m4⟩, hF, -, -, ⟨h1, L0, h2⟩, hT, -⟩ := h
  have a1 : Ag σ τ (fun c => c = 1) := hs.ag fun c hc => by unfold inSa; omega
  refine ⟨⟨by rw [a1.s (c := 1) rfl]; exact m0, by rw [a1.r (c := 1) rfl]; exact m1, by rw [a1.r (c := 1) rfl]; exact m2, by rw [a1.r (c := 1) rfl]; exact m3, by rw [a1.r (c := 1) rfl]; exact m4⟩, hF.ag (hs.ag fun c hc => by unfold inF at hc; unfold inSa; omega), hS, hf, ⟨h1.ag (hs.ag fun c hc => by unfold inSa at *; omega), L0, h2.ag (hs.ag fun c hc => by unfold inQu at hc; unfold inSa; omega)⟩, hT.ag (hs.ag fun c hc => by unfold inTx at hc; unfold inSa; omega), hK⟩
/-- another imagined one -/
theorem ClC.img {σ τ : ms_T} {F : Fl} {S : Sa} {K : Int → Int} {n : Int} {T : Int → Int} {L : List Rq} (h : ClC σ F S K n T) (hw : SaW F S) (hs : Sq σ τ (inSa 117)) (hS : SaS τ 117) (hq : QuC τ 119 L) : ClC τ F S K n T := by
  obtain ⟨⟨m0, m1, m2, m3, m4⟩, hF, hS7, hf, -, hT, hK⟩ := h
  have a1 : Ag σ τ (fun c => c = 1) := hs.ag fun c hc => by unfold inSa; omega
  have hn5 := hw.1.2
  have hn0 := hw.1.1
  refine ⟨⟨by rw [a1.s (c := 1) rfl]; exact m0, by rw [a1.r (c := 1) rfl]; exact m1, by rw [a1.r (c := 1) rfl]; exact m2, by rw [a1.r (c := 1) rfl]; exact m3, by rw [a1.r (c := 1) rfl]; exact m4⟩, hF.ag (hs.ag fun c hc => by unfold inF at hc; unfold inSa; omega), hS7.ag hn5 (hs.ag fun c hc => by unfold inSa at *; omega) (by rw [hs.2.2.1]; exact hK.1), fun i a b => (hf i a b).ag (hs.ag fun c hc => by unfold inSt sa at hc; unfold inSa; omega), ⟨hS, L, hq⟩, hT.ag (hs.ag fun c hc => by unfold inTx at hc; unfold inSa; omega), hK.ag (hs.ag fun c hc => by unfold inSa; omega)⟩
/-- another text -/
theorem ClC.txt {σ τ : ms_T} {F : Fl} {S : Sa} {K : Int → Int} {n n' : Int} {T T' : Int → Int} (h : ClC σ F S K n T) (hw : SaW F S) (hs : Sm σ τ (inTx 227)) (hT' : TxC τ 227 n' T') : ClC τ F S K n' T' := by
  obtain ⟨⟨m0, m1, m2, m3, m4⟩, hF, hS7, hf, ⟨h1, L0, h2⟩, hT, hK⟩ := h
  have hn5 := hw.1.2
  have hn0 := hw.1.1
  refine ⟨⟨by rw [hs.s]; exact m0, by rw [hs.r]; exact m1, by rw [hs.r]; exact m2, by rw [hs.r]; exact m3, by rw [hs.r]; exact m4⟩, hF.ag (hs.ag fun c hc => by unfold inF at hc; unfold inTx; omega), hS7.ag hn5 (hs.ag fun c hc => by unfold inSa at hc; unfold inTx; omega) (by rw [hs.s]; exact hK.1), fun i a b => (hf i a b).ag (hs.ag fun c hc => by unfold inSt sa at hc; unfold inTx; omega), ⟨h1.ag (hs.ag fun c hc => by unfold inSa at hc; unfold inTx; omega), L0, h2.ag (hs.ag fun c hc => by unfold inQu at hc; unfold inTx; omega)⟩, hT', hK.ag (hs.ag fun c hc => by unfold inTx; omega)⟩
/-- another set of files -/
theorem ClC.fil {σ τ : ms_T} {F F' : Fl} {S : Sa} {K : Int → Int} {n : Int} {T : Int → Int} (h : ClC σ F S K n T) (hw : SaW F S) (hs : Sm σ τ (inF 2)) (hF' : FlC τ 2 F') : ClC τ F' S K n T := by
  obtain ⟨⟨m0, m1, m2, m3, m4⟩, hF, hS7, hf, ⟨h1, L0, h2⟩, hT, hK⟩ := h
  have hn5 := hw.1.2
  have hn0 := hw.1.1
  refine ⟨⟨by rw [hs.s]; exact m0, by rw [hs.r]; exact m1, by rw [hs.r]; exact m2, by rw [hs.r]; exact m3, by rw [hs.r]; exact m4⟩, hF', hS7.ag hn5 (hs.ag fun c hc => by unfold inSa at hc; unfold inF; omega) (by rw [hs.s]; exact hK.1), fun i a b => (hf i a b).ag (hs.ag fun c hc => by unfold inSt sa at hc; unfold inF; omega), ⟨h1.ag (hs.ag fun c hc => by unfold inSa at hc; unfold inF; omega), L0, h2.ag (hs.ag fun c hc => by unfold inQu at hc; unfold inF; omega)⟩, hT.ag (hs.ag fun c hc => by unfold inTx at hc; unfold inF; omega), hK.ag (hs.ag fun c hc => by unfold inF; omega)⟩
