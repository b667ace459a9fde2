/-! PURE, 24: the state, said once; what class and reference hold of it -/
abbrev Sg : Type := (Nat → Nat → Int32) × (Nat → Int64)
def uA (σ : Sg) (a : Nat) (f : Nat → Int32) : Sg := (fun b => if b = a then f else σ.1 b, σ.2)
def uI (σ : Sg) (a k : Nat) (v : Int32) : Sg := uA σ a (upd (σ.1 a) k v)
def uL (σ : Sg) (k : Nat) (v : Int64) : Sg := (σ.1, vp_updL σ.2 k v)
theorem uA_eq (σ : Sg) (a : Nat) (f : Nat → Int32) : (uA σ a f).1 a = f := by simp [uA]
theorem uA_ne (σ : Sg) {a b : Nat} (f : Nat → Int32) (h : b ≠ a) : (uA σ a f).1 b = σ.1 b := by simp [uA, h]
theorem uI_eq (σ : Sg) (a k : Nat) (v : Int32) : (uI σ a k v).1 a = upd (σ.1 a) k v := uA_eq _ _ _
theorem uI_ne (σ : Sg) {a b : Nat} (k : Nat) (v : Int32) (h : b ≠ a) : (uI σ a k v).1 b = σ.1 b := uA_ne _ _ h
def sB (σ : Sg) : Nat := (σ.1 0 6).toInt.toNat
def sT (σ : Sg) : Nat := (σ.1 0 7).toInt.toNat
def sP (σ : Sg) : Nat := (σ.1 0 8).toInt.toNat
def sR (σ : Sg) : Nat := (σ.1 0 9).toInt.toNat
/-- the class's row (t, m) -/
def RX (Λ : Nat → Nat) (M : Mm) (σ : Sg) (t m : Nat) : Prop :=
  gI M (Λ (rc t m)) 1 = σ.1 21 (4 * t + m) ∧ gI M (Λ (rc t m + 1)) = σ.1 (100 + (4 * t + m)) ∧ (∀ b, b < 40 → (gJ M (Λ (rc t m)) 2).toBitVec.getLsbD b = decide (σ.1 (200 + (4 * t + m)) b = 1)) ∧ (gI M (Λ (rc t m)) 3 = 0 → ∃ B p, B ≤ 40 ∧ p ≤ 1000 ∧ gI M (Λ (rc t m)) 4 = nI B ∧ gI M (Λ (rc t m)) 5 = nI p ∧ RowCut Λ M (rc t m) (σ.1 (100 + (4 * t + m))) B p)
theorem RowCut.same {Λ Λ' : Nat → Nat} {M M' : Mm} {r B p : Nat} {v : Nat → Int32} (h : RowCut Λ M r v B p) (e : ∀ j, j ≤ 6 → gI M' (Λ' (r + j)) = gI M (Λ (r + j))) : RowCut Λ' M' r v B p := by
  have e0 := e 0 (by omega)
  rw [Nat.add_zero] at e0
  unfold RowCut MidOk at *
  rw [e0, e 2 (by omega), e 3 (by omega), e 4 (by omega), e 5 (by omega), e 6 (by omega)]
  exact h
theorem RX.same {Λ Λ' : Nat → Nat} {M M' : Mm} {σ σ' : Sg} {t m : Nat} (h : RX Λ M σ t m) (eI : ∀ j, j ≤ 6 → gI M' (Λ' (rc t m + j)) = gI M (Λ (rc t m + j))) (eJ : gJ M' (Λ' (rc t m)) 2 = gJ M (Λ (rc t m)) 2) (e1 : σ'.1 21 (4 * t + m) = σ.1 21 (4 * t + m)) (e2 : σ'.1 (100 + (4 * t + m)) = σ.1 (100 + (4 * t + m))) (e3 : σ'.1 (200 + (4 * t + m)) = σ.1 (200 + (4 * t + m))) : RX Λ' M' σ' t m := by
  have e0 := eI 0 (by omega)
  rw [Nat.add_zero] at e0
  obtain ⟨h1, h2, h3, h4⟩ := h
  refine ⟨by rw [e0, e1]; exact h1, by rw [eI 1 (by omega), e2]; exact h2, fun b hb => by rw [eJ, e3]; exact h3 b hb, fun c => ?_⟩
  rw [e0] at c
  obtain ⟨B, p, a1, a2, a3, a4, a5⟩ := h4 c
  exact ⟨B, p, a1, a2, by rw [e0]; exact a3, by rw [e0]; exact a4, by rw [e2]; exact a5.same eI⟩
/-- the class's cells, but the table for odds -/
def SX (Λ : Nat → Nat) (M : Mm) (T : Nat) : Prop := ok M (Λ 0) 5 ∧ (gR M (Λ 0) 0 = some (Λ 1) ∧ ok M (Λ 1) 11 ∧ gN M (Λ 1) = 8) ∧ (gR M (Λ 0) 1 = some (Λ 2) ∧ ok M (Λ 2) 7 ∧ gN M (Λ 2) = 6) ∧ (gR M (Λ 0) 2 = some (Λ 3) ∧ ok M (Λ 3) 7 ∧ gN M (Λ 3) = 300) ∧ (gR M (Λ 0) 3 = some (Λ 4) ∧ CutSh Λ M) ∧ (gR M (Λ 0) 4 = some (Λ 9) ∧ ok M (Λ 9) 2) ∧ ∀ t, t < T → gR M (Λ 1) t = some (Λ (tc t)) ∧ TestSh Λ M t
def Cz (Λ : Nat → Nat) (M : Mm) : Prop := gR M (Λ 0) 5 = none ∨ (gR M (Λ 0) 5 = some (Λ 10) ∧ ChSh Λ M)
theorem SX.of {Λ : Nat → Nat} {M M' : Mm} {T : Nat} (h : SX Λ M T) (e : M'.2.2 = M.2.2) : SX Λ M' T := by
  unfold SX CutSh TestSh RowSh ok gR gK gN gL at *
  rw [e]; exact h
theorem Cz.of {Λ : Nat → Nat} {M M' : Mm} (h : Cz Λ M) (e : M'.2.2 = M.2.2) : Cz Λ M' := by
  unfold Cz ChSh ok gR gK gN gL at *
  rw [e]; exact h
def uX (T c : Nat) : Prop := c ≤ 9 ∨ (20 ≤ c ∧ c < 20 + 30 * T)
theorem SX.lam {Λ Λ' : Nat → Nat} {M M' : Mm} {T : Nat} (h : SX Λ M T) (e : ∀ c, uX T c → Λ' c = Λ c) (eK : ∀ c k, uX T c → ok M (Λ c) k → ok M' (Λ c) k ∧ gN M' (Λ c) = gN M (Λ c)) (eR : ∀ c k, uX T c → ¬ (c = 0 ∧ k = 5) → gR M' (Λ c) k = gR M (Λ c) k) : SX Λ' M' T := by
  have o : ∀ c k, uX T c → ok M (Λ c) k → ok M' (Λ' c) k := fun c k u z => by rw [e c u]; exact (eK c k u z).1
  have nn : ∀ c k N, uX T c → ok M (Λ c) k → gN M (Λ c) = N → gN M' (Λ' c) = N := fun c k N u z y => by rw [e c u, (eK c k u z).2]; exact y
  have r : ∀ c k d, uX T c → uX T d → ¬ (c = 0 ∧ k = 5) → gR M (Λ c) k = some (Λ d) → gR M' (Λ' c) k = some (Λ' d) := fun c k d u u2 n z => by rw [e c u, e d u2, eR c k u n]; exact z
  obtain ⟨h0, ⟨h1, h2, h3⟩, ⟨h4, h5, h6⟩, ⟨h7, h8, h9⟩, ⟨h10, h11, h12, h13, h14⟩, ⟨h15, h16⟩, h17⟩ := h
  have s : ∀ c, c ≤ 9 → uX T c := fun c z => Or.inl z
  refine ⟨o 0 5 (s 0 (by omega)) h0, ⟨r 0 0 1 (s _ (by omega)) (s _ (by omega)) (by omega) h1, o 1 _ (s _ (by omega)) h2, nn 1 _ _ (s _ (by omega)) h2 h3⟩, ⟨r 0 1 2 (s _ (by omega)) (s _ (by omega)) (by omega) h4, o 2 _ (s _ (by omega)) h5, nn 2 _ _ (s _ (by omega)) h5 h6⟩, ⟨r 0 2 3 (s _ (by omega)) (s _ (by omega)) (by omega) h7, o 3 _ (s _ (by omega)) h8, nn 3 _ _ (s _ (by omega)) h8 h9⟩, ⟨r 0 3 4 (s _ (by omega)) (s _ (by omega)) (by omega) h10, o 4 _ (s _ (by omega)) h11, fun j hj => r 4 j (5 + j) (s _ (by omega)) (s _ (by omega)) (by omega) (h12 j hj), fun j hj => o (5 + j) _ (s _ (by omega)) (h13 j hj), fun j hj => nn (5 + j) _ _ (s _ (by omega)) (h13 j hj) (h14 j hj)⟩, ⟨r 0 4 9 (s _ (by omega)) (s _ (by omega)) (by omega) h15, o 9 _ (s _ (by omega)) h16⟩, fun t ht => ?_⟩
  have b : ∀ j, j < 30 → uX T (tc t + j) := fun j hj => Or.inr (by unfold tc; omega)
  obtain ⟨t1, t2, t3, t4, t5, t6⟩ := h17 t ht
  refine ⟨r 1 t (tc t) (s _ (by omega)) (b 0 (by omega)) (by omega) t1, o (tc t) _ (b 0 (by omega)) t2, r (tc t) 1 (tc t + 1) (b 0 (by omega)) (b 1 (by omega)) (by omega) t3, o (tc t + 1) _ (b 1 (by omega)) t4, nn (tc t + 1) _ _ (b 1 (by omega)) t4 t5, fun m hm => ?_⟩
  have hb : ∀ j, j ≤ 6 → uX T (rc t m + j) := fun j hj => by have := b (2 + 7 * m + j) (by omega); unfold tc at this; unfold rc; rwa [show 20 + 30 * t + 2 + 7 * m + j = 20 + 30 * t + (2 + 7 * m + j) by omega]
  have b0 : uX T (rc t m) := hb 0 (by omega)
  have z0 : ∀ k, ¬ (rc t m = 0 ∧ k = 5) := fun k z => by unfold rc at z; omega
  obtain ⟨m1, m2, ⟨m3, m4, m5, m6, m7, m8⟩, m9, m10, m11⟩ := t6 m hm
  exact ⟨r (tc t + 1) m (rc t m) (b 1 (by omega)) b0 (by omega) m1, o (rc t m) _ b0 m2, ⟨r _ _ _ b0 (hb 1 (by omega)) (z0 _) m3, r _ _ _ b0 (hb 2 (by omega)) (z0 _) m4, r _ _ _ b0 (hb 3 (by omega)) (z0 _) m5, r _ _ _ b0 (hb 4 (by omega)) (z0 _) m6, r _ _ _ b0 (hb 5 (by omega)) (z0 _) m7, r _ _ _ b0 (hb 6 (by omega)) (z0 _) m8⟩, fun j j1 j2 => o _ _ (hb j j2) (m9 j j1 j2), fun j j1 j2 j3 => nn _ _ _ (hb j j2) (m9 j j1 j2) (m10 j j1 j2 j3), nn _ _ _ (hb 4 (by omega)) (m9 4 (by omega) (by omega)) m11⟩
/-- what the class's cells hold -/
def CX (Λ : Nat → Nat) (M : Mm) (σ : Sg) : Prop := gI M (Λ 0) = σ.1 0 ∧ gI M (Λ 2) = σ.1 2 ∧ gI M (Λ 3) = σ.1 3 ∧ gI M (Λ 9) = σ.1 9 ∧ gJ M (Λ 0) = σ.2 ∧ ∀ t, t < sT σ → gI M (Λ (tc t)) 0 = σ.1 20 t ∧ ∀ m, m < 4 → RX Λ M σ t m
theorem CX.same {Λ Λ' : Nat → Nat} {M M' : Mm} {σ : Sg} (h : CX Λ M σ) (eI : ∀ c, uX (sT σ) c → gI M' (Λ' c) = gI M (Λ c)) (eJ : ∀ c, uX (sT σ) c → gJ M' (Λ' c) = gJ M (Λ c)) : CX Λ' M' σ := by
  have s : ∀ c, c ≤ 9 → uX (sT σ) c := fun c z => Or.inl z
  obtain ⟨h0, h1, h2, h3, h4, h5⟩ := h
  refine ⟨by rw [eI 0 (s _ (by omega))]; exact h0, by rw [eI 2 (s _ (by omega))]; exact h1, by rw [eI 3 (s _ (by omega))]; exact h2, by rw [eI 9 (s _ (by omega))]; exact h3, by rw [eJ 0 (s _ (by omega))]; exact h4, fun t ht => ⟨by rw [eI (tc t) (Or.inr (by unfold tc; omega))]; exact (h5 t ht).1, fun m hm => ?_⟩⟩
  refine ((h5 t ht).2 m hm).same (fun j hj => eI _ (Or.inr (by unfold rc; omega))) (by rw [eJ _ (Or.inr (by unfold rc; omega))]) rfl rfl rfl
/-- the reference's numbers, and where the state has them -/
def ma (k : Nat) : Nat := if 34 ≤ k then 9 else 0
def mb (k : Nat) : Nat := match k with
  | 0 => 11 | 3 => 6 | 4 => 7 | 13 => 8 | 14 => 9 | 30 => 10 | 34 => 0 | 35 => 1 | 36 => 2 | 37 => 3 | 40 => 4 | 39 => 5 | 38 => 6 | _ => 50
def mF (k : Nat) : Bool := !(mb k == 50)
theorem mF_inj0 : ∀ k, k < 41 → ∀ j, j < 41 → (mF k && mF j && (ma k == ma j) && (mb k == mb j)) = true → k = j := by decide +kernel
theorem mF_inj (k : Nat) (hk : k < 41) (j : Nat) (hj : j < 41) (h1 : mF k = true) (h2 : mF j = true) (h3 : ma k = ma j) (h4 : mb k = mb j) : k = j := mF_inj0 k hk j hj (by rw [h1, h2, h3, h4]; simp)
theorem rc_tc {t m t' : Nat} (hm : m < 4) : ¬ (rc t m ≤ tc t' ∧ tc t' ≤ rc t m + 6) := by
  unfold rc tc
  have : m = 0 ∨ m = 1 ∨ m = 2 ∨ m = 3 := by omega
  rcases this with rfl | rfl | rfl | rfl <;> omega
theorem rc_rc {t m t' m' j : Nat} (hm : m < 4) (hm' : m' < 4) (hj : j ≤ 6) (h : ¬ (t' = t ∧ m' = m)) : ¬ (rc t m ≤ rc t' m' + j ∧ rc t' m' + j ≤ rc t m + 6) := by
  unfold rc
  by_cases e : t' = t
  · subst e; omega
  · have a : m = 0 ∨ m = 1 ∨ m = 2 ∨ m = 3 := by omega
    have b : m' = 0 ∨ m' = 1 ∨ m' = 2 ∨ m' = 3 := by omega
    rcases a with rfl | rfl | rfl | rfl <;> rcases b with rfl | rfl | rfl | rfl <;> omega
def mL (k : Nat) : Nat := match k with
  | 2 => 14 | 27 => 12 | _ => 13
def CM (Λ : Nat → Nat) (M : Mm) (σ : Sg) : Prop := (∀ k, k < 41 → mF k = true → gI M (Λ 400) k = σ.1 (ma k) (mb k)) ∧ (gJ M (Λ 400) 2 = σ.2 14 ∧ gJ M (Λ 400) 27 = σ.2 12 ∧ gJ M (Λ 400) 28 = σ.2 13) ∧ (gI M (Λ 401) = σ.1 2 ∧ gI M (Λ 418) = σ.1 3 ∧ gI M (Λ 402) = σ.1 20 ∧ gI M (Λ 403) = σ.1 21) ∧ (∀ r, r < 32 → ¬ σ.1 21 r = 0 → ∀ b, b < 40 → gI M (Λ 404) (40 * r + b) = σ.1 (100 + r) b) ∧ ∀ r, r < 32 → ∀ b, b < 40 → gI M (Λ 419) (40 * r + b) = σ.1 (200 + r) b
theorem CM.same {Λ Λ' : Nat → Nat} {M M' : Mm} {σ : Sg} (h : CM Λ M σ) (eI : ∀ j, j ≤ 19 → gI M' (Λ' (400 + j)) = gI M (Λ (400 + j))) (eJ : gJ M' (Λ' 400) = gJ M (Λ 400)) : CM Λ' M' σ := by
  have e0 := eI 0 (by omega)
  have e1 := eI 1 (by omega)
  have e2 := eI 2 (by omega)
  have e3 := eI 3 (by omega)
  have e4 := eI 4 (by omega)
  have e18 := eI 18 (by omega)
  have e19 := eI 19 (by omega)
  rw [Nat.add_zero] at e0
  simp only [Nat.reduceAdd] at e1 e2 e3 e4 e18 e19
  unfold CM at *
  rw [e0, eJ, e1, e2, e3, e4, e18, e19]
  exact h
theorem ModSh.lam {Λ Λ' : Nat → Nat} {M M' : Mm} (h : ModSh Λ M) (e : ∀ j, j ≤ 19 → Λ' (400 + j) = Λ (400 + j)) (eK : ∀ j k, j ≤ 19 → ok M (Λ (400 + j)) k → ok M' (Λ (400 + j)) k ∧ gN M' (Λ (400 + j)) = gN M (Λ (400 + j))) (eR : gR M' (Λ 400) = gR M (Λ 400)) : ModSh Λ' M' := by
  have e0 : Λ' 400 = Λ 400 := e 0 (by omega)
  refine ⟨by rw [e0]; exact (eK 0 6 (by omega) h.1).1, fun j h1 h2 => ?_⟩
  have hj := h.2 j h1 h2
  rw [e0, e j h2, eR]
  exact ⟨hj.1, (eK j _ h2 hj.2.1).1, by rw [(eK j _ h2 hj.2.1).2]; exact hj.2.2⟩
/-- class (state σ) and reference (state τ) in one memory -/
def Inv (Λ : Nat → Nat) (M : Mm) (σ τ : Sg) : Prop := inj Λ ∧ (SX Λ M (sT σ) ∧ Cz Λ M ∧ CX Λ M σ) ∧ ModSh Λ M ∧ CM Λ M τ
theorem Inv.hΛ {Λ : Nat → Nat} {M : Mm} {σ τ : Sg} (h : Inv Λ M σ τ) : inj Λ := h.1
theorem Inv.sx {Λ : Nat → Nat} {M : Mm} {σ τ : Sg} (h : Inv Λ M σ τ) : SX Λ M (sT σ) := h.2.1.1
theorem Inv.cz {Λ : Nat → Nat} {M : Mm} {σ τ : Sg} (h : Inv Λ M σ τ) : Cz Λ M := h.2.1.2.1
theorem Inv.cx {Λ : Nat → Nat} {M : Mm} {σ τ : Sg} (h : Inv Λ M σ τ) : CX Λ M σ := h.2.1.2.2
theorem Inv.ms {Λ : Nat → Nat} {M : Mm} {σ τ : Sg} (h : Inv Λ M σ τ) : ModSh Λ M := h.2.2.1
theorem Inv.cm {Λ : Nat → Nat} {M : Mm} {σ τ : Sg} (h : Inv Λ M σ τ) : CM Λ M τ := h.2.2.2
theorem Inv.o0 {Λ : Nat → Nat} {M : Mm} {σ τ : Sg} (h : Inv Λ M σ τ) : ok M (Λ 0) 5 := h.2.1.1.1
theorem Inv.m0 {Λ : Nat → Nat} {M : Mm} {σ τ : Sg} (h : Inv Λ M σ τ) : ok M (Λ 400) 6 := h.2.2.1.1
theorem Inv.f0 {Λ : Nat → Nat} {M : Mm} {σ τ : Sg} (h : Inv Λ M σ τ) (k : Nat) : gI M (Λ 0) k = σ.1 0 k := by rw [h.cx.1]
theorem Inv.g0 {Λ : Nat → Nat} {M : Mm} {σ τ : Sg} (h : Inv Λ M σ τ) (k : Nat) (hk : k < 41) (hf : mF k = true) : gI M (Λ 400) k = τ.1 (ma k) (mb k) := h.cm.1 k hk hf
/-- what a state is like, behind at most N calls -/
def Hv (σ : Sg) : Prop := σ.1 9 0 = 0 ∨ (σ.1 9 0 = 1 ∧ ∃ lo hi vt c s : Nat, σ.1 9 1 = nI lo ∧ σ.1 9 2 = nI hi ∧ σ.1 9 3 = nI vt ∧ σ.1 9 5 = nI c ∧ σ.1 9 6 = nI s ∧ lo < hi ∧ hi < 40 ∧ vt ≤ 5 ∧ c < vt ∧ s ≤ c)
def Rg (σ : Sg) (N : Nat) : Prop := (σ.1 0 6 = nI (sB σ) ∧ sB σ ≤ 40) ∧ (σ.1 0 7 = nI (sT σ) ∧ sT σ ≤ 8) ∧ (σ.1 0 8 = nI (sP σ) ∧ sP σ ≤ 1000) ∧ (σ.1 0 9 = nI (sR σ) ∧ sR σ ≤ 5) ∧ (∀ r, r < 32 → vOk (σ.1 (100 + r))) ∧ (∀ r, r < 32 → bl (σ.1 21 r)) ∧ (∀ r, r < 32 → 4 * sT σ ≤ r → σ.1 21 r = 0) ∧ (∀ r, r < 32 → ∀ b, b < 40 → bl (σ.1 (200 + r) b)) ∧ (∃ A, σ.1 0 10 = nI A ∧ A ≤ 1280 * N) ∧ Hv σ
theorem Rg.mono {σ : Sg} {N N' : Nat} (h : Rg σ N) (hN : N ≤ N') : Rg σ N' := by
  obtain ⟨h1, h2, h3, h4, h5, h6, h7, h8, ⟨A, a1, a2⟩, h10⟩ := h
  exact ⟨h1, h2, h3, h4, h5, h6, h7, h8, ⟨A, a1, Nat.le_trans a2 (Nat.mul_le_mul_left _ hN)⟩, h10⟩
-- changes on the class's side
theorem Inv.chX {Λ : Nat → Nat} {M M' : Mm} {σ σ' τ : Sg} (h : Inv Λ M σ τ) (hT : sT σ' = sT σ) (e : M'.2.2 = M.2.2) (hc : CX Λ M' σ') (eI : ∀ j, j ≤ 19 → gI M' (Λ (400 + j)) = gI M (Λ (400 + j))) (eJ : gJ M' (Λ 400) = gJ M (Λ 400)) : Inv Λ M' σ' τ := by
  refine ⟨h.1, ⟨by rw [hT]; exact h.sx.of e, h.cz.of e, hc⟩, ?_, h.cm.same eI eJ⟩
  have hm := h.ms
  unfold ModSh ok gR gN gK gL at *
  rw [e]; exact hm
theorem Inv.chM {Λ : Nat → Nat} {M M' : Mm} {σ τ τ' : Sg} (h : Inv Λ M σ τ) (e : M'.2.2 = M.2.2) (hc : CM Λ M' τ') (eI : ∀ c, uX (sT σ) c → gI M' (Λ c) = gI M (Λ c)) (eJ : ∀ c, uX (sT σ) c → gJ M' (Λ c) = gJ M (Λ c)) : Inv Λ M' σ τ' := by
  refine ⟨h.1, ⟨h.sx.of e, h.cz.of e, h.cx.same eI eJ⟩, ?_, hc⟩
  have hm := h.ms
  unfold ModSh ok gR gN gK gL at *
  rw [e]; exact hm
theorem uX_lt {T c : Nat} (hT : T ≤ 8) (h : uX T c) : c < 400 := by unfold uX at h; omega
-- a number of the class
theorem Inv.x0 {Λ : Nat → Nat} {M : Mm} {σ τ : Sg} (h : Inv Λ M σ τ) (k : Nat) (v : Int32) (hk : k ≠ 7) : Inv Λ (pI M (Λ 0) k v) (uI σ 0 k v) τ := by
  have hT : sT (uI σ 0 k v) = sT σ := by unfold sT; rw [uI_eq, upd_ne _ _ (Ne.symm hk)]
  refine h.chX hT rfl ?_ (fun j hj => gI_pI_ne (h.hΛ.ne (by omega))) rfl
  obtain ⟨c0, c2, c3, c9, cJ, ct⟩ := h.cx
  refine ⟨by rw [gI_pI_eq, uI_eq, c0], by rw [gI_pI_ne (h.hΛ.ne (by omega)), uI_ne _ _ _ (by omega)]; exact c2, by rw [gI_pI_ne (h.hΛ.ne (by omega)), uI_ne _ _ _ (by omega)]; exact c3, by rw [gI_pI_ne (h.hΛ.ne (by omega)), uI_ne _ _ _ (by omega)]; exact c9, cJ, fun t ht => ?_⟩
  rw [hT] at ht
  refine ⟨by rw [gI_pI_ne (h.hΛ.ne (by unfold tc; omega)), uI_ne _ _ _ (by omega)]; exact (ct t ht).1, fun m hm => ((ct t ht).2 m hm).same (fun j hj => gI_pI_ne (h.hΛ.ne (by unfold rc; omega))) rfl (by rw [uI_ne _ _ _ (by omega)]) (by rw [uI_ne _ _ _ (by omega)]) (by rw [uI_ne _ _ _ (by omega)])⟩
theorem Inv.xJ {Λ : Nat → Nat} {M : Mm} {σ τ : Sg} (h : Inv Λ M σ τ) (k : Nat) (v : Int64) : Inv Λ (pJ M (Λ 0) k v) (uL σ k v) τ := by
  refine h.chX rfl rfl ?_ (fun j hj => rfl) (gJ_pJ_ne (h.hΛ.ne (by omega)))
  obtain ⟨c0, c2, c3, c9, cJ, ct⟩ := h.cx
  refine ⟨c0, c2, c3, c9, by rw [gJ_pJ_eq, cJ]; rfl, fun t ht => ⟨(ct t ht).1, fun m hm => ((ct t ht).2 m hm).same (fun j hj => rfl) (by rw [gJ_pJ_ne (h.hΛ.ne (by unfold rc; omega))]) rfl rfl rfl⟩⟩
/-- one of the class's own rows: 2 findings, 3 kept alarms, 9 halving -/
theorem Inv.xA {Λ : Nat → Nat} {M : Mm} {σ τ : Sg} (h : Inv Λ M σ τ) (a k : Nat) (v : Int32) (ha : a = 2 ∨ a = 3 ∨ a = 9) : Inv Λ (pI M (Λ a) k v) (uI σ a k v) τ := by
  have hT : sT (uI σ a k v) = sT σ := by unfold sT; rw [uI_ne _ _ _ (by omega)]
  refine h.chX hT rfl ?_ (fun j hj => gI_pI_ne (h.hΛ.ne (by omega))) rfl
  obtain ⟨c0, c2, c3, c9, cJ, ct⟩ := h.cx
  have cc : ∀ c, c ≤ 9 → gI M (Λ c) = σ.1 c → gI (pI M (Λ a) k v) (Λ c) = (uI σ a k v).1 c := fun c hc e => by
    by_cases z : c = a
    · subst z; rw [gI_pI_eq, uI_eq, e]
    · rw [gI_pI_ne (h.hΛ.ne z), uI_ne _ _ _ z]; exact e
  refine ⟨cc 0 (by omega) c0, cc 2 (by omega) c2, cc 3 (by omega) c3, cc 9 (by omega) c9, cJ, fun t ht => ?_⟩
  rw [hT] at ht
  refine ⟨by rw [gI_pI_ne (h.hΛ.ne (by unfold tc; omega)), uI_ne _ _ _ (by omega)]; exact (ct t ht).1, fun m hm => ((ct t ht).2 m hm).same (fun j hj => gI_pI_ne (h.hΛ.ne (by unfold rc; omega))) rfl (by rw [uI_ne _ _ _ (by omega)]) (by rw [uI_ne _ _ _ (by omega)]) (by rw [uI_ne _ _ _ (by omega)])⟩
/-- a row of the class, whole -/
theorem Inv.xR {Λ : Nat → Nat} {M M' : Mm} {σ σ' τ : Sg} {t m : Nat} (h : Inv Λ M σ τ) (ht : t < 8) (hm : m < 4) (e : M'.2.2 = M.2.2) (hR : RX Λ M' σ' t m)
    (eI : ∀ c, ¬ (rc t m ≤ c ∧ c ≤ rc t m + 6) → ¬ (5 ≤ c ∧ c ≤ 8) → gI M' (Λ c) = gI M (Λ c)) (eJ : ∀ c, c ≠ rc t m → gJ M' (Λ c) = gJ M (Λ c)) (s2 : σ'.2 = σ.2)
    (sa : ∀ a, a < 21 → σ'.1 a = σ.1 a) (sb : ∀ r, r ≠ 4 * t + m → σ'.1 21 r = σ.1 21 r) (sc : ∀ r, r < 32 → r ≠ 4 * t + m → σ'.1 (100 + r) = σ.1 (100 + r) ∧ σ'.1 (200 + r) = σ.1 (200 + r)) (hT8 : sT σ ≤ 8) : Inv Λ M' σ' τ := by
  have hT : sT σ' = sT σ := by unfold sT; rw [sa 0 (by omega)]
  have hc : rc t m = 20 + 30 * t + 2 + 7 * m := rfl
  refine h.chX hT e ?_ (fun j hj => eI _ (by omega) (by omega)) (eJ _ (by omega))
  obtain ⟨c0, c2, c3, c9, cJ, ct⟩ := h.cx
  refine ⟨by rw [eI 0 (by omega) (by omega), sa 0 (by omega)]; exact c0, by rw [eI 2 (by omega) (by omega), sa 2 (by omega)]; exact c2, by rw [eI 3 (by omega) (by omega), sa 3 (by omega)]; exact c3, by rw [eI 9 (by omega) (by omega), sa 9 (by omega)]; exact c9, by rw [eJ 0 (by omega), s2]; exact cJ, fun t' ht' => ?_⟩
  rw [hT] at ht'
  refine ⟨by rw [eI (tc t') (rc_tc hm) (by unfold tc; omega), sa 20 (by omega)]; exact (ct t' ht').1, fun m' hm' => ?_⟩
  by_cases z : t' = t ∧ m' = m
  · obtain ⟨z1, z2⟩ := z; subst z1; subst z2; exact hR
  · have z1 : 4 * t' + m' ≠ 4 * t + m := by omega
    have hc' : rc t' m' = 20 + 30 * t' + 2 + 7 * m' := rfl
    exact ((ct t' ht').2 m' hm').same (fun j hj => eI _ (rc_rc hm hm' hj z) (by omega)) (by rw [eJ _ (fun w => rc_rc hm hm' (show 0 ≤ 6 by omega) z (by omega))]) (sb _ z1) (sc _ (by omega) z1).1 (sc _ (by omega) z1).2
-- changes on the reference's side
theorem Inv.y0 {Λ : Nat → Nat} {M : Mm} {σ τ : Sg} (h : Inv Λ M σ τ) (hT : sT σ ≤ 8) (k : Nat) (v : Int32) (hk : k < 41) (hf : mF k = true) : Inv Λ (pI M (Λ 400) k v) σ (uI τ (ma k) (mb k) v) := by
  refine h.chM rfl ?_ (fun c u => gI_pI_ne (h.hΛ.ne (by have := uX_lt hT u; omega))) (fun c u => rfl)
  obtain ⟨c0, c1, ⟨c2, c3, c4, c5⟩, c6, c7⟩ := h.cm
  have a9 : ma k ≤ 9 := by unfold ma; split <;> omega
  have a2 : ma k ≠ 2 ∧ ma k ≠ 3 := by unfold ma; split <;> omega
  refine ⟨fun j hj fj => ?_, c1, ⟨by rw [gI_pI_ne (h.hΛ.ne (by omega)), uI_ne _ _ _ (by omega)]; exact c2, by rw [gI_pI_ne (h.hΛ.ne (by omega)), uI_ne _ _ _ (by omega)]; exact c3, by rw [gI_pI_ne (h.hΛ.ne (by omega)), uI_ne _ _ _ (by omega)]; exact c4, by rw [gI_pI_ne (h.hΛ.ne (by omega)), uI_ne _ _ _ (by omega)]; exact c5⟩, fun r hr z b hb => ?_, fun r hr b hb => ?_⟩
  · by_cases z : j = k
    · rw [z, gI_pI_eq, uI_eq, upd_eq, upd_eq]
    · rw [gI_pI_eq, upd_ne _ _ z, c0 j hj fj]
      by_cases y : ma j = ma k
      · rw [y, uI_eq, upd_ne _ _ (fun w => z (mF_inj j hj k hk fj hf y w))]
      · rw [uI_ne _ _ _ y]
  · rw [uI_ne _ _ _ (by omega)] at z
    rw [gI_pI_ne (h.hΛ.ne (by omega)), uI_ne _ _ _ (by omega)]; exact c6 r hr z b hb
  · rw [gI_pI_ne (h.hΛ.ne (by omega)), uI_ne _ _ _ (by omega)]; exact c7 r hr b hb
/-- a number of the reference that is no part of the state -/
theorem Inv.yS {Λ : Nat → Nat} {M : Mm} {σ τ : Sg} (h : Inv Λ M σ τ) (hT : sT σ ≤ 8) (k : Nat) (v : Int32) (hf : mF k = false) : Inv Λ (pI M (Λ 400) k v) σ τ := by
  refine h.chM rfl ?_ (fun c u => gI_pI_ne (h.hΛ.ne (by have := uX_lt hT u; omega))) (fun c u => rfl)
  obtain ⟨c0, c1, c2, c6, c7⟩ := h.cm
  refine ⟨fun j hj fj => ?_, c1, ?_, ?_, ?_⟩
  · have z : j ≠ k := fun z => by rw [z, hf] at fj; exact absurd fj (by decide)
    rw [gI_pI_eq, upd_ne _ _ z]; exact c0 j hj fj
  · rw [gI_pI_ne (h.hΛ.ne (by omega)), gI_pI_ne (h.hΛ.ne (by omega)), gI_pI_ne (h.hΛ.ne (by omega)), gI_pI_ne (h.hΛ.ne (by omega))]; exact c2
  · rw [gI_pI_ne (h.hΛ.ne (by omega))]; exact c6
  · rw [gI_pI_ne (h.hΛ.ne (by omega))]; exact c7
theorem Inv.yJ {Λ : Nat → Nat} {M : Mm} {σ τ : Sg} (h : Inv Λ M σ τ) (hT : sT σ ≤ 8) (k : Nat) (v : Int64) (hk : k = 2 ∨ k = 27 ∨ k = 28) : Inv Λ (pJ M (Λ 400) k v) σ (uL τ (mL k) v) := by
  refine h.chM rfl ?_ (fun c u => rfl) (fun c u => gJ_pJ_ne (h.hΛ.ne (by have := uX_lt hT u; omega)))
  obtain ⟨c0, ⟨j1, j2, j3⟩, c2, c6, c7⟩ := h.cm
  refine ⟨c0, ?_, c2, c6, c7⟩
  rw [gJ_pJ_eq]
  show _ = vp_updL τ.2 (mL k) v 14 ∧ _ = vp_updL τ.2 (mL k) v 12 ∧ _ = vp_updL τ.2 (mL k) v 13
  rcases hk with rfl | rfl | rfl
  · refine ⟨by rw [updL_eq]; exact (updL_eq _ _ _).symm, by rw [updL_ne _ _ (by omega), j2]; exact (updL_ne _ _ (by decide)).symm, by rw [updL_ne _ _ (by omega), j3]; exact (updL_ne _ _ (by decide)).symm⟩
  · refine ⟨by rw [updL_ne _ _ (by omega), j1]; exact (updL_ne _ _ (by decide)).symm, by rw [updL_eq]; exact (updL_eq _ _ _).symm, by rw [updL_ne _ _ (by omega), j3]; exact (updL_ne _ _ (by decide)).symm⟩
  · refine ⟨by rw [updL_ne _ _ (by omega), j1]; exact (updL_ne _ _ (by decide)).symm, by rw [updL_ne _ _ (by omega), j2]; exact (updL_ne _ _ (by decide)).symm, by rw [updL_eq]; exact (updL_eq _ _ _).symm⟩
/-- cells of the reference that are no part of the state -/
theorem Inv.yC {Λ : Nat → Nat} {M M' : Mm} {σ τ : Sg} (h : Inv Λ M σ τ) (hT : sT σ ≤ 8) (e : M'.2.2 = M.2.2) (e0 : ∀ k, k < 41 → mF k = true → gI M' (Λ 400) k = gI M (Λ 400) k) (eI : ∀ c, c < 400 ∨ (401 ≤ c ∧ c ≤ 404) ∨ 418 ≤ c → gI M' (Λ c) = gI M (Λ c)) (eJ : ∀ c, c < 400 → gJ M' (Λ c) = gJ M (Λ c)) (eJ0 : ∀ k, k ≠ 25 → k ≠ 26 → gJ M' (Λ 400) k = gJ M (Λ 400) k) : Inv Λ M' σ τ := by
  refine h.chM e ?_ (fun c u => eI c (Or.inl (uX_lt hT u))) (fun c u => eJ c (uX_lt hT u))
  obtain ⟨c0, c1, c2, c6, c7⟩ := h.cm
  refine ⟨fun j hj fj => by rw [e0 j hj fj]; exact c0 j hj fj, ?_, ?_, ?_, ?_⟩
  · rw [eJ0 2 (by omega) (by omega), eJ0 27 (by omega) (by omega), eJ0 28 (by omega) (by omega)]; exact c1
  · rw [eI 401 (by omega), eI 402 (by omega), eI 403 (by omega), eI 418 (by omega)]; exact c2
  · rw [eI 404 (by omega)]; exact c6
  · rw [eI 419 (by omega)]; exact c7
/-- one of the reference's own rows: 1 findings, 18 kept alarms, 2 kinds, 3 there -/
def mR (j : Nat) : Nat := match j with
  | 1 => 2 | 18 => 3 | 2 => 20 | _ => 21
theorem Inv.yA {Λ : Nat → Nat} {M : Mm} {σ τ : Sg} (h : Inv Λ M σ τ) (hT : sT σ ≤ 8) (j k : Nat) (v : Int32) (hj : j = 1 ∨ j = 18 ∨ j = 2) : Inv Λ (pI M (Λ (400 + j)) k v) σ (uI τ (mR j) k v) := by
  refine h.chM rfl ?_ (fun c u => gI_pI_ne (h.hΛ.ne (by have := uX_lt hT u; omega))) (fun c u => rfl)
  obtain ⟨c0, c1, ⟨c2, c3, c4, c5⟩, c6, c7⟩ := h.cm
  have hr : mR j = 2 ∨ mR j = 3 ∨ mR j = 20 := by rcases hj with rfl | rfl | rfl <;> decide
  have cc : ∀ i, i = 1 ∨ i = 18 ∨ i = 2 ∨ i = 3 → gI M (Λ (400 + i)) = τ.1 (mR i) → gI (pI M (Λ (400 + j)) k v) (Λ (400 + i)) = (uI τ (mR j) k v).1 (mR i) := fun i hi e => by
    by_cases z : i = j
    · subst z; rw [gI_pI_eq, uI_eq, e]
    · have : mR i ≠ mR j := by rcases hi with rfl | rfl | rfl | rfl <;> rcases hj with rfl | rfl | rfl <;> first | (exact absurd rfl z) | decide
      rw [gI_pI_ne (h.hΛ.ne (by omega)), uI_ne _ _ _ this]; exact e
  refine ⟨fun i hi fi => ?_, c1, ⟨cc 1 (by omega) c2, cc 18 (by omega) c3, cc 2 (by omega) c4, cc 3 (by omega) c5⟩, fun r hr' z b hb => ?_, fun r hr' b hb => ?_⟩
  · have : ma i ≠ mR j := by unfold ma; split <;> omega
    rw [gI_pI_ne (h.hΛ.ne (by omega)), uI_ne _ _ _ this]; exact c0 i hi fi
  · rw [uI_ne _ _ _ (by omega)] at z
    rw [gI_pI_ne (h.hΛ.ne (by omega)), uI_ne _ _ _ (by omega)]; exact c6 r hr' z b hb
  · rw [gI_pI_ne (h.hΛ.ne (by omega)), uI_ne _ _ _ (by omega)]; exact c7 r hr' b hb
/-- a row of the reference, whole -/
theorem Inv.yR {Λ : Nat → Nat} {M M' : Mm} {σ τ τ' : Sg} {r0 : Nat} (h : Inv Λ M σ τ) (hT : sT σ ≤ 8) (e : M'.2.2 = M.2.2) (eI : ∀ c, c ≠ 403 → c ≠ 404 → c ≠ 405 → c ≠ 419 → gI M' (Λ c) = gI M (Λ c)) (eJ : gJ M' = gJ M) (s2 : τ'.2 = τ.2) (sa : ∀ a, a < 21 → τ'.1 a = τ.1 a) (h3 : gI M' (Λ 403) = τ'.1 21)
    (h4 : ∀ r, r < 32 → ¬ τ'.1 21 r = 0 → ∀ b, b < 40 → gI M' (Λ 404) (40 * r + b) = τ'.1 (100 + r) b) (h19 : ∀ r, r < 32 → ∀ b, b < 40 → gI M' (Λ 419) (40 * r + b) = τ'.1 (200 + r) b) : Inv Λ M' σ τ' := by
  refine h.chM e ?_ (fun c u => by have := uX_lt hT u; exact eI c (by omega) (by omega) (by omega) (by omega)) (fun c u => by rw [eJ])
  obtain ⟨c0, c1, ⟨c2, c3, c4, c5⟩, c6, c7⟩ := h.cm
  refine ⟨fun i hi fi => ?_, by rw [eJ, s2]; exact c1, ⟨by rw [eI 401 (by omega) (by omega) (by omega) (by omega), sa 2 (by omega)]; exact c2, by rw [eI 418 (by omega) (by omega) (by omega) (by omega), sa 3 (by omega)]; exact c3, by rw [eI 402 (by omega) (by omega) (by omega) (by omega), sa 20 (by omega)]; exact c4, h3⟩, h4, h19⟩
  have : ma i < 21 := by unfold ma; split <;> omega
  rw [eI 400 (by omega) (by omega) (by omega) (by omega), sa _ this]; exact c0 i hi fi
