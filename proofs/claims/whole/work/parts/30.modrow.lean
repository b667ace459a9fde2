/-! PURE, 10: the reference lays a row -/
/-- the reference's rows: which field holds row j, its kind, its length -/
def mf (j : Nat) : Nat := match j with
  | 1 => 1 | 2 => 5 | 3 => 6 | 4 => 7 | 5 => 8 | 6 => 10 | 7 => 11 | 8 => 12 | 9 => 15 | 10 => 16 | 11 => 17 | 12 => 19 | 13 => 20 | 14 => 21 | 15 => 23 | 16 => 24 | 17 => 29 | 18 => 31 | _ => 32
def mk (j : Nat) : Nat := match j with
  | 3 => 9 | 16 => 9 | 19 => 9 | 17 => 8 | _ => 7
def ml (j : Nat) : Nat := match j with
  | 1 => 6 | 2 => 8 | 3 => 32 | 4 => 1280 | 9 => 41 | 10 => 41 | 11 => 41 | 12 => 41 | 17 => 35700 | 18 => 300 | 19 => 1280 | _ => 40
def ModSh (Λ : Nat → Nat) (M : Mm) : Prop := ok M (Λ 400) 6 ∧ ∀ j, 1 ≤ j → j ≤ 19 → gR M (Λ 400) (mf j) = some (Λ (400 + j)) ∧ ok M (Λ (400 + j)) (mk j) ∧ gN M (Λ (400 + j)) = ml j
theorem ModSh.ch {Λ : Nat → Nat} {M M' : Mm} {S : Nat → Prop} (h : ModSh Λ M) (c : Ch S M M') : ModSh Λ M' := by
  unfold ModSh ok at *
  rw [c.R, c.N, c.K, c.L]; exact h
theorem ModSh.of {Λ : Nat → Nat} {M M' : Mm} (h : ModSh Λ M) (e : M'.2 = M.2) : ModSh Λ M' := h.ch (S := fun _ => True) ⟨e, fun _ z => absurd trivial z⟩
theorem ModSh.r {Λ : Nat → Nat} {M : Mm} (h : ModSh Λ M) (j : Nat) (h1 : 1 ≤ j) (h2 : j ≤ 19) : gR M (Λ 400) (mf j) = some (Λ (400 + j)) := (h.2 j h1 h2).1
theorem ModSh.a {Λ : Nat → Nat} {M : Mm} (h : ModSh Λ M) (j : Nat) (h1 : 1 ≤ j) (h2 : j ≤ 19) {k : Nat} (hk : k < ml j) : ar M (Λ (400 + j)) (mk j) (nI k) := ar_nI (h.2 j h1 h2).2.1 (h.2 j h1 h2).2.2 hk (by
  have : ml j ≤ 35700 := by unfold ml; split <;> omega
  omega)
/-- how much the i first measured ones give to the rank of x -/
def rkm (v : Nat → Int32) (B : Nat) (x : Int32) : Nat → Nat
  | 0 => 0
  | i + 1 => rkm v B x i + (if v (mp v B i) < x then 2 else if v (mp v B i) = x then 1 else 0)
theorem rkm_rkv (v : Nat → Int32) {B : Nat} {x : Int32} (hx : ¬ x = -9) : ∀ b, b ≤ B → rkm v B x (mc v b) = rkv v x b
  | 0, _ => rfl
  | b + 1, hb => by
    have ih := rkm_rkv v (B := B) hx b (by omega)
    simp only [mc, rkv]
    by_cases c : v b = -9
    · rw [if_pos c, if_neg (by rw [c]; exact fun z => hx z.symm), if_pos c]; simpa using ih
    · rw [if_neg c, rkm, mp_mc v B b (by omega) c, ih, if_neg c]
      by_cases c1 : v b = x
      · have c2 : ¬ v b < x := by rw [c1]; exact fun z => Int32.lt_irrefl z
        simp [c1, Int32.lt_irrefl]
      · by_cases c2 : v b < x
        · simp [c1, c2]
        · simp [c1, c2]
theorem rk_rkm (v : Nat → Int32) {B k : Nat} (hk : k < mc v B) : rkm v B (v (mp v B k)) (mc v B) = rk v B k := rkm_rkv v (mp_spec v B k hk).2.1 B (Nat.le_refl B)
/-- the first builds gathered, k of them looked at -/
def MG (Λ : Nat → Nat) (M M1 : Mm) (v : Nat → Int32) (k : Nat) : Prop :=
  Ch (fun b => b = Λ 400 ∨ b = Λ 406 ∨ b = Λ 407) M M1 ∧ gI M1 (Λ 400) 9 = nI (mc v k) ∧ (∀ j, j ≠ 9 → gI M1 (Λ 400) j = gI M (Λ 400) j) ∧ ∀ i, i < mc v k → gI M1 (Λ 406) i = nI (mp v k i) ∧ gI M1 (Λ 407) i = v (mp v k i)
theorem m_row_7 {Λ : Nat → Nat} {M : Mm} {Q : Mm → Prop} {r B : Nat} {v : Nat → Int32} (hΛ : inj Λ) (sh : ModSh Λ M) (hr : r < 32) (hB : B ≤ 40) (h3 : gI M (Λ 400) 3 = nI B) (hv : ∀ b, b < 40 → gI M (Λ 404) (40 * r + b) = v b)
    (hQ : ∀ M', MG Λ M M' v B → ∃ n3, B_X6_layRow_79 Q n3 (Λ 400) (0 : Int32) M') :
    ∀ (d k : Nat) (M1 : Mm), k + d = B → MG Λ M M1 v k → B_X6_layRow_7 Q (d + 1) (Λ 400) (nI r) (nI k) M1 := by
  intro d
  induction d with
  | zero =>
    intro k M1 hk g
    unfold B_X6_layRow_7
    have e : k = B := by omega
    subst e
    refine ⟨(sh.ch g.1).1, fun _ => hQ M1 g, fun c => absurd (by rw [g.2.2.1 3 (by omega), h3]; exact Int32.le_refl _) c⟩
  | succ d ih =>
    intro k M1 hk g
    unfold B_X6_layRow_7
    obtain ⟨gc, g9, gj, gp⟩ := g
    have sh1 := sh.ch gc
    have hmk := mc_le v k
    have e40 : ((40 : Int32) * nI r) + nI k = nI (40 * r + k) := by rw [show (40 : Int32) = nI 40 from rfl, pk_mul, nI_add]
    have hv1 : gI M1 (Λ 404) (40 * r + k) = v k := by rw [gc.2 _ (by rintro (e | e | e) <;> exact hΛ.ne (by omega) e)]; exact hv k (by omega)
    have h31 : gI M1 (Λ 400) 3 = nI B := by rw [gj 3 (by omega)]; exact h3
    rw [e40, h31]
    refine ⟨sh1.1, fun c => absurd ((nI_leI (by omega) (by omega)).mp c) (by omega), fun _ => ⟨Λ 404, sh1.r 4 (by omega) (by omega), sh1.a 4 (by omega) (by omega) (show 40 * r + k < 1280 by omega), ?_⟩⟩
    rw [nI_clamp (by omega), hv1, nI_1]
    refine ⟨fun c => ?_, fun c => ⟨Λ 406, sh1.r 6 (by omega) (by omega), by rw [g9]; exact sh1.a 6 (by omega) (by omega) (show mc v k < 40 by omega), ?_⟩⟩
    · have em : mc v (k + 1) = mc v k := by simp only [mc, if_pos c]; omega
      have ep : ∀ i, mp v (k + 1) i = mp v k i := fun i => by simp only [mp]; rw [if_neg (fun z => z.1 c)]
      exact ih (k + 1) M1 (by omega) ⟨gc, by rw [em]; exact g9, gj, fun i h => by rw [ep]; exact gp i (by omega)⟩
    · rintro _ rfl
      rw [g9, nI_clamp (by omega)]
      have gc2 := gc.step (k := mc v k) (v := nI k) (a := Λ 406) (Or.inr (Or.inl rfl))
      have sh2 := sh.ch gc2
      have e0 : gI (pI M1 (Λ 406) (mc v k) (nI k)) (Λ 400) = gI M1 (Λ 400) := gI_pI_ne (hΛ.ne (by omega))
      have e4 : gI (pI M1 (Λ 406) (mc v k) (nI k)) (Λ 404) = gI M1 (Λ 404) := gI_pI_ne (hΛ.ne (by omega))
      refine ⟨Λ 404, sh2.r 4 (by omega) (by omega), sh2.a 4 (by omega) (by omega) (show 40 * r + k < 1280 by omega), Λ 407, sh2.r 7 (by omega) (by omega), by rw [e0, g9]; exact sh2.a 7 (by omega) (by omega) (show mc v k < 40 by omega), ?_⟩
      rintro _ rfl
      rw [e0, g9, nI_clamp (by omega), e4, hv1]
      rintro _ rfl
      have e5 : gI (pI (pI M1 (Λ 406) (mc v k) (nI k)) (Λ 407) (mc v k) (v k)) (Λ 400) = gI M1 (Λ 400) := by rw [gI_pI_ne (hΛ.ne (by omega))]; exact e0
      rw [e5, g9, nI_1]
      have em : mc v (k + 1) = mc v k + 1 := by simp only [mc, if_neg c]
      have epn : mp v (k + 1) (mc v k) = k := by simp only [mp]; rw [if_pos ⟨c, trivial⟩]
      have epo : ∀ i, i < mc v k → mp v (k + 1) i = mp v k i := fun i h => by simp only [mp]; rw [if_neg (by omega)]
      refine ih (k + 1) _ (by omega) ⟨(gc2.step (Or.inr (Or.inr rfl))).step (Or.inl rfl), ?_, ?_, ?_⟩
      · rw [gI_pI_eq, upd_eq, em]
      · intro j hj; rw [gI_pI_eq, upd_ne _ _ hj, e5]; exact gj j hj
      · intro i h
        rw [gI_pI_ne (hΛ.ne (by omega)), gI_pI_ne (hΛ.ne (by omega)), gI_pI_eq, gI_pI_ne (hΛ.ne (by omega)), gI_pI_eq, gI_pI_ne (hΛ.ne (by omega))]
        by_cases e : i = mc v k
        · rw [e, upd_eq, upd_eq, epn]; exact ⟨rfl, rfl⟩
        · rw [upd_ne _ _ e, upd_ne _ _ e, epo i (by omega)]; exact gp i (by omega)
/-- ranks laid for the first k -/
def MR (Λ : Nat → Nat) (M M1 : Mm) (v : Nat → Int32) (B k : Nat) : Prop := Ch (fun b => b = Λ 408) M M1 ∧ ∀ i, i < k → gI M1 (Λ 408) i = nI (rk v B i)
theorem rkm_le (v : Nat → Int32) (B : Nat) (x : Int32) : ∀ i, rkm v B x i ≤ 2 * i
  | 0 => Nat.le_refl 0
  | i + 1 => by have := rkm_le v B x i; simp only [rkm]; split <;> (try split) <;> omega
theorem m_row_96 {Λ : Nat → Nat} {M : Mm} {Q : Mm → Prop} {K79 : Nat → Int32 → Mm → Prop} {B k : Nat} {v : Nat → Int32} (hΛ : inj Λ) (sh : ModSh Λ M) (hB : B ≤ 40) (h9 : gI M (Λ 400) 9 = nI (mc v B)) (hk : k < mc v B) (hp : ∀ i, i < mc v B → gI M (Λ 407) i = v (mp v B i))
    (hK : ∀ M', MR Λ M M' v B (k + 1) → K79 (Λ 400) (nI (k + 1)) M') :
    ∀ (d i : Nat) (M1 : Mm), i + d = mc v B → MR Λ M M1 v B k → gI M1 (Λ 408) k = nI (rkm v B (v (mp v B k)) i) → B_X6_layRow_96 Q K79 (d + 1) (Λ 400) (nI k) (nI i) M1 := by
  have hmB := mc_le v B
  intro d
  induction d with
  | zero =>
    intro i M1 hd g hr
    unfold B_X6_layRow_96
    have g9 : gI M1 (Λ 400) 9 = nI (mc v B) := by rw [g.1.2 _ (hΛ.ne (by omega))]; exact h9
    have e : i = mc v B := by omega
    subst e
    refine ⟨(sh.ch g.1).1, fun _ => ?_, fun c => absurd (by rw [g9]; exact Int32.le_refl _) c⟩
    rw [nI_1]
    refine hK M1 ⟨g.1, fun j hj => ?_⟩
    by_cases e : j = k
    · rw [e, hr, rk_rkm v hk]
    · exact g.2 j (by omega)
  | succ d ih =>
    intro i M1 hd g hr
    unfold B_X6_layRow_96
    have sh1 := sh.ch g.1
    have g9 : gI M1 (Λ 400) 9 = nI (mc v B) := by rw [g.1.2 _ (hΛ.ne (by omega))]; exact h9
    have gv : ∀ j, j < mc v B → gI M1 (Λ 407) j = v (mp v B j) := fun j hj => by rw [g.1.2 _ (hΛ.ne (by omega))]; exact hp j hj
    have a8 := sh1.a 8 (by omega) (by omega) (show k < 40 by omega)
    have a7k := sh1.a 7 (by omega) (by omega) (show k < 40 by omega)
    have a7i := sh1.a 7 (by omega) (by omega) (show i < 40 by omega)
    have hle := rkm_le v B (v (mp v B k)) i
    rw [g9]
    refine ⟨sh1.1, fun c => absurd ((nI_leI (by omega) (by omega)).mp c) (by omega), fun _ => ⟨Λ 408, sh1.r 8 (by omega) (by omega), a8, Λ 407, sh1.r 7 (by omega) (by omega), a7i, a7k, ?_⟩⟩
    rw [nI_clamp (by omega), nI_clamp (by omega), gv k hk, gv i (by omega), hr]
    have step : ∀ w : Nat, rkm v B (v (mp v B k)) (i + 1) = rkm v B (v (mp v B k)) i + w → B_X6_layRow_96 Q K79 (d + 1) (Λ 400) (nI k) (nI i + 1) (pI M1 (Λ 408) k (nI (rkm v B (v (mp v B k)) i) + nI w)) := by
      intro w hw
      rw [nI_1, nI_add, ← hw]
      refine ih (i + 1) _ (by omega) ⟨g.1.step rfl, fun j hj => ?_⟩ (by rw [gI_pI_eq, upd_eq])
      rw [gI_pI_eq, upd_ne _ _ (by omega)]; exact g.2 j hj
    refine ⟨fun c => ⟨a7i, a7k, fun c2 => ⟨a8, ?_⟩, fun c2 => ⟨a8, ?_⟩⟩, fun c => ⟨a8, ?_⟩⟩
    · rintro _ rfl
      exact step 0 (by simp only [rkm]; rw [if_neg (Int32.not_lt.mpr c), if_neg c2])
    · rintro _ rfl
      exact step 1 (by simp only [rkm]; rw [if_neg (Int32.not_lt.mpr c), if_pos c2])
    · rintro _ rfl
      exact step 2 (by simp only [rkm]; rw [if_pos (Int32.not_le.mp c)])
theorem m_row_79 {Λ : Nat → Nat} {M : Mm} {Q : Mm → Prop} {B : Nat} {v : Nat → Int32} (hΛ : inj Λ) (sh : ModSh Λ M) (hB : B ≤ 40) (h9 : gI M (Λ 400) 9 = nI (mc v B)) (hp : ∀ i, i < mc v B → gI M (Λ 407) i = v (mp v B i))
    (hQ : ∀ M', MR Λ M M' v B (mc v B) → Q M') :
    ∀ (d k : Nat) (M1 : Mm), k + d = mc v B → MR Λ M M1 v B k → B_X6_layRow_79 Q (d + 1) (Λ 400) (nI k) M1 := by
  have hmB := mc_le v B
  intro d
  induction d with
  | zero =>
    intro k M1 hd g
    unfold B_X6_layRow_79
    have g9 : gI M1 (Λ 400) 9 = nI (mc v B) := by rw [g.1.2 _ (hΛ.ne (by omega))]; exact h9
    have e : k = mc v B := by omega
    subst e
    exact ⟨(sh.ch g.1).1, fun _ => hQ M1 g, fun c => absurd (by rw [g9]; exact Int32.le_refl _) c⟩
  | succ d ih =>
    intro k M1 hd g
    unfold B_X6_layRow_79
    have sh1 := sh.ch g.1
    have g9 : gI M1 (Λ 400) 9 = nI (mc v B) := by rw [g.1.2 _ (hΛ.ne (by omega))]; exact h9
    rw [g9]
    refine ⟨sh1.1, fun c => absurd ((nI_leI (by omega) (by omega)).mp c) (by omega), fun _ => ⟨Λ 408, sh1.r 8 (by omega) (by omega), sh1.a 8 (by omega) (by omega) (show k < 40 by omega), ?_⟩⟩
    rintro _ rfl
    rw [nI_clamp (by omega)]
    have c2 : Ch (fun b => b = Λ 408) M1 (pI M1 (Λ 408) k (0 : Int32)) := Ch.put rfl
    refine ⟨mc v B + 1, ?_⟩
    refine m_row_96 (B := B) hΛ (sh1.ch c2) hB (by rw [gI_pI_ne (hΛ.ne (by omega))]; exact g9) (by omega) (fun i hi => by rw [gI_pI_ne (hΛ.ne (by omega)), g.1.2 _ (hΛ.ne (by omega))]; exact hp i hi) (fun M' gm => ih (k + 1) M' (by omega) ⟨(g.1.trans c2).trans gm.1, gm.2⟩) (mc v B) 0 _ (by omega) ⟨Ch.refl _ _, fun j hj => ?_⟩ (by rw [gI_pI_eq, upd_eq]; rfl)
    rw [gI_pI_eq, upd_ne _ _ (by omega)]; exact g.2 j hj
/-- a row laid -/
def MRow (Λ : Nat → Nat) (M M1 : Mm) (v : Nat → Int32) (B : Nat) : Prop :=
  Ch (fun b => b = Λ 400 ∨ b = Λ 406 ∨ b = Λ 407 ∨ b = Λ 408) M M1 ∧ gI M1 (Λ 400) 9 = nI (mc v B) ∧ (∀ j, j ≠ 9 → gI M1 (Λ 400) j = gI M (Λ 400) j) ∧ ∀ i, i < mc v B → gI M1 (Λ 406) i = nI (mp v B i) ∧ gI M1 (Λ 407) i = v (mp v B i) ∧ gI M1 (Λ 408) i = nI (rk v B i)
theorem m_layRow {Λ : Nat → Nat} {M : Mm} {Q : Mm → Prop} {r B : Nat} {v : Nat → Int32} (hΛ : inj Λ) (sh : ModSh Λ M) (hr : r < 32) (hB : B ≤ 40) (h3 : gI M (Λ 400) 3 = nI B) (hv : ∀ b, b < 40 → gI M (Λ 404) (40 * r + b) = v b) (hQ : ∀ M', MRow Λ M M' v B → Q M') : B_X6_layRow_0 Q (Λ 400) (nI r) M := by
  refine ⟨sh.1, ?_⟩
  rintro _ rfl
  have c1 : Ch (fun b => b = Λ 400 ∨ b = Λ 406 ∨ b = Λ 407) M (pI M (Λ 400) 9 (0 : Int32)) := Ch.put (Or.inl rfl)
  have o1 : ∀ j, j ≠ 9 → gI (pI M (Λ 400) 9 (0 : Int32)) (Λ 400) j = gI M (Λ 400) j := fun j hj => by rw [gI_pI_eq, upd_ne _ _ hj]
  refine ⟨B + 1, m_row_7 hΛ sh hr hB h3 hv (fun M2 g => ⟨mc v B + 1, ?_⟩) B 0 _ (by omega) ⟨c1, by rw [gI_pI_eq, upd_eq]; rfl, o1, fun i h => absurd h (by simp [mc])⟩⟩
  obtain ⟨gc, g9, gj, gp⟩ := g
  refine m_row_79 hΛ (sh.ch gc) hB g9 (fun i hi => (gp i hi).2) (fun M3 g3 => hQ M3 ⟨(gc.mono ?_).trans (g3.1.mono ?_), ?_, ?_, ?_⟩) (mc v B) 0 M2 (by omega) ⟨Ch.refl _ _, fun j hj => absurd hj (by omega)⟩
  · rintro b (e | e | e) <;> simp [e]
  · rintro b e; simp [e]
  · rw [g3.1.2 _ (hΛ.ne (by omega))]; exact g9
  · intro j hj; rw [g3.1.2 _ (hΛ.ne (by omega))]; exact gj j hj
  · intro i hi
    rw [g3.1.2 _ (hΛ.ne (by omega)), g3.1.2 _ (hΛ.ne (by omega))]
    exact ⟨(gp i hi).1, (gp i hi).2, g3.2 i hi⟩
