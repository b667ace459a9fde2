/-! PURE, 8: steps and their undoing, in the class -/
def fd (P : Nat → Bool) : Nat → Nat → Nat
  | 0, k => k
  | d + 1, k => if P k then k else fd P d (k + 1)
theorem fd_le (P : Nat → Bool) : ∀ d k, k ≤ fd P d k ∧ fd P d k ≤ k + d
  | 0, k => by simp [fd]
  | d + 1, k => by
    simp only [fd]
    split
    · omega
    · have := fd_le P d (k + 1); omega
theorem fd_yes (P : Nat → Bool) : ∀ d k, fd P d k < k + d → P (fd P d k) = true
  | 0, k, h => absurd h (by simp [fd])
  | d + 1, k, h => by
    simp only [fd] at h ⊢
    split
    · assumption
    · rename_i c
      rw [if_neg c] at h
      exact fd_yes P d (k + 1) (by omega)
theorem fd_congr {P R : Nat → Bool} : ∀ d k, (∀ j, k ≤ j → j < k + d → P j = R j) → fd P d k = fd R d k
  | 0, _, _ => rfl
  | d + 1, k, h => by
    simp only [fd]
    rw [h k (by omega) (by omega), fd_congr d (k + 1) (fun j h1 h2 => h j (by omega) (by omega))]
/-- is k the undoing of i, as far as sizes tell -/
def und (z : Nat → Int) (i k : Nat) : Bool := decide (z k < 0 ∧ 10 * ab (z i + z k) ≤ z i)
theorem und_neg {z : Nat → Int} {i k : Nat} (h : und z i k = true) : z k < 0 := (of_decide_eq_true h).1
theorem und_le {z : Nat → Int} {i k : Nat} (h : und z i k = true) : 10 * ab (z i + z k) ≤ z i := (of_decide_eq_true h).2
def uO (f : Nat → Option Nat) (k : Nat) (v : Option Nat) : Nat → Option Nat := fun j => if j = k then v else f j
def uB (f : Nat → Bool) (k : Nat) (v : Bool) : Nat → Bool := fun j => if j = k then v else f j
/-- the pairs behind the first i steps: with which an up one is paired, which down ones are taken -/
def prs (c : Nat) (z : Nat → Int) : Nat → (Nat → Option Nat) × (Nat → Bool)
  | 0 => (fun _ => none, fun _ => false)
  | i + 1 => if 0 < z i ∧ fd (fun k => und z i k && !(prs c z i).2 k) (c - (i + 1)) (i + 1) < c then (uO (prs c z i).1 i (some (fd (fun k => und z i k && !(prs c z i).2 k) (c - (i + 1)) (i + 1))), uB (prs c z i).2 (fd (fun k => und z i k && !(prs c z i).2 k) (c - (i + 1)) (i + 1)) true) else prs c z i
theorem prs_inv (c : Nat) (z : Nat → Int) : ∀ i, i ≤ c → (∀ j k, (prs c z i).1 j = some k → j < i ∧ 0 < z j ∧ j < k ∧ k < c ∧ z k < 0) ∧ ∀ k, (prs c z i).2 k = true → k < c ∧ z k < 0
  | 0, _ => ⟨fun j k h => by simp [prs] at h, fun k h => by simp [prs] at h⟩
  | i + 1, hi => by
    have ih := prs_inv c z i (by omega)
    simp only [prs]
    split
    · rename_i cc
      have hf := fd_le (fun k => und z i k && !(prs c z i).2 k) (c - (i + 1)) (i + 1)
      have hy := fd_yes (fun k => und z i k && !(prs c z i).2 k) (c - (i + 1)) (i + 1) (by omega)
      simp only [Bool.and_eq_true] at hy
      refine ⟨fun j k h => ?_, fun k h => ?_⟩
      · simp only [uO] at h
        by_cases e : j = i
        · rw [if_pos e] at h
          cases h
          exact ⟨by omega, by rw [e]; exact cc.1, by omega, cc.2, und_neg hy.1⟩
        · rw [if_neg e] at h
          have := ih.1 j k h
          exact ⟨by omega, this.2⟩
      · simp only [uB] at h
        by_cases e : k = fd (fun k => und z i k && !(prs c z i).2 k) (c - (i + 1)) (i + 1)
        · rw [e]; exact ⟨cc.2, und_neg hy.1⟩
        · rw [if_neg e] at h; exact ih.2 k h
    · exact ⟨fun j k h => by have := ih.1 j k h; exact ⟨by omega, this.2⟩, ih.2⟩
theorem x_cutCount {Λ : Nat → Nat} {M : Mm} {Q : Int32 → Mm → Prop} {r s : Nat} (rs : RowSh Λ M r) (hs : s ≤ 40) (h9 : gI M (Λ r) 9 = nI s) (hQ : Q (nI (s - 1)) M) : B_X3_cutCount_0 Q (Λ r) M := by
  refine ⟨rs.1, ?_⟩
  rw [h9]
  refine ⟨fun c => ?_, fun c => ?_⟩
  · have : s = 0 := by have := (nI_leI (a := s) (b := 0) (by omega) (by omega)).mp c; omega
    subst this; exact hQ
  · have : 0 < s := by
      rcases Nat.eq_zero_or_pos s with z | z
      · exact absurd (by rw [z]; exact Int32.le_refl _) c
      · exact z
    obtain ⟨k, rfl⟩ : ∃ k, s = k + 1 := ⟨s - 1, by omega⟩
    rw [show nI (k + 1) - (1 : Int32) = nI k from nI_pred k]; exact hQ
/-- the middles that the row holds -/
def MidOk (Λ : Nat → Nat) (M : Mm) (r s : Nat) (μ : Nat → Int) : Prop := ∀ j, j < s → (gI M (Λ (r + 5)) j).toInt = μ j ∧ 0 ≤ μ j ∧ μ j ≤ 1000000
theorem x_stepSize {Λ : Nat → Nat} {M : Mm} {Q : Int32 → Mm → Prop} {r s i : Nat} {μ : Nat → Int} (rs : RowSh Λ M r) (hs : s ≤ 40) (hμ : MidOk Λ M r s μ) (hi : i + 1 < s) (hQ : ∀ x : Int32, x.toInt = μ (i + 1) - μ i → Q x M) : B_X3_stepSize_0 Q (Λ r) (nI i) M := by
  have a : ∀ k, k < 40 → ar M (Λ (r + 5)) 7 (nI k) := fun k hk => ar_nI (rs.2.2.1 5 (by omega) (by omega)) (rs.2.2.2.1 5 (by omega) (by omega) (by omega)) hk (by omega)
  have h1 := hμ i (by omega)
  have h2 := hμ (i + 1) (by omega)
  unfold B_X3_stepSize_0
  rw [nI_1]
  refine ⟨rs.1, Λ (r + 5), rs.2.1.2.2.2.2.1, a _ (by omega), a _ (by omega), ?_⟩
  rw [nI_clamp (by omega), nI_clamp (by omega)]
  exact hQ _ (by rw [subI (by omega) (by omega)]; omega)
theorem jabs {x y : Int32} {a b : Int} (hx : x.toInt = a) (hy : y.toInt = b) (ha : -1000000 ≤ a ∧ a ≤ 1000000) (hb : -1000000 ≤ b ∧ b ≤ 1000000) : ((10 : Int32) * (if 0 ≤ x - (-y) then x - (-y) else 0 - (x - (-y)))).toInt = 10 * ab (a + b) := by
  have e1 : (-y).toInt = -b := by rw [negI (by omega), hy]
  have e2 : (x - (-y)).toInt = a + b := by rw [subI (by omega) (by omega)]; omega
  have e3 : (if 0 ≤ x - (-y) then x - (-y) else 0 - (x - (-y))).toInt = ab (a + b) := by
    unfold ab
    split
    · rename_i c; rw [le_I] at c; have : (0 : Int32).toInt = 0 := rfl
      omega
    · rename_i c; rw [le_I] at c; have z : (0 : Int32).toInt = 0 := rfl
      rw [subI (by omega) (by omega)]; omega
  have e4 : (10 : Int32).toInt = 10 := rfl
  rw [mulI (by rw [e3, e4]; unfold ab; omega) (by rw [e3, e4]; unfold ab; omega), e3, e4]
theorem x_pairStep_10 {Λ : Nat → Nat} {M : Mm} {Q : Mm → Prop} {r s i : Nat} {μ : Nat → Int} {x2 : Int32} (hΛ : inj Λ) (rs : RowSh Λ M r) (hs : s ≤ 40) (h9 : gI M (Λ r) 9 = nI s) (hμ : MidOk Λ M r s μ) (hi : i + 1 < s) (hx : x2.toInt = μ (i + 1) - μ i)
    (hQ : ∀ k, (∀ P : Nat → Bool, (∀ j, P j = (und (fun j => μ (j + 1) - μ j) i j && decide (gI M (Λ (r + 6)) j = -9))) → k = fd P (s - 1 - (i + 1)) (i + 1)) → (k < s - 1 → Q (pI (pI M (Λ (r + 6)) i (nI k)) (Λ (r + 6)) k (nI i))) ∧ (¬ k < s - 1 → Q M)) :
    ∀ (d k : Nat), k + d = s - 1 → i + 1 ≤ k → (∀ P : Nat → Bool, (∀ j, P j = (und (fun j => μ (j + 1) - μ j) i j && decide (gI M (Λ (r + 6)) j = -9))) → fd P (s - 1 - (i + 1)) (i + 1) = fd P d k) → B_X3_pairStep_10 Q (d + 1) (Λ r) (nI i) x2 (nI k) M := by
  have a6 : ∀ k, k < 40 → ∀ M' : Mm, M'.2 = M.2 → ar M' (Λ (r + 6)) 7 (nI k) := fun k hk M' e => by
    have := rs.ch (S := fun _ => True) (M' := M') ⟨e, fun _ z => absurd trivial z⟩
    exact ar_nI (this.2.2.1 6 (by omega) (by omega)) (this.2.2.2.1 6 (by omega) (by omega) (by omega)) hk (by omega)
  intro d
  induction d with
  | zero =>
    intro k hk hik hf
    unfold B_X3_pairStep_10
    refine ⟨rs.1, x_cutCount rs hs h9 ⟨fun _ => ?_, fun c => absurd (by rw [show k = s - 1 by omega]; exact Int32.le_refl _) c⟩⟩
    exact (hQ k (fun P hP => by rw [hf P hP]; rfl)).2 (by omega)
  | succ d ih =>
    intro k hk hik hf
    unfold B_X3_pairStep_10
    refine ⟨rs.1, x_cutCount rs hs h9 ⟨fun c => absurd ((nI_leI (a := s - 1) (b := k) (by omega) (by omega)).mp c) (by omega), fun _ => ⟨rs.1, ?_⟩⟩⟩
    refine x_stepSize rs hs hμ (by omega) (fun r7 h7 => ?_)
    have m0 := hμ i (by omega)
    have m1 := hμ (i + 1) (by omega)
    have m2 := hμ k (by omega)
    have m3 := hμ (k + 1) (by omega)
    have hj := jabs hx h7 (by omega) (by omega)
    have hneg : (-r7).toInt = -(μ (k + 1) - μ k) := by rw [negI (by omega), h7]
    have next : ¬ (und (fun j => μ (j + 1) - μ j) i k && decide (gI M (Λ (r + 6)) k = -9)) = true → B_X3_pairStep_10 Q (d + 1) (Λ r) (nI i) x2 (nI k + 1) M := by
      intro hn
      rw [nI_1]
      refine ih (k + 1) (by omega) (by omega) (fun P hP => ?_)
      rw [hf P hP]
      simp only [fd]
      rw [if_neg (by rw [hP k]; exact hn)]
    have go : ∀ s0 : Int32, (s0 = 0 → ¬ 10 * ab (μ (i + 1) - μ i + (μ (k + 1) - μ k)) ≤ μ (i + 1) - μ i) → (¬ s0 = 0 → 10 * ab (μ (i + 1) - μ i + (μ (k + 1) - μ k)) ≤ μ (i + 1) - μ i) → B_X3_pairStep_45 Q (fun y0 y1 y2 y3 My => B_X3_pairStep_10 Q (d + 1) y0 y1 y2 y3 My) (Λ r) (nI i) x2 (nI k) (-r7) s0 M := by
      intro s0 z0 z1
      refine ⟨fun c => next (fun hn => ?_), fun c => ⟨rs.1, Λ (r + 6), rs.2.1.2.2.2.2.2, a6 k (by omega) M rfl, ?_⟩⟩
      · rw [le_I, hneg] at c
        simp only [Bool.and_eq_true, und, decide_eq_true_eq] at hn
        have z : (0 : Int32).toInt = 0 := rfl
        omega
      · rw [nI_clamp (by omega), nI_clamp (by omega)]
        rw [le_I, hneg] at c
        have z : (0 : Int32).toInt = 0 := rfl
        refine ⟨fun c2 => next (fun hn => ?_), fun c2 => ⟨fun c3 => next (fun hn => ?_), fun c3 => ⟨a6 i (by omega) M rfl, ?_⟩⟩⟩
        · simp only [Bool.and_eq_true, decide_eq_true_eq] at hn
          exact c2 hn.2
        · simp only [Bool.and_eq_true, und, decide_eq_true_eq] at hn
          exact z0 c3 hn.1.2
        · rintro _ rfl
          refine ⟨Λ (r + 6), rs.2.1.2.2.2.2.2, a6 k (by omega) _ rfl, ?_⟩
          rintro _ rfl
          refine (hQ k (fun P hP => ?_)).1 (by omega)
          rw [hf P hP]
          simp only [fd]
          rw [if_pos]
          rw [hP k]
          simp only [Bool.and_eq_true, und, decide_eq_true_eq]
          exact ⟨⟨by omega, z1 c3⟩, c2⟩
    refine ⟨fun c => go 0 (fun _ => ?_) (fun z => absurd rfl z), fun c => go 1 (fun z => absurd z (by decide)) (fun _ => ?_)⟩
    · rw [lt_I, hj, hx] at c; omega
    · rw [Int32.not_lt, le_I, hj, hx] at c; omega
theorem x_pairStep {Λ : Nat → Nat} {M : Mm} {Q : Mm → Prop} {r s i : Nat} {μ : Nat → Int} (hΛ : inj Λ) (rs : RowSh Λ M r) (hs : s ≤ 40) (h9 : gI M (Λ r) 9 = nI s) (hμ : MidOk Λ M r s μ) (hi : i + 1 < s)
    (hQ : ∀ k, (∀ P : Nat → Bool, (∀ j, P j = (und (fun j => μ (j + 1) - μ j) i j && decide (gI M (Λ (r + 6)) j = -9))) → k = fd P (s - 1 - (i + 1)) (i + 1)) → (k < s - 1 → Q (pI (pI M (Λ (r + 6)) i (nI k)) (Λ (r + 6)) k (nI i))) ∧ (¬ k < s - 1 → Q M)) : B_X3_pairStep_0 Q (Λ r) (nI i) M := by
  refine ⟨rs.1, x_stepSize rs hs hμ hi (fun x hx => ⟨s - 1 - (i + 1) + 1, ?_⟩)⟩
  rw [nI_1]
  exact x_pairStep_10 hΛ rs hs h9 hμ hi hx hQ (s - 1 - (i + 1)) (i + 1) (by omega) (by omega) (fun P _ => rfl)
/-- what the class's mates hold -/
def Mt (f : Nat → Int32) (q : (Nat → Option Nat) × (Nat → Bool)) : Prop := ∀ j, j < 40 → (q.1 j = none → q.2 j = false → f j = -9) ∧ (∀ k, q.1 j = some k → f j = nI k) ∧ (q.2 j = true → ∃ u, u < 40 ∧ f j = nI u)
theorem nI_ne9 {u : Nat} (h : u < 2 ^ 31) : ¬ nI u = (-9 : Int32) := by
  rw [eq_I, nI_toInt h]; have : (-9 : Int32).toInt = -9 := rfl
  omega
theorem x_pairs_11 {Λ : Nat → Nat} {M : Mm} {Q : Mm → Prop} {r s : Nat} {μ : Nat → Int} (hΛ : inj Λ) (rs : RowSh Λ M r) (hs : s ≤ 40) (h9 : gI M (Λ r) 9 = nI s) (hμ : MidOk Λ M r s μ)
    (hQ : ∀ M', Ch (fun b => b = Λ (r + 6)) M M' → Mt (gI M' (Λ (r + 6))) (prs (s - 1) (fun j => μ (j + 1) - μ j) (s - 1)) → Q M') :
    ∀ (d i : Nat) (M1 : Mm), i + d = s - 1 → Ch (fun b => b = Λ (r + 6)) M M1 → Mt (gI M1 (Λ (r + 6))) (prs (s - 1) (fun j => μ (j + 1) - μ j) i) → B_X3_pairSteps_11 Q (d + 1) (Λ r) (nI i) M1 := by
  intro d
  induction d with
  | zero =>
    intro i M1 hd gc gm
    unfold B_X3_pairSteps_11
    have rs1 := rs.ch gc
    have e9 : gI M1 (Λ r) 9 = nI s := by rw [gc.2 _ (hΛ.ne (by omega))]; exact h9
    have e : i = s - 1 := by omega
    subst e
    refine ⟨rs1.1, x_cutCount rs1 hs e9 ⟨fun _ => hQ M1 gc gm, fun c => absurd (Int32.le_refl _) c⟩⟩
  | succ d ih =>
    intro i M1 hd gc gm
    unfold B_X3_pairSteps_11
    have rs1 := rs.ch gc
    have e9 : gI M1 (Λ r) 9 = nI s := by rw [gc.2 _ (hΛ.ne (by omega))]; exact h9
    have hμ1 : MidOk Λ M1 r s μ := fun j hj => by rw [gc.2 _ (hΛ.ne (by omega))]; exact hμ j hj
    refine ⟨rs1.1, x_cutCount rs1 hs e9 ⟨fun c => absurd ((nI_leI (a := s - 1) (b := i) (by omega) (by omega)).mp c) (by omega), fun _ => ⟨rs1.1, x_stepSize rs1 hs hμ1 (by omega) (fun r7 h7 => ⟨fun c => ?_, fun c => ⟨rs1.1, ?_⟩⟩)⟩⟩⟩
    · rw [nI_1]
      refine ih (i + 1) M1 (by omega) gc ?_
      simp only [prs]
      rw [le_I] at c
      have z : (0 : Int32).toInt = 0 := rfl
      rw [if_neg (by omega)]; exact gm
    · rw [le_I] at c
      have z : (0 : Int32).toInt = 0 := rfl
      refine x_pairStep hΛ rs1 hs e9 hμ1 (by omega) (fun k hk => ?_)
      have hinv := prs_inv (s - 1) (fun j => μ (j + 1) - μ j) i (by omega)
      have hk' : k = fd (fun k => und (fun j => μ (j + 1) - μ j) i k && !(prs (s - 1) (fun j => μ (j + 1) - μ j) i).2 k) (s - 1 - (i + 1)) (i + 1) := by
        rw [hk (fun j => und (fun j => μ (j + 1) - μ j) i j && decide (gI M1 (Λ (r + 6)) j = -9)) (fun j => rfl)]
        refine fd_congr _ _ (fun j h1 h2 => ?_)
        have hm := gm j (by omega)
        by_cases cu : und (fun j => μ (j + 1) - μ j) i j = true
        · rw [cu]
          simp only [Bool.true_and]
          have hz : μ (j + 1) - μ j < 0 := by simp only [und, decide_eq_true_eq] at cu; exact cu.1
          have hn : (prs (s - 1) (fun j => μ (j + 1) - μ j) i).1 j = none := by
            cases hq : (prs (s - 1) (fun j => μ (j + 1) - μ j) i).1 j with
            | none => rfl
            | some w => have := hinv.1 j w hq; omega
          cases hb : (prs (s - 1) (fun j => μ (j + 1) - μ j) i).2 j with
          | false => simp [hm.1 hn hb]
          | true =>
            obtain ⟨w, hw, ew⟩ := hm.2.2 hb
            simp only [ew, Bool.not_true, decide_eq_false_iff_not]
            exact nI_ne9 (by omega)
        · have : und (fun j => μ (j + 1) - μ j) i j = false := by simpa using cu
          rw [this]; rfl
      have hki : i + 1 ≤ k := by rw [hk']; exact (fd_le _ _ _).1
      rw [nI_1]
      refine ⟨fun hlt => ?_, fun hge => ?_⟩
      · refine ih (i + 1) _ (by omega) ((gc.step rfl).step rfl) ?_
        simp only [prs]
        rw [if_pos ⟨by omega, by rw [← hk']; exact hlt⟩, ← hk']
        have hy := fd_yes (fun k => und (fun j => μ (j + 1) - μ j) i k && !(prs (s - 1) (fun j => μ (j + 1) - μ j) i).2 k) (s - 1 - (i + 1)) (i + 1) (by omega)
        rw [← hk'] at hy
        simp only [Bool.and_eq_true] at hy
        have hyn := und_neg hy.1
        intro j hj
        have hm := gm j hj
        rw [gI_pI_eq, gI_pI_eq]
        simp only [uO, uB]
        by_cases e1 : j = k
        · rw [e1, upd_eq, if_neg (by omega), if_pos rfl]
          refine ⟨fun _ h => absurd h (by decide), fun w hw => ?_, fun _ => ⟨i, by omega, rfl⟩⟩
          have := hinv.1 k w hw; omega
        · rw [upd_ne _ _ e1]
          by_cases e2 : j = i
          · rw [e2, upd_eq, if_pos rfl, if_neg (by omega)]
            refine ⟨fun h => by simp at h, fun w hw => by cases hw; rfl, fun hb => ?_⟩
            have := hinv.2 i hb; omega
          · rw [upd_ne _ _ e2, if_neg e2, if_neg e1]; exact hm
      · refine ih (i + 1) M1 (by omega) gc ?_
        simp only [prs]
        rw [if_neg (by rw [← hk']; omega)]; exact gm
theorem x_pairs {Λ : Nat → Nat} {M : Mm} {Q : Mm → Prop} {r s : Nat} {μ : Nat → Int} (hΛ : inj Λ) (rs : RowSh Λ M r) (hs : s ≤ 40) (h9 : gI M (Λ r) 9 = nI s) (hμ : MidOk Λ M r s μ)
    (hQ : ∀ M', Ch (fun b => b = Λ (r + 6)) M M' → Mt (gI M' (Λ (r + 6))) (prs (s - 1) (fun j => μ (j + 1) - μ j) (s - 1)) → Q M') : B_X3_pairSteps_0 Q (Λ r) M := by
  refine ⟨rs.1, ?_⟩
  rw [rs.2.1.2.2.2.2.2]
  refine x_fill (N := 40) (by omega) (rs.2.2.1 6 (by omega) (by omega)) (rs.2.2.2.1 6 (by omega) (by omega) (by omega)) (fun M' hc h1 _ => ⟨s - 1 + 1, ?_⟩)
  exact x_pairs_11 hΛ (rs.ch hc) hs (by rw [hc.2 _ (hΛ.ne (by omega))]; exact h9) (fun j hj => by rw [hc.2 _ (hΛ.ne (by omega))]; exact hμ j hj) (fun M2 c2 m2 => hQ M2 (hc.trans c2) m2) (s - 1) 0 M' (by omega) (Ch.refl _ _) (fun j hj => ⟨fun _ _ => h1 j hj, fun k h => by simp [prs] at h, fun h => by simp [prs] at h⟩)
