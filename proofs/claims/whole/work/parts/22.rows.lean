/-! PURE, 3: a ROW: measured builds, ranks; the class's gathering -/
/-- how many of the first builds are measured -/
def mc (v : Nat → Int32) : Nat → Nat
  | 0 => 0
  | b + 1 => mc v b + (if v b = -9 then 0 else 1)
/-- the k-th measured build -/
def mp (v : Nat → Int32) : Nat → Nat → Nat
  | 0, _ => 0
  | b + 1, k => if ¬ v b = -9 ∧ k = mc v b then b else mp v b k
/-- twice how many are less than x, and how many are alike -/
def rkv (v : Nat → Int32) (x : Int32) : Nat → Nat
  | 0 => 0
  | b + 1 => rkv v x b + (if v b = x then 1 else if v b = -9 then 0 else if v b < x then 2 else 0)
def rk (v : Nat → Int32) (B k : Nat) : Nat := rkv v (v (mp v B k)) B
theorem mc_le (v : Nat → Int32) : ∀ b, mc v b ≤ b
  | 0 => Nat.le_refl 0
  | b + 1 => by have := mc_le v b; simp only [mc]; split <;> omega
theorem mc_mono (v : Nat → Int32) {a b : Nat} (h : a ≤ b) : mc v a ≤ mc v b := by
  induction b with
  | zero => have : a = 0 := by omega
            subst this; exact Nat.le_refl _
  | succ b ih =>
    by_cases e : a = b + 1
    · rw [e]; exact Nat.le_refl _
    · have := ih (by omega); simp only [mc]; omega
theorem mp_spec (v : Nat → Int32) : ∀ (B k : Nat), k < mc v B → mp v B k < B ∧ ¬ v (mp v B k) = -9 ∧ mc v (mp v B k) = k
  | 0, k, h => absurd h (by simp [mc])
  | B + 1, k, h => by
    simp only [mp]
    by_cases c : ¬ v B = -9 ∧ k = mc v B
    · rw [if_pos c]; exact ⟨by omega, c.1, c.2.symm⟩
    · rw [if_neg c]
      have hk : k < mc v B := by
        simp only [mc] at h
        by_cases e : v B = -9
        · rw [if_pos e] at h; omega
        · rw [if_neg e] at h
          have : ¬ k = mc v B := fun z => c ⟨e, z⟩
          omega
      have := mp_spec v B k hk
      exact ⟨by omega, this.2⟩
theorem mp_mc (v : Nat → Int32) : ∀ (B b : Nat), b < B → ¬ v b = -9 → mp v B (mc v b) = b
  | 0, b, h, _ => absurd h (by omega)
  | B + 1, b, h, hb => by
    simp only [mp]
    by_cases e : b = B
    · subst e; rw [if_pos ⟨hb, rfl⟩]
    · have hm : mc v b < mc v B := by
        have h1 := mc_mono v (show b + 1 ≤ B by omega)
        simp only [mc, if_neg hb] at h1; omega
      rw [if_neg (by omega)]
      exact mp_mc v B b (by omega) hb
theorem mp_lt {v : Nat → Int32} {B i j : Nat} (hij : i < j) (hj : j < mc v B) : mp v B i < mp v B j := by
  have h1 := mp_spec v B i (by omega)
  have h2 := mp_spec v B j hj
  rcases Nat.lt_or_ge (mp v B i) (mp v B j) with h | h
  · exact h
  · have := mc_mono v h; omega
theorem rkv_le (v : Nat → Int32) (x : Int32) : ∀ B, rkv v x B ≤ 2 * B
  | 0 => Nat.le_refl 0
  | B + 1 => by have := rkv_le v x B; simp only [rkv]; split <;> (try split) <;> (try split) <;> omega
theorem rkv_pos (v : Nat → Int32) {x : Int32} : ∀ {B b : Nat}, b < B → v b = x → 1 ≤ rkv v x B ∧ rkv v x B ≤ 2 * B - 1
  | 0, b, h, _ => absurd h (by omega)
  | B + 1, b, h, hb => by
    simp only [rkv]
    by_cases e : b = B
    · subst e; rw [if_pos hb]; have := rkv_le v x b; omega
    · have := rkv_pos v (B := B) (b := b) (by omega) hb
      split <;> (try split) <;> (try split) <;> omega
theorem rk_rng {v : Nat → Int32} {B k : Nat} (hk : k < mc v B) : 1 ≤ rk v B k ∧ rk v B k ≤ 2 * B - 1 := rkv_pos v (mp_spec v B k hk).1 rfl
/-- the shape of a ROW of the class: its cells are codes r .. r + 6 -/
def RowSh (Λ : Nat → Nat) (M : Mm) (r : Nat) : Prop := ok M (Λ r) 3 ∧ (gR M (Λ r) 0 = some (Λ (r + 1)) ∧ gR M (Λ r) 7 = some (Λ (r + 2)) ∧ gR M (Λ r) 8 = some (Λ (r + 3)) ∧ gR M (Λ r) 10 = some (Λ (r + 4)) ∧ gR M (Λ r) 11 = some (Λ (r + 5)) ∧ gR M (Λ r) 12 = some (Λ (r + 6))) ∧ (∀ j, 1 ≤ j → j ≤ 6 → ok M (Λ (r + j)) 7) ∧ (∀ j, 1 ≤ j → j ≤ 6 → j ≠ 4 → gN M (Λ (r + j)) = 40) ∧ gN M (Λ (r + 4)) = 41
theorem RowSh.ch {Λ : Nat → Nat} {M M' : Mm} {r : Nat} {S : Nat → Prop} (h : RowSh Λ M r) (c : Ch S M M') : RowSh Λ M' r := by
  unfold RowSh ok at *
  rw [c.R, c.N, c.K, c.L]; exact h
def inj (Λ : Nat → Nat) : Prop := ∀ c c' : Nat, Λ c = Λ c' → c = c'
theorem inj.ne {Λ : Nat → Nat} (h : inj Λ) {c c' : Nat} (n : c ≠ c') : Λ c ≠ Λ c' := fun e => n (h c c' e)
theorem x_rankOf_8 {Q : Int32 → Mm → Prop} {Λ : Nat → Nat} {M : Mm} {r B : Nat} {v : Nat → Int32} {x : Int32} (sh : RowSh Λ M r) (hv : gI M (Λ (r + 1)) = v) (hB : B ≤ 40) (hx : ¬ x = -9) (hQ : Q (nI (rkv v x B)) M) :
    ∀ (d k l a : Nat), k + d = B → 2 * l + a = rkv v x k → B_X3_rankOf_8 Q (d + 1) (Λ r) x (nI B) (nI l) (nI a) (nI k) M := by
  intro d
  induction d with
  | zero =>
    intro k l a hk he
    unfold B_X3_rankOf_8
    have e : k = B := by omega
    subst e
    refine ⟨fun _ => ?_, fun c => absurd (Int32.le_refl _) c⟩
    rw [show (2 : Int32) = nI 2 from rfl, pk_mul, nI_add, he]; exact hQ
  | succ d ih =>
    intro k l a hk he
    unfold B_X3_rankOf_8
    refine ⟨fun c => absurd ((nI_leI (by omega) (by omega)).mp c) (by omega), fun _ => ⟨sh.1, Λ (r + 1), sh.2.1.1, ar_nI (sh.2.2.1 1 (by omega) (by omega)) (sh.2.2.2.1 1 (by omega) (by omega) (by omega)) (by omega) (by omega), ?_⟩⟩
    rw [nI_clamp (by omega), hv]
    have hr : rkv v x (k + 1) = rkv v x k + (if v k = x then 1 else if v k = -9 then 0 else if v k < x then 2 else 0) := rfl
    refine ⟨fun c1 => ⟨fun c2 => ?_, fun c2 => ⟨fun c3 => ?_, fun c3 => ?_⟩⟩, fun c1 => ?_⟩
    · rw [nI_1]; exact ih _ _ _ (by omega) (by rw [hr, if_neg c1, if_pos c2]; omega)
    · rw [nI_1]; exact ih _ _ _ (by omega) (by rw [hr, if_neg c1, if_neg c2, if_neg (Int32.not_lt.mpr c3)]; omega)
    · rw [nI_1, nI_1]; exact ih _ _ _ (by omega) (by rw [hr, if_neg c1, if_neg c2, if_pos (Int32.not_le.mp c3)]; omega)
    · rw [nI_1, nI_1]; exact ih _ _ _ (by omega) (by rw [hr, if_pos c1]; omega)
theorem x_rankOf {Q : Int32 → Mm → Prop} {Λ : Nat → Nat} {M : Mm} {r B : Nat} {v : Nat → Int32} {x : Int32} (sh : RowSh Λ M r) (hv : gI M (Λ (r + 1)) = v) (hB : B ≤ 40) (hx : ¬ x = -9) (hQ : Q (nI (rkv v x B)) M) : B_X3_rankOf_0 Q (Λ r) x (nI B) M :=
  ⟨B + 1, x_rankOf_8 sh hv hB hx hQ B 0 0 0 (by omega) rfl⟩
/-- what gathering leaves: the first k builds looked at -/
def Gath (Λ : Nat → Nat) (M M1 : Mm) (r B : Nat) (v : Nat → Int32) (k : Nat) : Prop :=
  Ch (fun b => b = Λ r ∨ b = Λ (r + 2) ∨ b = Λ (r + 3)) M M1 ∧ gI M1 (Λ r) 6 = nI (mc v k) ∧ (∀ j, j ≠ 6 → gI M1 (Λ r) j = gI M (Λ r) j) ∧ (∀ i, i < mc v k → gI M1 (Λ (r + 2)) i = nI (mp v k i)) ∧ ∀ i, i < mc v k → gI M1 (Λ (r + 3)) i = nI (rkv v (v (mp v k i)) B)
theorem x_gather_7 {Q : Mm → Prop} {Λ : Nat → Nat} {M : Mm} {r B : Nat} {v : Nat → Int32} (hi : inj Λ) (sh : RowSh Λ M r) (hv : gI M (Λ (r + 1)) = v) (hB : B ≤ 40) (hQ : ∀ M', Gath Λ M M' r B v B → Q M') :
    ∀ (d k : Nat) (M1 : Mm), k + d = B → Gath Λ M M1 r B v k → B_X3_gatherMeasured_7 Q (d + 1) (Λ r) (nI B) (nI k) M1 := by
  intro d
  induction d with
  | zero =>
    intro k M1 hk g
    unfold B_X3_gatherMeasured_7
    have e : k = B := by omega
    subst e
    exact ⟨fun _ => hQ M1 g, fun c => absurd (Int32.le_refl _) c⟩
  | succ d ih =>
    intro k M1 hk g
    unfold B_X3_gatherMeasured_7
    obtain ⟨gc, g6, gj, gp, gr⟩ := g
    have sh1 := sh.ch gc
    have hv1 : gI M1 (Λ (r + 1)) = v := by
      rw [gc.2 _ (by
        rintro (e | e | e)
        · exact hi.ne (by omega) e
        · exact hi.ne (by omega) e
        · exact hi.ne (by omega) e)]; exact hv
    have hmk := mc_le v k
    refine ⟨fun c => absurd ((nI_leI (by omega) (by omega)).mp c) (by omega), fun _ => ⟨sh1.1, Λ (r + 1), sh1.2.1.1, ar_nI (sh1.2.2.1 1 (by omega) (by omega)) (sh1.2.2.2.1 1 (by omega) (by omega) (by omega)) (by omega) (by omega), ?_⟩⟩
    rw [nI_clamp (by omega), hv1, nI_1]
    refine ⟨fun c => ?_, fun c => ⟨Λ (r + 2), sh1.2.1.2.1, by rw [g6]; exact ar_nI (sh1.2.2.1 2 (by omega) (by omega)) (sh1.2.2.2.1 2 (by omega) (by omega) (by omega)) (by omega) (by omega), ?_⟩⟩
    · have em : mc v (k + 1) = mc v k := by simp only [mc, if_pos c]; omega
      have ep : ∀ i, mp v (k + 1) i = mp v k i := fun i => by simp only [mp]; rw [if_neg (fun z => z.1 c)]
      exact ih (k + 1) M1 (by omega) ⟨gc, by rw [em]; exact g6, gj, fun i h => by rw [ep]; exact gp i (by omega), fun i h => by rw [ep]; exact gr i (by omega)⟩
    · rintro _ rfl
      rw [g6, nI_clamp (by omega)]
      have gc2 := gc.step (k := mc v k) (v := nI k) (a := Λ (r + 2)) (Or.inr (Or.inl rfl))
      have sh2 := sh.ch gc2
      have hv2 : gI (pI M1 (Λ (r + 2)) (mc v k) (nI k)) (Λ (r + 1)) = v := by rw [gI_pI_ne (hi.ne (by omega))]; exact hv1
      have e6 : gI (pI M1 (Λ (r + 2)) (mc v k) (nI k)) (Λ r) = gI M1 (Λ r) := gI_pI_ne (hi.ne (by omega))
      refine ⟨Λ (r + 1), sh2.2.1.1, ar_nI (sh2.2.2.1 1 (by omega) (by omega)) (sh2.2.2.2.1 1 (by omega) (by omega) (by omega)) (by omega) (by omega), ?_⟩
      rw [hv2]
      refine x_rankOf sh2 hv2 hB c ⟨Λ (r + 3), sh2.2.1.2.2.1, by rw [e6, g6]; exact ar_nI (sh2.2.2.1 3 (by omega) (by omega)) (sh2.2.2.2.1 3 (by omega) (by omega) (by omega)) (by omega) (by omega), ?_⟩
      rintro _ rfl
      rw [e6, g6, nI_clamp (by omega)]
      have gc3 := gc2.step (k := mc v k) (v := nI (rkv v (v k) B)) (a := Λ (r + 3)) (Or.inr (Or.inr rfl))
      refine ⟨(sh.ch gc3).1, ?_⟩
      rintro _ rfl
      have e7 : gI (pI (pI M1 (Λ (r + 2)) (mc v k) (nI k)) (Λ (r + 3)) (mc v k) (nI (rkv v (v k) B))) (Λ r) = gI M1 (Λ r) := by rw [gI_pI_ne (hi.ne (by omega))]; exact e6
      rw [e7, g6, nI_1]
      have em : mc v (k + 1) = mc v k + 1 := by simp only [mc, if_neg c]
      have epn : mp v (k + 1) (mc v k) = k := by simp only [mp]; rw [if_pos ⟨c, trivial⟩]
      have epo : ∀ i, i < mc v k → mp v (k + 1) i = mp v k i := fun i h => by simp only [mp]; rw [if_neg (by omega)]
      refine ih (k + 1) _ (by omega) ⟨gc3.step (Or.inl rfl), ?_, ?_, ?_, ?_⟩
      · rw [gI_pI_eq, upd_eq, em]
      · intro j hj
        rw [gI_pI_eq, upd_ne _ _ hj, e7]; exact gj j hj
      · intro i h
        rw [gI_pI_ne (hi.ne (by omega)), gI_pI_ne (hi.ne (by omega)), gI_pI_eq]
        by_cases e : i = mc v k
        · rw [e, upd_eq, epn]
        · rw [upd_ne _ _ e, epo i (by omega)]; exact gp i (by omega)
      · intro i h
        rw [gI_pI_ne (hi.ne (by omega)), gI_pI_eq]
        by_cases e : i = mc v k
        · rw [e, upd_eq, epn]
        · rw [upd_ne _ _ e, epo i (by omega), gI_pI_ne (hi.ne (by omega))]; exact gr i (by omega)
theorem x_gather {Q : Mm → Prop} {Λ : Nat → Nat} {M : Mm} {r B : Nat} {v : Nat → Int32} (hi : inj Λ) (sh : RowSh Λ M r) (hv : gI M (Λ (r + 1)) = v) (hB : B ≤ 40) (hQ : ∀ M', Gath Λ M M' r B v B → Q M') : B_X3_gatherMeasured_0 Q (Λ r) (nI B) M := by
  refine ⟨sh.1, ?_⟩
  rintro _ rfl
  exact ⟨B + 1, x_gather_7 hi sh hv hB hQ B 0 _ (by omega) ⟨Ch.put (Or.inl rfl), by rw [gI_pI_eq, upd_eq]; rfl, fun j hj => by rw [gI_pI_eq, upd_ne _ _ hj], fun i h => absurd h (by simp [mc]), fun i h => absurd h (by simp [mc])⟩⟩
