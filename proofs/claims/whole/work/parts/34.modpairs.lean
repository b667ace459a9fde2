/-! PURE, 14: the reference's cuts, sizes, pairs -/
theorem i64 (x : Int32) : (Int32.toInt64 x).toInt = x.toInt := Int32.toInt_toInt64 x
theorem bmodL {z : Int} (h1 : -9223372036854775808 ≤ z) (h2 : z < 9223372036854775808) : z.bmod (2 ^ 64) = z := Int.bmod_eq_of_le (by omega) (by omega)
theorem addL {x y : Int64} (h1 : -9223372036854775808 ≤ x.toInt + y.toInt) (h2 : x.toInt + y.toInt < 9223372036854775808) : (x + y).toInt = x.toInt + y.toInt := by
  rw [Int64.toInt_add]; exact bmodL h1 h2
theorem mulL {x y : Int64} (h1 : -9223372036854775808 ≤ x.toInt * y.toInt) (h2 : x.toInt * y.toInt < 9223372036854775808) : (x * y).toInt = x.toInt * y.toInt := by
  rw [Int64.toInt_mul]; exact bmodL h1 h2
theorem lgt (x y : Int64) : 0 < lg_cmp x y ↔ y.toInt < x.toInt := by
  unfold lg_cmp
  rw [← Int64.lt_iff_toInt_lt]
  by_cases c : x > y
  · rw [if_pos c]; exact ⟨fun _ => c, fun _ => by decide⟩
  · rw [if_neg c]
    refine ⟨fun z => ?_, fun z => absurd z c⟩
    split at z <;> exact absurd z (by decide)
theorem m_isCut {Λ : Nat → Nat} {M : Mm} {Q : Int32 → Mm → Prop} {s : Nat} {x : Int32} (sh : ModSh Λ M) (hs : s ≤ 40) (h18 : gI M (Λ 400) 18 = nI s) (h1 : ∀ i, i + 1 < s → x = nI i → Q 1 M) (h0 : (∀ i, i + 1 < s → ¬ x = nI i) → Q 0 M) : B_X6_isCut_0 Q (Λ 400) x M := by
  have es : (nI s - (1 : Int32)).toInt = (s : Int) - 1 := by
    have z : (1 : Int32).toInt = 1 := rfl
    rw [subI (by rw [nI_toInt (by omega)]; omega) (by rw [nI_toInt (by omega)]; omega), nI_toInt (by omega), z]
  refine ⟨fun c => h0 (fun i hi e => ?_), fun c => ⟨sh.1, ?_⟩⟩
  · rw [e] at c; exact nI_pos (by omega) c
  · rw [h18]
    have hx := nI_toNat c
    refine ⟨fun c2 => h0 (fun i hi e => ?_), fun c2 => h1 x.toInt.toNat ?_ hx⟩
    · rw [e, le_I, es, nI_toInt (by omega)] at c2; omega
    · rw [le_I, es] at c2
      have c' := Int32.not_lt.mp c
      rw [le_I] at c'
      have z : (0 : Int32).toInt = 0 := rfl
      omega
theorem m_isCutY {Λ : Nat → Nat} {M : Mm} {Q : Int32 → Mm → Prop} {s i : Nat} (sh : ModSh Λ M) (hs : s ≤ 40) (h18 : gI M (Λ 400) 18 = nI s) (hi : i + 1 < s) (h1 : Q 1 M) : B_X6_isCut_0 Q (Λ 400) (nI i) M := m_isCut sh hs h18 (fun _ _ _ => h1) (fun h => absurd rfl (h i hi))
theorem m_isCutN {Λ : Nat → Nat} {M : Mm} {Q : Int32 → Mm → Prop} {s i : Nat} (sh : ModSh Λ M) (hs : s ≤ 40) (h18 : gI M (Λ 400) 18 = nI s) (hi : ¬ i + 1 < s) (hi2 : i ≤ 40) (h0 : Q 0 M) : B_X6_isCut_0 Q (Λ 400) (nI i) M := m_isCut sh hs h18 (fun j hj e => absurd ((nI_eq (by omega) (by omega)).mp e) (by omega)) (fun _ => h0)
theorem m_sizeOf {Λ : Nat → Nat} {M : Mm} {Q : Int32 → Mm → Prop} {s i : Nat} {μ : Nat → Int} (sh : ModSh Λ M) (hs : s ≤ 40) (hμ : ∀ j, j < s → (gI M (Λ 413) j).toInt = μ j ∧ 0 ≤ μ j ∧ μ j ≤ 1000000) (hi : i + 1 < s) (hQ : ∀ x : Int32, x.toInt = μ (i + 1) - μ i → Q x M) : B_X6_sizeOf_0 Q (Λ 400) (nI i) M := by
  have h1 := hμ i (by omega)
  have h2 := hμ (i + 1) (by omega)
  unfold B_X6_sizeOf_0
  rw [nI_1]
  refine ⟨sh.1, Λ 413, sh.r 13 (by omega) (by omega), sh.a 13 (by omega) (by omega) (show i + 1 < 40 by omega), sh.a 13 (by omega) (by omega) (show i < 40 by omega), ?_⟩
  rw [nI_clamp (by omega), nI_clamp (by omega)]
  exact hQ _ (by rw [subI (by omega) (by omega)]; omega)
/-- what the reference's pairs hold -/
def Mp (f g : Nat → Int32) (q : (Nat → Option Nat) × (Nat → Bool)) : Prop := ∀ j, j < 40 → (q.1 j = none → f j = -9) ∧ (∀ k, q.1 j = some k → f j = nI k) ∧ (q.2 j = false → g j = 0) ∧ (q.2 j = true → g j = 1)
def lpS (Λ : Nat → Nat) (b : Nat) : Prop := b = Λ 415 ∨ b = Λ 416
theorem lpS_not {Λ : Nat → Nat} (hΛ : inj Λ) {c : Nat} (h : c ≠ 415 ∧ c ≠ 416) : ¬ lpS Λ (Λ c) := by
  rintro (e | e) <;> exact absurd (hΛ _ _ e) (by omega)
theorem m_lp_43 {Λ : Nat → Nat} {M : Mm} {Q : Mm → Prop} {K31 : Nat → Int32 → Mm → Prop} {s i : Nat} {μ : Nat → Int} {q : (Nat → Option Nat) × (Nat → Bool)} (hΛ : inj Λ) (sh : ModSh Λ M) (hs : s ≤ 40) (h18 : gI M (Λ 400) 18 = nI s) (hμ : ∀ j, j < s → (gI M (Λ 413) j).toInt = μ j ∧ 0 ≤ μ j ∧ μ j ≤ 1000000) (hi : i + 1 < s) (hq : Mp (gI M (Λ 415)) (gI M (Λ 416)) q) (hqi : q.1 i = none)
    (hY : 0 < μ (i + 1) - μ i → ∀ k, k = fd (fun k => und (fun j => μ (j + 1) - μ j) i k && !q.2 k) (s - 1 - (i + 1)) (i + 1) → k < s - 1 → K31 (Λ 400) (nI i + 1) (pI (pI M (Λ 415) i (nI k)) (Λ 416) k (1 : Int32)))
    (hN : ¬ (0 < μ (i + 1) - μ i ∧ fd (fun k => und (fun j => μ (j + 1) - μ j) i k && !q.2 k) (s - 1 - (i + 1)) (i + 1) < s - 1) → K31 (Λ 400) (nI i + 1) M) :
    ∀ (d k : Nat), k + d = s - 1 → i + 1 ≤ k → fd (fun k => und (fun j => μ (j + 1) - μ j) i k && !q.2 k) (s - 1 - (i + 1)) (i + 1) = fd (fun k => und (fun j => μ (j + 1) - μ j) i k && !q.2 k) d k → B_X6_layPairs_43 Q K31 (d + 1) (Λ 400) (nI i) (nI k) M := by
  have z0 : (0 : Int32).toInt = 0 := rfl
  have m0 := hμ i (by omega)
  have m1 := hμ (i + 1) (by omega)
  intro d
  induction d with
  | zero =>
    intro k hk hik hf
    unfold B_X6_layPairs_43
    refine ⟨sh.1, m_isCutN sh hs h18 (by omega) (by omega) ⟨fun _ => hN (by rw [hf]; simp only [fd]; omega), fun c => absurd rfl c⟩⟩
  | succ d ih =>
    intro k hk hik hf
    unfold B_X6_layPairs_43
    have m2 := hμ k (by omega)
    have m3 := hμ (k + 1) (by omega)
    refine ⟨sh.1, m_isCutY sh hs h18 (by omega) ⟨fun c => absurd c (by decide), fun _ => ⟨sh.1, m_sizeOf sh hs hμ hi (fun r7 h7 => ⟨fun c => ?_, fun c => ⟨sh.1, Λ 415, sh.r 15 (by omega) (by omega), sh.a 15 (by omega) (by omega) (show i < 40 by omega), ?_⟩⟩)⟩⟩⟩
    · rw [le_I, h7, z0] at c; exact hN (by omega)
    · rw [le_I, h7, z0] at c
      rw [nI_clamp (by omega)]
      refine ⟨fun c2 => absurd ((hq i (by omega)).1 hqi) c2, fun _ => ?_⟩
      refine m_sizeOf sh hs hμ (by omega) (fun r14 h14 => ⟨sh.1, m_sizeOf sh hs hμ hi (fun r17 h17 => ?_)⟩)
      have e14 : (-r14).toInt = -(μ (k + 1) - μ k) := by rw [negI (by omega), h14]
      have ed : (-r14 - r17).toInt = -(μ (k + 1) - μ k) - (μ (i + 1) - μ i) := by rw [subI (by omega) (by omega), e14, h17]
      have next : ¬ (und (fun j => μ (j + 1) - μ j) i k && !q.2 k) = true → B_X6_layPairs_43 Q K31 (d + 1) (Λ 400) (nI i) (nI k + 1) M := by
        intro hn
        rw [nI_1]
        refine ih (k + 1) (by omega) (by omega) ?_
        rw [hf]; simp only [fd]; rw [if_neg hn]
      have go : ∀ s0 : Int32, s0.toInt = ab (μ (i + 1) - μ i + (μ (k + 1) - μ k)) → B_X6_layPairs_93 Q K31 (fun y0 y1 y2 My => B_X6_layPairs_43 Q K31 (d + 1) y0 y1 y2 My) (Λ 400) (nI i) (nI k) s0 M := by
        intro s0 hs0
        have hs0b : 0 ≤ s0.toInt ∧ s0.toInt ≤ 2000000 := by rw [hs0]; unfold ab; omega
        have hk40 := hq k (by omega)
        refine ⟨sh.1, m_sizeOf sh hs hμ (by omega) (fun r3 h3 => ⟨fun c3 => next (fun hn => ?_), fun c3 => ⟨sh.1, Λ 416, sh.r 16 (by omega) (by omega), sh.a 16 (by omega) (by omega) (show k < 40 by omega), ?_⟩⟩)⟩
        · rw [le_I, h3, z0] at c3
          simp only [Bool.and_eq_true] at hn
          have := und_neg hn.1; omega
        · rw [le_I, h3, z0] at c3
          rw [nI_clamp (by omega)]
          refine ⟨fun c4 => next (fun hn => ?_), fun c4 => ?_⟩
          · simp only [Bool.and_eq_true, Bool.not_eq_true'] at hn
            exact c4 (hk40.2.2.1 hn.2)
          · have hb : q.2 k = false := by
              cases hb : q.2 k with
              | false => rfl
              | true => rw [hk40.2.2.2 hb] at c4; exact absurd c4 (by decide)
            refine m_sizeOf sh hs hμ hi (fun r10 h10 => ?_)
            have e10 : ((10 : Int64) * Int32.toInt64 s0).toInt = 10 * ab (μ (i + 1) - μ i + (μ (k + 1) - μ k)) := by
              have z10 : (10 : Int64).toInt = 10 := rfl
              rw [mulL (by rw [i64, z10]; omega) (by rw [i64, z10]; omega), i64, z10, hs0]
            rw [lgt, e10, i64, h10]
            refine ⟨fun c5 => next (fun hn => ?_), fun c5 => ⟨sh.1, Λ 415, sh.r 15 (by omega) (by omega), sh.a 15 (by omega) (by omega) (show i < 40 by omega), ?_⟩⟩
            · simp only [Bool.and_eq_true] at hn
              have := und_le hn.1; omega
            · rintro _ rfl
              rw [nI_clamp (by omega)]
              have s2 : ModSh Λ (pI M (Λ 415) i (nI k)) := sh.of rfl
              refine ⟨Λ 416, s2.r 16 (by omega) (by omega), s2.a 16 (by omega) (by omega) (show k < 40 by omega), ?_⟩
              rintro _ rfl
              have hfk : fd (fun k => und (fun j => μ (j + 1) - μ j) i k && !q.2 k) (s - 1 - (i + 1)) (i + 1) = k := by
                rw [hf]; simp only [fd]; rw [if_pos]
                simp only [Bool.and_eq_true, Bool.not_eq_true', und, decide_eq_true_eq]
                exact ⟨⟨by omega, by omega⟩, hb⟩
              have hK := hY (by omega) k hfk.symm (by omega)
              have s3 : ModSh Λ (pI (pI M (Λ 415) i (nI k)) (Λ 416) k (1 : Int32)) := sh.of rfl
              have e18 : gI (pI (pI M (Λ 415) i (nI k)) (Λ 416) k (1 : Int32)) (Λ 400) 18 = nI s := by rw [gI_pI_ne (hΛ.ne (by omega)), gI_pI_ne (hΛ.ne (by omega))]; exact h18
              have e15 : gI (pI (pI M (Λ 415) i (nI k)) (Λ 416) k (1 : Int32)) (Λ 415) i = nI k := by rw [gI_pI_ne (hΛ.ne (by omega)), gI_pI_eq, upd_eq]
              have hμ3 : ∀ j, j < s → (gI (pI (pI M (Λ 415) i (nI k)) (Λ 416) k (1 : Int32)) (Λ 413) j).toInt = μ j ∧ 0 ≤ μ j ∧ μ j ≤ 1000000 := fun j hj => by rw [gI_pI_ne (hΛ.ne (by omega)), gI_pI_ne (hΛ.ne (by omega))]; exact hμ j hj
              rw [nI_1]
              unfold B_X6_layPairs_43
              by_cases hc : k + 1 + 1 < s
              · refine ⟨s3.1, m_isCutY s3 hs e18 hc ⟨fun c => absurd c (by decide), fun _ => ⟨s3.1, m_sizeOf s3 hs hμ3 hi (fun r h => ⟨fun _ => hK, fun _ => ⟨s3.1, Λ 415, s3.r 15 (by omega) (by omega), s3.a 15 (by omega) (by omega) (show i < 40 by omega), ?_⟩⟩)⟩⟩⟩
                rw [nI_clamp (by omega), e15]
                exact ⟨fun _ => hK, fun z => absurd z (nI_ne9 (by omega))⟩
              · exact ⟨s3.1, m_isCutN s3 hs e18 hc (by omega) ⟨fun _ => hK, fun c => absurd rfl c⟩⟩
      refine ⟨fun c2 => go _ ?_, fun c2 => go _ ?_⟩
      · rw [le_I, ed, z0] at c2
        rw [ed]; unfold ab; omega
      · rw [le_I, ed, z0] at c2
        rw [negI (by omega), ed]; unfold ab; omega
theorem m_lp_31 {Λ : Nat → Nat} {M : Mm} {Q : Mm → Prop} {s : Nat} {μ : Nat → Int} (hΛ : inj Λ) (sh : ModSh Λ M) (hs : s ≤ 40) (h18 : gI M (Λ 400) 18 = nI s) (hμ : ∀ j, j < s → (gI M (Λ 413) j).toInt = μ j ∧ 0 ≤ μ j ∧ μ j ≤ 1000000)
    (hQ : ∀ M', Ch (lpS Λ) M M' → Mp (gI M' (Λ 415)) (gI M' (Λ 416)) (prs (s - 1) (fun j => μ (j + 1) - μ j) (s - 1)) → Q M') :
    ∀ (d i : Nat) (M1 : Mm), i + d = s - 1 → Ch (lpS Λ) M M1 → Mp (gI M1 (Λ 415)) (gI M1 (Λ 416)) (prs (s - 1) (fun j => μ (j + 1) - μ j) i) → B_X6_layPairs_31 Q (d + 1) (Λ 400) (nI i) M1 := by
  intro d
  induction d with
  | zero =>
    intro i M1 hd gc gm
    unfold B_X6_layPairs_31
    have e : i = s - 1 := by omega
    subst e
    exact ⟨(sh.ch gc).1, m_isCutN (sh.ch gc) hs (by rw [gc.2 _ (lpS_not hΛ (by omega))]; exact h18) (by omega) (by omega) ⟨fun _ => hQ M1 gc gm, fun c => absurd rfl c⟩⟩
  | succ d ih =>
    intro i M1 hd gc gm
    unfold B_X6_layPairs_31
    have sh1 := sh.ch gc
    have e18 : gI M1 (Λ 400) 18 = nI s := by rw [gc.2 _ (lpS_not hΛ (by omega))]; exact h18
    have hμ1 : ∀ j, j < s → (gI M1 (Λ 413) j).toInt = μ j ∧ 0 ≤ μ j ∧ μ j ≤ 1000000 := fun j hj => by rw [gc.2 _ (lpS_not hΛ (by omega))]; exact hμ j hj
    have hinv := prs_inv (s - 1) (fun j => μ (j + 1) - μ j) i (by omega)
    have hqi : (prs (s - 1) (fun j => μ (j + 1) - μ j) i).1 i = none := by
      cases h : (prs (s - 1) (fun j => μ (j + 1) - μ j) i).1 i with
      | none => rfl
      | some w => have := hinv.1 i w h; omega
    refine ⟨sh1.1, m_isCutY sh1 hs e18 (by omega) ⟨fun c => absurd c (by decide), fun _ => ⟨s - 1 - (i + 1) + 1, ?_⟩⟩⟩
    rw [nI_1]
    refine m_lp_43 (q := prs (s - 1) (fun j => μ (j + 1) - μ j) i) hΛ sh1 hs e18 hμ1 (by omega) gm hqi (fun hpos k hk hlt => ?_) (fun hno => ?_) (s - 1 - (i + 1)) (i + 1) (by omega) (by omega) rfl
    · rw [nI_1]
      refine ih (i + 1) _ (by omega) ((gc.step (Or.inl rfl)).step (Or.inr rfl)) ?_
      simp only [prs]
      rw [if_pos ⟨hpos, by rw [← hk]; exact hlt⟩, ← hk]
      intro j hj
      have hm := gm j hj
      rw [gI_pI_ne (hΛ.ne (by omega)), gI_pI_eq, gI_pI_eq, gI_pI_ne (hΛ.ne (by omega))]
      simp only [uO, uB]
      refine ⟨fun h => ?_, fun w hw => ?_, fun h => ?_, fun h => ?_⟩
      · by_cases e : j = i
        · rw [if_pos e] at h; simp at h
        · rw [if_neg e] at h; rw [upd_ne _ _ e]; exact hm.1 h
      · by_cases e : j = i
        · rw [if_pos e] at hw; cases hw; rw [e, upd_eq]
        · rw [if_neg e] at hw; rw [upd_ne _ _ e]; exact hm.2.1 w hw
      · by_cases e : j = k
        · rw [if_pos e] at h; simp at h
        · rw [if_neg e] at h; rw [upd_ne _ _ e]; exact hm.2.2.1 h
      · by_cases e : j = k
        · rw [e, upd_eq]
        · rw [if_neg e] at h; rw [upd_ne _ _ e]; exact hm.2.2.2 h
    · rw [nI_1]
      refine ih (i + 1) M1 (by omega) gc ?_
      simp only [prs]
      rw [if_neg hno]; exact gm
theorem m_lp_2 {Λ : Nat → Nat} {M : Mm} {Q : Mm → Prop} (hΛ : inj Λ) (sh : ModSh Λ M) (hQ : ∀ M', Ch (lpS Λ) M M' → (∀ j, j < 40 → gI M' (Λ 415) j = -9 ∧ gI M' (Λ 416) j = 0) → ∃ n, B_X6_layPairs_31 Q n (Λ 400) (0 : Int32) M') :
    ∀ (d i : Nat) (M1 : Mm), i + d = 40 → Ch (lpS Λ) M M1 → (∀ j, j < i → gI M1 (Λ 415) j = -9 ∧ gI M1 (Λ 416) j = 0) → B_X6_layPairs_2 Q (d + 1) (Λ 400) (nI i) M1 := by
  intro d
  induction d with
  | zero =>
    intro i M1 hd gc gz
    unfold B_X6_layPairs_2
    have e : i = 40 := by omega
    subst e
    exact ⟨fun _ => hQ M1 gc gz, fun c => absurd (Int32.le_refl _) c⟩
  | succ d ih =>
    intro i M1 hd gc gz
    unfold B_X6_layPairs_2
    have sh1 := sh.ch gc
    refine ⟨fun c => absurd ((nI_leI (a := 40) (by omega) (by omega)).mp c) (by omega), fun _ => ⟨sh1.1, Λ 415, sh1.r 15 (by omega) (by omega), sh1.a 15 (by omega) (by omega) (show i < 40 by omega), ?_⟩⟩
    rintro _ rfl
    rw [nI_clamp (by omega)]
    have s2 : ModSh Λ (pI M1 (Λ 415) i (-9 : Int32)) := sh1.of rfl
    refine ⟨Λ 416, s2.r 16 (by omega) (by omega), s2.a 16 (by omega) (by omega) (show i < 40 by omega), ?_⟩
    rintro _ rfl
    rw [nI_1]
    refine ih (i + 1) _ (by omega) ((gc.step (Or.inl rfl)).step (Or.inr rfl)) (fun j hj => ?_)
    rw [gI_pI_ne (hΛ.ne (by omega)), gI_pI_eq, gI_pI_eq, gI_pI_ne (hΛ.ne (by omega))]
    by_cases e : j = i
    · rw [e, upd_eq, upd_eq]; exact ⟨rfl, rfl⟩
    · rw [upd_ne _ _ e, upd_ne _ _ e]; exact gz j (by omega)
theorem m_layPairs {Λ : Nat → Nat} {M : Mm} {Q : Mm → Prop} {s : Nat} {μ : Nat → Int} (hΛ : inj Λ) (sh : ModSh Λ M) (hs : s ≤ 40) (h18 : gI M (Λ 400) 18 = nI s) (hμ : ∀ j, j < s → (gI M (Λ 413) j).toInt = μ j ∧ 0 ≤ μ j ∧ μ j ≤ 1000000)
    (hQ : ∀ M', Ch (lpS Λ) M M' → Mp (gI M' (Λ 415)) (gI M' (Λ 416)) (prs (s - 1) (fun j => μ (j + 1) - μ j) (s - 1)) → Q M') : B_X6_layPairs_0 Q (Λ 400) M :=
  ⟨41, m_lp_2 hΛ sh (fun M1 c1 h1 => ⟨s - 1 + 1, m_lp_31 hΛ (sh.ch c1) hs (by rw [c1.2 _ (lpS_not hΛ (by omega))]; exact h18) (fun j hj => by rw [c1.2 _ (lpS_not hΛ (by omega))]; exact hμ j hj) (fun M' c' m' => hQ M' (c1.trans c') m') (s - 1) 0 M1 (by omega) (Ch.refl _ _) (fun j hj => ⟨fun _ => (h1 j hj).1, fun k h => by simp [prs] at h, fun _ => (h1 j hj).2, fun h => by simp [prs] at h⟩)⟩) 40 0 M (by omega) (Ch.refl _ _) (fun j hj => absurd hj (by omega))⟩
