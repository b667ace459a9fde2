/-! PURE, 29: copy -/
abbrev cpG (i n : Int32) : Prop := 0 ≤ i.toInt ∧ i.toInt + n.toInt ≤ 40
def s_copy (σ : Sg) (x y i o j n : Int32) : Int32 × Sg := if isR σ x y ∧ isR σ x o then if n < 0 then (-3, mt σ 5) else if σ.1 21 (rx x y) = 0 ∨ σ.1 21 (rx x o) = 0 then (-3, mt σ 1) else if cpG i n ∧ cpG j n then (1, uA σ (100 + rx x o) (va_cpy (σ.1 (100 + rx x y)) (σ.1 (100 + rx x o)) (tn i) (tn j) (tn n))) else (-3, mt σ 2) else (-1, σ)
theorem x_holds {M : Mm} {Q : Int32 → Mm → Prop} {i n : Int32} (hn : 0 ≤ n.toInt) (h0 : ¬ cpG i n → Q 0 M) (h1 : cpG i n → Q 1 M) : B_X5_holds_0 Q i n M := by
  unfold B_X5_holds_0
  refine x_within (fun c => z0 (h0 (fun w => ?_))) (fun c d => z1 ?_)
  · rcases c with c | c
    · rw [lt_I] at c; exact absurd w.1 (Int.not_le.mpr c)
    · rw [lt_I, show (40 : Int32).toInt = 40 from rfl] at c; have := w.2; omega
  · have c' : ¬ i.toInt < 0 := fun z => c (lt_I.mpr z)
    have d' : ¬ (40 : Int) < i.toInt := fun z => d (lt_I.mpr z)
    have e : ((40 : Int32) - i).toInt = 40 - i.toInt := by
      rw [subI (by rw [show (40 : Int32).toInt = 40 from rfl]; omega) (by rw [show (40 : Int32).toInt = 40 from rfl]; omega)]; rfl
    rw [lt_I, e]
    exact ⟨fun z => h0 (fun w => by have := w.2; omega), fun z => h1 ⟨by omega, by omega⟩⟩
theorem x_copy {Λ : Nat → Nat} {M : Mm} {σ τ : Sg} {N : Nat} {Q : Int32 → Mm → Prop} {x y i o j n : Int32} (h : Inv Λ M σ τ) (rg : Rg σ N) (hQ : ∀ M', Inv Λ M' (s_copy σ x y i o j n).2 τ → Q (s_copy σ x y i o j n).1 M') : B_X5_copy_0 Q (Λ 0) x y i o j n M := by
  have hT := rg.2.1.2
  unfold s_copy at hQ
  unfold B_X5_copy_0 B_X5_copy_56 B_X5_copy_81
  have bad : ¬ (isR σ x y ∧ isR σ x o) → Q (-1) M := fun z => by rw [if_neg z] at hQ; exact hQ M h
  refine ⟨h.o0, x_findRow h rg (fun z => ⟨h.o0, ?_⟩) (fun t m ht hm ex ey => ⟨h.o0, ?_⟩)⟩
  · exact x_findRow h rg (fun _ => ⟨fun _ => bad (fun w => z w.1), fun _ e => by cases e⟩) (fun _ _ _ _ _ _ => ⟨fun _ => bad (fun w => z w.1), fun _ e => by cases e⟩)
  · refine x_findRow h rg (fun z => ⟨fun e => (by cases e), fun a ea => ⟨fun _ => bad (fun w => z w.2), fun _ e => by cases e⟩⟩) (fun t' m' ht' hm' ex' ey' => ⟨fun e => (by cases e), fun a ea => ⟨fun e => (by cases e), fun a' ea' => ?_⟩⟩)
    cases ea
    cases ea'
    have ett : t' = t := by rw [ex] at ex'; exact ((nI_eq (by omega) (by omega)).mp ex').symm
    subst ett
    obtain ⟨_, _, _, _, _, _, _, a8, rs, a9⟩ := x_row_at h rg ht hm
    obtain ⟨_, _, _, _, _, _, _, b8, rs', b9⟩ := x_row_at h rg ht hm'
    obtain ⟨i1, i2, i3⟩ := isR_nI rg ht hm
    obtain ⟨j1, j2, j3⟩ := isR_nI rg ht hm'
    rw [← ex, ← ey] at i1 i2
    rw [← ex, ← ey'] at j1 j2
    rw [if_pos ⟨i1, j1⟩, i2, j2] at hQ
    rw [a9.1, b9.1]
    refine ⟨fun c => ?_, fun c => ⟨h.o0, x_refuse 5 h (by omega) (fun M' h' => ?_)⟩⟩
    · have hn : 0 ≤ n.toInt := le_I.mp c
      rw [if_neg (Int32.not_lt.mpr c)] at hQ
      refine ⟨a8, fun c1 => ⟨h.o0, x_refuse 1 h (by omega) (fun M' h' => by rw [if_pos (Or.inl c1)] at hQ; exact hQ M' h')⟩, fun c1 => ⟨b8, fun c2 => ?_, fun c2 => ⟨h.o0, x_refuse 1 h (by omega) (fun M' h' => by rw [if_pos (Or.inr c2)] at hQ; exact hQ M' h')⟩⟩⟩
      rw [if_neg (fun w => w.elim c1 c2)] at hQ
      have bad2 : ¬ (cpG i n ∧ cpG j n) → ok M (Λ 0) 5 ∧ B_X5_refuseWith_0 (fun r3 M2 => Q r3 M2) (Λ 0) (2 : Int32) M := fun w => ⟨h.o0, x_refuse 2 h (by omega) (fun M' h' => by rw [if_neg w] at hQ; exact hQ M' h')⟩
      refine x_holds hn (fun d => z0 (bad2 (fun w => d w.1))) (fun d1 => z1 (x_holds hn (fun d => z0' (bad2 (fun w => d w.2))) (fun d2 => z1' ?_)))
      rw [if_pos ⟨d1, d2⟩] at hQ
      have o1 := rs.2.2.1 1 (by omega) (by omega)
      have o2 := rs'.2.2.1 1 (by omega) (by omega)
      have l1 := rs.2.2.2.1 1 (by omega) (by omega) (by omega)
      have l2 := rs'.2.2.2.1 1 (by omega) (by omega) (by omega)
      have di := d1.1
      have dj := d2.1
      have di2 := d1.2
      have dj2 := d2.2
      refine ⟨a8, b8, Λ (rc t' m + 1), rs.2.1.1, Λ (rc t' m' + 1), rs'.2.1.1, o1, o2, fun w => absurd (lt_I.mp w) (Int.not_lt.mpr di), fun w => absurd (lt_I.mp w) (Int.not_lt.mpr dj), fun w => absurd (lt_I.mp w) (Int.not_lt.mpr hn), ?_, ?_, ?_⟩
      · rw [l1]; show i.toInt.toNat + n.toInt.toNat ≤ 40; omega
      · rw [l2]; show j.toInt.toNat + n.toInt.toNat ≤ 40; omega
      · rintro _ rfl _ rfl
        refine hQ _ ?_
        have n1 : Λ (rc t' m' + 1) ≠ Λ (rc t' m') := h.hΛ.ne (by omega)
        have h' := h.xV (M' := pI (cI M (Λ (rc t' m + 1)) (Λ (rc t' m' + 1)) (tn i) (tn j) (tn n)) (Λ (rc t' m')) 3 1) (f := va_cpy (σ.1 (100 + (4 * t' + m))) (σ.1 (100 + (4 * t' + m'))) (tn i) (tn j) (tn n)) (w := σ.1 21 (4 * t' + m')) rg (by omega) hm' rfl (fun c h1 h2 => by
            rw [gI_pI_ne (h.hΛ.ne h1)]; funext q; rw [gI_cI, if_neg (h.hΛ.ne h2)]) (by rw [gI_pI_eq, upd_ne _ _ (by omega), gI_cI, if_neg (Ne.symm n1)]; exact b9.1) (by rw [gI_pI_eq, upd_eq]) (by rw [gI_pI_ne n1]; funext q; rw [gI_cI, if_pos rfl, a9.2.1, b9.2.1]) b9
        have es : σ.1 21 (4 * t' + m') = (uA σ (100 + (4 * t' + m')) (va_cpy (σ.1 (100 + (4 * t' + m))) (σ.1 (100 + (4 * t' + m'))) (tn i) (tn j) (tn n))).1 21 (4 * t' + m') := by rw [uA_ne _ _ (by omega)]
        rw [es, uI_self] at h'
        exact h'
    · rw [if_pos (Int32.not_le.mp c)] at hQ; exact hQ M' h'
theorem e40rib (r i b : Nat) : (((40 : Int32) * nI r) + nI i) + nI b = nI (40 * r + i + b) := by rw [e40rb, nI_add]
theorem m_cp_118 {Λ : Nat → Nat} {M : Mm} {Q : Int32 → Mm → Prop} {x5 x8 : Int32} {r i n : Nat} (hΛ : inj Λ) (sh : ModSh Λ M) (hr : r < 32) (hi : i + n ≤ 40) (hQ : ∀ M', Ch (fun b => b = Λ 405) M M' → (∀ a, a < n → gI M' (Λ 405) a = gI M (Λ 404) (40 * r + i + a)) → ∃ n2, B_X6_copy_156 Q n2 (Λ 400) x5 (nI n) x8 (0 : Int32) M') :
    ∀ (d k : Nat) (M1 : Mm), k + d = n → Ch (fun b => b = Λ 405) M M1 → (∀ a, a < k → gI M1 (Λ 405) a = gI M (Λ 404) (40 * r + i + a)) → B_X6_copy_118 Q (d + 1) (Λ 400) (nI i) x5 (nI n) (nI r) x8 (nI k) M1 := by
  intro d
  induction d with
  | zero =>
    intro k M1 hk gc g1
    unfold B_X6_copy_118
    have e : k = n := by omega
    subst e
    exact ⟨fun _ => hQ M1 gc g1, fun c => absurd (Int32.le_refl _) c⟩
  | succ d ih =>
    intro k M1 hk gc g1
    unfold B_X6_copy_118
    have sh1 := sh.ch gc
    rw [e40rib]
    refine ⟨fun c => absurd ((nI_leI (by omega) (by omega)).mp c) (by omega), fun _ => ⟨sh1.1, Λ 404, sh1.r 4 (by omega) (by omega), sh1.a 4 (by omega) (by omega) (show 40 * r + i + k < 1280 by omega), Λ 405, sh1.r 5 (by omega) (by omega), sh1.a 5 (by omega) (by omega) (show k < 40 by omega), ?_⟩⟩
    rintro _ rfl
    rw [nI_clamp (by omega), nI_clamp (by omega), nI_1]
    refine ih (k + 1) _ (by omega) (gc.step rfl) (fun a ha => ?_)
    rw [gI_pI_eq]
    by_cases e : a = k
    · rw [e, upd_eq, gc.2 _ (hΛ.ne (by omega))]
    · rw [upd_ne _ _ e]; exact g1 a (by omega)
theorem m_cp_156 {Λ : Nat → Nat} {M : Mm} {Q : Int32 → Mm → Prop} {s j n : Nat} (hΛ : inj Λ) (sh : ModSh Λ M) (hs : s < 32) (hj : j + n ≤ 40) (hQ : ∀ M', Ch (fun b => b = Λ 404) M M' → (∀ q, gI M' (Λ 404) q = if 40 * s + j ≤ q ∧ q < 40 * s + j + n then gI M (Λ 405) (q - (40 * s + j)) else gI M (Λ 404) q) → Q 1 M') :
    ∀ (d k : Nat) (M1 : Mm), k + d = n → Ch (fun b => b = Λ 404) M M1 → (∀ q, gI M1 (Λ 404) q = if 40 * s + j ≤ q ∧ q < 40 * s + j + k then gI M (Λ 405) (q - (40 * s + j)) else gI M (Λ 404) q) → B_X6_copy_156 Q (d + 1) (Λ 400) (nI j) (nI n) (nI s) (nI k) M1 := by
  intro d
  induction d with
  | zero =>
    intro k M1 hk gc g1
    unfold B_X6_copy_156
    have e : k = n := by omega
    subst e
    exact ⟨fun _ => hQ M1 gc g1, fun c => absurd (Int32.le_refl _) c⟩
  | succ d ih =>
    intro k M1 hk gc g1
    unfold B_X6_copy_156
    have sh1 := sh.ch gc
    rw [e40rib]
    refine ⟨fun c => absurd ((nI_leI (by omega) (by omega)).mp c) (by omega), fun _ => ⟨sh1.1, Λ 405, sh1.r 5 (by omega) (by omega), sh1.a 5 (by omega) (by omega) (show k < 40 by omega), Λ 404, sh1.r 4 (by omega) (by omega), sh1.a 4 (by omega) (by omega) (show 40 * s + j + k < 1280 by omega), ?_⟩⟩
    rintro _ rfl
    rw [nI_clamp (by omega), nI_clamp (by omega), nI_1]
    refine ih (k + 1) _ (by omega) (gc.step rfl) (fun q => ?_)
    rw [gI_pI_eq]
    by_cases e : q = 40 * s + j + k
    · rw [e, upd_eq, if_pos (by omega), gc.2 _ (hΛ.ne (by omega)), show 40 * s + j + k - (40 * s + j) = k by omega]
    · rw [upd_ne _ _ e, g1 q]
      by_cases e2 : 40 * s + j ≤ q ∧ q < 40 * s + j + k
      · rw [if_pos e2, if_pos (by omega)]
      · rw [if_neg e2, if_neg (by omega)]
theorem m_copy {Λ : Nat → Nat} {M : Mm} {σ τ : Sg} {N : Nat} {Q : Int32 → Mm → Prop} {x y i o j n : Int32} (h : Inv Λ M σ τ) (hT : sT σ ≤ 8) (rg : Rg τ N) (hQ : ∀ M', Inv Λ M' σ (s_copy τ x y i o j n).2 → Q (s_copy τ x y i o j n).1 M') : B_X6_copy_0 Q (Λ 400) x y i o j n M := by
  have hTT := rg.2.1.2
  unfold s_copy at hQ
  unfold B_X6_copy_0 B_X6_copy_67 B_X6_copy_109
  have bad : ¬ (isR τ x y ∧ isR τ x o) → Q (-1) M := fun z => by rw [if_neg z] at hQ; exact hQ M h
  refine ⟨h.m0, m_isRow h rg (fun z => z0 (bad (fun w => z w.1))) (fun t m ht hm ex ey => z1 ⟨h.m0, ?_⟩)⟩
  refine m_isRow h rg (fun z => z0' (bad (fun w => z w.2))) (fun t' m' ht' hm' ex' ey' => z1' ?_)
  have ett : t' = t := by rw [ex] at ex'; exact ((nI_eq (by omega) (by omega)).mp ex').symm
  subst ett
  obtain ⟨i1, i2, i3⟩ := isR_nI rg ht hm
  obtain ⟨j1, j2, j3⟩ := isR_nI rg ht hm'
  rw [← ex, ← ey] at i1 i2
  rw [← ex, ← ey'] at j1 j2
  rw [if_pos ⟨i1, j1⟩, i2, j2] at hQ
  have e1 : ((4 : Int32) * x) + y = nI (4 * t' + m) := by rw [ex, ey, e4tm]
  have e2 : ((4 : Int32) * x) + o = nI (4 * t' + m') := by rw [ex, ey', e4tm]
  rw [e1, e2]
  have r3 := h.ms.r 3 (by omega) (by omega)
  have a3 := h.ms.a 3 (by omega) (by omega) (show 4 * t' + m < 32 from i3)
  have a3' := h.ms.a 3 (by omega) (by omega) (show 4 * t' + m' < 32 from j3)
  refine ⟨fun c => ⟨h.m0, Λ 403, r3, a3, ?_⟩, fun c => ⟨h.m0, m_meets 5 h hT (by omega) (fun M' h' => ?_)⟩⟩
  · have hn : 0 ≤ n.toInt := le_I.mp c
    rw [if_neg (Int32.not_lt.mpr c)] at hQ
    rw [nI_clamp (n := 4 * t' + m) (by omega), nI_clamp (n := 4 * t' + m') (by omega), h.cm.2.2.1.2.2.2]
    refine ⟨fun c1 => ⟨h.m0, m_meets 1 h hT (by omega) (fun M' h' => by rw [if_pos (Or.inl c1)] at hQ; exact hQ M' h')⟩, fun c1 => ⟨a3', fun c2 => ?_, fun c2 => ⟨h.m0, m_meets 1 h hT (by omega) (fun M' h' => by rw [if_pos (Or.inr c2)] at hQ; exact hQ M' h')⟩⟩⟩
    rw [if_neg (fun w => w.elim c1 c2)] at hQ
    have bad2 : ¬ (cpG i n ∧ cpG j n) → ok M (Λ 400) 6 ∧ B_X6_meets_0 (fun r3 M2 => Q r3 M2) (Λ 400) (2 : Int32) M := fun w => ⟨h.m0, m_meets 2 h hT (by omega) (fun M' h' => by rw [if_neg w] at hQ; exact hQ M' h')⟩
    have lg : ∀ k : Int32, 0 < lg_cmp (Int32.toInt64 k + Int32.toInt64 n) (40 : Int64) ↔ 40 < k.toInt + n.toInt := fun k => by
      have rk := rngI k
      have rn := rngI n
      rw [lgt, addL (by rw [i64, i64]; omega) (by rw [i64, i64]; omega), i64, i64]; rfl
    refine ⟨fun d => bad2 (fun w => absurd w.1.1 (Int.not_le.mpr (lt_I.mp d))), fun d1 => ⟨fun d => bad2 (fun w => absurd w.2.1 (Int.not_le.mpr (lt_I.mp d))), fun d2 => ⟨fun d => bad2 (fun w => ?_), fun d3 => ⟨fun d4 => ?_, fun d => bad2 (fun w => ?_)⟩⟩⟩⟩
    · have := (lg i).mp d; have := w.1.2; omega
    · have d1' : ¬ i.toInt < 0 := fun z => d1 (lt_I.mpr z)
      have d2' : ¬ j.toInt < 0 := fun z => d2 (lt_I.mpr z)
      have d3' : ¬ 40 < i.toInt + n.toInt := fun z => d3 ((lg i).mpr z)
      have d4' : ¬ 40 < j.toInt + n.toInt := fun z => absurd ((lg j).mpr z) (Int32.not_lt.mpr d4)
      rw [if_pos ⟨⟨by omega, by omega⟩, by omega, by omega⟩] at hQ
      have ei := nI_tn (x := i) (by omega)
      have ej := nI_tn (x := j) (by omega)
      have en := nI_tn (x := n) (by omega)
      have li : tn i + tn n ≤ 40 := by unfold tn; omega
      have lj : tn j + tn n ≤ 40 := by unfold tn; omega
      have goal : ∃ n20, B_X6_copy_118 Q n20 (Λ 400) (nI (tn i)) (nI (tn j)) (nI (tn n)) (nI (4 * t' + m)) (nI (4 * t' + m')) (0 : Int32) M := by
        refine ⟨tn n + 1, m_cp_118 h.hΛ h.ms i3 li (fun M1 c1' f1 => ⟨tn n + 1, ?_⟩) (tn n) 0 M (by omega) (Ch.refl _ _) (fun a ha => absurd ha (by omega))⟩
        refine m_cp_156 h.hΛ (h.ms.ch c1') j3 lj (fun M2 c2' f2 => ?_) (tn n) 0 M1 (by omega) (Ch.refl _ _) (fun q => by rw [if_neg (by omega)])
        refine hQ _ ?_
        have n45 : Λ 404 ≠ Λ 405 := h.hΛ.ne (by omega)
        have h' := h.yV (M' := M2) (f := va_cpy (τ.1 (100 + (4 * t' + m))) (τ.1 (100 + (4 * t' + m'))) (tn i) (tn j) (tn n)) (w := τ.1 21 (4 * t' + m')) hT rg j3 (c2'.1.trans c1'.1) (fun c h1 h2 h3 => by rw [c2'.2 _ (h.hΛ.ne h2), c1'.2 _ (h.hΛ.ne h3)]) (by rw [c2'.2 _ (h.hΛ.ne (by omega)), c1'.2 _ (h.hΛ.ne (by omega)), h.cm.2.2.1.2.2.2, upd_self]) (fun _ b hb => ?_) (fun q hq z => ?_)
        · have es : τ.1 21 (4 * t' + m') = (uA τ (100 + (4 * t' + m')) (va_cpy (τ.1 (100 + (4 * t' + m))) (τ.1 (100 + (4 * t' + m'))) (tn i) (tn j) (tn n))).1 21 (4 * t' + m') := by rw [uA_ne _ _ (by omega)]
          rw [es, uI_self] at h'
          exact h'
        · rw [f2]
          by_cases w : tn j ≤ b ∧ b < tn j + tn n
          · rw [if_pos (by omega), pk_cpy_in w.1 w.2, f1 _ (by omega), show 40 * (4 * t' + m) + tn i + (40 * (4 * t' + m') + b - (40 * (4 * t' + m') + tn j)) = 40 * (4 * t' + m) + (tn i + (b - tn j)) by omega]
            exact h.cm.2.2.2.1 _ i3 c1 _ (by omega)
          · rw [if_neg (by omega), pk_cpy_out (by omega), c1'.2 _ n45]
            exact h.cm.2.2.2.1 _ j3 c2 _ hb
        · rw [f2, if_neg (by omega), c1'.2 _ n45]
      rw [← ei, ← ej, ← en] at goal
      exact goal
    · have : 40 < j.toInt + n.toInt := (lg j).mp (Int32.not_le.mp d)
      have := w.2.2; omega
  · rw [if_pos (Int32.not_le.mp c)] at hQ; exact hQ M' h'
theorem rg_copy {σ : Sg} {N : Nat} {x y i o j n : Int32} (h : Rg σ N) : Rg (s_copy σ x y i o j n).2 N := by
  have hT := h.2.1.2
  unfold s_copy
  split
  · next c =>
    have l1 := isR_lt c.1
    have l2 := isR_lt c.2
    split
    · exact h.met 5
    · next c5 =>
      split
      · exact h.met 1
      · split
        · next c3 =>
          refine h.vals1 l2 (fun b hb => ?_)
          have c5' : ¬ n.toInt < 0 := fun z => c5 (lt_I.mpr z)
          have q1 := c3.1.1; have q2 := c3.1.2
          by_cases w : tn j ≤ b ∧ b < tn j + tn n
          · rw [pk_cpy_in w.1 w.2]; exact h.2.2.2.2.1 _ (by omega) _ (by unfold tn at *; omega)
          · rw [pk_cpy_out (by omega)]; exact h.2.2.2.2.1 _ (by omega) b hb
        · exact h.met 2
  · exact h
