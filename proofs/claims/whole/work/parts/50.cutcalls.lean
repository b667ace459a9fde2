/-! PURE, 30: calls that need a row's cuts -/
def sV (σ : Sg) (r : Nat) : Nat → Int32 := σ.1 (100 + r)
theorem x_bring {Λ : Nat → Nat} {M : Mm} {σ τ : Sg} {N t m : Nat} {Q : Mm → Prop} (h : Inv Λ M σ τ) (rg : Rg σ N) (ht : t < sT σ) (hm : m < 4) (hQ : ∀ M', Inv Λ M' σ τ → RowCut Λ M' (rc t m) (sV σ (4 * t + m)) (sB σ) (sP σ) → Ch (cutS Λ (rc t m)) M M' → Q M') : B_X5_bringUpToDate_0 Q (Λ 0) (some (Λ (rc t m))) M := by
  have hT := rg.2.1.2
  have hB := rg.1.2
  have hP := rg.2.2.1.2
  obtain ⟨_, _, _, _, _, _, _, a8, rs, a9⟩ := x_row_at h rg ht hm
  have hrc : rc t m = 20 + 30 * t + 2 + 7 * m := rfl
  have go : B_X5_bringUpToDate_29 Q (Λ 0) (some (Λ (rc t m))) M := by
    unfold B_X5_bringUpToDate_29
    rw [h.f0, h.f0, rg.1.1, rg.2.2.1.1]
    refine ⟨h.o0, Λ 4, h.sx.2.2.2.2.1.1, h.sx.2.2.2.2.1.2.1, ?_⟩
    refine x_divide (v := sV σ (4 * t + m)) h.hΛ (by omega) h.sx.2.2.2.2.1.2 rs a9.2.1 (rg.2.2.2.2.1 _ (by omega)) hB hP (fun M' c' rC k1 k3 k4 k5 => hQ M' ?_ rC c')
    have nc : ∀ c, ¬ (rc t m ≤ c ∧ c ≤ rc t m + 6) → ¬ (5 ≤ c ∧ c ≤ 8) → gI M' (Λ c) = gI M (Λ c) := fun c h1 h2 => c'.2 _ (cutS_not h.hΛ (by omega))
    refine h.xR (t := t) (m := m) (by omega) hm (by rw [c'.1]) ⟨?_, ?_, fun b hb => ?_, fun _ => ⟨sB σ, sP σ, hB, hP, k4, k5, rC⟩⟩ nc (fun c _ => by rw [c'.J]) rfl (fun _ _ => rfl) (fun _ _ => rfl) (fun _ _ _ => ⟨rfl, rfl⟩) hT
    · rw [k1]; exact a9.1
    · rw [c'.2 _ (cutS_not h.hΛ (by omega))]; exact a9.2.1
    · rw [c'.J]; exact a9.2.2.1 b hb
  unfold B_X5_bringUpToDate_0
  refine ⟨Λ (rc t m), rfl, a8, fun _ => go, fun c3 => ⟨h.o0, fun _ => go, fun c4 => ⟨fun c5 => ?_, fun _ => go⟩⟩⟩
  obtain ⟨B, p, b1, b2, b3, b4, b5⟩ := a9.2.2.2 c3
  rw [h.f0, b3, rg.1.1] at c4
  rw [h.f0, b4, rg.2.2.1.1] at c5
  have eB : B = sB σ := (nI_eq (by omega) (by omega)).mp c4
  have eP : p = sP σ := (nI_eq (by omega) (by omega)).mp c5
  subst eB
  subst eP
  exact hQ M h b5 (Ch.refl _ _)
theorem x_brings_2 {Λ : Nat → Nat} {M : Mm} {σ τ : Sg} {N t : Nat} {Q : Mm → Prop} (rg : Rg σ N) (ht : t < sT σ) (hQ : ∀ M', Inv Λ M' σ τ → gR M' = gR M → (∀ o, o < 4 → ¬ σ.1 21 (4 * t + o) = 0 → RowCut Λ M' (rc t o) (sV σ (4 * t + o)) (sB σ) (sP σ)) → Q M') :
    ∀ (d m : Nat) (M1 : Mm), m + d = 4 → Inv Λ M1 σ τ → gR M1 = gR M → (∀ o, o < m → ¬ σ.1 21 (4 * t + o) = 0 → RowCut Λ M1 (rc t o) (sV σ (4 * t + o)) (sB σ) (sP σ)) → B_X5_bringRowsUpToDate_2 Q (d + 1) (Λ 0) (some (Λ (tc t))) (nI m) M1 := by
  intro d
  induction d with
  | zero =>
    intro m M1 hm h1 gr hC
    unfold B_X5_bringRowsUpToDate_2
    have e : m = 4 := by omega
    subst e
    exact ⟨fun _ => hQ M1 h1 gr hC, fun c => absurd (Int32.le_refl _) c⟩
  | succ d ih =>
    intro m M1 hm h1 gr hC
    unfold B_X5_bringRowsUpToDate_2
    obtain ⟨a1, a2, a3, a4, a5, a6, a7, a8, rs, a9⟩ := x_row_at h1 rg ht (show m < 4 by omega)
    refine ⟨fun c => absurd ((nI_leI (a := 4) (by omega) (by omega)).mp c) (by omega), fun _ => ⟨Λ (tc t), rfl, a4, Λ (tc t + 1), a5, a6, Λ (rc t m), a7, a8, ?_⟩⟩
    rw [a9.1, nI_1, a7]
    refine ⟨fun c => ih (m + 1) M1 (by omega) h1 gr (fun o ho hz => ?_), fun c => ⟨a6, h1.o0, x_bring h1 rg ht (by omega) (fun M2 h2 rC c2 => ih (m + 1) M2 (by omega) h2 (c2.R.trans gr) (fun o ho hz => ?_))⟩⟩
    · by_cases e : o = m
      · subst e; exact absurd c hz
      · exact hC o (by omega) hz
    · by_cases e : o = m
      · subst e; exact rC
      · refine (hC o (by omega) hz).same (fun j hj => c2.2 _ (cutS_not h1.hΛ ?_))
        have := rc_rc (t := t) (m := m) (t' := t) (m' := o) (j := j) (by omega) (by omega) hj (by omega)
        have hrc : rc t o = 20 + 30 * t + 2 + 7 * o := rfl
        omega
theorem x_brings {Λ : Nat → Nat} {M : Mm} {σ τ : Sg} {N t : Nat} {Q : Mm → Prop} (h : Inv Λ M σ τ) (rg : Rg σ N) (ht : t < sT σ) (hQ : ∀ M', Inv Λ M' σ τ → gR M' = gR M → (∀ o, o < 4 → ¬ σ.1 21 (4 * t + o) = 0 → RowCut Λ M' (rc t o) (sV σ (4 * t + o)) (sB σ) (sP σ)) → Q M') : B_X5_bringRowsUpToDate_0 Q (Λ 0) (some (Λ (tc t))) M :=
  ⟨4 + 1, x_brings_2 rg ht hQ 4 0 M (by omega) h rfl (fun o ho => absurd ho (by omega))⟩
/-- the reference cuts: the state stays -/
theorem Inv.yMk {Λ : Nat → Nat} {M M' : Mm} {σ τ : Sg} (h : Inv Λ M σ τ) (hT : sT σ ≤ 8) (k : Mk Λ M M') : Inv Λ M' σ τ := by
  refine h.yC hT (by rw [k.1.1]) (fun j hj fj => ?_) (fun c hc => k.1.2 _ (mcS_not h.hΛ (by omega))) (fun c _ => by rw [k.1.J]) (fun j _ _ => by rw [k.1.J])
  refine k.2 j (fun e => ?_) (fun e => ?_) (fun e => ?_) <;> (subst e; exact absurd fj (by decide))
theorem m_lay_cuts {Λ : Nat → Nat} {M : Mm} {σ τ : Sg} {N r : Nat} {Q : Mm → Prop} (h : Inv Λ M σ τ) (hT : sT σ ≤ 8) (rg : Rg τ N) (hr : r < 32) (hth : ¬ τ.1 21 r = 0) (hQ : ∀ M', Inv Λ M' σ τ → ModCut Λ M' (sV τ r) (sB τ) (sP τ) → Q M') : B_X6_layCuts_0 Q (Λ 400) (nI r) M :=
  m_layCuts (v := sV τ r) h.hΛ h.ms hr rg.1.2 rg.2.2.1.2 ((h.g0 3 (by omega) rfl).trans rg.1.1) ((h.g0 13 (by omega) rfl).trans rg.2.2.1.1) (fun b hb => h.cm.2.2.2.1 r hr hth b hb) (fun M' c' k' mC => hQ M' (h.yMk hT ⟨c', k'⟩) mC)
theorem m_need {Λ : Nat → Nat} {M : Mm} {σ τ : Sg} {N : Nat} {Q : Int32 → Mm → Prop} {x y : Int32} (h : Inv Λ M σ τ) (hT : sT σ ≤ 8) (rg : Rg τ N) (h1 : ¬ isR τ x y → Q (-1) M) (h2 : ∀ M', isR τ x y → τ.1 21 (rx x y) = 0 → Inv Λ M' σ (mt τ 1) → Q (-3) M') (h3 : ∀ t m M', t < sT τ → m < 4 → x = nI t → y = nI m → ¬ τ.1 21 (4 * t + m) = 0 → Inv Λ M' σ τ → ModCut Λ M' (sV τ (4 * t + m)) (sB τ) (sP τ) → Q 0 M') : B_X6_need_0 Q (Λ 400) x y M := by
  unfold B_X6_need_0
  refine ⟨h.m0, m_isRow h rg (fun z => z0' (h1 z)) (fun t m ht hm ex ey => z1' ?_)⟩
  obtain ⟨i1, i2, i3⟩ := isR_nI rg ht hm
  refine m_rowed h hT rg ht hm ex ey h2 (fun z => ?_)
  rw [ex, ey, e4tm]
  exact m_lay_cuts h hT rg i3 z (fun M' h' mC => h3 t m M' ht hm ex ey z h' mC)
/-- the shape of such calls -/
def nd (σ : Sg) (x y : Int32) (f : Nat → Nat → Int32 × Sg) : Int32 × Sg := if isR σ x y then if σ.1 21 (rx x y) = 0 then (-3, mt σ 1) else f (tn x) (tn y) else (-1, σ)
theorem nd_r {σ : Sg} {N : Nat} {x y : Int32} {f : Nat → Nat → Int32 × Sg} (h : Rg σ N) (hf : ∀ t m, t < sT σ → m < 4 → Rg (f t m).2 N) : Rg (nd σ x y f).2 N := by
  unfold nd
  split
  · next c =>
    split
    · exact h.met 1
    · have := c.1.2; have := c.2.2; have := c.1.1; have := c.2.1
      exact hf _ _ (by unfold tn; omega) (by unfold tn; omega)
  · exact h
theorem x_nd {Λ : Nat → Nat} {M : Mm} {σ τ : Sg} {N : Nat} {Q : Int32 → Mm → Prop} {BODY : Nat → Option Nat → Mm → Prop} {x y : Int32} {f : Nat → Nat → Int32 × Sg} (h : Inv Λ M σ τ) (rg : Rg σ N) (hQ : ∀ M', Inv Λ M' (nd σ x y f).2 τ → Q (nd σ x y f).1 M') (h3 : ∀ t m, t < sT σ → m < 4 → x = nI t → y = nI m → ¬ σ.1 21 (4 * t + m) = 0 → (∀ M', Inv Λ M' (f t m).2 τ → Q (f t m).1 M') → BODY (Λ (rc t m)) (some (Λ (rc t m))) M) :
    ok M (Λ 0) 5 ∧ B_X5_findRow_0 (fun r3 M2 => (r3 = none → (ok M2 (Λ 0) 5 ∧ B_X5_refuseRow_0 (fun r M => Q r M) (Λ 0) r3 M2)) ∧ (∀ a4, r3 = some a4 → (ok M2 a4 3 ∧ ((¬ gI M2 a4 1 = 0 → BODY a4 r3 M2) ∧ (gI M2 a4 1 = 0 → (ok M2 (Λ 0) 5 ∧ B_X5_refuseRow_0 (fun r M => Q r M) (Λ 0) r3 M2)))))) (Λ 0) x y M := by
  have hT := rg.2.1.2
  unfold nd at hQ
  refine x_rowed h rg (fun z => ?_) (fun M' z1 z2 h' => ?_) (fun t m ht hm ex ey z => h3 t m ht hm ex ey z ?_)
  · rw [if_neg z] at hQ; exact hQ M h
  · rw [if_pos z1, if_pos z2] at hQ; exact hQ M' h'
  · obtain ⟨i1, i2, i3⟩ := isR_nI rg ht hm
    rw [ex, ey, if_pos i1, i2, if_neg z, tn_nI (by omega), tn_nI (by omega)] at hQ
    exact hQ
theorem m_nd {Λ : Nat → Nat} {M : Mm} {σ τ : Sg} {N : Nat} {Q : Int32 → Mm → Prop} {x y : Int32} {f : Nat → Nat → Int32 × Sg} {B : Int32 → Mm → Prop} (h : Inv Λ M σ τ) (hT : sT σ ≤ 8) (rg : Rg τ N) (hQ : ∀ M', Inv Λ M' σ (nd τ x y f).2 → Q (nd τ x y f).1 M') (hB : ∀ r M', ¬ (0 : Int32) ≤ r → Q r M' → B r M') (h3 : ∀ t m M', t < sT τ → m < 4 → x = nI t → y = nI m → ¬ τ.1 21 (4 * t + m) = 0 → Inv Λ M' σ τ → ModCut Λ M' (sV τ (4 * t + m)) (sB τ) (sP τ) → (∀ M', Inv Λ M' σ (f t m).2 → Q (f t m).1 M') → B 0 M') : ok M (Λ 400) 6 ∧ B_X6_need_0 B (Λ 400) x y M := by
  have hTT := rg.2.1.2
  unfold nd at hQ
  refine ⟨h.m0, m_need h hT rg (fun z => hB _ _ (by decide) ?_) (fun M' z1 z2 h' => hB _ _ (by decide) ?_) (fun t m M' ht hm ex ey z h' mC => h3 t m M' ht hm ex ey z h' mC ?_)⟩
  · rw [if_neg z] at hQ; exact hQ M h
  · rw [if_pos z1, if_pos z2] at hQ; exact hQ M' h'
  · obtain ⟨i1, i2, i3⟩ := isR_nI rg ht hm
    rw [ex, ey, if_pos i1, i2, if_neg z, tn_nI (by omega), tn_nI (by omega)] at hQ
    exact hQ
theorem br3 {A B : Prop} (a : A) : ((0 : Int32) ≤ 0 → A) ∧ (¬ (0 : Int32) ≤ 0 → B) := ⟨fun _ => a, fun c => absurd (Int32.le_refl _) c⟩
theorem br4 {A B : Prop} {r : Int32} (hr : ¬ (0 : Int32) ≤ r) (b : B) : ((0 : Int32) ≤ r → A) ∧ (¬ (0 : Int32) ≤ r → B) := ⟨fun c => absurd c hr, fun _ => b⟩
-- 10 rank
def f_rank (σ : Sg) (b : Int32) (t m : Nat) : Int32 × Sg := if b < 0 ∨ σ.1 0 6 ≤ b then (-3, mt σ 2) else if sV σ (4 * t + m) (tn b) = -9 then (-3, mt σ 4) else (nI (rkv (sV σ (4 * t + m)) (sV σ (4 * t + m) (tn b)) (sB σ)), σ)
theorem x_rank {Λ : Nat → Nat} {M : Mm} {σ τ : Sg} {N : Nat} {Q : Int32 → Mm → Prop} {x y b : Int32} (h : Inv Λ M σ τ) (rg : Rg σ N) (hQ : ∀ M', Inv Λ M' (nd σ x y (f_rank σ b)).2 τ → Q (nd σ x y (f_rank σ b)).1 M') : B_X5_rank_0 Q (Λ 0) x y b M := by
  have hB := rg.1.2
  unfold B_X5_rank_0 B_X5_rank_21 B_X5_rank_43
  refine x_nd h rg hQ (fun t m ht hm ex ey z hQ => ?_)
  obtain ⟨_, _, _, _, _, _, _, a8, rs, a9⟩ := x_row_at h rg ht hm
  unfold f_rank at hQ
  have bad : (b < 0 ∨ σ.1 0 6 ≤ b) → ok M (Λ 0) 5 ∧ B_X5_refuseWith_0 (fun r3 M2 => Q r3 M2) (Λ 0) (2 : Int32) M := fun w => ⟨h.o0, x_refuse 2 h (by omega) (fun M' h' => by rw [if_pos w] at hQ; exact hQ M' h')⟩
  refine x_place (fun d => z0 (bad (d.imp id (fun w => ?_)))) (fun d => z1 ⟨h.o0, ?_⟩)
  · rw [rg.1.1]; rw [le_I] at w ⊢; rw [nI_toInt (by omega)]; rw [show (40 : Int32).toInt = 40 from rfl] at w; omega
  · rw [h.f0]
    refine ⟨fun c => ?_, fun c => bad (Or.inr (Int32.not_lt.mp c))⟩
    rw [if_neg (fun w => w.elim (fun q => d (Or.inl q)) (fun q => absurd c (Int32.not_lt.mpr q)))] at hQ
    have ab : ar M (Λ (rc t m + 1)) 7 b := by rw [(b40 d).1]; exact ar_nI (rs.2.2.1 1 (by omega) (by omega)) (rs.2.2.2.1 1 (by omega) (by omega) (by omega)) (b40 d).2 (by omega)
    refine ⟨a8, Λ (rc t m + 1), rs.2.1.1, ab, ?_⟩
    rw [a9.2.1, show Int32.toNatClampNeg b = tn b from rfl]
    refine ⟨fun e => ⟨ab, ?_⟩, fun e => x_refuse 4 h (by omega) (fun M' h' => ?_)⟩
    · rw [if_neg (show ¬ sV σ (4 * t + m) (tn b) = -9 from e)] at hQ
      rw [rg.1.1]
      exact x_rankOf rs a9.2.1 hB e (hQ M h)
    · rw [if_pos (show sV σ (4 * t + m) (tn b) = -9 from e)] at hQ; exact hQ M' h'
theorem m_rank {Λ : Nat → Nat} {M : Mm} {σ τ : Sg} {N : Nat} {Q : Int32 → Mm → Prop} {x y b : Int32} (h : Inv Λ M σ τ) (hT : sT σ ≤ 8) (rg : Rg τ N) (hQ : ∀ M', Inv Λ M' σ (nd τ x y (f_rank τ b)).2 → Q (nd τ x y (f_rank τ b)).1 M') : B_X6_rank_0 Q (Λ 400) x y b M := by
  have hB := rg.1.2
  unfold B_X6_rank_0
  refine m_nd h hT rg hQ (fun r M' hr q => br4 hr q) (fun t m M1 ht hm ex ey z h1 mC hQ => br3 ⟨h1.m0, ?_⟩)
  unfold f_rank at hQ
  rw [show gI M1 (Λ 400) 3 = τ.1 0 6 from h1.g0 3 (by omega) rfl]
  have hmc := mc_le (sV τ (4 * t + m)) (sB τ)
  have es : (nI (sB τ) - 1).toInt = (sB τ : Int) - 1 := by
    have h1 : (1 : Int32).toInt = 1 := by decide
    rw [subI (by rw [nI_toInt (by omega), h1]; omega) (by rw [nI_toInt (by omega), h1]; omega), nI_toInt (by omega), h1]
  refine m_in (fun c => z0' ⟨h1.m0, m_meets 2 h1 hT (by omega) (fun M' h' => ?_)⟩) (fun c d => z1' ?_)
  · rw [if_pos] at hQ
    · exact hQ M' h'
    · rcases c with c | c
      · exact Or.inl c
      · right; rw [rg.1.1] at c ⊢; rw [lt_I, es] at c; rw [le_I, nI_toInt (by omega)]; omega
  · rw [rg.1.1, lt_I, es] at d
    have c' : ¬ b.toInt < 0 := fun w => c (lt_I.mpr w)
    rw [if_neg (by intro w; rcases w with w | w; exact c w; rw [rg.1.1, le_I, nI_toInt (by omega)] at w; omega)] at hQ
    have eb := nI_tn (x := b) (by omega)
    have lb : tn b < sB τ := by unfold tn; omega
    have key : ∀ (dd k : Nat), k + dd = mc (sV τ (4 * t + m)) (sB τ) → (∀ i, i < k → mp (sV τ (4 * t + m)) (sB τ) i ≠ tn b) → B_X6_rank_39 Q (dd + 1) (Λ 400) b (nI k) M1 := by
      intro dd
      induction dd with
      | zero =>
        intro k hk hno
        unfold B_X6_rank_39
        rw [mC.1]
        have e : k = mc (sV τ (4 * t + m)) (sB τ) := by omega
        refine ⟨h1.m0, fun _ => m_meets 4 h1 hT (by omega) (fun M' h' => ?_), fun w => absurd ((nI_leI (by omega) (by omega)).mpr (by omega)) w⟩
        rw [if_pos] at hQ
        · exact hQ M' h'
        · apply Classical.byContradiction
          intro w
          have := mp_mc (sV τ (4 * t + m)) (sB τ) (tn b) lb w
          have hlt : mc (sV τ (4 * t + m)) (tn b) < mc (sV τ (4 * t + m)) (sB τ) := by
            have h2 := mc_mono (sV τ (4 * t + m)) (show tn b + 1 ≤ sB τ by omega)
            have h3 : mc (sV τ (4 * t + m)) (tn b + 1) = mc (sV τ (4 * t + m)) (tn b) + 1 := by show _ + (if _ then 0 else 1) = _; rw [if_neg w]
            omega
          exact hno _ (by omega) this
      | succ dd ih =>
        intro k hk hno
        unfold B_X6_rank_39
        rw [mC.1]
        have kk := mC.2.1 k (by omega)
        have hs := mp_spec (sV τ (4 * t + m)) (sB τ) k (by omega)
        refine ⟨h1.m0, fun w => absurd ((nI_leI (by omega) (by omega)).mp w) (by omega), fun _ => ⟨Λ 406, h1.ms.r 6 (by omega) (by omega), h1.ms.a 6 (by omega) (by omega) (show k < 40 by omega), ?_⟩⟩
        rw [nI_clamp (by omega), kk.1]
        refine ⟨fun w => ?_, fun w => ⟨Λ 408, h1.ms.r 8 (by omega) (by omega), h1.ms.a 8 (by omega) (by omega) (show k < 40 by omega), ?_⟩⟩
        · rw [nI_1]
          refine ih (k + 1) (by omega) (fun i hi => ?_)
          by_cases e : i = k
          · subst e; intro q; apply w; rw [q, ← eb]
          · exact hno i (by omega)
        · have e : mp (sV τ (4 * t + m)) (sB τ) k = tn b := by rw [eb] at w; exact (nI_eq (by omega) (by omega)).mp w
          rw [if_neg (by rw [← e]; exact hs.2.1)] at hQ
          rw [kk.2.2]
          unfold rk
          rw [e]
          exact hQ M1 h1
    exact ⟨mc (sV τ (4 * t + m)) (sB τ) + 1, key _ 0 (by omega) (fun i hi => absurd hi (by omega))⟩
theorem r_rank {σ : Sg} {N : Nat} {x y b : Int32} (h : Rg σ N) : Rg (nd σ x y (f_rank σ b)).2 N := nd_r h (fun t m _ _ => by
  unfold f_rank
  split
  · exact h.met 2
  · split
    · exact h.met 4
    · exact h)
-- 11 mean
def smI (v : Nat → Int32) : Nat → Int32
  | 0 => 0
  | b + 1 => if v b = -9 then smI v b else smI v b + v b
def pmI (v : Nat → Int32) (B : Nat) : Nat → Int32
  | 0 => 0
  | k + 1 => pmI v B k + v (mp v B k)
theorem pmI_smI (v : Nat → Int32) {B : Nat} : ∀ b, b ≤ B → pmI v B (mc v b) = smI v b
  | 0, _ => rfl
  | b + 1, h => by
    have ih := pmI_smI v (B := B) b (by omega)
    show pmI v B (mc v b + (if v b = -9 then 0 else 1)) = if v b = -9 then smI v b else smI v b + v b
    by_cases c : v b = -9
    · rw [if_pos c, if_pos c]; exact ih
    · rw [if_neg c, if_neg c]
      show pmI v B (mc v b) + v (mp v B (mc v b)) = _
      rw [ih, mp_mc v B b (by omega) c]
def f_mean (σ : Sg) (t m : Nat) : Int32 × Sg := if mc (sV σ (4 * t + m)) (sB σ) = 0 then (-3, mt σ 4) else (smI (sV σ (4 * t + m)) (sB σ) / nI (mc (sV σ (4 * t + m)) (sB σ)), σ)
theorem x_mean {Λ : Nat → Nat} {M : Mm} {σ τ : Sg} {N : Nat} {Q : Int32 → Mm → Prop} {x y : Int32} (h : Inv Λ M σ τ) (rg : Rg σ N) (hQ : ∀ M', Inv Λ M' (nd σ x y (f_mean σ)).2 τ → Q (nd σ x y (f_mean σ)).1 M') : B_X5_mean_0 Q (Λ 0) x y M := by
  have hB := rg.1.2
  unfold B_X5_mean_0 B_X5_mean_18
  refine x_nd h rg hQ (fun t m ht hm ex ey z hQ => ?_)
  obtain ⟨_, _, _, _, _, _, _, a8, rs, a9⟩ := x_row_at h rg ht hm
  unfold f_mean at hQ
  have key : ∀ (d b : Nat), b + d = sB σ → B_X5_mean_33 Q (d + 1) (Λ 0) (some (Λ (rc t m))) (smI (sV σ (4 * t + m)) b) (nI (mc (sV σ (4 * t + m)) b)) (nI b) M := by
    intro d
    induction d with
    | zero =>
      intro b hb
      unfold B_X5_mean_33
      have e : b = sB σ := by omega
      subst e
      have hmc := mc_le (sV σ (4 * t + m)) (sB σ)
      rw [h.f0, rg.1.1]
      refine ⟨h.o0, fun _ => ⟨fun c => ⟨c, ?_⟩, fun c => x_refuse 4 h (by omega) (fun M' h' => ?_)⟩, fun c => absurd (Int32.le_refl _) c⟩
      · rw [if_neg (fun w => c (by rw [w]; rfl))] at hQ; exact hQ M h
      · rw [if_pos ((nI_eq (b := 0) (by omega) (by omega)).mp c)] at hQ; exact hQ M' h'
    | succ d ih =>
      intro b hb
      unfold B_X5_mean_33
      rw [h.f0, rg.1.1]
      have ab : ar M (Λ (rc t m + 1)) 7 (nI b) := ar_nI (rs.2.2.1 1 (by omega) (by omega)) (rs.2.2.2.1 1 (by omega) (by omega) (by omega)) (by omega) (by omega)
      refine ⟨h.o0, fun c => absurd ((nI_leI (by omega) (by omega)).mp c) (by omega), fun _ => ⟨Λ (rc t m), rfl, a8, Λ (rc t m + 1), rs.2.1.1, ab, ?_⟩⟩
      rw [a9.2.1, nI_clamp (by omega), nI_1]
      have := ih (b + 1) (by omega)
      rw [smI, mc] at this
      refine ⟨fun c => ?_, fun c => ⟨ab, ?_⟩⟩
      · have c' : sV σ (4 * t + m) b = -9 := c
        rw [if_pos c', if_pos c', Nat.add_zero] at this; exact this
      · have c' : ¬ sV σ (4 * t + m) b = -9 := c
        rw [if_neg c', if_neg c'] at this; rw [nI_1]; exact this
  exact ⟨sB σ + 1, key (sB σ) 0 (by omega)⟩
theorem m_mean {Λ : Nat → Nat} {M : Mm} {σ τ : Sg} {N : Nat} {Q : Int32 → Mm → Prop} {x y : Int32} (h : Inv Λ M σ τ) (hT : sT σ ≤ 8) (rg : Rg τ N) (hQ : ∀ M', Inv Λ M' σ (nd τ x y (f_mean τ)).2 → Q (nd τ x y (f_mean τ)).1 M') : B_X6_mean_0 Q (Λ 400) x y M := by
  have hB := rg.1.2
  unfold B_X6_mean_0
  refine m_nd h hT rg hQ (fun r M' hr q => br4 hr q) (fun t m M1 ht hm ex ey z h1 mC hQ => br3 ?_)
  unfold f_mean at hQ
  have hmc := mc_le (sV τ (4 * t + m)) (sB τ)
  have key : ∀ (d k : Nat), k + d = mc (sV τ (4 * t + m)) (sB τ) → B_X6_mean_19 Q (d + 1) (Λ 400) (pmI (sV τ (4 * t + m)) (sB τ) k) (nI k) M1 := by
    intro d
    induction d with
    | zero =>
      intro k hk
      unfold B_X6_mean_19
      have e : k = mc (sV τ (4 * t + m)) (sB τ) := by omega
      rw [mC.1]
      subst e
      rw [pmI_smI _ _ (Nat.le_refl _)]
      refine ⟨h1.m0, fun _ => ⟨fun c => ⟨c, ?_⟩, fun c => m_meets 4 h1 hT (by omega) (fun M' h' => ?_)⟩, fun c => absurd (Int32.le_refl _) c⟩
      · rw [if_neg (fun w => c (by rw [w]; rfl))] at hQ; exact hQ M1 h1
      · rw [if_pos ((nI_eq (b := 0) (by omega) (by omega)).mp c)] at hQ; exact hQ M' h'
    | succ d ih =>
      intro k hk
      unfold B_X6_mean_19
      rw [mC.1]
      refine ⟨h1.m0, fun c => absurd ((nI_leI (by omega) (by omega)).mp c) (by omega), fun _ => ⟨Λ 407, h1.ms.r 7 (by omega) (by omega), h1.ms.a 7 (by omega) (by omega) (show k < 40 by omega), ?_⟩⟩
      rw [nI_clamp (by omega), (mC.2.1 k (by omega)).2.1, nI_1]
      exact ih (k + 1) (by omega)
  exact ⟨mc (sV τ (4 * t + m)) (sB τ) + 1, key _ 0 (by omega)⟩
theorem r_mean {σ : Sg} {N : Nat} {x y : Int32} (h : Rg σ N) : Rg (nd σ x y (f_mean σ)).2 N := nd_r h (fun t m _ _ => by
  unfold f_mean
  split
  · exact h.met 4
  · exact h)
