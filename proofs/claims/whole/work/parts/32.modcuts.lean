/-! PURE, 12: the reference's table and spans -/
theorem m_lc_154 {Λ : Nat → Nat} {K32 : Nat → Int32 → Mm → Prop} {K48 : Nat → Int32 → Int32 → Mm → Prop} {Q : Mm → Prop} {x3 x4 x5 : Int32} {i : Nat} {M : Mm} (hi : i < 41) (sh : ModSh Λ M) (h : K48 (Λ 400) (nI i) (x3 + 1) (pI (pI (pI M (Λ 409) i x4) (Λ 410) i x5) (Λ 411) i x3)) : B_X6_layCuts_154 Q K32 K48 (Λ 400) (nI i) x3 x4 x5 M := by
  refine ⟨sh.1, Λ 409, sh.r 9 (by omega) (by omega), sh.a 9 (by omega) (by omega) (show i < 41 by omega), ?_⟩
  rintro _ rfl
  rw [nI_clamp (by omega)]
  have s2 : ModSh Λ (pI M (Λ 409) i x4) := sh.of rfl
  refine ⟨Λ 410, s2.r 10 (by omega) (by omega), s2.a 10 (by omega) (by omega) (show i < 41 by omega), ?_⟩
  rintro _ rfl
  have s3 : ModSh Λ (pI (pI M (Λ 409) i x4) (Λ 410) i x5) := sh.of rfl
  refine ⟨Λ 411, s3.r 11 (by omega) (by omega), s3.a 11 (by omega) (by omega) (show i < 41 by omega), ?_⟩
  rintro _ rfl
  exact h
theorem m_lc_108 {Λ : Nat → Nat} {K32 : Nat → Int32 → Mm → Prop} {K48 : Nat → Int32 → Int32 → Mm → Prop} {Q : Mm → Prop} {x3 x4 s0 : Int32} {i : Nat} {M : Mm} (hi : i < 41) (sh : ModSh Λ M)
    (hT : (gI M (Λ 411) i = -9 ∨ x4.toInt < (gI M (Λ 409) i).toInt ∨ (x4.toInt = (gI M (Λ 409) i).toInt ∧ s0.toInt < (gI M (Λ 410) i).toInt)) → K48 (Λ 400) (nI i) (x3 + 1) (pI (pI (pI M (Λ 409) i x4) (Λ 410) i s0) (Λ 411) i x3))
    (hF : ¬ (gI M (Λ 411) i = -9 ∨ x4.toInt < (gI M (Λ 409) i).toInt ∨ (x4.toInt = (gI M (Λ 409) i).toInt ∧ s0.toInt < (gI M (Λ 410) i).toInt)) → K48 (Λ 400) (nI i) (x3 + 1) M) : B_X6_layCuts_108 Q K32 K48 (Λ 400) (nI i) x3 x4 s0 M := by
  have a9 := sh.a 9 (by omega) (by omega) (show i < 41 by omega)
  refine ⟨sh.1, Λ 411, sh.r 11 (by omega) (by omega), sh.a 11 (by omega) (by omega) (show i < 41 by omega), ?_⟩
  rw [nI_clamp (by omega)]
  refine ⟨fun c => m_lc_154 hi sh (hT (Or.inl c)), fun c => ⟨Λ 409, sh.r 9 (by omega) (by omega), a9, fun c2 => m_lc_154 hi sh (hT (Or.inr (Or.inl (lt_I.mp c2)))), fun c2 => ⟨a9, fun c3 => hF ?_, fun c3 => ⟨Λ 410, sh.r 10 (by omega) (by omega), sh.a 10 (by omega) (by omega) (show i < 41 by omega), fun c4 => hF ?_, fun c4 => m_lc_154 hi sh (hT (Or.inr (Or.inr ⟨eq_I.mp c3, ?_⟩)))⟩⟩⟩⟩
  · rintro (z | z | z)
    · exact c z
    · exact c2 (lt_I.mpr z)
    · exact c3 (eq_I.mpr z.1)
  · rintro (z | z | z)
    · exact c z
    · exact c2 (lt_I.mpr z)
    · rw [le_I] at c4; omega
  · rw [le_I] at c4; omega
/-- the cells that the reference's cutting writes, beside those of layRow -/
def lcS (Λ : Nat → Nat) (b : Nat) : Prop := b = Λ 400 ∨ b = Λ 409 ∨ b = Λ 410 ∨ b = Λ 411 ∨ b = Λ 414
theorem lcS_not {Λ : Nat → Nat} (hΛ : inj Λ) {c : Nat} (h : c ≠ 400 ∧ c ≠ 409 ∧ c ≠ 410 ∧ c ≠ 411 ∧ c ≠ 414) : ¬ lcS Λ (Λ c) := by
  rintro (e | e | e | e | e) <;> exact absurd (hΛ _ _ e) (by omega)
/-- while the reference solves from i: h candidates looked at -/
def LSol (Λ : Nat → Nat) (M M1 : Mm) (n : Nat) (p : Int) (ρ : Nat → Nat) (T : Nat → Int × Int × Nat) (i h : Nat) : Prop :=
  Ch (lcS Λ) M M1 ∧ (∀ j, j ≠ 22 → gI M1 (Λ 400) j = gI M (Λ 400) j) ∧ (∀ j, j ≠ i → gI M1 (Λ 409) j = gI M (Λ 409) j ∧ gI M1 (Λ 410) j = gI M (Λ 410) j ∧ gI M1 (Λ 411) j = gI M (Λ 411) j) ∧ (h = 0 → gI M1 (Λ 411) i = -9) ∧ (0 < h → (gI M1 (Λ 409) i).toInt = (pk n p (csf ρ) T i h).1 ∧ (gI M1 (Λ 410) i).toInt = (pk n p (csf ρ) T i h).2.1 ∧ gI M1 (Λ 411) i = nI (pk n p (csf ρ) T i h).2.2)
theorem m_lc_48 {Λ : Nat → Nat} {M : Mm} {Q : Mm → Prop} {K32 : Nat → Int32 → Mm → Prop} {n p i : Nat} {ρ : Nat → Nat} {T : Nat → Int × Int × Nat} (hΛ : inj Λ) (sh : ModSh Λ M) (hn : n ≤ 40) (hp : p ≤ 1000) (h9 : gI M (Λ 400) 9 = nI n) (h13 : gI M (Λ 400) 13 = nI p) (hρ : ∀ k, k < n → 0 ≤ ρ k ∧ ρ k ≤ 80) (hr : ∀ k, k < n → gI M (Λ 408) k = nI (ρ k)) (hi : i < n)
    (hT : ∀ j, i < j → j < n → (gI M (Λ 409) j).toInt = (T j).1 ∧ (gI M (Λ 410) j).toInt = (T j).2.1 ∧ 0 ≤ (T j).1 ∧ (T j).1 ≤ 168000 ∧ 0 ≤ (T j).2.1 ∧ (T j).2.1 ≤ 40)
    (hK : ∀ M', LSol Λ M M' n p ρ T i (n - i) → K32 (Λ 400) (nI i + (-1)) M') :
    ∀ (d h : Nat) (M1 : Mm), i + h + d = n → LSol Λ M M1 n p ρ T i h → B_X6_layCuts_48 Q K32 (d + 1) (Λ 400) (nI i) (nI (i + h + 1)) M1 := by
  intro d
  induction d with
  | zero =>
    intro h M1 hd g
    unfold B_X6_layCuts_48
    have g9 : gI M1 (Λ 400) 9 = nI n := by rw [g.2.1 9 (by omega)]; exact h9
    rw [g9]
    exact ⟨(sh.ch g.1).1, fun _ => hK M1 (by rw [show n - i = h by omega]; exact g), fun c => absurd ((nI_ltI (by omega) (by omega)).mpr (by omega)) c⟩
  | succ d ih =>
    intro h M1 hd g
    unfold B_X6_layCuts_48
    obtain ⟨gc, gj, go, gz, gp⟩ := g
    have sh1 := sh.ch gc
    have g9 : gI M1 (Λ 400) 9 = nI n := by rw [gj 9 (by omega)]; exact h9
    have gr : ∀ k, k < n → gI M1 (Λ 408) k = nI (ρ k) := fun k hk => by rw [gc.2 _ (lcS_not hΛ (by omega))]; exact hr k hk
    rw [g9]
    refine ⟨sh1.1, fun c => absurd ((nI_ltI (by omega) (by omega)).mp c) (by omega), fun _ => ?_⟩
    refine m_costOf (n := n) hΛ sh1 hn (by omega) (by omega) (fun k hk => (hρ k hk).2) gr (fun r4 M3 e4 g3 => ?_)
    obtain ⟨c3, j3, -⟩ := g3
    have C3 : Ch (lcS Λ) M M3 := gc.trans (c3.mono (by rintro b (e | e) <;> simp [lcS, e]))
    have sh3 := sh.ch C3
    have g93 : gI M3 (Λ 400) 9 = nI n := by rw [j3 9 (by omega)]; exact g9
    have g133 : gI M3 (Λ 400) 13 = nI p := by rw [j3 13 (by omega), gj 13 (by omega)]; exact h13
    have o3 : ∀ c, c ≠ 400 → c ≠ 414 → gI M3 (Λ c) = gI M1 (Λ c) := fun c h1 h2 => c3.2 _ (fun z => z.elim (hΛ.ne h1) (hΛ.ne h2))
    have hcs := csf_ok hn hρ i (i + h + 1) (by omega) (by omega)
    have fin : ∀ (x4 s0 : Int32), x4.toInt = (cand n p (csf ρ) T i (i + h + 1)).1 → s0.toInt = (cand n p (csf ρ) T i (i + h + 1)).2.1 → B_X6_layCuts_108 Q K32 (fun y0 y1 y2 My => B_X6_layCuts_48 Q K32 (d + 1) y0 y1 y2 My) (Λ 400) (nI i) (nI (i + h + 1)) x4 s0 M3 := by
      intro x4 s0 hx4 hs0
      refine m_lc_108 (by omega) sh3 (fun c => ?_) (fun c => ?_)
      · rw [nI_1, show i + h + 1 + 1 = i + (h + 1) + 1 by omega]
        have hpk : pk n p (csf ρ) T i (h + 1) = cand n p (csf ρ) T i (i + h + 1) := by
          rw [pk]
          refine if_pos ?_
          by_cases hz : h = 0
          · exact Or.inl hz
          · obtain ⟨q1, q2, q3⟩ := gp (by omega)
            rw [o3 411 (by omega) (by omega), o3 409 (by omega) (by omega), o3 410 (by omega) (by omega), q1, q2, q3, hx4, hs0] at c
            rcases c with c | c
            · refine absurd c (nI_ne9 ?_)
              obtain ⟨j, hj, ej⟩ := pk_is n p (csf ρ) T i h (by omega)
              rw [ej]; show i + j + 1 < 2 ^ 31; omega
            · exact Or.inr c
        refine ih (h + 1) _ (by omega) ⟨((C3.step (Or.inr (Or.inl rfl))).step (Or.inr (Or.inr (Or.inl rfl)))).step (Or.inr (Or.inr (Or.inr (Or.inl rfl)))), ?_, ?_, fun z => absurd z (by omega), fun _ => ⟨?_, ?_, ?_⟩⟩
        · intro j hj
          rw [gI_pI_ne (hΛ.ne (by omega)), gI_pI_ne (hΛ.ne (by omega)), gI_pI_ne (hΛ.ne (by omega)), j3 j hj]; exact gj j hj
        · intro j hj
          refine ⟨?_, ?_, ?_⟩
          · rw [gI_pI_ne (hΛ.ne (by omega)), gI_pI_ne (hΛ.ne (by omega)), gI_pI_eq, upd_ne _ _ hj, o3 _ (by omega) (by omega)]; exact (go j hj).1
          · rw [gI_pI_ne (hΛ.ne (by omega)), gI_pI_eq, upd_ne _ _ hj, gI_pI_ne (hΛ.ne (by omega)), o3 _ (by omega) (by omega)]; exact (go j hj).2.1
          · rw [gI_pI_eq, upd_ne _ _ hj, gI_pI_ne (hΛ.ne (by omega)), gI_pI_ne (hΛ.ne (by omega)), o3 _ (by omega) (by omega)]; exact (go j hj).2.2
        · rw [gI_pI_ne (hΛ.ne (by omega)), gI_pI_ne (hΛ.ne (by omega)), gI_pI_eq, upd_eq, hpk]; exact hx4
        · rw [gI_pI_ne (hΛ.ne (by omega)), gI_pI_eq, upd_eq, hpk]; exact hs0
        · rw [gI_pI_eq, upd_eq, hpk]; rfl
      · rw [nI_1, show i + h + 1 + 1 = i + (h + 1) + 1 by omega]
        have hz : 0 < h := by
          rcases Nat.eq_zero_or_pos h with z | z
          · exact absurd (Or.inl (by rw [o3 _ (by omega) (by omega)]; exact gz z)) c
          · exact z
        obtain ⟨q1, q2, q3⟩ := gp hz
        have hpk : pk n p (csf ρ) T i (h + 1) = pk n p (csf ρ) T i h := by
          rw [pk]
          refine if_neg (fun z => c (Or.inr ?_))
          rw [o3 409 (by omega) (by omega), o3 410 (by omega) (by omega), q1, q2, hx4, hs0]
          rcases z with z | z
          · omega
          · exact z
        refine ih (h + 1) M3 (by omega) ⟨C3, fun j hj => (j3 j hj).trans (gj j hj), fun j hj => ?_, fun z => absurd z (by omega), fun _ => ?_⟩
        · rw [o3 _ (by omega) (by omega), o3 _ (by omega) (by omega), o3 _ (by omega) (by omega)]; exact go j hj
        · rw [o3 _ (by omega) (by omega), o3 _ (by omega) (by omega), o3 _ (by omega) (by omega), hpk]; exact ⟨q1, q2, q3⟩
    have hcand1 : (cand n p (csf ρ) T i (i + h + 1)).1 = csf ρ i (i + h + 1) + (if i + h + 1 < n then (p : Int) + (T (i + h + 1)).1 else 0) := rfl
    have hcand2 : (cand n p (csf ρ) T i (i + h + 1)).2.1 = (if i + h + 1 < n then 1 + (T (i + h + 1)).2.1 else 0) := rfl
    have z0 : (0 : Int32).toInt = 0 := rfl
    have z1 : (1 : Int32).toInt = 1 := rfl
    refine ⟨sh3.1, fun c => ⟨sh3.1, fun c2 => ?_, fun c2 => ?_⟩, fun c => ⟨Λ 409, sh3.r 9 (by omega) (by omega), ?_, sh3.1, fun c2 => ?_, fun c2 => ?_⟩⟩
    · rw [g93] at c
      have hge : ¬ i + h + 1 < n := by have := (nI_leI (by omega) (by omega)).mp c; omega
      refine fin _ _ ?_ ?_
      · rw [hcand1, if_neg hge, addI (by omega) (by omega)]; omega
      · rw [hcand2, if_neg hge]; rfl
    · exact absurd c c2
    · rw [g93] at c
      have hlt : i + h + 1 < n := by
        rcases Nat.lt_or_ge (i + h + 1) n with z | z
        · exact z
        · exact absurd ((nI_leI (by omega) (by omega)).mpr z) c
      exact sh3.a 9 (by omega) (by omega) (show i + h + 1 < 41 by omega)
    · exact absurd c2 c
    · rw [g93] at c
      have hlt : i + h + 1 < n := by
        rcases Nat.lt_or_ge (i + h + 1) n with z | z
        · exact z
        · exact absurd ((nI_leI (by omega) (by omega)).mpr z) c
      obtain ⟨t1, t2, t3, t4, t5, t6⟩ := hT (i + h + 1) (by omega) hlt
      have m9 : (gI M3 (Λ 409) (i + h + 1)).toInt = (T (i + h + 1)).1 := by rw [o3 _ (by omega) (by omega), (go _ (by omega)).1]; exact t1
      have m10 : (gI M3 (Λ 410) (i + h + 1)).toInt = (T (i + h + 1)).2.1 := by rw [o3 _ (by omega) (by omega), (go _ (by omega)).2.1]; exact t2
      have ep : (nI p).toInt = (p : Int) := nI_toInt (by omega)
      refine ⟨Λ 410, sh3.r 10 (by omega) (by omega), sh3.a 10 (by omega) (by omega) (show i + h + 1 < 41 by omega), ?_⟩
      rw [nI_clamp (by omega), g133]
      have a1 : (nI p + gI M3 (Λ 409) (i + h + 1)).toInt = (p : Int) + (T (i + h + 1)).1 := by rw [addI (by omega) (by omega), ep, m9]
      refine fin _ _ ?_ ?_
      · rw [hcand1, if_pos hlt, addI (by omega) (by omega), a1]; omega
      · rw [hcand2, if_pos hlt, addI (by omega) (by omega), m10, z1]
/-- the reference's table for the last d starts -/
def MTbl (Λ : Nat → Nat) (M : Mm) (n : Nat) (p : Int) (ρ : Nat → Nat) (d : Nat) : Prop := ∀ j, j < n → n ≤ j + d → (gI M (Λ 409) j).toInt = (dpT n p (csf ρ) d j).1 ∧ (gI M (Λ 410) j).toInt = (dpT n p (csf ρ) d j).2.1 ∧ gI M (Λ 411) j = nI (dpT n p (csf ρ) d j).2.2
theorem m_lc_32 {Λ : Nat → Nat} {M : Mm} {Q : Mm → Prop} {n p : Nat} {ρ : Nat → Nat} (hΛ : inj Λ) (sh : ModSh Λ M) (hn : n ≤ 40) (hp : p ≤ 1000) (h9 : gI M (Λ 400) 9 = nI n) (h13 : gI M (Λ 400) 13 = nI p) (hρ : ∀ k, k < n → 0 ≤ ρ k ∧ ρ k ≤ 80) (hr : ∀ k, k < n → gI M (Λ 408) k = nI (ρ k))
    (hQ : ∀ M', Ch (lcS Λ) M M' → (∀ j, j ≠ 22 → j ≠ 18 → gI M' (Λ 400) j = gI M (Λ 400) j) → gI M' (Λ 400) 18 = 0 → MTbl Λ M' n p ρ n → ∃ n4, B_X6_layCuts_196 Q n4 (Λ 400) (0 : Int32) M') :
    ∀ (k : Nat) (M1 : Mm), k ≤ n → Ch (lcS Λ) M M1 → (∀ j, j ≠ 22 → gI M1 (Λ 400) j = gI M (Λ 400) j) → MTbl Λ M1 n p ρ (n - k) → B_X6_layCuts_32 Q (k + 1) (Λ 400) (nI k - 1) M1 := by
  intro k
  induction k with
  | zero =>
    intro M1 hk gc gj gt
    unfold B_X6_layCuts_32
    refine ⟨fun _ => ⟨(sh.ch gc).1, ?_⟩, fun c => absurd (by decide) c⟩
    rintro _ rfl
    refine hQ _ (gc.step (Or.inl rfl)) (fun j h1 h2 => by rw [gI_pI_eq, upd_ne _ _ h2]; exact gj j h1) (by rw [gI_pI_eq, upd_eq]) (fun j h1 h2 => ?_)
    rw [gI_pI_ne (hΛ.ne (by omega)), gI_pI_ne (hΛ.ne (by omega)), gI_pI_ne (hΛ.ne (by omega))]; exact gt j h1 h2
  | succ k ih =>
    intro M1 hk gc gj gt
    unfold B_X6_layCuts_32
    have sh1 := sh.ch gc
    rw [show nI (k + 1) - (1 : Int32) = nI k from nI_pred k]
    refine ⟨fun c => absurd c (nI_pos (by omega)), fun _ => ⟨sh1.1, Λ 411, sh1.r 11 (by omega) (by omega), sh1.a 11 (by omega) (by omega) (show k < 41 by omega), ?_⟩⟩
    rintro _ rfl
    rw [nI_clamp (by omega), nI_1]
    have c2 : Ch (lcS Λ) M1 (pI M1 (Λ 411) k (-9 : Int32)) := Ch.put (Or.inr (Or.inr (Or.inr (Or.inl rfl))))
    have o2 : ∀ c, c ≠ 411 → gI (pI M1 (Λ 411) k (-9 : Int32)) (Λ c) = gI M1 (Λ c) := fun c hc => gI_pI_ne (hΛ.ne hc)
    have hrng := dpT_rng (csf_ok hn hρ) (p := p) (by omega) (n - (k + 1))
    refine ⟨n - k + 1, ?_⟩
    refine m_lc_48 (T := dpT n p (csf ρ) (n - (k + 1))) (p := p) (ρ := ρ) hΛ (sh1.ch c2) hn hp (by rw [o2 400 (by omega), gj 9 (by omega)]; exact h9) (by rw [o2 400 (by omega), gj 13 (by omega)]; exact h13) hρ (fun j hj => by rw [o2 408 (by omega), gc.2 _ (lcS_not hΛ (by omega))]; exact hr j hj) (by omega) (fun j h1 h2 => ?_) (fun M' g => ?_) (n - k) 0 _ (by omega) ⟨Ch.refl _ _, fun _ _ => rfl, fun _ _ => ⟨rfl, rfl, rfl⟩, fun _ => by rw [gI_pI_eq, upd_eq], fun z => absurd z (by omega)⟩
    · rw [o2 409 (by omega), o2 410 (by omega)]
      have g := gt j h2 (by omega)
      have q := hrng j h2 (by omega)
      exact ⟨g.1, g.2.1, by omega, by omega, by omega, by omega⟩
    · obtain ⟨gc', gj', go', -, gp'⟩ := g
      rw [show nI k + (-1 : Int32) = nI k - 1 by rw [Int32.sub_eq_add_neg]]
      refine ih M' (by omega) ((gc.trans c2).trans gc') (fun j hj => by rw [gj' j hj, o2 400 (by omega)]; exact gj j hj) (fun j h1 h2 => ?_)
      rw [show n - k = (n - (k + 1)) + 1 by omega]
      simp only [dpT]
      by_cases e : j = k
      · subst e
        rw [if_pos (by omega)]
        have := gp' (by omega)
        rw [show n - j = n - (j + 1) + 1 by omega] at this
        exact this
      · rw [if_neg (by omega)]
        obtain ⟨o1, o3, o4⟩ := go' j e
        rw [o1, o3, o4, o2 409 (by omega), o2 410 (by omega), gI_pI_eq, upd_ne _ _ e]
        exact gt j h1 (by omega)
