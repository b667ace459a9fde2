/-! PURE, 5: the cutter solves from a start -/
theorem x_sol_168 {Λ : Nat → Nat} {K6 : Nat → Option Nat → Int32 → Int32 → Int32 → Int32 → Mm → Prop} {Q : Mm → Prop} {x1 : Option Nat} {x3 x4 x5 x7 x9 x10 : Int32} {i : Nat} {M : Mm} (hi : i < 40) (sh : CutSh Λ M) (h : K6 (Λ 4) x1 (nI i) x3 x4 (x5 + 1) (pI (pI (pI M (Λ 6) i x9) (Λ 7) i x10) (Λ 8) i x7)) : B_X1_solveFrom_168 Q K6 (Λ 4) x1 (nI i) x3 x4 x5 x7 x9 x10 M := by
  have ha : ∀ j, j < 4 → ∀ M' : Mm, M'.2 = M.2 → ar M' (Λ (5 + j)) 7 (nI i) := fun j hj M' e => by
    have := sh.ch (S := fun _ => True) (M' := M') ⟨e, fun _ z => absurd trivial z⟩
    exact ar_nI (this.2.2.1 j hj) (this.2.2.2 j hj) hi (by omega)
  refine ⟨sh.1, Λ 6, sh.2.1 1 (by omega), ha 1 (by omega) _ rfl, ?_⟩
  rintro _ rfl
  rw [nI_clamp (by omega)]
  refine ⟨Λ 7, sh.2.1 2 (by omega), ha 2 (by omega) _ rfl, ?_⟩
  rintro _ rfl
  refine ⟨Λ 8, sh.2.1 3 (by omega), ha 3 (by omega) _ rfl, ?_⟩
  rintro _ rfl
  exact h
theorem x_sol_116 {Λ : Nat → Nat} {K6 : Nat → Option Nat → Int32 → Int32 → Int32 → Int32 → Mm → Prop} {Q : Mm → Prop} {x1 : Option Nat} {x3 x4 x5 x7 x9 s0 : Int32} {i h : Nat} {M : Mm} (hi : i < 40) (hh : h < 2 ^ 31) (sh : CutSh Λ M)
    (hT : (h = 0 ∨ x9.toInt < (gI M (Λ 6) i).toInt ∨ (x9.toInt = (gI M (Λ 6) i).toInt ∧ s0.toInt < (gI M (Λ 7) i).toInt)) → K6 (Λ 4) x1 (nI i) x3 x4 (x5 + 1) (pI (pI (pI M (Λ 6) i x9) (Λ 7) i s0) (Λ 8) i x7))
    (hF : ¬ (h = 0 ∨ x9.toInt < (gI M (Λ 6) i).toInt ∨ (x9.toInt = (gI M (Λ 6) i).toInt ∧ s0.toInt < (gI M (Λ 7) i).toInt)) → K6 (Λ 4) x1 (nI i) x3 x4 (x5 + 1) M) : B_X1_solveFrom_116 Q K6 (Λ 4) x1 (nI i) x3 x4 x5 (nI h) x7 x9 s0 M := by
  have ha : ∀ j, j < 4 → ar M (Λ (5 + j)) 7 (nI i) := fun j hj => ar_nI (sh.2.2.1 j hj) (sh.2.2.2 j hj) hi (by omega)
  have h0 : nI h = 0 ↔ h = 0 := by rw [show (0 : Int32) = nI 0 from rfl]; exact nI_eq hh (by omega)
  have k1 : (x9.toInt < (gI M (Λ 6) i).toInt ∨ (x9.toInt = (gI M (Λ 6) i).toInt ∧ s0.toInt < (gI M (Λ 7) i).toInt)) → B_X1_solveFrom_156 Q K6 (Λ 4) x1 (nI i) x3 x4 x5 (nI h) x7 x9 s0 (1 : Int32) M := fun c => ⟨fun _ => x_sol_168 hi sh (hT (Or.inr c)), fun _ => ⟨fun z => absurd z (by decide), fun _ => x_sol_168 hi sh (hT (Or.inr c))⟩⟩
  have k0 : ¬ (x9.toInt < (gI M (Λ 6) i).toInt ∨ (x9.toInt = (gI M (Λ 6) i).toInt ∧ s0.toInt < (gI M (Λ 7) i).toInt)) → B_X1_solveFrom_156 Q K6 (Λ 4) x1 (nI i) x3 x4 x5 (nI h) x7 x9 s0 (0 : Int32) M := fun c => ⟨fun z => x_sol_168 hi sh (hT (Or.inl (h0.mp z))), fun z => ⟨fun _ => hF (fun y => y.elim (fun y => z (h0.mpr y)) c), fun y => absurd rfl y⟩⟩
  refine ⟨sh.1, Λ 6, sh.2.1 1 (by omega), ha 1 (by omega), ?_⟩
  rw [nI_clamp (by omega)]
  refine ⟨fun c => k1 (Or.inl (lt_I.mp c)), fun c => ⟨ha 1 (by omega), fun c2 => k0 ?_, fun c2 => ⟨Λ 7, sh.2.1 2 (by omega), ha 2 (by omega), fun c3 => k0 ?_, fun c3 => k1 (Or.inr ⟨eq_I.mp c2, ?_⟩)⟩⟩⟩
  · rintro (z | z)
    · exact c (lt_I.mpr z)
    · exact c2 (eq_I.mpr z.1)
  · rintro (z | z)
    · exact c (lt_I.mpr z)
    · rw [le_I] at c3; omega
  · rw [le_I] at c3; omega
/-- while it solves from i: h ranks looked at -/
def Sol (Λ : Nat → Nat) (M M1 : Mm) (n : Nat) (p : Int) (ρ : Nat → Nat) (T : Nat → Int × Int × Nat) (i h : Nat) : Prop :=
  Ch (fun b => b = Λ 5 ∨ b = Λ 6 ∨ b = Λ 7 ∨ b = Λ 8) M M1 ∧ (∀ t, t < h → (gI M1 (Λ 5) t).toInt = so (fun t => (ρ (i + t) : Int)) h t) ∧ (∀ j, j ≠ i → gI M1 (Λ 6) j = gI M (Λ 6) j ∧ gI M1 (Λ 7) j = gI M (Λ 7) j ∧ gI M1 (Λ 8) j = gI M (Λ 8) j) ∧ (0 < h → (gI M1 (Λ 6) i).toInt = (pk n p (fun a b => CC (fun t => (ρ (a + t) : Int)) (b - a)) T i h).1 ∧ (gI M1 (Λ 7) i).toInt = (pk n p (fun a b => CC (fun t => (ρ (a + t) : Int)) (b - a)) T i h).2.1 ∧ gI M1 (Λ 8) i = nI (pk n p (fun a b => CC (fun t => (ρ (a + t) : Int)) (b - a)) T i h).2.2)
theorem x_solve_6 {Λ : Nat → Nat} {M : Mm} {Q : Mm → Prop} {r n p i : Nat} {ρ : Nat → Nat} {T : Nat → Int × Int × Nat} (hΛ : inj Λ) (hr : 20 ≤ r) (sh : CutSh Λ M) (rs : RowSh Λ M r) (hn : n ≤ 40) (hp : p ≤ 1000) (hm : gI M (Λ r) 6 = nI n) (hρ : ∀ k, k < n → 0 ≤ ρ k ∧ ρ k ≤ 80) (hk : ∀ k, k < n → gI M (Λ (r + 3)) k = nI (ρ k)) (hi : i < n)
    (hT : ∀ j, i < j → j < n → (gI M (Λ 6) j).toInt = (T j).1 ∧ (gI M (Λ 7) j).toInt = (T j).2.1 ∧ 0 ≤ (T j).1 ∧ (T j).1 ≤ 168000 ∧ 0 ≤ (T j).2.1 ∧ (T j).2.1 ≤ 40) (hQ : ∀ M', Sol Λ M M' n p ρ T i (n - i) → Q M') :
    ∀ (d h : Nat) (x4 : Int32) (M1 : Mm), i + h + d = n → x4.toInt = CC (fun t => (ρ (i + t) : Int)) h → Sol Λ M M1 n p ρ T i h → B_X1_solveFrom_6 Q (d + 1) (Λ 4) (some (Λ r)) (nI i) (nI p) x4 (nI (i + h)) M1 := by
  have apart : ∀ c, 9 ≤ c → ¬ (Λ c = Λ 5 ∨ Λ c = Λ 6 ∨ Λ c = Λ 7 ∨ Λ c = Λ 8) := fun c hc => by
    rintro (e | e | e | e) <;> exact hΛ.ne (by omega) e
  intro d
  induction d with
  | zero =>
    intro h x4 M1 hd hx g
    unfold B_X1_solveFrom_6
    have e : i + h = n := by omega
    have gm : gI M1 (Λ r) 6 = nI n := by rw [g.1.2 _ (apart r (by omega))]; exact hm
    refine ⟨Λ r, rfl, (rs.ch g.1).1, fun _ => hQ M1 (by rw [show n - i = h by omega]; exact g), fun c => absurd (by rw [gm, e]; exact Int32.le_refl _) c⟩
  | succ d ih =>
    intro h x4 M1 hd hx g
    unfold B_X1_solveFrom_6
    obtain ⟨gc, gs, go, gp⟩ := g
    have rs1 := rs.ch gc
    have sh1 := sh.ch gc
    have gm : gI M1 (Λ r) 6 = nI n := by rw [gc.2 _ (apart r (by omega))]; exact hm
    have gk : gI M1 (Λ (r + 3)) (i + h) = nI (ρ (i + h)) := by rw [gc.2 _ (apart (r + 3) (by omega))]; exact hk _ (by omega)
    have a3 : ∀ M' : Mm, M'.2 = M.2 → ar M' (Λ (r + 3)) 7 (nI (i + h)) := fun M' e => by
      have := rs.ch (S := fun _ => True) (M' := M') ⟨e, fun _ z => absurd trivial z⟩
      exact ar_nI (this.2.2.1 3 (by omega) (by omega)) (this.2.2.2.1 3 (by omega) (by omega) (by omega)) (by omega) (by omega)
    have eh : nI (i + h) - nI i = nI h := by rw [pk_sub (by omega)]; congr 1; omega
    have hcc := CC_rng (e := fun t => (ρ (i + t) : Int)) (h := h) (fun t ht => by have := hρ (i + t) (by omega); omega)
    have hcc1 := CC_rng (e := fun t => (ρ (i + t) : Int)) (h := h + 1) (fun t ht => by have := hρ (i + t) (by omega); omega)
    refine ⟨Λ r, rfl, rs1.1, fun c => absurd ((nI_leI (a := n) (b := i + h) (by omega) (by omega)).mp (by rw [gm] at c; exact c)) (by omega), fun _ => ⟨Λ (r + 3), rs1.2.1.2.2.1, a3 _ gc.1, sh1.1, ?_⟩⟩
    rw [nI_clamp (by omega), gk, eh]
    have hcs : ∀ r8 : Int32, r8.toInt = (if h = 0 then 0 else if (ρ (i + h) : Int) < so (fun t => (ρ (i + t) : Int)) h ((h - 1) / 2) then so (fun t => (ρ (i + t) : Int)) h ((h - 1) / 2) - (ρ (i + h) : Int) else if so (fun t => (ρ (i + t) : Int)) h (h / 2) < (ρ (i + h) : Int) then (ρ (i + h) : Int) - so (fun t => (ρ (i + t) : Int)) h (h / 2) else 0) → CC (fun t => (ρ (i + t) : Int)) (h + 1) = x4.toInt + r8.toInt := by
      intro r8 h8
      rw [h8, hx]
      by_cases h0 : h = 0
      · subst h0; rw [CC_one, if_pos rfl]; simp [CC, FF, sm]
      · rw [if_neg h0]; exact CC_step (fun t => (ρ (i + t) : Int)) (by omega)
    refine x_far (e := fun t => (ρ (i + t) : Int)) (by omega) sh1 (by have := hρ (i + h) (by omega); exact nI_toInt (by omega)) gs (fun t ht => by have := hρ (i + t) (by omega); omega) (fun r8 h8 => ⟨rs1.1, Λ (r + 3), rs1.2.1.2.2.1, a3 _ gc.1, sh1.1, ?_⟩)
    have e4 := hcs r8 h8
    have e4' : (x4 + r8).toInt = CC (fun t => (ρ (i + t) : Int)) (h + 1) := by rw [addI (by omega) (by omega)]; exact e4.symm
    rw [gk]
    refine x_insert (by omega) sh1 (fun M13 c13 i13 => ?_)
    have gc13 := gc.trans (c13.mono (fun b hb => Or.inl hb))
    have sh13 := sh.ch gc13
    have gm13 : gI M13 (Λ r) 6 = nI n := by rw [gc13.2 _ (apart r (by omega))]; exact hm
    have s13 : ∀ t, t < h + 1 → (gI M13 (Λ 5) t).toInt = so (fun t => (ρ (i + t) : Int)) (h + 1) t := by
      intro t ht
      rw [i13 t, nI_toInt (by have := hρ (i + h) (by omega); omega)]
      exact insZ_pre _ h _ _ (fun j hj => gs j hj) t ht
    have o6 : gI M13 (Λ 6) = gI M1 (Λ 6) := c13.2 _ (hΛ.ne (by omega))
    have o7 : gI M13 (Λ 7) = gI M1 (Λ 7) := c13.2 _ (hΛ.ne (by omega))
    have o8 : gI M13 (Λ 8) = gI M1 (Λ 8) := c13.2 _ (hΛ.ne (by omega))
    rw [nI_1] at *
    have fin : ∀ (x9 s0 : Int32), x9.toInt = (cand n p (fun a b => CC (fun t => (ρ (a + t) : Int)) (b - a)) T i (i + h + 1)).1 → s0.toInt = (cand n p (fun a b => CC (fun t => (ρ (a + t) : Int)) (b - a)) T i (i + h + 1)).2.1 → B_X1_solveFrom_116 Q (fun y0 y1 y2 y3 y4 y5 My => B_X1_solveFrom_6 Q (d + 1) y0 y1 y2 y3 y4 y5 My) (Λ 4) (some (Λ r)) (nI i) (nI p) (x4 + r8) (nI (i + h)) (nI h) (nI (i + h + 1)) x9 s0 M13 := by
      intro x9 s0 h9 h0
      refine x_sol_116 (by omega) (by omega) sh13 (fun c => ?_) (fun c => ?_)
      · rw [nI_1]
        refine ih (h + 1) (x4 + r8) _ (by omega) e4' ?_
        have hpk : pk n p (fun a b => CC (fun t => (ρ (a + t) : Int)) (b - a)) T i (h + 1) = cand n p (fun a b => CC (fun t => (ρ (a + t) : Int)) (b - a)) T i (i + h + 1) := by
          rw [pk]
          refine if_pos ?_
          rcases c with c | c
          · exact Or.inl c
          · by_cases hz : h = 0
            · exact Or.inl hz
            · obtain ⟨g1, g2, -⟩ := gp (by omega)
              rw [o6, o7, g1, g2, h9, h0] at c
              exact Or.inr c
        refine ⟨((gc13.step (Or.inr (Or.inl rfl))).step (Or.inr (Or.inr (Or.inl rfl)))).step (Or.inr (Or.inr (Or.inr rfl))), ?_, ?_, fun _ => ⟨?_, ?_, ?_⟩⟩
        · intro t ht
          rw [gI_pI_ne (hΛ.ne (by omega)), gI_pI_ne (hΛ.ne (by omega)), gI_pI_ne (hΛ.ne (by omega))]; exact s13 t ht
        · intro j hj
          refine ⟨?_, ?_, ?_⟩
          · rw [gI_pI_ne (hΛ.ne (by omega)), gI_pI_ne (hΛ.ne (by omega)), gI_pI_eq, upd_ne _ _ hj, o6]; exact (go j hj).1
          · rw [gI_pI_ne (hΛ.ne (by omega)), gI_pI_eq, upd_ne _ _ hj, gI_pI_ne (hΛ.ne (by omega)), o7]; exact (go j hj).2.1
          · rw [gI_pI_eq, upd_ne _ _ hj, gI_pI_ne (hΛ.ne (by omega)), gI_pI_ne (hΛ.ne (by omega)), o8]; exact (go j hj).2.2
        · rw [gI_pI_ne (hΛ.ne (by omega)), gI_pI_ne (hΛ.ne (by omega)), gI_pI_eq, upd_eq, hpk]; exact h9
        · rw [gI_pI_ne (hΛ.ne (by omega)), gI_pI_eq, upd_eq, hpk]; exact h0
        · rw [gI_pI_eq, upd_eq, hpk]; rfl
      · rw [nI_1]
        refine ih (h + 1) (x4 + r8) _ (by omega) e4' ?_
        have hz : 0 < h := by
          rcases Nat.eq_zero_or_pos h with z | z
          · exact absurd (Or.inl z) c
          · exact z
        obtain ⟨g1, g2, g3⟩ := gp hz
        have hpk : pk n p (fun a b => CC (fun t => (ρ (a + t) : Int)) (b - a)) T i (h + 1) = pk n p (fun a b => CC (fun t => (ρ (a + t) : Int)) (b - a)) T i h := by
          rw [pk]
          refine if_neg ?_
          rw [o6, o7, g1, g2, h9, h0] at c
          exact c
        refine ⟨gc13, s13, fun j hj => ?_, fun _ => ?_⟩
        · rw [o6, o7, o8]; exact go j hj
        · rw [o6, o7, o8, hpk]; exact ⟨g1, g2, g3⟩
    have hcand1 : (cand n p (fun a b => CC (fun t => (ρ (a + t) : Int)) (b - a)) T i (i + h + 1)).1 = CC (fun t => (ρ (i + t) : Int)) (h + 1) + (if i + h + 1 < n then (p : Int) + (T (i + h + 1)).1 else 0) := by
      unfold cand; simp only; rw [show i + h + 1 - i = h + 1 by omega]
    have hcand2 : (cand n p (fun a b => CC (fun t => (ρ (a + t) : Int)) (b - a)) T i (i + h + 1)).2.1 = (if i + h + 1 < n then 1 + (T (i + h + 1)).2.1 else 0) := rfl
    refine ⟨(rs.ch gc13).1, fun c => ?_, fun c => ?_⟩
    · have hlt : i + h + 1 < n := by
        rcases Nat.lt_or_ge (i + h + 1) n with z | z
        · exact z
        · exact absurd (by rw [gm13]; congr 1; omega) c
      obtain ⟨t1, t2, t3, t4, t5, t6⟩ := hT (i + h + 1) (by omega) hlt
      have m6 : (gI M13 (Λ 6) (i + h + 1)).toInt = (T (i + h + 1)).1 := by rw [o6, (go _ (by omega)).1]; exact t1
      have m7 : (gI M13 (Λ 7) (i + h + 1)).toInt = (T (i + h + 1)).2.1 := by rw [o7, (go _ (by omega)).2.1]; exact t2
      have ep : (nI p).toInt = (p : Int) := nI_toInt (by omega)
      have a1 : (x4 + r8 + nI p).toInt = CC (fun t => (ρ (i + t) : Int)) (h + 1) + p := by rw [addI (by omega) (by omega), e4', ep]
      have c1 : (1 : Int32).toInt = 1 := rfl
      refine ⟨fun _ => ⟨sh13.1, Λ 6, sh13.2.1 1 (by omega), ar_nI (sh13.2.2.1 1 (by omega)) (sh13.2.2.2 1 (by omega)) (by omega) (by omega), fun _ => ⟨sh13.1, Λ 7, sh13.2.1 2 (by omega), ar_nI (sh13.2.2.1 2 (by omega)) (sh13.2.2.2 2 (by omega)) (by omega) (by omega), ?_⟩, fun z => absurd rfl z⟩, fun z => absurd rfl z⟩
      rw [nI_clamp (by omega)]
      refine fin _ _ ?_ ?_
      · rw [hcand1, if_pos hlt, addI (by omega) (by omega), a1, m6]; omega
      · rw [hcand2, if_pos hlt, addI (by omega) (by omega), m7, c1]
    · have hge : ¬ i + h + 1 < n := by
        rw [gm13] at c
        have := (nI_eq (by omega) (by omega)).mp c
        omega
      refine ⟨fun z => absurd z (by decide), fun _ => ⟨fun z => absurd z (by decide), fun _ => fin _ _ ?_ ?_⟩⟩
      · rw [hcand1, if_neg hge, e4']; omega
      · rw [hcand2, if_neg hge]; rfl
