/-! PURE, 13: the reference cuts a row -/
def cal (v : Nat → Int32) (x : Int32) : Nat → Nat
  | 0 => 0
  | b + 1 => cal v x b + (if v b = x then 1 else 0)
theorem cal_pos (v : Nat → Int32) {x : Int32} : ∀ {B b : Nat}, b < B → v b = x → 1 ≤ cal v x B
  | 0, b, h, _ => absurd h (by omega)
  | B + 1, b, h, hb => by
    simp only [cal]
    by_cases e : b = B
    · subst e; rw [if_pos hb]; omega
    · have := cal_pos v (B := B) (b := b) (by omega) hb; omega
theorem rkv_lt (v : Nat → Int32) {x y : Int32} (hx : ¬ x = -9) (hy : ¬ y = -9) (hxy : x < y) : ∀ B, rkv v x B + cal v x B ≤ rkv v y B
  | 0 => Nat.le_refl 0
  | b + 1 => by
    have ih := rkv_lt v hx hy hxy b
    simp only [rkv, cal]
    rw [lt_I] at hxy
    by_cases c1 : v b = x
    · have c2 : ¬ v b = y := fun z => by rw [c1] at z; rw [z] at hxy; omega
      have c3 : ¬ v b = -9 := fun z => hx (by rw [← c1]; exact z)
      have c4 : v b < y := by rw [c1, lt_I]; exact hxy
      rw [if_pos c1, if_pos c1, if_neg c2, if_neg c3, if_pos c4]; omega
    · rw [if_neg c1, if_neg c1]
      by_cases c3 : v b = -9
      · rw [if_pos c3]; omega
      · rw [if_neg c3]
        by_cases c5 : v b < x
        · have c2 : ¬ v b = y := fun z => by rw [z, lt_I] at c5; omega
          have c4 : v b < y := by rw [lt_I] at *; omega
          rw [if_pos c5, if_neg c2, if_neg c3, if_pos c4]; omega
        · rw [if_neg c5]; omega
theorem rk_order {v : Nat → Int32} {B i j : Nat} (hi : i < mc v B) (hj : j < mc v B) : ((rk v B i : Nat) : Int) ≤ (rk v B j : Nat) ↔ (v (mp v B i)).toInt ≤ (v (mp v B j)).toInt := by
  have h1 := mp_spec v B i hi
  have h2 := mp_spec v B j hj
  have q : ∀ a b : Nat, a < mc v B → b < mc v B → (v (mp v B a)).toInt < (v (mp v B b)).toInt → rk v B a < rk v B b := fun a b ha hb hlt => by
    have g1 := mp_spec v B a ha
    have g2 := mp_spec v B b hb
    have := rkv_lt v g1.2.1 g2.2.1 (lt_I.mpr hlt) B
    have := cal_pos v (x := v (mp v B a)) g1.1 rfl
    unfold rk; omega
  constructor
  · intro h
    by_cases c : (v (mp v B j)).toInt < (v (mp v B i)).toInt
    · have := q j i hj hi c; omega
    · omega
  · intro h
    rcases Int.lt_or_eq_of_le h with c | c
    · have := q i j hi hj c; omega
    · have e : v (mp v B i) = v (mp v B j) := eq_I.mpr c
      unfold rk; rw [e]; omega
/-- the reference's scratch rows hold how the measurements v are cut -/
def ModCut (Λ : Nat → Nat) (M : Mm) (v : Nat → Int32) (B p : Nat) : Prop :=
  gI M (Λ 400) 9 = nI (mc v B) ∧ (∀ i, i < mc v B → gI M (Λ 406) i = nI (mp v B i) ∧ gI M (Λ 407) i = v (mp v B i) ∧ gI M (Λ 408) i = nI (rk v B i)) ∧ gI M (Λ 400) 18 = nI (zS v B p) ∧ (∀ j, j ≤ zS v B p → gI M (Λ 412) j = nI (zF v B p j)) ∧ (∀ j, j < zS v B p → (gI M (Λ 413) j).toInt = zM v B p j) ∧ (0 < mc v B → (gI M (Λ 409) 0).toInt = zT v B p)
/-- the cells of the reference that cutting writes -/
def mcS (Λ : Nat → Nat) (b : Nat) : Prop := b = Λ 400 ∨ b = Λ 406 ∨ b = Λ 407 ∨ b = Λ 408 ∨ b = Λ 409 ∨ b = Λ 410 ∨ b = Λ 411 ∨ b = Λ 412 ∨ b = Λ 413 ∨ b = Λ 414
theorem mcS_not {Λ : Nat → Nat} (hΛ : inj Λ) {c : Nat} (h : c < 400 ∨ (400 < c ∧ c < 406) ∨ 414 < c) : ¬ mcS Λ (Λ c) := by
  rintro (e | e | e | e | e | e | e | e | e | e) <;> exact absurd (hΛ _ _ e) (by omega)
def LSp (Λ : Nat → Nat) (M M1 : Mm) (n : Nat) (nx : Nat → Nat) (u : Nat → Int) (s : Nat) : Prop :=
  Ch (fun b => b = Λ 400 ∨ b = Λ 412 ∨ b = Λ 413 ∨ b = Λ 414) M M1 ∧ (∀ j, j ≠ 18 → j ≠ 22 → gI M1 (Λ 400) j = gI M (Λ 400) j) ∧ gI M1 (Λ 400) 18 = nI s ∧ (∀ j, j < s → gI M1 (Λ 412) j = nI (ss n nx j)) ∧ ∀ j, j < s → (gI M1 (Λ 413) j).toInt = md n nx u j
theorem m_lc_196 {Λ : Nat → Nat} {M : Mm} {Q : Mm → Prop} {v : Nat → Int32} {B n : Nat} {nx : Nat → Nat} (hΛ : inj Λ) (sh : ModSh Λ M) (hB : B ≤ 40) (en : n = mc v B) (h9 : gI M (Λ 400) 9 = nI n) (hr : ∀ k, k < n → gI M (Λ 407) k = v (mp v B k) ∧ gI M (Λ 408) k = nI (rk v B k)) (hx : nxOk n nx) (hnx : ∀ k, k < n → gI M (Λ 411) k = nI (nx k))
    (hQ : ∀ M', Ch (fun b => b = Λ 400 ∨ b = Λ 412 ∨ b = Λ 413 ∨ b = Λ 414) M M' → (∀ j, j ≠ 18 → j ≠ 22 → gI M' (Λ 400) j = gI M (Λ 400) j) → gI M' (Λ 400) 18 = nI (nS n nx) → (∀ j, j ≤ nS n nx → gI M' (Λ 412) j = nI (ss n nx j)) → (∀ j, j < nS n nx → (gI M' (Λ 413) j).toInt = md n nx (fun k => (v (mp v B k)).toInt) j) → Q M') :
    ∀ (d s : Nat) (M1 : Mm), s + d = nS n nx → LSp Λ M M1 n nx (fun k => (v (mp v B k)).toInt) s → B_X6_layCuts_196 Q (d + 1) (Λ 400) (nI (ss n nx s)) M1 := by
  have hmB := mc_le v B
  have hN := isN_ex hx
  have hNl := nS_le hx
  intro d
  induction d with
  | zero =>
    intro s M1 hd g
    unfold B_X6_layCuts_196
    obtain ⟨gc, gj, g18, gf, gm⟩ := g
    have sh1 := sh.ch gc
    have e : s = nS n nx := by omega
    subst e
    have g9 : gI M1 (Λ 400) 9 = nI n := by rw [gj 9 (by omega) (by omega)]; exact h9
    rw [hN.2, g9, g18]
    refine ⟨sh1.1, fun _ => ⟨Λ 412, sh1.r 12 (by omega) (by omega), sh1.a 12 (by omega) (by omega) (show nS n nx < 41 by omega), ?_⟩, fun c => absurd (Int32.le_refl _) c⟩
    rintro _ rfl
    rw [nI_clamp (by omega)]
    refine hQ _ (gc.step (Or.inr (Or.inl rfl))) (fun j h1 h2 => by rw [gI_pI_ne (hΛ.ne (by omega))]; exact gj j h1 h2) (by rw [gI_pI_ne (hΛ.ne (by omega))]; exact g18) (fun j hj => ?_) (fun j hj => by rw [gI_pI_ne (hΛ.ne (by omega))]; exact gm j hj)
    rw [gI_pI_eq]
    by_cases e : j = nS n nx
    · rw [e, upd_eq, hN.2]
    · rw [upd_ne _ _ e]; exact gf j (by omega)
  | succ d ih =>
    intro s M1 hd g
    unfold B_X6_layCuts_196
    obtain ⟨gc, gj, g18, gf, gm⟩ := g
    have sh1 := sh.ch gc
    have hsl := ss_lt hx (show s < nS n nx by omega)
    have g9 : gI M1 (Λ 400) 9 = nI n := by rw [gj 9 (by omega) (by omega)]; exact h9
    have o1 : ∀ c, c ≠ 400 → c ≠ 412 → c ≠ 413 → c ≠ 414 → gI M1 (Λ c) = gI M (Λ c) := fun c h1 h2 h3 h4 => gc.2 _ (by rintro (e | e | e | e) <;> exact absurd (hΛ _ _ e) (by omega))
    have es : nx (ss n nx s) = ss n nx (s + 1) := by simp only [ss]; rw [if_pos hsl.2.1]
    rw [g9]
    refine ⟨sh1.1, fun c => absurd ((nI_leI (by omega) (by omega)).mp c) (by omega), fun _ => ⟨Λ 411, sh1.r 11 (by omega) (by omega), sh1.a 11 (by omega) (by omega) (show ss n nx s < 41 by omega), ?_⟩⟩
    rw [nI_clamp (by omega), o1 411 (by omega) (by omega) (by omega) (by omega), hnx _ hsl.2.1, es]
    refine m_costOf (n := n) (ρ := rk v B) hΛ sh1 (by omega) hsl.1 hsl.2.2 (fun k hk => (rk_80 hB k (by omega)).2) (fun k hk => by rw [o1 408 (by omega) (by omega) (by omega) (by omega)]; exact (hr k hk).2) (fun r9 M8 e9 g8 => ?_)
    obtain ⟨c8, j8, f8⟩ := g8
    have C8 : Ch (fun b => b = Λ 400 ∨ b = Λ 412 ∨ b = Λ 413 ∨ b = Λ 414) M M8 := gc.trans (c8.mono (by rintro b (e | e) <;> simp [e]))
    have sh8 := sh.ch C8
    have g188 : gI M8 (Λ 400) 18 = nI s := by rw [j8 18 (by omega)]; exact g18
    have o8 : ∀ c, c ≠ 400 → c ≠ 414 → gI M8 (Λ c) = gI M1 (Λ c) := fun c h1 h2 => c8.2 _ (fun z => z.elim (hΛ.ne h1) (hΛ.ne h2))
    have hy := soK_rng (fun k => (rk v B k : Int)) (ss n nx s) (ss n nx (s + 1) - ss n nx s) ((ss n nx (s + 1) - ss n nx s) / 2) (by omega)
    generalize hye : soK (fun k => (rk v B k : Int)) (ss n nx s) (ss n nx (s + 1) - ss n nx s) ((ss n nx (s + 1) - ss n nx s) / 2) = y at *
    have hmid : (v (mp v B y)).toInt = md n nx (fun k => (v (mp v B k)).toInt) s := by
      unfold md
      rw [← soK_key (fun k => (v (mp v B k)).toInt) (ss n nx s) _ _ (by omega), ← hye]
      rw [soK_keys (k1 := fun k => (rk v B k : Int)) (k2 := fun k => (v (mp v B k)).toInt) (fun i j h1 h2 h3 h4 => rk_order (by omega) (by omega))]
    refine ⟨sh8.1, Λ 412, sh8.r 12 (by omega) (by omega), by rw [g188]; exact sh8.a 12 (by omega) (by omega) (show s < 41 by omega), ?_⟩
    rintro _ rfl
    rw [g188, nI_clamp (by omega)]
    have C9 := C8.step (k := s) (v := nI (ss n nx s)) (a := Λ 412) (Or.inr (Or.inl rfl))
    have sh9 := sh.ch C9
    have e0 : gI (pI M8 (Λ 412) s (nI (ss n nx s))) (Λ 400) = gI M8 (Λ 400) := gI_pI_ne (hΛ.ne (by omega))
    have e7 : gI (pI M8 (Λ 412) s (nI (ss n nx s))) (Λ 407) = gI M (Λ 407) := by rw [gI_pI_ne (hΛ.ne (by omega)), o8 _ (by omega) (by omega), o1 _ (by omega) (by omega) (by omega) (by omega)]
    refine ⟨Λ 407, sh9.r 7 (by omega) (by omega), by rw [e0, f8]; exact sh9.a 7 (by omega) (by omega) (show y < 40 by omega), Λ 413, sh9.r 13 (by omega) (by omega), by rw [e0, g188]; exact sh9.a 13 (by omega) (by omega) (show s < 40 by omega), ?_⟩
    rintro _ rfl
    rw [e0, g188, f8, nI_clamp (by omega), nI_clamp (by omega), e7, (hr y (by omega)).1]
    rintro _ rfl
    have e1 : gI (pI (pI M8 (Λ 412) s (nI (ss n nx s))) (Λ 413) s (v (mp v B y))) (Λ 400) = gI M8 (Λ 400) := by rw [gI_pI_ne (hΛ.ne (by omega))]; exact e0
    rw [e1, g188, nI_1]
    have C10 := (C9.step (k := s) (v := v (mp v B y)) (a := Λ 413) (Or.inr (Or.inr (Or.inl rfl)))).step (k := 18) (v := nI (s + 1)) (a := Λ 400) (Or.inl rfl)
    have sh10 := sh.ch C10
    refine ⟨Λ 411, sh10.r 11 (by omega) (by omega), sh10.a 11 (by omega) (by omega) (show ss n nx s < 41 by omega), ?_⟩
    rw [gI_pI_ne (hΛ.ne (by omega)), gI_pI_ne (hΛ.ne (by omega)), gI_pI_ne (hΛ.ne (by omega)), o8 411 (by omega) (by omega), o1 411 (by omega) (by omega) (by omega) (by omega), hnx _ hsl.2.1, es]
    refine ih (s + 1) _ (by omega) ⟨C10, ?_, ?_, ?_, ?_⟩
    · intro j h1 h2; rw [gI_pI_eq, upd_ne _ _ h1, e1, j8 j h2]; exact gj j h1 h2
    · rw [gI_pI_eq, upd_eq]
    · intro j hj
      rw [gI_pI_ne (hΛ.ne (by omega)), gI_pI_ne (hΛ.ne (by omega)), gI_pI_eq]
      by_cases e : j = s
      · rw [e, upd_eq]
      · rw [upd_ne _ _ e, o8 _ (by omega) (by omega)]; exact gf j (by omega)
    · intro j hj
      rw [gI_pI_ne (hΛ.ne (by omega)), gI_pI_eq]
      by_cases e : j = s
      · rw [e, upd_eq]; exact hmid
      · rw [upd_ne _ _ e, gI_pI_ne (hΛ.ne (by omega)), o8 _ (by omega) (by omega)]; exact gm j (by omega)
theorem m_layCuts {Λ : Nat → Nat} {M : Mm} {Q : Mm → Prop} {r B p : Nat} {v : Nat → Int32} (hΛ : inj Λ) (sh : ModSh Λ M) (hr : r < 32) (hB : B ≤ 40) (hp : p ≤ 1000) (h3 : gI M (Λ 400) 3 = nI B) (h13 : gI M (Λ 400) 13 = nI p) (hv : ∀ b, b < 40 → gI M (Λ 404) (40 * r + b) = v b)
    (hQ : ∀ M', Ch (mcS Λ) M M' → (∀ j, j ≠ 9 → j ≠ 18 → j ≠ 22 → gI M' (Λ 400) j = gI M (Λ 400) j) → ModCut Λ M' v B p → Q M') : B_X6_layCuts_0 Q (Λ 400) (nI r) M := by
  have hmB := mc_le v B
  have hx := zX_ok (v := v) hB hp
  refine ⟨sh.1, m_layRow hΛ sh hr hB h3 hv (fun M2 g2 => ?_)⟩
  obtain ⟨c2, g9, gj, gp⟩ := g2
  have C2 : Ch (mcS Λ) M M2 := c2.mono (by rintro b (e | e | e | e) <;> simp [mcS, e])
  have sh2 := sh.ch c2
  refine ⟨sh2.1, Λ 409, sh2.r 9 (by omega) (by omega), by rw [g9]; exact sh2.a 9 (by omega) (by omega) (show mc v B < 41 by omega), ?_⟩
  rintro _ rfl
  rw [g9, nI_clamp (by omega)]
  have e0 : gI (pI M2 (Λ 409) (mc v B) (0 : Int32)) (Λ 400) = gI M2 (Λ 400) := gI_pI_ne (hΛ.ne (by omega))
  have sh3 : ModSh Λ (pI M2 (Λ 409) (mc v B) (0 : Int32)) := sh2.of rfl
  refine ⟨Λ 410, sh3.r 10 (by omega) (by omega), by rw [e0, g9]; exact sh3.a 10 (by omega) (by omega) (show mc v B < 41 by omega), ?_⟩
  rintro _ rfl
  rw [e0, g9, nI_clamp (by omega)]
  have e1 : gI (pI (pI M2 (Λ 409) (mc v B) (0 : Int32)) (Λ 410) (mc v B) (0 : Int32)) (Λ 400) = gI M2 (Λ 400) := by rw [gI_pI_ne (hΛ.ne (by omega))]; exact e0
  have C4 : Ch (mcS Λ) M (pI (pI M2 (Λ 409) (mc v B) (0 : Int32)) (Λ 410) (mc v B) (0 : Int32)) := (C2.step (by simp [mcS])).step (by simp [mcS])
  have o4 : ∀ c, c ≠ 409 → c ≠ 410 → gI (pI (pI M2 (Λ 409) (mc v B) (0 : Int32)) (Λ 410) (mc v B) (0 : Int32)) (Λ c) = gI M2 (Λ c) := fun c h1 h2 => by rw [gI_pI_ne (hΛ.ne h2), gI_pI_ne (hΛ.ne h1)]
  rw [e1, g9]
  generalize pI (pI M2 (Λ 409) (mc v B) (0 : Int32)) (Λ 410) (mc v B) (0 : Int32) = M4 at *
  have sh4 := sh.ch C4
  refine ⟨mc v B + 1, ?_⟩
  refine m_lc_32 (n := mc v B) (p := p) (ρ := rk v B) hΛ sh4 (by omega) hp (by rw [e1]; exact g9) (by rw [e1, gj 13 (by omega)]; exact h13) (rk_80 hB) (fun k hk => by rw [o4 _ (by omega) (by omega)]; exact (gp k hk).2.2) (fun M5 c5 j5 f5 t5 => ?_) (mc v B) M4 (by omega) (Ch.refl _ _) (fun _ _ => rfl) (fun j h1 h2 => absurd h2 (by omega))
  have C5 : Ch (mcS Λ) M M5 := C4.trans (c5.mono (by rintro b (e | e | e | e | e) <;> simp [mcS, e]))
  have sh5 := sh.ch C5
  have o5 : ∀ c, c ≠ 400 → c ≠ 409 → c ≠ 410 → c ≠ 411 → c ≠ 414 → gI M5 (Λ c) = gI M2 (Λ c) := fun c h1 h2 h3 h4 h5 => by rw [c5.2 _ (lcS_not hΛ ⟨h1, h2, h3, h4, h5⟩), o4 _ h2 h3]
  refine ⟨nS (mc v B) (zX v B p) + 1, ?_⟩
  refine m_lc_196 (n := mc v B) (nx := zX v B p) (v := v) (B := B) hΛ sh5 hB rfl (by rw [j5 9 (by omega) (by omega), e1]; exact g9) (fun k hk => by rw [o5 407 (by omega) (by omega) (by omega) (by omega) (by omega), o5 408 (by omega) (by omega) (by omega) (by omega) (by omega)]; exact (gp k hk).2) hx (fun k hk => (t5 k hk (by omega)).2.2) (fun M6 c6 j6 f6 s6 m6 => ?_) (nS (mc v B) (zX v B p)) 0 M5 (by omega) ⟨Ch.refl _ _, fun _ _ _ => rfl, f5, fun j hj => absurd hj (by omega), fun j hj => absurd hj (by omega)⟩
  have o6 : ∀ c, c ≠ 400 → c ≠ 412 → c ≠ 413 → c ≠ 414 → gI M6 (Λ c) = gI M5 (Λ c) := fun c h1 h2 h3 h4 => c6.2 _ (by rintro (e | e | e | e) <;> exact absurd (hΛ _ _ e) (by omega))
  refine hQ M6 (C5.trans (c6.mono (by rintro b (e | e | e | e) <;> simp [mcS, e]))) (fun j h1 h2 h3' => ?_) ⟨?_, ?_, f6, s6, m6, ?_⟩
  · rw [j6 j h2 h3', j5 j h3' h2, e1]; exact gj j h1
  · rw [j6 9 (by omega) (by omega), j5 9 (by omega) (by omega), e1]; exact g9
  · intro i hi
    rw [o6 _ (by omega) (by omega) (by omega) (by omega), o6 _ (by omega) (by omega) (by omega) (by omega), o6 _ (by omega) (by omega) (by omega) (by omega), o5 _ (by omega) (by omega) (by omega) (by omega) (by omega), o5 _ (by omega) (by omega) (by omega) (by omega) (by omega), o5 _ (by omega) (by omega) (by omega) (by omega) (by omega)]
    exact gp i hi
  · intro h0
    rw [o6 _ (by omega) (by omega) (by omega) (by omega)]
    unfold zT
    rw [if_neg (by omega)]
    exact (t5 0 h0 (by omega)).1
