/-! PURE, 28: calls on a row -/
def fil (f : Nat → Int32) : Nat → Int32 := fun b => if b < 40 then -9 else f b
def rx (x y : Int32) : Nat := 4 * tn x + tn y
theorem isR_nI {σ : Sg} {N : Nat} (rg : Rg σ N) {t m : Nat} (ht : t < sT σ) (hm : m < 4) : isR σ (nI t) (nI m) ∧ rx (nI t) (nI m) = 4 * t + m ∧ 4 * t + m < 32 := by
  have hT := rg.2.1.2
  refine ⟨⟨⟨?_, ?_⟩, ?_, ?_⟩, ?_, by omega⟩
  · rw [nI_toInt (by omega)]; omega
  · rw [nI_toInt (by omega)]; omega
  · rw [nI_toInt (by omega)]; omega
  · rw [nI_toInt (by omega)]; omega
  · unfold rx; rw [tn_nI (by omega), tn_nI (by omega)]
theorem x_rowed {Λ : Nat → Nat} {M : Mm} {σ τ : Sg} {N : Nat} {Q : Int32 → Mm → Prop} {BODY : Nat → Option Nat → Mm → Prop} {x y : Int32} (h : Inv Λ M σ τ) (rg : Rg σ N) (h1 : ¬ isR σ x y → Q (-1) M) (h2 : ∀ M', isR σ x y → σ.1 21 (rx x y) = 0 → Inv Λ M' (mt σ 1) τ → Q (-3) M') (h3 : ∀ t m, t < sT σ → m < 4 → x = nI t → y = nI m → ¬ σ.1 21 (4 * t + m) = 0 → BODY (Λ (rc t m)) (some (Λ (rc t m))) M) :
    ok M (Λ 0) 5 ∧ B_X5_findRow_0 (fun r3 M2 => (r3 = none → (ok M2 (Λ 0) 5 ∧ B_X5_refuseRow_0 (fun r M => Q r M) (Λ 0) r3 M2)) ∧ (∀ a4, r3 = some a4 → (ok M2 a4 3 ∧ ((¬ gI M2 a4 1 = 0 → BODY a4 r3 M2) ∧ (gI M2 a4 1 = 0 → (ok M2 (Λ 0) 5 ∧ B_X5_refuseRow_0 (fun r M => Q r M) (Λ 0) r3 M2)))))) (Λ 0) x y M := by
  refine ⟨h.o0, x_findRow h rg (fun z => ⟨fun _ => ⟨h.o0, fun _ => h1 z, fun _ e => by cases e⟩, fun _ e => by cases e⟩) (fun t m ht hm ex ey => ⟨fun e => (by cases e), fun a ea => ?_⟩)⟩
  cases ea
  obtain ⟨_, _, _, _, _, _, _, a8, _, a9⟩ := x_row_at h rg ht hm
  obtain ⟨i1, i2, i3⟩ := isR_nI rg ht hm
  rw [← ex, ← ey] at i1 i2
  refine ⟨a8, fun c => ?_, fun c => ⟨h.o0, fun e => (by cases e), fun _ _ => ⟨h.o0, ?_⟩⟩⟩
  · rw [a9.1] at c; exact h3 t m ht hm ex ey c
  · rw [a9.1] at c
    exact x_refuse 1 h (by omega) (fun M' h' => h2 M' i1 (by rw [i2]; exact c) h')
/-- the values of a row change -/
theorem Inv.xV {Λ : Nat → Nat} {M M' : Mm} {σ τ : Sg} {N t m : Nat} {f : Nat → Int32} {w : Int32} (h : Inv Λ M σ τ) (rg : Rg σ N) (ht : t < 8) (hm : m < 4) (e : M'.2 = M.2) (eI : ∀ c, c ≠ rc t m → c ≠ rc t m + 1 → gI M' (Λ c) = gI M (Λ c)) (e1 : gI M' (Λ (rc t m)) 1 = w) (e3 : gI M' (Λ (rc t m)) 3 = 1) (ef : gI M' (Λ (rc t m + 1)) = f) (hR : RX Λ M σ t m) : Inv Λ M' (uI (uA σ (100 + (4 * t + m)) f) 21 (4 * t + m) w) τ := by
  have e2 : M'.2.2 = M.2.2 := by rw [e]
  have eJ : gJ M' = gJ M := by unfold gJ; rw [e]
  refine h.xR (t := t) (m := m) ht hm e2 ⟨?_, ?_, fun b hb => ?_, fun c => ?_⟩ (fun c h1 _ => eI c (by omega) (by omega)) (fun c _ => by rw [eJ]) rfl (fun a ha => by rw [uI_ne _ _ _ (by omega), uA_ne _ _ (by omega)]) (fun r hr => by rw [uI_eq, upd_ne _ _ hr, uA_ne _ _ (by omega)]) (fun r hr h1 => ⟨by rw [uI_ne _ _ _ (by omega), uA_ne _ _ (by omega)], by rw [uI_ne _ _ _ (by omega), uA_ne _ _ (by omega)]⟩) rg.2.1.2
  · rw [uI_eq, upd_eq]; exact e1
  · rw [uI_ne _ _ _ (by omega), uA_eq]; exact ef
  · rw [uI_ne _ _ _ (by omega), uA_ne _ _ (by omega), eJ]; exact hR.2.2.1 b hb
  · rw [e3] at c; exact absurd c (by decide)
theorem Rg.vals {σ : Sg} {N r : Nat} {f : Nat → Int32} {w : Int32} (h : Rg σ N) (hr : r < 4 * sT σ) (hf : vOk f) (hw : bl w) : Rg (uI (uA σ (100 + r) f) 21 r w) N := by
  have hT := h.2.1.2
  obtain ⟨h1, h2, h3, h4, h5, h6, h7, h8, h9, h10⟩ := h
  have g : ∀ a, a < 21 → (uI (uA σ (100 + r) f) 21 r w).1 a = σ.1 a := fun a ha => by rw [uI_ne _ _ _ (by omega), uA_ne _ _ (by omega)]
  unfold Rg sB sT sP sR Hv
  rw [g 0 (by omega), g 9 (by omega)]
  refine ⟨h1, h2, h3, h4, fun x hx => ?_, fun x hx => ?_, fun x hx hy => ?_, fun x hx b hb => ?_, h9, h10⟩
  · rw [uI_ne _ _ _ (by omega)]
    by_cases e : x = r
    · subst e; rw [uA_eq]; exact hf
    · rw [uA_ne _ _ (by omega)]; exact h5 x hx
  · rw [uI_eq]
    by_cases e : x = r
    · subst e; rw [upd_eq]; exact hw
    · rw [upd_ne _ _ e, uA_ne _ _ (by omega)]; exact h6 x hx
  · have hy' : 4 * sT σ ≤ x := hy
    rw [uI_eq, upd_ne _ _ (by omega), uA_ne _ _ (by omega)]; exact h7 x hx hy
  · rw [uI_ne _ _ _ (by omega), uA_ne _ _ (by omega)]; exact h8 x hx b hb
theorem vOk_fil (f : Nat → Int32) : vOk (fil f) := fun b hb => Or.inl (by unfold fil; rw [if_pos hb])
/-- the class empties a row -/
theorem x_empty {Λ : Nat → Nat} {M : Mm} {Q : Mm → Prop} {r : Nat} (hΛ : inj Λ) (rs : RowSh Λ M r) (hQ : ∀ M', Ch (fun b => b = Λ r ∨ b = Λ (r + 1)) M M' → gI M' (Λ r) 1 = gI M (Λ r) 1 → gI M' (Λ r) 3 = 1 → gI M' (Λ (r + 1)) = fil (gI M (Λ (r + 1))) → Q M') : B_X3_empty_0 Q (Λ r) M := by
  unfold B_X3_empty_0
  rw [rs.2.1.1]
  refine ⟨rs.1, x_fill (N := 40) (by omega) (rs.2.2.1 1 (by omega) (by omega)) (rs.2.2.2.1 1 (by omega) (by omega) (by omega)) (fun M2 c2 f1 f2 => ⟨c2.okk.mpr rs.1, ?_⟩)⟩
  rintro _ rfl
  have n1 : Λ r ≠ Λ (r + 1) := hΛ.ne (by omega)
  refine hQ _ (Ch.step (Ch.mono (T := fun b => b = Λ r ∨ b = Λ (r + 1)) c2 (fun b hb => Or.inr hb)) (Or.inl rfl)) ?_ ?_ ?_
  · rw [gI_pI_eq, upd_ne _ _ (by omega), c2.2 _ n1]
  · rw [gI_pI_eq, upd_eq]
  · rw [gI_pI_ne (Ne.symm n1)]
    funext j
    unfold fil
    split
    · next hj => exact f1 j hj
    · next hj => exact f2 j (by omega)
-- 5 row
def s_row (σ : Sg) (x y : Int32) : Int32 × Sg := if isR σ x y then (if σ.1 21 (rx x y) = 0 then 0 else 1, uI (uA σ (100 + rx x y) (fil (σ.1 (100 + rx x y)))) 21 (rx x y) 1) else (-1, σ)
theorem x_row {Λ : Nat → Nat} {M : Mm} {σ τ : Sg} {N : Nat} {Q : Int32 → Mm → Prop} {x y : Int32} (h : Inv Λ M σ τ) (rg : Rg σ N) (hQ : ∀ M', Inv Λ M' (s_row σ x y).2 τ → Q (s_row σ x y).1 M') : B_X5_row_0 Q (Λ 0) x y M := by
  have hT := rg.2.1.2
  unfold s_row at hQ
  unfold B_X5_row_0 B_X5_row_25
  refine ⟨h.o0, x_findRow h rg (fun z => ⟨fun _ => ?_, fun _ e => by cases e⟩) (fun t m ht hm ex ey => ⟨fun e => (by cases e), fun a ea => ?_⟩)⟩
  · rw [if_neg z] at hQ; exact hQ M h
  cases ea
  obtain ⟨_, _, _, _, _, _, _, a8, rs, a9⟩ := x_row_at h rg ht hm
  obtain ⟨i1, i2, i3⟩ := isR_nI rg ht hm
  rw [← ex, ← ey] at i1 i2
  rw [if_pos i1, i2] at hQ
  have body : ∀ s0 : Int32, s0 = (if σ.1 21 (4 * t + m) = 0 then 0 else 1) → B_X3_empty_0 (fun M3 => (ok M3 (Λ (rc t m)) 3 ∧ (∀ M5, M5 = pI M3 (Λ (rc t m)) 1 (1 : Int32) → Q s0 M5))) (Λ (rc t m)) M := by
    intro s0 hs
    have n1 : Λ (rc t m + 1) ≠ Λ (rc t m) := h.hΛ.ne (by omega)
    refine x_empty h.hΛ rs (fun M' c' k1 k3 kf => ⟨c'.okk.mpr a8, ?_⟩)
    rintro _ rfl
    rw [hs]
    refine hQ _ (h.xV rg (by omega) hm (show (pI M' _ _ _).2 = M.2 from c'.1) (fun c h1 h2 => ?_) ?_ ?_ ?_ a9)
    · rw [gI_pI_ne (h.hΛ.ne h1)]; exact c'.2 _ (fun z => z.elim (h.hΛ.ne h1) (h.hΛ.ne h2))
    · rw [gI_pI_eq, upd_eq]
    · rw [gI_pI_eq, upd_ne _ _ (by omega)]; exact k3
    · rw [gI_pI_ne n1, kf, a9.2.1]
  rw [a9.1]
  refine ⟨a8, fun c => ⟨Λ (rc t m), rfl, a8, body 0 ?_⟩, fun c => ⟨Λ (rc t m), rfl, a8, body 1 ?_⟩⟩
  · rw [if_pos c]
  · rw [if_neg c]
/-- the reference fills a row -/
theorem m_fill {Λ : Nat → Nat} {M : Mm} {Q : Int32 → Mm → Prop} {x4 : Int32} {r : Nat} (sh : ModSh Λ M) (hr : r < 32) (hQ : ∀ M', Ch (fun b => b = Λ 404) M M' → (∀ j, j < 1280 → gI M' (Λ 404) j = if 40 * r ≤ j ∧ j < 40 * r + 40 then -9 else gI M (Λ 404) j) → Q x4 M') :
    ∀ (d k : Nat) (M1 : Mm), k + d = 40 → Ch (fun b => b = Λ 404) M M1 → (∀ j, j < 1280 → gI M1 (Λ 404) j = if 40 * r ≤ j ∧ j < 40 * r + k then -9 else gI M (Λ 404) j) → B_X6_row_43 Q (d + 1) (Λ 400) (nI r) x4 (nI k) M1 := by
  intro d
  induction d with
  | zero =>
    intro k M1 hk gc g1
    unfold B_X6_row_43
    have e : k = 40 := by omega
    subst e
    exact ⟨fun _ => hQ M1 gc g1, fun c => absurd (Int32.le_refl _) c⟩
  | succ d ih =>
    intro k M1 hk gc g1
    unfold B_X6_row_43
    have sh1 := sh.ch gc
    rw [e40rb]
    refine ⟨fun c => absurd ((nI_leI (a := 40) (by omega) (by omega)).mp c) (by omega), fun _ => ⟨sh1.1, Λ 404, sh1.r 4 (by omega) (by omega), sh1.a 4 (by omega) (by omega) (show 40 * r + k < 1280 by omega), ?_⟩⟩
    rintro _ rfl
    rw [nI_clamp (by omega), nI_1]
    refine ih (k + 1) _ (by omega) (gc.step rfl) (fun j hj => ?_)
    rw [gI_pI_eq]
    by_cases e : j = 40 * r + k
    · rw [e, upd_eq, if_pos (by omega)]
    · rw [upd_ne _ _ e, g1 j hj]
      by_cases e2 : 40 * r ≤ j ∧ j < 40 * r + k
      · rw [if_pos e2, if_pos (by omega)]
      · rw [if_neg e2, if_neg (by omega)]
theorem Inv.yV {Λ : Nat → Nat} {M M' : Mm} {σ τ : Sg} {N r : Nat} {f : Nat → Int32} {w : Int32} (h : Inv Λ M σ τ) (hT : sT σ ≤ 8) (rg : Rg τ N) (hr : r < 32) (e : M'.2 = M.2) (eI : ∀ c, c ≠ 403 → c ≠ 404 → c ≠ 405 → gI M' (Λ c) = gI M (Λ c)) (e3 : gI M' (Λ 403) = upd (gI M (Λ 403)) r w) (e4 : ¬ w = 0 → ∀ b, b < 40 → gI M' (Λ 404) (40 * r + b) = f b) (eo : ∀ j, j < 1280 → ¬ (40 * r ≤ j ∧ j < 40 * r + 40) → gI M' (Λ 404) j = gI M (Λ 404) j) : Inv Λ M' σ (uI (uA τ (100 + r) f) 21 r w) := by
  refine h.yR (r0 := r) hT (by rw [e]) (fun c h1 h2 h3 _ => eI c h1 h2 h3) (by unfold gJ; rw [e]) rfl (fun a ha => by rw [uI_ne _ _ _ (by omega), uA_ne _ _ (by omega)]) ?_ (fun r' hr' z b hb => ?_) (fun r' hr' b hb => ?_)
  · rw [e3, uI_eq, uA_ne _ _ (by omega), h.cm.2.2.1.2.2.2]
  · rw [uI_ne _ _ _ (by omega)]
    rw [uI_eq] at z
    by_cases q : r' = r
    · subst q; rw [upd_eq] at z; rw [uA_eq]; exact e4 z b hb
    · rw [upd_ne _ _ q, uA_ne _ _ (by omega)] at z
      rw [uA_ne _ _ (by omega), eo _ (by omega) (by omega)]; exact h.cm.2.2.2.1 r' hr' z b hb
  · rw [uI_ne _ _ _ (by omega), uA_ne _ _ (by omega), eI 419 (by omega) (by omega) (by omega)]; exact h.cm.2.2.2.2 r' hr' b hb
theorem m_row {Λ : Nat → Nat} {M : Mm} {σ τ : Sg} {N : Nat} {Q : Int32 → Mm → Prop} {x y : Int32} (h : Inv Λ M σ τ) (hT : sT σ ≤ 8) (rg : Rg τ N) (hQ : ∀ M', Inv Λ M' σ (s_row τ x y).2 → Q (s_row τ x y).1 M') : B_X6_row_0 Q (Λ 400) x y M := by
  unfold s_row at hQ
  unfold B_X6_row_0 B_X6_row_31
  refine ⟨h.m0, m_isRow h rg (fun z => z0' ?_) (fun t m ht hm ex ey => z1' ?_)⟩
  · rw [if_neg z] at hQ; exact hQ M h
  have hTT := rg.2.1.2
  obtain ⟨i1, i2, i3⟩ := isR_nI rg ht hm
  rw [← ex, ← ey] at i1 i2
  rw [if_pos i1, i2] at hQ
  rw [ex, ey, e4tm]
  have a3 := h.ms.a 3 (by omega) (by omega) (show 4 * t + m < 32 by omega)
  have r3 := h.ms.r 3 (by omega) (by omega)
  refine ⟨h.m0, Λ 403, r3, a3, ?_⟩
  rw [nI_clamp (by omega), h.cm.2.2.1.2.2.2]
  have body : ∀ s0 : Int32, s0 = (if τ.1 21 (4 * t + m) = 0 then 0 else 1) → ∀ M4, M4 = pI M (Λ 403) (4 * t + m) (1 : Int32) → ∃ n5, B_X6_row_43 Q n5 (Λ 400) (nI (4 * t + m)) s0 (0 : Int32) M4 := by
    intro s0 hs M4 e4
    have c4 : Ch (fun b => b = Λ 403) M M4 := by rw [e4]; exact Ch.put rfl
    refine ⟨40 + 1, m_fill (h.ms.ch c4) i3 (fun M' c' f' => ?_) 40 0 M4 (by omega) (Ch.refl _ _) (fun j hj => by rw [if_neg (by omega)])⟩
    have n43 : Λ 403 ≠ Λ 404 := h.hΛ.ne (by omega)
    rw [hs]
    refine hQ _ (h.yV (f := fil (τ.1 (100 + (4 * t + m)))) hT rg i3 (c'.1.trans c4.1) (fun c h1 h2 h3 => ?_) ?_ (fun _ b hb => ?_) (fun j hj z => ?_))
    · rw [c'.2 _ (h.hΛ.ne h2), c4.2 _ (h.hΛ.ne h1)]
    · rw [c'.2 _ n43, e4, gI_pI_eq]
    · rw [f' _ (by omega), if_pos (by omega)]; unfold fil; rw [if_pos hb]
    · rw [f' _ hj, if_neg z, c4.2 _ (Ne.symm n43)]
  exact ⟨fun c => ⟨h.m0, Λ 403, r3, a3, body 0 (by rw [if_pos c])⟩, fun c => ⟨h.m0, Λ 403, r3, a3, body 1 (by rw [if_neg c])⟩⟩
theorem r_row {σ : Sg} {N : Nat} {x y : Int32} (h : Rg σ N) : Rg (s_row σ x y).2 N := by
  unfold s_row
  split
  · next c =>
    refine h.vals ?_ (vOk_fil _) (Or.inr rfl)
    have := c.1.2; have := c.2.2; have := c.1.1; have := c.2.1
    unfold rx tn; omega
  · exact h
-- 8 tear
def s_tear (σ : Sg) (x y : Int32) : Int32 × Sg := if isR σ x y then if σ.1 21 (rx x y) = 0 then (-3, mt σ 1) else (1, uI (uA σ (100 + rx x y) (fil (σ.1 (100 + rx x y)))) 21 (rx x y) 0) else (-1, σ)
theorem x_tear {Λ : Nat → Nat} {M : Mm} {σ τ : Sg} {N : Nat} {Q : Int32 → Mm → Prop} {x y : Int32} (h : Inv Λ M σ τ) (rg : Rg σ N) (hQ : ∀ M', Inv Λ M' (s_tear σ x y).2 τ → Q (s_tear σ x y).1 M') : B_X5_tear_0 Q (Λ 0) x y M := by
  have hT := rg.2.1.2
  unfold s_tear at hQ
  unfold B_X5_tear_0 B_X5_tear_18
  refine x_rowed h rg (fun z => ?_) (fun M' z1 z2 h' => ?_) (fun t m ht hm ex ey z => ?_)
  · rw [if_neg z] at hQ; exact hQ M h
  · rw [if_pos z1, if_pos z2] at hQ; exact hQ M' h'
  obtain ⟨_, _, _, _, _, _, _, a8, rs, a9⟩ := x_row_at h rg ht hm
  obtain ⟨i1, i2, i3⟩ := isR_nI rg ht hm
  rw [← ex, ← ey] at i1 i2
  rw [if_pos i1, i2, if_neg z] at hQ
  have n1 : Λ (rc t m + 1) ≠ Λ (rc t m) := h.hΛ.ne (by omega)
  refine x_empty h.hΛ rs (fun M' c' k1 k3 kf => ⟨c'.okk.mpr a8, ?_⟩)
  rintro _ rfl
  refine hQ _ (h.xV rg (by omega) hm (show (pI M' _ _ _).2 = M.2 from c'.1) (fun c h1 h2 => ?_) ?_ ?_ ?_ a9)
  · rw [gI_pI_ne (h.hΛ.ne h1)]; exact c'.2 _ (fun z => z.elim (h.hΛ.ne h1) (h.hΛ.ne h2))
  · rw [gI_pI_eq, upd_eq]
  · rw [gI_pI_eq, upd_ne _ _ (by omega)]; exact k3
  · rw [gI_pI_ne n1, kf, a9.2.1]
/-- the reference's look at a row -/
theorem m_rowed {Λ : Nat → Nat} {M : Mm} {σ τ : Sg} {N : Nat} {Q : Int32 → Mm → Prop} {BODY : Nat → Prop} {x y : Int32} (h : Inv Λ M σ τ) (hT : sT σ ≤ 8) (rg : Rg τ N) {t m : Nat} (ht : t < sT τ) (hm : m < 4) (ex : x = nI t) (ey : y = nI m) (h2 : ∀ M', isR τ x y → τ.1 21 (rx x y) = 0 → Inv Λ M' σ (mt τ 1) → Q (-3) M') (h3 : ¬ τ.1 21 (4 * t + m) = 0 → BODY (Λ 403)) :
    ok M (Λ 400) 6 ∧ ∃ a6, gR M (Λ 400) 6 = some a6 ∧ (ar M a6 9 (((4 : Int32) * x) + y) ∧ ((¬ gI M a6 (Int32.toNatClampNeg (((4 : Int32) * x) + y)) = 0 → BODY a6) ∧ (gI M a6 (Int32.toNatClampNeg (((4 : Int32) * x) + y)) = 0 → B_X6_meets_0 (fun r M => Q r M) (Λ 400) (1 : Int32) M))) := by
  have hTT := rg.2.1.2
  obtain ⟨i1, i2, i3⟩ := isR_nI rg ht hm
  rw [ex, ey, e4tm]
  refine ⟨h.m0, Λ 403, h.ms.r 3 (by omega) (by omega), h.ms.a 3 (by omega) (by omega) i3, ?_⟩
  rw [nI_clamp (by omega), h.cm.2.2.1.2.2.2]
  exact ⟨h3, fun c => m_meets 1 h hT (by omega) (fun M' h' => h2 M' (by rw [ex, ey]; exact i1) (by rw [ex, ey, i2]; exact c) h')⟩
theorem m_tear {Λ : Nat → Nat} {M : Mm} {σ τ : Sg} {N : Nat} {Q : Int32 → Mm → Prop} {x y : Int32} (h : Inv Λ M σ τ) (hT : sT σ ≤ 8) (rg : Rg τ N) (hQ : ∀ M', Inv Λ M' σ (s_tear τ x y).2 → Q (s_tear τ x y).1 M') : B_X6_tear_0 Q (Λ 400) x y M := by
  unfold s_tear at hQ
  unfold B_X6_tear_0
  refine ⟨h.m0, m_isRow h rg (fun z => z0' ?_) (fun t m ht hm ex ey => z1' ?_)⟩
  · rw [if_neg z] at hQ; exact hQ M h
  have hTT := rg.2.1.2
  obtain ⟨i1, i2, i3⟩ := isR_nI rg ht hm
  rw [← ex, ← ey] at i1 i2
  refine m_rowed h hT rg ht hm ex ey (fun M' z1 z2 h' => ?_) (fun z => ?_)
  · rw [if_pos z1, if_pos z2] at hQ; exact hQ M' h'
  · rw [if_pos i1, i2, if_neg z] at hQ
    rw [ex, ey, e4tm]
    refine ⟨h.ms.a 3 (by omega) (by omega) i3, ?_⟩
    rintro _ rfl
    rw [nI_clamp (by omega)]
    refine hQ _ (h.yV (f := fil (τ.1 (100 + (4 * t + m)))) hT rg i3 rfl (fun c h1 h2 h3 => gI_pI_ne (h.hΛ.ne h1)) gI_pI_eq (fun z => absurd rfl z) (fun j hj z => by rw [gI_pI_ne (h.hΛ.ne (by omega))]))
theorem r_tear {σ : Sg} {N : Nat} {x y : Int32} (h : Rg σ N) : Rg (s_tear σ x y).2 N := by
  unfold s_tear
  split
  · next c =>
    split
    · exact h.met 1
    · refine h.vals ?_ (vOk_fil _) (Or.inl rfl)
      have := c.1.2; have := c.2.2; have := c.1.1; have := c.2.1
      unfold rx tn; omega
  · exact h
-- 6 lay, 7 at
def s_lay (σ : Sg) (x y b v : Int32) : Int32 × Sg := if isR σ x y ∧ (v = -9 ∨ ¬ (v < 0 ∨ (1000000 : Int32) < v)) then if σ.1 21 (rx x y) = 0 then (-3, mt σ 1) else if b < 0 ∨ (40 : Int32) ≤ b then (-3, mt σ 2) else (σ.1 (100 + rx x y) (tn b), uA σ (100 + rx x y) (upd (σ.1 (100 + rx x y)) (tn b) v)) else (-1, σ)
def s_at (σ : Sg) (x y b : Int32) : Int32 × Sg := if isR σ x y then if σ.1 21 (rx x y) = 0 then (-3, mt σ 1) else if b < 0 ∨ (40 : Int32) ≤ b then (-3, mt σ 2) else (σ.1 (100 + rx x y) (tn b), σ) else (-1, σ)
theorem b40 {b : Int32} (c : ¬ (b < 0 ∨ (40 : Int32) ≤ b)) : b = nI (tn b) ∧ tn b < 40 := by
  have c1 : ¬ b.toInt < 0 := fun z => c (Or.inl (lt_I.mpr z))
  have c2 : ¬ (40 : Int) ≤ b.toInt := fun z => c (Or.inr (le_I.mpr z))
  exact ⟨nI_tn (by omega), by unfold tn; omega⟩
theorem x_place {M : Mm} {Q : Int32 → Mm → Prop} {b : Int32} (h0 : (b < 0 ∨ (40 : Int32) ≤ b) → Q 0 M) (h1 : ¬ (b < 0 ∨ (40 : Int32) ≤ b) → Q 1 M) : B_X5_isPlace_0 Q b M := ⟨fun c => h0 (Or.inl c), fun c => ⟨fun d => h0 (Or.inr d), fun d => h1 (fun z => z.elim c d)⟩⟩
theorem m_place {M : Mm} {Q : Int32 → Mm → Prop} {b : Int32} (h0 : (b < 0 ∨ (40 : Int32) ≤ b) → Q 0 M) (h1 : ¬ (b < 0 ∨ (40 : Int32) ≤ b) → Q 1 M) : B_X6_in_0 Q b 0 39 M := by
  have e : (39 : Int32) < b ↔ (40 : Int32) ≤ b := by
    rw [lt_I, le_I, show (39 : Int32).toInt = 39 from rfl, show (40 : Int32).toInt = 40 from rfl]; omega
  exact m_in (fun c => h0 (c.imp id e.mp)) (fun c d => h1 (fun z => z.elim c (fun w => d (e.mpr w))))
theorem x_lay {Λ : Nat → Nat} {M : Mm} {σ τ : Sg} {N : Nat} {Q : Int32 → Mm → Prop} {x y b v : Int32} (h : Inv Λ M σ τ) (rg : Rg σ N) (hQ : ∀ M', Inv Λ M' (s_lay σ x y b v).2 τ → Q (s_lay σ x y b v).1 M') : B_X5_lay_0 Q (Λ 0) x y b v M := by
  have hT := rg.2.1.2
  unfold s_lay at hQ
  unfold B_X5_lay_0
  refine ⟨h.o0, x_findRow h rg (fun z => ⟨fun _ => ?_, fun _ e => by cases e⟩) (fun t m ht hm ex ey => ⟨fun e => (by cases e), fun a ea => ?_⟩)⟩
  · rw [if_neg (fun w => z w.1)] at hQ; exact hQ M h
  cases ea
  obtain ⟨_, _, _, _, _, _, _, a8, rs, a9⟩ := x_row_at h rg ht hm
  obtain ⟨i1, i2, i3⟩ := isR_nI rg ht hm
  rw [← ex, ← ey] at i1 i2
  have body : (v = -9 ∨ ¬ (v < 0 ∨ (1000000 : Int32) < v)) → B_X5_lay_32 Q (Λ 0) b v (some (Λ (rc t m))) M := by
    intro hv
    rw [if_pos ⟨i1, hv⟩, i2] at hQ
    unfold B_X5_lay_32
    refine ⟨Λ (rc t m), rfl, a8, fun c => x_place (fun d => z0' ⟨h.o0, x_refuse 2 h (by omega) (fun M' h' => ?_)⟩) (fun d => z1' ⟨a8, Λ (rc t m + 1), rs.2.1.1, ?_, ?_, ?_⟩), fun c => ⟨h.o0, x_refuse 1 h (by omega) (fun M' h' => ?_)⟩⟩
    · rw [a9.1] at c; rw [if_neg c, if_pos d] at hQ; exact hQ M' h'
    · rw [(b40 d).1]; exact ar_nI (rs.2.2.1 1 (by omega) (by omega)) (rs.2.2.2.1 1 (by omega) (by omega) (by omega)) (b40 d).2 (by omega)
    · rw [(b40 d).1]; exact ar_nI (rs.2.2.1 1 (by omega) (by omega)) (rs.2.2.2.1 1 (by omega) (by omega) (by omega)) (b40 d).2 (by omega)
    · rintro _ rfl _ rfl
      rw [a9.1] at c
      rw [if_neg c, if_neg d] at hQ
      have n1 : Λ (rc t m + 1) ≠ Λ (rc t m) := h.hΛ.ne (by omega)
      have e : Int32.toNatClampNeg b = tn b := rfl
      rw [e, a9.2.1]
      refine hQ _ ?_
      have h' := h.xV (M' := pI (pI M (Λ (rc t m + 1)) (tn b) v) (Λ (rc t m)) 3 1) (f := upd (σ.1 (100 + (4 * t + m))) (tn b) v) (w := σ.1 21 (4 * t + m)) rg (by omega) hm rfl (fun c h1 h2 => by rw [gI_pI_ne (h.hΛ.ne h1), gI_pI_ne (h.hΛ.ne h2)]) (by rw [gI_pI_eq, upd_ne _ _ (by omega), gI_pI_ne (Ne.symm n1)]; exact a9.1) (by rw [gI_pI_eq, upd_eq]) (by rw [gI_pI_ne n1, gI_pI_eq, a9.2.1]) a9
      have es : σ.1 21 (4 * t + m) = (uA σ (100 + (4 * t + m)) (upd (σ.1 (100 + (4 * t + m))) (tn b) v)).1 21 (4 * t + m) := by rw [uA_ne _ _ (by omega)]
      rw [es, uI_self] at h'
      exact h'
    · rw [a9.1] at c; rw [if_pos c] at hQ; exact hQ M' h'
  refine ⟨fun c => body (Or.inl c), fun c => x_within (fun d => z0' ?_) (fun d1 d2 => z1' (body (Or.inr (fun w => w.elim d1 d2))))⟩
  rw [if_neg (fun w => w.2.elim c (fun q => q d))] at hQ; exact hQ M h
theorem m_lay {Λ : Nat → Nat} {M : Mm} {σ τ : Sg} {N : Nat} {Q : Int32 → Mm → Prop} {x y b v : Int32} (h : Inv Λ M σ τ) (hT : sT σ ≤ 8) (rg : Rg τ N) (hQ : ∀ M', Inv Λ M' σ (s_lay τ x y b v).2 → Q (s_lay τ x y b v).1 M') : B_X6_lay_0 Q (Λ 400) x y b v M := by
  unfold s_lay at hQ
  unfold B_X6_lay_0
  refine ⟨h.m0, m_isRow h rg (fun z => z0 ?_) (fun t m ht hm ex ey => z1 ?_)⟩
  · rw [if_neg (fun w => z w.1)] at hQ; exact hQ M h
  have hTT := rg.2.1.2
  obtain ⟨i1, i2, i3⟩ := isR_nI rg ht hm
  rw [← ex, ← ey] at i1 i2
  have body : (v = -9 ∨ ¬ (v < 0 ∨ (1000000 : Int32) < v)) → B_X6_lay_29 Q (Λ 400) x y b v M := by
    intro hv
    unfold B_X6_lay_29
    refine m_rowed h hT rg ht hm ex ey (fun M' z1 z2 h' => ?_) (fun z => ?_)
    · rw [if_pos ⟨i1, hv⟩, if_pos z2] at hQ; exact hQ M' h'
    · rw [if_pos ⟨i1, hv⟩, i2, if_neg z] at hQ
      refine m_place (fun d => z0' ⟨h.m0, m_meets 2 h hT (by omega) (fun M' h' => ?_)⟩) (fun d => z1' ?_)
      · rw [if_pos d] at hQ; exact hQ M' h'
      · rw [if_neg d] at hQ
        have eb : ((40 : Int32) * (((4 : Int32) * x) + y)) + b = nI (40 * (4 * t + m) + tn b) := by rw [ex, ey, e4tm, (b40 d).1, e40rb, tn_nI (by have := (b40 d).2; omega)]
        have hb := (b40 d).2
        rw [eb]
        refine ⟨h.m0, Λ 404, h.ms.r 4 (by omega) (by omega), h.ms.a 4 (by omega) (by omega) (show _ < 1280 by omega), h.ms.a 4 (by omega) (by omega) (show _ < 1280 by omega), ?_⟩
        rintro _ rfl
        rw [nI_clamp (by omega), h.cm.2.2.2.1 _ i3 z _ hb]
        refine hQ _ ?_
        have h' := h.yV (M' := pI M (Λ 404) (40 * (4 * t + m) + tn b) v) (f := upd (τ.1 (100 + (4 * t + m))) (tn b) v) (w := τ.1 21 (4 * t + m)) hT rg i3 rfl (fun c h1 h2 h3 => gI_pI_ne (h.hΛ.ne h2)) (by rw [gI_pI_ne (h.hΛ.ne (by omega)), h.cm.2.2.1.2.2.2, upd_self]) (fun z b' hb' => by
            rw [gI_pI_eq]
            by_cases q : b' = tn b
            · rw [q, upd_eq, upd_eq]
            · rw [upd_ne _ _ (by omega), upd_ne _ _ q]; exact h.cm.2.2.2.1 _ i3 z _ hb') (fun j hj z => by rw [gI_pI_eq, upd_ne _ _ (by omega)])
        have es : τ.1 21 (4 * t + m) = (uA τ (100 + (4 * t + m)) (upd (τ.1 (100 + (4 * t + m))) (tn b) v)).1 21 (4 * t + m) := by rw [uA_ne _ _ (by omega)]
        rw [es, uI_self] at h'
        exact h'
  refine ⟨fun c => body (Or.inl c), fun c => m_in (fun d => z0' ?_) (fun d1 d2 => z1' (body (Or.inr (fun w => w.elim d1 d2))))⟩
  rw [if_neg (fun w => w.2.elim c (fun q => q d))] at hQ; exact hQ M h
theorem Rg.vals1 {σ : Sg} {N r : Nat} {f : Nat → Int32} (h : Rg σ N) (hr : r < 4 * sT σ) (hf : vOk f) : Rg (uA σ (100 + r) f) N := by
  have hT := h.2.1.2
  have := h.vals (w := σ.1 21 r) hr hf (h.2.2.2.2.2.1 r (by omega))
  have es : σ.1 21 r = (uA σ (100 + r) f).1 21 r := by rw [uA_ne _ _ (by omega)]
  rw [es, uI_self] at this
  exact this
theorem isR_lt {σ : Sg} {x y : Int32} (c : isR σ x y) : rx x y < 4 * sT σ := by
  have := c.1.2; have := c.2.2; have := c.1.1; have := c.2.1
  unfold rx tn; omega
theorem r_lay {σ : Sg} {N : Nat} {x y b v : Int32} (h : Rg σ N) : Rg (s_lay σ x y b v).2 N := by
  have hT := h.2.1.2
  unfold s_lay
  split
  · next c =>
    have hl := isR_lt c.1
    split
    · exact h.met 1
    · split
      · exact h.met 2
      · refine h.vals1 hl (fun b' hb' => ?_)
        by_cases q : b' = tn b
        · rw [q, upd_eq]
          rcases c.2 with w | w
          · exact Or.inl w
          · have w1 : ¬ v.toInt < 0 := fun z => w (Or.inl (lt_I.mpr z))
            have w2 : ¬ (1000000 : Int) < v.toInt := fun z => w (Or.inr (lt_I.mpr z))
            exact Or.inr ⟨by omega, by omega⟩
        · rw [upd_ne _ _ q]; exact h.2.2.2.2.1 _ (by omega) b' hb'
  · exact h
theorem x_at {Λ : Nat → Nat} {M : Mm} {σ τ : Sg} {N : Nat} {Q : Int32 → Mm → Prop} {x y b : Int32} (h : Inv Λ M σ τ) (rg : Rg σ N) (hQ : ∀ M', Inv Λ M' (s_at σ x y b).2 τ → Q (s_at σ x y b).1 M') : B_X5_at_0 Q (Λ 0) x y b M := by
  unfold s_at at hQ
  unfold B_X5_at_0 B_X5_at_21
  refine x_rowed h rg (fun z => ?_) (fun M' z1 z2 h' => ?_) (fun t m ht hm ex ey z => ?_)
  · rw [if_neg z] at hQ; exact hQ M h
  · rw [if_pos z1, if_pos z2] at hQ; exact hQ M' h'
  obtain ⟨_, _, _, _, _, _, _, a8, rs, a9⟩ := x_row_at h rg ht hm
  obtain ⟨i1, i2, i3⟩ := isR_nI rg ht hm
  rw [← ex, ← ey] at i1 i2
  rw [if_pos i1, i2, if_neg z] at hQ
  refine x_place (fun d => z0' ⟨h.o0, x_refuse 2 h (by omega) (fun M' h' => ?_)⟩) (fun d => z1' ⟨a8, Λ (rc t m + 1), rs.2.1.1, ?_, ?_⟩)
  · rw [if_pos d] at hQ; exact hQ M' h'
  · rw [(b40 d).1]; exact ar_nI (rs.2.2.1 1 (by omega) (by omega)) (rs.2.2.2.1 1 (by omega) (by omega) (by omega)) (b40 d).2 (by omega)
  · rw [if_neg d] at hQ; rw [a9.2.1]; exact hQ M h
theorem m_at {Λ : Nat → Nat} {M : Mm} {σ τ : Sg} {N : Nat} {Q : Int32 → Mm → Prop} {x y b : Int32} (h : Inv Λ M σ τ) (hT : sT σ ≤ 8) (rg : Rg τ N) (hQ : ∀ M', Inv Λ M' σ (s_at τ x y b).2 → Q (s_at τ x y b).1 M') : B_X6_at_0 Q (Λ 400) x y b M := by
  unfold s_at at hQ
  unfold B_X6_at_0
  refine ⟨h.m0, m_isRow h rg (fun z => z0' ?_) (fun t m ht hm ex ey => z1' ?_)⟩
  · rw [if_neg z] at hQ; exact hQ M h
  have hTT := rg.2.1.2
  obtain ⟨i1, i2, i3⟩ := isR_nI rg ht hm
  rw [← ex, ← ey] at i1 i2
  refine m_rowed h hT rg ht hm ex ey (fun M' z1 z2 h' => ?_) (fun z => ?_)
  · rw [if_pos i1, if_pos z2] at hQ; exact hQ M' h'
  · rw [if_pos i1, i2, if_neg z] at hQ
    refine m_place (fun d => z0 ⟨h.m0, m_meets 2 h hT (by omega) (fun M' h' => ?_)⟩) (fun d => z1 ?_)
    · rw [if_pos d] at hQ; exact hQ M' h'
    · rw [if_neg d] at hQ
      have eb : ((40 : Int32) * (((4 : Int32) * x) + y)) + b = nI (40 * (4 * t + m) + tn b) := by rw [ex, ey, e4tm, (b40 d).1, e40rb, tn_nI (by have := (b40 d).2; omega)]
      have hb := (b40 d).2
      rw [eb]
      refine ⟨h.m0, Λ 404, h.ms.r 4 (by omega) (by omega), h.ms.a 4 (by omega) (by omega) (show _ < 1280 by omega), ?_⟩
      rw [nI_clamp (by omega), h.cm.2.2.2.1 _ i3 z _ hb]
      exact hQ M h
theorem r_at {σ : Sg} {N : Nat} {x y b : Int32} (h : Rg σ N) : Rg (s_at σ x y b).2 N := by
  unfold s_at
  split
  · split
    · exact h.met 1
    · split
      · exact h.met 2
      · exact h
  · exact h
