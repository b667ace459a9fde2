/-! PURE, 7: the class lays spans and middles -/
/-- while it lays spans: s of them, the first k measured builds looked at -/
def Spn (Λ : Nat → Nat) (M M1 : Mm) (r n : Nat) (nx : Nat → Nat) (s : Nat) : Prop :=
  Ch (fun b => b = Λ r ∨ b = Λ (r + 4)) M M1 ∧ gI M1 (Λ r) 9 = nI s ∧ (∀ j, j ≠ 9 → gI M1 (Λ r) j = gI M (Λ r) j) ∧ (∀ j, j < s → ss n nx j < n ∧ gI M1 (Λ (r + 4)) j = nI (ss n nx j))
theorem x_spans_9 {Λ : Nat → Nat} {M : Mm} {Q : Mm → Prop} {r n : Nat} {nx : Nat → Nat} (hΛ : inj Λ) (hr : 20 ≤ r) (sh : CutSh Λ M) (rs : RowSh Λ M r) (hn : n ≤ 40) (hm : gI M (Λ r) 6 = nI n) (hx : nxOk n nx) (hnx : ∀ k, k < n → gI M (Λ 8) k = nI (nx k))
    (hQ : ∀ M', Ch (fun b => b = Λ r ∨ b = Λ (r + 4)) M M' → gI M' (Λ r) 9 = nI (nS n nx) → (∀ j, j ≠ 9 → gI M' (Λ r) j = gI M (Λ r) j) → (∀ j, j ≤ nS n nx → gI M' (Λ (r + 4)) j = nI (ss n nx j)) → Q M') :
    ∀ (d k s : Nat) (M1 : Mm), k + d = n → s ≤ k → k ≤ ss n nx s → Spn Λ M M1 r n nx s → B_X1_setSpans_9 Q (d + 1) (Λ 4) (some (Λ r)) (nI (ss n nx s)) (nI k) M1 := by
  intro d
  induction d with
  | zero =>
    intro k s M1 hk hsk hks g
    unfold B_X1_setSpans_9
    obtain ⟨gc, g9, gj, gf⟩ := g
    have rs1 := rs.ch gc
    have gm : gI M1 (Λ r) 6 = nI n := by rw [gj 6 (by omega)]; exact hm
    have e : k = n := by omega
    subst e
    refine ⟨Λ r, rfl, rs1.1, fun _ => ⟨Λ (r + 4), rs1.2.1.2.2.2.1, by rw [g9]; exact ar_nI (rs1.2.2.1 4 (by omega) (by omega)) rs1.2.2.2.2 (by omega) (by omega), ?_⟩, fun c => absurd (by rw [gm]; exact Int32.le_refl _) c⟩
    rintro _ rfl
    rw [g9, nI_clamp (by omega), gm]
    have hs : ss k nx s = k := by have := (ss_ge hx s).1; omega
    have hN : nS k nx = s := nS_isN hx ⟨fun j hj => (gf j hj).1, hs⟩
    refine hQ _ (gc.step (Or.inr rfl)) ?_ ?_ ?_
    · rw [gI_pI_ne (hΛ.ne (by omega)), hN]; exact g9
    · intro j hj; rw [gI_pI_ne (hΛ.ne (by omega))]; exact gj j hj
    · intro j hj
      rw [gI_pI_eq]
      by_cases e : j = s
      · rw [e, upd_eq, hs]
      · rw [upd_ne _ _ e]; exact (gf j (by omega)).2
  | succ d ih =>
    intro k s M1 hk hsk hks g
    unfold B_X1_setSpans_9
    have g0 := g
    obtain ⟨gc, g9, gj, gf⟩ := g
    have rs1 := rs.ch gc
    have gm : gI M1 (Λ r) 6 = nI n := by rw [gj 6 (by omega)]; exact hm
    have hsn := (ss_ge hx s).1
    refine ⟨Λ r, rfl, rs1.1, fun c => absurd ((nI_leI (a := n) (b := k) (by omega) (by omega)).mp (by rw [gm] at c; exact c)) (by omega), fun _ => ⟨fun c => ?_, fun c => ?_⟩⟩
    · rw [nI_1]
      have hne : ¬ k = ss n nx s := fun z => c (by rw [← z])
      exact ih (k + 1) s M1 (by omega) (by omega) (by omega) g0
    · have he : k = ss n nx s := (nI_eq (by omega) (by omega)).mp c
      refine ⟨Λ (r + 4), rs1.2.1.2.2.2.1, by rw [g9]; exact ar_nI (rs1.2.2.1 4 (by omega) (by omega)) rs1.2.2.2.2 (by omega) (by omega), ?_⟩
      rintro _ rfl
      rw [g9, nI_clamp (by omega)]
      rintro _ rfl
      have e9 : gI (pI M1 (Λ (r + 4)) s (nI k)) (Λ r) = gI M1 (Λ r) := gI_pI_ne (hΛ.ne (by omega))
      rw [e9, g9, nI_1]
      have gc2 := (gc.step (k := s) (v := nI k) (a := Λ (r + 4)) (Or.inr rfl)).step (k := 9) (v := nI (s + 1)) (a := Λ r) (Or.inl rfl)
      have sh2 := sh.ch gc2
      have e8 : gI (pI (pI M1 (Λ (r + 4)) s (nI k)) (Λ r) 9 (nI (s + 1))) (Λ 8) k = nI (nx k) := by
        rw [gI_pI_ne (hΛ.ne (by omega)), gI_pI_ne (hΛ.ne (by omega)), gc.2 _ (by rintro (e | e) <;> exact hΛ.ne (by omega) e)]; exact hnx k (by omega)
      refine ⟨sh2.1, Λ 8, sh2.2.1 3 (by omega), ar_nI (sh2.2.2.1 3 (by omega)) (sh2.2.2.2 3 (by omega)) (by omega) (by omega), ?_⟩
      rw [nI_clamp (by omega), e8, nI_1]
      have hlt : ss n nx s < n := by omega
      have es : ss n nx (s + 1) = nx k := by simp only [ss]; rw [if_pos hlt, he]
      rw [← es]
      have hnk := hx k (by omega)
      refine ih (k + 1) (s + 1) _ (by omega) (by omega) (by omega) ⟨gc2, ?_, ?_, ?_⟩
      · rw [gI_pI_eq, upd_eq]
      · intro j hj; rw [gI_pI_eq, upd_ne _ _ hj, e9]; exact gj j hj
      · intro j hj
        rw [gI_pI_ne (hΛ.ne (by omega)), gI_pI_eq]
        by_cases e : j = s
        · rw [e, upd_eq, ← he]; exact ⟨by omega, rfl⟩
        · rw [upd_ne _ _ e]; exact gf j (by omega)
theorem x_spans {Λ : Nat → Nat} {M : Mm} {Q : Mm → Prop} {r n : Nat} {nx : Nat → Nat} (hΛ : inj Λ) (hr : 20 ≤ r) (sh : CutSh Λ M) (rs : RowSh Λ M r) (hn : n ≤ 40) (hm : gI M (Λ r) 6 = nI n) (hx : nxOk n nx) (hnx : ∀ k, k < n → gI M (Λ 8) k = nI (nx k))
    (hQ : ∀ M', Ch (fun b => b = Λ r ∨ b = Λ (r + 4)) M M' → gI M' (Λ r) 9 = nI (nS n nx) → (∀ j, j ≠ 9 → gI M' (Λ r) j = gI M (Λ r) j) → (∀ j, j ≤ nS n nx → gI M' (Λ (r + 4)) j = nI (ss n nx j)) → Q M') : B_X1_setSpans_0 Q (Λ 4) (some (Λ r)) M := by
  refine ⟨Λ r, rfl, rs.1, ?_⟩
  rintro _ rfl
  have c1 : Ch (fun b => b = Λ r ∨ b = Λ (r + 4)) M (pI M (Λ r) 9 (0 : Int32)) := Ch.put (Or.inl rfl)
  have o : ∀ j, j ≠ 9 → gI (pI M (Λ r) 9 (0 : Int32)) (Λ r) j = gI M (Λ r) j := fun j hj => by rw [gI_pI_eq, upd_ne _ _ hj]
  exact ⟨n + 1, x_spans_9 hΛ hr (sh.ch c1) (rs.ch c1) hn (by rw [o 6 (by omega)]; exact hm) hx (fun k hk => by rw [gI_pI_ne (hΛ.ne (by omega))]; exact hnx k hk) (fun M' h1 h2 h3 h4 => hQ M' (c1.trans h1) h2 (fun j hj => (h3 j hj).trans (o j hj)) h4) n 0 0 _ (by omega) (by omega) (by omega) ⟨Ch.refl _ _, by rw [gI_pI_eq, upd_eq]; rfl, fun _ _ => rfl, fun j hj => absurd hj (by omega)⟩⟩
/-- the MIDDLE of span i, of the measurements u -/
def md (n : Nat) (nx : Nat → Nat) (u : Nat → Int) (i : Nat) : Int := so (fun t => u (ss n nx i + t)) (ss n nx (i + 1) - ss n nx i) ((ss n nx (i + 1) - ss n nx i) / 2)
def Mid (Λ : Nat → Nat) (M M1 : Mm) (r n : Nat) (nx : Nat → Nat) (u : Nat → Int) (i : Nat) : Prop :=
  Ch (fun b => b = Λ 5 ∨ b = Λ (r + 5)) M M1 ∧ ∀ j, j < i → (gI M1 (Λ (r + 5)) j).toInt = md n nx u j
theorem x_mid_20 {Λ : Nat → Nat} {M : Mm} {Q : Mm → Prop} {K2 : Nat → Option Nat → Int32 → Mm → Prop} {r n i : Nat} {nx : Nat → Nat} {u : Nat → Int} {pl : Nat → Nat} (hΛ : inj Λ) (hr : 20 ≤ r) (sh : CutSh Λ M) (rs : RowSh Λ M r) (hn : n ≤ 40) (hx : nxOk n nx) (hi : i < nS n nx) (hf : ∀ j, j ≤ nS n nx → gI M (Λ (r + 4)) j = nI (ss n nx j)) (hpl : ∀ k, k < n → pl k < 40 ∧ gI M (Λ (r + 2)) k = nI (pl k) ∧ (gI M (Λ (r + 1)) (pl k)).toInt = u k)
    (hK : ∀ M', Mid Λ M M' r n nx u (i + 1) → K2 (Λ 4) (some (Λ r)) (nI (i + 1)) M') :
    ∀ (d h : Nat) (M1 : Mm), ss n nx i + h + d = ss n nx (i + 1) → Mid Λ M M1 r n nx u i → (∀ t, t < h → (gI M1 (Λ 5) t).toInt = so (fun t => u (ss n nx i + t)) h t) → B_X1_setMiddles_20 Q K2 (d + 1) (Λ 4) (some (Λ r)) (nI i) (nI h) (nI (ss n nx i + h)) M1 := by
  have apart : ∀ c, 9 ≤ c → c ≠ r + 5 → ¬ (Λ c = Λ 5 ∨ Λ c = Λ (r + 5)) := fun c hc hc2 => by
    rintro (e | e)
    · exact hΛ.ne (by omega) e
    · exact hΛ.ne hc2 e
  have hsl := ss_lt hx hi
  have hns := nS_le hx
  intro d
  induction d with
  | zero =>
    intro h M1 hd g hs
    unfold B_X1_setMiddles_20
    obtain ⟨gc, gm⟩ := g
    have rs1 := rs.ch gc
    have sh1 := sh.ch gc
    have f1 : gI M1 (Λ (r + 4)) (i + 1) = nI (ss n nx (i + 1)) := by rw [gc.2 _ (apart (r + 4) (by omega) (by omega))]; exact hf _ (by omega)
    rw [nI_1]
    refine ⟨Λ r, rfl, rs1.1, Λ (r + 4), rs1.2.1.2.2.2.1, ar_nI (rs1.2.2.1 4 (by omega) (by omega)) rs1.2.2.2.2 (by omega) (by omega), ?_⟩
    rw [nI_clamp (by omega), f1]
    refine ⟨fun _ => ?_, fun c => absurd (by rw [show ss n nx i + h = ss n nx (i + 1) by omega]; exact Int32.le_refl _) c⟩
    have e2 : nI h / (2 : Int32) = nI (h / 2) := by rw [show (2 : Int32) = nI 2 from rfl, pk_div (by omega) (by omega) (by omega)]
    rw [e2]
    refine ⟨sh1.1, Λ 5, sh1.2.1 0 (by omega), ar_nI (sh1.2.2.1 0 (by omega)) (sh1.2.2.2 0 (by omega)) (by omega) (by omega), Λ (r + 5), rs1.2.1.2.2.2.2.1, ar_nI (rs1.2.2.1 5 (by omega) (by omega)) (rs1.2.2.2.1 5 (by omega) (by omega) (by omega)) (by omega) (by omega), ?_⟩
    rintro _ rfl
    rw [nI_clamp (by omega), nI_clamp (by omega)]
    refine hK _ ⟨gc.step (Or.inr rfl), fun j hj => ?_⟩
    rw [gI_pI_eq]
    by_cases e : j = i
    · rw [e, upd_eq, hs _ (by omega)]
      unfold md
      rw [show ss n nx (i + 1) - ss n nx i = h by omega]
    · rw [upd_ne _ _ e]; exact gm j (by omega)
  | succ d ih =>
    intro h M1 hd g hs
    unfold B_X1_setMiddles_20
    obtain ⟨gc, gm⟩ := g
    have rs1 := rs.ch gc
    have sh1 := sh.ch gc
    have f1 : gI M1 (Λ (r + 4)) (i + 1) = nI (ss n nx (i + 1)) := by rw [gc.2 _ (apart (r + 4) (by omega) (by omega))]; exact hf _ (by omega)
    have hk := hpl (ss n nx i + h) (by omega)
    have f2 : gI M1 (Λ (r + 2)) (ss n nx i + h) = nI (pl (ss n nx i + h)) := by rw [gc.2 _ (apart (r + 2) (by omega) (by omega))]; exact hk.2.1
    have f3 : (gI M1 (Λ (r + 1)) (pl (ss n nx i + h))).toInt = u (ss n nx i + h) := by rw [gc.2 _ (apart (r + 1) (by omega) (by omega))]; exact hk.2.2
    rw [show nI i + (1 : Int32) = nI (i + 1) from nI_1 i]
    refine ⟨Λ r, rfl, rs1.1, Λ (r + 4), rs1.2.1.2.2.2.1, ar_nI (rs1.2.2.1 4 (by omega) (by omega)) rs1.2.2.2.2 (by omega) (by omega), ?_⟩
    rw [nI_clamp (by omega), f1]
    refine ⟨fun c => absurd ((nI_leI (by omega) (by omega)).mp c) (by omega), fun _ => ⟨Λ (r + 2), rs1.2.1.2.1, ar_nI (rs1.2.2.1 2 (by omega) (by omega)) (rs1.2.2.2.1 2 (by omega) (by omega) (by omega)) (by omega) (by omega), Λ (r + 1), rs1.2.1.1, ?_⟩⟩
    rw [nI_clamp (by omega), f2]
    refine ⟨ar_nI (rs1.2.2.1 1 (by omega) (by omega)) (rs1.2.2.2.1 1 (by omega) (by omega) (by omega)) hk.1 (by omega), sh1.1, ?_⟩
    rw [nI_clamp (by omega)]
    refine x_insert (by omega) sh1 (fun M17 c17 i17 => ?_)
    rw [nI_1, nI_1, show ss n nx i + h + 1 = ss n nx i + (h + 1) by omega]
    refine ih (h + 1) M17 (by omega) ⟨gc.trans (c17.mono (fun b hb => Or.inl hb)), fun j hj => by rw [c17.2 _ (hΛ.ne (by omega))]; exact gm j hj⟩ (fun t ht => ?_)
    rw [i17 t, f3]
    exact insZ_pre _ h _ _ (fun j hj => hs j hj) t ht
theorem x_mid_2 {Λ : Nat → Nat} {M : Mm} {Q : Mm → Prop} {r n : Nat} {nx : Nat → Nat} {u : Nat → Int} {pl : Nat → Nat} (hΛ : inj Λ) (hr : 20 ≤ r) (sh : CutSh Λ M) (rs : RowSh Λ M r) (hn : n ≤ 40) (hx : nxOk n nx) (h9 : gI M (Λ r) 9 = nI (nS n nx)) (hf : ∀ j, j ≤ nS n nx → gI M (Λ (r + 4)) j = nI (ss n nx j)) (hpl : ∀ k, k < n → pl k < 40 ∧ gI M (Λ (r + 2)) k = nI (pl k) ∧ (gI M (Λ (r + 1)) (pl k)).toInt = u k)
    (hQ : ∀ M', Mid Λ M M' r n nx u (nS n nx) → Q M') :
    ∀ (d i : Nat) (M1 : Mm), i + d = nS n nx → Mid Λ M M1 r n nx u i → B_X1_setMiddles_2 Q (d + 1) (Λ 4) (some (Λ r)) (nI i) M1 := by
  have apart : ∀ c, 9 ≤ c → c ≠ r + 5 → ¬ (Λ c = Λ 5 ∨ Λ c = Λ (r + 5)) := fun c hc hc2 => by
    rintro (e | e)
    · exact hΛ.ne (by omega) e
    · exact hΛ.ne hc2 e
  have hns := nS_le hx
  intro d
  induction d with
  | zero =>
    intro i M1 hd g
    unfold B_X1_setMiddles_2
    have rs1 := rs.ch g.1
    have g9 : gI M1 (Λ r) 9 = nI (nS n nx) := by rw [g.1.2 _ (apart r (by omega) (by omega))]; exact h9
    have e : i = nS n nx := by omega
    refine ⟨Λ r, rfl, rs1.1, fun _ => hQ M1 (by rw [← e]; exact g), fun c => absurd (by rw [g9, e]; exact Int32.le_refl _) c⟩
  | succ d ih =>
    intro i M1 hd g
    unfold B_X1_setMiddles_2
    have rs1 := rs.ch g.1
    have sh1 := sh.ch g.1
    have g9 : gI M1 (Λ r) 9 = nI (nS n nx) := by rw [g.1.2 _ (apart r (by omega) (by omega))]; exact h9
    have hf1 : ∀ j, j ≤ nS n nx → gI M1 (Λ (r + 4)) j = nI (ss n nx j) := fun j hj => by rw [g.1.2 _ (apart (r + 4) (by omega) (by omega))]; exact hf j hj
    have hpl1 : ∀ k, k < n → pl k < 40 ∧ gI M1 (Λ (r + 2)) k = nI (pl k) ∧ (gI M1 (Λ (r + 1)) (pl k)).toInt = u k := fun k hk => by
      rw [g.1.2 _ (apart (r + 2) (by omega) (by omega)), g.1.2 _ (apart (r + 1) (by omega) (by omega))]; exact hpl k hk
    refine ⟨Λ r, rfl, rs1.1, fun c => absurd ((nI_leI (a := nS n nx) (b := i) (by omega) (by omega)).mp (by rw [g9] at c; exact c)) (by omega), fun _ => ⟨Λ (r + 4), rs1.2.1.2.2.2.1, ar_nI (rs1.2.2.1 4 (by omega) (by omega)) rs1.2.2.2.2 (by omega) (by omega), ss n nx (i + 1) - ss n nx i + 1, ?_⟩⟩
    rw [nI_clamp (by omega), hf1 i (by omega)]
    have hsl := ss_lt hx (show i < nS n nx by omega)
    refine x_mid_20 (i := i) (u := u) (pl := pl) hΛ hr sh1 rs1 hn hx (by omega) hf1 hpl1 (fun M' gm => ?_) (ss n nx (i + 1) - ss n nx i) 0 M1 (by omega) ⟨Ch.refl _ _, g.2⟩ (fun t ht => absurd ht (by omega))
    exact ih (i + 1) M' (by omega) ⟨g.1.trans gm.1, gm.2⟩
theorem x_middles {Λ : Nat → Nat} {M : Mm} {Q : Mm → Prop} {r n : Nat} {nx : Nat → Nat} {u : Nat → Int} {pl : Nat → Nat} (hΛ : inj Λ) (hr : 20 ≤ r) (sh : CutSh Λ M) (rs : RowSh Λ M r) (hn : n ≤ 40) (hx : nxOk n nx) (h9 : gI M (Λ r) 9 = nI (nS n nx)) (hf : ∀ j, j ≤ nS n nx → gI M (Λ (r + 4)) j = nI (ss n nx j)) (hpl : ∀ k, k < n → pl k < 40 ∧ gI M (Λ (r + 2)) k = nI (pl k) ∧ (gI M (Λ (r + 1)) (pl k)).toInt = u k)
    (hQ : ∀ M', Mid Λ M M' r n nx u (nS n nx) → Q M') : B_X1_setMiddles_0 Q (Λ 4) (some (Λ r)) M :=
  ⟨nS n nx + 1, x_mid_2 hΛ hr sh rs hn hx h9 hf hpl hQ (nS n nx) 0 M (by omega) ⟨Ch.refl _ _, fun j hj => absurd hj (by omega)⟩⟩
