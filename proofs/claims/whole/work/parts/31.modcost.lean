/-! PURE, 11: the reference's cost of a span -/
def uN (f : Nat → Nat) (k x : Nat) : Nat → Nat := fun j => if j = k then x else f j
def insK (key : Nat → Int) (f : Nat → Nat) (x : Nat) : Nat → Nat → Nat
  | 0 => uN f 0 x
  | h + 1 => if key (f h) ≤ key x then uN f (h + 1) x else insK key (uN f (h + 1) (f h)) x h
theorem insK_out (key : Nat → Int) (x : Nat) : ∀ (h : Nat) (f : Nat → Nat) (j : Nat), h < j → insK key f x h j = f j
  | 0, f, j, hj => by simp only [insK, uN]; rw [if_neg (by omega)]
  | h + 1, f, j, hj => by
    simp only [insK]
    split
    · simp only [uN]; rw [if_neg (by omega)]
    · rw [insK_out key x h _ j (by omega)]; simp only [uN]; rw [if_neg (by omega)]
theorem key_insK (key : Nat → Int) (x : Nat) : ∀ (h : Nat) (f : Nat → Nat) (i : Nat), key (insK key f x h i) = insZ (fun j => key (f j)) (key x) h i
  | 0, f, i => by simp only [insK, insZ, uN, uZ]; split <;> rfl
  | h + 1, f, i => by
    have e : ∀ (k y : Nat), (fun j => key (uN f k y j)) = uZ (fun j => key (f j)) k (key y) := fun k y => by funext j; simp only [uN, uZ]; split <;> rfl
    simp only [insK, insZ]
    split
    · exact congrFun (e (h + 1) x) i
    · rw [key_insK key x h, e]
theorem insK_all (key : Nat → Int) (x : Nat) (P : Nat → Prop) (hx : P x) : ∀ (h : Nat) (f : Nat → Nat), (∀ i, i < h → P (f i)) → ∀ i, i < h + 1 → P (insK key f x h i)
  | 0, f, _, i, hi => by
    have : i = 0 := by omega
    subst this; simpa [insK, uN] using hx
  | h + 1, f, hf, i, hi => by
    have hh := hf h (by omega)
    simp only [insK]
    split
    · by_cases e : i = h + 1
      · simpa [uN, e] using hx
      · simp only [uN, if_neg e]; exact hf i (by omega)
    · by_cases e : i = h + 1
      · rw [e, insK_out key x h _ _ (by omega)]; simpa [uN] using hh
      · refine insK_all key x P hx h _ (fun j hj => ?_) i (by omega)
        simp only [uN, if_neg (show ¬ j = h + 1 by omega)]; exact hf j (by omega)
theorem insK_keys {k1 k2 : Nat → Int} (x : Nat) : ∀ (h : Nat) (f : Nat → Nat), (∀ i, i < h → (k1 (f i) ≤ k1 x ↔ k2 (f i) ≤ k2 x)) → insK k1 f x h = insK k2 f x h
  | 0, _, _ => rfl
  | h + 1, f, hk => by
    have hh := hk h (by omega)
    simp only [insK]
    by_cases c : k1 (f h) ≤ k1 x
    · rw [if_pos c, if_pos (hh.mp c)]
    · rw [if_neg c, if_neg (fun z => c (hh.mpr z))]
      refine insK_keys x h _ (fun i hi => ?_)
      simp only [uN, if_neg (show ¬ i = h + 1 by omega)]; exact hk i (by omega)
/-- the indices a .. a + h - 1 by their keys -/
def soK (key : Nat → Int) (a : Nat) : Nat → Nat → Nat
  | 0 => fun _ => 0
  | h + 1 => insK key (soK key a h) (a + h) h
theorem soK_rng (key : Nat → Int) (a : Nat) : ∀ h i, i < h → a ≤ soK key a h i ∧ soK key a h i < a + h
  | 0, i, hi => absurd hi (by omega)
  | h + 1, i, hi => insK_all key (a + h) (fun y => a ≤ y ∧ y < a + (h + 1)) (by omega) h _ (fun j hj => by have := soK_rng key a h j hj; omega) i hi
theorem soK_key (key : Nat → Int) (a : Nat) : ∀ h i, i < h → key (soK key a h i) = so (fun t => key (a + t)) h i
  | 0, i, hi => absurd hi (by omega)
  | h + 1, i, hi => by
    rw [soK, key_insK key, so]
    exact insZ_pre _ h _ _ (fun j hj => soK_key key a h j hj) i hi
theorem soK_keys {k1 k2 : Nat → Int} {a : Nat} : ∀ {h : Nat}, (∀ i j, a ≤ i → i < a + h → a ≤ j → j < a + h → (k1 i ≤ k1 j ↔ k2 i ≤ k2 j)) → soK k1 a h = soK k2 a h
  | 0, _ => rfl
  | h + 1, hk => by
    rw [soK, soK, soK_keys (h := h) (fun i j h1 h2 h3 h4 => hk i j h1 (by omega) h3 (by omega))]
    exact insK_keys (a + h) h _ (fun i hi => by
      have := soK_rng k2 a h i hi
      exact hk _ _ this.1 (by omega) (by omega) (by omega))
theorem m_ins {Λ : Nat → Nat} {Q : Int32 → Mm → Prop} {K5 : Nat → Int32 → Int32 → Int32 → Int32 → Mm → Prop} {n x : Nat} {x1 x2 x3 : Int32} {ρ : Nat → Nat} (hΛ : inj Λ) (hn : n ≤ 40) (hx : x < n) (hρ : ∀ k, k < n → ρ k ≤ 80) :
    ∀ (p : Nat) (M1 : Mm) (f : Nat → Nat), p < 40 → ModSh Λ M1 → (∀ k, k < n → gI M1 (Λ 408) k = nI (ρ k)) → (∀ i, i < p → f i < n ∧ gI M1 (Λ 414) i = nI (f i)) → (∀ M', Ch (fun b => b = Λ 414) M1 M' → (∀ i, i < p + 1 → gI M' (Λ 414) i = nI (insK (fun k => (ρ k : Int)) f x p i)) → (∀ i, p < i → gI M' (Λ 414) i = gI M1 (Λ 414) i) → K5 (Λ 400) x1 x2 (x3 + 1) (nI x + 1) M') → B_X6_costOf_14 Q K5 (p + 1) (Λ 400) x1 x2 x3 (nI x) (nI p) M1 := by
  intro p
  induction p with
  | zero =>
    intro M1 f hp sh hr hf hK
    unfold B_X6_costOf_14
    refine ⟨fun _ => ⟨sh.1, Λ 414, sh.r 14 (by omega) (by omega), sh.a 14 (by omega) (by omega) (show 0 < 40 by omega), ?_⟩, fun c => absurd (Int32.le_refl _) c⟩
    rintro _ rfl
    refine hK _ (Ch.put rfl) (fun i hi => ?_) (fun i hi => ?_)
    · rw [nI_clamp (by omega), gI_pI_eq]
      have : i = 0 := by omega
      subst this; simp [upd_eq, insK, uN]
    · rw [nI_clamp (by omega), gI_pI_eq, upd_ne _ _ (by omega)]
  | succ p ih =>
    intro M1 f hp sh hr hf hK
    unfold B_X6_costOf_14
    have hm1 : nI (p + 1) - (1 : Int32) = nI p := nI_pred p
    have hfp := hf p (by omega)
    have r1 := hρ _ hfp.1
    have r2 := hρ _ hx
    refine ⟨fun c => absurd ((nI_leI (b := 0) (by omega) (by omega)).mp c) (by omega), fun _ => ⟨sh.1, Λ 414, sh.r 14 (by omega) (by omega), by rw [hm1]; exact sh.a 14 (by omega) (by omega) (show p < 40 by omega), Λ 408, sh.r 8 (by omega) (by omega), ?_⟩⟩
    rw [hm1, nI_clamp (by omega), nI_clamp (by omega), hfp.2, nI_clamp (by omega), nI_clamp (by omega), hr _ hfp.1, hr _ hx, pk_m1]
    refine ⟨sh.a 8 (by omega) (by omega) (show f p < 40 by omega), sh.a 8 (by omega) (by omega) (show x < 40 by omega), fun c => ⟨sh.1, Λ 414, sh.r 14 (by omega) (by omega), sh.a 14 (by omega) (by omega) (show p + 1 < 40 by omega), ?_⟩, fun c => ⟨sh.a 14 (by omega) (by omega) (show p < 40 by omega), sh.a 14 (by omega) (by omega) (show p + 1 < 40 by omega), ?_⟩⟩
    · rintro _ rfl
      have hc : (ρ (f p) : Int) ≤ (ρ x : Int) := by have := (nI_leI (by omega) (by omega)).mp c; omega
      refine hK _ (Ch.put rfl) (fun i hi => ?_) (fun i hi => ?_)
      · rw [nI_clamp (by omega), gI_pI_eq]
        simp only [insK]
        rw [if_pos hc]
        simp only [uN]
        by_cases e : i = p + 1
        · rw [e, upd_eq, if_pos rfl]
        · rw [upd_ne _ _ e, if_neg e]; exact (hf i (by omega)).2
      · rw [nI_clamp (by omega), gI_pI_eq, upd_ne _ _ (by omega)]
    · rintro _ rfl
      have hc : ¬ (ρ (f p) : Int) ≤ (ρ x : Int) := fun z => c ((nI_leI (by omega) (by omega)).mpr (by omega))
      have c1 : Ch (fun b => b = Λ 414) M1 (pI M1 (Λ 414) (p + 1) (nI (f p))) := Ch.put rfl
      refine ih _ (uN f (p + 1) (f p)) (by omega) (sh.ch c1) (fun k hk => by rw [gI_pI_ne (hΛ.ne (by omega))]; exact hr k hk) (fun i hi => ?_) (fun M' hc' h1 h2 => hK M' (c1.trans hc') (fun i hi => ?_) (fun i hi => ?_))
      · rw [gI_pI_eq, upd_ne _ _ (by omega)]
        simp only [uN]; rw [if_neg (by omega)]; exact hf i (by omega)
      · simp only [insK]
        rw [if_neg hc]
        by_cases e : i = p + 1
        · rw [e, h2 _ (by omega), gI_pI_eq, upd_eq, insK_out _ x p _ _ (by omega)]; simp [uN]
        · exact h1 i (by omega)
      · rw [h2 i (by omega), gI_pI_eq, upd_ne _ _ (by omega)]
theorem m_cost_101 {Λ : Nat → Nat} {M : Mm} {Q : Int32 → Mm → Prop} {n a h y : Nat} {ρ : Nat → Nat} (sh : ModSh Λ M) (hn : n ≤ 40) (hah : a + h ≤ n) (hy : y < n) (hρ : ∀ k, k < n → ρ k ≤ 80) (hr : ∀ k, k < n → gI M (Λ 408) k = nI (ρ k)) (h22 : gI M (Λ 400) 22 = nI y)
    (hQ : ∀ r : Int32, r.toInt = FF (fun t => (ρ (a + t) : Int)) h (ρ y) → Q r M) :
    ∀ (d t : Nat) (x4 : Int32), t + d = h → x4.toInt = FF (fun t => (ρ (a + t) : Int)) t (ρ y) → B_X6_costOf_101 Q (d + 1) (Λ 400) (nI (a + h)) x4 (nI (a + t)) M := by
  have hb : ∀ t, t ≤ h → 0 ≤ FF (fun t => (ρ (a + t) : Int)) t (ρ y) ∧ FF (fun t => (ρ (a + t) : Int)) t (ρ y) ≤ 80 * t := by
    intro t
    induction t with
    | zero => intro _; simp [FF, sm]
    | succ t ih =>
      intro ht
      have := ih (by omega)
      have h1 := hρ (a + t) (by omega)
      have h2 := hρ y hy
      have e : FF (fun t => (ρ (a + t) : Int)) (t + 1) (ρ y) = FF (fun t => (ρ (a + t) : Int)) t (ρ y) + ab ((ρ (a + t) : Int) - ρ y) := rfl
      rw [e]; unfold ab; omega
  have ry := hρ y hy
  intro d
  induction d with
  | zero =>
    intro t x4 ht hx
    unfold B_X6_costOf_101
    have e : t = h := by omega
    subst e
    exact ⟨fun _ => hQ x4 hx, fun c => absurd (Int32.le_refl _) c⟩
  | succ d ih =>
    intro t x4 ht hx
    unfold B_X6_costOf_101
    have r1 := hρ (a + t) (by omega)
    have b1 := hb t (by omega)
    have e1 : (nI (ρ (a + t)) - nI (ρ y)).toInt = (ρ (a + t) : Int) - ρ y := pk_sub_toInt (by omega) (by omega)
    have z0 : (0 : Int32).toInt = 0 := rfl
    refine ⟨fun c => absurd ((nI_leI (by omega) (by omega)).mp c) (by omega), fun _ => ⟨sh.1, Λ 408, sh.r 8 (by omega) (by omega), sh.a 8 (by omega) (by omega) (show a + t < 40 by omega), by rw [h22]; exact sh.a 8 (by omega) (by omega) (show y < 40 by omega), ?_⟩⟩
    rw [nI_clamp (by omega), h22, nI_clamp (by omega), hr _ (by omega), hr _ hy, nI_1, show a + t + 1 = a + (t + 1) by omega]
    have e : FF (fun t => (ρ (a + t) : Int)) (t + 1) (ρ y) = FF (fun t => (ρ (a + t) : Int)) t (ρ y) + ab ((ρ (a + t) : Int) - ρ y) := rfl
    refine ⟨fun c => ih (t + 1) _ (by omega) ?_, fun c => ih (t + 1) _ (by omega) ?_⟩
    · rw [le_I, e1, z0] at c
      rw [addI (by omega) (by omega), e1, hx, e]; unfold ab; omega
    · rw [le_I, e1, z0] at c
      have e2 : (-(nI (ρ (a + t)) - nI (ρ y))).toInt = -((ρ (a + t) : Int) - ρ y) := by rw [negI (by omega), e1]
      rw [addI (by omega) (by omega), e2, hx, e]; unfold ab; omega
/-- behind costOf(a, a + h) -/
def MCost (Λ : Nat → Nat) (M M1 : Mm) (ρ : Nat → Nat) (a h : Nat) : Prop := Ch (fun b => b = Λ 400 ∨ b = Λ 414) M M1 ∧ (∀ j, j ≠ 22 → gI M1 (Λ 400) j = gI M (Λ 400) j) ∧ gI M1 (Λ 400) 22 = nI (soK (fun k => (ρ k : Int)) a h (h / 2))
theorem m_cost_5 {Λ : Nat → Nat} {M : Mm} {Q : Int32 → Mm → Prop} {n a h : Nat} {ρ : Nat → Nat} (hΛ : inj Λ) (sh : ModSh Λ M) (hn : n ≤ 40) (hh : 0 < h) (hah : a + h ≤ n) (hρ : ∀ k, k < n → ρ k ≤ 80) (hr : ∀ k, k < n → gI M (Λ 408) k = nI (ρ k))
    (hQ : ∀ (r : Int32) (M' : Mm), r.toInt = CC (fun t => (ρ (a + t) : Int)) h → MCost Λ M M' ρ a h → Q r M') :
    ∀ (d t : Nat) (M1 : Mm), t + d = h → Ch (fun b => b = Λ 414) M M1 → (∀ i, i < t → gI M1 (Λ 414) i = nI (soK (fun k => (ρ k : Int)) a t i)) → B_X6_costOf_5 Q (d + 1) (Λ 400) (nI a) (nI (a + h)) (nI t) (nI (a + t)) M1 := by
  intro d
  induction d with
  | zero =>
    intro t M1 ht gc gs
    unfold B_X6_costOf_5
    have e : t = h := by omega
    subst e
    have sh1 := sh.ch gc
    have e2 : nI t / (2 : Int32) = nI (t / 2) := by rw [show (2 : Int32) = nI 2 from rfl, pk_div (by omega) (by omega) (by omega)]
    have hy := soK_rng (fun k => (ρ k : Int)) a t (t / 2) (by omega)
    refine ⟨fun _ => ⟨sh1.1, Λ 414, sh1.r 14 (by omega) (by omega), by rw [e2]; exact sh1.a 14 (by omega) (by omega) (show t / 2 < 40 by omega), ?_⟩, fun c => absurd (Int32.le_refl _) c⟩
    rintro _ rfl
    rw [e2, nI_clamp (by omega), gs _ (by omega)]
    have c2 : Ch (fun b => b = Λ 400 ∨ b = Λ 414) M (pI M1 (Λ 400) 22 (nI (soK (fun k => (ρ k : Int)) a t (t / 2)))) := (gc.mono (fun b e => Or.inr e)).step (Or.inl rfl)
    refine ⟨t + 1, ?_⟩
    refine m_cost_101 (n := n) (a := a) (h := t) (y := soK (fun k => (ρ k : Int)) a t (t / 2)) (sh.ch c2) hn (by omega) (by omega) hρ (fun k hk => by rw [gI_pI_ne (hΛ.ne (by omega)), gc.2 _ (hΛ.ne (by omega))]; exact hr k hk) (by rw [gI_pI_eq, upd_eq]) (fun r hr' => hQ r _ ?_ ⟨c2, fun j hj => ?_, by rw [gI_pI_eq, upd_eq]⟩) t 0 0 (by omega) (by simp [FF, sm])
    · rw [hr']
      unfold CC
      rw [show (ρ (soK (fun k => (ρ k : Int)) a t (t / 2)) : Int) = so (fun t => (ρ (a + t) : Int)) t (t / 2) from soK_key (fun k => (ρ k : Int)) a t (t / 2) (by omega)]
    · rw [gI_pI_eq, upd_ne _ _ hj, gc.2 _ (hΛ.ne (by omega))]
  | succ d ih =>
    intro t M1 ht gc gs
    unfold B_X6_costOf_5
    refine ⟨fun c => absurd ((nI_leI (by omega) (by omega)).mp c) (by omega), fun _ => ⟨t + 1, ?_⟩⟩
    refine m_ins (n := n) (x := a + t) (ρ := ρ) hΛ hn (by omega) hρ t M1 (soK (fun k => (ρ k : Int)) a t) (by omega) (sh.ch gc) (fun k hk => by rw [gc.2 _ (hΛ.ne (by omega))]; exact hr k hk) (fun i hi => ⟨by have := soK_rng (fun k => (ρ k : Int)) a t i hi; omega, gs i hi⟩) (fun M' c' h1 h2 => ?_)
    rw [nI_1, nI_1, show a + t + 1 = a + (t + 1) by omega]
    exact ih (t + 1) M' (by omega) (gc.trans c') (fun i hi => h1 i hi)
theorem m_costOf {Λ : Nat → Nat} {M : Mm} {Q : Int32 → Mm → Prop} {n a b : Nat} {ρ : Nat → Nat} (hΛ : inj Λ) (sh : ModSh Λ M) (hn : n ≤ 40) (hab : a < b) (hbn : b ≤ n) (hρ : ∀ k, k < n → ρ k ≤ 80) (hr : ∀ k, k < n → gI M (Λ 408) k = nI (ρ k))
    (hQ : ∀ (r : Int32) (M' : Mm), r.toInt = csf ρ a b → MCost Λ M M' ρ a (b - a) → Q r M') : B_X6_costOf_0 Q (Λ 400) (nI a) (nI b) M := by
  have := m_cost_5 (a := a) (h := b - a) hΛ sh hn (by omega) (by omega) hρ hr hQ (b - a) 0 M (by omega) (Ch.refl _ _) (fun i hi => absurd hi (by omega))
  rw [show a + (b - a) = b by omega] at this
  exact ⟨b - a + 1, this⟩
