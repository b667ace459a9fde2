/-! PURE, 27: halve; count; the digest -/
def hr : Nat → Nat → Nat
  | 0, _ => 0
  | f + 1, w => if w ≤ 1 then 0 else 1 + hr f (w - w / 2)
theorem x_most {Λ : Nat → Nat} {M : Mm} {Q : Int32 → Mm → Prop} {vt : Nat} (h9 : ok M (Λ 9) 2) (h3 : gI M (Λ 9) 3 = nI vt) : ∀ (f w a : Nat), w ≤ f → w < 2 ^ 31 → Q (nI (a + hr f w * vt)) M → B_X2_mostReruns_12 Q (f + 1) (Λ 9) (nI a) (nI w) M := by
  intro f
  induction f with
  | zero =>
    intro w a hw hb hQ
    unfold B_X2_mostReruns_12
    refine ⟨fun _ => ?_, fun c => absurd ((nI_leI (b := 1) (by omega) (by omega)).mpr (by omega)) c⟩
    simpa [hr] using hQ
  | succ f ih =>
    intro w a hw hb hQ
    unfold B_X2_mostReruns_12
    refine ⟨fun c => ?_, fun c => ⟨h9, ?_⟩⟩
    · have : w ≤ 1 := (nI_leI (b := 1) (by omega) (by omega)).mp c
      simpa [hr, this] using hQ
    · have hw1 : ¬ w ≤ 1 := fun z => c ((nI_leI (b := 1) (by omega) (by omega)).mpr z)
      rw [h3, nI_add, show (2 : Int32) = nI 2 from rfl, pk_div (by omega) (by omega) (by omega), pk_sub (by omega)]
      refine ih (w - w / 2) (a + vt) (by omega) (by omega) ?_
      have e : a + hr (f + 1) w * vt = a + vt + hr f (w - w / 2) * vt := by
        rw [hr, if_neg hw1, Nat.add_mul]; omega
      rw [← e]; exact hQ
theorem m_most {M : Mm} {Q : Int32 → Mm → Prop} {vt : Nat} : ∀ (f w a : Nat), w ≤ f → w < 2 ^ 31 → Q (nI ((a + hr f w) * vt)) M → B_X6_halve_77 Q (f + 1) (nI vt) (nI a) (nI w) M := by
  intro f
  induction f with
  | zero =>
    intro w a hw hb hQ
    unfold B_X6_halve_77
    refine ⟨fun _ => ?_, fun c => absurd ((nI_leI (b := 1) (by omega) (by omega)).mpr (by omega)) c⟩
    rw [pk_mul]
    simpa [hr] using hQ
  | succ f ih =>
    intro w a hw hb hQ
    unfold B_X6_halve_77
    refine ⟨fun c => ?_, fun c => ?_⟩
    · have : w ≤ 1 := (nI_leI (b := 1) (by omega) (by omega)).mp c
      rw [pk_mul]
      simpa [hr, this] using hQ
    · have hw1 : ¬ w ≤ 1 := fun z => c ((nI_leI (b := 1) (by omega) (by omega)).mpr z)
      rw [nI_1, show (2 : Int32) = nI 2 from rfl, pk_div (by omega) (by omega) (by omega), pk_sub (by omega)]
      refine ih (w - w / 2) (a + 1) (by omega) (by omega) ?_
      have e : a + hr (f + 1) w = a + 1 + hr f (w - w / 2) := by rw [hr, if_neg hw1]; omega
      rw [← e]; exact hQ
def s_beg (σ : Sg) (x y z : Int32) : Sg := uI (uI (uI (uI (uI (uI (uI σ 9 0 1) 9 1 x) 9 2 y) 9 3 z) 9 4 0) 9 5 0) 9 6 0
def s_halve (σ : Sg) (x y z : Int32) : Int32 × Sg := if x < 0 ∨ y ≤ x ∨ σ.1 0 6 ≤ y ∨ ¬ (z = 1 ∨ z = 3 ∨ z = 5) then (-1, σ) else (nI (hr 40 (tn y - tn x) * tn z), s_beg σ x y z)
theorem s_beg9 (σ : Sg) (x y z : Int32) : (s_beg σ x y z).1 9 0 = 1 ∧ (s_beg σ x y z).1 9 1 = x ∧ (s_beg σ x y z).1 9 2 = y ∧ (s_beg σ x y z).1 9 3 = z ∧ (s_beg σ x y z).1 9 4 = 0 ∧ (s_beg σ x y z).1 9 5 = 0 ∧ (s_beg σ x y z).1 9 6 = 0 := by
  unfold s_beg
  refine ⟨?_, ?_, ?_, ?_, ?_, ?_, ?_⟩ <;> simp [uI_eq, upd]
theorem h_args {σ : Sg} {N : Nat} {x y z : Int32} (rg : Rg σ N) (c1 : ¬ x < 0) (c2 : ¬ y ≤ x) (c3 : ¬ σ.1 0 6 ≤ y) (c4 : z = 1 ∨ z = 3 ∨ z = 5) : x = nI (tn x) ∧ y = nI (tn y) ∧ tn x < tn y ∧ tn y < 40 ∧ z = nI (tn z) ∧ 0 < tn z ∧ tn z ≤ 5 := by
  rw [lt_I] at c1
  rw [le_I] at c2
  have c1' : ¬ x.toInt < 0 := c1
  rw [rg.1.1, le_I, nI_toInt (by have := rg.1.2; omega)] at c3
  have hB := rg.1.2
  refine ⟨nI_tn (by omega), nI_tn (by omega), by unfold tn; omega, by unfold tn; omega, ?_⟩
  rcases c4 with rfl | rfl | rfl <;> decide
theorem x_halve {Λ : Nat → Nat} {M : Mm} {σ τ : Sg} {N : Nat} {Q : Int32 → Mm → Prop} {x y z : Int32} (h : Inv Λ M σ τ) (rg : Rg σ N) (hQ : ∀ M', Inv Λ M' (s_halve σ x y z).2 τ → Q (s_halve σ x y z).1 M') : B_X5_halve_0 Q (Λ 0) x y z M := by
  unfold B_X5_halve_0
  unfold s_halve at hQ
  rw [h.f0]
  have bad : (x < 0 ∨ y ≤ x ∨ σ.1 0 6 ≤ y ∨ ¬ (z = 1 ∨ z = 3 ∨ z = 5)) → Q (-1) M := fun c => by rw [if_pos c] at hQ; exact hQ M h
  have key : ¬ x < 0 → ¬ y ≤ x → ¬ σ.1 0 6 ≤ y → (z = 1 ∨ z = 3 ∨ z = 5) → B_X5_halve_36 Q (Λ 0) x y z M := by
    intro c1 c2 c3 c4
    obtain ⟨ex, ey, a1, a2, ez, a3, a4⟩ := h_args rg c1 c2 c3 c4
    rw [if_neg (by intro w; rcases w with w | w | w | w; exact c1 w; exact c2 w; exact c3 w; exact w c4)] at hQ
    have e9 := h.sx.2.2.2.2.2.1
    unfold B_X5_halve_36 B_X2_begin_0
    refine ⟨h.o0, Λ 9, e9.1, e9.2, e9.2, ?_⟩
    rintro _ rfl _ rfl _ rfl _ rfl _ rfl _ rfl _ rfl
    have h7 : Inv Λ _ (s_beg σ x y z) τ := ((((((h.xA 9 0 1 (by omega)).xA 9 1 x (by omega)).xA 9 2 y (by omega)).xA 9 3 z (by omega)).xA 9 4 0 (by omega)).xA 9 5 0 (by omega)).xA 9 6 0 (by omega)
    have f9 := h7.sx.2.2.2.2.2.1
    have k := s_beg9 σ x y z
    refine ⟨h7.o0, Λ 9, f9.1, f9.2, ?_⟩
    unfold B_X2_mostReruns_0
    rw [h7.cx.2.2.2.1, k.2.1, k.2.2.1]
    refine ⟨f9.2, 40 + 1, ?_⟩
    have es : y - x = nI (tn y - tn x) := by
      have : nI (tn y) - nI (tn x) = nI (tn y - tn x) := pk_sub (by omega)
      rw [← ex, ← ey] at this; exact this
    rw [es]
    refine x_most (vt := tn z) f9.2 (by rw [h7.cx.2.2.2.1, k.2.2.2.1]; exact ez) 40 (tn y - tn x) 0 (by omega) (by omega) ?_
    rw [Nat.zero_add]
    exact hQ _ h7
  refine ⟨fun c => bad (Or.inl c), fun c1 => ⟨fun c => bad (Or.inr (Or.inl c)), fun c2 => ⟨h.o0, fun c3 => ⟨fun c => key c1 c2 (Int32.not_le.mpr c3) (Or.inl c), fun n1 => ⟨fun c => key c1 c2 (Int32.not_le.mpr c3) (Or.inr (Or.inl c)), fun n2 => ⟨fun c => key c1 c2 (Int32.not_le.mpr c3) (Or.inr (Or.inr c)), fun n3 => bad ?_⟩⟩⟩, fun c => bad (Or.inr (Or.inr (Or.inl (Int32.not_lt.mp c))))⟩⟩⟩
  exact Or.inr (Or.inr (Or.inr (fun w => w.elim n1 (fun w => w.elim n2 n3))))
theorem m_halve {Λ : Nat → Nat} {M : Mm} {σ τ : Sg} {N : Nat} {Q : Int32 → Mm → Prop} {x y z : Int32} (h : Inv Λ M σ τ) (hT : sT σ ≤ 8) (rg : Rg τ N) (hQ : ∀ M', Inv Λ M' σ (s_halve τ x y z).2 → Q (s_halve τ x y z).1 M') : B_X6_halve_0 Q (Λ 400) x y z M := by
  unfold B_X6_halve_0
  unfold s_halve at hQ
  rw [show gI M (Λ 400) 3 = τ.1 0 6 from h.g0 3 (by omega) rfl]
  have bad : (x < 0 ∨ y ≤ x ∨ τ.1 0 6 ≤ y ∨ ¬ (z = 1 ∨ z = 3 ∨ z = 5)) → Q (-1) M := fun c => by rw [if_pos c] at hQ; exact hQ M h
  have key : ¬ x < 0 → ¬ y ≤ x → ¬ τ.1 0 6 ≤ y → (z = 1 ∨ z = 3 ∨ z = 5) → B_X6_halve_34 Q (Λ 400) x y z M := by
    intro c1 c2 c3 c4
    obtain ⟨ex, ey, a1, a2, ez, a3, a4⟩ := h_args rg c1 c2 c3 c4
    rw [if_neg (by intro w; rcases w with w | w | w | w; exact c1 w; exact c2 w; exact c3 w; exact w c4)] at hQ
    unfold B_X6_halve_34
    refine ⟨h.m0, ?_⟩
    rintro _ rfl _ rfl _ rfl _ rfl _ rfl _ rfl _ rfl
    have h1 : Inv Λ _ σ (uI τ 9 0 1) := h.y0 hT 34 1 (by omega) rfl
    have h2 : Inv Λ _ σ (uI _ 9 1 x) := h1.y0 hT 35 x (by omega) rfl
    have h3 : Inv Λ _ σ (uI _ 9 2 y) := h2.y0 hT 36 y (by omega) rfl
    have h4 : Inv Λ _ σ (uI _ 9 3 z) := h3.y0 hT 37 z (by omega) rfl
    have h5 : Inv Λ _ σ (uI _ 9 6 0) := h4.y0 hT 38 0 (by omega) rfl
    have h6 : Inv Λ _ σ (uI _ 9 5 0) := h5.y0 hT 39 0 (by omega) rfl
    have h7 : Inv Λ _ σ (uI _ 9 4 0) := h6.y0 hT 40 0 (by omega) rfl
    have es : uI (uI (uI (uI (uI (uI (uI τ 9 0 1) 9 1 x) 9 2 y) 9 3 z) 9 6 0) 9 5 0) 9 4 0 = s_beg τ x y z := by
      unfold s_beg
      rw [uI_comm (k := 6) (j := 5) _ _ _ _ (by omega), uI_comm (k := 6) (j := 4) _ _ _ _ (by omega), uI_comm (k := 5) (j := 4) _ _ _ _ (by omega)]
    rw [es] at h7
    refine ⟨40 + 1, ?_⟩
    have ed : y - x = nI (tn y - tn x) := by
      have : nI (tn y) - nI (tn x) = nI (tn y - tn x) := pk_sub (by omega)
      rw [← ex, ← ey] at this; exact this
    rw [ed, ez]
    refine m_most (vt := tn z) 40 (tn y - tn x) 0 (by omega) (by omega) ?_
    rw [Nat.zero_add]
    rw [← ez]
    exact hQ _ h7
  refine ⟨fun c => bad (Or.inl c), fun c1 => ⟨fun c => bad (Or.inr (Or.inl c)), fun c2 => ⟨h.m0, fun c => bad (Or.inr (Or.inr (Or.inl c))), fun c3 => ⟨fun c => key c1 c2 c3 (Or.inl c), fun n1 => ⟨fun c => key c1 c2 c3 (Or.inr (Or.inl c)), fun n2 => ⟨fun c => key c1 c2 c3 (Or.inr (Or.inr c)), fun n3 => bad ?_⟩⟩⟩⟩⟩⟩
  exact Or.inr (Or.inr (Or.inr (fun w => w.elim n1 (fun w => w.elim n2 n3))))
theorem r_halve {σ : Sg} {N : Nat} {x y z : Int32} (h : Rg σ N) : Rg (s_halve σ x y z).2 N := by
  unfold s_halve
  split
  · exact h
  · next c =>
    obtain ⟨ex, ey, a1, a2, ez, a3, a4⟩ := h_args h (fun w => c (Or.inl w)) (fun w => c (Or.inr (Or.inl w))) (fun w => c (Or.inr (Or.inr (Or.inl w)))) (Classical.not_not.mp (fun w => c (Or.inr (Or.inr (Or.inr w)))))
    have k := s_beg9 σ x y z
    refine h.h9 (fun a ha => by show (s_beg σ x y z).1 a = _; unfold s_beg; simp only [uI_ne _ _ _ ha]) (Or.inr ⟨k.1, tn x, tn y, tn z, 0, 0, by rw [k.2.1]; exact ex, by rw [k.2.2.1]; exact ey, by rw [k.2.2.2.1]; exact ez, k.2.2.2.2.2.1, k.2.2.2.2.2.2, a1, a2, a4, a3, by omega⟩)
-- count
def cnt (σ : Sg) : Nat → Nat
  | 0 => 0
  | r + 1 => cnt σ r + (if σ.1 21 r = 0 then 0 else 1)
theorem cnt_le (σ : Sg) : ∀ r, cnt σ r ≤ r
  | 0 => Nat.le_refl 0
  | r + 1 => by have := cnt_le σ r; simp only [cnt]; split <;> omega
theorem cnt_stay (σ : Sg) {a : Nat} : ∀ d, (∀ r, a ≤ r → r < a + d → σ.1 21 r = 0) → cnt σ (a + d) = cnt σ a
  | 0, _ => rfl
  | d + 1, h => by
    rw [← Nat.add_assoc, cnt, if_pos (h (a + d) (by omega) (by omega)), Nat.add_zero]
    exact cnt_stay σ d (fun r h1 h2 => h r h1 (by omega))
theorem x_row_at {Λ : Nat → Nat} {M : Mm} {σ τ : Sg} {N : Nat} (h : Inv Λ M σ τ) (rg : Rg σ N) {t m : Nat} (ht : t < sT σ) (hm : m < 4) : gR M (Λ 0) 0 = some (Λ 1) ∧ ar M (Λ 1) 11 (nI t) ∧ gR M (Λ 1) (Int32.toNatClampNeg (nI t)) = some (Λ (tc t)) ∧ ok M (Λ (tc t)) 4 ∧ gR M (Λ (tc t)) 1 = some (Λ (tc t + 1)) ∧ ar M (Λ (tc t + 1)) 10 (nI m) ∧ gR M (Λ (tc t + 1)) (Int32.toNatClampNeg (nI m)) = some (Λ (rc t m)) ∧ ok M (Λ (rc t m)) 3 ∧ RowSh Λ M (rc t m) ∧ RX Λ M σ t m := by
  have hT := rg.2.1.2
  have s := h.sx.2.2.2.2.2.2 t ht
  have sm := s.2.2.2.2.2 m hm
  rw [nI_clamp (by omega), nI_clamp (by omega)]
  exact ⟨h.sx.2.1.1, ar_nI h.sx.2.1.2.1 h.sx.2.1.2.2 (by omega) (by omega), s.1, s.2.1, s.2.2.1, ar_nI s.2.2.2.1 s.2.2.2.2.1 hm (by omega), sm.1, sm.2.1, sm.2, (h.cx.2.2.2.2.2 t ht).2 m hm⟩
theorem x_cr_14 {Λ : Nat → Nat} {M : Mm} {σ τ : Sg} {N : Nat} {Q : Int32 → Mm → Prop} {K4 : Nat → Int32 → Int32 → Mm → Prop} {t : Nat} (h : Inv Λ M σ τ) (rg : Rg σ N) (ht : t < sT σ) (hK : K4 (Λ 0) (nI (cnt σ (4 * t + 4))) (nI (t + 1)) M) :
    ∀ (d m : Nat), m + d = 4 → B_X5_countRows_14 Q K4 (d + 1) (Λ 0) (nI (cnt σ (4 * t + m))) (nI t) (nI m) M := by
  intro d
  induction d with
  | zero =>
    intro m hm
    unfold B_X5_countRows_14
    have e : m = 4 := by omega
    subst e
    rw [nI_1]
    exact ⟨fun _ => hK, fun c => absurd (Int32.le_refl _) c⟩
  | succ d ih =>
    intro m hm
    unfold B_X5_countRows_14
    obtain ⟨a1, a2, a3, a4, a5, a6, a7, a8, _, a9⟩ := x_row_at h rg ht (show m < 4 by omega)
    refine ⟨fun c => absurd ((nI_leI (a := 4) (by omega) (by omega)).mp c) (by omega), fun _ => ⟨h.o0, Λ 1, a1, a2, Λ (tc t), a3, a4, Λ (tc t + 1), a5, a6, Λ (rc t m), a7, a8, ?_⟩⟩
    rw [a9.1]
    refine ⟨fun c => ?_, fun c => ?_⟩
    · have := ih (m + 1) (by omega)
      rw [show 4 * t + (m + 1) = 4 * t + m + 1 by omega, cnt, if_pos c, Nat.add_zero] at this
      rw [nI_1]; exact this
    · have := ih (m + 1) (by omega)
      rw [show 4 * t + (m + 1) = 4 * t + m + 1 by omega, cnt, if_neg c] at this
      rw [nI_1, nI_1]; exact this
theorem x_cr_4 {Λ : Nat → Nat} {M : Mm} {σ τ : Sg} {N : Nat} {Q : Int32 → Mm → Prop} (h : Inv Λ M σ τ) (rg : Rg σ N) (hQ : Q (nI (cnt σ 32)) M) :
    ∀ (d t : Nat), t + d = sT σ → B_X5_countRows_4 Q (d + 1) (Λ 0) (nI (cnt σ (4 * t))) (nI t) M := by
  have hT := rg.2.1.2
  intro d
  induction d with
  | zero =>
    intro t ht
    unfold B_X5_countRows_4
    have e : t = sT σ := by omega
    rw [h.f0, rg.2.1.1, ← e]
    refine ⟨h.o0, fun _ => ?_, fun c => absurd (Int32.le_refl _) c⟩
    have := cnt_stay σ (a := 4 * t) (32 - 4 * t) (fun r h1 h2 => rg.2.2.2.2.2.2.1 r (by omega) (by omega))
    rw [show 4 * t + (32 - 4 * t) = 32 by omega] at this
    rw [← this]; exact hQ
  | succ d ih =>
    intro t ht
    unfold B_X5_countRows_4
    rw [h.f0, rg.2.1.1]
    refine ⟨h.o0, fun c => absurd ((nI_leI (by omega) (by omega)).mp c) (by omega), fun _ => ⟨4 + 1, ?_⟩⟩
    refine x_cr_14 (t := t) h rg (by omega) ?_ 4 0 (by omega)
    have := ih (t + 1) (by omega)
    rw [show 4 * (t + 1) = 4 * t + 4 by omega] at this
    exact this
def s_count (σ : Sg) (x : Int32) : Int32 := if x = 0 then σ.1 0 6 else if x = 1 then σ.1 0 7 else if x = 2 then nI (cnt σ 32) else if x = 3 then σ.1 0 10 else -1
theorem x_count {Λ : Nat → Nat} {M : Mm} {σ τ : Sg} {N : Nat} {Q : Int32 → Mm → Prop} {x : Int32} (h : Inv Λ M σ τ) (rg : Rg σ N) (hQ : Q (s_count σ x) M) : B_X5_count_0 Q (Λ 0) x M := by
  unfold B_X5_count_0
  unfold s_count at hQ
  refine ⟨fun c => ?_, fun c => ⟨h.o0, ?_⟩, fun c => ⟨h.o0, ?_⟩, fun c => ⟨h.o0, ?_⟩, fun c => ⟨h.o0, ?_⟩⟩
  · rw [if_neg (fun z => by rw [z] at c; revert c; decide), if_neg (fun z => by rw [z] at c; revert c; decide), if_neg (fun z => by rw [z] at c; revert c; decide), if_neg (fun z => by rw [z] at c; revert c; decide)] at hQ
    exact hQ
  · subst c; rw [h.f0]; exact hQ
  · subst c; rw [h.f0]; exact hQ
  · subst c
    exact ⟨sT σ + 1, x_cr_4 h rg hQ (sT σ) 0 (by omega)⟩
  · subst c; rw [h.f0]; exact hQ
theorem m_count {Λ : Nat → Nat} {M : Mm} {σ τ : Sg} {Q : Int32 → Mm → Prop} {x : Int32} (h : Inv Λ M σ τ) (hQ : Q (s_count τ x) M) : B_X6_count_0 Q (Λ 400) x M := by
  unfold s_count at hQ
  have key : ∀ (d r : Nat), r + d = 32 → B_X6_count_4 Q (d + 1) (Λ 400) x (nI (cnt τ r)) (nI r) M := by
    intro d
    induction d with
    | zero =>
      intro r hr
      unfold B_X6_count_4
      have e : r = 32 := by omega
      subst e
      rw [show gI M (Λ 400) 30 = τ.1 0 10 from h.g0 30 (by omega) rfl, show gI M (Λ 400) 4 = τ.1 0 7 from h.g0 4 (by omega) rfl, show gI M (Λ 400) 3 = τ.1 0 6 from h.g0 3 (by omega) rfl]
      refine ⟨fun _ => ⟨fun c0 => ⟨fun c1 => ⟨fun c2 => ⟨fun c3 => ?_, fun c3 => ⟨h.m0, ?_⟩⟩, fun c2 => ?_⟩, fun c1 => ⟨h.m0, ?_⟩⟩, fun c0 => ⟨h.m0, ?_⟩⟩, fun c => absurd (Int32.le_refl _) c⟩
      · rw [if_neg c0, if_neg c1, if_neg c2, if_neg c3] at hQ; exact hQ
      · rw [if_neg c0, if_neg c1, if_neg c2, if_pos c3] at hQ; exact hQ
      · rw [if_neg c0, if_neg c1, if_pos c2] at hQ; exact hQ
      · rw [if_neg c0, if_pos c1] at hQ; exact hQ
      · rw [if_pos c0] at hQ; exact hQ
    | succ d ih =>
      intro r hr
      unfold B_X6_count_4
      refine ⟨fun c => absurd ((nI_leI (a := 32) (by omega) (by omega)).mp c) (by omega), fun _ => ⟨h.m0, Λ 403, h.ms.r 3 (by omega) (by omega), h.ms.a 3 (by omega) (by omega) (show r < 32 by omega), ?_⟩⟩
      rw [nI_clamp (by omega), h.cm.2.2.1.2.2.2]
      have := ih (r + 1) (by omega)
      refine ⟨fun c => ?_, fun c => ?_⟩
      · rw [cnt, if_pos c] at this
        rw [show (0 : Int32) = nI 0 from rfl, nI_add, nI_1]; exact this
      · rw [cnt, if_neg c] at this
        rw [nI_1, nI_1]; exact this
  exact ⟨32 + 1, key 32 0 (by omega)⟩
-- the digest
def dgR (f : Nat → Int32) (h : Int64) : Nat → Int64
  | 0 => h
  | k + 1 => (31 : Int64) * dgR f h k + Int32.toInt64 (f k)
def dgM (σ : Sg) (t : Nat) (h : Int64) : Nat → Int64
  | 0 => h
  | m + 1 => if σ.1 21 (4 * t + m) = 0 then (31 : Int64) * dgM σ t h m - 1 else dgR (σ.1 (100 + (4 * t + m))) (dgM σ t h m) 40
def dgT (σ : Sg) (h : Int64) : Nat → Int64
  | 0 => h
  | t + 1 => dgM σ t ((31 : Int64) * dgT σ h t + Int32.toInt64 (σ.1 20 t)) 4
def dg0 (σ : Sg) : Int64 := ((31 : Int64) * (((31 : Int64) * (((31 : Int64) * (17 : Int64)) + (Int32.toInt64 (σ.1 0 6)))) + (Int32.toInt64 (σ.1 0 8)))) + (Int32.toInt64 (σ.1 0 9))
def s_digest (σ : Sg) : Int64 := (((31 : Int64) * (((31 : Int64) * (((31 : Int64) * (((31 : Int64) * dgT σ (dg0 σ) (sT σ)) + (Int32.toInt64 (σ.1 0 10)))) + (Int32.toInt64 (s_asks σ)))) + (Int32.toInt64 (s_found σ)))) + (Int32.toInt64 (σ.1 9 4)))
theorem x_dg_row {Λ : Nat → Nat} {M : Mm} {Q : Int64 → Mm → Prop} {r : Nat} {v : Nat → Int32} {s : Int64} (rs : RowSh Λ M r) (hv : gI M (Λ (r + 1)) = v) (h0 : gI M (Λ r) 1 = 0 → Q ((31 : Int64) * s - 1) M) (h1 : ¬ gI M (Λ r) 1 = 0 → Q (dgR v s 40) M) : B_X3_digestOnto_0 Q (Λ r) s M := by
  unfold B_X3_digestOnto_0
  refine ⟨rs.1, fun c => ⟨40 + 1, ?_⟩, fun c => h0 c⟩
  have h1 := h1 c
  have key : ∀ (d k : Nat), k + d = 40 → B_X3_digestOnto_20 Q (d + 1) (Λ r) (dgR v s k) (nI k) M := by
    intro d
    induction d with
    | zero =>
      intro k hk
      unfold B_X3_digestOnto_20
      have e : k = 40 := by omega
      subst e
      exact ⟨fun _ => h1, fun c => absurd (Int32.le_refl _) c⟩
    | succ d ih =>
      intro k hk
      unfold B_X3_digestOnto_20
      refine ⟨fun c => absurd ((nI_leI (a := 40) (by omega) (by omega)).mp c) (by omega), fun _ => ⟨rs.1, Λ (r + 1), rs.2.1.1, ar_nI (rs.2.2.1 1 (by omega) (by omega)) (rs.2.2.2.1 1 (by omega) (by omega) (by omega)) (by omega) (by omega), ?_⟩⟩
      rw [nI_clamp (by omega), hv, nI_1]
      exact ih (k + 1) (by omega)
  exact key 40 0 (by omega)
theorem x_dg_70 {Λ : Nat → Nat} {M : Mm} {σ τ : Sg} {N : Nat} {Q : Int64 → Mm → Prop} {K42 : Nat → Int64 → Int32 → Mm → Prop} {t : Nat} {s : Int64} (h : Inv Λ M σ τ) (rg : Rg σ N) (ht : t < sT σ) (hK : K42 (Λ 0) (dgM σ t s 4) (nI (t + 1)) M) :
    ∀ (d m : Nat), m + d = 4 → B_X5_digest_70 Q K42 (d + 1) (Λ 0) (dgM σ t s m) (nI t) (nI m) M := by
  intro d
  induction d with
  | zero =>
    intro m hm
    unfold B_X5_digest_70
    have e : m = 4 := by omega
    subst e
    rw [nI_1]
    exact ⟨fun _ => hK, fun c => absurd (Int32.le_refl _) c⟩
  | succ d ih =>
    intro m hm
    unfold B_X5_digest_70
    obtain ⟨a1, a2, a3, a4, a5, a6, a7, a8, a10, a9⟩ := x_row_at h rg ht (show m < 4 by omega)
    refine ⟨fun c => absurd ((nI_leI (a := 4) (by omega) (by omega)).mp c) (by omega), fun _ => ⟨h.o0, Λ 1, a1, a2, Λ (tc t), a3, a4, Λ (tc t + 1), a5, a6, Λ (rc t m), a7, a8, ?_⟩⟩
    have := ih (m + 1) (by omega)
    rw [nI_1]
    refine x_dg_row a10 a9.2.1 (fun c => ?_) (fun c => ?_)
    · rw [a9.1] at c; rw [dgM, if_pos c] at this; exact this
    · rw [a9.1] at c; rw [dgM, if_neg c] at this; exact this
theorem x_digest {Λ : Nat → Nat} {M : Mm} {σ τ : Sg} {N : Nat} {Q : Int64 → Mm → Prop} (h : Inv Λ M σ τ) (rg : Rg σ N) (hQ : Q (s_digest σ) M) : B_X5_digest_0 Q (Λ 0) M := by
  have hT := rg.2.1.2
  unfold B_X5_digest_0
  rw [h.f0, h.f0, h.f0]
  refine ⟨h.o0, sT σ + 1, ?_⟩
  have key : ∀ (d t : Nat), t + d = sT σ → B_X5_digest_42 Q (d + 1) (Λ 0) (dgT σ (dg0 σ) t) (nI t) M := by
    intro d
    induction d with
    | zero =>
      intro t ht
      unfold B_X5_digest_42
      have e : t = sT σ := by omega
      rw [h.f0, rg.2.1.1, ← e]
      refine ⟨h.o0, fun _ => x_asks h ⟨h.o0, x_found h ⟨h.o0, ?_⟩⟩, fun c => absurd (Int32.le_refl _) c⟩
      unfold B_X5_reruns_0
      have e9 := h.sx.2.2.2.2.2.1
      refine ⟨h.o0, Λ 9, e9.1, e9.2, ?_⟩
      rw [h.f0, h.cx.2.2.2.1, e]
      exact hQ
    | succ d ih =>
      intro t ht
      unfold B_X5_digest_42
      rw [h.f0, rg.2.1.1]
      obtain ⟨a1, a2, a3, a4, _⟩ := x_row_at h rg (show t < sT σ by omega) (show 0 < 4 by omega)
      refine ⟨h.o0, fun c => absurd ((nI_leI (by omega) (by omega)).mp c) (by omega), fun _ => ⟨Λ 1, a1, a2, Λ (tc t), a3, a4, 4 + 1, ?_⟩⟩
      rw [(h.cx.2.2.2.2.2 t (by omega)).1]
      exact x_dg_70 (t := t) h rg (by omega) (ih (t + 1) (by omega)) 4 0 (by omega)
  exact key (sT σ) 0 (by omega)
theorem e4tm (t m : Nat) : ((4 : Int32) * nI t) + nI m = nI (4 * t + m) := by rw [show (4 : Int32) = nI 4 from rfl, pk_mul, nI_add]
theorem e40rb (r b : Nat) : ((40 : Int32) * nI r) + nI b = nI (40 * r + b) := by rw [show (40 : Int32) = nI 40 from rfl, pk_mul, nI_add]
theorem m_dg_92 {Λ : Nat → Nat} {M : Mm} {σ τ : Sg} {Q : Int64 → Mm → Prop} {K32 : Nat → Int64 → Int32 → Mm → Prop} {K57 : Nat → Int64 → Int32 → Int32 → Mm → Prop} {x3 x4 : Int32} {r : Nat} {s : Int64} (h : Inv Λ M σ τ) (hr : r < 32) :
    (τ.1 21 r = 0 → K57 (Λ 400) s x3 (x4 + 1) M → B_X6_digest_92 Q K32 K57 (0 + 1) (Λ 400) s x3 x4 (nI r) (nI 0) M) ∧ (¬ τ.1 21 r = 0 → K57 (Λ 400) (dgR (τ.1 (100 + r)) s 40) x3 (x4 + 1) M → ∀ (d k : Nat), k + d = 40 → B_X6_digest_92 Q K32 K57 (d + 1) (Λ 400) (dgR (τ.1 (100 + r)) s k) x3 x4 (nI r) (nI k) M) := by
  have ha := h.ms.a 3 (by omega) (by omega) (show r < 32 by omega)
  have hs := h.ms.r 3 (by omega) (by omega)
  refine ⟨fun c hK => ?_, fun c hK d => ?_⟩
  · unfold B_X6_digest_92
    refine ⟨fun c => hK, fun _ => ⟨h.m0, Λ 403, hs, ha, ?_⟩⟩
    rw [nI_clamp (by omega), h.cm.2.2.1.2.2.2]
    exact ⟨fun _ => hK, fun z => absurd c z⟩
  · induction d with
    | zero =>
      intro k hk
      unfold B_X6_digest_92
      have e : k = 40 := by omega
      subst e
      exact ⟨fun _ => hK, fun c => absurd (Int32.le_refl _) c⟩
    | succ d ih =>
      intro k hk
      unfold B_X6_digest_92
      refine ⟨fun c => absurd ((nI_leI (a := 40) (by omega) (by omega)).mp c) (by omega), fun _ => ⟨h.m0, Λ 403, hs, ha, ?_⟩⟩
      rw [nI_clamp (n := r) (by omega), h.cm.2.2.1.2.2.2]
      refine ⟨fun z => absurd z c, fun _ => ⟨Λ 404, h.ms.r 4 (by omega) (by omega), by rw [e40rb]; exact h.ms.a 4 (by omega) (by omega) (show 40 * r + k < 1280 by omega), ?_⟩⟩
      rw [e40rb, nI_clamp (by omega), h.cm.2.2.2.1 r hr c k (by omega), nI_1]
      exact ih (k + 1) (by omega)
theorem m_dg_57 {Λ : Nat → Nat} {M : Mm} {σ τ : Sg} {Q : Int64 → Mm → Prop} {K32 : Nat → Int64 → Int32 → Mm → Prop} {t : Nat} {s : Int64} (h : Inv Λ M σ τ) (ht : t < 8) (hK : K32 (Λ 400) (dgM τ t s 4) (nI (t + 1)) M) :
    ∀ (d m : Nat), m + d = 4 → B_X6_digest_57 Q K32 (d + 1) (Λ 400) (dgM τ t s m) (nI t) (nI m) M := by
  intro d
  induction d with
  | zero =>
    intro m hm
    unfold B_X6_digest_57
    have e : m = 4 := by omega
    subst e
    rw [nI_1]
    exact ⟨fun _ => hK, fun c => absurd (Int32.le_refl _) c⟩
  | succ d ih =>
    intro m hm
    unfold B_X6_digest_57
    rw [e4tm]
    refine ⟨fun c => absurd ((nI_leI (a := 4) (by omega) (by omega)).mp c) (by omega), fun _ => ⟨h.m0, Λ 403, h.ms.r 3 (by omega) (by omega), h.ms.a 3 (by omega) (by omega) (show 4 * t + m < 32 by omega), ?_⟩⟩
    rw [nI_clamp (by omega), h.cm.2.2.1.2.2.2]
    have := ih (m + 1) (by omega)
    have dd := fun s => m_dg_92 (Q := Q) (K32 := K32) (K57 := fun y0 y1 y2 y3 My => B_X6_digest_57 Q K32 (d + 1) y0 y1 y2 y3 My) (x3 := nI t) (x4 := nI m) (r := 4 * t + m) (s := s) h (by omega)
    refine ⟨fun c => ⟨40 + 1, (dd _).2 c ?_ 40 0 (by omega)⟩, fun c => ⟨0 + 1, (dd _).1 c ?_⟩⟩
    · rw [dgM, if_neg c] at this
      rw [nI_1]; exact this
    · rw [dgM, if_pos c] at this
      rw [nI_1]; exact this
theorem m_digest {Λ : Nat → Nat} {M : Mm} {σ τ : Sg} {N : Nat} {Q : Int64 → Mm → Prop} (h : Inv Λ M σ τ) (rg : Rg τ N) (hQ : Q (s_digest τ) M) : B_X6_digest_0 Q (Λ 400) M := by
  have hT := rg.2.1.2
  unfold B_X6_digest_0
  rw [show gI M (Λ 400) 3 = τ.1 0 6 from h.g0 3 (by omega) rfl, show gI M (Λ 400) 13 = τ.1 0 8 from h.g0 13 (by omega) rfl, show gI M (Λ 400) 14 = τ.1 0 9 from h.g0 14 (by omega) rfl]
  refine ⟨h.m0, sT τ + 1, ?_⟩
  have key : ∀ (d t : Nat), t + d = sT τ → B_X6_digest_32 Q (d + 1) (Λ 400) (dgT τ (dg0 τ) t) (nI t) M := by
    intro d
    induction d with
    | zero =>
      intro t ht
      unfold B_X6_digest_32
      have e : t = sT τ := by omega
      rw [show gI M (Λ 400) 4 = τ.1 0 7 from h.g0 4 (by omega) rfl, rg.2.1.1, ← e]
      refine ⟨h.m0, fun _ => m_asks h rg ⟨h.m0, m_found h rg ⟨h.m0, ?_⟩⟩, fun c => absurd (Int32.le_refl _) c⟩
      rw [show gI M (Λ 400) 30 = τ.1 0 10 from h.g0 30 (by omega) rfl, show gI M (Λ 400) 40 = τ.1 9 4 from h.g0 40 (by omega) rfl, e]
      exact hQ
    | succ d ih =>
      intro t ht
      unfold B_X6_digest_32
      rw [show gI M (Λ 400) 4 = τ.1 0 7 from h.g0 4 (by omega) rfl, rg.2.1.1]
      refine ⟨h.m0, fun c => absurd ((nI_leI (by omega) (by omega)).mp c) (by omega), fun _ => ⟨Λ 402, h.ms.r 2 (by omega) (by omega), h.ms.a 2 (by omega) (by omega) (show t < 8 by omega), 4 + 1, ?_⟩⟩
      rw [nI_clamp (by omega), h.cm.2.2.1.2.2.1]
      exact m_dg_57 (t := t) h (by omega) (ih (t + 1) (by omega)) 4 0 (by omega)
  exact key (sT τ) 0 (by omega)
