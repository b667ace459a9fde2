/-! PURE, 40: what calls leave as it was -/
def K7 (σ σ' : Sg) : Prop := σ'.1 0 7 = σ.1 0 7 ∧ ∀ a, 200 ≤ a → σ'.1 a = σ.1 a
theorem K7.rz {σ σ' : Sg} (h : K7 σ σ') (z : Rz σ) : Rz σ' := fun r hr h4 b hb => by
  have e : sT σ' = sT σ := by unfold sT; rw [h.1]
  rw [e] at h4
  rw [h.2 _ (by omega)]; exact z r hr h4 b hb
theorem K7.refl (σ : Sg) : K7 σ σ := ⟨rfl, fun _ _ => rfl⟩
theorem K7.i {σ σ' : Sg} (h : K7 σ σ') (a k : Nat) (v : Int32) (ha : a < 200) (hk : a ≠ 0 ∨ k ≠ 7) : K7 σ (uI σ' a k v) := by
  refine ⟨?_, fun c hc => by rw [uI_ne _ _ _ (by omega)]; exact h.2 c hc⟩
  by_cases e : a = 0
  · subst e; rw [uI_eq, upd_ne _ _ (by omega)]; exact h.1
  · rw [uI_ne _ _ _ (by omega)]; exact h.1
theorem K7.a {σ σ' : Sg} (h : K7 σ σ') (a : Nat) (f : Nat → Int32) (ha : a < 200) (h0 : a ≠ 0) : K7 σ (uA σ' a f) :=
  ⟨by rw [uA_ne _ _ (by omega)]; exact h.1, fun c hc => by rw [uA_ne _ _ (by omega)]; exact h.2 c hc⟩
theorem K7.l {σ σ' : Sg} (h : K7 σ σ') (k : Nat) (v : Int64) : K7 σ (uL σ' k v) := h
theorem K7.m (σ : Sg) (k : Nat) : K7 σ (mt σ k) := ((K7.refl σ).i 0 11 _ (by omega) (by omega)).i 2 k _ (by omega) (by omega)
theorem k_builds (σ : Sg) (n : Int32) : K7 σ (s_builds σ n).2 := by
  unfold s_builds; split
  · exact K7.refl σ
  · exact (K7.refl σ).i _ _ _ (by omega) (by omega)
theorem k_set (σ : Sg) (k : Nat) (b n : Int32) (hk : k ≠ 7) : K7 σ (s_set σ k b n).2 := by
  unfold s_set; split
  · exact K7.refl σ
  · exact (K7.refl σ).i _ _ _ (by omega) (by omega)
theorem k_rerun (σ : Sg) (x : Int32) : K7 σ (s_rerun σ x).2 := by
  have t : K7 σ (s_take σ x) := (((K7.refl σ).i 9 4 _ (by omega) (by omega)).i 9 5 _ (by omega) (by omega)).i 9 6 _ (by omega) (by omega)
  unfold s_rerun; split
  · split
    · exact ((t.i 9 _ _ (by omega) (by omega)).i 9 5 _ (by omega) (by omega)).i 9 6 _ (by omega) (by omega)
    · exact t
  · exact K7.refl σ
theorem k_halve (σ : Sg) (x y z : Int32) : K7 σ (s_halve σ x y z).2 := by
  unfold s_halve; split
  · exact K7.refl σ
  · exact (((((((K7.refl σ).i 9 0 _ (by omega) (by omega)).i 9 1 _ (by omega) (by omega)).i 9 2 _ (by omega) (by omega)).i 9 3 _ (by omega) (by omega)).i 9 4 _ (by omega) (by omega)).i 9 5 _ (by omega) (by omega)).i 9 6 _ (by omega) (by omega)
theorem rx_lt {σ : Sg} {N : Nat} {x y : Int32} (rg : Rg σ N) (h : isR σ x y) : rx x y < 32 := by
  have hT := rg.2.1.2
  obtain ⟨⟨a1, a2⟩, a3, a4⟩ := h
  unfold rx tn; omega
theorem k_row {σ : Sg} {N : Nat} {x y : Int32} (rg : Rg σ N) : K7 σ (s_row σ x y).2 := by
  unfold s_row; split
  · next c =>
    have := rx_lt rg c
    exact ((K7.refl σ).a _ _ (by omega) (by omega)).i 21 _ _ (by omega) (by omega)
  · exact K7.refl σ
theorem k_tear {σ : Sg} {N : Nat} {x y : Int32} (rg : Rg σ N) : K7 σ (s_tear σ x y).2 := by
  unfold s_tear; split
  · next c =>
    have := rx_lt rg c
    split
    · exact K7.m σ 1
    · exact ((K7.refl σ).a _ _ (by omega) (by omega)).i 21 _ _ (by omega) (by omega)
  · exact K7.refl σ
theorem k_lay {σ : Sg} {N : Nat} {x y b v : Int32} (rg : Rg σ N) : K7 σ (s_lay σ x y b v).2 := by
  unfold s_lay; split
  · next c =>
    have := rx_lt rg c.1
    split
    · exact K7.m σ 1
    · split
      · exact K7.m σ 2
      · exact (K7.refl σ).a _ _ (by omega) (by omega)
  · exact K7.refl σ
theorem k_at (σ : Sg) (x y b : Int32) : K7 σ (s_at σ x y b).2 := by
  unfold s_at; split
  · split
    · exact K7.m σ 1
    · split
      · exact K7.m σ 2
      · exact K7.refl σ
  · exact K7.refl σ
theorem k_nd {σ : Sg} {x y : Int32} {f : Nat → Nat → Int32 × Sg} (h : ∀ t m, K7 σ (f t m).2) : K7 σ (nd σ x y f).2 := by
  unfold nd; split
  · split
    · exact K7.m σ 1
    · exact h _ _
  · exact K7.refl σ
theorem k_rank (σ : Sg) (x y b : Int32) : K7 σ (nd σ x y (f_rank σ b)).2 := k_nd (fun t m => by
  unfold f_rank; split
  · exact K7.m σ 2
  · split
    · exact K7.m σ 4
    · exact K7.refl σ)
theorem k_mean (σ : Sg) (x y : Int32) : K7 σ (nd σ x y (f_mean σ)).2 := k_nd (fun t m => by
  unfold f_mean; split
  · exact K7.m σ 4
  · exact K7.refl σ)
theorem k_cuts (σ : Sg) (x y : Int32) : K7 σ (nd σ x y (f_cuts σ)).2 := k_nd (fun t m => (K7.refl σ).l _ _)
theorem k_cut (σ : Sg) (x y i : Int32) : K7 σ (nd σ x y (f_cut σ i)).2 := k_nd (fun t m => K7.refl σ)
theorem k_middle (σ : Sg) (x y i : Int32) : K7 σ (nd σ x y (f_middle σ i)).2 := k_nd (fun t m => K7.refl σ)
theorem k_own (σ : Sg) (x y i : Int32) : K7 σ (nd σ x y (f_own σ i)).2 := k_nd (fun t m => K7.refl σ)
theorem k_size (σ : Sg) (x y i : Int32) : K7 σ (nd σ x y (f_size σ i)).2 := k_nd (fun t m => by
  unfold f_size; split
  · exact (K7.refl σ).l _ _
  · exact K7.refl σ)
theorem k_undone (σ : Sg) (x y i : Int32) : K7 σ (nd σ x y (f_undone σ i)).2 := k_nd (fun t m => by
  unfold f_undone; split
  · exact K7.refl σ
  · exact K7.m σ 3)
theorem k_odds (σ : Sg) (x y i : Int32) : K7 σ (nd σ x y (f_odds σ i)).2 := k_nd (fun t m => by
  unfold f_odds; split
  · split
    · exact K7.refl σ
    · exact ((K7.refl σ).l _ _).l _ _
  · exact K7.refl σ)
theorem r_cut {σ : Sg} {N : Nat} {x y i : Int32} (h : Rg σ N) : Rg (nd σ x y (f_cut σ i)).2 N := nd_r h (fun _ _ _ _ => h)
theorem r_middle {σ : Sg} {N : Nat} {x y i : Int32} (h : Rg σ N) : Rg (nd σ x y (f_middle σ i)).2 N := nd_r h (fun _ _ _ _ => h)
theorem r_own {σ : Sg} {N : Nat} {x y i : Int32} (h : Rg σ N) : Rg (nd σ x y (f_own σ i)).2 N := nd_r h (fun _ _ _ _ => h)
-- calls that only tell
theorem x_upper {Λ : Nat → Nat} {M : Mm} {σ τ : Sg} {Q : Int64 → Mm → Prop} (h : Inv Λ M σ τ) (hQ : Q (σ.2 12) M) : B_X5_upper_0 Q (Λ 0) M := ⟨h.o0, by rw [h.cx.2.2.2.2.1]; exact hQ⟩
theorem m_upper {Λ : Nat → Nat} {M : Mm} {σ τ : Sg} {Q : Int64 → Mm → Prop} (h : Inv Λ M σ τ) (hQ : Q (τ.2 12) M) : B_X6_upper_0 Q (Λ 400) M := ⟨h.m0, by rw [h.cm.2.1.2.1]; exact hQ⟩
theorem x_lower {Λ : Nat → Nat} {M : Mm} {σ τ : Sg} {Q : Int64 → Mm → Prop} (h : Inv Λ M σ τ) (hQ : Q (σ.2 13) M) : B_X5_lower_0 Q (Λ 0) M := ⟨h.o0, by rw [h.cx.2.2.2.2.1]; exact hQ⟩
theorem m_lower {Λ : Nat → Nat} {M : Mm} {σ τ : Sg} {Q : Int64 → Mm → Prop} (h : Inv Λ M σ τ) (hQ : Q (τ.2 13) M) : B_X6_lower_0 Q (Λ 400) M := ⟨h.m0, by rw [h.cm.2.1.2.2]; exact hQ⟩
theorem x_asked {Λ : Nat → Nat} {M : Mm} {σ τ : Sg} {Q : Int64 → Mm → Prop} (h : Inv Λ M σ τ) (hQ : Q (σ.2 14) M) : B_X5_asked_0 Q (Λ 0) M := ⟨h.o0, by rw [h.cx.2.2.2.2.1]; exact hQ⟩
theorem m_asked {Λ : Nat → Nat} {M : Mm} {σ τ : Sg} {Q : Int64 → Mm → Prop} (h : Inv Λ M σ τ) (hQ : Q (τ.2 14) M) : B_X6_asked_0 Q (Λ 400) M := ⟨h.m0, by rw [h.cm.2.1.1]; exact hQ⟩
theorem x_finding {Λ : Nat → Nat} {M : Mm} {σ τ : Sg} {Q : Int32 → Mm → Prop} (h : Inv Λ M σ τ) (hQ : Q (σ.1 0 11) M) : B_X5_finding_0 Q (Λ 0) M := ⟨h.o0, by rw [h.f0]; exact hQ⟩
theorem m_finding {Λ : Nat → Nat} {M : Mm} {σ τ : Sg} {Q : Int32 → Mm → Prop} (h : Inv Λ M σ τ) (hQ : Q (τ.1 0 11) M) : B_X6_finding_0 Q (Λ 400) M := ⟨h.m0, by rw [show gI M (Λ 400) 0 = τ.1 0 11 from h.g0 0 (by omega) rfl]; exact hQ⟩
theorem x_reruns {Λ : Nat → Nat} {M : Mm} {σ τ : Sg} {Q : Int32 → Mm → Prop} (h : Inv Λ M σ τ) (hQ : Q (σ.1 9 4) M) : B_X5_reruns_0 Q (Λ 0) M := ⟨h.o0, Λ 9, h.sx.2.2.2.2.2.1.1, h.sx.2.2.2.2.2.1.2, by rw [h.cx.2.2.2.1]; exact hQ⟩
theorem m_reruns {Λ : Nat → Nat} {M : Mm} {σ τ : Sg} {Q : Int32 → Mm → Prop} (h : Inv Λ M σ τ) (hQ : Q (τ.1 9 4) M) : B_X6_reruns_0 Q (Λ 400) M := ⟨h.m0, by rw [show gI M (Λ 400) 40 = τ.1 9 4 from h.g0 40 (by omega) rfl]; exact hQ⟩
theorem k_copy {σ : Sg} {N : Nat} {x y i o j n : Int32} (rg : Rg σ N) : K7 σ (s_copy σ x y i o j n).2 := by
  unfold s_copy; split
  · next c =>
    have := rx_lt rg c.2
    split
    · exact K7.m σ 5
    · split
      · exact K7.m σ 1
      · split
        · exact (K7.refl σ).a _ _ (by omega) (by omega)
        · exact K7.m σ 2
  · exact K7.refl σ
