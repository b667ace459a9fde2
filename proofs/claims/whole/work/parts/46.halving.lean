/-! PURE, 26: halving, counting, the digest -/
theorem H_lt {lo hi : Nat} (h : lo < hi) (hh : hi < 40) : (1 : Int32) < nI hi - nI lo ↔ lo + 1 < hi := by
  rw [pk_sub (by omega)]
  exact nI_ltI (a := 1) (by omega) (by omega) |>.trans (by omega)
theorem H_eq {lo hi : Nat} (h : lo < hi) (hh : hi < 40) : nI hi = nI lo + 1 ↔ ¬ lo + 1 < hi := by
  rw [nI_1, nI_eq (by omega) (by omega)]; omega
theorem H_mid {lo hi : Nat} (h : lo < hi) (hh : hi < 40) : nI lo + (nI hi - nI lo) / 2 = nI (lo + (hi - lo) / 2) := by
  rw [pk_sub (by omega), show (2 : Int32) = nI 2 from rfl, pk_div (by omega) (by omega) (by omega), nI_add]
/-- 0: none has begun, 1: it goes on, 2: it has ended -/
def hst (σ : Sg) : Nat := if σ.1 9 0 = 0 then 0 else if (1 : Int32) < σ.1 9 2 - σ.1 9 1 then 1 else 2
def s_asks (σ : Sg) : Int32 := if hst σ = 0 then -4 else if hst σ = 1 then σ.1 9 1 + (σ.1 9 2 - σ.1 9 1) / 2 else -9
def s_found (σ : Sg) : Int32 := if hst σ = 0 then -4 else if hst σ = 1 then -9 else σ.1 9 2
theorem x_ended {Λ : Nat → Nat} {M : Mm} {σ τ : Sg} {Q : Int32 → Mm → Prop} (h : Inv Λ M σ τ) (hb : ¬ σ.1 9 0 = 0) (h0 : hst σ = 1 → Q 0 M) (h1 : hst σ = 2 → Q 1 M) : B_X2_hasEnded_0 Q (Λ 9) M := by
  unfold B_X2_hasEnded_0
  unfold hst at h0 h1
  rw [if_neg hb] at h0 h1
  rw [h.cx.2.2.2.1]
  refine ⟨h.sx.2.2.2.2.2.1.2, fun c => ?_, fun c => ?_⟩
  · rw [if_pos c] at h0; exact h0 rfl
  · rw [if_neg c] at h1; exact h1 rfl
theorem m_ended {Λ : Nat → Nat} {M : Mm} {σ τ : Sg} {N : Nat} {Q : Int32 → Mm → Prop} (h : Inv Λ M σ τ) (rg : Rg τ N) (hb : ¬ τ.1 9 0 = 0) (h0 : hst τ = 1 → Q 0 M) (h1 : hst τ = 2 → Q 1 M) : B_X6_hasEnded_0 Q (Λ 400) M := by
  unfold B_X6_hasEnded_0
  unfold hst at h0 h1
  rw [if_neg hb] at h0 h1
  rw [show gI M (Λ 400) 36 = τ.1 9 2 from h.g0 36 (by omega) rfl, show gI M (Λ 400) 35 = τ.1 9 1 from h.g0 35 (by omega) rfl]
  rcases rg.2.2.2.2.2.2.2.2.2 with z | ⟨_, lo, hi, vt, c, s, e1, e2, _, _, _, l1, l2, _⟩
  · exact absurd z hb
  · rw [e1, e2] at h0 h1 ⊢
    refine ⟨h.m0, fun c => ?_, fun c => ?_⟩
    · rw [H_eq l1 l2] at c
      rw [if_pos ((H_lt l1 l2).mpr (Classical.not_not.mp c))] at h0; exact h0 rfl
    · rw [H_eq l1 l2] at c
      rw [if_neg (fun z => c ((H_lt l1 l2).mp z))] at h1; exact h1 rfl
theorem x_asks {Λ : Nat → Nat} {M : Mm} {σ τ : Sg} {Q : Int32 → Mm → Prop} (h : Inv Λ M σ τ) (hQ : Q (s_asks σ) M) : B_X5_asks_0 Q (Λ 0) M := by
  have e9 := h.sx.2.2.2.2.2.1
  unfold B_X5_asks_0
  unfold s_asks at hQ
  refine ⟨h.o0, Λ 9, e9.1, e9.2, ?_⟩
  rw [show gI M (Λ 9) 0 = σ.1 9 0 by rw [h.cx.2.2.2.1]]
  refine ⟨fun c => ?_, fun c => ?_⟩
  · refine x_ended h c (fun z => z0 ⟨h.o0, Λ 9, e9.1, e9.2, ?_⟩) (fun z => z1 ?_)
    · rw [z] at hQ
      unfold B_X2_middleBuild_0
      rw [h.cx.2.2.2.1]
      exact ⟨e9.2, hQ⟩
    · rw [z] at hQ; exact hQ
  · have : hst σ = 0 := by unfold hst; rw [if_pos c]
    rw [this] at hQ; exact hQ
theorem m_asks {Λ : Nat → Nat} {M : Mm} {σ τ : Sg} {N : Nat} {Q : Int32 → Mm → Prop} (h : Inv Λ M σ τ) (rg : Rg τ N) (hQ : Q (s_asks τ) M) : B_X6_asks_0 Q (Λ 400) M := by
  unfold B_X6_asks_0
  unfold s_asks at hQ
  rw [show gI M (Λ 400) 34 = τ.1 9 0 from h.g0 34 (by omega) rfl]
  refine ⟨h.m0, fun c => ?_, fun c => ?_⟩
  · refine m_ended h rg c (fun z => z0 ⟨h.m0, ?_⟩) (fun z => z1 ?_)
    · rw [z] at hQ
      unfold B_X6_middleBuild_0
      rw [show gI M (Λ 400) 36 = τ.1 9 2 from h.g0 36 (by omega) rfl, show gI M (Λ 400) 35 = τ.1 9 1 from h.g0 35 (by omega) rfl]
      exact ⟨h.m0, hQ⟩
    · rw [z] at hQ; exact hQ
  · have : hst τ = 0 := by unfold hst; rw [if_pos c]
    rw [this] at hQ; exact hQ
theorem x_found {Λ : Nat → Nat} {M : Mm} {σ τ : Sg} {Q : Int32 → Mm → Prop} (h : Inv Λ M σ τ) (hQ : Q (s_found σ) M) : B_X5_found_0 Q (Λ 0) M := by
  have e9 := h.sx.2.2.2.2.2.1
  unfold B_X5_found_0
  unfold s_found at hQ
  refine ⟨h.o0, Λ 9, e9.1, e9.2, ?_⟩
  rw [show gI M (Λ 9) 0 = σ.1 9 0 by rw [h.cx.2.2.2.1]]
  refine ⟨fun c => ?_, fun c => ?_⟩
  · refine x_ended h c (fun z => z0 ?_) (fun z => z1 ⟨h.o0, Λ 9, e9.1, e9.2, ?_⟩)
    · rw [z] at hQ; exact hQ
    · rw [z] at hQ; rw [h.cx.2.2.2.1]; exact hQ
  · have : hst σ = 0 := by unfold hst; rw [if_pos c]
    rw [this] at hQ; exact hQ
theorem m_found {Λ : Nat → Nat} {M : Mm} {σ τ : Sg} {N : Nat} {Q : Int32 → Mm → Prop} (h : Inv Λ M σ τ) (rg : Rg τ N) (hQ : Q (s_found τ) M) : B_X6_found_0 Q (Λ 400) M := by
  unfold B_X6_found_0
  unfold s_found at hQ
  rw [show gI M (Λ 400) 34 = τ.1 9 0 from h.g0 34 (by omega) rfl]
  refine ⟨h.m0, fun c => ?_, fun c => ?_⟩
  · refine m_ended h rg c (fun z => z0 ?_) (fun z => z1 ⟨h.m0, ?_⟩)
    · rw [z] at hQ; exact hQ
    · rw [z] at hQ; rw [show gI M (Λ 400) 36 = τ.1 9 2 from h.g0 36 (by omega) rfl]; exact hQ
  · have : hst τ = 0 := by unfold hst; rw [if_pos c]
    rw [this] at hQ; exact hQ
-- rerun
def s_take (σ : Sg) (x : Int32) : Sg := uI (uI (uI σ 9 4 (σ.1 9 4 + 1)) 9 5 (σ.1 9 5 + 1)) 9 6 (σ.1 9 6 + (if x = 0 then 0 else 1))
def s_mid (σ : Sg) : Int32 := σ.1 9 1 + (σ.1 9 2 - σ.1 9 1) / 2
def s_rerun (σ : Sg) (x : Int32) : Int32 × Sg := if hst σ = 1 then if σ.1 9 3 ≤ σ.1 9 5 + 1 then (0, uI (uI (uI (s_take σ x) 9 (if 2 * (s_take σ x).1 9 6 ≤ σ.1 9 3 then 1 else 2) (s_mid σ)) 9 5 0) 9 6 0) else (σ.1 9 3 - (σ.1 9 5 + 1), s_take σ x) else (-4, σ)
theorem s_take9 (σ : Sg) (x : Int32) : (s_take σ x).1 9 0 = σ.1 9 0 ∧ (s_take σ x).1 9 1 = σ.1 9 1 ∧ (s_take σ x).1 9 2 = σ.1 9 2 ∧ (s_take σ x).1 9 3 = σ.1 9 3 ∧ (s_take σ x).1 9 4 = σ.1 9 4 + 1 ∧ (s_take σ x).1 9 5 = σ.1 9 5 + 1 ∧ (s_take σ x).1 9 6 = σ.1 9 6 + (if x = 0 then 0 else 1) := by
  unfold s_take
  refine ⟨?_, ?_, ?_, ?_, ?_, ?_, ?_⟩ <;> simp [uI_eq, upd]
theorem x_rerun {Λ : Nat → Nat} {M : Mm} {σ τ : Sg} {N : Nat} {Q : Int32 → Mm → Prop} {x : Int32} (h : Inv Λ M σ τ) (rg : Rg σ N) (hQ : ∀ M', Inv Λ M' (s_rerun σ x).2 τ → Q (s_rerun σ x).1 M') : B_X5_rerun_0 Q (Λ 0) x M := by
  have e9 := h.sx.2.2.2.2.2.1
  unfold B_X5_rerun_0
  unfold s_rerun at hQ
  refine ⟨h.o0, Λ 9, e9.1, e9.2, ?_⟩
  rw [show gI M (Λ 9) 0 = σ.1 9 0 by rw [h.cx.2.2.2.1]]
  refine ⟨fun c => ?_, fun c => ?_⟩
  · have : ¬ hst σ = 1 := by unfold hst; rw [if_pos c]; omega
    rw [if_neg this] at hQ; exact hQ M h
  · refine x_ended h c (fun z => z0 ⟨h.o0, Λ 9, e9.1, e9.2, ?_⟩) (fun z => z1 ?_)
    · rw [if_pos z] at hQ
      unfold B_X2_take_0
      refine ⟨e9.2, ?_⟩
      rintro _ rfl _ rfl
      have h2 := (h.xA 9 4 (gI M (Λ 9) 4 + 1) (by omega)).xA 9 5 (gI (pI M (Λ 9) 4 (gI M (Λ 9) 4 + 1)) (Λ 9) 5 + 1) (by omega)
      have f4 : gI M (Λ 9) 4 = σ.1 9 4 := by rw [h.cx.2.2.2.1]
      have f5 : gI (pI M (Λ 9) 4 (gI M (Λ 9) 4 + 1)) (Λ 9) 5 = σ.1 9 5 := by rw [gI_pI_eq, upd_ne _ _ (by omega), h.cx.2.2.2.1]
      have key : ∀ M5, Inv Λ M5 (s_take σ x) τ → B_X2_take_34 Q (Λ 9) M5 := by
        intro M5 h5
        have k := s_take9 σ x
        have e5 := h5.sx.2.2.2.2.2.1
        unfold B_X2_take_34
        rw [h5.cx.2.2.2.1, k.2.2.2.1, k.2.2.2.2.2.1]
        refine ⟨e5.2, fun d => ?_, fun d => ?_⟩
        · rw [if_pos d] at hQ
          unfold B_X2_decide_0 B_X2_middleBuild_0
          dsimp only
          rw [h5.cx.2.2.2.1, k.2.1, k.2.2.1, k.2.2.2.2.2.1]
          refine ⟨e5.2, e5.2, e5.2, ?_⟩
          have hcmp : (s_take σ x).1 9 6 ≤ σ.1 9 5 + 1 - (s_take σ x).1 9 6 ↔ 2 * (s_take σ x).1 9 6 ≤ σ.1 9 3 := by
            rcases rg.2.2.2.2.2.2.2.2.2 with w | ⟨_, lo, hi, vt, cc, s, e1, e2, e3, e4, e6, l1, l2, l3, l4, l5⟩
            · exact absurd w c
            · rw [k.2.2.2.2.2.2, e3, e4, e6]
              rw [e3, e4, nI_1] at d
              have hv : vt ≤ cc + 1 := (nI_leI (by omega) (by omega)).mp d
              have hv2 : vt = cc + 1 := by omega
              obtain ⟨s', es', hs'⟩ : ∃ s', nI s + (if x = 0 then (0 : Int32) else 1) = nI s' ∧ s' ≤ cc + 1 := by
                by_cases hx : x = 0
                · rw [if_pos hx, show (0 : Int32) = nI 0 from rfl, nI_add]; exact ⟨s + 0, rfl, by omega⟩
                · rw [if_neg hx, nI_1]; exact ⟨s + 1, rfl, by omega⟩
              rw [es', nI_1, pk_sub (by omega), show (2 : Int32) = nI 2 from rfl, pk_mul, nI_leI (by omega) (by omega), nI_leI (by omega) (by omega)]
              omega
          rw [hcmp]
          refine ⟨fun g => ?_, fun g => ?_⟩
          · rintro _ rfl
            rw [if_pos g] at hQ
            unfold B_X2_decide_34
            have h6 := h5.xA 9 1 (s_mid σ) (by omega)
            refine ⟨h6.sx.2.2.2.2.2.1.2, ?_⟩
            rintro _ rfl _ rfl
            exact hQ _ ((h6.xA 9 5 0 (by omega)).xA 9 6 0 (by omega))
          · rintro _ rfl
            rw [if_neg g] at hQ
            unfold B_X2_decide_34
            have h6 := h5.xA 9 2 (s_mid σ) (by omega)
            refine ⟨h6.sx.2.2.2.2.2.1.2, ?_⟩
            rintro _ rfl _ rfl
            exact hQ _ ((h6.xA 9 5 0 (by omega)).xA 9 6 0 (by omega))
        · rw [if_neg d] at hQ; exact hQ _ h5
      rw [f4] at f5 h2 ⊢
      rw [f5] at h2 ⊢
      refine ⟨fun hx => key _ ?_, fun hx => ?_⟩
      · unfold s_take
        rw [if_pos hx, show σ.1 9 6 + (0 : Int32) = σ.1 9 6 from Int32.add_zero _]
        have : σ.1 9 6 = (uI (uI σ 9 4 (σ.1 9 4 + 1)) 9 5 (σ.1 9 5 + 1)).1 9 6 := by simp [uI_eq, upd]
        rw [this, uI_self]; exact h2
      · rintro _ rfl
        refine key _ ?_
        have h3 := h2.xA 9 6 (gI (pI (pI M (Λ 9) 4 (σ.1 9 4 + 1)) (Λ 9) 5 (σ.1 9 5 + 1)) (Λ 9) 6 + 1) (by omega)
        have f6 : gI (pI (pI M (Λ 9) 4 (σ.1 9 4 + 1)) (Λ 9) 5 (σ.1 9 5 + 1)) (Λ 9) 6 = σ.1 9 6 := by rw [gI_pI_eq, upd_ne _ _ (by omega), gI_pI_eq, upd_ne _ _ (by omega), h.cx.2.2.2.1]
        rw [f6] at h3 ⊢
        unfold s_take; rw [if_neg hx]; exact h3
    · rw [if_neg (by omega)] at hQ; exact hQ M h
theorem m_rerun {Λ : Nat → Nat} {M : Mm} {σ τ : Sg} {N : Nat} {Q : Int32 → Mm → Prop} {x : Int32} (h : Inv Λ M σ τ) (hT : sT σ ≤ 8) (rg : Rg τ N) (hQ : ∀ M', Inv Λ M' σ (s_rerun τ x).2 → Q (s_rerun τ x).1 M') : B_X6_rerun_0 Q (Λ 400) x M := by
  unfold B_X6_rerun_0
  unfold s_rerun at hQ
  rw [show gI M (Λ 400) 34 = τ.1 9 0 from h.g0 34 (by omega) rfl]
  refine ⟨h.m0, fun c => ?_, fun c => ?_⟩
  · have : ¬ hst τ = 1 := by unfold hst; rw [if_pos c]; omega
    rw [if_neg this] at hQ; exact hQ M h
  · refine m_ended h rg c (fun z => z0 ⟨h.m0, ?_⟩) (fun z => z1 ?_)
    · rw [if_pos z] at hQ
      rintro _ rfl _ rfl
      have f39 : gI M (Λ 400) 39 = τ.1 9 5 := h.g0 39 (by omega) rfl
      rw [f39]
      have h1 : Inv Λ (pI M (Λ 400) 39 (τ.1 9 5 + 1)) σ (uI τ 9 5 (τ.1 9 5 + 1)) := h.y0 hT 39 _ (by omega) rfl
      have f40 : gI (pI M (Λ 400) 39 (τ.1 9 5 + 1)) (Λ 400) 40 = τ.1 9 4 := by rw [gI_pI_eq, upd_ne _ _ (by omega)]; exact h.g0 40 (by omega) rfl
      rw [f40]
      have h2 : Inv Λ (pI (pI M (Λ 400) 39 (τ.1 9 5 + 1)) (Λ 400) 40 (τ.1 9 4 + 1)) σ (uI (uI τ 9 4 (τ.1 9 4 + 1)) 9 5 (τ.1 9 5 + 1)) := by
        rw [uI_comm _ _ _ _ (by omega)]; exact h1.y0 hT 40 _ (by omega) rfl
      have f38 : gI (pI (pI M (Λ 400) 39 (τ.1 9 5 + 1)) (Λ 400) 40 (τ.1 9 4 + 1)) (Λ 400) 38 = τ.1 9 6 := by rw [gI_pI_eq, upd_ne _ _ (by omega), gI_pI_eq, upd_ne _ _ (by omega)]; exact h.g0 38 (by omega) rfl
      rw [f38]
      have key : ∀ y : Int32, y = (if x = 0 then 0 else 1) → B_X6_rerun_51 Q (Λ 400) (Λ 400) (τ.1 9 6) y (pI (pI M (Λ 400) 39 (τ.1 9 5 + 1)) (Λ 400) 40 (τ.1 9 4 + 1)) := by
        intro y hy
        unfold B_X6_rerun_51
        refine ⟨h2.m0, ?_⟩
        rintro _ rfl
        have h5 : Inv Λ (pI (pI (pI M (Λ 400) 39 (τ.1 9 5 + 1)) (Λ 400) 40 (τ.1 9 4 + 1)) (Λ 400) 38 (τ.1 9 6 + y)) σ (s_take τ x) := by
          unfold s_take; rw [← hy]; exact h2.y0 hT 38 _ (by omega) rfl
        have k := s_take9 τ x
        unfold B_X6_middleBuild_0
        rw [show gI (pI (pI (pI M (Λ 400) 39 (τ.1 9 5 + 1)) (Λ 400) 40 (τ.1 9 4 + 1)) (Λ 400) 38 (τ.1 9 6 + y)) (Λ 400) 37 = τ.1 9 3 from (h5.g0 37 (by omega) rfl).trans k.2.2.2.1, show gI (pI (pI (pI M (Λ 400) 39 (τ.1 9 5 + 1)) (Λ 400) 40 (τ.1 9 4 + 1)) (Λ 400) 38 (τ.1 9 6 + y)) (Λ 400) 39 = τ.1 9 5 + 1 from (h5.g0 39 (by omega) rfl).trans k.2.2.2.2.2.1, show gI (pI (pI (pI M (Λ 400) 39 (τ.1 9 5 + 1)) (Λ 400) 40 (τ.1 9 4 + 1)) (Λ 400) 38 (τ.1 9 6 + y)) (Λ 400) 38 = (s_take τ x).1 9 6 from (h5.g0 38 (by omega) rfl), show gI (pI (pI (pI M (Λ 400) 39 (τ.1 9 5 + 1)) (Λ 400) 40 (τ.1 9 4 + 1)) (Λ 400) 38 (τ.1 9 6 + y)) (Λ 400) 36 = τ.1 9 2 from (h5.g0 36 (by omega) rfl).trans k.2.2.1, show gI (pI (pI (pI M (Λ 400) 39 (τ.1 9 5 + 1)) (Λ 400) 40 (τ.1 9 4 + 1)) (Λ 400) 38 (τ.1 9 6 + y)) (Λ 400) 35 = τ.1 9 1 from (h5.g0 35 (by omega) rfl).trans k.2.1]
        refine ⟨h5.m0, fun d => ⟨fun g => ⟨h5.m0, h5.m0, ?_⟩, fun g => ⟨h5.m0, h5.m0, ?_⟩⟩, fun d => ?_⟩
        · rintro _ rfl
          rw [if_pos d, if_pos g] at hQ
          have h6 : Inv Λ (pI (pI (pI (pI M (Λ 400) 39 (τ.1 9 5 + 1)) (Λ 400) 40 (τ.1 9 4 + 1)) (Λ 400) 38 (τ.1 9 6 + y)) (Λ 400) 35 (s_mid τ)) σ (uI (s_take τ x) 9 1 (s_mid τ)) := h5.y0 hT 35 (s_mid τ) (by omega) rfl
          refine ⟨h6.m0, ?_⟩
          rintro _ rfl _ rfl
          have h7 : Inv Λ (pI (pI (pI (pI (pI M (Λ 400) 39 (τ.1 9 5 + 1)) (Λ 400) 40 (τ.1 9 4 + 1)) (Λ 400) 38 (τ.1 9 6 + y)) (Λ 400) 35 (s_mid τ)) (Λ 400) 39 0) σ (uI (uI (s_take τ x) 9 1 (s_mid τ)) 9 5 0) := h6.y0 hT 39 0 (by omega) rfl
          exact hQ _ (h7.y0 hT 38 0 (by omega) rfl)
        · rintro _ rfl
          rw [if_pos d, if_neg g] at hQ
          have h6 : Inv Λ (pI (pI (pI (pI M (Λ 400) 39 (τ.1 9 5 + 1)) (Λ 400) 40 (τ.1 9 4 + 1)) (Λ 400) 38 (τ.1 9 6 + y)) (Λ 400) 36 (s_mid τ)) σ (uI (s_take τ x) 9 2 (s_mid τ)) := h5.y0 hT 36 (s_mid τ) (by omega) rfl
          refine ⟨h6.m0, ?_⟩
          rintro _ rfl _ rfl
          have h7 : Inv Λ (pI (pI (pI (pI (pI M (Λ 400) 39 (τ.1 9 5 + 1)) (Λ 400) 40 (τ.1 9 4 + 1)) (Λ 400) 38 (τ.1 9 6 + y)) (Λ 400) 36 (s_mid τ)) (Λ 400) 39 0) σ (uI (uI (s_take τ x) 9 2 (s_mid τ)) 9 5 0) := h6.y0 hT 39 0 (by omega) rfl
          exact hQ _ (h7.y0 hT 38 0 (by omega) rfl)
        · rw [if_neg d] at hQ; exact hQ _ h5
      exact ⟨fun hx => key 0 (by rw [if_pos hx]), fun hx => key 1 (by rw [if_neg hx])⟩
    · rw [if_neg (by omega)] at hQ; exact hQ M h
theorem Rg.h9 {σ σ' : Sg} {N : Nat} (h : Rg σ N) (e : ∀ a, a ≠ 9 → σ'.1 a = σ.1 a) (hv : Hv σ') : Rg σ' N := by
  obtain ⟨h1, h2, h3, h4, h5, h6, h7, h8, h9, h10⟩ := h
  unfold Rg sB sT sP sR at *
  rw [e 0 (by omega), e 21 (by omega)]
  exact ⟨h1, h2, h3, h4, fun r hr => by rw [e _ (by omega)]; exact h5 r hr, h6, h7, fun r hr => by rw [e _ (by omega)]; exact h8 r hr, h9, hv⟩
theorem r_rerun {σ : Sg} {N : Nat} {x : Int32} (h : Rg σ N) : Rg (s_rerun σ x).2 N := by
  have hk := s_take9 σ x
  have ne : ∀ a, a ≠ 9 → (s_take σ x).1 a = σ.1 a := fun a ha => by unfold s_take; rw [uI_ne _ _ _ ha, uI_ne _ _ _ ha, uI_ne _ _ _ ha]
  unfold s_rerun
  split
  · next z =>
    rcases h.2.2.2.2.2.2.2.2.2 with w | ⟨b1, lo, hi, vt, cc, s, e1, e2, e3, e4, e6, l1, l2, l3, l4, l5⟩
    · unfold hst at z; rw [if_pos w] at z; omega
    · have lh : lo + 1 < hi := by
        unfold hst at z
        rw [b1, e1, e2, if_neg (by decide)] at z
        by_cases y : lo + 1 < hi
        · exact y
        · rw [if_neg (fun q => y ((H_lt l1 l2).mp q))] at z; omega
      obtain ⟨s', es', hs'⟩ : ∃ s', (s_take σ x).1 9 6 = nI s' ∧ s' ≤ cc + 1 := by
        rw [hk.2.2.2.2.2.2, e6]
        by_cases hx : x = 0
        · rw [if_pos hx, show (0 : Int32) = nI 0 from rfl, nI_add]; exact ⟨s + 0, rfl, by omega⟩
        · rw [if_neg hx, nI_1]; exact ⟨s + 1, rfl, by omega⟩
      have emid : s_mid σ = nI (lo + (hi - lo) / 2) := by unfold s_mid; rw [e1, e2, H_mid l1 l2]
      split
      · refine h.h9 (fun a ha => by show (uI _ _ _ _).1 a = _; rw [uI_ne _ _ _ ha, uI_ne _ _ _ ha, uI_ne _ _ _ ha, ne a ha]) (Or.inr ?_)
        have q : ∀ g : Nat, (g = 1 ∨ g = 2) → (uI (uI (uI (s_take σ x) 9 g (s_mid σ)) 9 5 0) 9 6 0).1 9 0 = 1 ∧ (uI (uI (uI (s_take σ x) 9 g (s_mid σ)) 9 5 0) 9 6 0).1 9 3 = nI vt ∧ (uI (uI (uI (s_take σ x) 9 g (s_mid σ)) 9 5 0) 9 6 0).1 9 5 = nI 0 ∧ (uI (uI (uI (s_take σ x) 9 g (s_mid σ)) 9 5 0) 9 6 0).1 9 6 = nI 0 ∧ (uI (uI (uI (s_take σ x) 9 g (s_mid σ)) 9 5 0) 9 6 0).1 9 g = nI (lo + (hi - lo) / 2) ∧ ∀ g', (g' = 1 ∨ g' = 2) → g' ≠ g → (uI (uI (uI (s_take σ x) 9 g (s_mid σ)) 9 5 0) 9 6 0).1 9 g' = σ.1 9 g' := by
          intro g hg
          simp only [uI_eq]
          refine ⟨?_, ?_, ?_, ?_, ?_, fun g' hg' ne' => ?_⟩
          · rw [upd_ne _ _ (by omega), upd_ne _ _ (by omega), upd_ne _ _ (by omega), hk.1, b1]
          · rw [upd_ne _ _ (by omega), upd_ne _ _ (by omega), upd_ne _ _ (by omega), hk.2.2.2.1, e3]
          · rw [upd_ne _ _ (by omega), upd_eq]; rfl
          · rw [upd_eq]; rfl
          · rw [upd_ne _ _ (by omega), upd_ne _ _ (by omega), upd_eq, emid]
          · rw [upd_ne _ _ (by omega), upd_ne _ _ (by omega), upd_ne _ _ ne']
            rcases hg' with rfl | rfl
            · exact hk.2.1
            · exact hk.2.2.1
        by_cases g : 2 * (s_take σ x).1 9 6 ≤ σ.1 9 3
        · show (uI (uI (uI (s_take σ x) 9 (if 2 * (s_take σ x).1 9 6 ≤ σ.1 9 3 then 1 else 2) (s_mid σ)) 9 5 0) 9 6 0).1 9 0 = 1 ∧ _
          rw [if_pos g]
          obtain ⟨q0, q3, q5, q6, qg, qo⟩ := q 1 (Or.inl rfl)
          exact ⟨q0, lo + (hi - lo) / 2, hi, vt, 0, 0, qg, by rw [qo 2 (Or.inr rfl) (by omega), e2], q3, q5, q6, by omega, l2, l3, by omega, by omega⟩
        · show (uI (uI (uI (s_take σ x) 9 (if 2 * (s_take σ x).1 9 6 ≤ σ.1 9 3 then 1 else 2) (s_mid σ)) 9 5 0) 9 6 0).1 9 0 = 1 ∧ _
          rw [if_neg g]
          obtain ⟨q0, q3, q5, q6, qg, qo⟩ := q 2 (Or.inr rfl)
          exact ⟨q0, lo, lo + (hi - lo) / 2, vt, 0, 0, by rw [qo 1 (Or.inl rfl) (by omega), e1], qg, q3, q5, q6, by omega, by omega, l3, by omega, by omega⟩
      · next d =>
        refine h.h9 ne (Or.inr ⟨by rw [hk.1]; exact b1, lo, hi, vt, cc + 1, s', by rw [hk.2.1]; exact e1, by rw [hk.2.2.1]; exact e2, by rw [hk.2.2.2.1]; exact e3, by rw [hk.2.2.2.2.2.1, e4, nI_1], es', l1, l2, l3, ?_, hs'⟩)
        rw [e3, e4, nI_1] at d
        exact Nat.lt_of_not_le (fun q => d ((nI_leI (by omega) (by omega)).mpr q))
  · exact h
