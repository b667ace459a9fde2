/-! PURE, 38: the class cries: a row, a test, all -/
theorem u0 (T : Nat) : uU T 0 := Or.inl (Or.inl (by omega))
theorem x_cry_29 {σ0 τ : Sg} {N A n0 t m : Nat} {s u l : Int32} {σ : Sg} {Λ0 : Nat → Nat} {P : Prop} {Q : Int32 → Mm → Prop} (rg0 : Rg σ0 N) (hA : A ≤ 1280 * N) (hN : N ≤ 600) (ht : t < sT σ0) (hm : m < 4) (hth : ¬ σ0.1 21 (4 * t + m) = 0) (hu : 0 ≤ u.toInt ∧ u.toInt ≤ 1000000) (hl : 0 ≤ l.toInt ∧ l.toInt ≤ 1000000) (c0 : Cy σ0 A n0 σ) (hn0 : n0 + 40 ≤ 1280)
    (hQ : ∀ Λ' M', Ag (sT σ0) Λ0 Λ' → Inv Λ' M' (cyR σ0 t m s u l σ (zS (sV σ0 (4 * t + m)) (sB σ0) (sP σ0) - 1)).1 τ → RCs Λ' M' σ0 t → (gR M' (Λ' 0) 5 = none → P ∧ ∀ j, j < zS (sV σ0 (4 * t + m)) (sB σ0) (sP σ0) - 1 → ¬ rch σ0 t m s (cyR σ0 t m s u l σ j).1 j) → Q (cyR σ0 t m s u l σ (zS (sV σ0 (4 * t + m)) (sB σ0) (sP σ0) - 1)).2.1 M') :
    ∀ (d k : Nat) (Λ : Nat → Nat) (M : Mm) (gc gs : Nat), k + d = zS (sV σ0 (4 * t + m)) (sB σ0) (sP σ0) - 1 → Ag (sT σ0) Λ0 Λ → Inv Λ M (cyR σ0 t m s u l σ k).1 τ → RCs Λ M σ0 t → (gR M (Λ 0) 5 = none → (P ∧ ∀ j, j < k → ¬ rch σ0 t m s (cyR σ0 t m s u l σ j).1 j) ∧ ((∃ j, j < zS (sV σ0 (4 * t + m)) (sB σ0) (sP σ0) - 1 ∧ rch σ0 t m s (cyR σ0 t m s u l σ j).1 j) → 2 ≤ gc ∧ 8594 ≤ gs)) →
      B_X5_cryRow_29 Q (d + 1) (Λ0 0) (nI t) (nI m) s u l (some (Λ0 (rc t m))) (cyR σ0 t m s u l σ k).2.1 (nI k) gc gs M := by
  have hT := rg0.2.1.2
  have hz := zS_le (v := sV σ0 (4 * t + m)) rg0.1.2 rg0.2.2.1.2
  intro d
  induction d with
  | zero =>
    intro k Λ M gc gs hk ag h1 hC hb
    have e : k = zS (sV σ0 (4 * t + m)) (sB σ0) (sP σ0) - 1 := by omega
    obtain ⟨w1, w2, w3, w4⟩ := cyR_ok (s := s) (u := u) (l := l) rg0 ht hm c0 k (by omega)
    have rg1 := w1.rg rg0 hA (by omega)
    have ht1 : t < sT (cyR σ0 t m s u l σ k).1 := by rw [w1.T]; exact ht
    obtain ⟨a1, a2, a3, a4, a5, a6, a7, a8, rs, a9⟩ := x_row_at h1 rg1 ht1 hm
    have ea : Λ0 (rc t m) = Λ (rc t m) := (ag _ (uU_row (j := 0) ht hm (by omega))).symm
    unfold B_X5_cryRow_29
    rw [ea]
    refine ⟨Λ (rc t m), rfl, a8, x_cutCount rs hz.2 (hC m hm hth).2.2.2.1 ⟨fun _ => ?_, fun c => absurd ((nI_leI (by omega) (by omega)).mpr (by omega)) c⟩⟩
    subst e
    exact hQ Λ M ag h1 hC (fun z => (hb z).1)
  | succ d ih =>
    intro k Λ M gc gs hk ag h1 hC hb
    obtain ⟨w1, w2, w3, w4⟩ := cyR_ok (s := s) (u := u) (l := l) rg0 ht hm c0 k (by omega)
    have rg1 := w1.rg rg0 hA (by omega)
    have ht1 : t < sT (cyR σ0 t m s u l σ k).1 := by rw [w1.T]; exact ht
    have eV := w1.V (r := 4 * t + m) (by omega)
    have eB := w1.B
    have eP := w1.P
    have eO : sOwn (cyR σ0 t m s u l σ k).1 t m k = sOwn σ0 t m k := w1.own (by omega) hm
    have hk1 : k + 1 < zS (sV σ0 (4 * t + m)) (sB σ0) (sP σ0) := by omega
    have hcb := cb_lt (v := sV σ0 (4 * t + m)) rg0.1.2 rg0.2.2.1.2 hk1
    have hB40 := rg0.1.2
    obtain ⟨a1, a2, a3, a4, a5, a6, a7, a8, rs, a9⟩ := x_row_at h1 rg1 ht1 hm
    have ea : Λ0 (rc t m) = Λ (rc t m) := (ag _ (uU_row (j := 0) ht hm (by omega))).symm
    have e0 : Λ0 0 = Λ 0 := (ag 0 (u0 _)).symm
    -- nothing cried at k, and the odds were not looked at
    have skip : ∀ (M' : Mm), Inv Λ M' (cyR σ0 t m s u l σ k).1 τ → M' = M → ¬ rch σ0 t m s (cyR σ0 t m s u l σ k).1 k → B_X5_cryRow_29 Q (d + 1) (Λ 0) (nI t) (nI m) s u l (some (Λ (rc t m))) (cyR σ0 t m s u l σ k).2.1 (nI k + 1) gc gs M' := by
      intro M' h' eM nr
      subst eM
      rw [← ea, ← e0, nI_1]
      have es : cyR σ0 t m s u l σ (k + 1) = cyR σ0 t m s u l σ k := cyR_n (fun z => nr z.1)
      have q := ih (k + 1) Λ M' gc gs (by omega) ag (by rw [es]; exact h') hC (fun z => ⟨⟨(hb z).1.1, fun j hj => by
        by_cases e : j = k
        · subst e; exact nr
        · exact (hb z).1.2 j (by omega)⟩, (hb z).2⟩)
      rw [es] at q
      exact q
    unfold B_X5_cryRow_29
    rw [ea, e0]
    refine ⟨Λ (rc t m), rfl, a8, x_cutCount rs hz.2 (hC m hm hth).2.2.2.1 ⟨fun c => absurd ((nI_leI (by omega) (by omega)).mp c) (by omega), fun _ => ⟨a8, x_stepSize rs hz.2 (hC m hm hth).2.2.2.2.2.1 hk1 (fun x hx => ?_)⟩⟩⟩
    have hx' : x.toInt = zZ (sV σ0 (4 * t + m)) (sB σ0) (sP σ0) k := hx
    refine ⟨fun c => skip M h1 rfl (fun z => ?_), fun c => ⟨h1.o0, Λ 1, a1, a2, ?_⟩⟩
    · rw [lt_I, hx'] at c; have := z.1.1.2; omega
    · have hsz : s.toInt ≤ zZ (sV σ0 (4 * t + m)) (sB σ0) (sP σ0) k := by rw [lt_I, hx'] at c; omega
      rw [a3]
      refine x_alarming h1 rg1 ht1 hm (by rw [w1.th]; exact hth) (fun o ho z => by rw [w1.V (by omega), eB, eP]; exact hC o ho (by rw [← w1.th]; exact z)) (by rw [eV, eB, eP]; exact hk1) (fun z => ?_) (fun z => z0 (skip M h1 rfl (fun y => z ?_)))
      · rw [eV, eB, eP, eO, w1.kd] at z
        have hr : rch σ0 t m s (cyR σ0 t m s u l σ k).1 k := ⟨⟨⟨z.1, hsz⟩, z.2.1⟩, z.2.2.1, z.2.2.2⟩
        refine z1 ⟨h1.o0, gc, gs, Nat.le_refl _, Nat.le_refl _, ?_⟩
        refine x_rare h1 rg1 ht1 hm (by rw [eV, eB, eP]; exact hC m hm hth) (by rw [eV, eB, eP]; exact hk1) hu hl (fun y => (hb y).2 ⟨k, by omega, hr⟩) (fun Λ2 M2 eΛ h2 n5 eI => ?_)
        rw [w1.T] at eΛ eI
        have ag2 : Ag (sT σ0) Λ0 Λ2 := ag.trans eΛ
        have ea2 : Λ (rc t m) = Λ2 (rc t m) := (eΛ _ (uU_row (j := 0) ht hm (by omega))).symm
        have e02 : Λ 0 = Λ2 0 := (eΛ 0 (u0 _)).symm
        have hC2 : RCs Λ2 M2 σ0 t := hC.same ht eΛ (fun c u _ => eI c u)
        have rare : rar (cyR σ0 t m s u l σ k).1 t m u l k = rar σ0 t m u l k := by unfold rar; rw [eV, eB, eP]
        rw [rare]
        refine ⟨fun y => z1 ?_, fun y => z0 ?_⟩
        · have es := cyR_y ⟨hr, y⟩
          rw [ea2, e02]
          obtain ⟨_, _, _, _, _, _, _, b8, rs2, b9⟩ := x_row_at h2 rg1 ht1 hm
          have go : ∀ f : Int32, f = (cyR σ0 t m s u l σ (k + 1)).2.1 → B_X5_cryRow_113 Q (fun y0 y1 y2 y3 y4 y5 y6 y7 y8 y9 y10 My => B_X5_cryRow_29 Q (d + 1) y0 y1 y2 y3 y4 y5 y6 y7 y8 y9 y10 My) (Λ2 0) (nI t) (nI m) s u l (some (Λ2 (rc t m))) (nI k) (al t m (cb (sV σ0 (4 * t + m)) (sB σ0) (sP σ0) k)) f (gc - gc) (gs - gs) M2 := by
            intro f hf
            unfold B_X5_cryRow_113
            refine ⟨Λ2 (rc t m), rfl, b8, x_remember h2 rg1 ht1 hm rg0.1.2 rg0.2.2.1.2 (hC2 m hm hth) hk1 (fun M3 h3 i3 r3 => ⟨h3.o0, ?_⟩)⟩
            refine x_keep (A := A + (n0 + (cyR σ0 t m s u l σ k).2.2)) h3 (by rw [uI_ne _ _ _ (by omega)]; exact w1.2.2.2.2.2) (by omega) (fun M4 h4 i4 r4 => ?_)
            have h5 : Inv Λ2 M4 (cyR σ0 t m s u l σ (k + 1)).1 τ := by rw [es]; exact h4
            have q := ih (k + 1) Λ2 M4 (gc - gc) (gs - gs) (by omega) ag2 h5 (hC2.same ht (Ag.refl _ _) (fun c u hc => by rw [i4 c (by omega) (by omega), i3])) (fun w => absurd (by rw [r4, r3] at w; exact w) n5)
            rw [← hf, show Λ0 0 = Λ2 0 from (ag2 0 (u0 _)).symm, show Λ0 (rc t m) = Λ2 (rc t m) from (ag2 _ (uU_row (j := 0) ht hm (by omega))).symm, ← nI_1] at q
            exact q
          refine ⟨b8, x_cutBuild rs2 rg0.1.2 rg0.2.2.1.2 (hC2 m hm hth) hk1 ⟨fun c1 => ?_, fun c1 => ?_⟩⟩
          · rw [al_eq]
            refine go _ ?_
            rw [es]; dsimp only; rw [if_neg c1]
          · rw [al_eq]
            refine go _ ?_
            rw [es]; dsimp only; rw [if_pos c1]
        · have es : cyR σ0 t m s u l σ (k + 1) = cyR σ0 t m s u l σ k := cyR_n (fun w => y w.2)
          rw [← ea, ← e0, nI_1]
          have q := ih (k + 1) Λ2 M2 (gc - gc) (gs - gs) (by omega) ag2 (by rw [es]; exact h2) hC2 (fun w => absurd w n5)
          rw [es] at q
          exact q
      · rw [eV, eB, eP, eO, w1.kd]
        exact ⟨y.1.1.1, y.1.2, y.2.1, y.2.2⟩
theorem x_cryRow {Λ : Nat → Nat} {M : Mm} {σ0 τ : Sg} {N A K t m : Nat} {s u l : Int32} {w : Ws} {gc gs : Nat} {Q : Int32 → Mm → Prop} (rg0 : Rg σ0 N) (hA : A ≤ 1280 * N) (hN : N ≤ 600) (ht : t < sT σ0) (hm : m < 4) (hu : 0 ≤ u.toInt ∧ u.toInt ≤ 1000000) (hl : 0 ≤ l.toInt ∧ l.toInt ≤ 1000000) (wk : Wk σ0 A K w) (hK : K + 40 ≤ 1280) (h : Inv Λ M w.1 τ) (hC : RCs Λ M σ0 t)
    (hb : gR M (Λ 0) 5 = none → (∃ j, j < zS (sV σ0 (4 * t + m)) (sB σ0) (sP σ0) - 1 ∧ rch σ0 t m s (cyR σ0 t m s u l w.1 j).1 j) → ¬ σ0.1 21 (4 * t + m) = 0 → 2 ≤ gc ∧ 8594 ≤ gs)
    (hQ : ∀ (Λ' : Nat → Nat) (M' : Mm) (f : Int32), Ag (sT σ0) Λ Λ' → Inv Λ' M' (cyRow σ0 t m s u l w).1 τ → RCs Λ' M' σ0 t → fF w.2.1 f = (cyRow σ0 t m s u l w).2.1 → (gR M' (Λ' 0) 5 = none → gR M (Λ 0) 5 = none ∧ (¬ σ0.1 21 (4 * t + m) = 0 → ¬ ∃ j, j < zS (sV σ0 (4 * t + m)) (sB σ0) (sP σ0) - 1 ∧ rch σ0 t m s (cyR σ0 t m s u l w.1 j).1 j)) → Q f M') : B_X5_cryRow_0 Q (Λ 0) (nI t) (nI m) s u l gc gs M := by
  have hT := rg0.2.1.2
  have w1 := wk.1
  have rg1 := w1.rg rg0 hA (by have := wk.2.1; omega)
  have ht1 : t < sT w.1 := by rw [w1.T]; exact ht
  obtain ⟨a1, a2, a3, a4, a5, a6, a7, a8, rs, a9⟩ := x_row_at h rg1 ht1 hm
  unfold B_X5_cryRow_0
  unfold cyRow at hQ
  refine ⟨h.o0, Λ 1, a1, a2, Λ (tc t), a3, a4, Λ (tc t + 1), a5, a6, Λ (rc t m), a7, a8, ?_⟩
  rw [a9.1, w1.th, a7]
  refine ⟨fun c => ?_, fun c => ?_⟩
  · rw [if_neg c] at hQ
    exact ⟨_, x_cry_29 (σ := w.1) (n0 := w.2.2) (Λ0 := Λ) (P := gR M (Λ 0) 5 = none) rg0 hA hN ht hm c hu hl w1 (by have := wk.2.1; omega) (fun Λ' M' ag h' hC' hb' => hQ Λ' M' _ ag h' hC' rfl (fun z => ⟨(hb' z).1, fun _ ⟨j, j1, j2⟩ => (hb' z).2 j j1 j2⟩)) _ 0 Λ M gc gs (Nat.zero_add _) (Ag.refl _ _) h hC (fun z => ⟨⟨z, fun j hj => absurd hj (by omega)⟩, fun e => hb z e c⟩)⟩
  · rw [if_pos c] at hQ
    refine hQ Λ M 0 (Ag.refl _ _) h hC ?_ (fun z => ⟨z, fun y => absurd c y⟩)
    unfold fF; split
    · next q => exact q.symm
    · rfl
theorem x_cry_83 {Λ0 : Nat → Nat} {σ0 τ : Sg} {N A K t : Nat} {s u l x4 : Int32} {w : Ws} {Q : Int32 → Mm → Prop} {K43 : Nat → Int32 → Int32 → Int32 → Int32 → Int32 → Int32 → Nat → Nat → Mm → Prop} (rg0 : Rg σ0 N) (hA : A ≤ 1280 * N) (hN : N ≤ 600) (ht : t < sT σ0) (hu : 0 ≤ u.toInt ∧ u.toInt ≤ 1000000) (hl : 0 ≤ l.toInt ∧ l.toInt ≤ 1000000) (wk : Wk σ0 A K w) (hK : K + 160 ≤ 1280)
    (hQ : ∀ (Λ : Nat → Nat) (M : Mm) (gc gs : Nat), Ag (sT σ0) Λ0 Λ → Inv Λ M (cyM σ0 t s u l w 4).1 τ → (gR M (Λ 0) 5 = none → 2 ≤ gc ∧ 8594 ≤ gs) → K43 (Λ0 0) s u l x4 (cyM σ0 t s u l w 4).2.1 (nI t + 1) gc gs M) :
    ∀ (d m : Nat) (Λ : Nat → Nat) (M : Mm) (gc gs : Nat), m + d = 4 → Ag (sT σ0) Λ0 Λ → Inv Λ M (cyM σ0 t s u l w m).1 τ → RCs Λ M σ0 t → (gR M (Λ 0) 5 = none → 2 ≤ gc ∧ 8594 ≤ gs) → B_X5_cry_83 Q K43 (d + 1) (Λ0 0) s u l x4 (cyM σ0 t s u l w m).2.1 (nI t) (nI m) gc gs M := by
  intro d
  induction d with
  | zero =>
    intro m Λ M gc gs hm ag h1 hC hb
    have e : m = 4 := by omega
    subst e
    unfold B_X5_cry_83
    exact ⟨fun _ => hQ Λ M gc gs ag h1 hb, fun c => absurd (Int32.le_refl _) c⟩
  | succ d ih =>
    intro m Λ M gc gs hm ag h1 hC hb
    have wm := cyM_ok (s := s) (u := u) (l := l) rg0 ht wk m (by omega)
    have e0 : Λ0 0 = Λ 0 := (ag 0 (u0 _)).symm
    have st : ∀ (b bs : Nat) (Λ' : Nat → Nat) (M' : Mm) (f : Int32), Ag (sT σ0) Λ Λ' → Inv Λ' M' (cyM σ0 t s u l w (m + 1)).1 τ → RCs Λ' M' σ0 t → fF (cyM σ0 t s u l w m).2.1 f = (cyM σ0 t s u l w (m + 1)).2.1 → (gR M' (Λ' 0) 5 = none → 2 ≤ gc - b ∧ 8594 ≤ gs - bs) → ((¬ (cyM σ0 t s u l w m).2.1 = 0 → B_X5_cry_83 Q K43 (d + 1) (Λ 0) s u l x4 (cyM σ0 t s u l w m).2.1 (nI t) (nI m + 1) (gc - b) (gs - bs) M') ∧ ((cyM σ0 t s u l w m).2.1 = 0 → B_X5_cry_83 Q K43 (d + 1) (Λ 0) s u l x4 f (nI t) (nI m + 1) (gc - b) (gs - bs) M')) := by
      intro b bs Λ' M' f ag' h' hC' ef hb'
      have q := ih (m + 1) Λ' M' (gc - b) (gs - bs) (by omega) (ag.trans ag') h' hC' hb'
      rw [← ef, e0] at q
      rw [nI_1]
      unfold fF at q
      exact ⟨fun c => by rw [if_neg c] at q; exact q, fun c => by rw [if_pos c] at q; exact q⟩
    unfold B_X5_cry_83
    rw [e0]
    refine ⟨fun c => absurd ((nI_leI (a := 4) (by omega) (by omega)).mp c) (by omega), fun _ => ⟨h1.o0, ?_⟩⟩
    by_cases need : gR M (Λ 0) 5 = none ∧ ¬ σ0.1 21 (4 * t + m) = 0 ∧ ∃ j, j < zS (sV σ0 (4 * t + m)) (sB σ0) (sP σ0) - 1 ∧ rch σ0 t m s (cyR σ0 t m s u l (cyM σ0 t s u l w m).1 j).1 j
    · refine ⟨gc, gs, Nat.le_refl _, Nat.le_refl _, x_cryRow rg0 hA hN ht (by omega) hu hl wm (by omega) h1 hC (fun z _ _ => hb z) (fun Λ' M' f ag' h' hC' ef hz => st gc gs Λ' M' f ag' h' hC' ef (fun z => absurd need.2.2 ((hz z).2 need.2.1)))⟩
    · refine ⟨0, 0, Nat.zero_le _, Nat.zero_le _, x_cryRow rg0 hA hN ht (by omega) hu hl wm (by omega) h1 hC (fun z e c => absurd ⟨z, c, e⟩ need) (fun Λ' M' f ag' h' hC' ef hz => st 0 0 Λ' M' f ag' h' hC' ef (fun z => hb (hz z).1))⟩
theorem x_cry_43 {Λ0 : Nat → Nat} {σ0 τ : Sg} {N A : Nat} {s u l : Int32} {Q : Int32 → Mm → Prop} (rg0 : Rg σ0 N) (eA : σ0.1 0 10 = nI A) (hA : A ≤ 1280 * N) (hN : N ≤ 600) (hu : 0 ≤ u.toInt ∧ u.toInt ≤ 1000000) (hl : 0 ≤ l.toInt ∧ l.toInt ≤ 1000000)
    (hQ : ∀ (Λ : Nat → Nat) (M : Mm), Ag (sT σ0) Λ0 Λ → Inv Λ M (if (cyT σ0 s u l (σ0, 0, 0) (sT σ0)).2.1 = 0 then (cyT σ0 s u l (σ0, 0, 0) (sT σ0)).1 else uL (cyT σ0 s u l (σ0, 0, 0) (sT σ0)).1 14 (Int32.toInt64 (cyT σ0 s u l (σ0, 0, 0) (sT σ0)).2.1)) τ → Q (nI (cyT σ0 s u l (σ0, 0, 0) (sT σ0)).2.2) M) :
    ∀ (d t : Nat) (Λ : Nat → Nat) (M : Mm) (gc gs : Nat), t + d = sT σ0 → Ag (sT σ0) Λ0 Λ → Inv Λ M (cyT σ0 s u l (σ0, 0, 0) t).1 τ → (gR M (Λ 0) 5 = none → 2 ≤ gc ∧ 8594 ≤ gs) → B_X5_cry_43 Q (d + 1) (Λ0 0) s u l (nI A) (cyT σ0 s u l (σ0, 0, 0) t).2.1 (nI t) gc gs M := by
  have hT := rg0.2.1.2
  intro d
  induction d with
  | zero =>
    intro t Λ M gc gs ht ag h1 hb
    have e : t = sT σ0 := by omega
    have wt := cyT_ok (s := s) (u := u) (l := l) rg0 (Wk.start rg0 eA) t (by omega)
    have e0 : Λ0 0 = Λ 0 := (ag 0 (u0 _)).symm
    unfold B_X5_cry_43
    rw [e0, h1.f0, h1.f0, wt.1.1 7 (by omega), rg0.2.1.1, wt.1.2.2.2.2.2]
    subst e
    have es : nI (A + (cyT σ0 s u l (σ0, 0, 0) (sT σ0)).2.2) - nI A = nI (cyT σ0 s u l (σ0, 0, 0) (sT σ0)).2.2 := by rw [pk_sub (by omega)]; congr 1; omega
    refine ⟨h1.o0, fun _ => ⟨fun c => ?_, fun c => ?_⟩, fun c => absurd (Int32.le_refl _) c⟩
    · rw [if_pos c] at hQ
      rw [es]; exact hQ Λ M ag h1
    · rw [if_neg c] at hQ
      rintro _ rfl
      rw [gI_pJ, h1.f0, wt.1.2.2.2.2.2, es]
      exact hQ Λ _ ag (h1.xJ 14 _)
  | succ d ih =>
    intro t Λ M gc gs ht ag h1 hb
    have wt := cyT_ok (s := s) (u := u) (l := l) rg0 (Wk.start rg0 eA) t (by omega)
    have e0 : Λ0 0 = Λ 0 := (ag 0 (u0 _)).symm
    have rg1 := wt.1.rg rg0 hA (by have := wt.2.1; omega)
    have ht1 : t < sT (cyT σ0 s u l (σ0, 0, 0) t).1 := by rw [wt.1.T]; omega
    obtain ⟨a1, a2, a3, a4, a5, a6, a7, a8, rs, a9⟩ := x_row_at h1 rg1 ht1 (show 0 < 4 by omega)
    have ekd : gI M (Λ (tc t)) 0 = σ0.1 20 t := by rw [(h1.cx.2.2.2.2.2 t ht1).1, wt.1.kd]
    unfold B_X5_cry_43
    rw [e0, h1.f0, wt.1.1 7 (by omega), rg0.2.1.1]
    refine ⟨h1.o0, fun c => absurd ((nI_leI (by omega) (by omega)).mp c) (by omega), fun _ => ⟨Λ 1, a1, a2, Λ (tc t), a3, a4, ?_⟩⟩
    rw [ekd, a3]
    refine ⟨fun c => ⟨a2, ?_⟩, fun c => ?_⟩
    · have es : cyT σ0 s u l (σ0, 0, 0) (t + 1) = cyM σ0 t s u l (cyT σ0 s u l (σ0, 0, 0) t) 4 := by rw [cyT, if_neg c]
      refine x_brings h1 rg1 ht1 (fun M2 h2 r2 hC => ⟨4 + 1, ?_⟩)
      rw [← e0]
      refine x_cry_83 (w := cyT σ0 s u l (σ0, 0, 0) t) rg0 hA hN (by omega) hu hl wt (by omega) (fun Λ3 M3 gc3 gs3 ag3 h3 hb3 => ?_) 4 0 Λ M2 gc gs (by omega) ag h2 (fun o ho z => ?_) (by rw [r2]; exact hb)
      · have q := ih (t + 1) Λ3 M3 gc3 gs3 (by omega) ag3 (by rw [es]; exact h3) hb3
        rw [es, ← nI_1] at q
        exact q
      · have := hC o ho (by rw [wt.1.th]; exact z)
        rw [wt.1.V (by omega), wt.1.B, wt.1.P] at this
        exact this
    · have es : cyT σ0 s u l (σ0, 0, 0) (t + 1) = cyT σ0 s u l (σ0, 0, 0) t := by rw [cyT, if_pos c]
      have q := ih (t + 1) Λ M gc gs (by omega) ag (by rw [es]; exact h1) hb
      rw [es, e0, ← nI_1] at q
      exact q
theorem x_cry {Λ : Nat → Nat} {M : Mm} {σ τ : Sg} {N : Nat} {s u l : Int32} {gc gs : Nat} {Q : Int32 → Mm → Prop} (h : Inv Λ M σ τ) (rg : Rg σ N) (hN : N ≤ 600) (hb : gR M (Λ 0) 5 = none → 2 ≤ gc ∧ 8594 ≤ gs) (hQ : ∀ Λ' M', Ag (sT σ) Λ Λ' → Inv Λ' M' (s_cry σ s u l).2 τ → Q (s_cry σ s u l).1 M') : B_X5_cry_0 Q (Λ 0) s u l gc gs M := by
  obtain ⟨A, eA, hA⟩ := rg.2.2.2.2.2.2.2.2.1
  unfold B_X5_cry_0
  unfold s_cry at hQ
  have i0 : (0 : Int32).toInt = 0 := rfl
  have i1 : (1 : Int32).toInt = 1 := rfl
  have im : (1000000 : Int32).toInt = 1000000 := rfl
  refine x_within (fun c => z0 ?_) (fun c1 c2 => z1 (x_within (fun c => z0 ?_) (fun c3 c4 => z1 ⟨fun c => ?_, fun c5 => ⟨fun c6 => ⟨h.o0, ?_⟩, fun c => ?_⟩⟩)))
  · rw [if_pos (Or.inl c)] at hQ; exact hQ Λ M (Ag.refl _ _) h
  · rw [if_pos (Or.inr (Or.inl c))] at hQ; exact hQ Λ M (Ag.refl _ _) h
  · rw [if_pos (Or.inr (Or.inr (Or.inl c)))] at hQ; exact hQ Λ M (Ag.refl _ _) h
  · have c7 : ¬ (1000000 : Int32) < l := Int32.not_lt.mpr c6
    rw [if_neg (fun z => z.elim (fun y => y.elim c1 c2) (fun y => y.elim (fun y => y.elim c3 c4) (fun y => y.elim c5 c7)))] at hQ
    rw [lt_I] at c3 c4 c5 c7
    rw [h.f0, eA]
    exact ⟨_, x_cry_43 (Λ0 := Λ) rg eA hA hN ⟨by omega, by omega⟩ ⟨by omega, by omega⟩ hQ (sT σ) 0 Λ M gc gs (Nat.zero_add _) (Ag.refl _ _) h hb⟩
  · rw [if_pos (Or.inr (Or.inr (Or.inr (Int32.not_le.mp c))))] at hQ; exact hQ Λ M (Ag.refl _ _) h
