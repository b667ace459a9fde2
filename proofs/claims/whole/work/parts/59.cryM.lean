/-! PURE, 39: the reference cries -/
theorem m_lay2 {Λ : Nat → Nat} {M : Mm} {σ τ : Sg} {N r : Nat} {Q : Mm → Prop} (h : Inv Λ M σ τ) (hT : sT σ ≤ 8) (rg : Rg τ N) (hr : r < 32) (hth : ¬ τ.1 21 r = 0) (hQ : ∀ M', Inv Λ M' σ τ → Mk Λ M M' → ModCut Λ M' (sV τ r) (sB τ) (sP τ) → Q M') : B_X6_layCuts_0 Q (Λ 400) (nI r) M :=
  m_layCuts (v := sV τ r) h.hΛ h.ms hr rg.1.2 rg.2.2.1.2 ((h.g0 3 (by omega) rfl).trans rg.1.1) ((h.g0 13 (by omega) rfl).trans rg.2.2.1.1) (fun b hb => h.cm.2.2.2.1 r hr hth b hb) (fun M' c' k' mC => hQ M' (h.yMk hT ⟨c', k'⟩) ⟨c', k'⟩ mC)
theorem m_pairs2 {Λ : Nat → Nat} {M : Mm} {σ τ : Sg} {B p : Nat} {v : Nat → Int32} {Q : Mm → Prop} (h : Inv Λ M σ τ) (hT : sT σ ≤ 8) (hv : vOk v) (hB : B ≤ 40) (hp : p ≤ 1000) (mC : ModCut Λ M v B p) (hQ : ∀ M', Inv Λ M' σ τ → Ch (lpS Λ) M M' → ModCut Λ M' v B p → (∀ i, i < 40 → gI M' (Λ 415) i = unV v B p i) → Q M') : B_X6_layPairs_0 Q (Λ 400) M := by
  refine m_layPairs (μ := zM v B p) h.hΛ h.ms (zS_le hB hp).2 mC.2.2.1 (mC.mid hv hB hp) (fun M' c' m' => hQ M' (h.yLp hT c') c' (mC.lp h.hΛ c') (fun i hi => ?_))
  have q := m' i hi
  unfold unV zQ
  have e0 : (fun j => zM v B p (j + 1) - zM v B p j) = zZ v B p := rfl
  rw [e0] at q
  cases e : (prs (zS v B p - 1) (zZ v B p) (zS v B p - 1)).1 i with
  | none => exact q.1 e
  | some k => exact q.2.1 k e
theorem ModCut.cj {Λ : Nat → Nat} {M M' : Mm} {S : Nat → Prop} {v : Nat → Int32} {B p : Nat} (mC : ModCut Λ M v B p) (c : CJ S M M') : ModCut Λ M' v B p := by
  unfold ModCut at *
  rw [c.I]; exact mC
theorem m_loud {Λ : Nat → Nat} {M : Mm} {σ τ : Sg} {N t m k : Nat} {s u l : Int32} {Q : Int32 → Mm → Prop} (h : Inv Λ M σ τ) (hT : sT σ ≤ 8) (rg : Rg τ N) (ht : t < sT τ) (hm : m < 4) (mC : ModCut Λ M (sV τ (4 * t + m)) (sB τ) (sP τ)) (hk : k + 1 < zS (sV τ (4 * t + m)) (sB τ) (sP τ)) (hu : 0 ≤ u.toInt ∧ u.toInt ≤ 1000000) (hl : 0 ≤ l.toInt ∧ l.toInt ≤ 1000000)
    (hQ : ∀ M', Inv Λ M' σ τ → ModCut Λ M' (sV τ (4 * t + m)) (sB τ) (sP τ) → gI M' (Λ 400) = gI M (Λ 400) → (sta τ t m s k ∧ rar τ t m u l k → Q 1 M') ∧ (¬ (sta τ t m s k ∧ rar τ t m u l k) → Q 0 M')) : B_X6_isLoud_0 Q (Λ 400) (nI t) (nI m) (nI k) s u l M := by
  have hTT := rg.2.1.2
  have hz := zS_le (v := sV τ (4 * t + m)) rg.1.2 rg.2.2.1.2
  have hv := rg.2.2.2.2.1 (4 * t + m) (by omega)
  have z0i : (0 : Int32).toInt = 0 := rfl
  have md := mC.mid hv rg.1.2 rg.2.2.1.2
  unfold B_X6_isLoud_0
  refine ⟨h.m0, m_sizeOf h.ms hz.2 md hk (fun x hx => ⟨fun c => (hQ M h mC rfl).2 (fun z => ?_), fun c => ⟨h.m0, m_sizeOf h.ms hz.2 md hk (fun y hy => ⟨fun c2 => ⟨h.m0, m_pairs2 (v := sV τ (4 * t + m)) h hT hv rg.1.2 rg.2.2.1.2 mC (fun M2 h2 c2' mC2 hu2 => ⟨h2.m0, Λ 402, h2.ms.r 2 (by omega) (by omega), h2.ms.a 2 (by omega) (by omega) (show t < 8 by omega), ?_⟩)⟩, fun c2 => (hQ M h mC rfl).2 (fun z => ?_)⟩)⟩⟩)⟩
  · have hx' : x.toInt = zZ (sV τ (4 * t + m)) (sB τ) (sP τ) k := hx
    rw [le_I, hx', z0i] at c; have := z.1.1.1; omega
  · have hx' : x.toInt = zZ (sV τ (4 * t + m)) (sB τ) (sP τ) k := hx
    have hy' : y.toInt = zZ (sV τ (4 * t + m)) (sB τ) (sP τ) k := hy
    rw [le_I, hx', z0i] at c
    rw [le_I, hy'] at c2
    have i2 : gI M2 (Λ 400) = gI M (Λ 400) := c2'.2 _ (fun z => z.elim (h.hΛ.ne (by omega)) (h.hΛ.ne (by omega)))
    have k47 : ¬ (τ.1 20 t = 1 ∧ ¬ unV (sV τ (4 * t + m)) (sB τ) (sP τ) k = -9) → B_X6_isLoud_47 Q (Λ 400) (nI k) u l M2 := fun hn => by
      have hs : sta τ t m s k := ⟨⟨by omega, c2⟩, hn⟩
      unfold B_X6_isLoud_47
      refine ⟨h2.m0, m_layOdds (v := sV τ (4 * t + m)) h2.hΛ h2.ms hv rg.1.2 rg.2.2.1.2 mC2 hk (fun h20 => z0 ((hQ M2 h2 mC2 i2).1 ⟨hs, Or.inl h20⟩)) (fun h20 M3 c3 k3 g1 g2 => z1 ?_)⟩
      have h3 := h2.yOd hT c3 k3
      have q := hQ M3 h3 (mC2.cj c3) (by rw [c3.I]; exact i2)
      obtain ⟨a1, a2, a3, a4⟩ := zA_ok (v := sV τ (4 * t + m)) rg.1.2 rg.2.2.1.2 hk h20
      have tu : tn u ≤ 1000000 := by unfold tn; omega
      have tl : tn l ≤ 1000000 := by unfold tn; omega
      have b1 := mul_b (show zW (sV τ (4 * t + m)) (sB τ) (sP τ) k ≤ 184756 by omega) tl
      have b2 := mul_b a3 tu
      refine ⟨h3.m0, ?_⟩
      rw [g1, g2, tnL hu.1, tnL hl.1, lN_mul, lN_mul, lg_le (by omega) (by omega)]
      refine ⟨fun c => q.2 (fun z => ?_), fun c => q.1 ⟨hs, Or.inr (Nat.le_of_not_lt c)⟩⟩
      rcases z.2 with z | z
      · omega
      · omega
    rw [h2.cm.2.2.1.2.2.1, nI_clamp (by omega), nI_clamp (by omega)]
    refine ⟨fun c3 => k47 (fun z => c3 z.1), fun c3 => ⟨Λ 415, h2.ms.r 15 (by omega) (by omega), h2.ms.a 15 (by omega) (by omega) (show k < 40 by omega), ?_⟩⟩
    rw [hu2 k (by omega)]
    exact ⟨fun c4 => k47 (fun z => z.2 c4), fun c4 => (hQ M2 h2 mC2 i2).2 (fun z => z.1.2 ⟨c3, c4⟩)⟩
  · have hy' : y.toInt = zZ (sV τ (4 * t + m)) (sB τ) (sP τ) k := hy
    rw [le_I, hy'] at c2; exact absurd z.1.1.2 c2
def enc (f : Int32) : Int32 := if f = 0 then -9 else f
theorem enc9 {f : Int32} (h : ¬ f = -9) : enc f = -9 ↔ f = 0 := by
  unfold enc
  split
  · next q => exact ⟨fun _ => q, fun _ => rfl⟩
  · next q => exact ⟨fun z => absurd z h, fun z => absurd z q⟩
theorem m_remember {Λ : Nat → Nat} {M : Mm} {σ τ : Sg} {r b : Nat} (h : Inv Λ M σ τ) (hT : sT σ ≤ 8) (hr : r < 32) (hb : b < 40) : Inv Λ (pI M (Λ 419) (40 * r + b) 1) σ (uI τ (200 + r) b 1) := by
  refine h.yR (r0 := r) hT rfl (fun c _ _ _ h19 => gI_pI_ne (h.hΛ.ne h19)) rfl rfl (fun a ha => uI_ne _ _ _ (by omega)) ?_ (fun q hq z c hc => ?_) (fun q hq c hc => ?_)
  · rw [gI_pI_ne (h.hΛ.ne (by omega)), uI_ne _ _ _ (by omega)]; exact h.cm.2.2.1.2.2.2
  · rw [uI_ne _ _ _ (by omega)] at z
    rw [gI_pI_ne (h.hΛ.ne (by omega)), uI_ne _ _ _ (by omega)]; exact h.cm.2.2.2.1 q hq z c hc
  · rw [gI_pI_eq]
    by_cases e : q = r
    · subst e
      rw [uI_eq]
      by_cases e2 : c = b
      · subst e2; rw [upd_eq, upd_eq]
      · rw [upd_ne _ _ (by omega), upd_ne _ _ e2]; exact h.cm.2.2.2.2 q hq c hc
    · rw [upd_ne _ _ (by omega), uI_ne _ _ _ (by omega)]; exact h.cm.2.2.2.2 q hq c hc
theorem m_keep {Λ : Nat → Nat} {M : Mm} {σ τ : Sg} {A t m b : Nat} {s u l x6 x7 x8 x9 f : Int32} {Q : Int32 → Mm → Prop} {K27 : Nat → Int32 → Int32 → Int32 → Int32 → Int32 → Int32 → Int32 → Int32 → Int32 → Mm → Prop} (h : Inv Λ M σ τ) (hT : sT σ ≤ 8) (eA : τ.1 0 10 = nI A) (hA : A < 2 ^ 30) (h33 : gI M (Λ 400) 33 = enc f) (hf : ¬ f = -9) (hne : ¬ al t m b = 0)
    (hK : ∀ M', Inv Λ M' σ (ka τ (al t m b)) → gI M' (Λ 400) 33 = enc (fF f (al t m b)) → K27 (Λ 400) (nI t) (nI m) s u l x6 (x7 + 1) x8 (x9 + 1) M') :
    ((300 : Int32) ≤ gI M (Λ 400) 30 → B_X6_cryOf_137 Q K27 (Λ 400) (nI t) (nI m) s u l x6 x7 x8 x9 (nI b) M) ∧ (¬ (300 : Int32) ≤ gI M (Λ 400) 30 → ∃ a22, gR M (Λ 400) 31 = some a22 ∧ (ar M a22 7 (gI M (Λ 400) 30) ∧ (∀ M24, M24 = pI M a22 (Int32.toNatClampNeg (gI M (Λ 400) 30)) ((((1000 : Int32) * nI t) + ((100 : Int32) * nI m)) + nI b) → B_X6_cryOf_137 Q K27 (Λ 400) (nI t) (nI m) s u l x6 x7 x8 x9 (nI b) M24))) := by
  have e30 : gI M (Λ 400) 30 = τ.1 0 10 := h.g0 30 (by omega) rfl
  have k137 : ∀ (M1 : Mm) (τ1 : Sg), Inv Λ M1 σ τ1 → τ1.1 0 10 = nI A → gI M1 (Λ 400) 33 = enc f → uI τ1 0 10 (nI A + 1) = ka τ (al t m b) → B_X6_cryOf_137 Q K27 (Λ 400) (nI t) (nI m) s u l x6 x7 x8 x9 (nI b) M1 := by
    intro M1 τ1 h1 e1 g33 ek
    unfold B_X6_cryOf_137
    refine ⟨h1.m0, ?_⟩
    rintro _ rfl
    have e1' : gI M1 (Λ 400) 30 = nI A := (h1.g0 30 (by omega) rfl).trans e1
    have h2 : Inv Λ (pI M1 (Λ 400) 30 (nI A + 1)) σ (uI τ1 0 10 (nI A + 1)) := h1.y0 hT 30 _ (by omega) rfl
    rw [ek] at h2
    have g2 : gI (pI M1 (Λ 400) 30 (nI A + 1)) (Λ 400) 33 = enc f := by rw [gI_pI_eq, upd_ne _ _ (by omega)]; exact g33
    rw [e1', g2, al_eq]
    refine ⟨fun c => ?_, fun c => ?_⟩
    · rintro _ rfl
      refine hK _ (h2.yS hT 33 _ rfl) ?_
      have fn : ¬ f = 0 := fun z => c ((enc9 hf).mpr z)
      rw [gI_pI_eq, upd_eq]; unfold fF; rw [if_neg fn]
    · rintro _ rfl
      refine hK _ (h2.yS hT 33 _ rfl) ?_
      have fn : f = 0 := (enc9 hf).mp c
      rw [gI_pI_eq, upd_eq]; unfold fF enc; rw [if_pos fn, if_neg hne]
  rw [e30, eA]
  refine ⟨fun c => k137 M τ h eA h33 ?_, fun c => ?_⟩
  · unfold ka; rw [eA, if_pos c]
  · have hl : A < 300 := Nat.lt_of_not_le (fun z => c ((nI_leI (a := 300) (by omega) (by omega)).mpr z))
    refine ⟨Λ 418, h.ms.r 18 (by omega) (by omega), h.ms.a 18 (by omega) (by omega) (show A < 300 from hl), ?_⟩
    rintro _ rfl
    rw [al_eq]
    refine k137 _ (uI τ 3 (Int32.toNatClampNeg (nI A)) (al t m b)) (h.yA hT 18 _ _ (Or.inr (Or.inl rfl))) (by rw [uI_ne _ _ _ (by omega)]; exact eA) (by rw [gI_pI_ne (h.hΛ.ne (by omega))]; exact h33) ?_
    unfold ka
    rw [eA, if_neg c]; rfl
theorem es1 {z : Nat} (h : z ≤ 40) : (nI z - (1 : Int32)).toInt = (z : Int) - 1 := by
  have q : (1 : Int32).toInt = 1 := rfl
  rw [subI (by rw [nI_toInt (by omega)]; omega) (by rw [nI_toInt (by omega)]; omega), nI_toInt (by omega), q]
theorem fF_as (a b c : Int32) : fF (fF a b) c = fF a (fF b c) := by
  unfold fF
  by_cases h : a = 0
  · simp [h]
  · simp [h]
theorem fF_9 {a b : Int32} (h : ¬ a = -9) (h2 : ¬ b = -9) : ¬ fF a b = -9 := by
  unfold fF; split
  · exact h2
  · exact h
theorem m_cry_27 {Λ : Nat → Nat} {σ τ0 τ : Sg} {N A n0 t m : Nat} {s u l f0 : Int32} {Q : Int32 → Mm → Prop} (hT : sT σ ≤ 8) (rg0 : Rg τ0 N) (hA : A ≤ 1280 * N) (hN : N ≤ 600) (ht : t < sT τ0) (hm : m < 4) (hth : ¬ τ0.1 21 (4 * t + m) = 0) (hu : 0 ≤ u.toInt ∧ u.toInt ≤ 1000000) (hl : 0 ≤ l.toInt ∧ l.toInt ≤ 1000000) (c0 : Cy τ0 A n0 τ) (hn0 : n0 + 40 ≤ 1280) (hf0 : ¬ f0 = -9)
    (hQ : ∀ M', Inv Λ M' σ (cyR τ0 t m s u l τ (zS (sV τ0 (4 * t + m)) (sB τ0) (sP τ0) - 1)).1 → gI M' (Λ 400) 33 = enc (fF f0 (cyR τ0 t m s u l τ (zS (sV τ0 (4 * t + m)) (sB τ0) (sP τ0) - 1)).2.1) → Q (nI (cyR τ0 t m s u l τ (zS (sV τ0 (4 * t + m)) (sB τ0) (sP τ0) - 1)).2.2) M') :
    ∀ (d k : Nat) (M : Mm), k + d = zS (sV τ0 (4 * t + m)) (sB τ0) (sP τ0) - 1 → Inv Λ M σ (cyR τ0 t m s u l τ k).1 → gI M (Λ 400) 33 = enc (fF f0 (cyR τ0 t m s u l τ k).2.1) → B_X6_cryOf_27 Q (d + 1) (Λ 400) (nI t) (nI m) s u l (nI (4 * t + m)) (nI (cyR τ0 t m s u l τ k).2.2) (nI (zS (sV τ0 (4 * t + m)) (sB τ0) (sP τ0)) - (1 : Int32)) (nI k) M := by
  have hTT := rg0.2.1.2
  have hz := zS_le (v := sV τ0 (4 * t + m)) rg0.1.2 rg0.2.2.1.2
  intro d
  induction d with
  | zero =>
    intro k M hk h1 h33
    have e : k = zS (sV τ0 (4 * t + m)) (sB τ0) (sP τ0) - 1 := by omega
    unfold B_X6_cryOf_27
    refine ⟨fun _ => ?_, fun c => absurd ?_ c⟩
    · subst e; exact hQ M h1 h33
    · rw [le_I, es1 hz.2, nI_toInt (by omega)]; omega
  | succ d ih =>
    intro k M hk h1 h33
    obtain ⟨w1, w2, w3, w4⟩ := cyR_ok (s := s) (u := u) (l := l) rg0 ht hm c0 k (by omega)
    have rg1 := w1.rg rg0 hA (by omega)
    have ht1 : t < sT (cyR τ0 t m s u l τ k).1 := by rw [w1.T]; exact ht
    have eV := w1.V (r := 4 * t + m) (by omega)
    have eB := w1.B
    have eP := w1.P
    have eO : sOwn (cyR τ0 t m s u l τ k).1 t m k = sOwn τ0 t m k := w1.own (by omega) hm
    have hk1 : k + 1 < zS (sV τ0 (4 * t + m)) (sB τ0) (sP τ0) := by omega
    have hk1' : k + 1 < zS (sV (cyR τ0 t m s u l τ k).1 (4 * t + m)) (sB (cyR τ0 t m s u l τ k).1) (sP (cyR τ0 t m s u l τ k).1) := by rw [eV, eB, eP]; exact hk1
    have hcb := cb_lt (v := sV τ0 (4 * t + m)) rg0.1.2 rg0.2.2.1.2 hk1
    have hB40 := rg0.1.2
    have skip : ∀ (M' : Mm), Inv Λ M' σ (cyR τ0 t m s u l τ k).1 → gI M' (Λ 400) 33 = gI M (Λ 400) 33 → ¬ (rch τ0 t m s (cyR τ0 t m s u l τ k).1 k ∧ rar τ0 t m u l k) → B_X6_cryOf_27 Q (d + 1) (Λ 400) (nI t) (nI m) s u l (nI (4 * t + m)) (nI (cyR τ0 t m s u l τ k).2.2) (nI (zS (sV τ0 (4 * t + m)) (sB τ0) (sP τ0)) - (1 : Int32)) (nI k + 1) M' := by
      intro M' h' g' nr
      have es := cyR_n nr
      have q := ih (k + 1) M' (by omega) (by rw [es]; exact h') (by rw [es, g']; exact h33)
      rw [es] at q
      rw [nI_1]; exact q
    unfold B_X6_cryOf_27
    refine ⟨fun c => absurd c ?_, fun _ => ⟨h1.m0, m_lay2 h1 hT rg1 (by omega) (by rw [w1.th]; exact hth) (fun M2 h2 k2 mC => ⟨h2.m0, m_buildOfCut h2.ms rg1.1.2 rg1.2.2.1.2 mC hk1' ⟨h2.m0, m_loud h2 hT rg1 ht1 hm mC hk1' hu hl (fun M3 h3 mC3 i3 => ?_)⟩⟩)⟩⟩
    · rw [le_I, es1 hz.2, nI_toInt (by omega)]; omega
    · have e33 : gI M3 (Λ 400) 33 = gI M (Λ 400) 33 := by rw [i3]; exact k2.2 33 (by omega) (by omega) (by omega)
      have est : sta (cyR τ0 t m s u l τ k).1 t m s k = sta τ0 t m s k := by unfold sta; rw [eV, eB, eP, w1.kd]
      have era : rar (cyR τ0 t m s u l τ k).1 t m u l k = rar τ0 t m u l k := by unfold rar; rw [eV, eB, eP]
      rw [est, era]
      refine ⟨fun y => z1 ⟨h3.m0, m_ownS h3 hT rg1 ht1 hm mC3 hk1' (fun M4 h4 k4 => ?_)⟩, fun y => z0 (skip M3 h3 e33 (fun z => y ⟨z.1.1, z.2⟩))⟩
      have e34 : gI M4 (Λ 400) 33 = gI M (Λ 400) 33 := (k4.2 33 (by omega) (by omega) (by omega)).trans e33
      rw [eO]
      cases eo : sOwn τ0 t m k with
      | true => exact z1' (skip M4 h4 e34 (fun z => by rw [z.1.2.1] at eo; cases eo))
      | false =>
        refine z0' ⟨h4.m0, Λ 419, h4.ms.r 19 (by omega) (by omega), ?_⟩
        rw [eV, eB, eP, e40rb, nI_clamp (by omega), h4.cm.2.2.2.2 (4 * t + m) (by omega) _ (by omega)]
        refine ⟨h4.ms.a 19 (by omega) (by omega) (show 40 * (4 * t + m) + cb (sV τ0 (4 * t + m)) (sB τ0) (sP τ0) k < 1280 by omega), fun c => skip M4 h4 e34 (fun z => c z.1.2.2), fun c => ⟨h4.ms.a 19 (by omega) (by omega) (show 40 * (4 * t + m) + cb (sV τ0 (4 * t + m)) (sB τ0) (sP τ0) k < 1280 by omega), ?_⟩⟩
        rintro _ rfl
        have es := cyR_y (u := u) (l := l) (σ := τ) (show rch τ0 t m s (cyR τ0 t m s u l τ k).1 k ∧ rar τ0 t m u l k from ⟨⟨y.1, eo, c⟩, y.2⟩)
        have h5 := m_remember (r := 4 * t + m) (b := cb (sV τ0 (4 * t + m)) (sB τ0) (sP τ0) k) h4 hT (by omega) (by omega)
        have hne := al_ne (t := t) (m := m) (b := cb (sV τ0 (4 * t + m)) (sB τ0) (sP τ0) k) (by omega) hm (by omega) hcb.2
        refine m_keep (A := A + (n0 + (cyR τ0 t m s u l τ k).2.2)) (f := fF f0 (cyR τ0 t m s u l τ k).2.1) h5 hT (by rw [uI_ne _ _ _ (by omega)]; exact w1.2.2.2.2.2) (by omega) (by rw [gI_pI_ne (h4.hΛ.ne (by omega)), e34]; exact h33) (fF_9 hf0 w4) hne.1 (fun M6 h6 g6 => ?_)
        have q := ih (k + 1) M6 (by omega) (by rw [es]; exact h6) (by rw [g6, fF_as, es]; rfl)
        rw [es] at q
        rw [nI_1, nI_1]
        exact q
theorem m_cryOf {Λ : Nat → Nat} {M : Mm} {σ τ0 : Sg} {N A K t m : Nat} {s u l : Int32} {w : Ws} {Q : Int32 → Mm → Prop} (hT : sT σ ≤ 8) (rg0 : Rg τ0 N) (hA : A ≤ 1280 * N) (hN : N ≤ 600) (ht : t < sT τ0) (hm : m < 4) (hth : ¬ τ0.1 21 (4 * t + m) = 0) (hu : 0 ≤ u.toInt ∧ u.toInt ≤ 1000000) (hl : 0 ≤ l.toInt ∧ l.toInt ≤ 1000000) (wk : Wk τ0 A K w) (hK : K + 40 ≤ 1280) (h : Inv Λ M σ w.1) (h33 : gI M (Λ 400) 33 = enc w.2.1)
    (hQ : ∀ (M' : Mm) (r : Nat), Inv Λ M' σ (cyRow τ0 t m s u l w).1 → gI M' (Λ 400) 33 = enc (cyRow τ0 t m s u l w).2.1 → w.2.2 + r = (cyRow τ0 t m s u l w).2.2 → Q (nI r) M') : B_X6_cryOf_0 Q (Λ 400) (nI t) (nI m) s u l M := by
  have hTT := rg0.2.1.2
  have w1 := wk.1
  have rg1 := w1.rg rg0 hA (by have := wk.2.1; omega)
  have ht1 : t < sT w.1 := by rw [w1.T]; exact ht
  unfold B_X6_cryOf_0
  unfold cyRow at hQ
  rw [if_neg hth] at hQ
  rw [e4tm]
  refine ⟨h.m0, m_lay2 h hT rg1 (by omega) (by rw [w1.th]; exact hth) (fun M2 h2 k2 mC => ⟨h2.m0, ?_⟩)⟩
  rw [mC.2.2.1, w1.V (r := 4 * t + m) (by omega), w1.B, w1.P]
  exact ⟨_, m_cry_27 (τ := w.1) (n0 := w.2.2) (f0 := w.2.1) hT rg0 hA hN ht hm hth hu hl w1 (by have := wk.2.1; omega) wk.2.2.2 (fun M' h' g' => hQ M' _ h' g' rfl) _ 0 M2 (Nat.zero_add _) h2 (by
    rw [k2.2 33 (by omega) (by omega) (by omega), h33]
    show enc w.2.1 = enc (fF w.2.1 0)
    unfold fF; split
    · next q => rw [q]
    · rfl)⟩
theorem m_cry_56 {Λ : Nat → Nat} {σ τ0 : Sg} {N A K t : Nat} {s u l : Int32} {w : Ws} {Q : Int32 → Mm → Prop} {K44 : Nat → Int32 → Int32 → Int32 → Int32 → Int32 → Mm → Prop} (hT : sT σ ≤ 8) (rg0 : Rg τ0 N) (hA : A ≤ 1280 * N) (hN : N ≤ 600) (ht : t < sT τ0) (hkd : ¬ τ0.1 20 t = 2) (hu : 0 ≤ u.toInt ∧ u.toInt ≤ 1000000) (hl : 0 ≤ l.toInt ∧ l.toInt ≤ 1000000) (wk : Wk τ0 A K w) (hK : K + 160 ≤ 1280)
    (hQ : ∀ (M : Mm), Inv Λ M σ (cyM τ0 t s u l w 4).1 → gI M (Λ 400) 33 = enc (cyM τ0 t s u l w 4).2.1 → K44 (Λ 400) s u l (nI (cyM τ0 t s u l w 4).2.2) (nI t + 1) M) :
    ∀ (d m : Nat) (M : Mm), m + d = 4 → Inv Λ M σ (cyM τ0 t s u l w m).1 → gI M (Λ 400) 33 = enc (cyM τ0 t s u l w m).2.1 → B_X6_cry_56 Q K44 (d + 1) (Λ 400) s u l (nI (cyM τ0 t s u l w m).2.2) (nI t) (nI m) M := by
  have hTT := rg0.2.1.2
  intro d
  induction d with
  | zero =>
    intro m M hm h1 h33
    have e : m = 4 := by omega
    subst e
    unfold B_X6_cry_56
    exact ⟨fun _ => hQ M h1 h33, fun c => absurd (Int32.le_refl _) c⟩
  | succ d ih =>
    intro m M hm h1 h33
    have wm := cyM_ok (s := s) (u := u) (l := l) rg0 ht wk m (by omega)
    unfold B_X6_cry_56
    refine ⟨fun c => absurd ((nI_leI (a := 4) (by omega) (by omega)).mp c) (by omega), fun _ => ⟨h1.m0, Λ 402, h1.ms.r 2 (by omega) (by omega), h1.ms.a 2 (by omega) (by omega) (show t < 8 by omega), ?_⟩⟩
    rw [h1.cm.2.2.1.2.2.1, nI_clamp (by omega), wm.1.kd]
    refine ⟨fun c => absurd c hkd, fun _ => ⟨Λ 403, h1.ms.r 3 (by omega) (by omega), ?_⟩⟩
    rw [e4tm, nI_clamp (by omega), h1.cm.2.2.1.2.2.2, wm.1.th]
    refine ⟨h1.ms.a 3 (by omega) (by omega) (show 4 * t + m < 32 by omega), fun c => ?_, fun c => ?_⟩
    · have es : cyM τ0 t s u l w (m + 1) = cyM τ0 t s u l w m := by rw [cyM, cyRow, if_pos c]
      have q := ih (m + 1) M (by omega) (by rw [es]; exact h1) (by rw [es]; exact h33)
      rw [es] at q
      rw [Int32.add_zero, nI_1]; exact q
    · refine m_cryOf hT rg0 hA hN ht (by omega) c hu hl wm (by omega) h1 h33 (fun M2 r h2 g2 e2 => ?_)
      have q := ih (m + 1) M2 (by omega) h2 g2
      rw [show (cyM τ0 t s u l w (m + 1)).2.2 = (cyM τ0 t s u l w m).2.2 + r from e2.symm, ← nI_add] at q
      rw [nI_1]; exact q
theorem uL_self (σ : Sg) (k : Nat) : uL σ k (σ.2 k) = σ := by
  unfold uL
  refine Prod.ext rfl ?_
  funext j
  show vp_updL σ.2 k (σ.2 k) j = σ.2 j
  by_cases e : j = k
  · rw [e, updL_eq]
  · rw [updL_ne _ _ e]
theorem m_cry_44 {Λ : Nat → Nat} {σ τ0 : Sg} {N A : Nat} {s u l : Int32} {Q : Int32 → Mm → Prop} (hT : sT σ ≤ 8) (rg0 : Rg τ0 N) (eA : τ0.1 0 10 = nI A) (hA : A ≤ 1280 * N) (hN : N ≤ 600) (hu : 0 ≤ u.toInt ∧ u.toInt ≤ 1000000) (hl : 0 ≤ l.toInt ∧ l.toInt ≤ 1000000)
    (hQ : ∀ (M : Mm), Inv Λ M σ (if (cyT τ0 s u l (τ0, 0, 0) (sT τ0)).2.1 = 0 then (cyT τ0 s u l (τ0, 0, 0) (sT τ0)).1 else uL (cyT τ0 s u l (τ0, 0, 0) (sT τ0)).1 14 (Int32.toInt64 (cyT τ0 s u l (τ0, 0, 0) (sT τ0)).2.1)) → Q (nI (cyT τ0 s u l (τ0, 0, 0) (sT τ0)).2.2) M) :
    ∀ (d t : Nat) (M : Mm), t + d = sT τ0 → Inv Λ M σ (cyT τ0 s u l (τ0, 0, 0) t).1 → gI M (Λ 400) 33 = enc (cyT τ0 s u l (τ0, 0, 0) t).2.1 → B_X6_cry_44 Q (d + 1) (Λ 400) s u l (nI (cyT τ0 s u l (τ0, 0, 0) t).2.2) (nI t) M := by
  have hTT := rg0.2.1.2
  intro d
  induction d with
  | zero =>
    intro t M ht h1 h33
    have e : t = sT τ0 := by omega
    have wt := cyT_ok (s := s) (u := u) (l := l) rg0 (Wk.start rg0 eA) t (by omega)
    have wl := wt.2.1
    unfold B_X6_cry_44
    rw [show gI M (Λ 400) 4 = nI (sT τ0) from (h1.g0 4 (by omega) rfl).trans ((wt.1.1 7 (by omega)).trans rg0.2.1.1), h33]
    subst e
    refine ⟨h1.m0, fun _ => ⟨fun c => ?_, fun c => ?_⟩, fun c => absurd (Int32.le_refl _) c⟩
    · have fn : ¬ (cyT τ0 s u l (τ0, 0, 0) (sT τ0)).2.1 = 0 := fun z => c (by rw [wt.2.2.1.mpr z]; rfl)
      rw [if_neg fn] at hQ
      rintro _ rfl
      have e5 : enc (cyT τ0 s u l (τ0, 0, 0) (sT τ0)).2.1 = (cyT τ0 s u l (τ0, 0, 0) (sT τ0)).2.1 := by unfold enc; rw [if_neg fn]
      rw [e5]
      exact hQ _ (h1.yJ hT 2 _ (Or.inl rfl))
    · have fn : (cyT τ0 s u l (τ0, 0, 0) (sT τ0)).2.1 = 0 := wt.2.2.1.mp ((nI_eq (b := 0) (by omega) (by omega)).mp c)
      rw [if_pos fn] at hQ
      rintro _ rfl
      have h2 : Inv Λ (pJ M (Λ 400) 2 (gJ M (Λ 400) 2)) σ (uL (cyT τ0 s u l (τ0, 0, 0) (sT τ0)).1 14 (gJ M (Λ 400) 2)) := h1.yJ hT 2 _ (Or.inl rfl)
      rw [show gJ M (Λ 400) 2 = (cyT τ0 s u l (τ0, 0, 0) (sT τ0)).1.2 14 from h1.cm.2.1.1, uL_self] at h2
      rw [show gJ M (Λ 400) 2 = (cyT τ0 s u l (τ0, 0, 0) (sT τ0)).1.2 14 from h1.cm.2.1.1]
      exact hQ _ h2
  | succ d ih =>
    intro t M ht h1 h33
    have wt := cyT_ok (s := s) (u := u) (l := l) rg0 (Wk.start rg0 eA) t (by omega)
    unfold B_X6_cry_44
    rw [show gI M (Λ 400) 4 = nI (sT τ0) from (h1.g0 4 (by omega) rfl).trans ((wt.1.1 7 (by omega)).trans rg0.2.1.1)]
    refine ⟨h1.m0, fun c => absurd ((nI_leI (by omega) (by omega)).mp c) (by omega), fun _ => ?_⟩
    by_cases c : τ0.1 20 t = 2
    · have es : cyT τ0 s u l (τ0, 0, 0) (t + 1) = cyT τ0 s u l (τ0, 0, 0) t := by rw [cyT, if_pos c]
      have q := ih (t + 1) M (by omega) (by rw [es]; exact h1) (by rw [es]; exact h33)
      rw [es, ← nI_1] at q
      refine ⟨1, ?_⟩
      unfold B_X6_cry_56
      refine ⟨fun c => absurd c (by decide), fun _ => ⟨h1.m0, Λ 402, h1.ms.r 2 (by omega) (by omega), h1.ms.a 2 (by omega) (by omega) (show t < 8 by omega), ?_⟩⟩
      rw [h1.cm.2.2.1.2.2.1, nI_clamp (by omega), wt.1.kd]
      exact ⟨fun _ => q, fun y => absurd c y⟩
    · have es : cyT τ0 s u l (τ0, 0, 0) (t + 1) = cyM τ0 t s u l (cyT τ0 s u l (τ0, 0, 0) t) 4 := by rw [cyT, if_neg c]
      refine ⟨4 + 1, m_cry_56 (w := cyT τ0 s u l (τ0, 0, 0) t) hT rg0 hA hN (by omega) c hu hl wt (by omega) (fun M3 h3 g3 => ?_) 4 0 M (by omega) h1 h33⟩
      have q := ih (t + 1) M3 (by omega) (by rw [es]; exact h3) (by rw [es]; exact g3)
      rw [es, ← nI_1] at q
      exact q
theorem m_cry {Λ : Nat → Nat} {M : Mm} {σ τ : Sg} {N : Nat} {s u l : Int32} {Q : Int32 → Mm → Prop} (h : Inv Λ M σ τ) (hT : sT σ ≤ 8) (rg : Rg τ N) (hN : N ≤ 600) (hQ : ∀ M', Inv Λ M' σ (s_cry τ s u l).2 → Q (s_cry τ s u l).1 M') : B_X6_cry_0 Q (Λ 400) s u l M := by
  obtain ⟨A, eA, hA⟩ := rg.2.2.2.2.2.2.2.2.1
  unfold B_X6_cry_0
  unfold s_cry at hQ
  have i0 : (0 : Int32).toInt = 0 := rfl
  have i1 : (1 : Int32).toInt = 1 := rfl
  have im : (1000000 : Int32).toInt = 1000000 := rfl
  refine m_in (fun c => z0 ?_) (fun c1 c2 => z1 (m_in (fun c => z0 ?_) (fun c3 c4 => z1 (m_in (fun c => z0' ?_) (fun c5 c7 => z1' ⟨h.m0, ?_⟩)))))
  · rw [if_pos (Or.inl c)] at hQ; exact hQ M h
  · rw [if_pos (Or.inr (Or.inl c))] at hQ; exact hQ M h
  · rw [if_pos (Or.inr (Or.inr c))] at hQ; exact hQ M h
  · rw [if_neg (fun z => z.elim (fun y => y.elim c1 c2) (fun y => y.elim (fun y => y.elim c3 c4) (fun y => y.elim c5 c7)))] at hQ
    rw [lt_I] at c3 c4 c5 c7
    rintro _ rfl
    exact ⟨_, m_cry_44 hT rg eA hA hN ⟨by omega, by omega⟩ ⟨by omega, by omega⟩ hQ (sT τ) 0 _ (Nat.zero_add _) (h.yS hT 33 _ rfl) (by rw [gI_pI_eq, upd_eq]; rfl)⟩
