/-! PURE, 33: the call odds -/
theorem zA_ok {v : Nat → Int32} {B p i : Nat} (hB : B ≤ 40) (hp : p ≤ 1000) (hi : i + 1 < zS v B p) (h20 : oN v B p i ≤ 20) : zW v B p i ≤ zA v B p i ∧ 0 < zA v B p i ∧ zA v B p i ≤ 184756 ∧ 0 < Nat.gcd (zW v B p i) (zA v B p i) := by
  have ht := oF_tot hB hp hi
  have h0 : 0 < zA v B p i := bin_pos _ (by omega) _ (by omega)
  exact ⟨nc_le _ _ _ _, h0, bin_20 _ (by omega) _ (by omega), Nat.gcd_pos_of_pos_right _ h0⟩
theorem Inv.xRk {Λ : Nat → Nat} {M M' : Mm} {σ τ : Sg} (h : Inv Λ M σ τ) (c : Ch (rkS Λ) M M') : Inv Λ M' σ τ := by
  have n : ∀ d, d ≠ 10 → d ≠ 11 → gI M' (Λ d) = gI M (Λ d) := fun d h1 h2 => c.2 _ (fun z => z.elim (h.hΛ.ne h1) (h.hΛ.ne h2))
  exact h.chX rfl (by rw [c.1]) (h.cx.same (fun d u => n d (by unfold uX at u; omega) (by unfold uX at u; omega)) (fun d u => by rw [c.J])) (fun j hj => n _ (by omega) (by omega)) (by rw [c.J])
def oU (v : Nat → Int32) (B p i : Nat) : Nat := zW v B p i / Nat.gcd (zW v B p i) (zA v B p i)
def oL (v : Nat → Int32) (B p i : Nat) : Nat := zA v B p i / Nat.gcd (zW v B p i) (zA v B p i)
theorem oU_ok {v : Nat → Int32} {B p i : Nat} (hB : B ≤ 40) (hp : p ≤ 1000) (hi : i + 1 < zS v B p) (h20 : oN v B p i ≤ 20) : oU v B p i ≤ 184756 ∧ oL v B p i ≤ 184756 := by
  obtain ⟨a1, a2, a3, a4⟩ := zA_ok hB hp hi h20
  have h1 := Nat.div_le_self (zW v B p i) (Nat.gcd (zW v B p i) (zA v B p i))
  have h2 := Nat.div_le_self (zA v B p i) (Nat.gcd (zW v B p i) (zA v B p i))
  unfold oU oL
  omega
def f_odds (σ : Sg) (x : Int32) (t m : Nat) : Int32 × Sg := if isC (sV σ (4 * t + m)) (sB σ) (sP σ) x then if 20 < oN (sV σ (4 * t + m)) (sB σ) (sP σ) (tn x) then (0, σ) else (1, uL (uL σ 12 (lN (oU (sV σ (4 * t + m)) (sB σ) (sP σ) (tn x)))) 13 (lN (oL (sV σ (4 * t + m)) (sB σ) (sP σ) (tn x)))) else (-9, σ)
theorem uU_row {T t m j : Nat} (ht : t < T) (hm : m < 4) (hj : j ≤ 6) : uU T (rc t m + j) := Or.inl (Or.inr (by unfold rc; omega))
theorem x_odds {Λ : Nat → Nat} {M : Mm} {σ τ : Sg} {N : Nat} {Q : Int32 → Mm → Prop} {x y i : Int32} {gc gs : Nat} (h : Inv Λ M σ τ) (rg : Rg σ N) (hb : gR M (Λ 0) 5 = none → 2 ≤ gc ∧ 8594 ≤ gs) (hQ : ∀ Λ' M', (∀ c, uU (sT σ) c → Λ' c = Λ c) → Inv Λ' M' (nd σ x y (f_odds σ i)).2 τ → Q (nd σ x y (f_odds σ i)).1 M') : B_X5_odds_0 Q (Λ 0) x y i gc gs M := by
  have hT := rg.2.1.2
  unfold B_X5_odds_0 B_X5_odds_21
  unfold nd at hQ
  refine x_rowed h rg (fun z => ?_) (fun M' z1 z2 h' => ?_) (fun t m ht hm ex ey z => ?_)
  · rw [if_neg z] at hQ; exact hQ Λ M (fun _ _ => rfl) h
  · rw [if_pos z1, if_pos z2] at hQ; exact hQ Λ M' (fun _ _ => rfl) h'
  · obtain ⟨i1, i2, i3⟩ := isR_nI rg ht hm
    rw [ex, ey, if_pos i1, i2, if_neg z, tn_nI (by omega), tn_nI (by omega)] at hQ
    refine ⟨h.o0, x_bring h rg ht hm (fun M1 h1 rC c1 => ?_)⟩
    obtain ⟨_, _, _, _, _, _, _, a8, rs, a9⟩ := x_row_at h1 rg ht hm
    unfold f_odds at hQ
    refine ⟨a8, x_isC rs rg.1.2 rg.2.2.1.2 rC (fun j hj ej ej2 c => z1' ⟨h1.o0, gc, gs, Nat.le_refl _, Nat.le_refl _, ?_⟩) (fun c => z0' ?_)⟩
    · rw [if_pos c, ej2] at hQ
      rw [ej]
      refine x_ready h1 hT (by rw [c1.R]; exact hb) (fun Λ2 M2 h2 cS _ eΛ eI => ⟨Λ2 10, rfl, cS.1, ?_⟩)
      have er : Λ (rc t m) = Λ2 (rc t m) := (eΛ (rc t m) (uU_row (j := 0) ht hm (by omega))).symm
      have e0 : Λ 0 = Λ2 0 := (eΛ 0 (Or.inl (Or.inl (by omega)))).symm
      rw [er, e0]
      obtain ⟨_, _, _, _, _, _, _, a8', rs', a9'⟩ := x_row_at h2 rg ht hm
      refine x_reckon (v := sV σ (4 * t + m)) h2.hΛ (by unfold rc; omega) cS rs' (rg.2.2.2.2.1 _ i3) rg.1.2 rg.2.2.1.2 (rC.same (fun k hk => by rw [eΛ _ (uU_row ht hm hk)]; exact eI _ (uU_row ht hm hk))) hj (fun hn => z0' ?_) (fun hy M3 c3 g1 g2 => ?_)
      · rw [if_pos hn] at hQ; exact hQ Λ2 M2 eΛ h2
      · have h3 := h2.xRk c3
        rw [if_neg (by omega)] at hQ
        refine z1' ⟨(cS.ch c3).1, h3.o0, ?_⟩
        rintro _ rfl _ rfl
        have hu := oU_ok (v := sV σ (4 * t + m)) rg.1.2 rg.2.2.1.2 hj hy
        rw [gI_pJ, g1, g2]
        have q := hQ Λ2 _ eΛ ((h3.xJ 12 (lN (oU (sV σ (4 * t + m)) (sB σ) (sP σ) j))).xJ 13 (lN (oL (sV σ (4 * t + m)) (sB σ) (sP σ) j)))
        rw [← nI_l (n := oU (sV σ (4 * t + m)) (sB σ) (sP σ) j) (by omega), ← nI_l (n := oL (sV σ (4 * t + m)) (sB σ) (sP σ) j) (by omega)] at q
        exact q
    · rw [if_neg c] at hQ; exact hQ Λ M1 (fun _ _ => rfl) h1
theorem Inv.yOd {Λ : Nat → Nat} {M M' : Mm} {σ τ : Sg} (h : Inv Λ M σ τ) (hT : sT σ ≤ 8) (c : CJ (odS Λ) M M') (k : ∀ j, j ≠ 25 → j ≠ 26 → gJ M' (Λ 400) j = gJ M (Λ 400) j) : Inv Λ M' σ τ :=
  h.yC hT c.2.1 (fun j _ _ => by rw [c.I]) (fun d _ => by rw [c.I]) (fun d hd => c.2.2 _ (fun z => z.elim (h.hΛ.ne (by omega)) (h.hΛ.ne (by omega)))) k
theorem m_odds {Λ : Nat → Nat} {M : Mm} {σ τ : Sg} {N : Nat} {Q : Int32 → Mm → Prop} {x y i : Int32} (h : Inv Λ M σ τ) (hT : sT σ ≤ 8) (rg : Rg τ N) (hQ : ∀ M', Inv Λ M' σ (nd τ x y (f_odds τ i)).2 → Q (nd τ x y (f_odds τ i)).1 M') : B_X6_odds_0 Q (Λ 400) x y i M := by
  have hTT := rg.2.1.2
  unfold B_X6_odds_0
  refine m_nd h hT rg hQ (fun r M' hr q => br4 hr q) (fun t m M1 ht hm ex ey z h1 mC hQ => br3 ⟨h1.m0, ?_⟩)
  unfold f_odds at hQ
  refine m_isC h1.ms rg.1.2 rg.2.2.1.2 mC (fun j hj ej ej2 c => z1' ⟨h1.m0, ?_⟩) (fun c => z0' ?_)
  · rw [if_pos c, ej2] at hQ
    rw [ej]
    refine m_layOdds (v := sV τ (4 * t + m)) h1.hΛ h1.ms (rg.2.2.2.2.1 _ (by omega)) rg.1.2 rg.2.2.1.2 mC hj (fun hn => z0' ?_) (fun hy M2 c2 k2 g1 g2 => ?_)
    · rw [if_pos hn] at hQ; exact hQ M1 h1
    · have h2 := h1.yOd hT c2 k2
      rw [if_neg (by omega)] at hQ
      obtain ⟨a1, a2, a3, a4⟩ := zA_ok (v := sV τ (4 * t + m)) rg.1.2 rg.2.2.1.2 hj hy
      have hgl := Nat.gcd_le_right (zW (sV τ (4 * t + m)) (sB τ) (sP τ) j) a2
      refine z1' ⟨h2.m0, ?_⟩
      unfold B_X6_gcd_0
      rw [g1, g2]
      have hne : ¬ lN (Nat.gcd (zW (sV τ (4 * t + m)) (sB τ) (sP τ) j) (zA (sV τ (4 * t + m)) (sB τ) (sP τ) j)) = 0 := fun w => by have := (pk_lEQ (b := 0) (by omega) (by omega)).mp w; omega
      refine m_gcd _ _ (by omega) (by omega) ⟨h2.m0, hne, ?_⟩
      rintro _ rfl
      refine ⟨hne, ?_⟩
      rintro _ rfl
      rw [gJ_pJ_eq, updL_ne _ _ (by omega), g1, g2, pk_lDiv (by omega) a4 (by omega), pk_lDiv (by omega) a4 (by omega)]
      exact hQ _ ((h2.yJ hT 27 _ (Or.inr (Or.inl rfl))).yJ hT 28 _ (Or.inr (Or.inr rfl)))
  · rw [if_neg c] at hQ; exact hQ M1 h1
theorem r_odds {σ : Sg} {N : Nat} {x y i : Int32} (h : Rg σ N) : Rg (nd σ x y (f_odds σ i)).2 N := nd_r h (fun t m _ _ => by
  unfold f_odds
  split
  · split
    · exact h
    · exact r_uL (r_uL h)
  · exact h)
