/-! PURE, 21: the class's reckoning, whole -/
theorem sm_hi (f : Nat → Int) (e : Int) : ∀ n, sm (fun k => e - f k) n = n * e - sm f n
  | 0 => by simp [sm]
  | n + 1 => by rw [sm, sm_hi f e n, sm, show ((n + 1 : Nat) : Int) = (n : Int) + 1 by omega, Int.add_mul]; omega
theorem sm_lo (f : Nat → Int) (e : Int) : ∀ n, sm (fun k => f k - e) n = sm f n - n * e
  | 0 => by simp [sm]
  | n + 1 => by rw [sm, sm_lo f e n, sm, show ((n + 1 : Nat) : Int) = (n : Int) + 1 by omega, Int.add_mul]; omega
theorem sm_ub {f : Nat → Int} {b : Int} : ∀ {n : Nat}, (∀ k, k < n → f k ≤ b) → sm f n ≤ n * b
  | 0, _ => by simp [sm]
  | n + 1, h => by
    have h1 := sm_ub (f := f) (b := b) (n := n) (fun k hk => h k (by omega))
    have h2 := h n (by omega)
    rw [sm, show ((n + 1 : Nat) : Int) = (n : Int) + 1 by omega, Int.add_mul]; omega
theorem x_rk_139 {Λ : Nat → Nat} {M : Mm} {Q : Int32 → Mm → Prop} {r n ch fr fi e : Nat} {ρ : Nat → Nat} (sh : ChSh Λ M) (rs : RowSh Λ M r) (hch : ch ≤ 10) (hfi : fi + ch ≤ fr + n) (hfr : fr + n ≤ 40) (he : 1 ≤ e ∧ e ≤ 79) (hρ : ∀ k, k < fr + n → 1 ≤ ρ k ∧ ρ k ≤ 79 ∧ gI M (Λ (r + 3)) k = nI (ρ k)) (X : Int32 → Mm → Prop)
    (hQ : ∀ S : Nat, (S : Int) = sm (fun k => ab ((e : Int) - ρ (fi + k))) ch → S ≤ 780 → B_X0_countUpTo_0 X (Λ 10) (some (Λ (r + 3))) (nI fr) (nI (fr + n)) (nI e) (nI ch) (nI S) M)
    (hX : X = (fun r6 M5 => (ok M5 (Λ 10) 0 ∧ (∀ M8, M8 = pI M5 (Λ 10) 1 r6 → (B_X0_choose_0 (fun r10 M9 => (ok M9 (Λ 10) 0 ∧ (∀ M12, M12 = pI M9 (Λ 10) 2 r10 → (B_X0_commonDivisor_0 (fun r14 M13 => ((r14 ≤ (1 : Int32) → Q (1 : Int32) M13) ∧ (¬ r14 ≤ (1 : Int32) → (ok M13 (Λ 10) 0 ∧ (¬ r14 = 0 ∧ (∀ M18, M18 = pI M13 (Λ 10) 1 ((gI M13 (Λ 10) 1) / r14) → (¬ r14 = 0 ∧ (∀ M20, M20 = pI M18 (Λ 10) 2 ((gI M18 (Λ 10) 2) / r14) → Q (1 : Int32) M20)))))))) (gI M12 (Λ 10) 2) (gI M12 (Λ 10) 1) M12)))) (nI n) (nI ch) M8))))) :
    ∀ (d t S : Nat), t + d = ch → (S : Int) = sm (fun k => ab ((e : Int) - ρ (fi + k))) t → S ≤ 78 * t → B_X0_reckon_139 Q (d + 1) (Λ 10) (some (Λ r)) (nI fr) (nI (fr + n)) (nI n) (nI fi) (nI ch) (nI e) (nI S) (nI (fi + t)) M := by
  intro d
  induction d with
  | zero =>
    intro t S hd hS hb
    unfold B_X0_reckon_139
    have et : t = ch := by omega
    subst et
    rw [nI_add]
    refine ⟨fun _ => ⟨Λ r, rfl, rs.1, sh.1, ?_⟩, fun z => absurd (Int32.le_refl _) z⟩
    rw [rs.2.1.2.2.1]
    have := hQ S hS (by omega)
    rw [hX] at this
    exact this
  | succ d ih =>
    intro t S hd hS hb
    unfold B_X0_reckon_139
    have hk := hρ (fi + t) (by omega)
    rw [nI_add]
    refine ⟨fun z => absurd ((nI_leI (by omega) (by omega)).mp z) (by omega), fun _ => ⟨Λ r, rfl, rs.1, Λ (r + 3), rs.2.1.2.2.1, ar_nI (N := 40) (rs.2.2.1 3 (by omega) (by omega)) (rs.2.2.2.1 3 (by omega) (by omega) (by omega)) (by omega) (by omega), ?_⟩⟩
    rw [nI_clamp (by omega), hk.2.2, nI_1, show fi + t + 1 = fi + (t + 1) by omega]
    have ea : nI S + (if 0 ≤ nI e - nI (ρ (fi + t)) then nI e - nI (ρ (fi + t)) else 0 - (nI e - nI (ρ (fi + t)))) = nI (S + (ab ((e : Int) - ρ (fi + t))).toNat) := by
      have hj := jab1 (x := e) (y := ρ (fi + t)) (by omega) (by omega)
      have hab : 0 ≤ ab ((e : Int) - ρ (fi + t)) ∧ ab ((e : Int) - ρ (fi + t)) ≤ 78 := by unfold ab; omega
      rw [eq_I, addI (by rw [hj, nI_toInt (by omega)]; omega) (by rw [hj, nI_toInt (by omega)]; omega), hj, nI_toInt (by omega), nI_toInt (by omega)]; omega
    have hab : 0 ≤ ab ((e : Int) - ρ (fi + t)) ∧ ab ((e : Int) - ρ (fi + t)) ≤ 78 := by unfold ab; omega
    rw [ea]
    refine ih (t + 1) _ (by omega) ?_ (by omega)
    simp only [sm]; omega
theorem x_reckon {Λ : Nat → Nat} {M : Mm} {Q : Int32 → Mm → Prop} {r B p i : Nat} {v : Nat → Int32} (hΛ : inj Λ) (hr : 20 ≤ r) (sh : ChSh Λ M) (rs : RowSh Λ M r) (hv : vOk v) (hB : B ≤ 40) (hp : p ≤ 1000) (rC : RowCut Λ M r v B p) (hi : i + 1 < zS v B p)
    (hN : 20 < oN v B p i → Q 0 M) (hY : oN v B p i ≤ 20 → ∀ M', Ch (rkS Λ) M M' → gI M' (Λ 10) 1 = nI (zW v B p i / Nat.gcd (zW v B p i) (zA v B p i)) → gI M' (Λ 10) 2 = nI (zA v B p i / Nat.gcd (zW v B p i) (zA v B p i)) → Q 1 M') : B_X0_reckon_0 Q (Λ 10) (some (Λ r)) (nI i) M := by
  obtain ⟨ht, hm, hm0, hF1, hmc⟩ := oF_tot (v := v) hB hp hi
  have hmB := mc_le v B
  have hs := zS_le (v := v) hB hp
  have eF2 : zF v B p (i + 2) = zF v B p i + oN v B p i := by unfold oN; have h1 := zF_lt (v := v) hB hp (show i < zS v B p by omega); have h2 := zF_lt (v := v) hB hp hi; have e1 : zF v B p (i + 1 + 1) = zF v B p (i + 2) := rfl; omega
  generalize hn : oN v B p i = n at *
  generalize hmm : oM v B p i = m at *
  have a4 : ∀ k, k ≤ 40 → ar M (Λ (r + 4)) 7 (nI k) := fun k hk => ar_nI (N := 41) (rs.2.2.1 4 (by omega) (by omega)) rs.2.2.2.2 (by omega) (by omega)
  have e2 : nI i + (2 : Int32) = nI (i + 2) := by rw [show (2 : Int32) = nI 2 from rfl, nI_add]
  have f0 := rC.2.2.2.2.1 i (by omega)
  have f1 := rC.2.2.2.2.1 (i + 1) (by omega)
  have f2 := rC.2.2.2.2.1 (i + 2) (by omega)
  generalize hfr : zF v B p i = fr at *
  unfold B_X0_reckon_0
  rw [nI_1, e2]
  refine ⟨Λ r, rfl, rs.1, Λ (r + 4), rs.2.1.2.2.2.1, a4 _ (by omega), a4 _ (by omega), a4 _ (by omega), ?_⟩
  rw [nI_clamp (by omega), nI_clamp (by omega), nI_clamp (by omega), f0, f1, f2, hF1, eF2, pk_sub (by omega), pk_sub (by omega), pk_sub (by omega), show fr + n - fr = n by omega, show fr + (n - m) - fr = n - m by omega, show fr + n - (fr + (n - m)) = m by omega]
  refine ⟨fun c20 => ?_, fun c20 => hN ?_⟩
  · have h20 : n ≤ 20 := (nI_leI (b := 20) (by omega) (by omega)).mp c20
    have hρ : ∀ k, k < fr + n → 1 ≤ rk v B k ∧ rk v B k ≤ 79 ∧ gI M (Λ (r + 3)) k = nI (rk v B k) := fun k hk => by
      have := rk_rng (v := v) (B := B) (k := k) (by omega)
      exact ⟨by omega, by omega, rC.2.2.1 k (by omega)⟩
    -- from the outermost on
    have k116 : ∀ (beh hh : Bool) (ch fi : Nat), ch = (if beh then m else n - m) → fi = (if beh then fr + (n - m) else fr) → ch ≤ 10 → hh = (decide (0 < zZ v B p i) == beh) → B_X0_reckon_116 Q (Λ 10) (some (Λ r)) (nI fr) (nI (fr + n)) (nI n) (nI fi) (nI ch) (bi hh) M := by
      intro beh hh ch fi hc hfi h10 hhi
      have hchn : ch ≤ n := by rw [hc]; split <;> omega
      have hfc : fi + ch ≤ fr + n := by rw [hc, hfi]; split <;> omega
      refine ⟨Λ r, rfl, rs.1, ?_⟩
      rw [rs.2.1.2.2.1]
      refine x_outermost (ρ := rk v B) (rs.2.2.1 3 (by omega) (by omega)) (rs.2.2.2.1 3 (by omega) (by omega) (by omega)) (by omega) (by omega) (fun k hk => ⟨by have := hρ k hk; omega, (hρ k hk).2.2⟩) (fun e he h1 h2 => ?_)
      obtain ⟨ke, hk1, hk2, hke⟩ := he
      have hee := hρ ke hk2
      refine ⟨ch + 1, x_rk_139 (ρ := rk v B) sh rs h10 hfc (by omega) (by omega) hρ _ (fun S hS hSb => ?_) rfl ch 0 0 (by omega) (by simp [sm]) (by omega)⟩
      have hg : ∀ k, k < n → ((ab ((e : Int) - rk v B (fr + k))).toNat : Int) = ab ((e : Int) - rk v B (fr + k)) := fun k hk => by unfold ab; omega
      have hord : ∀ k, fr ≤ k → k < fr + n → ab ((e : Int) - rk v B k) = if hh then (e : Int) - rk v B k else (rk v B k : Int) - e := fun k q1 q2 => by
        cases hh with
        | true => have := h1 rfl k q1 q2; simp only [if_true]; unfold ab; omega
        | false => have := h2 rfl k q1 q2; simp only [Bool.false_eq_true, if_false]; unfold ab; omega
      have hW : rowS (cw (fun k => (ab ((e : Int) - rk v B (fr + k))).toNat) n ch) (fun _ => true) (S + 1) = zW v B p i := by
        rw [rowS_up]
        have hside := zW_side (v := v) (B := B) (p := p) (i := i) (ch := ch) (beh := beh) (hi := hh) (e := (e : Int)) (S := (S : Int)) (g := fun k => (ab ((e : Int) - rk v B (fr + k))).toNat) hB hp hi (by rw [hn, hmm]; exact hc) hhi (fun k hk => by
            rw [hn] at hk
            rw [hg k hk, hord (fr + k) (by omega) (by omega)]
            unfold oR; rw [hfr]) (by
            rw [hS, hn, hmm]
            have hcong : sm (fun k => ab ((e : Int) - rk v B (fi + k))) ch = sm (fun k => if hh then (e : Int) - rk v B (fi + k) else (rk v B (fi + k) : Int) - e) ch := sm_congr (fun k hk => hord (fi + k) (by rw [hfi]; split <;> omega) (by omega))
            rw [hcong]
            have hFc : (if beh = true then oF v B p i else sm (oR v B p i) (n - m)) = sm (fun k => ((rk v B (fi + k) : Nat) : Int)) ch := by
              cases beh with
              | true => simp only [if_true] at hc hfi ⊢; unfold oF; rw [hmm, hF1, hc, hfi]
              | false => simp only [Bool.false_eq_true, if_false] at hc hfi ⊢; unfold oR; rw [hfr, hc, hfi]
            rw [hFc]
            cases hh with
            | true => simp only [if_true]; exact sm_hi _ _ _
            | false => simp only [Bool.false_eq_true, if_false]; exact sm_lo _ _ _)
        rw [hn] at hside
        exact hside
      have hA : bin n ch = zA v B p i := by
        unfold zA; rw [hn, hmm, hc]
        cases beh with
        | true => rfl
        | false => simp only [Bool.false_eq_true, if_false]; exact (bin_sym (fun _ => 0) (by omega)).symm
      have hWA : zW v B p i ≤ bin n ch := by rw [hA]; exact nc_le _ _ _ _
      refine x_rk_end (g := fun k => (ab ((e : Int) - rk v B (fr + k))).toNat) (ρ := rk v B) (W := zW v B p i) hΛ hr sh rs h20 h10 hchn hSb (by omega) (by omega) (fun k hk => ⟨by have := hρ k hk; omega, (hρ k hk).2.2⟩) hg hW hWA (fun M' c' g1 g2 => ?_)
      rw [hA] at g1 g2
      exact hY h20 M' c' g1 g2
    have k91 : ∀ (beh : Bool) (ch fi : Nat), ch = (if beh then m else n - m) → fi = (if beh then fr + (n - m) else fr) → ch ≤ 10 → B_X0_reckon_91 Q (Λ 10) (some (Λ r)) (nI i) (nI fr) (nI (fr + n)) (nI n) (bi beh) (nI fi) (nI ch) M := by
      intro beh ch fi h1 h2 h3
      refine ⟨Λ r, rfl, rs.1, x_stepSize (μ := zM v B p) rs hs.2 rC.2.2.2.2.2.1 hi (fun x hx => ?_)⟩
      have hx' : x.toInt = zZ v B p i := hx
      have z0 : (0 : Int32).toInt = 0 := rfl
      rw [le_I, hx', z0]
      have go : ∀ u : Bool, u = decide (0 < zZ v B p i) → B_X0_reckon_106 Q (Λ 10) (some (Λ r)) (nI fr) (nI (fr + n)) (nI n) (bi beh) (nI fi) (nI ch) (bi u) M := by
        intro u hu
        refine ⟨fun c => ?_, fun c => ?_⟩
        · exact k116 beh false ch fi h1 h2 h3 (by rw [← hu]; cases u <;> cases beh <;> simp_all)
        · exact k116 beh true ch fi h1 h2 h3 (by rw [← hu]; cases u <;> cases beh <;> simp_all [bi])
      exact ⟨fun c => go false (by rw [decide_eq_false (by omega)]), fun c => go true (by rw [decide_eq_true (by omega)])⟩
    refine ⟨fun c => ⟨fun _ => ⟨fun _ => ?_, fun z => absurd rfl z⟩, fun z => absurd rfl z⟩, fun c => ⟨fun z => absurd z (by decide), fun _ => ⟨fun z => absurd z (by decide), fun _ => ?_⟩⟩⟩
    · have := (nI_ltI (by omega) (by omega)).mp c
      rw [pk_sub (by omega), show fr + (n - m) - fr = n - m by omega]
      exact k91 false (n - m) fr rfl rfl (by omega)
    · have : ¬ n - m < m := fun z => c ((nI_ltI (by omega) (by omega)).mpr z)
      rw [pk_sub (by omega), show fr + n - (fr + (n - m)) = m by omega]
      exact k91 true m (fr + (n - m)) rfl rfl (by omega)
  · have : ¬ n ≤ 20 := fun z => c20 ((nI_leI (b := 20) (by omega) (by omega)).mpr z)
    omega
