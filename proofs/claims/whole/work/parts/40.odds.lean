/-! PURE, 20: odds, said once; the class's reckoning -/
def oN (v : Nat → Int32) (B p i : Nat) : Nat := zF v B p (i + 2) - zF v B p i
def oM (v : Nat → Int32) (B p i : Nat) : Nat := zF v B p (i + 2) - zF v B p (i + 1)
def oR (v : Nat → Int32) (B p i : Nat) : Nat → Int := fun k => ((rk v B (zF v B p i + k) : Nat) : Int)
def oF (v : Nat → Int32) (B p i : Nat) : Int := sm (fun k => ((rk v B (zF v B p (i + 1) + k) : Nat) : Int)) (oM v B p i)
/-- how many choices look as bad as the step at cut i -/
def zW (v : Nat → Int32) (B p i : Nat) : Nat := nc (oR v B p i) (oN v B p i) (oM v B p i) (fun s => if 0 < zZ v B p i then decide (oF v B p i ≤ s) else decide (s ≤ oF v B p i))
def zA (v : Nat → Int32) (B p i : Nat) : Nat := bin (oN v B p i) (oM v B p i)
theorem sm_split (f : Nat → Int) (a : Nat) : ∀ b, sm f (a + b) = sm f a + sm (fun k => f (a + k)) b
  | 0 => by simp [sm]
  | b + 1 => by rw [show a + (b + 1) = (a + b) + 1 by omega, sm, sm_split f a b, sm]; omega
theorem oF_tot {v : Nat → Int32} {B p i : Nat} (hB : B ≤ 40) (hp : p ≤ 1000) (hi : i + 1 < zS v B p) : sm (oR v B p i) (oN v B p i) = sm (oR v B p i) (oN v B p i - oM v B p i) + oF v B p i ∧ oM v B p i < oN v B p i ∧ 0 < oM v B p i ∧ zF v B p (i + 1) = zF v B p i + (oN v B p i - oM v B p i) ∧ zF v B p i + oN v B p i ≤ mc v B := by
  have h1 := zF_lt (v := v) hB hp (show i < zS v B p by omega)
  have h2 := zF_lt (v := v) hB hp hi
  have e1 : zF v B p (i + 1 + 1) = zF v B p (i + 2) := rfl
  have hm : oM v B p i < oN v B p i := by unfold oM oN; omega
  refine ⟨?_, hm, by unfold oM; omega, by unfold oM oN; omega, by unfold oN; omega⟩
  have := sm_split (oR v B p i) (oN v B p i - oM v B p i) (oM v B p i)
  rw [show oN v B p i - oM v B p i + oM v B p i = oN v B p i by omega] at this
  rw [this]
  congr 1
  refine sm_congr (fun k hk => ?_)
  unfold oR
  rw [show zF v B p i + (oN v B p i - oM v B p i + k) = zF v B p (i + 1) + k by unfold oM oN at *; omega]
/-- the same count from either side, by the ways to the outermost -/
theorem zW_side {v : Nat → Int32} {B p i ch : Nat} {beh hi : Bool} {e : Int} {S : Int} {g : Nat → Nat} (hB : B ≤ 40) (hp : p ≤ 1000) (hi1 : i + 1 < zS v B p) (hc : ch = if beh then oM v B p i else oN v B p i - oM v B p i) (hh : hi = (decide (0 < zZ v B p i) == beh))
    (hg : ∀ k, k < oN v B p i → (g k : Int) = if hi then e - oR v B p i k else oR v B p i k - e)
    (hS : S = if hi then ch * e - (if beh then oF v B p i else sm (oR v B p i) (oN v B p i - oM v B p i)) else (if beh then oF v B p i else sm (oR v B p i) (oN v B p i - oM v B p i)) - ch * e) :
    nc (fun k => (g k : Int)) (oN v B p i) ch (fun s => decide (s ≤ S)) = zW v B p i := by
  obtain ⟨ht, hm, -, -, -⟩ := oF_tot hB hp hi1
  have dec : ∀ {P R : Prop} [Decidable P] [Decidable R], (P ↔ R) → decide P = decide R := fun h => by simp [h]
  have hW : zW v B p i = nc (oR v B p i) (oN v B p i) ch (fun s => if hi then decide ((if beh then oF v B p i else sm (oR v B p i) (oN v B p i - oM v B p i)) ≤ s) else decide (s ≤ (if beh then oF v B p i else sm (oR v B p i) (oN v B p i - oM v B p i)))) := by
    unfold zW
    cases beh with
    | true =>
      simp only [if_true] at hc ⊢
      rw [hc]
      refine nc_congr _ _ (fun s => ?_)
      by_cases u : 0 < zZ v B p i
      · have : hi = true := by rw [hh]; simp [u]
        simp [u, this]
      · have : hi = false := by rw [hh]; simp [u]
        simp [u, this]
    | false =>
      simp only [Bool.false_eq_true, if_false] at hc ⊢
      rw [nc_comp _ _ _ _ (Nat.le_of_lt hm), hc]
      refine nc_congr _ _ (fun s => ?_)
      by_cases u : 0 < zZ v B p i
      · have : hi = false := by rw [hh]; simp [u]
        simp only [u, this, if_true, Bool.false_eq_true, if_false]
        exact dec (by omega)
      · have : hi = true := by rw [hh]; simp [u]
        simp only [u, this, if_true, if_false]
        exact dec (by omega)
  rw [hW]
  cases hi with
  | true =>
    simp only [if_true] at hg hS ⊢
    rw [nc_hi (oR v B p i) (fun k => (g k : Int)) e _ _ _ (fun k hk => hg k hk)]
    exact nc_congr _ _ (fun s => dec (by omega))
  | false =>
    simp only [Bool.false_eq_true, if_false] at hg hS ⊢
    rw [nc_lo (oR v B p i) (fun k => (g k : Int)) e _ _ _ (fun k hk => hg k hk)]
    exact nc_congr _ _ (fun s => dec (by omega))
theorem rowS_up (g : Nat → Nat) (k c S : Nat) : rowS (cw g k c) (fun _ => true) (S + 1) = nc (fun i => (g i : Int)) k c (fun s => decide (s ≤ (S : Int))) := by
  rw [rowS_nc]
  refine nc_on g (sm (fun i => (g i : Int)) k).toNat k c _ _ (fun i hi => ?_) (fun x h1 _ => ?_)
  · have h2 : ∀ n, n ≤ k → i < n → (g i : Int) ≤ sm (fun i => (g i : Int)) n := by
      intro n
      induction n with
      | zero => intro _ h; exact absurd h (by omega)
      | succ n ih =>
        intro hn hin
        have hnn := sm_nn (f := fun i => (g i : Int)) (n := n) (fun j _ => by omega)
        simp only [sm]
        by_cases e : i = n
        · rw [e]; omega
        · have := ih (by omega) (by omega); omega
    have := h2 k (Nat.le_refl k) hi
    omega
  · by_cases c : x ≤ (S : Int)
    · rw [decide_eq_true c, decide_eq_true (by omega)]; rfl
    · rw [decide_eq_false c, decide_eq_false (by omega)]; rfl
def rkS (Λ : Nat → Nat) (b : Nat) : Prop := b = Λ 10 ∨ b = Λ 11
theorem x_rk_end {Λ : Nat → Nat} {M : Mm} {Q : Int32 → Mm → Prop} {r n ch fr sm e : Nat} {g ρ : Nat → Nat} {W : Nat} (hΛ : inj Λ) (hr : 20 ≤ r) (sh : ChSh Λ M) (rs : RowSh Λ M r) (hn : n ≤ 20) (hch : ch ≤ 10) (hcn : ch ≤ n) (hsm : sm ≤ 780) (hfr : fr + n ≤ 40) (he : e ≤ 80) (hρ : ∀ k, k < fr + n → ρ k ≤ 80 ∧ gI M (Λ (r + 3)) k = nI (ρ k)) (hg : ∀ k, k < n → (g k : Int) = ab ((e : Int) - ρ (fr + k))) (hW : rowS (cw g n ch) (fun _ => true) (sm + 1) = W) (hWA : W ≤ bin n ch)
    (hQ : ∀ M', Ch (rkS Λ) M M' → gI M' (Λ 10) 1 = nI (W / Nat.gcd W (bin n ch)) → gI M' (Λ 10) 2 = nI (bin n ch / Nat.gcd W (bin n ch)) → Q 1 M') :
    B_X0_countUpTo_0 (fun r6 M5 => (ok M5 (Λ 10) 0 ∧ (∀ M8, M8 = pI M5 (Λ 10) 1 r6 → (B_X0_choose_0 (fun r10 M9 => (ok M9 (Λ 10) 0 ∧ (∀ M12, M12 = pI M9 (Λ 10) 2 r10 → (B_X0_commonDivisor_0 (fun r14 M13 => ((r14 ≤ (1 : Int32) → Q (1 : Int32) M13) ∧ (¬ r14 ≤ (1 : Int32) → (ok M13 (Λ 10) 0 ∧ (¬ r14 = 0 ∧ (∀ M18, M18 = pI M13 (Λ 10) 1 ((gI M13 (Λ 10) 1) / r14) → (¬ r14 = 0 ∧ (∀ M20, M20 = pI M18 (Λ 10) 2 ((gI M18 (Λ 10) 2) / r14) → Q (1 : Int32) M20)))))))) (gI M12 (Λ 10) 2) (gI M12 (Λ 10) 1) M12)))) (nI n) (nI ch) M8)))) (Λ 10) (some (Λ (r + 3))) (nI fr) (nI (fr + n)) (nI e) (nI ch) (nI sm) M := by
  refine x_countUpTo (g := g) (ρ := ρ) hΛ (by omega) sh (rs.2.2.1 3 (by omega) (by omega)) (rs.2.2.2.1 3 (by omega) (by omega) (by omega)) hch hsm hfr he hρ hg (fun M5 c5 => ⟨(sh.ch c5).1, ?_⟩)
  rintro _ rfl
  rw [hW]
  have C5 : Ch (rkS Λ) M M5 := c5.mono (fun b hb => Or.inr hb)
  have C8 : Ch (rkS Λ) M (pI M5 (Λ 10) 1 (nI W)) := C5.step (Or.inl rfl)
  refine x_choose hn hch hcn ⟨(sh.ch C8).1, ?_⟩
  rintro _ rfl
  have C12 : Ch (rkS Λ) M (pI (pI M5 (Λ 10) 1 (nI W)) (Λ 10) 2 (nI (bin n ch))) := C8.step (Or.inl rfl)
  have f1 : gI (pI (pI M5 (Λ 10) 1 (nI W)) (Λ 10) 2 (nI (bin n ch))) (Λ 10) 1 = nI W := by rw [gI_pI_eq, upd_ne _ _ (by omega), gI_pI_eq, upd_eq]
  have f2 : gI (pI (pI M5 (Λ 10) 1 (nI W)) (Λ 10) 2 (nI (bin n ch))) (Λ 10) 2 = nI (bin n ch) := by rw [gI_pI_eq, upd_eq]
  rw [f1, f2]
  generalize pI (pI M5 (Λ 10) 1 (nI W)) (Λ 10) 2 (nI (bin n ch)) = M12 at *
  have hA := bin_20 n (by omega) ch (by omega)
  have hA0 := bin_pos n (by omega) ch hcn
  have hgp : 0 < Nat.gcd W (bin n ch) := Nat.gcd_pos_of_pos_right W hA0
  have hgle : Nat.gcd W (bin n ch) ≤ bin n ch := Nat.gcd_le_right W hA0
  refine x_cd 18 (bin n ch) W 0 hWA (by omega) (by omega) (by omega) ?_
  rw [Nat.gcd_comm]
  refine ⟨fun c => ?_, fun c => ⟨(sh.ch C12).1, nI_ne0 hgp (by omega), ?_⟩⟩
  · have h1 : Nat.gcd W (bin n ch) = 1 := by have := (nI_leI (b := 1) (by omega) (by omega)).mp c; omega
    rw [h1, Nat.div_one, Nat.div_one] at hQ
    exact hQ M12 C12 f1 f2
  · rintro _ rfl
    rw [f1, pk_div (by omega) hgp (by omega)]
    refine ⟨nI_ne0 hgp (by omega), ?_⟩
    rintro _ rfl
    rw [gI_pI_eq, upd_ne _ _ (by omega), f2, pk_div (by omega) hgp (by omega)]
    refine hQ _ ((C12.step (Or.inl rfl)).step (Or.inl rfl)) ?_ ?_
    · rw [gI_pI_eq, upd_ne _ _ (by omega), gI_pI_eq, upd_eq]
    · rw [gI_pI_eq, upd_eq]
