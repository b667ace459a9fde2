/-! PURE, 19: the class reckons odds -/
theorem x_out_10 {Λ : Nat → Nat} {Q : Int32 → Mm → Prop} {a fr n : Nat} {M : Mm} {ρ : Nat → Nat} {hi : Bool} (oa : ok M (Λ a) 7) (la : gN M (Λ a) = 40) (hn : fr + n ≤ 40) (hρ : ∀ k, k < fr + n → ρ k ≤ 80 ∧ gI M (Λ a) k = nI (ρ k))
    (hQ : ∀ e, (∃ k, fr ≤ k ∧ k < fr + n ∧ e = ρ k) → (hi = true → ∀ k, fr ≤ k → k < fr + n → ρ k ≤ e) → (hi = false → ∀ k, fr ≤ k → k < fr + n → e ≤ ρ k) → Q (nI e) M) :
    ∀ (d k e : Nat), k + d = n → 0 < k → (∃ j, fr ≤ j ∧ j < fr + k ∧ e = ρ j) → (hi = true → ∀ j, fr ≤ j → j < fr + k → ρ j ≤ e) → (hi = false → ∀ j, fr ≤ j → j < fr + k → e ≤ ρ j) → B_X0_outermost_10 Q (d + 1) (some (Λ a)) (nI (fr + n)) (bi hi) (nI e) (nI (fr + k)) M := by
  intro d
  induction d with
  | zero =>
    intro k e hd hk h1 h2 h3
    unfold B_X0_outermost_10
    have ek : k = n := by omega
    subst ek
    exact ⟨fun _ => hQ e h1 h2 h3, fun z => absurd (Int32.le_refl _) z⟩
  | succ d ih =>
    intro k e hd hk h1 h2 h3
    unfold B_X0_outermost_10
    have hr := hρ (fr + k) (by omega)
    obtain ⟨j, hj1, hj2, hj3⟩ := h1
    have hrj := hρ j (by omega)
    have aa := ar_nI (N := 40) (k := fr + k) oa la (by omega) (by omega)
    have key : ∀ e' : Nat, (e' = e ∨ e' = ρ (fr + k)) → (hi = true → e ≤ e' ∧ ρ (fr + k) ≤ e') → (hi = false → e' ≤ e ∧ e' ≤ ρ (fr + k)) → B_X0_outermost_10 Q (d + 1) (some (Λ a)) (nI (fr + n)) (bi hi) (nI e') (nI (fr + k) + 1) M := by
      intro e' q1 q2 q3
      rw [nI_1, show fr + k + 1 = fr + (k + 1) by omega]
      refine ih (k + 1) e' (by omega) (by omega) ?_ (fun hh i h1 h4 => ?_) (fun hh i h1 h4 => ?_)
      · rcases q1 with q | q
        · exact ⟨j, hj1, by omega, by omega⟩
        · exact ⟨fr + k, by omega, by omega, q⟩
      · have := q2 hh
        by_cases ei : i = fr + k
        · rw [ei]; omega
        · have := h2 hh i h1 (by omega); omega
      · have := q3 hh
        by_cases ei : i = fr + k
        · rw [ei]; omega
        · have := h3 hh i h1 (by omega); omega
    refine ⟨fun z => absurd ((nI_leI (by omega) (by omega)).mp z) (by omega), fun _ => ⟨fun c => ⟨Λ a, rfl, aa, ?_⟩, fun c => ⟨Λ a, rfl, aa, ?_⟩⟩⟩
    · rw [nI_clamp (by omega), hr.2]
      have hh := bi0.mp c
      by_cases q : ρ (fr + k) < e
      · rw [if_pos ((nI_ltI (by omega) (by omega)).mpr q)]
        exact key _ (Or.inr rfl) (fun w => by rw [hh] at w; simp at w) (fun _ => by omega)
      · rw [if_neg (fun w => q ((nI_ltI (by omega) (by omega)).mp w))]
        exact key _ (Or.inl rfl) (fun w => by rw [hh] at w; simp at w) (fun _ => by omega)
    · rw [nI_clamp (by omega), hr.2]
      have hh := bi1.mp c
      by_cases q : e < ρ (fr + k)
      · rw [if_pos ((nI_ltI (by omega) (by omega)).mpr q)]
        exact key _ (Or.inr rfl) (fun _ => by omega) (fun w => by rw [hh] at w; simp at w)
      · rw [if_neg (fun w => q ((nI_ltI (by omega) (by omega)).mp w))]
        exact key _ (Or.inl rfl) (fun _ => by omega) (fun w => by rw [hh] at w; simp at w)
theorem x_outermost {Λ : Nat → Nat} {Q : Int32 → Mm → Prop} {a fr n : Nat} {M : Mm} {ρ : Nat → Nat} {hi : Bool} (oa : ok M (Λ a) 7) (la : gN M (Λ a) = 40) (hn : fr + n ≤ 40) (h0 : 0 < n) (hρ : ∀ k, k < fr + n → ρ k ≤ 80 ∧ gI M (Λ a) k = nI (ρ k))
    (hQ : ∀ e, (∃ k, fr ≤ k ∧ k < fr + n ∧ e = ρ k) → (hi = true → ∀ k, fr ≤ k → k < fr + n → ρ k ≤ e) → (hi = false → ∀ k, fr ≤ k → k < fr + n → e ≤ ρ k) → Q (nI e) M) : B_X0_outermost_0 Q (some (Λ a)) (nI fr) (nI (fr + n)) (bi hi) M := by
  refine ⟨Λ a, rfl, ar_nI (N := 40) oa la (by omega) (by omega), n - 1 + 1, ?_⟩
  rw [nI_clamp (by omega), (hρ fr (by omega)).2, nI_1]
  exact x_out_10 oa la hn hρ hQ (n - 1) 1 (ρ fr) (by omega) (by omega) ⟨fr, by omega, by omega, rfl⟩ (fun _ j h1 h2 => by rw [show j = fr by omega]; omega) (fun _ j h1 h2 => by rw [show j = fr by omega]; omega)
def chS (n c : Nat) : Nat → Nat
  | 0 => 1
  | k + 1 => chS n c k * (n - c + (k + 1)) / (k + 1)
theorem chS_bin : ∀ n, n < 21 → ∀ c, c < 11 → c ≤ n → chS n c c = bin n c := by decide +kernel
theorem chS_b : ∀ n, n < 21 → ∀ c, c < 11 → ∀ k, k < 11 → chS n c k * (n - c + (k + 1)) < 2 ^ 31 := by decide +kernel
theorem x_choose {Q : Int32 → Mm → Prop} {n c : Nat} {M : Mm} (hn : n ≤ 20) (hc : c ≤ 10) (hcn : c ≤ n) (hQ : Q (nI (bin n c)) M) : B_X0_choose_0 Q (nI n) (nI c) M := by
  have key : ∀ (d k : Nat), k + d = c → B_X0_choose_4 Q (d + 1) (nI n) (nI c) (nI (chS n c k)) (nI (k + 1)) M := by
    intro d
    induction d with
    | zero =>
      intro k hk
      unfold B_X0_choose_4
      have e : k = c := by omega
      subst e
      refine ⟨fun _ => by rw [chS_bin n (by omega) k (by omega) hcn]; exact hQ, fun z => absurd ((nI_ltI (by omega) (by omega)).mpr (by omega)) z⟩
    | succ d ih =>
      intro k hk
      unfold B_X0_choose_4
      have hb := chS_b n (by omega) c (by omega) k (by omega)
      refine ⟨fun z => absurd ((nI_ltI (by omega) (by omega)).mp z) (by omega), fun _ => ⟨nI_ne0 (by omega) (by omega), ?_⟩⟩
      rw [pk_sub (by omega), nI_add, pk_mul, pk_div hb (by omega) (by omega), nI_1]
      exact ih (k + 1) (by omega)
  exact ⟨c + 1, key c 0 (by omega)⟩
theorem x_cd {Q : Int32 → Mm → Prop} {M : Mm} : ∀ (j x y t : Nat), y ≤ x → x < 2 ^ j → j ≤ 30 → t + 2 * j ≤ 63 → Q (nI (Nat.gcd x y)) M → ∃ n, B_X0_commonDivisor_7 Q n (nI x) (nI y) (nI t) M := by
  intro j
  induction j with
  | zero =>
    intro x y t hy hx hj ht hQ
    have ey : y = 0 := by omega
    subst ey
    rw [Nat.gcd_zero_right] at hQ
    exact ⟨1, fun _ => hQ, fun _ => ⟨fun _ => hQ, fun c => absurd rfl c⟩⟩
  | succ j ih =>
    intro x y t hy hx hj ht hQ
    have h31 : x < 2 ^ 31 := Nat.lt_of_lt_of_le hx (Nat.pow_le_pow_right (by omega) (by omega))
    have n64 : ∀ t, t ≤ 63 → ¬ (64 : Int32) ≤ nI t := fun t ht z => by
      have := (nI_leI (a := 64) (b := t) (by omega) (by omega)).mp z; omega
    by_cases e : y = 0
    · subst e
      rw [Nat.gcd_zero_right] at hQ
      exact ⟨1, fun z => absurd z (n64 t (by omega)), fun _ => ⟨fun _ => hQ, fun c => absurd rfl c⟩⟩
    · have hne := nI_ne0 (n := y) (by omega) (by omega)
      have hr : nI x - nI x / nI y * nI y = nI (x % y) := pk_rem h31 (by omega) (by omega)
      have hlt : x % y < y := Nat.mod_lt x (by omega)
      have hg : Nat.gcd x y = Nat.gcd y (x % y) := by rw [Nat.gcd_comm x y, Nat.gcd_rec y x, Nat.gcd_comm]
      by_cases e2 : x % y = 0
      · rw [hg, e2, Nat.gcd_zero_right] at hQ
        refine ⟨2, fun z => absurd z (n64 t (by omega)), fun _ => ⟨fun c => absurd c hne, fun _ => ⟨hne, ?_⟩⟩⟩
        rw [hr, e2, nI_1]
        exact ⟨fun z => absurd z (n64 (t + 1) (by omega)), fun _ => ⟨fun _ => hQ, fun c => absurd rfl c⟩⟩
      · have hne2 := nI_ne0 (n := x % y) (by omega) (by omega)
        have hr2 : nI y - nI y / nI (x % y) * nI (x % y) = nI (y % (x % y)) := pk_rem (by omega) (by omega) (by omega)
        have hlt2 : y % (x % y) < x % y := Nat.mod_lt y (by omega)
        have hg2 : Nat.gcd y (x % y) = Nat.gcd (x % y) (y % (x % y)) := by rw [Nat.gcd_comm y (x % y), Nat.gcd_rec (x % y) y, Nat.gcd_comm]
        have hhalf : x % y < 2 ^ j := by
          have h1 := Nat.div_add_mod x y
          have h2 : 1 ≤ x / y := Nat.div_pos hy (by omega)
          have h3 : y * 1 ≤ y * (x / y) := Nat.mul_le_mul_left y h2
          rw [Nat.pow_succ] at hx
          omega
        obtain ⟨n, hn⟩ := ih (x % y) (y % (x % y)) (t + 1 + 1) (by omega) hhalf (by omega) (by omega) (by rw [← hg2, ← hg]; exact hQ)
        refine ⟨n + 2, fun z => absurd z (n64 t (by omega)), fun _ => ⟨fun c => absurd c hne, fun _ => ⟨hne, ?_⟩⟩⟩
        rw [hr, nI_1]
        refine ⟨fun z => absurd z (n64 (t + 1) (by omega)), fun _ => ⟨fun c => absurd c hne2, fun _ => ⟨hne2, ?_⟩⟩⟩
        rw [hr2, nI_1]
        exact hn
