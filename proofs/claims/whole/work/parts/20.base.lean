/-! PURE, 1: numbers, memory, the layout -/
theorem lt_I {x y : Int32} : x < y ↔ x.toInt < y.toInt := Int32.lt_iff_toInt_lt
theorem le_I {x y : Int32} : x ≤ y ↔ x.toInt ≤ y.toInt := Int32.le_iff_toInt_le
theorem eq_I {x y : Int32} : x = y ↔ x.toInt = y.toInt := Int32.toInt_inj.symm
theorem rngI (x : Int32) : -2147483648 ≤ x.toInt ∧ x.toInt < 2147483648 := ⟨x.minValue_le_toInt, by have := x.toInt_lt; omega⟩
theorem bmodI {z : Int} (h1 : -2147483648 ≤ z) (h2 : z < 2147483648) : z.bmod (2 ^ 32) = z := Int.bmod_eq_of_le (by omega) (by omega)
theorem addI {x y : Int32} (h1 : -2147483648 ≤ x.toInt + y.toInt) (h2 : x.toInt + y.toInt < 2147483648) : (x + y).toInt = x.toInt + y.toInt := by
  rw [Int32.toInt_add]; exact bmodI h1 h2
theorem subI {x y : Int32} (h1 : -2147483648 ≤ x.toInt - y.toInt) (h2 : x.toInt - y.toInt < 2147483648) : (x - y).toInt = x.toInt - y.toInt := by
  rw [Int32.toInt_sub]; exact bmodI h1 h2
theorem mulI {x y : Int32} (h1 : -2147483648 ≤ x.toInt * y.toInt) (h2 : x.toInt * y.toInt < 2147483648) : (x * y).toInt = x.toInt * y.toInt := by
  rw [Int32.toInt_mul]; exact bmodI h1 h2
theorem negI {x : Int32} (h : x.toInt ≠ -2147483648) : (-x).toInt = -x.toInt := by
  rw [Int32.toInt_neg]; have := rngI x; exact bmodI (by omega) (by omega)
theorem lit (n : Nat) : (OfNat.ofNat n : Int32) = nI n := rfl
theorem nI_toNat {x : Int32} (h : ¬ x < 0) : x = nI x.toInt.toNat := by
  have h0 : (0 : Int) ≤ x.toInt := by have := Int32.not_lt.mp h; rw [le_I] at this; exact this
  have h1 := rngI x
  rw [eq_I, nI_toInt (by omega)]; omega
theorem ar_nI {M : Mm} {a kd N k : Nat} (h : ok M a kd) (hN : gN M a = N) (hk : k < N) (hb : N < 2 ^ 31) : ar M a kd (nI k) := ⟨h, by rw [hN]; exact vp_in_nI hk hb⟩
theorem gI_pI_ne {M : Mm} {a k b : Nat} {v : Int32} (h : b ≠ a) : gI (pI M a k v) b = gI M b := by
  funext j; rw [gI_pI, if_neg (fun z => h z.1)]
theorem gI_pI_eq {M : Mm} {a k : Nat} {v : Int32} : gI (pI M a k v) a = upd (gI M a) k v := by
  funext j; rw [gI_pI]; unfold upd; simp
theorem upd_eq (f : Nat → Int32) (k : Nat) (v : Int32) : upd f k v k = v := by simp [upd]
theorem upd_ne (f : Nat → Int32) {k j : Nat} (v : Int32) (h : j ≠ k) : upd f k v j = f j := by simp [upd, h]
/-- only ints have changed, and only in cells of S -/
def Ch (S : Nat → Prop) (M M' : Mm) : Prop := M'.2 = M.2 ∧ ∀ b, ¬ S b → gI M' b = gI M b
theorem Ch.refl (S : Nat → Prop) (M : Mm) : Ch S M M := ⟨rfl, fun _ _ => rfl⟩
theorem Ch.trans {S : Nat → Prop} {M M1 M2 : Mm} (h : Ch S M M1) (h2 : Ch S M1 M2) : Ch S M M2 := ⟨h2.1.trans h.1, fun b hb => (h2.2 b hb).trans (h.2 b hb)⟩
theorem Ch.mono {S T : Nat → Prop} {M M' : Mm} (h : Ch S M M') (hs : ∀ b, S b → T b) : Ch T M M' := ⟨h.1, fun b hb => h.2 b (fun z => hb (hs b z))⟩
theorem Ch.put {S : Nat → Prop} {M : Mm} {a k : Nat} {v : Int32} (h : S a) : Ch S M (pI M a k v) := ⟨rfl, fun b hb => gI_pI_ne (fun e => hb (by rw [e]; exact h))⟩
theorem Ch.step {S : Nat → Prop} {M M1 : Mm} {a k : Nat} {v : Int32} (h : Ch S M M1) (ha : S a) : Ch S M (pI M1 a k v) := h.trans (Ch.put ha)
theorem Ch.R {S : Nat → Prop} {M M' : Mm} (h : Ch S M M') : gR M' = gR M := by unfold gR; rw [h.1]
theorem Ch.J {S : Nat → Prop} {M M' : Mm} (h : Ch S M M') : gJ M' = gJ M := by unfold gJ; rw [h.1]
theorem Ch.K {S : Nat → Prop} {M M' : Mm} (h : Ch S M M') : gK M' = gK M := by unfold gK; rw [h.1]
theorem Ch.N {S : Nat → Prop} {M M' : Mm} (h : Ch S M M') : gN M' = gN M := by unfold gN; rw [h.1]
theorem Ch.L {S : Nat → Prop} {M M' : Mm} (h : Ch S M M') : gL M' = gL M := by unfold gL; rw [h.1]
theorem Ch.okk {S : Nat → Prop} {M M' : Mm} (h : Ch S M M') {a k : Nat} : ok M' a k ↔ ok M a k := by unfold ok; rw [h.L, h.K]
-- a fill of a row
theorem x_fill_5 {Q : Mm → Prop} {a N : Nat} {v : Int32} {M : Mm} (hN : N < 2 ^ 31) (ha : ok M a 7) (hl : gN M a = N) (hQ : ∀ M', Ch (fun b => b = a) M M' → (∀ j, j < N → gI M' a j = v) → (∀ j, N ≤ j → gI M' a j = gI M a j) → Q M') :
    ∀ (d k : Nat) (M1 : Mm), k + d = N → Ch (fun b => b = a) M M1 → (∀ j, j < k → gI M1 a j = v) → (∀ j, k ≤ j → gI M1 a j = gI M a j) → B_J7_fill_53178_5 Q (d + 1) (some a) v (nI k) (nI N) M1 := by
  intro d
  induction d with
  | zero =>
    intro k M1 hk hc h1 h2
    unfold B_J7_fill_53178_5
    have e : k = N := by omega
    subst e
    exact ⟨fun _ => hQ M1 hc h1 h2, fun c => absurd (Int32.le_refl _) c⟩
  | succ d ih =>
    intro k M1 hk hc h1 h2
    unfold B_J7_fill_53178_5
    refine ⟨fun c => absurd ((nI_leI (by omega) (by omega)).mp c) (by omega), fun _ => ⟨a, rfl, ar_nI (hc.okk.mpr ha) (by rw [hc.N]; exact hl) (by omega) hN, ?_⟩⟩
    rintro _ rfl
    rw [nI_clamp (by omega), nI_1]
    refine ih (k + 1) _ (by omega) (hc.step rfl) ?_ ?_
    · intro j hj
      rw [gI_pI_eq]
      by_cases e : j = k
      · rw [e, upd_eq]
      · rw [upd_ne _ _ e]; exact h1 j (by omega)
    · intro j hj
      rw [gI_pI_eq, upd_ne _ _ (by omega)]; exact h2 j (by omega)
theorem x_fill {Q : Mm → Prop} {a N : Nat} {v : Int32} {M : Mm} (hN : N < 2 ^ 31) (ha : ok M a 7) (hl : gN M a = N) (hQ : ∀ M', Ch (fun b => b = a) M M' → (∀ j, j < N → gI M' a j = v) → (∀ j, N ≤ j → gI M' a j = gI M a j) → Q M') : B_J7_fill_53178_0 Q (some a) v M := by
  unfold B_J7_fill_53178_0
  refine ⟨a, rfl, ha, N + 1, ?_⟩
  rw [hl]
  exact x_fill_5 hN ha hl hQ N 0 M (by omega) (Ch.refl _ _) (fun j hj => absurd hj (by omega)) (fun _ _ => rfl)
