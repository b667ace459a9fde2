/-! PURE, 17: counting choices -/
/-- how many ways there are to choose c of the first k of f so that their sum has P -/
def nc (f : Nat → Int) : Nat → Nat → (Int → Bool) → Nat
  | 0, 0, P => if P 0 then 1 else 0
  | 0, _ + 1, _ => 0
  | k + 1, 0, P => nc f k 0 P
  | k + 1, c + 1, P => nc f k (c + 1) P + nc f k c (fun s => P (s + f k))
def tot (f : Nat → Int) : Nat → Int := sm f
theorem nc_big (f : Nat → Int) : ∀ (k c : Nat) (P : Int → Bool), k < c → nc f k c P = 0
  | 0, 0, _, h => absurd h (by omega)
  | 0, c + 1, _, _ => rfl
  | k + 1, 0, _, h => absurd h (by omega)
  | k + 1, c + 1, P, h => by rw [nc, nc_big f k (c + 1) P (by omega), nc_big f k c _ (by omega)]
theorem nc_congr {f : Nat → Int} : ∀ (k c : Nat) {P R : Int → Bool}, (∀ s, P s = R s) → nc f k c P = nc f k c R := fun k c P R h => by
  have : P = R := funext h
  rw [this]
theorem nc_zero (f : Nat → Int) (P : Int → Bool) : ∀ k, nc f k 0 P = if P 0 then 1 else 0
  | 0 => rfl
  | k + 1 => by rw [nc, nc_zero f P k]
/-- those that are chosen, or those that are left -/
theorem nc_comp (f : Nat → Int) : ∀ (k c : Nat) (P : Int → Bool), c ≤ k → nc f k c P = nc f k (k - c) (fun s => P (sm f k - s))
  | 0, 0, P, _ => by simp [nc, sm]
  | 0, c + 1, _, h => absurd h (by omega)
  | k + 1, 0, P, _ => by
    rw [show k + 1 - 0 = k + 1 by omega, nc_zero, nc, nc_big f k (k + 1) _ (by omega)]
    have ih := nc_comp f k 0 (fun s => P s) (by omega)
    rw [nc_zero, show k - 0 = k by omega] at ih
    rw [ih, Nat.zero_add]
    refine nc_congr k k (fun s => ?_)
    congr 1; simp only [sm]; omega
  | k + 1, c + 1, P, h => by
    rw [nc, show k + 1 - (c + 1) = k - c by omega]
    by_cases e : c = k
    · subst e
      rw [nc_big f c (c + 1) P (by omega), show c - c = 0 by omega, nc_zero, Nat.zero_add]
      have ih := nc_comp f c c (fun s => P (s + f c)) (by omega)
      rw [show c - c = 0 by omega, nc_zero] at ih
      rw [ih]
      congr 2
      simp only [sm]; congr 1; omega
    · obtain ⟨j, hj⟩ : ∃ j, k - c = j + 1 := ⟨k - c - 1, by omega⟩
      rw [hj, nc, nc_comp f k (c + 1) P (by omega), nc_comp f k c (fun s => P (s + f k)) (by omega), show k - (c + 1) = j by omega, hj]
      rw [Nat.add_comm]
      congr 1
      · refine nc_congr k (j + 1) (fun s => ?_)
        congr 1; simp only [sm]; omega
      · refine nc_congr k j (fun s => ?_)
        congr 1; simp only [sm]; omega
/-- the way to an end instead of the number: e - f -/
theorem nc_hi (f g : Nat → Int) (e : Int) : ∀ (k c : Nat) (P : Int → Bool), (∀ i, i < k → g i = e - f i) → nc g k c P = nc f k c (fun s => P (c * e - s))
  | 0, 0, P, _ => by simp [nc]
  | 0, c + 1, _, _ => rfl
  | k + 1, 0, P, h => by rw [nc, nc]; exact nc_hi f g e k 0 P (fun i hi => h i (by omega))
  | k + 1, c + 1, P, h => by
    rw [nc, nc, nc_hi f g e k (c + 1) P (fun i hi => h i (by omega)), nc_hi f g e k c _ (fun i hi => h i (by omega)), h k (by omega)]
    congr 1
    refine nc_congr k c (fun s => ?_)
    congr 1
    rw [show ((c + 1 : Nat) : Int) = (c : Int) + 1 by omega, Int.add_mul]; omega
theorem nc_lo (f g : Nat → Int) (e : Int) : ∀ (k c : Nat) (P : Int → Bool), (∀ i, i < k → g i = f i - e) → nc g k c P = nc f k c (fun s => P (s - c * e))
  | 0, 0, P, _ => by simp [nc]
  | 0, c + 1, _, _ => rfl
  | k + 1, 0, P, h => by rw [nc, nc]; exact nc_lo f g e k 0 P (fun i hi => h i (by omega))
  | k + 1, c + 1, P, h => by
    rw [nc, nc, nc_lo f g e k (c + 1) P (fun i hi => h i (by omega)), nc_lo f g e k c _ (fun i hi => h i (by omega)), h k (by omega)]
    congr 1
    refine nc_congr k c (fun s => ?_)
    congr 1
    rw [show ((c + 1 : Nat) : Int) = (c : Int) + 1 by omega, Int.add_mul]; omega
def bin : Nat → Nat → Nat
  | _, 0 => 1
  | 0, _ + 1 => 0
  | n + 1, c + 1 => bin n (c + 1) + bin n c
theorem nc_all (f : Nat → Int) : ∀ k c, nc f k c (fun _ => true) = bin k c
  | 0, 0 => rfl
  | 0, c + 1 => rfl
  | k + 1, 0 => by rw [nc, nc_all f k 0]; cases k <;> rfl
  | k + 1, c + 1 => by rw [nc, nc_all f k (c + 1), nc_all f k c, bin]
theorem nc_le (f : Nat → Int) : ∀ (k c : Nat) (P : Int → Bool), nc f k c P ≤ bin k c
  | 0, 0, P => by simp only [nc, bin]; split <;> omega
  | 0, c + 1, _ => by simp [nc, bin]
  | k + 1, 0, P => by rw [nc]; have := nc_le f k 0 P; cases k <;> simpa [bin] using this
  | k + 1, c + 1, P => by
    have h1 := nc_le f k (c + 1) P
    have h2 := nc_le f k c (fun s => P (s + f k))
    rw [nc, bin]; omega
theorem bin_20 : ∀ n, n < 21 → ∀ c, c < 21 → bin n c ≤ 184756 := by decide +kernel
theorem bin_pos : ∀ n, n < 21 → ∀ c, c ≤ n → 0 < bin n c := by decide +kernel
theorem bin_sym (f : Nat → Int) {n c : Nat} (h : c ≤ n) : bin n c = bin n (n - c) := by
  rw [← nc_all f n c, ← nc_all f n (n - c)]; exact nc_comp f n c _ h
/-- the table: c of the first k, with the sum s -/
def cw (f : Nat → Nat) : Nat → Nat → Nat → Nat
  | 0, 0, s => if s = 0 then 1 else 0
  | 0, _ + 1, _ => 0
  | k + 1, 0, s => cw f k 0 s
  | k + 1, c + 1, s => cw f k (c + 1) s + (if f k ≤ s then cw f k c (s - f k) else 0)
theorem cw_nc (f : Nat → Nat) : ∀ (k c s : Nat), cw f k c s = nc (fun i => (f i : Int)) k c (fun x => decide (x = (s : Int)))
  | 0, 0, s => by
    simp only [cw, nc, decide_eq_true_eq]
    by_cases e : s = 0
    · rw [if_pos e, if_pos (by omega)]
    · rw [if_neg e, if_neg (by omega)]
  | 0, c + 1, s => rfl
  | k + 1, 0, s => by rw [cw, nc, cw_nc f k 0 s]
  | k + 1, c + 1, s => by
    rw [cw, nc, cw_nc f k (c + 1) s]
    congr 1
    by_cases h : f k ≤ s
    · rw [if_pos h, cw_nc f k c (s - f k)]
      refine nc_congr k c (fun x => ?_)
      by_cases e : x = ((s - f k : Nat) : Int)
      · rw [decide_eq_true e, decide_eq_true (by omega)]
      · rw [decide_eq_false e, decide_eq_false (by omega)]
    · rw [if_neg h]
      have : ∀ (k c : Nat) (P : Int → Bool), (∀ x, 0 ≤ x → P x = false) → nc (fun i => (f i : Int)) k c P = 0 := by
        intro k
        induction k with
        | zero => intro c P hP; cases c with
          | zero => simp [nc, hP 0 (Int.le_refl 0)]
          | succ c => rfl
        | succ k ih => intro c P hP; cases c with
          | zero => rw [nc]; exact ih 0 P hP
          | succ c => rw [nc, ih (c + 1) P hP, ih c _ (fun x hx => hP _ (by omega))]
      exact (this k c _ (fun x hx => decide_eq_false (by omega))).symm
theorem nc_or {f : Nat → Int} : ∀ (k c : Nat) {P R U : Int → Bool}, (∀ x, U x = (P x || R x)) → (∀ x, ¬ (P x = true ∧ R x = true)) → nc f k c U = nc f k c P + nc f k c R
  | 0, 0, P, R, U, h1, h2 => by
    simp only [nc, h1 0]
    have := h2 0
    cases hp : P 0 <;> cases hr : R 0 <;> simp_all
  | 0, c + 1, _, _, _, _, _ => rfl
  | k + 1, 0, P, R, U, h1, h2 => by rw [nc, nc, nc]; exact nc_or k 0 h1 h2
  | k + 1, c + 1, P, R, U, h1, h2 => by
    rw [nc, nc, nc, nc_or k (c + 1) h1 h2, nc_or k c (P := fun s => P (s + f k)) (R := fun s => R (s + f k)) (U := fun s => U (s + f k)) (fun x => h1 _) (fun x => h2 _)]
    omega
theorem nc_none {f : Nat → Int} (k c : Nat) {P : Int → Bool} (h : ∀ x, P x = false) : nc f k c P = 0 := by
  have := nc_or (f := f) k c (P := P) (R := P) (U := P) (fun x => by rw [h x]; rfl) (fun x => by rw [h x]; simp)
  omega
/-- the sum of a row of the table, of those places that P picks -/
def rowS (w : Nat → Nat) (P : Nat → Bool) : Nat → Nat
  | 0 => 0
  | n + 1 => rowS w P n + (if P n then w n else 0)
theorem rowS_nc (f : Nat → Nat) (k c : Nat) (P : Nat → Bool) : ∀ n, rowS (cw f k c) P n = nc (fun i => (f i : Int)) k c (fun x => decide (0 ≤ x ∧ x < n) && P x.toNat)
  | 0 => (nc_none k c (fun x => by
      have : decide (0 ≤ x ∧ x < ((0 : Nat) : Int)) = false := decide_eq_false (by omega)
      rw [this]; rfl)).symm
  | n + 1 => by
    rw [rowS, rowS_nc f k c P n]
    by_cases hp : P n = true
    · rw [if_pos hp, cw_nc]
      symm
      refine nc_or k c (fun x => ?_) (fun x => ?_)
      · by_cases e : x = (n : Int)
        · subst e
          have : decide (0 ≤ ((n : Nat) : Int) ∧ ((n : Nat) : Int) < ((n + 1 : Nat) : Int)) = true := decide_eq_true (by omega)
          rw [this]
          have h2 : (((n : Nat) : Int)).toNat = n := by omega
          rw [h2, hp]; simp
        · have h1 : decide (x = (n : Int)) = false := decide_eq_false e
          rw [h1, Bool.or_false]
          congr 1
          by_cases c : 0 ≤ x ∧ x < (n : Int)
          · rw [decide_eq_true c, decide_eq_true (by omega)]
          · rw [decide_eq_false c, decide_eq_false (by omega)]
      · intro h
        have h1 := h.1
        simp only [Bool.and_eq_true, decide_eq_true_eq] at h1
        have h2 : x = (n : Int) := of_decide_eq_true h.2
        omega
    · rw [if_neg hp, Nat.add_zero]
      refine nc_congr k c (fun x => ?_)
      by_cases e : x = (n : Int)
      · subst e
        have h2 : (((n : Nat) : Int)).toNat = n := by omega
        have h3 : P n = false := by simpa using hp
        rw [h2, h3]; simp
      · congr 1
        by_cases c : 0 ≤ x ∧ x < (n : Int)
        · rw [decide_eq_true c, decide_eq_true (by omega)]
        · rw [decide_eq_false c, decide_eq_false (by omega)]
/-- sums stay below: P matters on them alone -/
theorem nc_on (f : Nat → Nat) (b : Nat) : ∀ (k c : Nat) (P R : Int → Bool), (∀ i, i < k → f i ≤ b) → (∀ x : Int, 0 ≤ x → x ≤ (b : Int) * (k : Int) → P x = R x) → nc (fun i => (f i : Int)) k c P = nc (fun i => (f i : Int)) k c R
  | 0, 0, P, R, _, h => by simp only [nc]; rw [h 0 (Int.le_refl 0) (by simp)]
  | 0, c + 1, _, _, _, _ => rfl
  | k + 1, 0, P, R, hf, h => by
    rw [nc, nc]
    refine nc_on f b k 0 P R (fun i hi => hf i (by omega)) (fun x h1 h2 => h x h1 ?_)
    rw [show ((k + 1 : Nat) : Int) = (k : Int) + 1 by omega, Int.mul_add]; omega
  | k + 1, c + 1, P, R, hf, h => by
    have hk := hf k (by omega)
    have hm : (b : Int) * ((k + 1 : Nat) : Int) = b * k + b := by rw [show ((k + 1 : Nat) : Int) = (k : Int) + 1 by omega, Int.mul_add]; omega
    rw [nc, nc, nc_on f b k (c + 1) P R (fun i hi => hf i (by omega)) (fun x h1 h2 => h x h1 (by omega)), nc_on f b k c (fun s => P (s + f k)) (fun s => R (s + f k)) (fun i hi => hf i (by omega)) (fun x h1 h2 => h _ (by omega) (by omega))]
theorem cw_le (f : Nat → Nat) (k c s : Nat) : cw f k c s ≤ bin k c := by rw [cw_nc]; exact nc_le _ _ _ _
theorem cw_big (f : Nat → Nat) {k c : Nat} (s : Nat) (h : k < c) : cw f k c s = 0 := by rw [cw_nc]; exact nc_big _ _ _ _ h
