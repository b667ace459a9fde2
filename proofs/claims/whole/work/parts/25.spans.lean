/-! PURE, 6: the table of all starts; spans -/
abbrev csf (ρ : Nat → Nat) : Nat → Nat → Int := fun a b => CC (fun t => (ρ (a + t) : Int)) (b - a)
theorem x_solve {Λ : Nat → Nat} {M : Mm} {Q : Mm → Prop} {r n p i : Nat} {ρ : Nat → Nat} {T : Nat → Int × Int × Nat} (hΛ : inj Λ) (hr : 20 ≤ r) (sh : CutSh Λ M) (rs : RowSh Λ M r) (hn : n ≤ 40) (hp : p ≤ 1000) (hm : gI M (Λ r) 6 = nI n) (hρ : ∀ k, k < n → 0 ≤ ρ k ∧ ρ k ≤ 80) (hk : ∀ k, k < n → gI M (Λ (r + 3)) k = nI (ρ k)) (hi : i < n)
    (hT : ∀ j, i < j → j < n → (gI M (Λ 6) j).toInt = (T j).1 ∧ (gI M (Λ 7) j).toInt = (T j).2.1 ∧ 0 ≤ (T j).1 ∧ (T j).1 ≤ 168000 ∧ 0 ≤ (T j).2.1 ∧ (T j).2.1 ≤ 40) (hQ : ∀ M', Sol Λ M M' n p ρ T i (n - i) → Q M') : B_X1_solveFrom_0 Q (Λ 4) (some (Λ r)) (nI i) (nI p) M :=
  ⟨n - i + 1, x_solve_6 hΛ hr sh rs hn hp hm hρ hk hi hT hQ (n - i) 0 0 M (by omega) (by simp [CC, FF, sm]) ⟨Ch.refl _ _, fun t ht => absurd ht (by omega), fun j _ => ⟨rfl, rfl, rfl⟩, fun z => absurd z (by omega)⟩⟩
theorem csf_ok {ρ : Nat → Nat} {n : Nat} (hn : n ≤ 40) (hρ : ∀ k, k < n → 0 ≤ ρ k ∧ ρ k ≤ 80) : csOk n (csf ρ) := fun i j hij hj => by
  have := CC_rng (e := fun t => (ρ (i + t) : Int)) (h := j - i) (fun t ht => by have := hρ (i + t) (by omega); omega)
  show (0 : Int) ≤ CC (fun t => (ρ (i + t) : Int)) (j - i) ∧ CC (fun t => (ρ (i + t) : Int)) (j - i) ≤ 3200
  omega
/-- the cutter's three rows hold the table for the last d starts -/
def Tbl (Λ : Nat → Nat) (M : Mm) (n : Nat) (p : Int) (ρ : Nat → Nat) (d : Nat) : Prop := ∀ j, j < n → n ≤ j + d → (gI M (Λ 6) j).toInt = (dpT n p (csf ρ) d j).1 ∧ (gI M (Λ 7) j).toInt = (dpT n p (csf ρ) d j).2.1 ∧ gI M (Λ 8) j = nI (dpT n p (csf ρ) d j).2.2
theorem x_table {Λ : Nat → Nat} {M : Mm} {Q : Mm → Prop} {r n p : Nat} {x2 : Int32} {ρ : Nat → Nat} (hΛ : inj Λ) (hr : 20 ≤ r) (sh : CutSh Λ M) (rs : RowSh Λ M r) (hn : n ≤ 40) (hp : p ≤ 1000) (hm : gI M (Λ r) 6 = nI n) (hρ : ∀ k, k < n → 0 ≤ ρ k ∧ ρ k ≤ 80) (hk : ∀ k, k < n → gI M (Λ (r + 3)) k = nI (ρ k))
    (hQ : ∀ (M' : Mm) (tot : Int32), Ch (fun b => b = Λ 5 ∨ b = Λ 6 ∨ b = Λ 7 ∨ b = Λ 8) M M' → Tbl Λ M' n p ρ n → tot.toInt = (if n = 0 then 0 else (dpT n p (csf ρ) n 0).1) → B_X1_divide_50 Q (Λ 4) (some (Λ r)) x2 (nI p) (some (Λ r)) tot M') :
    ∀ (k : Nat) (M1 : Mm), k ≤ n → Ch (fun b => b = Λ 5 ∨ b = Λ 6 ∨ b = Λ 7 ∨ b = Λ 8) M M1 → Tbl Λ M1 n p ρ (n - k) → B_X1_divide_13 Q (k + 1) (Λ 4) (some (Λ r)) x2 (nI p) (nI k - 1) M1 := by
  have apart : ∀ c, 9 ≤ c → ¬ (Λ c = Λ 5 ∨ Λ c = Λ 6 ∨ Λ c = Λ 7 ∨ Λ c = Λ 8) := fun c hc => by
    rintro (e | e | e | e) <;> exact hΛ.ne (by omega) e
  intro k
  induction k with
  | zero =>
    intro M1 hk0 gc gt
    unfold B_X1_divide_13
    have sh1 := sh.ch gc
    have gm : gI M1 (Λ r) 6 = nI n := by rw [gc.2 _ (apart r (by omega))]; exact hm
    refine ⟨fun _ => ⟨Λ r, rfl, (rs.ch gc).1, fun c => ?_, fun c => ?_⟩, fun c => absurd (by decide) c⟩
    · rw [gm] at c
      have h0 : n = 0 := by have := (nI_leI (a := n) (b := 0) (by omega) (by omega)).mp c; omega
      exact hQ M1 0 gc gt (by rw [if_pos h0]; rfl)
    · rw [gm] at c
      have h0 : ¬ n = 0 := fun z => c (by rw [z]; exact Int32.le_refl _)
      refine ⟨sh1.1, Λ 6, sh1.2.1 1 (by omega), ar_nI (k := 0) (sh1.2.2.1 1 (by omega)) (sh1.2.2.2 1 (by omega)) (by omega) (by omega), ?_⟩
      refine hQ M1 _ gc gt ?_
      rw [if_neg h0]
      exact (gt 0 (by omega) (by omega)).1
  | succ k ih =>
    intro M1 hk0 gc gt
    unfold B_X1_divide_13
    have sh1 := sh.ch gc
    have rs1 := rs.ch gc
    have gm : gI M1 (Λ r) 6 = nI n := by rw [gc.2 _ (apart r (by omega))]; exact hm
    have gk : ∀ j, j < n → gI M1 (Λ (r + 3)) j = nI (ρ j) := fun j hj => by rw [gc.2 _ (apart (r + 3) (by omega))]; exact hk j hj
    rw [show nI (k + 1) - (1 : Int32) = nI k from nI_pred k]
    have hrng := dpT_rng (csf_ok hn hρ) (p := p) (by omega) (n - (k + 1))
    refine ⟨fun c => absurd c (nI_pos (by omega)), fun _ => ⟨sh1.1, ?_⟩⟩
    refine x_solve (T := dpT n p (csf ρ) (n - (k + 1))) hΛ hr sh1 rs1 hn hp gm hρ gk (by omega) (fun j h1 h2 => ?_) (fun M' s => ?_)
    · have g := gt j h2 (by omega)
      have q := hrng j h2 (by omega)
      exact ⟨g.1, g.2.1, by omega, by omega, by omega, by omega⟩
    · rw [show nI k + (-1 : Int32) = nI k - 1 by rw [Int32.sub_eq_add_neg]]
      obtain ⟨sc, -, so_, sp⟩ := s
      refine ih M' (by omega) (gc.trans sc) ?_
      intro j hj hj2
      have ed : n - k = (n - (k + 1)) + 1 := by omega
      rw [ed]
      simp only [dpT]
      by_cases e : j = k
      · subst e
        rw [if_pos (by omega)]
        have := sp (by omega)
        rw [show n - j = n - (j + 1) + 1 by omega] at this
        exact this
      · rw [if_neg (by omega)]
        obtain ⟨o1, o2, o3⟩ := so_ j e
        rw [o1, o2, o3]
        exact gt j hj (by omega)
-- spans
def ss (n : Nat) (nx : Nat → Nat) : Nat → Nat
  | 0 => 0
  | k + 1 => if ss n nx k < n then nx (ss n nx k) else ss n nx k
def cS (n : Nat) (nx : Nat → Nat) : Nat → Nat
  | 0 => 0
  | k + 1 => cS n nx k + (if ss n nx k < n then 1 else 0)
/-- how many spans there are -/
def nS (n : Nat) (nx : Nat → Nat) : Nat := cS n nx n
def nxOk (n : Nat) (nx : Nat → Nat) : Prop := ∀ i, i < n → i < nx i ∧ nx i ≤ n
def isN (n : Nat) (nx : Nat → Nat) (s : Nat) : Prop := (∀ j, j < s → ss n nx j < n) ∧ ss n nx s = n
theorem ss_ge {n : Nat} {nx : Nat → Nat} (h : nxOk n nx) : ∀ k, ss n nx k ≤ n ∧ (k ≤ ss n nx k ∨ ss n nx k = n)
  | 0 => ⟨by simp [ss], Or.inl (Nat.zero_le _)⟩
  | k + 1 => by
    have ih := ss_ge h k
    simp only [ss]
    by_cases c : ss n nx k < n
    · rw [if_pos c]; have := h _ c; omega
    · rw [if_neg c]; omega
theorem ss_stay {n : Nat} {nx : Nat → Nat} {s : Nat} (h : ss n nx s = n) : ∀ d, ss n nx (s + d) = n
  | 0 => h
  | d + 1 => by rw [show s + (d + 1) = (s + d) + 1 by omega]; simp only [ss]; rw [ss_stay h d, if_neg (by omega)]
theorem isN_le {n : Nat} {nx : Nat → Nat} {s : Nat} (h : nxOk n nx) (hs : isN n nx s) : s ≤ n := by
  rcases Nat.eq_zero_or_pos s with z | z
  · omega
  · have h1 := hs.1 (s - 1) (by omega)
    have h2 := ss_ge h (s - 1)
    omega
theorem cS_isN {n : Nat} {nx : Nat → Nat} {s : Nat} (hs : isN n nx s) : ∀ k, cS n nx k = min k s
  | 0 => by simp [cS]
  | k + 1 => by
    simp only [cS, cS_isN hs k]
    by_cases c : k < s
    · rw [if_pos (hs.1 k c)]; omega
    · have := ss_stay hs.2 (k - s)
      rw [show s + (k - s) = k by omega] at this
      rw [if_neg (by omega)]; omega
theorem nS_isN {n : Nat} {nx : Nat → Nat} {s : Nat} (h : nxOk n nx) (hs : isN n nx s) : nS n nx = s := by
  unfold nS; rw [cS_isN hs n]; have := isN_le h hs; omega
theorem isN_ex {n : Nat} {nx : Nat → Nat} (h : nxOk n nx) : isN n nx (nS n nx) := by
  have h2 : ss n nx n = n := by have := ss_ge h n; omega
  obtain ⟨s, h1, h3⟩ := pk_least (fun k => ss n nx k = n) ⟨n, h2⟩
  have hs : isN n nx s := ⟨fun j hj => by have := ss_ge h j; have := h3 j hj; omega, h1⟩
  rw [nS_isN h hs]; exact hs
theorem ss_lt {n : Nat} {nx : Nat → Nat} (h : nxOk n nx) {i : Nat} (hi : i < nS n nx) : ss n nx i < ss n nx (i + 1) ∧ ss n nx i < n ∧ ss n nx (i + 1) ≤ n := by
  have h1 := (isN_ex h).1 i hi
  have h2 := h _ h1
  simp only [ss]
  rw [if_pos h1]; omega
theorem nS_le {n : Nat} {nx : Nat → Nat} (h : nxOk n nx) : nS n nx ≤ n := isN_le h (isN_ex h)
theorem nS_pos {n : Nat} {nx : Nat → Nat} (h : nxOk n nx) : 0 < nS n nx ↔ 0 < n := by
  have h1 := isN_ex h
  have h2 := nS_le h
  constructor
  · intro z; omega
  · intro z
    rcases Nat.eq_zero_or_pos (nS n nx) with e | e
    · rw [e] at h1; have := h1.2; simp [ss] at this; omega
    · exact e
