/-! PURE, 25: calls: finding a row, refusing; the small calls -/
theorem z0 {A B : Prop} (a : A) : ((0 : Int32) = 0 → A) ∧ (¬ (0 : Int32) = 0 → B) := ⟨fun _ => a, fun c => absurd rfl c⟩
theorem z0' {A B : Prop} (a : A) : (¬ (0 : Int32) = 0 → B) ∧ ((0 : Int32) = 0 → A) := ⟨fun c => absurd rfl c, fun _ => a⟩
theorem z1 {A B : Prop} (b : B) : ((1 : Int32) = 0 → A) ∧ (¬ (1 : Int32) = 0 → B) := ⟨fun c => absurd c (by decide), fun _ => b⟩
theorem z1' {A B : Prop} (b : B) : (¬ (1 : Int32) = 0 → B) ∧ ((1 : Int32) = 0 → A) := ⟨fun _ => b, fun c => absurd c (by decide)⟩
theorem upd_self (f : Nat → Int32) (k : Nat) : upd f k (f k) = f := by
  funext j; unfold upd; split
  · next h => rw [h]
  · rfl
theorem upd_comm (f : Nat → Int32) {k j : Nat} (v w : Int32) (h : k ≠ j) : upd (upd f k v) j w = upd (upd f j w) k v := by
  funext i; unfold upd
  by_cases e : i = j
  · subst e; rw [if_pos rfl, if_neg (Ne.symm h), if_pos rfl]
  · rw [if_neg e, if_neg e]
theorem uA_self (σ : Sg) (a : Nat) : uA σ a (σ.1 a) = σ := by
  unfold uA
  refine Prod.ext ?_ rfl
  funext b
  show (if b = a then σ.1 a else σ.1 b) = σ.1 b
  split
  · next h => rw [h]
  · rfl
theorem uA_uA (σ : Sg) (a : Nat) (f g : Nat → Int32) : uA (uA σ a f) a g = uA σ a g := by
  unfold uA
  refine Prod.ext ?_ rfl
  funext b
  show (if b = a then g else if b = a then f else σ.1 b) = if b = a then g else σ.1 b
  split <;> rfl
theorem uA_comm (σ : Sg) {a b : Nat} (f g : Nat → Int32) (h : a ≠ b) : uA (uA σ a f) b g = uA (uA σ b g) a f := by
  unfold uA
  refine Prod.ext ?_ rfl
  funext c
  show (if c = b then g else if c = a then f else σ.1 c) = if c = a then f else if c = b then g else σ.1 c
  by_cases e : c = a
  · subst e; rw [if_neg h, if_pos rfl]; simp
  · rw [if_neg e, if_neg e]
theorem uI_self (σ : Sg) (a k : Nat) : uI σ a k (σ.1 a k) = σ := by unfold uI; rw [upd_self, uA_self]
theorem uI_comm (σ : Sg) (a : Nat) {k j : Nat} (v w : Int32) (h : k ≠ j) : uI (uI σ a k v) a j w = uI (uI σ a j w) a k v := by
  unfold uI; rw [uA_eq, uA_eq, uA_uA, uA_uA, upd_comm _ _ _ h]
theorem Rg.same {σ σ' : Sg} {N : Nat} (h : Rg σ N) (e0 : ∀ k, 6 ≤ k → k ≤ 10 → σ'.1 0 k = σ.1 0 k) (e9 : σ'.1 9 = σ.1 9) (e : ∀ a, 21 ≤ a → σ'.1 a = σ.1 a) : Rg σ' N := by
  obtain ⟨h1, h2, h3, h4, h5, h6, h7, h8, h9, h10⟩ := h
  have b : sB σ' = sB σ := by unfold sB; rw [e0 6 (by omega) (by omega)]
  have t : sT σ' = sT σ := by unfold sT; rw [e0 7 (by omega) (by omega)]
  have p : sP σ' = sP σ := by unfold sP; rw [e0 8 (by omega) (by omega)]
  have r : sR σ' = sR σ := by unfold sR; rw [e0 9 (by omega) (by omega)]
  refine ⟨by rw [b, e0 6 (by omega) (by omega)]; exact h1, by rw [t, e0 7 (by omega) (by omega)]; exact h2, by rw [p, e0 8 (by omega) (by omega)]; exact h3, by rw [r, e0 9 (by omega) (by omega)]; exact h4, fun x hx => by rw [e _ (by omega)]; exact h5 x hx, by rw [e 21 (by omega)]; exact h6, by rw [e 21 (by omega), t]; exact h7, fun x hx => by rw [e _ (by omega)]; exact h8 x hx, by rw [e0 10 (by omega) (by omega)]; exact h9, by unfold Hv; rw [e9]; exact h10⟩
abbrev isT (σ : Sg) (x : Int32) : Prop := 0 ≤ x.toInt ∧ x.toInt < sT σ
abbrev isR (σ : Sg) (x y : Int32) : Prop := isT σ x ∧ 0 ≤ y.toInt ∧ y.toInt < 4
def tn (x : Int32) : Nat := x.toInt.toNat
theorem tn_nI {n : Nat} (h : n < 2 ^ 31) : tn (nI n) = n := by unfold tn; rw [nI_toInt h]; omega
theorem nI_tn {x : Int32} (h : 0 ≤ x.toInt) : x = nI (tn x) := nI_toNat (by rw [lt_I]; exact Int.not_lt.mpr h)
/-- the finding k is met -/
def mt (σ : Sg) (k : Nat) : Sg := uI (uI σ 0 11 (nI k)) 2 k (σ.1 2 k + 1)
theorem mt_T (σ : Sg) (k : Nat) : sT (mt σ k) = sT σ := by unfold sT mt; rw [uI_ne _ _ _ (by omega), uI_eq, upd_ne _ _ (by omega)]
theorem Rg.met {σ : Sg} {N : Nat} (h : Rg σ N) (k : Nat) : Rg (mt σ k) N := by
  refine h.same (fun j h1 h2 => ?_) ?_ (fun a ha => ?_)
  · unfold mt; rw [uI_ne _ _ _ (by omega), uI_eq, upd_ne _ _ (by omega)]
  · unfold mt; rw [uI_ne _ _ _ (by omega), uI_ne _ _ _ (by omega)]
  · unfold mt; rw [uI_ne _ _ _ (by omega), uI_ne _ _ _ (by omega)]
theorem x_refuse {Λ : Nat → Nat} {M : Mm} {σ τ : Sg} {Q : Int32 → Mm → Prop} (k : Nat) (h : Inv Λ M σ τ) (hk : k < 6) (hQ : ∀ M', Inv Λ M' (mt σ k) τ → Q (-3) M') : B_X5_refuseWith_0 Q (Λ 0) (nI k) M := by
  unfold B_X5_refuseWith_0
  refine ⟨h.o0, ?_⟩
  rintro _ rfl
  have h1 := h.x0 11 (nI k) (by omega)
  have ha : ar (pI M (Λ 0) 11 (nI k)) (Λ 2) 7 (nI k) := ar_nI h1.sx.2.2.1.2.1 h1.sx.2.2.1.2.2 hk (by omega)
  refine ⟨Λ 2, h1.sx.2.2.1.1, ha, ha, ?_⟩
  rintro _ rfl
  rw [nI_clamp (by omega)]
  have h2 := h1.xA 2 k (gI (pI M (Λ 0) 11 (nI k)) (Λ 2) k + 1) (Or.inl rfl)
  have e : gI (pI M (Λ 0) 11 (nI k)) (Λ 2) k = σ.1 2 k := by rw [h1.cx.2.1, uI_ne _ _ _ (by omega)]
  rw [e] at h2 ⊢
  exact hQ _ h2
theorem m_meets {Λ : Nat → Nat} {M : Mm} {σ τ : Sg} {Q : Int32 → Mm → Prop} (k : Nat) (h : Inv Λ M σ τ) (hT : sT σ ≤ 8) (hk : k < 6) (hQ : ∀ M', Inv Λ M' σ (mt τ k) → Q (-3) M') : B_X6_meets_0 Q (Λ 400) (nI k) M := by
  unfold B_X6_meets_0
  refine ⟨h.m0, ?_⟩
  rintro _ rfl
  have h1 : Inv Λ (pI M (Λ 400) 0 (nI k)) σ (uI τ 0 11 (nI k)) := h.y0 hT 0 (nI k) (by omega) rfl
  have ha : ar (pI M (Λ 400) 0 (nI k)) (Λ 401) 7 (nI k) := h1.ms.a 1 (by omega) (by omega) (show k < 6 from hk)
  refine ⟨Λ 401, h1.ms.r 1 (by omega) (by omega), ha, ha, ?_⟩
  rintro _ rfl
  rw [nI_clamp (by omega)]
  have h2 : Inv Λ _ σ (uI (uI τ 0 11 (nI k)) 2 k _) := h1.yA hT 1 k (gI (pI M (Λ 400) 0 (nI k)) (Λ 401) k + 1) (Or.inl rfl)
  have e : gI (pI M (Λ 400) 0 (nI k)) (Λ 401) k = τ.1 2 k := by rw [h1.cm.2.2.1.1, uI_ne _ _ _ (by omega)]
  have h3 : Inv Λ (pI (pI M (Λ 400) 0 (nI k)) (Λ 401) k (gI (pI M (Λ 400) 0 (nI k)) (Λ 401) k + 1)) σ (mt τ k) := by
    have h2' := h2
    rw [e] at h2'
    rw [e]
    exact h2'
  exact hQ _ h3
theorem x_within {M : Mm} {Q : Int32 → Mm → Prop} {x b : Int32} (h0 : (x < 0 ∨ b < x) → Q 0 M) (h1 : ¬ x < 0 → ¬ b < x → Q 1 M) : B_X5_isWithin_0 Q x b M := ⟨fun c => h0 (Or.inl c), fun c => ⟨fun d => h0 (Or.inr d), fun d => h1 c d⟩⟩
theorem m_in {M : Mm} {Q : Int32 → Mm → Prop} {x a b : Int32} (h0 : (x < a ∨ b < x) → Q 0 M) (h1 : ¬ x < a → ¬ b < x → Q 1 M) : B_X6_in_0 Q x a b M := ⟨fun c => h0 (Or.inl c), fun c => ⟨fun d => h0 (Or.inr d), fun d => h1 c d⟩⟩
theorem x_findTest {Λ : Nat → Nat} {M : Mm} {σ τ : Sg} {N : Nat} {Q : Option Nat → Mm → Prop} {x : Int32} (h : Inv Λ M σ τ) (rg : Rg σ N) (hn : ¬ isT σ x → Q none M) (hy : ∀ t, t < sT σ → x = nI t → Q (some (Λ (tc t))) M) : B_X5_findTest_0 Q (Λ 0) x M := by
  have hT := rg.2.1.2
  unfold B_X5_findTest_0
  rw [h.f0, rg.2.1.1]
  refine ⟨fun c => hn (fun z => ?_), fun c => ⟨h.o0, fun d => hn (fun z => ?_), fun d => ?_⟩⟩
  · rw [lt_I] at c; exact absurd z.1 (Int.not_le.mpr c)
  · rw [le_I, nI_toInt (by omega)] at d; have := z.2; omega
  · have c' : ¬ x.toInt < 0 := fun z => c (lt_I.mpr z)
    have e := nI_tn (x := x) (by omega)
    have ht : tn x < sT σ := by
      rw [le_I, nI_toInt (by omega)] at d; unfold tn; omega
    refine ⟨Λ 1, h.sx.2.1.1, ?_, ?_⟩
    · rw [e]; exact ar_nI h.sx.2.1.2.1 h.sx.2.1.2.2 (by omega) (by omega)
    · have := (h.sx.2.2.2.2.2.2 (tn x) ht).1
      rw [show Int32.toNatClampNeg x = tn x from rfl, this]
      exact hy _ ht e
theorem x_findRow {Λ : Nat → Nat} {M : Mm} {σ τ : Sg} {N : Nat} {Q : Option Nat → Mm → Prop} {x y : Int32} (h : Inv Λ M σ τ) (rg : Rg σ N) (hn : ¬ isR σ x y → Q none M) (hy : ∀ t m, t < sT σ → m < 4 → x = nI t → y = nI m → Q (some (Λ (rc t m))) M) : B_X5_findRow_0 Q (Λ 0) x y M := by
  unfold B_X5_findRow_0
  refine ⟨h.o0, x_findTest h rg (fun z => ⟨fun _ => hn (fun w => z w.1), fun _ e => by cases e⟩) (fun t ht e => ⟨fun z => (by cases z), fun a ea => ?_⟩)⟩
  cases ea
  refine ⟨fun c => hn (fun w => ?_), fun c => ⟨fun d => ?_, fun d => hn (fun w => ?_)⟩⟩
  · rw [lt_I] at c; exact absurd w.2.1 (Int.not_le.mpr c)
  · have c' : ¬ y.toInt < 0 := fun z => c (lt_I.mpr z)
    have em := nI_tn (x := y) (by omega)
    have hm : tn y < 4 := by
      have : y.toInt < 4 := lt_I.mp d
      unfold tn; omega
    have ts := (h.sx.2.2.2.2.2.2 t ht).2
    refine ⟨ts.1, Λ (tc t + 1), ts.2.1, ?_, ?_⟩
    · rw [em]; exact ar_nI ts.2.2.1 ts.2.2.2.1 (by omega) (by omega)
    · rw [show Int32.toNatClampNeg y = tn y from rfl, (ts.2.2.2.2 (tn y) hm).1]
      exact hy t _ ht hm e em
  · exact d (lt_I.mpr w.2.2)
theorem m_isTest {Λ : Nat → Nat} {M : Mm} {σ τ : Sg} {N : Nat} {Q : Int32 → Mm → Prop} {x : Int32} (h : Inv Λ M σ τ) (rg : Rg τ N) (hn : ¬ isT τ x → Q 0 M) (hy : ∀ t, t < sT τ → x = nI t → Q 1 M) : B_X6_isTest_0 Q (Λ 400) x M := by
  have hT := rg.2.1.2
  have e4 : gI M (Λ 400) 4 = τ.1 0 7 := h.g0 4 (by omega) rfl
  have es : (nI (sT τ) - 1).toInt = (sT τ : Int) - 1 := by
    have h1 : (1 : Int32).toInt = 1 := by decide
    rw [subI (by rw [nI_toInt (by omega), h1]; omega) (by rw [nI_toInt (by omega), h1]; omega), nI_toInt (by omega), h1]
  unfold B_X6_isTest_0
  rw [e4, rg.2.1.1]
  refine ⟨h.m0, m_in (fun c => ⟨Or.inl rfl, hn (fun z => ?_)⟩) (fun c d => ⟨Or.inr rfl, ?_⟩)⟩
  · rcases c with c | c
    · rw [lt_I] at c; exact absurd z.1 (Int.not_le.mpr c)
    · rw [lt_I, es] at c; have := z.2; omega
  · have c' : ¬ x.toInt < 0 := fun z => c (lt_I.mpr z)
    rw [lt_I, es] at d
    refine hy (tn x) (by unfold tn; omega) (nI_tn (by omega))
theorem m_isRow {Λ : Nat → Nat} {M : Mm} {σ τ : Sg} {N : Nat} {Q : Int32 → Mm → Prop} {x y : Int32} (h : Inv Λ M σ τ) (rg : Rg τ N) (hn : ¬ isR τ x y → Q 0 M) (hy : ∀ t m, t < sT τ → m < 4 → x = nI t → y = nI m → Q 1 M) : B_X6_isRow_0 Q (Λ 400) x y M := by
  unfold B_X6_isRow_0
  refine ⟨h.m0, m_isTest h rg (fun z => z0 (hn (fun w => z w.1))) (fun t ht e => z1 ?_)⟩
  refine m_in (fun c => z0 (hn (fun w => ?_))) (fun c d => z1 (hy t (tn y) ht ?_ e (nI_tn ?_)))
  · rcases c with c | c
    · rw [lt_I] at c; exact absurd w.2.1 (Int.not_le.mpr c)
    · rw [lt_I, show (3 : Int32).toInt = 3 from rfl] at c; have := w.2.2; omega
  · have c' : ¬ y.toInt < 0 := fun z => c (lt_I.mpr z)
    rw [lt_I, show (3 : Int32).toInt = 3 from rfl] at d
    unfold tn; omega
  · exact Int.not_lt.mp (fun z => c (lt_I.mpr z))
-- 2 builds
def s_builds (σ : Sg) (n : Int32) : Int32 × Sg := if n < σ.1 0 6 ∨ (40 : Int32) < n then (-1, σ) else (n, uI σ 0 6 n)
theorem x_builds {Λ : Nat → Nat} {M : Mm} {σ τ : Sg} {Q : Int32 → Mm → Prop} {n : Int32} (h : Inv Λ M σ τ) (hQ : ∀ M', Inv Λ M' (s_builds σ n).2 τ → Q (s_builds σ n).1 M') : B_X5_builds_0 Q (Λ 0) n M := by
  unfold B_X5_builds_0
  unfold s_builds at hQ
  rw [h.f0]
  refine ⟨h.o0, fun c => ?_, fun c => ⟨fun d => ?_, fun d => ?_⟩⟩
  · rw [if_pos (Or.inl c)] at hQ; exact hQ M h
  · rintro _ rfl
    rw [if_neg (fun z => z.elim c (fun w => absurd d (Int32.not_le.mpr w)))] at hQ; exact hQ _ (h.x0 6 n (by omega))
  · rw [if_pos (Or.inr (Int32.not_le.mp d))] at hQ; exact hQ M h
theorem m_builds {Λ : Nat → Nat} {M : Mm} {σ τ : Sg} {Q : Int32 → Mm → Prop} {n : Int32} (h : Inv Λ M σ τ) (hT : sT σ ≤ 8) (hQ : ∀ M', Inv Λ M' σ (s_builds τ n).2 → Q (s_builds τ n).1 M') : B_X6_builds_0 Q (Λ 400) n M := by
  unfold B_X6_builds_0
  unfold s_builds at hQ
  rw [show gI M (Λ 400) 3 = τ.1 0 6 from h.g0 3 (by omega) rfl]
  refine ⟨h.m0, m_in (fun c => z0' ?_) (fun c d => z1' ⟨h.m0, ?_⟩)⟩
  · rw [if_pos c] at hQ; exact hQ M h
  · rintro _ rfl
    rw [if_neg (fun z => z.elim c d)] at hQ; exact hQ _ (h.y0 hT 3 n (by omega) rfl)
theorem r_builds {σ : Sg} {N : Nat} {n : Int32} (h : Rg σ N) : Rg (s_builds σ n).2 N := by
  unfold s_builds
  split
  · exact h
  · next c =>
    have c1 : ¬ n < σ.1 0 6 := fun z => c (Or.inl z)
    have c2 : ¬ (40 : Int32) < n := fun z => c (Or.inr z)
    obtain ⟨⟨a1, a2⟩, h2, h3, h4, h5, h6, h7, h8, h9, h10⟩ := h
    rw [a1, lt_I, nI_toInt (by omega)] at c1
    rw [lt_I, show (40 : Int32).toInt = 40 from rfl] at c2
    have f : ∀ k, k ≠ 6 → (uI σ 0 6 n).1 0 k = σ.1 0 k := fun k hk => by rw [uI_eq, upd_ne _ _ hk]
    have f6 : (uI σ 0 6 n).1 0 6 = n := by rw [uI_eq, upd_eq]
    have g : ∀ a, a ≠ 0 → (uI σ 0 6 n).1 a = σ.1 a := fun a ha => uI_ne _ _ _ ha
    refine ⟨?_, ?_, ?_, ?_, fun r hr => by rw [g _ (by omega)]; exact h5 r hr, by rw [g _ (by omega)]; exact h6, ?_, fun r hr => by rw [g _ (by omega)]; exact h8 r hr, by rw [f 10 (by omega)]; exact h9, by unfold Hv; rw [g _ (by omega)]; exact h10⟩
    · show (uI σ 0 6 n).1 0 6 = nI (((uI σ 0 6 n).1 0 6).toInt.toNat) ∧ ((uI σ 0 6 n).1 0 6).toInt.toNat ≤ 40
      rw [f6]; exact ⟨nI_tn (by omega), by omega⟩
    · unfold sT; rw [f 7 (by omega)]; exact h2
    · unfold sP; rw [f 8 (by omega)]; exact h3
    · unfold sR; rw [f 9 (by omega)]; exact h4
    · unfold sT; rw [f 7 (by omega), g _ (by omega)]; exact h7
-- 12 price, 17 reach
def s_set (σ : Sg) (k : Nat) (b n : Int32) : Int32 × Sg := if n < 0 ∨ b < n then (-1, σ) else (σ.1 0 k, uI σ 0 k n)
theorem x_price {Λ : Nat → Nat} {M : Mm} {σ τ : Sg} {Q : Int32 → Mm → Prop} {n : Int32} (h : Inv Λ M σ τ) (hQ : ∀ M', Inv Λ M' (s_set σ 8 1000 n).2 τ → Q (s_set σ 8 1000 n).1 M') : B_X5_price_0 Q (Λ 0) n M := by
  unfold B_X5_price_0
  unfold s_set at hQ
  refine x_within (fun c => z0' ?_) (fun c d => z1' ⟨h.o0, ?_⟩)
  · rw [if_pos c] at hQ; exact hQ M h
  · rintro _ rfl
    rw [if_neg (fun z => z.elim c d)] at hQ; rw [h.f0]; exact hQ _ (h.x0 8 n (by omega))
theorem x_reach {Λ : Nat → Nat} {M : Mm} {σ τ : Sg} {Q : Int32 → Mm → Prop} {n : Int32} (h : Inv Λ M σ τ) (hQ : ∀ M', Inv Λ M' (s_set σ 9 5 n).2 τ → Q (s_set σ 9 5 n).1 M') : B_X5_reach_0 Q (Λ 0) n M := by
  unfold B_X5_reach_0
  unfold s_set at hQ
  refine x_within (fun c => z0' ?_) (fun c d => z1' ⟨h.o0, ?_⟩)
  · rw [if_pos c] at hQ; exact hQ M h
  · rintro _ rfl
    rw [if_neg (fun z => z.elim c d)] at hQ; rw [h.f0]; exact hQ _ (h.x0 9 n (by omega))
theorem m_price {Λ : Nat → Nat} {M : Mm} {σ τ : Sg} {Q : Int32 → Mm → Prop} {n : Int32} (h : Inv Λ M σ τ) (hT : sT σ ≤ 8) (hQ : ∀ M', Inv Λ M' σ (s_set τ 8 1000 n).2 → Q (s_set τ 8 1000 n).1 M') : B_X6_price_0 Q (Λ 400) n M := by
  unfold B_X6_price_0
  unfold s_set at hQ
  refine m_in (fun c => z0' ?_) (fun c d => z1' ⟨h.m0, ?_⟩)
  · rw [if_pos c] at hQ; exact hQ M h
  · rintro _ rfl
    rw [if_neg (fun z => z.elim c d)] at hQ; rw [show gI M (Λ 400) 13 = τ.1 0 8 from h.g0 13 (by omega) rfl]; exact hQ _ (h.y0 hT 13 n (by omega) rfl)
theorem m_reach {Λ : Nat → Nat} {M : Mm} {σ τ : Sg} {Q : Int32 → Mm → Prop} {n : Int32} (h : Inv Λ M σ τ) (hT : sT σ ≤ 8) (hQ : ∀ M', Inv Λ M' σ (s_set τ 9 5 n).2 → Q (s_set τ 9 5 n).1 M') : B_X6_reach_0 Q (Λ 400) n M := by
  unfold B_X6_reach_0
  unfold s_set at hQ
  refine m_in (fun c => z0' ?_) (fun c d => z1' ⟨h.m0, ?_⟩)
  · rw [if_pos c] at hQ; exact hQ M h
  · rintro _ rfl
    rw [if_neg (fun z => z.elim c d)] at hQ; rw [show gI M (Λ 400) 14 = τ.1 0 9 from h.g0 14 (by omega) rfl]; exact hQ _ (h.y0 hT 14 n (by omega) rfl)
theorem r_set {σ : Sg} {N : Nat} {n b : Int32} {k : Nat} (h : Rg σ N) (hk : (k = 8 ∧ b = 1000) ∨ (k = 9 ∧ b = 5)) : Rg (s_set σ k b n).2 N := by
  unfold s_set
  split
  · exact h
  · next c =>
    have c1 : ¬ n < 0 := fun z => c (Or.inl z)
    have c2 : ¬ b < n := fun z => c (Or.inr z)
    rw [lt_I] at c1 c2
    have c1' : ¬ n.toInt < 0 := c1
    obtain ⟨h1, h2, h3, h4, h5, h6, h7, h8, h9, h10⟩ := h
    have f : ∀ j, j ≠ k → (uI σ 0 k n).1 0 j = σ.1 0 j := fun j hj => by rw [uI_eq, upd_ne _ _ hj]
    have fk : (uI σ 0 k n).1 0 k = n := by rw [uI_eq, upd_eq]
    have g : ∀ a, a ≠ 0 → (uI σ 0 k n).1 a = σ.1 a := fun a ha => uI_ne _ _ _ ha
    refine ⟨by unfold sB; rw [f 6 (by omega)]; exact h1, by unfold sT; rw [f 7 (by omega)]; exact h2, ?_, ?_, fun r hr => by rw [g _ (by omega)]; exact h5 r hr, by rw [g _ (by omega)]; exact h6, by unfold sT; rw [f 7 (by omega), g _ (by omega)]; exact h7, fun r hr => by rw [g _ (by omega)]; exact h8 r hr, by rw [f 10 (by omega)]; exact h9, by unfold Hv; rw [g _ (by omega)]; exact h10⟩
    · unfold sP
      rcases hk with ⟨rfl, rfl⟩ | ⟨rfl, rfl⟩
      · rw [fk]; rw [show (1000 : Int32).toInt = 1000 from rfl] at c2; exact ⟨nI_tn (by omega), by omega⟩
      · rw [f 8 (by omega)]; exact h3
    · unfold sR
      rcases hk with ⟨rfl, rfl⟩ | ⟨rfl, rfl⟩
      · rw [f 9 (by omega)]; exact h4
      · rw [fk]; rw [show (5 : Int32).toInt = 5 from rfl] at c2; exact ⟨nI_tn (by omega), by omega⟩
-- 4 is
def s_is (σ : Sg) (x k : Int32) : Int32 := if isT σ x then if k < 0 ∨ (2 : Int32) < k then -1 else if k = 0 ∨ k = σ.1 20 (tn x) then 1 else 0 else -1
theorem x_is {Λ : Nat → Nat} {M : Mm} {σ τ : Sg} {N : Nat} {Q : Int32 → Mm → Prop} {x k : Int32} (h : Inv Λ M σ τ) (rg : Rg σ N) (hQ : Q (s_is σ x k) M) : B_X5_is_0 Q (Λ 0) x k M := by
  have hT := rg.2.1.2
  unfold B_X5_is_0
  unfold s_is at hQ
  refine ⟨h.o0, x_findTest h rg (fun z => ⟨fun _ => by rw [if_neg z] at hQ; exact hQ, fun _ e => by cases e⟩) (fun t ht e => ⟨fun z => (by cases z), fun a ea => ?_⟩)⟩
  cases ea
  have ht' : isT σ x := by rw [e]; unfold isT; rw [nI_toInt (by omega)]; omega
  rw [if_pos ht'] at hQ
  have ek : gI M (Λ (tc t)) 0 = σ.1 20 (tn x) := by rw [e, tn_nI (by omega)]; exact (h.cx.2.2.2.2.2 t ht).1
  unfold B_X5_isKind_0
  refine x_within (fun c => ⟨Or.inl rfl, z0' ?_⟩) (fun c d => ⟨Or.inr rfl, z1' ⟨fun c0 => ?_, fun c0 => ⟨(h.sx.2.2.2.2.2.2 t ht).2.1, fun c1 => ?_, fun c1 => ?_⟩⟩⟩)
  · rw [if_pos c] at hQ; exact hQ
  · rw [if_neg (fun z => z.elim c d), if_pos (Or.inl c0)] at hQ; exact hQ
  · rw [ek] at c1; rw [if_neg (fun z => z.elim c d), if_neg (fun z => z.elim c0 c1)] at hQ; exact hQ
  · rw [ek] at c1; rw [if_neg (fun z => z.elim c d), if_pos (Or.inr c1)] at hQ; exact hQ
theorem m_is {Λ : Nat → Nat} {M : Mm} {σ τ : Sg} {N : Nat} {Q : Int32 → Mm → Prop} {x k : Int32} (h : Inv Λ M σ τ) (rg : Rg τ N) (hQ : Q (s_is τ x k) M) : B_X6_is_0 Q (Λ 400) x k M := by
  have hT := rg.2.1.2
  unfold B_X6_is_0
  unfold s_is at hQ
  refine ⟨h.m0, m_isTest h rg (fun z => z0 (by rw [if_neg z] at hQ; exact hQ)) (fun t ht e => z1 ?_)⟩
  have ht' : isT τ x := by rw [e]; unfold isT; rw [nI_toInt (by omega)]; omega
  rw [if_pos ht'] at hQ
  have et : tn x = t := by rw [e, tn_nI (by omega)]
  refine m_in (fun c => z0' ?_) (fun c d => z1' ⟨fun c0 => ?_, fun c0 => ⟨h.m0, Λ 402, h.ms.r 2 (by omega) (by omega), by rw [e]; exact h.ms.a 2 (by omega) (by omega) (show t < 8 by omega), ?_⟩⟩)
  · rw [if_pos c] at hQ; exact hQ
  · rw [if_neg (fun z => z.elim c d), if_pos (Or.inl c0)] at hQ; exact hQ
  · rw [h.cm.2.2.1.2.2.1, show Int32.toNatClampNeg x = tn x from rfl]
    rw [if_neg (fun z => z.elim c d)] at hQ
    refine ⟨fun c1 => ?_, fun c1 => ?_⟩
    · rw [if_neg (fun z => z.elim c0 (fun w => c1 w.symm))] at hQ; exact hQ
    · rw [if_pos (Or.inr c1.symm)] at hQ; exact hQ
-- 22 cried
def s_cried (σ : Sg) (x : Int32) : Int32 := if x < 0 ∨ σ.1 0 10 ≤ x ∨ (300 : Int32) ≤ x then -9 else σ.1 3 (tn x)
theorem x_cried {Λ : Nat → Nat} {M : Mm} {σ τ : Sg} {Q : Int32 → Mm → Prop} {x : Int32} (h : Inv Λ M σ τ) (hQ : Q (s_cried σ x) M) : B_X5_cried_0 Q (Λ 0) x M := by
  unfold B_X5_cried_0
  unfold s_cried at hQ
  rw [h.f0]
  refine ⟨fun c => ?_, fun c => ⟨h.o0, fun d => ?_, fun d => ⟨fun f => ?_, fun f => ⟨Λ 3, h.sx.2.2.2.1.1, ?_, ?_⟩⟩⟩⟩
  · rw [if_pos (Or.inl c)] at hQ; exact hQ
  · rw [if_pos (Or.inr (Or.inl d))] at hQ; exact hQ
  · rw [if_pos (Or.inr (Or.inr f))] at hQ; exact hQ
  · have c' : ¬ x.toInt < 0 := fun z => c (lt_I.mpr z)
    rw [le_I, show (300 : Int32).toInt = 300 from rfl] at f
    rw [nI_tn (x := x) (by omega)]; exact ar_nI h.sx.2.2.2.1.2.1 h.sx.2.2.2.1.2.2 (by unfold tn; omega) (by omega)
  · rw [if_neg (fun z => z.elim c (fun w => w.elim d f))] at hQ
    rw [h.cx.2.2.1]; exact hQ
theorem m_cried {Λ : Nat → Nat} {M : Mm} {σ τ : Sg} {N : Nat} {Q : Int32 → Mm → Prop} {x : Int32} (h : Inv Λ M σ τ) (rg : Rg τ N) (hN : N ≤ 1000) (hQ : Q (s_cried τ x) M) : B_X6_cried_0 Q (Λ 400) x M := by
  unfold B_X6_cried_0
  unfold s_cried at hQ
  obtain ⟨A, eA, hA⟩ := rg.2.2.2.2.2.2.2.2.1
  rw [show gI M (Λ 400) 30 = τ.1 0 10 from h.g0 30 (by omega) rfl, eA]
  rw [eA] at hQ
  have key : ∀ K : Nat, K ≤ 300 → K = min A 300 → B_X6_cried_22 Q (Λ 400) x x 0 (nI K) M := by
    intro K hK hK2
    have es : (nI K - 1).toInt = (K : Int) - 1 := by
      have h1 : (1 : Int32).toInt = 1 := by decide
      rw [subI (by rw [nI_toInt (by omega), h1]; omega) (by rw [nI_toInt (by omega), h1]; omega), nI_toInt (by omega), h1]
    unfold B_X6_cried_22
    refine m_in (fun c => z0 ?_) (fun c d => z1 ⟨h.m0, Λ 418, h.ms.r 18 (by omega) (by omega), ?_, ?_⟩)
    · rw [if_pos] at hQ
      · exact hQ
      · rcases c with c | c
        · exact Or.inl c
        · rw [lt_I, es] at c
          by_cases z : x < 0
          · exact Or.inl z
          · rw [le_I, le_I, nI_toInt (by omega), show (300 : Int32).toInt = 300 from rfl]; right; omega
    · have c' : ¬ x.toInt < 0 := fun z => c (lt_I.mpr z)
      rw [lt_I, es] at d
      rw [nI_tn (x := x) (by omega)]; exact h.ms.a 18 (by omega) (by omega) (show tn x < 300 by unfold tn; omega)
    · have c' : ¬ x.toInt < 0 := fun z => c (lt_I.mpr z)
      rw [lt_I, es] at d
      rw [if_neg] at hQ
      · rw [h.cm.2.2.1.2.1]; exact hQ
      · intro z
        rw [le_I, le_I, nI_toInt (by omega), show (300 : Int32).toInt = 300 from rfl] at z
        rcases z with z | z
        · exact c z
        · omega
  refine ⟨h.m0, fun c => ?_, fun c => ?_⟩
  · have : 300 ≤ A := (nI_leI (a := 300) (by omega) (by omega)).mp c
    exact key 300 (by omega) (by omega)
  · have : ¬ 300 ≤ A := fun z => c ((nI_leI (a := 300) (by omega) (by omega)).mpr z)
    exact key A (by omega) (by omega)
-- 28 .. 30, 32, 33
theorem x_findings {Λ : Nat → Nat} {M : Mm} {σ τ : Sg} {Q : Int32 → Mm → Prop} {x : Int32} (h : Inv Λ M σ τ) (hQ : Q (if x < 1 ∨ (5 : Int32) < x then -1 else σ.1 2 (tn x)) M) : B_X5_findings_0 Q (Λ 0) x M := by
  unfold B_X5_findings_0
  refine ⟨fun c => ?_, fun c => ⟨fun d => ?_, fun d => ⟨h.o0, Λ 2, h.sx.2.2.1.1, ?_, ?_⟩⟩⟩
  · rw [if_pos (Or.inl c)] at hQ; exact hQ
  · rw [if_pos (Or.inr d)] at hQ; exact hQ
  · rw [lt_I, show (1 : Int32).toInt = 1 from rfl] at c
    rw [lt_I, show (5 : Int32).toInt = 5 from rfl] at d
    rw [nI_tn (x := x) (by omega)]; exact ar_nI h.sx.2.2.1.2.1 h.sx.2.2.1.2.2 (by unfold tn; omega) (by omega)
  · rw [if_neg (fun z => z.elim c d)] at hQ; rw [h.cx.2.1]; exact hQ
theorem m_findings {Λ : Nat → Nat} {M : Mm} {σ τ : Sg} {Q : Int32 → Mm → Prop} {x : Int32} (h : Inv Λ M σ τ) (hQ : Q (if x < 1 ∨ (5 : Int32) < x then -1 else τ.1 2 (tn x)) M) : B_X6_findings_0 Q (Λ 400) x M := by
  unfold B_X6_findings_0
  refine m_in (fun c => z0 ?_) (fun c d => z1 ⟨h.m0, Λ 401, h.ms.r 1 (by omega) (by omega), ?_, ?_⟩)
  · rw [if_pos c] at hQ; exact hQ
  · rw [lt_I, show (1 : Int32).toInt = 1 from rfl] at c
    rw [lt_I, show (5 : Int32).toInt = 5 from rfl] at d
    rw [nI_tn (x := x) (by omega)]; exact h.ms.a 1 (by omega) (by omega) (show tn x < 6 by unfold tn; omega)
  · rw [if_neg (fun z => z.elim c d)] at hQ; rw [h.cm.2.2.1.1]; exact hQ
