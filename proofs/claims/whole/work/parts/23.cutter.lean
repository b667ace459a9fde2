/-! PURE, 4: the cutter: insertion, the way to the middle, the cheapest cuts -/
theorem sm_nn {f : Nat → Int} : ∀ {n : Nat}, (∀ i, i < n → 0 ≤ f i) → 0 ≤ sm f n
  | 0, _ => Int.le_refl _
  | n + 1, h => by have := sm_nn (f := f) (n := n) (fun i hi => h i (by omega)); have := h n (by omega); simp only [sm]; omega
theorem sm_nn0 {f : Nat → Int} : ∀ {n : Nat}, (∀ i, i < n → 0 ≤ f i) → sm f n = 0 → ∀ i, i < n → f i = 0
  | 0, _, _ => fun i hi => absurd hi (by omega)
  | n + 1, h, e => fun i hi => by
    have h1 := sm_nn (f := f) (n := n) (fun i hi => h i (by omega))
    have h2 := h n (by omega)
    simp only [sm] at e
    by_cases c : i = n
    · rw [c]; omega
    · exact sm_nn0 (f := f) (n := n) (fun j hj => h j (by omega)) (by omega) i (by omega)
theorem so_all {e : Nat → Int} {h : Nat} {P : Int → Prop} [DecidablePred P] (hp : ∀ i, i < h → P (e i)) : ∀ i, i < h → P (so e h i) := by
  intro i hi
  have h1 := so_sum (fun y => if P y then 0 else 1) e h
  rw [sm_zero (f := fun i => if P (e i) then (0 : Int) else 1) (fun j hj => if_pos (hp j hj))] at h1
  have h2 := sm_nn0 (f := fun i => if P (so e h i) then (0 : Int) else 1) (fun j _ => by split <;> omega) h1 i hi
  by_cases c : P (so e h i)
  · exact c
  · rw [if_neg c] at h2; omega
theorem CC_rng {e : Nat → Int} {h : Nat} (hp : ∀ i, i < h → 0 ≤ e i ∧ e i ≤ 80) : 0 ≤ CC e h ∧ CC e h ≤ 80 * h := by
  by_cases h0 : h = 0
  · subst h0; simp [CC, FF, sm]
  · have hm := so_all (P := fun y => 0 ≤ y ∧ y ≤ 80) hp (h / 2) (by omega)
    refine ⟨sm_nn (fun i _ => by unfold ab; omega), ?_⟩
    have : ∀ n, n ≤ h → sm (fun i => ab (e i - so e h (h / 2))) n ≤ 80 * n := by
      intro n
      induction n with
      | zero => intro _; simp [sm]
      | succ n ih => intro hn; have := ih (by omega); have := hp n (by omega); simp only [sm]; unfold ab; unfold ab at *; omega
    exact this h (Nat.le_refl h)
def CutSh (Λ : Nat → Nat) (M : Mm) : Prop := ok M (Λ 4) 1 ∧ (∀ j, j < 4 → gR M (Λ 4) j = some (Λ (5 + j))) ∧ (∀ j, j < 4 → ok M (Λ (5 + j)) 7) ∧ ∀ j, j < 4 → gN M (Λ (5 + j)) = 40
theorem CutSh.ch {Λ : Nat → Nat} {M M' : Mm} {S : Nat → Prop} (h : CutSh Λ M) (c : Ch S M M') : CutSh Λ M' := by
  unfold CutSh ok at *
  rw [c.R, c.N, c.K, c.L]; exact h
theorem uZ_upd (f : Nat → Int32) (k : Nat) (x : Int32) : (fun j => (upd f k x j).toInt) = uZ (fun j => (f j).toInt) k x.toInt := by
  funext j; unfold upd uZ; split <;> rfl
theorem x_insert_2 {Λ : Nat → Nat} {x : Int32} : ∀ (p : Nat) (M1 : Mm) (Q : Mm → Prop), p < 40 → CutSh Λ M1 → (∀ M', Ch (fun b => b = Λ 5) M1 M' → (∀ i, (gI M' (Λ 5) i).toInt = insZ (fun j => (gI M1 (Λ 5) j).toInt) x.toInt p i) → Q M') → B_X1_insert_2 Q (p + 1) (Λ 4) x (nI p) M1 := by
  intro p
  induction p with
  | zero =>
    intro M1 Q hp sh hQ
    unfold B_X1_insert_2
    refine ⟨fun _ => ⟨sh.1, Λ 5, sh.2.1 0 (by omega), ar_nI (sh.2.2.1 0 (by omega)) (sh.2.2.2 0 (by omega)) (by omega) (by omega), ?_⟩, fun c => absurd (Int32.le_refl _) c⟩
    rintro _ rfl
    refine hQ _ (Ch.put rfl) (fun i => ?_)
    rw [nI_clamp (by omega), gI_pI_eq]
    exact congrFun (uZ_upd _ _ _) i
  | succ p ih =>
    intro M1 Q hp sh hQ
    unfold B_X1_insert_2
    have hm1 : nI (p + 1) - (1 : Int32) = nI p := nI_pred p
    have a5 : ∀ k, k < 40 → ar M1 (Λ 5) 7 (nI k) := fun k hk => ar_nI (sh.2.2.1 0 (by omega)) (sh.2.2.2 0 (by omega)) hk (by omega)
    refine ⟨fun c => absurd ((nI_leI (b := 0) (by omega) (by omega)).mp c) (by omega), fun _ => ⟨sh.1, Λ 5, sh.2.1 0 (by omega), by rw [hm1]; exact a5 p (by omega), ?_⟩⟩
    rw [hm1, nI_clamp (by omega), nI_clamp (by omega), pk_m1]
    refine ⟨fun c => ⟨sh.1, Λ 5, sh.2.1 0 (by omega), a5 (p + 1) (by omega), ?_⟩, fun c => ⟨a5 p (by omega), a5 (p + 1) (by omega), ?_⟩⟩
    · rintro _ rfl
      refine hQ _ (Ch.put rfl) (fun i => ?_)
      rw [nI_clamp (by omega), gI_pI_eq]
      simp only [insZ]
      rw [if_pos (le_I.mp c)]
      exact congrFun (uZ_upd _ _ _) i
    · rintro _ rfl
      have c1 : Ch (fun b => b = Λ 5) M1 (pI M1 (Λ 5) (p + 1) (gI M1 (Λ 5) p)) := Ch.put rfl
      refine ih _ Q (by omega) (sh.ch c1) (fun M' hc hi => hQ M' (c1.trans hc) (fun i => ?_))
      rw [hi i, gI_pI_eq, uZ_upd]
      simp only [insZ]
      rw [if_neg (fun z => c (le_I.mpr z))]
theorem x_insert {Λ : Nat → Nat} {x : Int32} {p : Nat} {M : Mm} {Q : Mm → Prop} (hp : p < 40) (sh : CutSh Λ M) (hQ : ∀ M', Ch (fun b => b = Λ 5) M M' → (∀ i, (gI M' (Λ 5) i).toInt = insZ (fun j => (gI M (Λ 5) j).toInt) x.toInt p i) → Q M') : B_X1_insert_0 Q (Λ 4) x (nI p) M :=
  ⟨p + 1, x_insert_2 p M Q hp sh hQ⟩
theorem x_far {Λ : Nat → Nat} {x : Int32} {h : Nat} {M : Mm} {Q : Int32 → Mm → Prop} {e : Nat → Int} (hh : h < 40) (sh : CutSh Λ M) (hx : x.toInt = e h) (hs : ∀ i, i < h → (gI M (Λ 5) i).toInt = so e h i) (hr : ∀ i, i < h + 1 → 0 ≤ e i ∧ e i ≤ 1000000) (hQ : ∀ r : Int32, r.toInt = (if h = 0 then 0 else if e h < so e h ((h - 1) / 2) then so e h ((h - 1) / 2) - e h else if so e h (h / 2) < e h then e h - so e h (h / 2) else 0) → Q r M) : B_X1_farFromMiddle_0 Q (Λ 4) x (nI h) M := by
  unfold B_X1_farFromMiddle_0
  by_cases h0 : h = 0
  · subst h0
    exact ⟨fun c => absurd rfl c, fun _ => hQ 0 (by rw [if_pos rfl]; rfl)⟩
  · have hne : ¬ nI h = 0 := nI_ne0 (by omega) (by omega)
    obtain ⟨k, rfl⟩ : ∃ k, h = k + 1 := ⟨h - 1, by omega⟩
    have a5 : ∀ k, k < 40 → ar M (Λ 5) 7 (nI k) := fun k hk => ar_nI (sh.2.2.1 0 (by omega)) (sh.2.2.2 0 (by omega)) hk (by omega)
    have e1 : (nI (k + 1) - (1 : Int32)) / (2 : Int32) = nI (k / 2) := by rw [nI_pred, show (2 : Int32) = nI 2 from rfl, pk_div (by omega) (by omega) (by omega)]
    have e2 : nI (k + 1) / (2 : Int32) = nI ((k + 1) / 2) := by rw [show (2 : Int32) = nI 2 from rfl, pk_div (by omega) (by omega) (by omega)]
    have hlo := hs (k / 2) (by omega)
    have hhi := hs ((k + 1) / 2) (by omega)
    have hrs := so_all (e := e) (h := k + 1) (P := fun y => 0 ≤ y ∧ y ≤ 1000000) (fun i hi => hr i (by omega))
    have hrl := hrs (k / 2) (by omega)
    have hrh := hrs ((k + 1) / 2) (by omega)
    have hre := hr (k + 1) (by omega)
    rw [e1, e2, nI_clamp (by omega), nI_clamp (by omega)]
    rw [show (k + 1 - 1) / 2 = k / 2 by omega] at hQ
    rw [if_neg (by omega)] at hQ
    refine ⟨fun _ => ⟨sh.1, Λ 5, sh.2.1 0 (by omega), a5 _ (by omega), a5 _ (by omega), fun c => ⟨fun c2 => ?_, fun c2 => ?_⟩, fun c => ?_⟩, fun c => absurd c hne⟩
    · rw [le_I] at c c2
      exact hQ 0 (by rw [if_neg (by omega), if_neg (by omega)]; rfl)
    · rw [le_I] at c c2
      refine hQ _ ?_
      rw [subI (by omega) (by omega), if_neg (by omega), if_pos (by omega), hhi, hx]
    · rw [le_I] at c
      refine hQ _ ?_
      rw [subI (by omega) (by omega), if_pos (by omega), hlo, hx]
-- the cheapest way to cut
def cand (n : Nat) (p : Int) (cs : Nat → Nat → Int) (T : Nat → Int × Int × Nat) (i j : Nat) : Int × Int × Nat := (cs i j + (if j < n then p + (T j).1 else 0), if j < n then 1 + (T j).2.1 else 0, j)
def pk (n : Nat) (p : Int) (cs : Nat → Nat → Int) (T : Nat → Int × Int × Nat) (i : Nat) : Nat → Int × Int × Nat
  | 0 => (0, 0, 0)
  | k + 1 => if k = 0 ∨ (cand n p cs T i (i + k + 1)).1 < (pk n p cs T i k).1 ∨ ((cand n p cs T i (i + k + 1)).1 = (pk n p cs T i k).1 ∧ (cand n p cs T i (i + k + 1)).2.1 < (pk n p cs T i k).2.1) then cand n p cs T i (i + k + 1) else pk n p cs T i k
def dpT (n : Nat) (p : Int) (cs : Nat → Nat → Int) : Nat → Nat → Int × Int × Nat
  | 0 => fun _ => (0, 0, 0)
  | d + 1 => fun i => if i + (d + 1) = n then pk n p cs (dpT n p cs d) i (d + 1) else dpT n p cs d i
theorem pk_is (n : Nat) (p : Int) (cs : Nat → Nat → Int) (T : Nat → Int × Int × Nat) (i : Nat) : ∀ k, 0 < k → ∃ j, j < k ∧ pk n p cs T i k = cand n p cs T i (i + j + 1)
  | 0, h => absurd h (by omega)
  | k + 1, _ => by
    simp only [pk]
    split
    · exact ⟨k, by omega, rfl⟩
    · rename_i c
      have hk : 0 < k := by
        rcases Nat.eq_zero_or_pos k with z | z
        · exact absurd (Or.inl z) c
        · exact z
      obtain ⟨j, h1, h2⟩ := pk_is n p cs T i k hk
      exact ⟨j, by omega, h2⟩
theorem pk_congr {n : Nat} {p : Int} {cs : Nat → Nat → Int} {T T' : Nat → Int × Int × Nat} {i : Nat} (h : ∀ j, i < j → j < n → T j = T' j) : ∀ k, pk n p cs T i k = pk n p cs T' i k
  | 0 => rfl
  | k + 1 => by
    have e : cand n p cs T i (i + k + 1) = cand n p cs T' i (i + k + 1) := by
      unfold cand
      by_cases c : i + k + 1 < n
      · simp only [if_pos c, h _ (by omega) c]
      · simp only [if_neg c]
    simp only [pk, e, pk_congr h k]
def csOk (n : Nat) (cs : Nat → Nat → Int) : Prop := ∀ i j, i < j → j ≤ n → 0 ≤ cs i j ∧ cs i j ≤ 3200
theorem dpT_rng {n : Nat} {p : Int} {cs : Nat → Nat → Int} (hc : csOk n cs) (hp : 0 ≤ p ∧ p ≤ 1000) : ∀ (d i : Nat), i < n → n ≤ i + d → (0 ≤ (dpT n p cs d i).1 ∧ (dpT n p cs d i).1 ≤ 4200 * (n - i)) ∧ (0 ≤ (dpT n p cs d i).2.1 ∧ (dpT n p cs d i).2.1 ≤ (n - i)) ∧ i < (dpT n p cs d i).2.2 ∧ (dpT n p cs d i).2.2 ≤ n
  | 0, i, h1, h2 => absurd h1 (by omega)
  | d + 1, i, h1, h2 => by
    simp only [dpT]
    by_cases e : i + (d + 1) = n
    · rw [if_pos e]
      obtain ⟨j, hj, ej⟩ := pk_is n p cs (dpT n p cs d) i (d + 1) (by omega)
      rw [ej]
      unfold cand
      have hcs := hc i (i + j + 1) (by omega) (by omega)
      by_cases c : i + j + 1 < n
      · have ih := dpT_rng hc hp d (i + j + 1) c (by omega)
        simp only [if_pos c]
        omega
      · simp only [if_neg c]
        omega
    · rw [if_neg e]
      exact dpT_rng hc hp d i h1 (by omega)
