/-! PURE, 2: insertion, medians, and what one more number costs -/
def sm (f : Nat → Int) : Nat → Int
  | 0 => 0
  | n + 1 => sm f n + f n
theorem sm_congr {f g : Nat → Int} : ∀ {n : Nat}, (∀ i, i < n → f i = g i) → sm f n = sm g n
  | 0, _ => rfl
  | n + 1, h => by rw [sm, sm, sm_congr (fun i hi => h i (by omega)), h n (by omega)]
theorem sm_le {f g : Nat → Int} : ∀ {n : Nat}, (∀ i, i < n → f i ≤ g i) → sm f n ≤ sm g n
  | 0, _ => Int.le_refl _
  | n + 1, h => by
    have h1 := sm_le (f := f) (g := g) (n := n) (fun i hi => h i (by omega))
    have h2 := h n (by omega)
    simp only [sm]; omega
theorem sm_add (f g : Nat → Int) : ∀ n, sm (fun i => f i + g i) n = sm f n + sm g n
  | 0 => rfl
  | n + 1 => by simp only [sm, sm_add f g n]; omega
theorem sm_sub (f g : Nat → Int) : ∀ n, sm (fun i => f i - g i) n = sm f n - sm g n
  | 0 => rfl
  | n + 1 => by simp only [sm, sm_sub f g n]; omega
theorem sm_zero {f : Nat → Int} {n : Nat} (h : ∀ i, i < n → f i = 0) : sm f n = 0 := by
  induction n with
  | zero => rfl
  | succ n ih => rw [sm, ih (fun i hi => h i (by omega)), h n (by omega)]; rfl
def uZ (f : Nat → Int) (k : Nat) (x : Int) : Nat → Int := fun j => if j = k then x else f j
def insZ (f : Nat → Int) (x : Int) : Nat → Nat → Int
  | 0 => uZ f 0 x
  | h + 1 => if f h ≤ x then uZ f (h + 1) x else insZ (uZ f (h + 1) (f h)) x h
theorem insZ_out (x : Int) : ∀ (h : Nat) (f : Nat → Int) (j : Nat), h < j → insZ f x h j = f j
  | 0, f, j, hj => by simp only [insZ, uZ]; rw [if_neg (by omega)]
  | h + 1, f, j, hj => by
    simp only [insZ]
    split
    · simp only [uZ]; rw [if_neg (by omega)]
    · rw [insZ_out x h _ j (by omega)]; simp only [uZ]; rw [if_neg (by omega)]
theorem insZ_pre (x : Int) : ∀ (h : Nat) (f g : Nat → Int), (∀ i, i < h → f i = g i) → ∀ i, i < h + 1 → insZ f x h i = insZ g x h i
  | 0, f, g, _, i, hi => by
    have : i = 0 := by omega
    subst this; simp [insZ, uZ]
  | h + 1, f, g, hfg, i, hi => by
    have hh := hfg h (by omega)
    simp only [insZ, hh]
    split
    · by_cases e : i = h + 1
      · simp [uZ, e]
      · simp only [uZ, if_neg e]; exact hfg i (by omega)
    · by_cases e : i = h + 1
      · rw [e, insZ_out x h _ _ (by omega), insZ_out x h _ _ (by omega)]; simp [uZ]
      · refine insZ_pre x h _ _ (fun j hj => ?_) i (by omega)
        simp only [uZ, if_neg (show ¬ j = h + 1 by omega)]; exact hfg j (by omega)
theorem insZ_sum (φ : Int → Int) (x : Int) : ∀ (h : Nat) (f : Nat → Int), sm (fun i => φ (insZ f x h i)) (h + 1) = sm (fun i => φ (f i)) h + φ x
  | 0, f => by simp [sm, insZ, uZ]
  | h + 1, f => by
    by_cases c : f h ≤ x
    · simp only [insZ, if_pos c]
      rw [sm]
      congr 1
      · exact sm_congr (fun i hi => by simp only [uZ, if_neg (show ¬ i = h + 1 by omega)])
      · simp [uZ]
    · simp only [insZ, if_neg c]
      rw [sm, insZ_sum φ x h, insZ_out x h _ _ (by omega)]
      have e1 : sm (fun i => φ (uZ f (h + 1) (f h) i)) h = sm (fun i => φ (f i)) h := sm_congr (fun i hi => by simp only [uZ, if_neg (show ¬ i = h + 1 by omega)])
      rw [e1, sm]
      simp only [uZ, if_true]; omega
theorem insZ_bound (x b : Int) : ∀ (h : Nat) (f : Nat → Int), (∀ i, i < h → f i ≤ b) → x ≤ b → ∀ i, i < h + 1 → insZ f x h i ≤ b
  | 0, f, _, hx, i, hi => by
    have : i = 0 := by omega
    subst this; simpa [insZ, uZ] using hx
  | h + 1, f, hf, hx, i, hi => by
    have hh := hf h (by omega)
    simp only [insZ]
    split
    · by_cases e : i = h + 1
      · simpa [uZ, e] using hx
      · simp only [uZ, if_neg e]; exact hf i (by omega)
    · by_cases e : i = h + 1
      · rw [e, insZ_out x h _ _ (by omega)]; simpa [uZ] using hh
      · refine insZ_bound x b h _ (fun j hj => ?_) hx i (by omega)
        simp only [uZ, if_neg (show ¬ j = h + 1 by omega)]; exact hf j (by omega)
def srtd (f : Nat → Int) (h : Nat) : Prop := ∀ i j, i ≤ j → j < h → f i ≤ f j
theorem insZ_srt (x : Int) : ∀ (h : Nat) (f : Nat → Int), srtd f h → srtd (insZ f x h) (h + 1)
  | 0, f, _ => fun i j hij hj => by
    have h1 : i = 0 := by omega
    have h2 : j = 0 := by omega
    subst h1; subst h2; exact Int.le_refl _
  | h + 1, f, hs => fun i j hij hj => by
    by_cases c : f h ≤ x
    · simp only [insZ, if_pos c]
      by_cases ej : j = h + 1
      · by_cases ei : i = h + 1
        · simp [uZ, ei, ej]
        · simp only [uZ, if_neg ei, if_pos ej]
          have := hs i h (by omega) (by omega); omega
      · simp only [uZ, if_neg ej, if_neg (show ¬ i = h + 1 by omega)]; exact hs i j hij (by omega)
    · simp only [insZ, if_neg c]
      have hs' : srtd (uZ f (h + 1) (f h)) h := fun a b hab hb => by
        simp only [uZ, if_neg (show ¬ a = h + 1 by omega), if_neg (show ¬ b = h + 1 by omega)]; exact hs a b hab (by omega)
      by_cases ej : j = h + 1
      · by_cases ei : i = h + 1
        · rw [ei, ej]; exact Int.le_refl _
        · rw [ej, insZ_out x h _ (h + 1) (by omega)]
          have := insZ_bound x (f h) h (uZ f (h + 1) (f h)) (fun a ha => by simp only [uZ, if_neg (show ¬ a = h + 1 by omega)]; exact hs a h (by omega) (by omega)) (by omega) i (by omega)
          simpa [uZ] using this
      · exact insZ_srt x h _ hs' i j hij (by omega)
/-- the first h of e, in order -/
def so (e : Nat → Int) : Nat → Nat → Int
  | 0 => fun _ => 0
  | h + 1 => insZ (so e h) (e h) h
theorem so_sum (φ : Int → Int) (e : Nat → Int) : ∀ h, sm (fun i => φ (so e h i)) h = sm (fun i => φ (e i)) h
  | 0 => rfl
  | h + 1 => by rw [so, insZ_sum φ (e h) h (so e h), so_sum φ e h]; rfl
theorem so_srt (e : Nat → Int) : ∀ h, srtd (so e h) h
  | 0 => fun _ _ _ hj => absurd hj (by omega)
  | h + 1 => insZ_srt (e h) h _ (so_srt e h)
theorem so_congr {e g : Nat → Int} : ∀ {h : Nat}, (∀ i, i < h → e i = g i) → so e h = so g h
  | 0, _ => rfl
  | h + 1, hh => by rw [so, so, so_congr (fun i hi => hh i (by omega)), hh h (by omega)]
def ab (z : Int) : Int := max z (-z)
def FF (e : Nat → Int) (h : Nat) (m : Int) : Int := sm (fun i => ab (e i - m)) h
def clt (e : Nat → Int) (h : Nat) (m : Int) : Int := sm (fun i => if e i < m then 1 else 0) h
def cgt (e : Nat → Int) (h : Nat) (m : Int) : Int := sm (fun i => if m < e i then 1 else 0) h
def isMed (e : Nat → Int) (h : Nat) (m : Int) : Prop := 2 * clt e h m ≤ h ∧ 2 * cgt e h m ≤ h
theorem sm_two (d : Int) (p : Nat → Prop) [DecidablePred p] : ∀ h : Nat, sm (fun i => if p i then -d else d) h = d * (h - 2 * sm (fun i => if p i then 1 else 0) h)
  | 0 => by simp [sm]
  | h + 1 => by
    rw [sm, sm_two d p h, sm]
    by_cases c : p h
    · simp only [if_pos c]
      rw [show ((h + 1 : Nat) : Int) = (h : Int) + 1 by omega, show (h : Int) + 1 - 2 * (sm (fun i => if p i then 1 else 0) h + 1) = (h - 2 * sm (fun i => if p i then 1 else 0) h) + (-1) by omega, Int.mul_add]; omega
    · simp only [if_neg c]
      rw [show ((h + 1 : Nat) : Int) = (h : Int) + 1 by omega, show (h : Int) + 1 - 2 * (sm (fun i => if p i then 1 else 0) h + 0) = (h - 2 * sm (fun i => if p i then 1 else 0) h) + 1 by omega, Int.mul_add]; omega
theorem FF_min {e : Nat → Int} {h : Nat} {m : Int} (hm : isMed e h m) (z : Int) : FF e h m ≤ FF e h z := by
  rcases Int.le_total m z with c | c
  · have h1 : sm (fun i => if m < e i then -(z - m) else (z - m)) h ≤ sm (fun i => ab (e i - z) - ab (e i - m)) h := sm_le (fun i _ => by unfold ab; split <;> omega)
    rw [sm_two (z - m) (fun i => m < e i) h, sm_sub] at h1
    have h2 : 0 ≤ (z - m) * ((h : Int) - 2 * sm (fun i => if m < e i then 1 else 0) h) := Int.mul_nonneg (by omega) (by have := hm.2; unfold cgt at this; omega)
    unfold FF; omega
  · have h1 : sm (fun i => if e i < m then -(m - z) else (m - z)) h ≤ sm (fun i => ab (e i - z) - ab (e i - m)) h := sm_le (fun i _ => by unfold ab; split <;> omega)
    rw [sm_two (m - z) (fun i => e i < m) h, sm_sub] at h1
    have h2 : 0 ≤ (m - z) * ((h : Int) - 2 * sm (fun i => if e i < m then 1 else 0) h) := Int.mul_nonneg (by omega) (by have := hm.1; unfold clt at this; omega)
    unfold FF; omega
theorem FF_eq {e : Nat → Int} {h : Nat} {m z : Int} (hm : isMed e h m) (hz : isMed e h z) : FF e h m = FF e h z := Int.le_antisymm (FF_min hm z) (FF_min hz m)
theorem sm_ind_le {p : Nat → Prop} [DecidablePred p] : ∀ (n k : Nat), (∀ i, k ≤ i → i < n → ¬ p i) → sm (fun i => if p i then 1 else 0) n ≤ k
  | 0, k, _ => by simp only [sm]; omega
  | n + 1, k, h => by
    have h1 := sm_ind_le (p := p) n (min k n) (fun i hi hn => by
      by_cases c : k ≤ n
      · exact h i (by omega) (by omega)
      · exact absurd hi (by omega))
    rw [sm]
    by_cases c : k ≤ n
    · rw [if_neg (h n c (by omega))]; omega
    · split <;> omega
theorem sm_ind_ge {p : Nat → Prop} [DecidablePred p] : ∀ (n k : Nat), k ≤ n → (∀ i, i < k → ¬ p i) → sm (fun i => if p i then 1 else 0) n ≤ n - k
  | 0, k, _, _ => by simp only [sm]; omega
  | n + 1, k, hk, h => by
    rw [sm]
    by_cases c : k ≤ n
    · have h1 := sm_ind_ge (p := p) n k c h
      split <;> omega
    · have e : k = n + 1 := by omega
      have h1 : sm (fun i => if p i then (1 : Int) else 0) n = 0 := sm_zero (fun i hi => if_neg (h i (by omega)))
      rw [h1, if_neg (h n (by omega))]; omega
theorem clt_so {e : Nat → Int} {h k : Nat} (hk : k < h) : clt e h (so e h k) ≤ k := by
  have h1 := so_sum (fun y => if y < so e h k then 1 else 0) e h
  unfold clt
  rw [← h1]
  exact sm_ind_le h k (fun i hi hn => by have := so_srt e h k i hi hn; omega)
theorem cgt_so {e : Nat → Int} {h k : Nat} (hk : k < h) : cgt e h (so e h k) ≤ h - (k + 1) := by
  have h1 := so_sum (fun y => if so e h k < y then 1 else 0) e h
  unfold cgt
  rw [← h1]
  have := sm_ind_ge (p := fun i => so e h k < so e h i) h (k + 1) (by omega) (fun i hi => by have := so_srt e h i k (by omega) hk; omega)
  have e1 : ((h : Int) - ((k + 1 : Nat) : Int)) = (h : Int) - (k + 1) := by omega
  omega
theorem clt_mono {e : Nat → Int} {h : Nat} {a b : Int} (hab : a ≤ b) : clt e h a ≤ clt e h b := sm_le (fun i _ => by split <;> split <;> omega)
theorem cgt_mono {e : Nat → Int} {h : Nat} {a b : Int} (hab : a ≤ b) : cgt e h b ≤ cgt e h a := sm_le (fun i _ => by split <;> split <;> omega)
/-- the cost of the first h of e -/
def CC (e : Nat → Int) (h : Nat) : Int := FF e h (so e h (h / 2))
theorem med_hi (e : Nat → Int) {h : Nat} (hh : 0 < h) : isMed e h (so e h (h / 2)) := by
  have h1 := clt_so (e := e) (h := h) (k := h / 2) (by omega)
  have h2 := cgt_so (e := e) (h := h) (k := h / 2) (by omega)
  exact ⟨by omega, by omega⟩
theorem CC_step (e : Nat → Int) {h : Nat} (hh : 0 < h) : CC e (h + 1) = CC e h + (if e h < so e h ((h - 1) / 2) then so e h ((h - 1) / 2) - e h else if so e h (h / 2) < e h then e h - so e h (h / 2) else 0) := by
  have hi1 := clt_so (e := e) (h := h) (k := h / 2) (by omega)
  have hi2 := cgt_so (e := e) (h := h) (k := h / 2) (by omega)
  have lo1 := clt_so (e := e) (h := h) (k := (h - 1) / 2) (by omega)
  have lo2 := cgt_so (e := e) (h := h) (k := (h - 1) / 2) (by omega)
  have hlh := so_srt e h ((h - 1) / 2) (h / 2) (by omega) (by omega)
  have key : ∀ m : Int, isMed e h m → isMed e (h + 1) m → CC e (h + 1) = CC e h + ab (e h - m) := by
    intro m h1 h2
    unfold CC
    rw [FF_eq (med_hi e (h := h + 1) (by omega)) h2, FF_eq (med_hi e hh) h1]
    rfl
  have c1 : ∀ m : Int, clt e (h + 1) m = clt e h m + if e h < m then 1 else 0 := fun m => rfl
  have c2 : ∀ m : Int, cgt e (h + 1) m = cgt e h m + if m < e h then 1 else 0 := fun m => rfl
  by_cases a1 : e h < so e h ((h - 1) / 2)
  · rw [if_pos a1, key (so e h ((h - 1) / 2)) ⟨by omega, by omega⟩ ⟨by rw [c1, if_pos a1]; omega, by rw [c2, if_neg (by omega)]; omega⟩]
    unfold ab; omega
  · rw [if_neg a1]
    by_cases a2 : so e h (h / 2) < e h
    · rw [if_pos a2, key (so e h (h / 2)) ⟨by omega, by omega⟩ ⟨by rw [c1, if_neg (by omega)]; omega, by rw [c2, if_pos a2]; omega⟩]
      unfold ab; omega
    · rw [if_neg a2]
      have m1 := clt_mono (e := e) (h := h) (a := e h) (b := so e h (h / 2)) (by omega)
      have m2 := cgt_mono (e := e) (h := h) (a := so e h ((h - 1) / 2)) (b := e h) (by omega)
      rw [key (e h) ⟨by omega, by omega⟩ ⟨by rw [c1, if_neg (by omega)]; omega, by rw [c2, if_neg (by omega)]; omega⟩]
      unfold ab; omega
theorem CC_one (e : Nat → Int) : CC e 1 = 0 := by
  simp [CC, FF, sm, so, insZ, uZ, ab]
