/-! PURE, 36: cry: what a run of it does to the state; bits -/
theorem bt_c : ∀ k, k < 64 → ((nI k).toInt64 &&& 63) = lN k := by decide +kernel
theorem bt_sm : ∀ k, k < 64 → ((lN k).toBitVec.smod 64).toNat = k := by decide +kernel
theorem bt_one : ∀ k, k < 64 → ((1 : Int64) <<< ((nI k).toInt64 &&& 63)).toBitVec = BitVec.twoPow 64 k := by decide +kernel
theorem bt_get {w : Int64} {b : Nat} (hb : b < 64) : lg_cmp ((w >>> (Int32.toInt64 (nI b) &&& 63)) &&& (1 : Int64)) (0 : Int64) = 0 ↔ w.toBitVec.getLsbD b = false := by
  rw [leq0, bt_c b hb, ← Int64.toBitVec_inj, Int64.toBitVec_and, Int64.toBitVec_shiftRight, BitVec.sshiftRight_eq', bt_sm b hb]
  have hk : (w.toBitVec.sshiftRight b).getLsbD 0 = w.toBitVec.getLsbD b := by rw [BitVec.getLsbD_sshiftRight]; simp [hb]
  show w.toBitVec.sshiftRight b &&& 1#64 = 0#64 ↔ _
  constructor
  · intro h
    have t := congrArg (fun x => x.getLsbD 0) h
    simp only [BitVec.getLsbD_and, hk] at t
    simpa using t
  · intro h
    apply BitVec.eq_of_getLsbD_eq
    intro i hi
    rw [BitVec.getLsbD_and]
    by_cases e : i = 0
    · subst e; rw [hk, h]; simp
    · simp [BitVec.getLsbD_one, e]
theorem bt_set {w : Int64} {b j : Nat} (hb : b < 64) (hj : j < 64) : (w ||| ((1 : Int64) <<< (Int32.toInt64 (nI b) &&& 63))).toBitVec.getLsbD j = (w.toBitVec.getLsbD j || decide (b = j)) := by
  rw [Int64.toBitVec_or, bt_one b hb, BitVec.getLsbD_or, BitVec.getLsbD_twoPow]
  simp [hb]
def al (t m b : Nat) : Int32 := nI (1000 * t + 100 * m + b)
theorem al_eq (t m b : Nat) : (((1000 : Int32) * nI t) + ((100 : Int32) * nI m)) + nI b = al t m b := by
  rw [show (1000 : Int32) = nI 1000 from rfl, show (100 : Int32) = nI 100 from rfl, pk_mul, pk_mul, nI_add, nI_add]; rfl
theorem al_ne {t m b : Nat} (ht : t < 8) (hm : m < 4) (hb : b < 40) (h0 : 0 < b) : ¬ al t m b = 0 ∧ ¬ al t m b = -9 := by
  have e : (al t m b).toInt = (1000 * t + 100 * m + b : Nat) := nI_toInt (by omega)
  refine ⟨fun z => ?_, fun z => ?_⟩
  · rw [z] at e; have : (0 : Int32).toInt = 0 := rfl; omega
  · rw [z] at e; have : (-9 : Int32).toInt = -9 := rfl; omega
/-- an alarm is kept -/
def ka (σ : Sg) (a : Int32) : Sg := uI (if (300 : Int32) ≤ σ.1 0 10 then σ else uI σ 3 (tn (σ.1 0 10)) a) 0 10 (σ.1 0 10 + 1)
def cy1 (σ : Sg) (r b : Nat) (a : Int32) : Sg := ka (uI σ (200 + r) b 1) a
theorem ka_0 (σ : Sg) (a : Int32) : (ka σ a).1 0 = upd (σ.1 0) 10 (σ.1 0 10 + 1) := by
  unfold ka; rw [uI_eq]; split
  · rfl
  · rw [uI_ne _ _ _ (by omega)]
theorem ka_a (σ : Sg) (a : Int32) {c : Nat} (h0 : c ≠ 0) (h3 : c ≠ 3) : (ka σ a).1 c = σ.1 c := by
  unfold ka; rw [uI_ne _ _ _ h0]; split
  · rfl
  · rw [uI_ne _ _ _ h3]
theorem ka_2 (σ : Sg) (a : Int32) : (ka σ a).2 = σ.2 := by
  unfold ka; show (if _ then σ else _).2 = _; split <;> rfl
theorem c1_0 (σ : Sg) (r b : Nat) (a : Int32) : (cy1 σ r b a).1 0 = upd (σ.1 0) 10 (σ.1 0 10 + 1) := by unfold cy1; rw [ka_0, uI_ne _ _ _ (by omega)]
theorem c1_r (σ : Sg) (r b : Nat) (a : Int32) : (cy1 σ r b a).1 (200 + r) = upd (σ.1 (200 + r)) b 1 := by unfold cy1; rw [ka_a _ _ (by omega) (by omega), uI_eq]
theorem c1_a (σ : Sg) (r b : Nat) (a : Int32) {c : Nat} (h0 : c ≠ 0) (h3 : c ≠ 3) (hr : c ≠ 200 + r) : (cy1 σ r b a).1 c = σ.1 c := by unfold cy1; rw [ka_a _ _ h0 h3, uI_ne _ _ _ hr]
theorem c1_2 (σ : Sg) (r b : Nat) (a : Int32) : (cy1 σ r b a).2 = σ.2 := by unfold cy1; rw [ka_2]; rfl
/-- what makes the step at cut i of row (t, m) an alarm: its size and that it was not undone; its odds; what is looked at before the odds are -/
abbrev sta (σ : Sg) (t m : Nat) (s : Int32) (i : Nat) : Prop := (0 < zZ (sV σ (4 * t + m)) (sB σ) (sP σ) i ∧ s.toInt ≤ zZ (sV σ (4 * t + m)) (sB σ) (sP σ) i) ∧ ¬ (σ.1 20 t = 1 ∧ ¬ unV (sV σ (4 * t + m)) (sB σ) (sP σ) i = -9)
abbrev rar (σ : Sg) (t m : Nat) (u l : Int32) (i : Nat) : Prop := 20 < oN (sV σ (4 * t + m)) (sB σ) (sP σ) i ∨ zW (sV σ (4 * t + m)) (sB σ) (sP σ) i * tn l ≤ zA (sV σ (4 * t + m)) (sB σ) (sP σ) i * tn u
abbrev rch (σ0 : Sg) (t m : Nat) (s : Int32) (σ : Sg) (i : Nat) : Prop := sta σ0 t m s i ∧ sOwn σ0 t m i = false ∧ σ.1 (200 + (4 * t + m)) (cb (sV σ0 (4 * t + m)) (sB σ0) (sP σ0) i) = 0
abbrev Ws : Type := Sg × Int32 × Nat
def cyR (σ0 : Sg) (t m : Nat) (s u l : Int32) (σ : Sg) : Nat → Ws
  | 0 => (σ, 0, 0)
  | k + 1 => if rch σ0 t m s (cyR σ0 t m s u l σ k).1 k ∧ rar σ0 t m u l k then (cy1 (cyR σ0 t m s u l σ k).1 (4 * t + m) (cb (sV σ0 (4 * t + m)) (sB σ0) (sP σ0) k) (al t m (cb (sV σ0 (4 * t + m)) (sB σ0) (sP σ0) k)), if (cyR σ0 t m s u l σ k).2.1 = 0 then al t m (cb (sV σ0 (4 * t + m)) (sB σ0) (sP σ0) k) else (cyR σ0 t m s u l σ k).2.1, (cyR σ0 t m s u l σ k).2.2 + 1) else cyR σ0 t m s u l σ k
theorem cyR_y {σ0 : Sg} {t m : Nat} {s u l : Int32} {σ : Sg} {k : Nat} (h : rch σ0 t m s (cyR σ0 t m s u l σ k).1 k ∧ rar σ0 t m u l k) : cyR σ0 t m s u l σ (k + 1) = (cy1 (cyR σ0 t m s u l σ k).1 (4 * t + m) (cb (sV σ0 (4 * t + m)) (sB σ0) (sP σ0) k) (al t m (cb (sV σ0 (4 * t + m)) (sB σ0) (sP σ0) k)), if (cyR σ0 t m s u l σ k).2.1 = 0 then al t m (cb (sV σ0 (4 * t + m)) (sB σ0) (sP σ0) k) else (cyR σ0 t m s u l σ k).2.1, (cyR σ0 t m s u l σ k).2.2 + 1) := by
  rw [cyR, if_pos h]
theorem cyR_n {σ0 : Sg} {t m : Nat} {s u l : Int32} {σ : Sg} {k : Nat} (h : ¬ (rch σ0 t m s (cyR σ0 t m s u l σ k).1 k ∧ rar σ0 t m u l k)) : cyR σ0 t m s u l σ (k + 1) = cyR σ0 t m s u l σ k := by
  rw [cyR, if_neg h]
/-- the first alarm of two runs -/
def fF (f g : Int32) : Int32 := if f = 0 then g else f
def cyRow (σ0 : Sg) (t m : Nat) (s u l : Int32) (w : Ws) : Ws := if σ0.1 21 (4 * t + m) = 0 then w else ((cyR σ0 t m s u l w.1 (zS (sV σ0 (4 * t + m)) (sB σ0) (sP σ0) - 1)).1, fF w.2.1 (cyR σ0 t m s u l w.1 (zS (sV σ0 (4 * t + m)) (sB σ0) (sP σ0) - 1)).2.1, w.2.2 + (cyR σ0 t m s u l w.1 (zS (sV σ0 (4 * t + m)) (sB σ0) (sP σ0) - 1)).2.2)
def cyM (σ0 : Sg) (t : Nat) (s u l : Int32) (w : Ws) : Nat → Ws
  | 0 => w
  | m + 1 => cyRow σ0 t m s u l (cyM σ0 t s u l w m)
def cyT (σ0 : Sg) (s u l : Int32) (w : Ws) : Nat → Ws
  | 0 => w
  | t + 1 => if σ0.1 20 t = 2 then cyT σ0 s u l w t else cyM σ0 t s u l (cyT σ0 s u l w t) 4
def s_cry (σ : Sg) (s u l : Int32) : Int32 × Sg := if (s < 0 ∨ (1000000 : Int32) < s) ∨ (u < 0 ∨ (1000000 : Int32) < u) ∨ (l < 1 ∨ (1000000 : Int32) < l) then (-1, σ) else (nI (cyT σ s u l (σ, 0, 0) (sT σ)).2.2, if (cyT σ s u l (σ, 0, 0) (sT σ)).2.1 = 0 then (cyT σ s u l (σ, 0, 0) (sT σ)).1 else uL (cyT σ s u l (σ, 0, 0) (sT σ)).1 14 (Int32.toInt64 (cyT σ s u l (σ, 0, 0) (sT σ)).2.1))
/-- what a cry leaves as it was, n alarms on -/
def Cy (σ0 : Sg) (A n : Nat) (σ : Sg) : Prop := (∀ k, k ≠ 10 → σ.1 0 k = σ0.1 0 k) ∧ (∀ a, a ≠ 0 → a ≠ 3 → a < 200 → σ.1 a = σ0.1 a) ∧ σ.2 = σ0.2 ∧ (∀ r, 4 * sT σ0 ≤ r → σ.1 (200 + r) = σ0.1 (200 + r)) ∧ (∀ r, r < 32 → ∀ b, b < 40 → bl (σ.1 (200 + r) b)) ∧ σ.1 0 10 = nI (A + n)
section CY
variable {σ0 σ : Sg} {A n N : Nat}
theorem Cy.B (h : Cy σ0 A n σ) : sB σ = sB σ0 := by unfold sB; rw [h.1 6 (by omega)]
theorem Cy.T (h : Cy σ0 A n σ) : sT σ = sT σ0 := by unfold sT; rw [h.1 7 (by omega)]
theorem Cy.P (h : Cy σ0 A n σ) : sP σ = sP σ0 := by unfold sP; rw [h.1 8 (by omega)]
theorem Cy.R (h : Cy σ0 A n σ) : sR σ = sR σ0 := by unfold sR; rw [h.1 9 (by omega)]
theorem Cy.V (h : Cy σ0 A n σ) {r : Nat} (hr : r < 32) : sV σ r = sV σ0 r := h.2.1 _ (by omega) (by omega) (by omega)
theorem Cy.th (h : Cy σ0 A n σ) : σ.1 21 = σ0.1 21 := h.2.1 _ (by omega) (by omega) (by omega)
theorem Cy.kd (h : Cy σ0 A n σ) : σ.1 20 = σ0.1 20 := h.2.1 _ (by omega) (by omega) (by omega)
theorem own_congr {V V' : Nat → Nat → Int32} {th th' : Nat → Bool} {B p r m i : Nat} (hm : m < 4) (h : ∀ o, o < 4 → V o = V' o) (ht : ∀ o, o < 4 → th o = th' o) : ownS V th B p r m i = ownS V' th' B p r m i := by
  have a : ∀ b z k, k ≤ 4 → shO V th B p r m b z k = shO V' th' B p r m b z k := fun b z k => by
    induction k with
    | zero => intro _; rfl
    | succ k ih => intro hk; rw [shO, shO, ih (by omega), h k (by omega), ht k (by omega)]
  have c : ∀ b k, k ≤ 4 → coO V th B m b k = coO V' th' B m b k := fun b k => by
    induction k with
    | zero => intro _; rfl
    | succ k ih => intro hk; rw [coO, coO, ih (by omega), h k (by omega), ht k (by omega)]
  unfold ownS
  rw [h m hm, a _ _ 4 (by omega), c _ 4 (by omega)]
theorem Cy.own (h : Cy σ0 A n σ) {t m i : Nat} (ht : t < 8) (hm : m < 4) : sOwn σ t m i = sOwn σ0 t m i := by
  unfold sOwn
  rw [h.B, h.P, h.R]
  exact own_congr hm (fun o ho => h.V (by omega)) (fun o ho => by unfold sTh; rw [h.th])
theorem Cy.rg (h : Cy σ0 A n σ) (rg : Rg σ0 N) (hA : A ≤ 1280 * N) (hn : n ≤ 1280) : Rg σ (N + 1) := by
  obtain ⟨h1, h2, h3, h4, h5, h6, h7, h8, h9, h10⟩ := rg
  refine ⟨by rw [h.B, h.1 6 (by omega)]; exact h1, by rw [h.T, h.1 7 (by omega)]; exact h2, by rw [h.P, h.1 8 (by omega)]; exact h3, by rw [h.R, h.1 9 (by omega)]; exact h4, fun r hr => by rw [h.2.1 _ (by omega) (by omega) (by omega)]; exact h5 r hr, by rw [h.th]; exact h6, by rw [h.th, h.T]; exact h7, h.2.2.2.2.1, ⟨A + n, h.2.2.2.2.2, by omega⟩, by unfold Hv; rw [h.2.1 9 (by omega) (by omega) (by omega)]; exact h10⟩
theorem Cy.step (h : Cy σ0 A n σ) {r b : Nat} (a : Int32) (hr : r < 4 * sT σ0) (hb : b < 40) : Cy σ0 A (n + 1) (cy1 σ r b a) := by
  obtain ⟨h1, h2, h3, h4, h5, h6⟩ := h
  refine ⟨fun k hk => by rw [c1_0, upd_ne _ _ hk]; exact h1 k hk, fun c c0 c3 c2 => by rw [c1_a _ _ _ _ c0 c3 (by omega)]; exact h2 c c0 c3 c2, by rw [c1_2]; exact h3, fun q hq => by rw [c1_a _ _ _ _ (by omega) (by omega) (by omega)]; exact h4 q hq, fun q hq c hc => ?_, by rw [c1_0, upd_eq, h6, nI_1]; rfl⟩
  by_cases e : q = r
  · subst e
    rw [c1_r]
    by_cases e2 : c = b
    · subst e2; rw [upd_eq]; exact Or.inr rfl
    · rw [upd_ne _ _ e2]; exact h5 q hq c hc
  · rw [c1_a _ _ _ _ (by omega) (by omega) (by omega)]; exact h5 q hq c hc
theorem Cy.start (rg : Rg σ0 N) (hA : σ0.1 0 10 = nI A) : Cy σ0 A 0 σ0 := ⟨fun _ _ => rfl, fun _ _ _ _ => rfl, rfl, fun _ _ => rfl, rg.2.2.2.2.2.2.2.1, hA⟩
theorem cyR_ok {t m : Nat} {s u l : Int32} (rg : Rg σ0 N) (ht : t < sT σ0) (hm : m < 4) (c0 : Cy σ0 A n σ) : ∀ k, k ≤ zS (sV σ0 (4 * t + m)) (sB σ0) (sP σ0) - 1 → Cy σ0 A (n + (cyR σ0 t m s u l σ k).2.2) (cyR σ0 t m s u l σ k).1 ∧ (cyR σ0 t m s u l σ k).2.2 ≤ k ∧ ((cyR σ0 t m s u l σ k).2.2 = 0 ↔ (cyR σ0 t m s u l σ k).2.1 = 0) ∧ ¬ (cyR σ0 t m s u l σ k).2.1 = -9 := by
  intro k
  induction k with
  | zero => intro _; exact ⟨c0, Nat.le_refl _, ⟨fun _ => rfl, fun _ => rfl⟩, by show ¬ (0 : Int32) = -9; decide⟩
  | succ k ih =>
    intro hk
    obtain ⟨a1, a2, a3, a4⟩ := ih (by omega)
    have hT := rg.2.1.2
    have hcb := cb_lt (v := sV σ0 (4 * t + m)) (i := k) rg.1.2 rg.2.2.1.2 (by omega)
    have hB := rg.1.2
    by_cases c : rch σ0 t m s (cyR σ0 t m s u l σ k).1 k ∧ rar σ0 t m u l k
    · rw [cyR_y c]
      have hne := al_ne (t := t) (m := m) (b := cb (sV σ0 (4 * t + m)) (sB σ0) (sP σ0) k) (by omega) hm (by omega) hcb.2
      refine ⟨a1.step _ (by omega) (by omega), by dsimp only; omega, ⟨fun z => absurd z (by dsimp only; omega), fun z => ?_⟩, ?_⟩
      · dsimp only at z
        split at z
        · exact absurd z hne.1
        · next q => exact absurd z q
      · dsimp only
        split
        · exact hne.2
        · exact a4
    · rw [cyR_n c]; exact ⟨a1, by omega, a3, a4⟩
/-- a state on its way through a cry -/
def Wk (σ0 : Sg) (A K : Nat) (w : Ws) : Prop := Cy σ0 A w.2.2 w.1 ∧ w.2.2 ≤ K ∧ (w.2.2 = 0 ↔ w.2.1 = 0) ∧ ¬ w.2.1 = -9
theorem cyRow_ok {t m K : Nat} {s u l : Int32} {w : Ws} (rg : Rg σ0 N) (ht : t < sT σ0) (hm : m < 4) (h : Wk σ0 A K w) : Wk σ0 A (K + 40) (cyRow σ0 t m s u l w) := by
  obtain ⟨h1, h2, h3, h4⟩ := h
  unfold cyRow
  split
  · exact ⟨h1, by omega, h3, h4⟩
  · obtain ⟨a1, a2, a3, a4⟩ := cyR_ok (s := s) (u := u) (l := l) rg ht hm h1 _ (Nat.le_refl _)
    have hz := zS_le (v := sV σ0 (4 * t + m)) rg.1.2 rg.2.2.1.2
    refine ⟨a1, by dsimp only; omega, ?_, ?_⟩
    · dsimp only
      unfold fF
      split
      · next q => rw [← a3]; have := h3.mpr q; omega
      · next q => exact ⟨fun z => absurd (h3.mp (by omega)) q, fun z => absurd z q⟩
    · dsimp only
      unfold fF
      split
      · exact a4
      · exact h4
theorem cyM_ok {t K : Nat} {s u l : Int32} {w : Ws} (rg : Rg σ0 N) (ht : t < sT σ0) (h : Wk σ0 A K w) : ∀ m, m ≤ 4 → Wk σ0 A (K + 40 * m) (cyM σ0 t s u l w m)
  | 0, _ => h
  | m + 1, hm => by
    have := cyRow_ok (s := s) (u := u) (l := l) rg ht (show m < 4 by omega) (cyM_ok (s := s) (u := u) (l := l) rg ht h m (by omega))
    rw [show K + 40 * (m + 1) = K + 40 * m + 40 by omega]; exact this
theorem Wk.mono {K K' : Nat} {w : Ws} (h : Wk σ0 A K w) (hK : K ≤ K') : Wk σ0 A K' w := ⟨h.1, Nat.le_trans h.2.1 hK, h.2.2⟩
theorem cyT_ok {K : Nat} {s u l : Int32} {w : Ws} (rg : Rg σ0 N) (h : Wk σ0 A K w) : ∀ t, t ≤ sT σ0 → Wk σ0 A (K + 160 * t) (cyT σ0 s u l w t)
  | 0, _ => h
  | t + 1, ht => by
    have a := cyT_ok (s := s) (u := u) (l := l) rg h t (by omega)
    rw [cyT]
    split
    · exact a.mono (by omega)
    · have := cyM_ok (s := s) (u := u) (l := l) rg (show t < sT σ0 by omega) a 4 (by omega)
      rw [show K + 160 * (t + 1) = K + 160 * t + 40 * 4 by omega]; exact this
theorem Wk.start (rg : Rg σ0 N) (hA : σ0.1 0 10 = nI A) : Wk σ0 A 0 (σ0, 0, 0) := ⟨Cy.start rg hA, Nat.le_refl _, ⟨fun _ => rfl, fun _ => rfl⟩, by show ¬ (0 : Int32) = -9; decide⟩
theorem r_cry {s u l : Int32} (rg : Rg σ0 N) : Rg (s_cry σ0 s u l).2 (N + 1) := by
  unfold s_cry
  split
  · exact rg.mono (by omega)
  · obtain ⟨A, eA, hA⟩ := rg.2.2.2.2.2.2.2.2.1
    have w := cyT_ok (s := s) (u := u) (l := l) rg (Wk.start rg eA) _ (Nat.le_refl _)
    have hT := rg.2.1.2
    have r := w.1.rg rg hA (by have := w.2.1; omega)
    dsimp only
    split
    · exact r
    · exact r_uL r
theorem rz_cry {s u l : Int32} (rg : Rg σ0 N) (rz : Rz σ0) : Rz (s_cry σ0 s u l).2 := by
  unfold s_cry
  split
  · exact rz
  · obtain ⟨A, eA, hA⟩ := rg.2.2.2.2.2.2.2.2.1
    have w := cyT_ok (s := s) (u := u) (l := l) rg (Wk.start rg eA) _ (Nat.le_refl _)
    have r : Rz (cyT σ0 s u l (σ0, 0, 0) (sT σ0)).1 := fun r hr h4 b hb => by
      rw [w.1.T] at h4
      rw [w.1.2.2.2.1 r h4]; exact rz r hr h4 b hb
    dsimp only
    split
    · exact r
    · exact r
end CY
