/-! PURE, 15: what one machine alone shows -/
theorem i32n {x y : Int32} (h : x.toBitVec.toNat = y.toBitVec.toNat) : x = y := Int32.toBitVec_inj.mp (BitVec.eq_of_toNat_eq h)
theorem tnI (x : Int32) : x.toInt = if 2 * x.toBitVec.toNat < 4294967296 then (x.toBitVec.toNat : Int) else (x.toBitVec.toNat : Int) - 4294967296 := by
  have := BitVec.toInt_eq_toNat_cond x.toBitVec
  exact this
/-- the sign of a number -/
def sg (z : Int) : Int32 := if 0 < z then 1 else if z < 0 then -1 else 0
theorem signum_eq (x : Int32) (h1 : -2147483648 < x.toInt) : (x >>> ((31 : Int32) &&& 31)) ||| (UInt32.toInt32 (Int32.toUInt32 (-x) >>> (Int32.toUInt32 (31 : Int32) &&& Int32.toUInt32 31))) = sg x.toInt := by
  have e1 : (x >>> ((31 : Int32) &&& 31)).toInt = x.toInt >>> 31 := pk_shr x _ 31 (by decide)
  have e2 : (UInt32.toInt32 (Int32.toUInt32 (-x) >>> (Int32.toUInt32 (31 : Int32) &&& Int32.toUInt32 31))).toBitVec.toNat = (-x).toBitVec.toNat / 2 ^ 31 := pk_ushr (-x) 31 31 (by decide)
  rw [Int.shiftRight_eq_div_pow] at e1
  have hn := negI (x := x) (by omega)
  have hr := rngI x
  have ht := tnI (-x)
  have hlt : (-x).toBitVec.toNat < 4294967296 := (-x).toBitVec.isLt
  rw [hn] at ht
  unfold sg
  by_cases c1 : 0 < x.toInt
  · rw [if_pos c1]
    have a : x >>> ((31 : Int32) &&& 31) = 0 := eq_I.mpr (by rw [e1]; show x.toInt / 2147483648 = 0; omega)
    have b : UInt32.toInt32 (Int32.toUInt32 (-x) >>> (Int32.toUInt32 (31 : Int32) &&& Int32.toUInt32 31)) = 1 := i32n (by
      rw [e2]; show (-x).toBitVec.toNat / 2147483648 = 1
      split at ht <;> omega)
    rw [a, b]; decide
  · rw [if_neg c1]
    have b : UInt32.toInt32 (Int32.toUInt32 (-x) >>> (Int32.toUInt32 (31 : Int32) &&& Int32.toUInt32 31)) = 0 := i32n (by
      rw [e2]; show (-x).toBitVec.toNat / 2147483648 = 0
      split at ht <;> omega)
    by_cases c2 : x.toInt < 0
    · rw [if_pos c2]
      have a : x >>> ((31 : Int32) &&& 31) = -1 := eq_I.mpr (by rw [e1]; show x.toInt / 2147483648 = -1; omega)
      rw [a, b]; decide
    · rw [if_neg c2]
      have a : x >>> ((31 : Int32) &&& 31) = 0 := eq_I.mpr (by rw [e1]; show x.toInt / 2147483648 = 0; omega)
      rw [a, b]; decide
/-- the build ahead of which cut i stands -/
def cb (v : Nat → Int32) (B p i : Nat) : Nat := mp v B (zF v B p (i + 1))
/-- does cut i show a step of the sign of z near the build b -/
def nrc (v : Nat → Int32) (B p : Nat) (b : Nat) (z : Int) (rc : Nat) (i : Nat) : Bool := decide (ab ((cb v B p i : Int) - b) ≤ rc ∧ ((0 < z ∧ 0 < zZ v B p i) ∨ (z < 0 ∧ zZ v B p i < 0)))
def shw (v : Nat → Int32) (B p : Nat) (b : Nat) (z : Int) (rc : Nat) : Nat → Bool
  | 0 => false
  | i + 1 => shw v B p b z rc i || nrc v B p b z rc i
def cou (v : Nat → Int32) (B : Nat) (b : Nat) : Bool := decide (0 < mc v B ∧ mp v B 0 < b ∧ b ≤ mp v B (mc v B - 1))
theorem shw_yes {v : Nat → Int32} {B p b rc : Nat} {z : Int} : ∀ {n i : Nat}, i < n → nrc v B p b z rc i = true → shw v B p b z rc n = true
  | 0, i, h, _ => absurd h (by omega)
  | n + 1, i, h, hn => by
    simp only [shw]
    by_cases e : i = n
    · rw [← e, hn]; simp
    · rw [shw_yes (n := n) (by omega) hn]; simp
def bi (b : Bool) : Int32 := if b then 1 else 0
theorem bi_bl (b : Bool) : bl (bi b) := by cases b; exact Or.inl rfl; exact Or.inr rfl
theorem zF_lt {v : Nat → Int32} {B p i : Nat} (hB : B ≤ 40) (hp : p ≤ 1000) (hi : i < zS v B p) : zF v B p i < zF v B p (i + 1) ∧ zF v B p i < mc v B ∧ zF v B p (i + 1) ≤ mc v B := ss_lt (zX_ok hB hp) hi
theorem cb_lt {v : Nat → Int32} {B p i : Nat} (hB : B ≤ 40) (hp : p ≤ 1000) (hi : i + 1 < zS v B p) : cb v B p i < B ∧ 0 < cb v B p i := by
  have h1 := zF_lt (v := v) hB hp hi
  have h0 := zF_lt (v := v) hB hp (show i < zS v B p by omega)
  have h2 := mp_spec v B (zF v B p (i + 1)) (by omega)
  have h3 := mp_lt (v := v) (B := B) (i := zF v B p i) (j := zF v B p (i + 1)) (by omega) (by omega)
  unfold cb; omega
theorem zZ_rng {v : Nat → Int32} {B p i : Nat} (hv : vOk v) (hB : B ≤ 40) (hp : p ≤ 1000) (hi : i + 1 < zS v B p) : -1000000 ≤ zZ v B p i ∧ zZ v B p i ≤ 1000000 := by
  have h1 := zM_rng hv hB hp (show i < zS v B p by omega)
  have h2 := zM_rng hv hB hp hi
  unfold zZ; omega
-- the class's questions to a row that is cut
theorem x_hasCut {Λ : Nat → Nat} {M : Mm} {Q : Int32 → Mm → Prop} {r s : Nat} {x : Int32} (rs : RowSh Λ M r) (hs : s ≤ 40) (h9 : gI M (Λ r) 9 = nI s) (h1 : ∀ i, i + 1 < s → x = nI i → Q 1 M) (h0 : (∀ i, i + 1 < s → ¬ x = nI i) → Q 0 M) : B_X3_hasCut_0 Q (Λ r) x M := by
  refine ⟨fun c => h0 (fun i hi e => ?_), fun c => ⟨rs.1, x_cutCount rs hs h9 ?_⟩⟩
  · rw [e] at c; exact nI_pos (by omega) c
  · have hx := nI_toNat c
    have hr := rngI x
    have c' := Int32.not_lt.mp c
    rw [le_I] at c'
    have z : (0 : Int32).toInt = 0 := rfl
    refine ⟨fun c2 => h0 (fun i hi e => ?_), fun c2 => h1 x.toInt.toNat ?_ hx⟩
    · rw [e] at c2; have := (nI_leI (by omega) (by omega)).mp c2; omega
    · rw [le_I, nI_toInt (by omega)] at c2; omega
theorem x_cutBuild {Λ : Nat → Nat} {M : Mm} {Q : Int32 → Mm → Prop} {r B p i : Nat} {v : Nat → Int32} (rs : RowSh Λ M r) (hB : B ≤ 40) (hp : p ≤ 1000) (rc : RowCut Λ M r v B p) (hi : i + 1 < zS v B p) (hQ : Q (nI (cb v B p i)) M) : B_X3_cutBuild_0 Q (Λ r) (nI i) M := by
  have h1 := zF_lt (v := v) hB hp hi
  have hm := mc_le v B
  have hs := zS_le (v := v) hB hp
  unfold B_X3_cutBuild_0
  rw [nI_1]
  refine ⟨rs.1, Λ (r + 4), rs.2.1.2.2.2.1, ar_nI (rs.2.2.1 4 (by omega) (by omega)) rs.2.2.2.2 (by omega) (by omega), Λ (r + 2), rs.2.1.2.1, ?_⟩
  rw [nI_clamp (by omega), rc.2.2.2.2.1 _ (by omega)]
  refine ⟨ar_nI (rs.2.2.1 2 (by omega) (by omega)) (rs.2.2.2.1 2 (by omega) (by omega) (by omega)) (by omega) (by omega), ?_⟩
  rw [nI_clamp (by omega), rc.2.1 _ (by omega)]; exact hQ
theorem sg_same {a b : Int} : (¬ sg a = 0 ∧ sg b = sg a) ↔ ((0 < a ∧ 0 < b) ∨ (a < 0 ∧ b < 0)) := by
  unfold sg
  by_cases c1 : 0 < a
  · rw [if_pos c1]
    by_cases c2 : 0 < b
    · rw [if_pos c2]; exact ⟨fun _ => Or.inl ⟨c1, c2⟩, fun _ => ⟨by decide, rfl⟩⟩
    · rw [if_neg c2]
      by_cases c3 : b < 0
      · rw [if_pos c3]; exact ⟨fun h => absurd h.2 (by decide), fun h => by omega⟩
      · rw [if_neg c3]; exact ⟨fun h => absurd h.2 (by decide), fun h => by omega⟩
  · rw [if_neg c1]
    by_cases c4 : a < 0
    · rw [if_pos c4]
      by_cases c2 : 0 < b
      · rw [if_pos c2]; exact ⟨fun h => absurd h.2 (by decide), fun h => by omega⟩
      · rw [if_neg c2]
        by_cases c3 : b < 0
        · rw [if_pos c3]; exact ⟨fun _ => Or.inr ⟨c4, c3⟩, fun _ => ⟨by decide, rfl⟩⟩
        · rw [if_neg c3]; exact ⟨fun h => absurd h.2 (by decide), fun h => by omega⟩
    · rw [if_neg c4]; exact ⟨fun h => absurd rfl h.1, fun h => by omega⟩
theorem jab1 {x y : Nat} (hx : x < 2 ^ 20) (hy : y < 2 ^ 20) : (if 0 ≤ nI x - nI y then nI x - nI y else 0 - (nI x - nI y)).toInt = ab ((x : Int) - y) := by
  have e2 : (nI x - nI y).toInt = (x : Int) - y := pk_sub_toInt (by omega) (by omega)
  have z : (0 : Int32).toInt = 0 := rfl
  unfold ab
  split
  · rename_i c; rw [le_I] at c; omega
  · rename_i c; rw [le_I] at c; rw [subI (by omega) (by omega)]; omega
theorem x_near_3 {Λ : Nat → Nat} {M : Mm} {Q : Int32 → Mm → Prop} {r B p b rc : Nat} {z : Int} {v : Nat → Int32} (rs : RowSh Λ M r) (hv : vOk v) (hB : B ≤ 40) (hp : p ≤ 1000) (rC : RowCut Λ M r v B p) (hb : b ≤ 40) (hrc : rc ≤ 5)
    (hQ : Q (bi (shw v B p b z rc (zS v B p - 1))) M) :
    ∀ (d i : Nat), i + d = zS v B p - 1 → shw v B p b z rc i = false → B_X3_stepsNear_3 Q (d + 1) (Λ r) (nI b) (nI rc) (sg z) (nI i) M := by
  have hs := zS_le (v := v) hB hp
  intro d
  induction d with
  | zero =>
    intro i hd hf
    unfold B_X3_stepsNear_3
    have e : i = zS v B p - 1 := by omega
    subst e
    rw [hf] at hQ
    exact ⟨rs.1, x_cutCount rs hs.2 rC.2.2.2.1 ⟨fun _ => hQ, fun c => absurd (Int32.le_refl _) c⟩⟩
  | succ d ih =>
    intro i hd hf
    unfold B_X3_stepsNear_3
    have hz := zZ_rng hv hB hp (show i + 1 < zS v B p by omega)
    have hcb := cb_lt (v := v) hB hp (show i + 1 < zS v B p by omega)
    have next : nrc v B p b z rc i = false → B_X3_stepsNear_3 Q (d + 1) (Λ r) (nI b) (nI rc) (sg z) (nI i + 1) M := by
      intro hn
      rw [nI_1]
      exact ih (i + 1) (by omega) (by simp only [shw, hf, hn]; rfl)
    have no : ¬ ((0 < z ∧ 0 < zZ v B p i) ∨ (z < 0 ∧ zZ v B p i < 0)) → B_X3_stepsNear_33 Q (fun y0 y1 y2 y3 y4 My => B_X3_stepsNear_3 Q (d + 1) y0 y1 y2 y3 y4 My) (Λ r) (nI b) (nI rc) (sg z) (nI i) M := fun h => ⟨fun _ => next (by unfold nrc; simp only [decide_eq_false_iff_not]; exact fun q => h q.2), fun c => absurd rfl c⟩
    refine ⟨rs.1, x_cutCount rs hs.2 rC.2.2.2.1 ⟨fun c => absurd ((nI_leI (by omega) (by omega)).mp c) (by omega), fun _ => ⟨fun c => no (fun q => ?_), fun c => ⟨rs.1, x_stepSize (μ := zM v B p) rs hs.2 rC.2.2.2.2.2.1 (by omega) (fun r8 h8 => ?_)⟩⟩⟩⟩
    · exact (sg_same.mpr q).1 c
    · have h8' : r8.toInt = zZ v B p i := h8
      unfold B_J6_signum_0f7a4_0
      rw [signum_eq r8 (by omega), h8']
      refine ⟨fun c2 => no (fun q => c2 (sg_same.mpr q).2), fun c2 => ⟨fun c3 => absurd c3 (by decide), fun _ => ⟨rs.1, x_cutBuild rs hB hp rC (by omega) ?_⟩⟩⟩
      have hsame := sg_same.mp ⟨c, c2⟩
      rw [lt_I, jab1 (by omega) (by omega), nI_toInt (by omega)]
      refine ⟨fun c4 => next ?_, fun c4 => ?_⟩
      · unfold nrc; simp only [decide_eq_false_iff_not]; exact fun q => by omega
      · have : nrc v B p b z rc i = true := by unfold nrc; simp only [decide_eq_true_eq]; exact ⟨by omega, hsame⟩
        rw [shw_yes (show i < zS v B p - 1 by omega) this] at hQ
        exact hQ
theorem x_near {Λ : Nat → Nat} {M : Mm} {Q : Int32 → Mm → Prop} {r B p b rc : Nat} {z : Int} {v : Nat → Int32} (rs : RowSh Λ M r) (hv : vOk v) (hB : B ≤ 40) (hp : p ≤ 1000) (rC : RowCut Λ M r v B p) (hb : b ≤ 40) (hrc : rc ≤ 5) (hQ : Q (bi (shw v B p b z rc (zS v B p - 1))) M) : B_X3_stepsNear_0 Q (Λ r) (nI b) (nI rc) (sg z) M :=
  ⟨zS v B p - 1 + 1, x_near_3 rs hv hB hp rC hb hrc hQ (zS v B p - 1) 0 (by omega) rfl⟩
theorem x_around {Λ : Nat → Nat} {M : Mm} {Q : Int32 → Mm → Prop} {r B p b : Nat} {v : Nat → Int32} (rs : RowSh Λ M r) (hB : B ≤ 40) (rC : RowCut Λ M r v B p) (hb : b ≤ 40) (hQ : Q (bi (cou v B b)) M) : B_X3_isMeasuredAround_0 Q (Λ r) (nI b) M := by
  have hm := mc_le v B
  refine ⟨rs.1, ?_⟩
  rw [rC.1]
  have no : ¬ (0 < mc v B ∧ mp v B 0 < b ∧ b ≤ mp v B (mc v B - 1)) → Q 0 M := fun h => by
    have : cou v B b = false := by unfold cou; simp only [decide_eq_false_iff_not]; exact h
    rw [this] at hQ; exact hQ
  refine ⟨fun c => no (fun q => ?_), fun c => ?_⟩
  · have := (nI_leI (a := mc v B) (b := 0) (by omega) (by omega)).mp c; omega
  · have h0 : 0 < mc v B := by
      rcases Nat.eq_zero_or_pos (mc v B) with z | z
      · exact absurd (by rw [z]; exact Int32.le_refl _) c
      · exact z
    obtain ⟨k, hk⟩ : ∃ k, mc v B = k + 1 := ⟨mc v B - 1, by omega⟩
    have e1 : nI (mc v B) - (1 : Int32) = nI k := by rw [hk]; exact nI_pred k
    have a2 : ∀ j, j < 40 → ar M (Λ (r + 2)) 7 (nI j) := fun j hj => ar_nI (rs.2.2.1 2 (by omega) (by omega)) (rs.2.2.2.1 2 (by omega) (by omega) (by omega)) hj (by omega)
    have p0 := mp_spec v B 0 h0
    have pk0 := mp_spec v B k (by omega)
    refine ⟨Λ (r + 2), rs.2.1.2.1, a2 0 (by omega), ?_⟩
    rw [show Int32.toNatClampNeg (0 : Int32) = 0 from rfl, rC.2.1 0 h0, e1]
    refine ⟨fun c2 => no (fun q => ?_), fun c2 => ⟨a2 k (by omega), ?_⟩⟩
    · have := (nI_leI (by omega) (by omega)).mp c2; omega
    · rw [nI_clamp (by omega), rC.2.1 k (by omega)]
      refine ⟨fun c3 => no (fun q => ?_), fun c3 => ?_⟩
      · have := (nI_ltI (by omega) (by omega)).mp c3
        rw [hk, show k + 1 - 1 = k by omega] at q; omega
      · have : cou v B b = true := by
          unfold cou; simp only [decide_eq_true_eq]
          refine ⟨h0, ?_, ?_⟩
          · have : ¬ b ≤ mp v B 0 := fun z => c2 ((nI_leI (by omega) (by omega)).mpr z)
            omega
          · have : ¬ mp v B k < b := fun z => c3 ((nI_ltI (by omega) (by omega)).mpr z)
            rw [hk, show k + 1 - 1 = k by omega]; omega
        rw [this] at hQ; exact hQ
