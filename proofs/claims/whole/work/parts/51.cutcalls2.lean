/-! PURE, 31: cuts, cut, middle, size, own, undone, odds -/
def iL (z : Int) : Int64 := Int64.ofInt z
def iI (z : Int) : Int32 := Int32.ofInt z
theorem iL_of {x : Int32} {z : Int} (h : x.toInt = z) : Int32.toInt64 x = iL z := by
  apply Int64.toInt_inj.mp
  have := rngI x
  rw [i64]; unfold iL; rw [Int64.toInt_ofInt, ← h]; exact (bmodL (by omega) (by omega)).symm
theorem iI_of {x : Int32} {z : Int} (h : x.toInt = z) : x = iI z := by
  unfold iI; rw [← h, Int32.ofInt_toInt]
abbrev isC (v : Nat → Int32) (B p : Nat) (x : Int32) : Prop := 0 ≤ x.toInt ∧ x.toInt + 1 < (zS v B p : Int)
theorem isC_nI {v : Nat → Int32} {B p i : Nat} (hB : B ≤ 40) (hp : p ≤ 1000) (hi : i + 1 < zS v B p) : isC v B p (nI i) ∧ tn (nI i) = i := by
  have := zS_le (v := v) hB hp
  refine ⟨⟨?_, ?_⟩, tn_nI (by omega)⟩ <;> (rw [nI_toInt (by omega)]; omega)
theorem isC_no {v : Nat → Int32} {B p : Nat} {x : Int32} (h : ∀ i, i + 1 < zS v B p → ¬ x = nI i) : ¬ isC v B p x := fun w => h (tn x) (by have := w.1; have := w.2; unfold tn; omega) (nI_tn w.1)
theorem x_isC {Λ : Nat → Nat} {M : Mm} {Q : Int32 → Mm → Prop} {r B p : Nat} {v : Nat → Int32} {x : Int32} (rs : RowSh Λ M r) (hB : B ≤ 40) (hp : p ≤ 1000) (rC : RowCut Λ M r v B p) (h1 : ∀ i, i + 1 < zS v B p → x = nI i → tn x = i → isC v B p x → Q 1 M) (h0 : ¬ isC v B p x → Q 0 M) : B_X3_hasCut_0 Q (Λ r) x M :=
  x_hasCut rs (zS_le hB hp).2 rC.2.2.2.1 (fun i hi e => by have := isC_nI hB hp hi; rw [← e] at this; exact h1 i hi e this.2 this.1) (fun w => h0 (isC_no w))
theorem m_isC {Λ : Nat → Nat} {M : Mm} {Q : Int32 → Mm → Prop} {B p : Nat} {v : Nat → Int32} {x : Int32} (sh : ModSh Λ M) (hB : B ≤ 40) (hp : p ≤ 1000) (mC : ModCut Λ M v B p) (h1 : ∀ i, i + 1 < zS v B p → x = nI i → tn x = i → isC v B p x → Q 1 M) (h0 : ¬ isC v B p x → Q 0 M) : B_X6_isCut_0 Q (Λ 400) x M :=
  m_isCut sh (zS_le hB hp).2 mC.2.2.1 (fun i hi e => by have := isC_nI hB hp hi; rw [← e] at this; exact h1 i hi e this.2 this.1) (fun w => h0 (isC_no w))
-- 13 cuts
def f_cuts (σ : Sg) (t m : Nat) : Int32 × Sg := (nI (zS (sV σ (4 * t + m)) (sB σ) (sP σ) - 1), uL σ 14 (iL (zT (sV σ (4 * t + m)) (sB σ) (sP σ))))
theorem x_cuts {Λ : Nat → Nat} {M : Mm} {σ τ : Sg} {N : Nat} {Q : Int32 → Mm → Prop} {x y : Int32} (h : Inv Λ M σ τ) (rg : Rg σ N) (hQ : ∀ M', Inv Λ M' (nd σ x y (f_cuts σ)).2 τ → Q (nd σ x y (f_cuts σ)).1 M') : B_X5_cuts_0 Q (Λ 0) x y M := by
  unfold B_X5_cuts_0 B_X5_cuts_18
  refine x_nd h rg hQ (fun t m ht hm ex ey z hQ => ⟨h.o0, x_bring h rg ht hm (fun M1 h1 rC _ => ?_)⟩)
  obtain ⟨_, _, _, _, _, _, _, a8, rs, a9⟩ := x_row_at h1 rg ht hm
  refine ⟨a8, h1.o0, ?_⟩
  rintro _ rfl
  have rs' : RowSh Λ (pJ M1 (Λ 0) 14 (Int32.toInt64 (gI M1 (Λ (rc t m)) 13))) (rc t m) := rs
  refine x_cutCount rs' (zS_le rg.1.2 rg.2.2.1.2).2 rC.2.2.2.1 (hQ _ ?_)
  rw [iL_of rC.2.2.2.2.2.2.2]
  exact h1.xJ 14 _
theorem m_cuts {Λ : Nat → Nat} {M : Mm} {σ τ : Sg} {N : Nat} {Q : Int32 → Mm → Prop} {x y : Int32} (h : Inv Λ M σ τ) (hT : sT σ ≤ 8) (rg : Rg τ N) (hQ : ∀ M', Inv Λ M' σ (nd τ x y (f_cuts τ)).2 → Q (nd τ x y (f_cuts τ)).1 M') : B_X6_cuts_0 Q (Λ 400) x y M := by
  have hB := rg.1.2
  have hp := rg.2.2.1.2
  unfold B_X6_cuts_0 B_X6_cuts_32
  refine m_nd h hT rg hQ (fun r M' hr q => br4 hr q) (fun t m M1 ht hm ex ey z h1 mC hQ => br3 ⟨h1.m0, ?_⟩)
  have hz := zS_le (v := sV τ (4 * t + m)) hB hp
  have hmc := mc_le (sV τ (4 * t + m)) (sB τ)
  have hpos := nS_pos (zX_ok (v := sV τ (4 * t + m)) hB hp)
  rw [mC.1]
  refine ⟨fun c => ⟨Λ 409, h1.ms.r 9 (by omega) (by omega), h1.ms.a 9 (by omega) (by omega) (show 0 < 41 by omega), h1.m0, ?_⟩, fun c => ⟨h1.m0, ?_⟩⟩
  · have hc : 0 < mc (sV τ (4 * t + m)) (sB τ) := Nat.pos_of_ne_zero (fun w => c (by rw [w]; rfl))
    rintro _ rfl
    have h2 := h1.yJ hT 2 (Int32.toInt64 (gI M1 (Λ 409) (Int32.toNatClampNeg (0 : Int32)))) (Or.inl rfl)
    refine ⟨h2.m0, ?_⟩
    rw [gI_pJ, mC.1, mC.2.2.1]
    refine ⟨fun _ => ?_, fun w => absurd w c⟩
    have hs : 0 < zS (sV τ (4 * t + m)) (sB τ) (sP τ) := hpos.mpr hc
    have := hQ (pJ M1 (Λ 400) 2 (Int32.toInt64 (gI M1 (Λ 409) (Int32.toNatClampNeg (0 : Int32))))) (by
      have e := iL_of (mC.2.2.2.2.2 hc)
      show Inv Λ _ σ (uL τ 14 (iL _))
      rw [← e]; exact h2)
    have en : nI (zS (sV τ (4 * t + m)) (sB τ) (sP τ)) - 1 = nI (zS (sV τ (4 * t + m)) (sB τ) (sP τ) - 1) := by
      rw [show (1 : Int32) = nI 1 from rfl, pk_sub (by omega)]
    rw [en]; exact this
  · have hc : mc (sV τ (4 * t + m)) (sB τ) = 0 := (nI_eq (b := 0) (by omega) (by omega)).mp c
    rintro _ rfl
    have h2 := h1.yJ hT 2 (0 : Int64) (Or.inl rfl)
    refine ⟨h2.m0, ?_⟩
    rw [gI_pJ, mC.1]
    refine ⟨fun w => absurd c w, fun _ => ?_⟩
    have e0 : zS (sV τ (4 * t + m)) (sB τ) (sP τ) = 0 := by omega
    have := hQ (pJ M1 (Λ 400) 2 (0 : Int64)) (by
      show Inv Λ _ σ (uL τ 14 (iL (zT _ _ _)))
      unfold zT; rw [if_pos hc]; exact h2)
    unfold f_cuts at this
    rw [e0] at this
    exact this
theorem r_uL {σ : Sg} {N k : Nat} {v : Int64} (h : Rg σ N) : Rg (uL σ k v) N := h.same (fun _ _ _ => rfl) rfl (fun _ _ => rfl)
theorem r_cuts {σ : Sg} {N : Nat} {x y : Int32} (h : Rg σ N) : Rg (nd σ x y (f_cuts σ)).2 N := nd_r h (fun t m _ _ => r_uL h)
-- 14 cut
def f_cut (σ : Sg) (x : Int32) (t m : Nat) : Int32 × Sg := (if isC (sV σ (4 * t + m)) (sB σ) (sP σ) x then nI (cb (sV σ (4 * t + m)) (sB σ) (sP σ) (tn x)) else -9, σ)
theorem x_cut {Λ : Nat → Nat} {M : Mm} {σ τ : Sg} {N : Nat} {Q : Int32 → Mm → Prop} {x y i : Int32} (h : Inv Λ M σ τ) (rg : Rg σ N) (hQ : ∀ M', Inv Λ M' (nd σ x y (f_cut σ i)).2 τ → Q (nd σ x y (f_cut σ i)).1 M') : B_X5_cut_0 Q (Λ 0) x y i M := by
  unfold B_X5_cut_0 B_X5_cut_21
  refine x_nd h rg hQ (fun t m ht hm ex ey z hQ => ⟨h.o0, x_bring h rg ht hm (fun M1 h1 rC _ => ?_)⟩)
  obtain ⟨_, _, _, _, _, _, _, a8, rs, a9⟩ := x_row_at h1 rg ht hm
  unfold f_cut at hQ
  refine ⟨a8, x_isC rs rg.1.2 rg.2.2.1.2 rC (fun j hj ej ej2 c => z1 ⟨a8, ?_⟩) (fun c => z0 ?_)⟩
  · rw [if_pos c, ej2] at hQ
    rw [ej]; exact x_cutBuild rs rg.1.2 rg.2.2.1.2 rC hj (hQ M1 h1)
  · rw [if_neg c] at hQ; exact hQ M1 h1
theorem m_cut {Λ : Nat → Nat} {M : Mm} {σ τ : Sg} {N : Nat} {Q : Int32 → Mm → Prop} {x y i : Int32} (h : Inv Λ M σ τ) (hT : sT σ ≤ 8) (rg : Rg τ N) (hQ : ∀ M', Inv Λ M' σ (nd τ x y (f_cut τ i)).2 → Q (nd τ x y (f_cut τ i)).1 M') : B_X6_cut_0 Q (Λ 400) x y i M := by
  unfold B_X6_cut_0
  refine m_nd h hT rg hQ (fun r M' hr q => br4 hr q) (fun t m M1 ht hm ex ey z h1 mC hQ => br3 ⟨h1.m0, ?_⟩)
  unfold f_cut at hQ
  refine m_isC h1.ms rg.1.2 rg.2.2.1.2 mC (fun j hj ej ej2 c => z1 ⟨h1.m0, ?_⟩) (fun c => z0 ?_)
  · rw [if_pos c, ej2] at hQ
    rw [ej]; exact m_buildOfCut h1.ms rg.1.2 rg.2.2.1.2 mC hj (hQ M1 h1)
  · rw [if_neg c] at hQ; exact hQ M1 h1
-- 15 middle
def f_middle (σ : Sg) (x : Int32) (t m : Nat) : Int32 × Sg := (if 0 ≤ x.toInt ∧ x.toInt < (zS (sV σ (4 * t + m)) (sB σ) (sP σ) : Int) then iI (zM (sV σ (4 * t + m)) (sB σ) (sP σ) (tn x)) else -9, σ)
theorem x_middle {Λ : Nat → Nat} {M : Mm} {σ τ : Sg} {N : Nat} {Q : Int32 → Mm → Prop} {x y i : Int32} (h : Inv Λ M σ τ) (rg : Rg σ N) (hQ : ∀ M', Inv Λ M' (nd σ x y (f_middle σ i)).2 τ → Q (nd σ x y (f_middle σ i)).1 M') : B_X5_middle_0 Q (Λ 0) x y i M := by
  unfold B_X5_middle_0 B_X5_middle_21
  refine x_nd h rg hQ (fun t m ht hm ex ey z hQ => ⟨h.o0, x_bring h rg ht hm (fun M1 h1 rC _ => ?_)⟩)
  obtain ⟨_, _, _, _, _, _, _, a8, rs, a9⟩ := x_row_at h1 rg ht hm
  have hz := zS_le (v := sV σ (4 * t + m)) rg.1.2 rg.2.2.1.2
  unfold f_middle at hQ
  rw [rC.2.2.2.1]
  refine ⟨fun c => ?_, fun c => ⟨a8, fun d => ?_, fun d => ⟨Λ (rc t m + 5), rs.2.1.2.2.2.2.1, ?_, ?_⟩⟩⟩
  · rw [if_neg (fun w => absurd w.1 (Int.not_le.mpr (lt_I.mp c)))] at hQ; exact hQ M1 h1
  · rw [le_I, nI_toInt (by omega)] at d
    rw [if_neg (fun w => by have := w.2; omega)] at hQ; exact hQ M1 h1
  · have c' : ¬ i.toInt < 0 := fun w => c (lt_I.mpr w)
    rw [le_I, nI_toInt (by omega)] at d
    rw [nI_tn (x := i) (by omega)]
    exact ar_nI (rs.2.2.1 5 (by omega) (by omega)) (rs.2.2.2.1 5 (by omega) (by omega) (by omega)) (show tn i < 40 by unfold tn; omega) (by omega)
  · have c' : ¬ i.toInt < 0 := fun w => c (lt_I.mpr w)
    rw [le_I, nI_toInt (by omega)] at d
    rw [if_pos ⟨by omega, by omega⟩] at hQ
    rw [show Int32.toNatClampNeg i = tn i from rfl, iI_of (rC.2.2.2.2.2.1 (tn i) (by unfold tn; omega)).1]
    exact hQ M1 h1
theorem m_middle {Λ : Nat → Nat} {M : Mm} {σ τ : Sg} {N : Nat} {Q : Int32 → Mm → Prop} {x y i : Int32} (h : Inv Λ M σ τ) (hT : sT σ ≤ 8) (rg : Rg τ N) (hQ : ∀ M', Inv Λ M' σ (nd τ x y (f_middle τ i)).2 → Q (nd τ x y (f_middle τ i)).1 M') : B_X6_middle_0 Q (Λ 400) x y i M := by
  unfold B_X6_middle_0
  refine m_nd h hT rg hQ (fun r M' hr q => br4 hr q) (fun t m M1 ht hm ex ey z h1 mC hQ => br3 ⟨h1.m0, ?_⟩)
  have hz := zS_le (v := sV τ (4 * t + m)) rg.1.2 rg.2.2.1.2
  unfold f_middle at hQ
  have es : (nI (zS (sV τ (4 * t + m)) (sB τ) (sP τ)) - 1).toInt = (zS (sV τ (4 * t + m)) (sB τ) (sP τ) : Int) - 1 := by
    have h1 : (1 : Int32).toInt = 1 := by decide
    rw [subI (by rw [nI_toInt (by omega), h1]; omega) (by rw [nI_toInt (by omega), h1]; omega), nI_toInt (by omega), h1]
  rw [mC.2.2.1]
  refine m_in (fun c => z0 ?_) (fun c d => z1 ⟨h1.m0, Λ 413, h1.ms.r 13 (by omega) (by omega), ?_, ?_⟩)
  · rw [if_neg] at hQ
    · exact hQ M1 h1
    · intro w
      rcases c with c | c
      · exact absurd w.1 (Int.not_le.mpr (lt_I.mp c))
      · rw [lt_I, es] at c; have := w.2; omega
  · have c' : ¬ i.toInt < 0 := fun w => c (lt_I.mpr w)
    rw [lt_I, es] at d
    rw [nI_tn (x := i) (by omega)]
    exact h1.ms.a 13 (by omega) (by omega) (show tn i < 40 by unfold tn; omega)
  · have c' : ¬ i.toInt < 0 := fun w => c (lt_I.mpr w)
    rw [lt_I, es] at d
    rw [if_pos ⟨by omega, by omega⟩] at hQ
    rw [show Int32.toNatClampNeg i = tn i from rfl, iI_of (mC.2.2.2.2.1 (tn i) (by unfold tn; omega))]
    exact hQ M1 h1
-- 16 size
def f_size (σ : Sg) (x : Int32) (t m : Nat) : Int32 × Sg := if isC (sV σ (4 * t + m)) (sB σ) (sP σ) x then (1, uL σ 14 (iL (zZ (sV σ (4 * t + m)) (sB σ) (sP σ) (tn x)))) else (-9, σ)
theorem x_size {Λ : Nat → Nat} {M : Mm} {σ τ : Sg} {N : Nat} {Q : Int32 → Mm → Prop} {x y i : Int32} (h : Inv Λ M σ τ) (rg : Rg σ N) (hQ : ∀ M', Inv Λ M' (nd σ x y (f_size σ i)).2 τ → Q (nd σ x y (f_size σ i)).1 M') : B_X5_size_0 Q (Λ 0) x y i M := by
  unfold B_X5_size_0 B_X5_size_21
  refine x_nd h rg hQ (fun t m ht hm ex ey z hQ => ⟨h.o0, x_bring h rg ht hm (fun M1 h1 rC _ => ?_)⟩)
  obtain ⟨_, _, _, _, _, _, _, a8, rs, a9⟩ := x_row_at h1 rg ht hm
  have hz := zS_le (v := sV σ (4 * t + m)) rg.1.2 rg.2.2.1.2
  unfold f_size at hQ
  refine ⟨a8, x_isC rs rg.1.2 rg.2.2.1.2 rC (fun j hj ej ej2 c => z1' ⟨a8, ?_⟩) (fun c => z0' ?_)⟩
  · rw [if_pos c, ej2] at hQ
    rw [ej]
    refine x_stepSize rs hz.2 rC.2.2.2.2.2.1 hj (fun r hr => ⟨h1.o0, ?_⟩)
    rintro _ rfl
    rw [iL_of (z := zZ (sV σ (4 * t + m)) (sB σ) (sP σ) j) hr]
    exact hQ _ (h1.xJ 14 _)
  · rw [if_neg c] at hQ; exact hQ M1 h1
theorem m_size {Λ : Nat → Nat} {M : Mm} {σ τ : Sg} {N : Nat} {Q : Int32 → Mm → Prop} {x y i : Int32} (h : Inv Λ M σ τ) (hT : sT σ ≤ 8) (rg : Rg τ N) (hQ : ∀ M', Inv Λ M' σ (nd τ x y (f_size τ i)).2 → Q (nd τ x y (f_size τ i)).1 M') : B_X6_size_0 Q (Λ 400) x y i M := by
  unfold B_X6_size_0
  refine m_nd h hT rg hQ (fun r M' hr q => br4 hr q) (fun t m M1 ht hm ex ey z h1 mC hQ => br3 ⟨h1.m0, ?_⟩)
  have hz := zS_le (v := sV τ (4 * t + m)) rg.1.2 rg.2.2.1.2
  have hTT := rg.2.1.2
  unfold f_size at hQ
  refine m_isC h1.ms rg.1.2 rg.2.2.1.2 mC (fun j hj ej ej2 c => z1' ⟨h1.m0, ?_⟩) (fun c => z0' ?_)
  · rw [if_pos c, ej2] at hQ
    rw [ej]
    refine m_sizeOf h1.ms hz.2 (mC.mid (rg.2.2.2.2.1 _ (by omega)) rg.1.2 rg.2.2.1.2) hj (fun r hr => ⟨h1.m0, ?_⟩)
    rintro _ rfl
    rw [iL_of (z := zZ (sV τ (4 * t + m)) (sB τ) (sP τ) j) hr]
    exact hQ _ (h1.yJ hT 2 _ (Or.inl rfl))
  · rw [if_neg c] at hQ; exact hQ M1 h1
theorem r_size {σ : Sg} {N : Nat} {x y i : Int32} (h : Rg σ N) : Rg (nd σ x y (f_size σ i)).2 N := nd_r h (fun t m _ _ => by
  unfold f_size
  split
  · exact r_uL h
  · exact h)
-- 18 own
def sTh (σ : Sg) (r : Nat) : Bool := decide (¬ σ.1 21 r = 0)
theorem sTh_bi {σ : Sg} {r : Nat} (h : bl (σ.1 21 r)) : σ.1 21 r = bi (sTh σ r) := by
  unfold sTh
  rcases h with e | e
  · rw [e]; decide
  · rw [e]; decide
theorem sTh_t {σ : Sg} {r : Nat} : sTh σ r = true ↔ ¬ σ.1 21 r = 0 := by unfold sTh; simp
def sOwn (σ : Sg) (t m i : Nat) : Bool := ownS (fun o => sV σ (4 * t + o)) (fun o => sTh σ (4 * t + o)) (sB σ) (sP σ) (sR σ) m i
def f_own (σ : Sg) (x : Int32) (t m : Nat) : Int32 × Sg := (if isC (sV σ (4 * t + m)) (sB σ) (sP σ) x then bi (sOwn σ t m (tn x)) else -9, σ)
theorem x_nd2 {Λ : Nat → Nat} {M : Mm} {σ τ : Sg} {N : Nat} {Q : Int32 → Mm → Prop} {BODY : Option Nat → Nat → Option Nat → Nat → Mm → Prop} {x y : Int32} {f : Nat → Nat → Int32 × Sg} (h : Inv Λ M σ τ) (rg : Rg σ N) (hQ : ∀ M', Inv Λ M' (nd σ x y f).2 τ → Q (nd σ x y f).1 M') (h3 : ∀ t m, t < sT σ → m < 4 → x = nI t → y = nI m → ¬ σ.1 21 (4 * t + m) = 0 → (∀ M', Inv Λ M' (f t m).2 τ → Q (f t m).1 M') → BODY (some (Λ (tc t))) (Λ (tc t)) (some (Λ (rc t m))) (Λ (rc t m)) M) :
    ok M (Λ 0) 5 ∧ B_X5_findTest_0 (fun r3 M2 => (ok M2 (Λ 0) 5 ∧ (B_X5_findRow_0 (fun r6 M5 => ((r3 = none → (ok M5 (Λ 0) 5 ∧ B_X5_refuseRow_0 (fun r M => Q r M) (Λ 0) r6 M5)) ∧ (∀ a7, r3 = some a7 → ((r6 = none → (ok M5 (Λ 0) 5 ∧ B_X5_refuseRow_0 (fun r M => Q r M) (Λ 0) r6 M5)) ∧ (∀ a9, r6 = some a9 → (ok M5 a9 3 ∧ ((¬ gI M5 a9 1 = 0 → BODY r3 a7 r6 a9 M5) ∧ (gI M5 a9 1 = 0 → (ok M5 (Λ 0) 5 ∧ B_X5_refuseRow_0 (fun r M => Q r M) (Λ 0) r6 M5))))))))) (Λ 0) x y M2))) (Λ 0) x M := by
  have hT := rg.2.1.2
  unfold nd at hQ
  have bad : ¬ isR σ x y → ok M (Λ 0) 5 ∧ B_X5_refuseRow_0 (fun r M => Q r M) (Λ 0) none M := fun w => ⟨h.o0, fun _ => by rw [if_neg w] at hQ; exact hQ M h, fun _ e => by cases e⟩
  refine ⟨h.o0, x_findTest h rg (fun z => ⟨h.o0, x_findRow h rg (fun w => ⟨fun _ => bad w, fun _ e => by cases e⟩) (fun t m ht hm ex ey => absurd ?_ z)⟩) (fun t ht ex => ⟨h.o0, x_findRow h rg (fun w => ⟨fun e => (by cases e), fun a ea => ⟨fun _ => bad w, fun _ e => by cases e⟩⟩) (fun t' m ht' hm ex' ey => ⟨fun e => (by cases e), fun a ea => ⟨fun e => (by cases e), fun a' ea' => ?_⟩⟩)⟩)⟩
  · have := (isR_nI rg ht hm).1.1; rw [← ex] at this; exact this
  · cases ea
    cases ea'
    have ett : t' = t := by rw [ex] at ex'; exact ((nI_eq (by omega) (by omega)).mp ex').symm
    subst ett
    obtain ⟨_, _, _, _, _, _, _, a8, rs, a9⟩ := x_row_at h rg ht hm
    obtain ⟨i1, i2, i3⟩ := isR_nI rg ht hm
    rw [ex, ey, if_pos i1, i2] at hQ
    rw [a9.1]
    refine ⟨a8, fun c => h3 t' m ht hm ex ey c ?_, fun c => ⟨h.o0, fun e => (by cases e), fun _ _ => ⟨h.o0, x_refuse 1 h (by omega) (fun M' h' => ?_)⟩⟩⟩
    · rw [if_neg c, tn_nI (by omega), tn_nI (by omega)] at hQ; exact hQ
    · rw [if_pos c] at hQ; exact hQ M' h'
theorem x_ownS {Λ : Nat → Nat} {M : Mm} {σ τ : Sg} {N t m i : Nat} {Q : Int32 → Mm → Prop} (h : Inv Λ M σ τ) (rg : Rg σ N) (ht : t < sT σ) (hm : m < 4) (hth : ¬ σ.1 21 (4 * t + m) = 0) (hC : ∀ o, o < 4 → ¬ σ.1 21 (4 * t + o) = 0 → RowCut Λ M (rc t o) (sV σ (4 * t + o)) (sB σ) (sP σ)) (hi : i + 1 < zS (sV σ (4 * t + m)) (sB σ) (sP σ)) (hQ : Q (bi (sOwn σ t m i)) M) : B_X5_isItsOwn_0 Q (Λ 0) (some (Λ (tc t))) (nI m) (nI i) M := by
  have hT := rg.2.1.2
  refine x_own (V := fun o => sV σ (4 * t + o)) (th := fun o => sTh σ (4 * t + o)) (h.sx.2.2.2.2.2.2 t ht).2 h.o0 ((h.f0 9).trans rg.2.2.2.1.1) rg.2.2.2.1.2 (fun o ho => rg.2.2.2.2.1 _ (by omega)) rg.1.2 rg.2.2.1.2 hm (fun o ho => ?_) (fun o ho z => hC o ho (sTh_t.mp z)) (sTh_t.mpr hth) hi hQ
  rw [((h.cx.2.2.2.2.2 t ht).2 o ho).1]
  exact sTh_bi (rg.2.2.2.2.2.1 _ (by omega))
theorem m_ownS {Λ : Nat → Nat} {M : Mm} {σ τ : Sg} {N t m i : Nat} {Q : Int32 → Mm → Prop} (h : Inv Λ M σ τ) (hT : sT σ ≤ 8) (rg : Rg τ N) (ht : t < sT τ) (hm : m < 4) (mC : ModCut Λ M (sV τ (4 * t + m)) (sB τ) (sP τ)) (hi : i + 1 < zS (sV τ (4 * t + m)) (sB τ) (sP τ)) (hQ : ∀ M', Inv Λ M' σ τ → Mk Λ M M' → Q (bi (sOwn τ t m i)) M') : B_X6_isOwn_0 Q (Λ 400) (nI t) (nI m) (nI i) M := by
  have hTT := rg.2.1.2
  refine m_isOwn (V := fun o => sV τ (4 * t + o)) (th := fun o => sTh τ (4 * t + o)) h.hΛ h.ms (by omega) ((h.g0 3 (by omega) rfl).trans rg.1.1) ((h.g0 13 (by omega) rfl).trans rg.2.2.1.1) ((h.g0 14 (by omega) rfl).trans rg.2.2.2.1.1) rg.2.2.2.1.2 (fun o ho => rg.2.2.2.2.1 _ (by omega)) rg.1.2 rg.2.2.1.2 hm (fun o ho => ?_) (fun o ho z j hj => h.cm.2.2.2.1 _ (by omega) (sTh_t.mp z) j hj) mC hi (fun M' k => hQ M' (h.yMk hT k) k)
  rw [h.cm.2.2.1.2.2.2]
  exact sTh_bi (rg.2.2.2.2.2.1 _ (by omega))
theorem x_ownC {Λ : Nat → Nat} {M : Mm} {σ τ : Sg} {N : Nat} {Q : Int32 → Mm → Prop} {x y i : Int32} (h : Inv Λ M σ τ) (rg : Rg σ N) (hQ : ∀ M', Inv Λ M' (nd σ x y (f_own σ i)).2 τ → Q (nd σ x y (f_own σ i)).1 M') : B_X5_own_0 Q (Λ 0) x y i M := by
  unfold B_X5_own_0 B_X5_own_33
  refine x_nd2 h rg hQ (fun t m ht hm ex ey z hQ => ⟨h.o0, x_brings h rg ht (fun M1 h1 _ hC => ?_)⟩)
  obtain ⟨_, _, _, _, _, _, _, a8, rs, a9⟩ := x_row_at h1 rg ht hm
  unfold f_own at hQ
  refine ⟨a8, x_isC rs rg.1.2 rg.2.2.1.2 (hC m hm z) (fun j hj ej ej2 c => z1' ⟨h1.o0, ?_⟩) (fun c => z0' ?_)⟩
  · rw [if_pos c, ej2] at hQ
    rw [ej, ey]
    refine x_ownS h1 rg ht hm z hC hj ?_
    cases e : sOwn σ t m j with
    | false => rw [e] at hQ; exact z0 (hQ M1 h1)
    | true => rw [e] at hQ; exact z1 (hQ M1 h1)
  · rw [if_neg c] at hQ; exact hQ M1 h1
theorem m_own {Λ : Nat → Nat} {M : Mm} {σ τ : Sg} {N : Nat} {Q : Int32 → Mm → Prop} {x y i : Int32} (h : Inv Λ M σ τ) (hT : sT σ ≤ 8) (rg : Rg τ N) (hQ : ∀ M', Inv Λ M' σ (nd τ x y (f_own τ i)).2 → Q (nd τ x y (f_own τ i)).1 M') : B_X6_own_0 Q (Λ 400) x y i M := by
  unfold B_X6_own_0
  refine m_nd h hT rg hQ (fun r M' hr q => br4 hr q) (fun t m M1 ht hm ex ey z h1 mC hQ => br3 ⟨h1.m0, ?_⟩)
  unfold f_own at hQ
  refine m_isC h1.ms rg.1.2 rg.2.2.1.2 mC (fun j hj ej ej2 c => z1' ⟨h1.m0, ?_⟩) (fun c => z0' ?_)
  · rw [if_pos c, ej2] at hQ
    rw [ej, ey, ex]
    refine m_ownS h1 hT rg ht hm mC hj (fun M2 h2 _ => ?_)
    cases e : sOwn τ t m j with
    | false => rw [e] at hQ; exact z0 (hQ M2 h2)
    | true => rw [e] at hQ; exact z1 (hQ M2 h2)
  · rw [if_neg c] at hQ; exact hQ M1 h1
-- 19 undone
def unV (v : Nat → Int32) (B p i : Nat) : Int32 := match (zQ v B p).1 i with
  | some k => nI k
  | none => -9
theorem x_undoing {Λ : Nat → Nat} {M : Mm} {Q : Int32 → Mm → Prop} {r B p i : Nat} {v : Nat → Int32} (rs : RowSh Λ M r) (hB : B ≤ 40) (hp : p ≤ 1000) (rC : RowCut Λ M r v B p) (hi : i + 1 < zS v B p) (hQ : Q (unV v B p i) M) : B_X3_undoingOf_0 Q (Λ r) (nI i) M := by
  have hz := zS_le (v := v) hB hp
  have inv := prs_inv (zS v B p - 1) (zZ v B p) (zS v B p - 1) (Nat.le_refl _)
  unfold B_X3_undoingOf_0
  unfold unV zQ at hQ
  refine ⟨rs.1, x_stepSize rs hz.2 rC.2.2.2.2.2.1 hi (fun x hx => ?_)⟩
  have hx' : x.toInt = zZ v B p i := hx
  have mt := rC.2.2.2.2.2.2.1 i (by omega)
  unfold zQ at mt
  refine ⟨fun c => ?_, fun c => ⟨rs.1, Λ (r + 6), rs.2.1.2.2.2.2.2, ar_nI (rs.2.2.1 6 (by omega) (by omega)) (rs.2.2.2.1 6 (by omega) (by omega) (by omega)) (by omega) (by omega), ?_⟩⟩
  · have c' : x.toInt ≤ 0 := le_I.mp c
    cases e : (prs (zS v B p - 1) (zZ v B p) (zS v B p - 1)).1 i with
    | none => rw [e] at hQ; exact hQ
    | some k => have := (inv.1 i k e).2.1; omega
  · have c' : ¬ x.toInt ≤ 0 := fun w => c (le_I.mpr w)
    rw [nI_clamp (by omega)]
    cases e : (prs (zS v B p - 1) (zZ v B p) (zS v B p - 1)).1 i with
    | none =>
      rw [e] at hQ
      have e2 : (prs (zS v B p - 1) (zZ v B p) (zS v B p - 1)).2 i = false := by
        cases e3 : (prs (zS v B p - 1) (zZ v B p) (zS v B p - 1)).2 i with
        | false => rfl
        | true => have := (inv.2 i e3).2; omega
      rw [mt.1 e e2]; exact hQ
    | some k => rw [e] at hQ; rw [mt.2.1 k e]; exact hQ
def f_undone (σ : Sg) (x : Int32) (t m : Nat) : Int32 × Sg := if σ.1 20 t = 1 then (if isC (sV σ (4 * t + m)) (sB σ) (sP σ) x then unV (sV σ (4 * t + m)) (sB σ) (sP σ) (tn x) else -9, σ) else (-3, mt σ 3)
theorem x_undone {Λ : Nat → Nat} {M : Mm} {σ τ : Sg} {N : Nat} {Q : Int32 → Mm → Prop} {x y i : Int32} (h : Inv Λ M σ τ) (rg : Rg σ N) (hQ : ∀ M', Inv Λ M' (nd σ x y (f_undone σ i)).2 τ → Q (nd σ x y (f_undone σ i)).1 M') : B_X5_undone_0 Q (Λ 0) x y i M := by
  unfold B_X5_undone_0 B_X5_undone_33
  refine x_nd2 h rg hQ (fun t m ht hm ex ey z hQ => ?_)
  obtain ⟨_, _, _, a4, _⟩ := x_row_at h rg ht hm
  unfold f_undone at hQ
  rw [(h.cx.2.2.2.2.2 t ht).1]
  refine ⟨a4, fun c => ⟨h.o0, x_bring h rg ht hm (fun M1 h1 rC _ => ?_)⟩, fun c => ⟨h.o0, x_refuse 3 h (by omega) (fun M' h' => ?_)⟩⟩
  · rw [if_pos c] at hQ
    obtain ⟨_, _, _, _, _, _, _, a8, rs, a9⟩ := x_row_at h1 rg ht hm
    refine ⟨a8, x_isC rs rg.1.2 rg.2.2.1.2 rC (fun j hj ej ej2 c => z1 ⟨a8, ?_⟩) (fun c => z0 ?_)⟩
    · rw [if_pos c, ej2] at hQ
      rw [ej]; exact x_undoing rs rg.1.2 rg.2.2.1.2 rC hj (hQ M1 h1)
    · rw [if_neg c] at hQ; exact hQ M1 h1
  · rw [if_neg c] at hQ; exact hQ M' h'
theorem Inv.yLp {Λ : Nat → Nat} {M M' : Mm} {σ τ : Sg} (h : Inv Λ M σ τ) (hT : sT σ ≤ 8) (k : Ch (lpS Λ) M M') : Inv Λ M' σ τ :=
  h.yC hT (by rw [k.1]) (fun j hj fj => by rw [k.2 _ (lpS_not h.hΛ (by omega))]) (fun c hc => k.2 _ (lpS_not h.hΛ (by omega))) (fun c _ => by rw [k.J]) (fun j _ _ => by rw [k.J])
theorem ModCut.lp {Λ : Nat → Nat} {M M' : Mm} {v : Nat → Int32} {B p : Nat} (hΛ : inj Λ) (mC : ModCut Λ M v B p) (k : Ch (lpS Λ) M M') : ModCut Λ M' v B p := by
  unfold ModCut at *
  rw [k.2 _ (lpS_not hΛ (c := 400) (by omega)), k.2 _ (lpS_not hΛ (c := 406) (by omega)), k.2 _ (lpS_not hΛ (c := 407) (by omega)), k.2 _ (lpS_not hΛ (c := 408) (by omega)), k.2 _ (lpS_not hΛ (c := 412) (by omega)), k.2 _ (lpS_not hΛ (c := 413) (by omega)), k.2 _ (lpS_not hΛ (c := 409) (by omega))]
  exact mC
theorem m_pairs {Λ : Nat → Nat} {M : Mm} {σ τ : Sg} {B p : Nat} {v : Nat → Int32} {Q : Mm → Prop} (h : Inv Λ M σ τ) (hT : sT σ ≤ 8) (hv : vOk v) (hB : B ≤ 40) (hp : p ≤ 1000) (mC : ModCut Λ M v B p) (hQ : ∀ M', Inv Λ M' σ τ → ModCut Λ M' v B p → (∀ i, i < 40 → gI M' (Λ 415) i = unV v B p i) → Q M') : B_X6_layPairs_0 Q (Λ 400) M := by
  refine m_layPairs (μ := zM v B p) h.hΛ h.ms (zS_le hB hp).2 mC.2.2.1 (mC.mid hv hB hp) (fun M' c' m' => hQ M' (h.yLp hT c') (mC.lp h.hΛ c') (fun i hi => ?_))
  have q := m' i hi
  unfold unV zQ
  have e0 : (fun j => zM v B p (j + 1) - zM v B p j) = zZ v B p := rfl
  rw [e0] at q
  cases e : (prs (zS v B p - 1) (zZ v B p) (zS v B p - 1)).1 i with
  | none => exact q.1 e
  | some k => exact q.2.1 k e
theorem m_undone {Λ : Nat → Nat} {M : Mm} {σ τ : Sg} {N : Nat} {Q : Int32 → Mm → Prop} {x y i : Int32} (h : Inv Λ M σ τ) (hT : sT σ ≤ 8) (rg : Rg τ N) (hQ : ∀ M', Inv Λ M' σ (nd τ x y (f_undone τ i)).2 → Q (nd τ x y (f_undone τ i)).1 M') : B_X6_undone_0 Q (Λ 400) x y i M := by
  have hTT := rg.2.1.2
  unfold B_X6_undone_0
  refine m_nd h hT rg hQ (fun r M' hr q => br4 hr q) (fun t m M1 ht hm ex ey z h1 mC hQ => br3 ⟨h1.m0, Λ 402, h1.ms.r 2 (by omega) (by omega), by rw [ex]; exact h1.ms.a 2 (by omega) (by omega) (show t < 8 by omega), ?_⟩)
  have hz := zS_le (v := sV τ (4 * t + m)) rg.1.2 rg.2.2.1.2
  unfold f_undone at hQ
  rw [h1.cm.2.2.1.2.2.1, ex, nI_clamp (by omega)]
  refine ⟨fun c => m_pairs (v := sV τ (4 * t + m)) h1 hT (rg.2.2.2.2.1 _ (by omega)) rg.1.2 rg.2.2.1.2 mC (fun M2 h2 mC2 hu => ⟨h2.m0, ?_⟩), fun c => m_meets 3 h1 hT (by omega) (fun M' h' => ?_)⟩
  · rw [if_pos c] at hQ
    refine m_isC h2.ms rg.1.2 rg.2.2.1.2 mC2 (fun j hj ej ej2 c => z1 ⟨h2.m0, Λ 415, h2.ms.r 15 (by omega) (by omega), ?_, ?_⟩) (fun c => z0 ?_)
    · rw [ej]; exact h2.ms.a 15 (by omega) (by omega) (show j < 40 by omega)
    · rw [if_pos c, ej2] at hQ
      rw [ej, nI_clamp (by omega), hu j (by omega)]; exact hQ M2 h2
    · rw [if_neg c] at hQ; exact hQ M2 h2
  · rw [if_neg c] at hQ; exact hQ M' h'
theorem r_undone {σ : Sg} {N : Nat} {x y i : Int32} (h : Rg σ N) : Rg (nd σ x y (f_undone σ i)).2 N := nd_r h (fun t m _ _ => by
  unfold f_undone
  split
  · exact h
  · exact h.met 3)
