/-! PURE, 16: ITS OWN, in the class and in the reference -/
def tc (t : Nat) : Nat := 20 + 30 * t
def rc (t m : Nat) : Nat := 20 + 30 * t + 2 + 7 * m
def TestSh (Λ : Nat → Nat) (M : Mm) (t : Nat) : Prop := ok M (Λ (tc t)) 4 ∧ gR M (Λ (tc t)) 1 = some (Λ (tc t + 1)) ∧ ok M (Λ (tc t + 1)) 10 ∧ gN M (Λ (tc t + 1)) = 4 ∧ ∀ m, m < 4 → gR M (Λ (tc t + 1)) m = some (Λ (rc t m)) ∧ RowSh Λ M (rc t m)
theorem TestSh.ch {Λ : Nat → Nat} {M M' : Mm} {t : Nat} {S : Nat → Prop} (h : TestSh Λ M t) (c : Ch S M M') : TestSh Λ M' t := by
  refine ⟨c.okk.mpr h.1, by rw [c.R]; exact h.2.1, c.okk.mpr h.2.2.1, by rw [c.N]; exact h.2.2.2.1, fun m hm => ⟨by rw [c.R]; exact (h.2.2.2.2 m hm).1, (h.2.2.2.2 m hm).2.ch c⟩⟩
/-- of the first k machines but m: shows one of them the step, could one -/
def shO (V : Nat → Nat → Int32) (th : Nat → Bool) (B p r m b : Nat) (z : Int) : Nat → Bool
  | 0 => false
  | o + 1 => shO V th B p r m b z o || (!(o == m) && (th o && shw (V o) B p b z r (zS (V o) B p - 1)))
def coO (V : Nat → Nat → Int32) (th : Nat → Bool) (B m b : Nat) : Nat → Bool
  | 0 => false
  | o + 1 => coO V th B m b o || (!(o == m) && (th o && cou (V o) B b))
/-- is the step at cut i of machine m its own -/
def ownS (V : Nat → Nat → Int32) (th : Nat → Bool) (B p r m i : Nat) : Bool := coO V th B m (cb (V m) B p i) 4 && !shO V th B p r m (cb (V m) B p i) (zZ (V m) B p i) 4
theorem shO_mono {V : Nat → Nat → Int32} {th : Nat → Bool} {B p r m b : Nat} {z : Int} : ∀ {k n : Nat}, k ≤ n → shO V th B p r m b z k = true → shO V th B p r m b z n = true
  | k, 0, h, h1 => by have : k = 0 := by omega
                      subst this; exact h1
  | k, n + 1, h, h1 => by
    by_cases e : k = n + 1
    · rw [← e]; exact h1
    · simp only [shO]; rw [shO_mono (k := k) (n := n) (by omega) h1]; rfl
theorem bi0 {b : Bool} : bi b = 0 ↔ b = false := by cases b <;> simp [bi] <;> decide
theorem bi1 {b : Bool} : ¬ bi b = 0 ↔ b = true := by cases b <;> simp [bi] <;> decide
theorem x_own_33 {Λ : Nat → Nat} {M : Mm} {Q : Int32 → Mm → Prop} {t m B p r b : Nat} {z : Int} {V : Nat → Nat → Int32} {th : Nat → Bool} (ts : TestSh Λ M t) (o0 : ok M (Λ 0) 5) (h9 : gI M (Λ 0) 9 = nI r) (hr : r ≤ 5) (hV : ∀ o, o < 4 → vOk (V o)) (hB : B ≤ 40) (hp : p ≤ 1000) (hb : b ≤ 40) (hm : m < 4) (hth : ∀ o, o < 4 → gI M (Λ (rc t o)) 1 = bi (th o)) (hC : ∀ o, o < 4 → th o = true → RowCut Λ M (rc t o) (V o) B p)
    (hQ : Q (bi (coO V th B m b 4 && !shO V th B p r m b z 4)) M) :
    ∀ (d k : Nat), k + d = 4 → shO V th B p r m b z k = false → B_X5_isItsOwn_33 Q (d + 1) (Λ 0) (some (Λ (tc t))) (nI m) (nI b) (sg z) (bi (coO V th B m b k)) (nI k) M := by
  intro d
  induction d with
  | zero =>
    intro k hk hf
    unfold B_X5_isItsOwn_33
    have e : k = 4 := by omega
    subst e
    rw [hf, Bool.not_false, Bool.and_true] at hQ
    exact ⟨fun _ => ⟨bi_bl _, hQ⟩, fun c => absurd (Int32.le_refl _) c⟩
  | succ d ih =>
    intro k hk hf
    unfold B_X5_isItsOwn_33
    have rsk := (ts.2.2.2.2 k (by omega)).2
    refine ⟨fun c => absurd ((nI_leI (a := 4) (by omega) (by omega)).mp c) (by omega), fun _ => ⟨Λ (tc t), rfl, ts.1, Λ (tc t + 1), ts.2.1, ar_nI ts.2.2.1 ts.2.2.2.1 (by omega) (by omega), fun c => ?_, fun c => ⟨Λ (rc t k), by rw [nI_clamp (by omega)]; exact (ts.2.2.2.2 k (by omega)).1, rsk.1, ?_⟩⟩⟩
    · have e : k = m := (nI_eq (by omega) (by omega)).mp c
      subst e
      have q := ih (k + 1) (by omega) (by simp only [shO, hf]; simp)
      rw [nI_1]
      simp only [coO] at q
      simpa using q
    · have hne : ¬ k = m := fun e => c (by rw [e])
      have hne' : (k == m) = false := by simp [hne]
      rw [hth k (by omega), nI_1]
      refine ⟨fun c2 => ⟨o0, ?_⟩, fun c2 => ?_⟩
      · have hthk := bi1.mp c2
        rw [h9]
        refine x_near rsk (hV k (by omega)) hB hp (hC k (by omega) hthk) hb hr ⟨fun c3 => ?_, fun c3 => ?_⟩
        · have hs0 := bi0.mp c3
          have hsk : shO V th B p r m b z (k + 1) = false := by simp only [shO, hf, hne', hthk, hs0]; rfl
          have go : ∀ x : Bool, x = coO V th B m b (k + 1) → B_X5_isItsOwn_33 Q (d + 1) (Λ 0) (some (Λ (tc t))) (nI m) (nI b) (sg z) (bi x) (nI (k + 1)) M := fun x hx => by rw [hx]; exact ih (k + 1) (by omega) hsk
          refine ⟨fun c4 => ?_, fun c4 => ⟨rsk.1, x_around rsk hB (hC k (by omega) hthk) hb ⟨fun c5 => ?_, fun c5 => ?_⟩⟩⟩
          · exact go true (by simp only [coO, bi1.mp c4]; rfl)
          · exact go false (by simp only [coO, bi0.mp c4, bi0.mp c5]; simp)
          · exact go true (by simp only [coO, bi1.mp c5, hthk, hne']; simp)
        · have hs1 := bi1.mp c3
          have hsk : shO V th B p r m b z (k + 1) = true := by simp only [shO, hne', hthk, hs1]; simp
          rw [shO_mono (show k + 1 ≤ 4 by omega) hsk, Bool.not_true, Bool.and_false] at hQ
          exact hQ
      · have hthk := bi0.mp c2
        have q := ih (k + 1) (by omega) (by simp only [shO, hf, hthk]; simp)
        simp only [coO, hthk] at q
        simpa using q
theorem x_own {Λ : Nat → Nat} {M : Mm} {Q : Int32 → Mm → Prop} {t m B p r i : Nat} {V : Nat → Nat → Int32} {th : Nat → Bool} (ts : TestSh Λ M t) (o0 : ok M (Λ 0) 5) (h9 : gI M (Λ 0) 9 = nI r) (hr : r ≤ 5) (hV : ∀ o, o < 4 → vOk (V o)) (hB : B ≤ 40) (hp : p ≤ 1000) (hm : m < 4) (hth : ∀ o, o < 4 → gI M (Λ (rc t o)) 1 = bi (th o)) (hC : ∀ o, o < 4 → th o = true → RowCut Λ M (rc t o) (V o) B p) (hmt : th m = true) (hi : i + 1 < zS (V m) B p)
    (hQ : Q (bi (ownS V th B p r m i)) M) : B_X5_isItsOwn_0 Q (Λ 0) (some (Λ (tc t))) (nI m) (nI i) M := by
  have rsm := (ts.2.2.2.2 m hm).2
  have hcb := cb_lt (v := V m) hB hp hi
  have hz := zZ_rng (hV m hm) hB hp hi
  have hs := zS_le (v := V m) hB hp
  refine ⟨Λ (tc t), rfl, ts.1, Λ (tc t + 1), ts.2.1, ar_nI ts.2.2.1 ts.2.2.2.1 hm (by omega), Λ (rc t m), by rw [nI_clamp (by omega)]; exact (ts.2.2.2.2 m hm).1, rsm.1, x_cutBuild rsm hB hp (hC m hm hmt) hi ⟨rsm.1, x_stepSize (μ := zM (V m) B p) rsm hs.2 (hC m hm hmt).2.2.2.2.2.1 hi (fun r11 h11 => ?_)⟩⟩
  have h11' : r11.toInt = zZ (V m) B p i := h11
  unfold B_J6_signum_0f7a4_0
  rw [signum_eq r11 (by omega), h11']
  exact ⟨5, x_own_33 ts o0 h9 hr hV hB hp (by omega) hm hth hC hQ 4 0 (by omega) rfl⟩
-- the reference
theorem m_buildOfCut {Λ : Nat → Nat} {M : Mm} {Q : Int32 → Mm → Prop} {B p i : Nat} {v : Nat → Int32} (sh : ModSh Λ M) (hB : B ≤ 40) (hp : p ≤ 1000) (mC : ModCut Λ M v B p) (hi : i + 1 < zS v B p) (hQ : Q (nI (cb v B p i)) M) : B_X6_buildOfCut_0 Q (Λ 400) (nI i) M := by
  have h1 := zF_lt (v := v) hB hp hi
  have hm := mc_le v B
  have hs := zS_le (v := v) hB hp
  unfold B_X6_buildOfCut_0
  rw [nI_1]
  refine ⟨sh.1, Λ 412, sh.r 12 (by omega) (by omega), sh.a 12 (by omega) (by omega) (show i + 1 < 41 by omega), Λ 406, sh.r 6 (by omega) (by omega), ?_⟩
  rw [nI_clamp (by omega), mC.2.2.2.1 _ (by omega)]
  refine ⟨sh.a 6 (by omega) (by omega) (show zF v B p (i + 1) < 40 by omega), ?_⟩
  rw [nI_clamp (by omega), (mC.2.1 _ (by omega)).1]; exact hQ
theorem ModCut.mid {Λ : Nat → Nat} {M : Mm} {B p : Nat} {v : Nat → Int32} (mC : ModCut Λ M v B p) (hv : vOk v) (hB : B ≤ 40) (hp : p ≤ 1000) : ∀ j, j < zS v B p → (gI M (Λ 413) j).toInt = zM v B p j ∧ 0 ≤ zM v B p j ∧ zM v B p j ≤ 1000000 := fun j hj => ⟨mC.2.2.2.2.1 j hj, zM_rng hv hB hp hj⟩
theorem m_near_5 {Λ : Nat → Nat} {M : Mm} {Q : Int32 → Mm → Prop} {B p b r : Nat} {z : Int32} {v : Nat → Int32} (sh : ModSh Λ M) (hv : vOk v) (hB : B ≤ 40) (hp : p ≤ 1000) (mC : ModCut Λ M v B p) (hb : b ≤ 40) (h14 : gI M (Λ 400) 14 = nI r) (hr : r ≤ 5)
    (hQ : Q (bi (shw v B p b z.toInt r (zS v B p - 1))) M) :
    ∀ (d i : Nat), i + d = zS v B p - 1 → B_X6_showsNear_5 Q (d + 1) (Λ 400) (nI b) z (bi (shw v B p b z.toInt r i)) (nI i) M := by
  have hs := zS_le (v := v) hB hp
  have z0 : (0 : Int32).toInt = 0 := rfl
  intro d
  induction d with
  | zero =>
    intro i hd
    unfold B_X6_showsNear_5
    have e : i = zS v B p - 1 := by omega
    subst e
    exact ⟨sh.1, m_isCutN sh hs.2 mC.2.2.1 (by omega) (by omega) ⟨fun _ => ⟨bi_bl _, hQ⟩, fun c => absurd rfl c⟩⟩
  | succ d ih =>
    intro i hd
    unfold B_X6_showsNear_5
    have hz := zZ_rng hv hB hp (show i + 1 < zS v B p by omega)
    have hcb := cb_lt (v := v) hB hp (show i + 1 < zS v B p by omega)
    have hsz := m_sizeOf (Q := fun x M' => M' = M ∧ x.toInt = zZ v B p i) (i := i) sh hs.2 (mC.mid hv hB hp) (by omega) (fun x hx => ⟨rfl, hx⟩)
    have q := ih (i + 1) (by omega)
    simp only [shw] at q
    have go : ∀ x : Bool, x = (shw v B p b z.toInt r i || nrc v B p b z.toInt r i) → B_X6_showsNear_5 Q (d + 1) (Λ 400) (nI b) z (bi x) (nI i + 1) M := fun x hx => by rw [nI_1, hx]; exact q
    have ed : (nI (cb v B p i) - nI b).toInt = (cb v B p i : Int) - b := pk_sub_toInt (by omega) (by omega)
    have en : (-(nI (cb v B p i) - nI b)).toInt = -((cb v B p i : Int) - b) := by rw [negI (by omega), ed]
    have k48 : ∀ s0 : Int32, (¬ s0 = 0 ↔ ab ((cb v B p i : Int) - b) ≤ r) → B_X6_showsNear_48 Q (fun y0 y1 y2 y3 y4 My => B_X6_showsNear_5 Q (d + 1) y0 y1 y2 y3 y4 My) (Λ 400) (nI b) z (bi (shw v B p b z.toInt r i)) (nI i) s0 M := by
      intro s0 hs0
      refine ⟨fun c => go true (by rw [bi1.mp c]; rfl), fun c => ?_⟩
      have hsf := bi0.mp c
      have k72 : ¬ (0 < z.toInt ∧ 0 < zZ v B p i) → ¬ s0 = 0 → B_X6_showsNear_72 Q (fun y0 y1 y2 y3 y4 My => B_X6_showsNear_5 Q (d + 1) y0 y1 y2 y3 y4 My) (Λ 400) (nI b) z (nI i) M := by
        intro hnp hs1
        refine ⟨fun c2 => go false ?_, fun c2 => ⟨sh.1, m_sizeOf (μ := zM v B p) sh hs.2 (mC.mid hv hB hp) (by omega) (fun r4 h4 => ⟨fun c3 => go false ?_, fun c3 => go true ?_⟩)⟩⟩
        · rw [le_I, z0] at c2
          rw [hsf]; unfold nrc; simp only [Bool.false_or]; symm; simp only [decide_eq_false_iff_not]; omega
        · have h4' : r4.toInt = zZ v B p i := h4
          rw [le_I, z0] at c2 c3
          rw [hsf]; unfold nrc; simp only [Bool.false_or]; symm; simp only [decide_eq_false_iff_not]; omega
        · have h4' : r4.toInt = zZ v B p i := h4
          rw [le_I, z0] at c2 c3
          rw [hsf]; unfold nrc; simp only [Bool.false_or]; symm; simp only [decide_eq_true_eq]
          exact ⟨hs0.mp hs1, Or.inr ⟨by omega, by omega⟩⟩
      refine ⟨fun c2 => go false ?_, fun c2 => ⟨fun c3 => k72 ?_ c2, fun c3 => ⟨sh.1, m_sizeOf (μ := zM v B p) sh hs.2 (mC.mid hv hB hp) (by omega) (fun r6 h6 => ⟨fun c4 => go true ?_, fun c4 => k72 ?_ c2⟩)⟩⟩⟩
      · rw [hsf]; unfold nrc; simp only [Bool.false_or]; symm; simp only [decide_eq_false_iff_not]
        exact fun w => (hs0.mpr w.1) c2
      · rw [le_I, z0] at c3; omega
      · have h6' : r6.toInt = zZ v B p i := h6
        rw [le_I, z0] at c3
        rw [lt_I, z0] at c4
        rw [hsf]; unfold nrc; simp only [Bool.false_or]; symm; simp only [decide_eq_true_eq]
        exact ⟨hs0.mp c2, Or.inl ⟨by omega, by omega⟩⟩
      · have h6' : r6.toInt = zZ v B p i := h6
        rw [lt_I, z0] at c4; omega
    refine ⟨sh.1, m_isCutY sh hs.2 mC.2.2.1 (by omega) ⟨fun c => absurd c (by decide), fun _ => ⟨sh.1, m_buildOfCut sh hB hp mC (by omega) ⟨sh.1, ?_⟩⟩⟩⟩
    rw [h14, lt_I, lt_I, ed, en, nI_toInt (by omega)]
    refine ⟨fun c => k48 0 ⟨fun w => absurd rfl w, fun w => ?_⟩, fun c => ⟨fun c2 => k48 0 ⟨fun w => absurd rfl w, fun w => ?_⟩, fun c2 => k48 1 ⟨fun _ => ?_, fun _ => by decide⟩⟩⟩
    · unfold ab at w; omega
    · unfold ab at w; omega
    · unfold ab; omega
theorem m_showsNear {Λ : Nat → Nat} {M : Mm} {Q : Int32 → Mm → Prop} {B p b r : Nat} {z : Int32} {v : Nat → Int32} (sh : ModSh Λ M) (hv : vOk v) (hB : B ≤ 40) (hp : p ≤ 1000) (mC : ModCut Λ M v B p) (hb : b ≤ 40) (h14 : gI M (Λ 400) 14 = nI r) (hr : r ≤ 5) (hQ : Q (bi (shw v B p b z.toInt r (zS v B p - 1))) M) : B_X6_showsNear_0 Q (Λ 400) (nI b) z M :=
  ⟨zS v B p - 1 + 1, m_near_5 sh hv hB hp mC hb h14 hr hQ (zS v B p - 1) 0 (by omega)⟩
theorem m_couldShow {Λ : Nat → Nat} {M : Mm} {Q : Int32 → Mm → Prop} {B p b : Nat} {v : Nat → Int32} (sh : ModSh Λ M) (hB : B ≤ 40) (mC : ModCut Λ M v B p) (hb : b ≤ 40) (hQ : Q (bi (cou v B b)) M) : B_X6_couldShow_0 Q (Λ 400) (nI b) M := by
  have hm := mc_le v B
  refine ⟨sh.1, ?_⟩
  rw [mC.1]
  have no : ¬ (0 < mc v B ∧ mp v B 0 < b ∧ b ≤ mp v B (mc v B - 1)) → Q 0 M := fun h => by
    have : cou v B b = false := by unfold cou; simp only [decide_eq_false_iff_not]; exact h
    rw [this] at hQ; exact hQ
  refine ⟨fun c => no (fun q => ?_), fun c => ?_⟩
  · have := (nI_leI (a := mc v B) (b := 0) (by omega) (by omega)).mp c; omega
  · have h0 : 0 < mc v B := by
      rcases Nat.eq_zero_or_pos (mc v B) with z | z
      · exact absurd (by rw [z]; exact Int32.le_refl _) c
      · exact z
    obtain ⟨k, hk⟩ : ∃ k, mc v B = k + 1 := ⟨mc v B - 1, by omega⟩
    have e1 : nI (mc v B) - (1 : Int32) = nI k := by rw [hk]; exact nI_pred k
    have p0 := mp_spec v B 0 h0
    have pk0 := mp_spec v B k (by omega)
    refine ⟨Λ 406, sh.r 6 (by omega) (by omega), sh.a 6 (by omega) (by omega) (show 0 < 40 by omega), ?_⟩
    rw [show Int32.toNatClampNeg (0 : Int32) = 0 from rfl, (mC.2.1 0 h0).1, e1]
    refine ⟨fun c2 => no (fun q => ?_), fun c2 => ⟨sh.a 6 (by omega) (by omega) (show k < 40 by omega), ?_⟩⟩
    · have := (nI_leI (by omega) (by omega)).mp c2; omega
    · rw [nI_clamp (by omega), (mC.2.1 k (by omega)).1]
      refine ⟨fun c3 => no (fun q => ?_), fun c3 => ?_⟩
      · have := (nI_ltI (by omega) (by omega)).mp c3
        rw [hk, show k + 1 - 1 = k by omega] at q; omega
      · have : cou v B b = true := by
          unfold cou; simp only [decide_eq_true_eq]
          refine ⟨h0, ?_, ?_⟩
          · have : ¬ b ≤ mp v B 0 := fun z => c2 ((nI_leI (by omega) (by omega)).mpr z)
            omega
          · have : ¬ mp v B k < b := fun z => c3 ((nI_ltI (by omega) (by omega)).mpr z)
            rw [hk, show k + 1 - 1 = k by omega]; omega
        rw [this] at hQ; exact hQ
/-- behind cutting: the reference's own numbers stay but three -/
def Mk (Λ : Nat → Nat) (M M1 : Mm) : Prop := Ch (mcS Λ) M M1 ∧ ∀ j, j ≠ 9 → j ≠ 18 → j ≠ 22 → gI M1 (Λ 400) j = gI M (Λ 400) j
theorem Mk.trans {Λ : Nat → Nat} {M M1 M2 : Mm} (h : Mk Λ M M1) (h2 : Mk Λ M1 M2) : Mk Λ M M2 := ⟨h.1.trans h2.1, fun j a b c => (h2.2 j a b c).trans (h.2 j a b c)⟩
theorem m_own_23 {Λ : Nat → Nat} {M : Mm} {Q : Int32 → Mm → Prop} {t m B p r b : Nat} {z : Int32} {V : Nat → Nat → Int32} {th : Nat → Bool} (hΛ : inj Λ) (sh : ModSh Λ M) (ht : t < 8) (h3 : gI M (Λ 400) 3 = nI B) (h13 : gI M (Λ 400) 13 = nI p) (h14 : gI M (Λ 400) 14 = nI r) (hr : r ≤ 5) (hV : ∀ o, o < 4 → vOk (V o)) (hB : B ≤ 40) (hp : p ≤ 1000) (hb : b ≤ 40) (hm : m < 4) (hth : ∀ o, o < 4 → gI M (Λ 403) (4 * t + o) = bi (th o)) (hv : ∀ o, o < 4 → th o = true → ∀ j, j < 40 → gI M (Λ 404) (40 * (4 * t + o) + j) = V o j)
    (hQ : ∀ M', Mk Λ M M' → Q (bi (coO V th B m b 4 && !shO V th B p r m b z.toInt 4)) M') :
    ∀ (d k : Nat) (M1 : Mm), k + d = 4 → Mk Λ M M1 → B_X6_isOwn_23 Q (d + 1) (Λ 400) (nI t) (nI m) (nI b) z (bi (shO V th B p r m b z.toInt k)) (bi (coO V th B m b k)) (nI k) M1 := by
  intro d
  induction d with
  | zero =>
    intro k M1 hk g
    unfold B_X6_isOwn_23
    have e : k = 4 := by omega
    subst e
    have q := hQ M1 g
    refine ⟨fun _ => ⟨fun c => ?_, fun c => ⟨fun c2 => ?_, fun c2 => ?_⟩⟩, fun c => absurd (Int32.le_refl _) c⟩
    · rw [bi0.mp c] at q; exact q
    · rw [bi1.mp c2, Bool.not_true, Bool.and_false] at q; exact q
    · rw [bi1.mp c, bi0.mp c2] at q; exact q
  | succ d ih =>
    intro k M1 hk g
    unfold B_X6_isOwn_23
    have sh1 := sh.ch g.1
    have e4 : ((4 : Int32) * nI t) + nI k = nI (4 * t + k) := by rw [show (4 : Int32) = nI 4 from rfl, pk_mul, nI_add]
    have hth1 : gI M1 (Λ 403) (4 * t + k) = bi (th k) := by rw [g.1.2 _ (mcS_not hΛ (by omega))]; exact hth k (by omega)
    rw [e4, nI_1]
    refine ⟨fun c => absurd ((nI_leI (a := 4) (by omega) (by omega)).mp c) (by omega), fun _ => ⟨fun c => ?_, fun c => ⟨sh1.1, Λ 403, sh1.r 3 (by omega) (by omega), sh1.a 3 (by omega) (by omega) (show 4 * t + k < 32 by omega), ?_⟩⟩⟩
    · have e : k = m := (nI_eq (by omega) (by omega)).mp c
      subst e
      have q := ih (k + 1) M1 (by omega) g
      simp only [shO, coO] at q
      simpa using q
    · have hne : ¬ k = m := fun e => c (by rw [e])
      have hne' : (k == m) = false := by simp [hne]
      rw [nI_clamp (by omega), hth1]
      refine ⟨fun c2 => ?_, fun c2 => ?_⟩
      · have hthk := bi0.mp c2
        have q := ih (k + 1) M1 (by omega) g
        simp only [shO, coO, hthk] at q
        simpa using q
      · have hthk := bi1.mp c2
        refine m_layCuts (v := V k) hΛ sh1 (by omega) hB hp (by rw [g.2 3 (by omega) (by omega) (by omega)]; exact h3) (by rw [g.2 13 (by omega) (by omega) (by omega)]; exact h13) (fun j hj => by rw [g.1.2 _ (mcS_not hΛ (by omega))]; exact hv k (by omega) hthk j hj) (fun M9 c9 j9 mC => ?_)
        have g9 : Mk Λ M M9 := g.trans ⟨c9, j9⟩
        have sh9 := sh.ch g9.1
        have q := ih (k + 1) M9 (by omega) g9
        have k80 : ∀ x : Bool, x = shO V th B p r m b z.toInt (k + 1) → B_X6_isOwn_80 Q (fun y0 y1 y2 y3 y4 y5 y6 y7 My => B_X6_isOwn_23 Q (d + 1) y0 y1 y2 y3 y4 y5 y6 y7 My) (Λ 400) (nI t) (nI m) (nI b) z (bi (coO V th B m b k)) (nI k) (bi x) M9 := by
          intro x hx
          rw [← hx] at q
          have go : ∀ y : Bool, y = coO V th B m b (k + 1) → B_X6_isOwn_23 Q (d + 1) (Λ 400) (nI t) (nI m) (nI b) z (bi x) (bi y) (nI k + 1) M9 := fun y hy => by rw [nI_1, hy]; exact q
          refine ⟨fun c3 => go true (by simp only [coO, bi1.mp c3]; rfl), fun c3 => ⟨sh9.1, m_couldShow sh9 hB mC hb ⟨fun c4 => go false ?_, fun c4 => go true ?_⟩⟩⟩
          · simp only [coO, bi0.mp c3, bi0.mp c4]; simp
          · simp only [coO, bi1.mp c4, hthk, hne']; simp
        refine ⟨fun c3 => k80 true (by simp only [shO, bi1.mp c3]; rfl), fun c3 => ⟨sh9.1, m_showsNear (r := r) sh9 (hV k (by omega)) hB hp mC hb (by rw [g9.2 14 (by omega) (by omega) (by omega)]; exact h14) hr ⟨fun c4 => k80 false ?_, fun c4 => k80 true ?_⟩⟩⟩
        · simp only [shO, bi0.mp c3, bi0.mp c4]; simp
        · simp only [shO, bi1.mp c4, hthk, hne']; simp
theorem m_isOwn {Λ : Nat → Nat} {M : Mm} {Q : Int32 → Mm → Prop} {t m B p r i : Nat} {V : Nat → Nat → Int32} {th : Nat → Bool} (hΛ : inj Λ) (sh : ModSh Λ M) (ht : t < 8) (h3 : gI M (Λ 400) 3 = nI B) (h13 : gI M (Λ 400) 13 = nI p) (h14 : gI M (Λ 400) 14 = nI r) (hr : r ≤ 5) (hV : ∀ o, o < 4 → vOk (V o)) (hB : B ≤ 40) (hp : p ≤ 1000) (hm : m < 4) (hth : ∀ o, o < 4 → gI M (Λ 403) (4 * t + o) = bi (th o)) (hv : ∀ o, o < 4 → th o = true → ∀ j, j < 40 → gI M (Λ 404) (40 * (4 * t + o) + j) = V o j) (mC : ModCut Λ M (V m) B p) (hi : i + 1 < zS (V m) B p)
    (hQ : ∀ M', Mk Λ M M' → Q (bi (ownS V th B p r m i)) M') : B_X6_isOwn_0 Q (Λ 400) (nI t) (nI m) (nI i) M := by
  have hcb := cb_lt (v := V m) hB hp hi
  have hs := zS_le (v := V m) hB hp
  refine ⟨sh.1, m_buildOfCut sh hB hp mC hi ⟨sh.1, m_sizeOf (μ := zM (V m) B p) sh hs.2 (mC.mid (hV m hm) hB hp) hi (fun r6 h6 => ⟨5, ?_⟩)⟩⟩
  have h6' : r6.toInt = zZ (V m) B p i := h6
  refine m_own_23 (r := r) (z := r6) (B := B) (p := p) (V := V) (th := th) hΛ sh ht h3 h13 h14 hr hV hB hp (by omega) hm hth hv (fun M' g => ?_) 4 0 M (by omega) ⟨Ch.refl _ _, fun _ _ _ _ => rfl⟩
  rw [h6']; exact hQ M' g
