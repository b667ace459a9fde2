/-! PURE, 22: the reference's table of choices -/
/-- only longs have changed, and only in cells of S -/
def CJ (S : Nat → Prop) (M M' : Mm) : Prop := M'.1 = M.1 ∧ M'.2.2 = M.2.2 ∧ ∀ b, ¬ S b → gJ M' b = gJ M b
theorem CJ.refl (S : Nat → Prop) (M : Mm) : CJ S M M := ⟨rfl, rfl, fun _ _ => rfl⟩
theorem CJ.trans {S : Nat → Prop} {M M1 M2 : Mm} (h : CJ S M M1) (h2 : CJ S M1 M2) : CJ S M M2 := ⟨h2.1.trans h.1, h2.2.1.trans h.2.1, fun b hb => (h2.2.2 b hb).trans (h.2.2 b hb)⟩
theorem CJ.mono {S T : Nat → Prop} {M M' : Mm} (h : CJ S M M') (hs : ∀ b, S b → T b) : CJ T M M' := ⟨h.1, h.2.1, fun b hb => h.2.2 b (fun z => hb (hs b z))⟩
theorem gJ_pJ_ne {M : Mm} {a k b : Nat} {v : Int64} (h : b ≠ a) : gJ (pJ M a k v) b = gJ M b := by
  funext j; rw [gJ_pJ, if_neg (fun z => h z.1)]
theorem gJ_pJ_eq {M : Mm} {a k : Nat} {v : Int64} : gJ (pJ M a k v) a = vp_updL (gJ M a) k v := by
  funext j; rw [gJ_pJ]; unfold vp_updL; simp
theorem updL_eq (f : Nat → Int64) (k : Nat) (v : Int64) : vp_updL f k v k = v := by simp [vp_updL]
theorem updL_ne (f : Nat → Int64) {k j : Nat} (v : Int64) (h : j ≠ k) : vp_updL f k v j = f j := by simp [vp_updL, h]
theorem CJ.put {S : Nat → Prop} {M : Mm} {a k : Nat} {v : Int64} (h : S a) : CJ S M (pJ M a k v) := ⟨rfl, rfl, fun b hb => gJ_pJ_ne (fun e => hb (by rw [e]; exact h))⟩
theorem CJ.step {S : Nat → Prop} {M M1 : Mm} {a k : Nat} {v : Int64} (h : CJ S M M1) (ha : S a) : CJ S M (pJ M1 a k v) := h.trans (CJ.put ha)
theorem CJ.I {S : Nat → Prop} {M M' : Mm} (h : CJ S M M') : gI M' = gI M := by unfold gI; rw [h.1]
theorem CJ.sh {S : Nat → Prop} {Λ : Nat → Nat} {M M' : Mm} (h : CJ S M M') (s : ModSh Λ M) : ModSh Λ M' := by
  unfold ModSh ok gR gN gK gL at *
  rw [h.2.1]; exact s
theorem ModSh.ofJ {Λ : Nat → Nat} {M : Mm} (s : ModSh Λ M) {a k : Nat} {v : Int64} : ModSh Λ (pJ M a k v) := s
theorem e1700 (c s : Nat) : ((1700 : Int32) * nI c) + nI s = nI (1700 * c + s) := by rw [show (1700 : Int32) = nI 1700 from rfl, pk_mul, nI_add]
def oS (Λ : Nat → Nat) (b : Nat) : Prop := b = Λ 417
theorem m_od_82 {Λ : Nat → Nat} {M : Mm} {Q : Int32 → Mm → Prop} {x1 x2 x3 x5 x6 : Int32} (sh : ModSh Λ M)
    (hQ : ∀ M', CJ (oS Λ) M M' → (∀ i, i < 35700 → gJ M' (Λ 417) i = if i = 0 then 1 else 0) → ∃ n6, B_X6_layOdds_113 Q n6 (Λ 400) x1 x2 x3 x5 x6 x2 M') :
    ∀ (d k : Nat) (M1 : Mm), k + d = 35700 → CJ (oS Λ) M M1 → (∀ i, i < k → gJ M1 (Λ 417) i = 0) → B_X6_layOdds_82 Q (d + 1) (Λ 400) x1 x2 x3 x5 x6 (nI k) M1 := by
  intro d
  induction d with
  | zero =>
    intro k M1 hd gc gz
    unfold B_X6_layOdds_82
    have e : k = 35700 := by omega
    subst e
    have sh1 := gc.sh sh
    refine ⟨fun _ => ⟨sh1.1, Λ 417, sh1.r 17 (by omega) (by omega), sh1.a 17 (by omega) (by omega) (show 0 < 35700 by omega), ?_⟩, fun c => absurd (Int32.le_refl _) c⟩
    rintro _ rfl
    refine hQ _ (gc.step rfl) (fun i hi => ?_)
    rw [show Int32.toNatClampNeg (0 : Int32) = 0 from rfl, gJ_pJ_eq]
    by_cases e : i = 0
    · rw [e, updL_eq, if_pos rfl]
    · rw [updL_ne _ _ e, if_neg e]; exact gz i hi
  | succ d ih =>
    intro k M1 hd gc gz
    unfold B_X6_layOdds_82
    have sh1 := gc.sh sh
    refine ⟨fun c => absurd ((nI_leI (a := 35700) (by omega) (by omega)).mp c) (by omega), fun _ => ⟨sh1.1, Λ 417, sh1.r 17 (by omega) (by omega), sh1.a 17 (by omega) (by omega) (show k < 35700 by omega), ?_⟩⟩
    rintro _ rfl
    rw [nI_clamp (by omega), nI_1]
    refine ih (k + 1) _ (by omega) (gc.step rfl) (fun i hi => ?_)
    rw [gJ_pJ_eq]
    by_cases e : i = k
    · rw [e, updL_eq]
    · rw [updL_ne _ _ e]; exact gz i (by omega)
def JT (Λ : Nat → Nat) (M : Mm) (f : Nat → Nat) (k : Nat) : Prop := ∀ c, c ≤ 20 → ∀ s, s < 1700 → gJ M (Λ 417) (1700 * c + s) = lN (cw f k c s)
theorem m_od_133 {Λ : Nat → Nat} {M : Mm} {Q : Int32 → Mm → Prop} {K113 : Nat → Int32 → Int32 → Int32 → Int32 → Int32 → Int32 → Mm → Prop} {K125 : Nat → Int32 → Int32 → Int32 → Int32 → Int32 → Int32 → Int32 → Mm → Prop} {x1 x2 x3 x5 x6 : Int32} {kk c rr k : Nat} {f : Nat → Nat} (hΛ : inj Λ) (sh : ModSh Λ M) (hkk : kk < 40) (hc : c < 20) (hr : gI M (Λ 408) kk = nI rr) (hrr : rr ≤ 80) (hf : f k = rr)
    (h0 : ∀ s, s < 1700 → gJ M (Λ 417) (1700 * c + s) = lN (cw f k c s)) (h1 : ∀ s, s < 1700 → gJ M (Λ 417) (1700 * (c + 1) + s) = lN (cw f k (c + 1) s))
    (hK : ∀ M', CJ (oS Λ) M M' → (∀ s, s < 1700 → gJ M' (Λ 417) (1700 * (c + 1) + s) = lN (cw f (k + 1) (c + 1) s)) → (∀ i, ¬ (1700 * (c + 1) ≤ i ∧ i < 1700 * (c + 1) + 1700) → gJ M' (Λ 417) i = gJ M (Λ 417) i) → K125 (Λ 400) x1 x2 x3 x5 x6 (nI kk) (nI c + (-1)) M') :
    ∀ (d s : Nat) (M1 : Mm), s + rr + d = 1700 → CJ (oS Λ) M M1 → (∀ a, a < 1700 → gJ M1 (Λ 417) (1700 * (c + 1) + a) = if a < s + rr then lN (cw f (k + 1) (c + 1) a) else gJ M (Λ 417) (1700 * (c + 1) + a)) → (∀ i, ¬ (1700 * (c + 1) ≤ i ∧ i < 1700 * (c + 1) + 1700) → gJ M1 (Λ 417) i = gJ M (Λ 417) i) → B_X6_layOdds_133 Q K113 K125 (d + 1) (Λ 400) x1 x2 x3 x5 x6 (nI kk) (nI c) (nI s) M1 := by
  intro d
  induction d with
  | zero =>
    intro s M1 hd gc g1 g2
    unfold B_X6_layOdds_133
    have sh1 := gc.sh sh
    have hr1 : gI M1 (Λ 408) kk = nI rr := by rw [gc.I]; exact hr
    refine ⟨sh1.1, Λ 408, sh1.r 8 (by omega) (by omega), sh1.a 8 (by omega) (by omega) (show kk < 40 by omega), ?_⟩
    rw [nI_clamp (by omega), hr1, nI_add]
    refine ⟨fun _ => hK M1 gc (fun a ha => ?_) g2, fun z => absurd ((nI_leI (a := 1700) (by omega) (by omega)).mpr (by omega)) z⟩
    rw [g1 a ha, if_pos (by omega)]
  | succ d ih =>
    intro s M1 hd gc g1 g2
    unfold B_X6_layOdds_133
    have sh1 := gc.sh sh
    have hr1 : gI M1 (Λ 408) kk = nI rr := by rw [gc.I]; exact hr
    have ei : ((((1700 : Int32) * (nI c + (1 : Int32))) + nI s) + nI rr) = nI (1700 * (c + 1) + (s + rr)) := by rw [nI_1, e1700, nI_add, Nat.add_assoc]
    refine ⟨sh1.1, Λ 408, sh1.r 8 (by omega) (by omega), sh1.a 8 (by omega) (by omega) (show kk < 40 by omega), ?_⟩
    rw [nI_clamp (n := kk) (by omega), hr1, ei, e1700, nI_add]
    refine ⟨fun z => absurd ((nI_leI (a := 1700) (by omega) (by omega)).mp z) (by omega), fun _ => ⟨sh1.a 8 (by omega) (by omega) (show kk < 40 by omega), Λ 417, sh1.r 17 (by omega) (by omega), sh1.a 17 (by omega) (by omega) (show 1700 * (c + 1) + (s + rr) < 35700 by omega), sh1.a 17 (by omega) (by omega) (show 1700 * c + s < 35700 by omega), sh1.a 17 (by omega) (by omega) (show 1700 * (c + 1) + (s + rr) < 35700 by omega), ?_⟩⟩
    rintro _ rfl
    rw [nI_clamp (by omega), nI_clamp (by omega), g1 _ (by omega), if_neg (by omega), h1 _ (by omega), g2 _ (by omega), h0 s (by omega), lN_add, nI_1]
    have ecw : cw f (k + 1) (c + 1) (s + rr) = cw f k (c + 1) (s + rr) + cw f k c s := by rw [cw, hf, if_pos (by omega), show s + rr - rr = s by omega]
    rw [← ecw]
    refine ih (s + 1) _ (by omega) (gc.step rfl) (fun a ha => ?_) (fun i hi => ?_)
    · rw [gJ_pJ_eq]
      by_cases e : a = s + rr
      · rw [e, updL_eq, if_pos (by omega)]
      · rw [updL_ne _ _ (by omega), g1 a ha]
        by_cases e2 : a < s + rr
        · rw [if_pos e2, if_pos (by omega)]
        · rw [if_neg e2, if_neg (by omega)]
    · rw [gJ_pJ_eq, updL_ne _ _ (by omega)]; exact g2 i hi
theorem m_od_125 {Λ : Nat → Nat} {M : Mm} {Q : Int32 → Mm → Prop} {K113 : Nat → Int32 → Int32 → Int32 → Int32 → Int32 → Int32 → Mm → Prop} {x1 x2 x3 x5 x6 : Int32} {kk rr k : Nat} {f : Nat → Nat} (hΛ : inj Λ) (sh : ModSh Λ M) (hkk : kk < 40) (hk : k < 20) (hr : gI M (Λ 408) kk = nI rr) (hrr : rr ≤ 80) (hf : f k = rr) (ht : JT Λ M f k)
    (hK : ∀ M', CJ (oS Λ) M M' → JT Λ M' f (k + 1) → K113 (Λ 400) x1 x2 x3 x5 x6 (nI kk + 1) M') :
    ∀ (c : Nat) (M1 : Mm), c ≤ k + 1 → CJ (oS Λ) M M1 → (∀ a, a ≤ c → ∀ s, s < 1700 → gJ M1 (Λ 417) (1700 * a + s) = lN (cw f k a s)) → (∀ a, c < a → a ≤ 20 → ∀ s, s < 1700 → gJ M1 (Λ 417) (1700 * a + s) = lN (cw f (k + 1) a s)) → B_X6_layOdds_125 Q K113 (c + 1) (Λ 400) x1 x2 x3 x5 x6 (nI kk) (nI c - 1) M1 := by
  intro c
  induction c with
  | zero =>
    intro M1 hc gc g1 g2
    unfold B_X6_layOdds_125
    refine ⟨fun _ => hK M1 gc (fun a ha s hs => ?_), fun z => absurd (by decide) z⟩
    cases a with
    | zero => rw [g1 0 (by omega) s hs, cw]
    | succ a => exact g2 (a + 1) (by omega) ha s hs
  | succ c ih =>
    intro M1 hc gc g1 g2
    unfold B_X6_layOdds_125
    rw [show nI (c + 1) - (1 : Int32) = nI c from nI_pred c]
    refine ⟨fun z => absurd z (nI_pos (by omega)), fun _ => ⟨1700 - rr + 1, ?_⟩⟩
    refine m_od_133 (f := f) (k := k) (rr := rr) hΛ (gc.sh sh) hkk (by omega) (by rw [gc.I]; exact hr) hrr hf (fun s hs => g1 c (by omega) s hs) (fun s hs => g1 (c + 1) (by omega) s hs) (fun M' c' t1 t2 => ?_) (1700 - rr) 0 M1 (by omega) (CJ.refl _ _) (fun a ha => ?_) (fun i _ => rfl)
    · rw [show nI c + (-1 : Int32) = nI c - 1 by rw [Int32.sub_eq_add_neg]]
      refine ih M' (by omega) (gc.trans c') (fun a ha s hs => ?_) (fun a ha hb s hs => ?_)
      · rw [t2 _ (by omega)]; exact g1 a (by omega) s hs
      · by_cases e : a = c + 1
        · rw [e]; exact t1 s hs
        · rw [t2 _ (by omega)]; exact g2 a (by omega) hb s hs
    · by_cases e : a < 0 + rr
      · rw [if_pos e, g1 (c + 1) (by omega) a ha]
        congr 1
        rw [cw, hf, if_neg (by omega)]; omega
      · rw [if_neg e]
theorem m_od_113 {Λ : Nat → Nat} {M : Mm} {Q : Int32 → Mm → Prop} {x1 x5 x6 : Int32} {fr n : Nat} {f : Nat → Nat} (hΛ : inj Λ) (sh : ModSh Λ M) (hn : n ≤ 20) (hfr : fr + n ≤ 40) (hr : ∀ k, k < n → f k ≤ 80 ∧ gI M (Λ 408) (fr + k) = nI (f k))
    (hQ : ∀ M', CJ (oS Λ) M M' → JT Λ M' f n → (ok M' (Λ 400) 6 ∧ (∀ M3, M3 = pJ M' (Λ 400) 25 (0 : Int64) → (∀ M4, M4 = pJ M3 (Λ 400) 26 (0 : Int64) → (B_X6_sizeOf_0 (fun r6 M5 => ((0 ≤ r6 → (∃ n8, B_X6_layOdds_236 Q n8 (Λ 400) x5 x6 (0 : Int32) (0 : Int32) M5)) ∧ (¬ 0 ≤ r6 → (∃ n9, B_X6_layOdds_236 Q n9 (Λ 400) x5 x6 (1 : Int32) (0 : Int32) M5)))) (Λ 400) x1 M4))))) :
    ∀ (d k : Nat) (M1 : Mm), k + d = n → CJ (oS Λ) M M1 → JT Λ M1 f k → B_X6_layOdds_113 Q (d + 1) (Λ 400) x1 (nI fr) (nI (fr + n)) x5 x6 (nI (fr + k)) M1 := by
  intro d
  induction d with
  | zero =>
    intro k M1 hd gc gt
    unfold B_X6_layOdds_113
    have e : k = n := by omega
    subst e
    exact ⟨fun _ => hQ M1 gc gt, fun c => absurd (Int32.le_refl _) c⟩
  | succ d ih =>
    intro k M1 hd gc gt
    unfold B_X6_layOdds_113
    have hk := hr k (by omega)
    refine ⟨fun z => absurd ((nI_leI (by omega) (by omega)).mp z) (by omega), fun _ => ⟨k + 1 + 1, ?_⟩⟩
    rw [pk_sub (by omega), show fr + k - fr = k by omega, show nI k = nI (k + 1) - 1 from (nI_pred k).symm]
    refine m_od_125 (f := f) (k := k) (rr := f k) hΛ (gc.sh sh) (by omega) (by omega) (by rw [gc.I]; exact hk.2) hk.1 rfl gt (fun M' c' t' => ?_) (k + 1) M1 (by omega) (CJ.refl _ _) (fun a ha s hs => gt a (by omega) s hs) (fun a ha hb s hs => ?_)
    · rw [nI_1, show fr + k + 1 = fr + (k + 1) by omega]
      exact ih (k + 1) M' (by omega) (gc.trans c') t'
    · rw [gt a hb s hs, cw_big f s (show k < a by omega), cw_big f s (show k + 1 < a by omega)]
/-- the sums that the reference takes of a row of its table -/
theorem m_od_236 {Λ : Nat → Nat} {M : Mm} {Q : Int32 → Mm → Prop} {m n sm : Nat} {f : Nat → Nat} {dn : Bool} (hΛ : inj Λ) (sh : ModSh Λ M) (hm : m ≤ 20) (hsm : sm < 2 ^ 20) (ht : JT Λ M f n)
    (hQ : ∀ M', CJ (fun b => b = Λ 400) M M' → (∀ j, j ≠ 25 → j ≠ 26 → gJ M' (Λ 400) j = gJ M (Λ 400) j) → gJ M' (Λ 400) 25 = lN (rowS (cw f n m) (fun s => if dn then decide (s ≤ sm) else decide (sm ≤ s)) 1700) → gJ M' (Λ 400) 26 = lN (rowS (cw f n m) (fun _ => true) 1700) → Q 1 M') :
    ∀ (d s : Nat) (M1 : Mm), s + d = 1700 → CJ (fun b => b = Λ 400) M M1 → (∀ j, j ≠ 25 → j ≠ 26 → gJ M1 (Λ 400) j = gJ M (Λ 400) j) → gJ M1 (Λ 400) 25 = lN (rowS (cw f n m) (fun s => if dn then decide (s ≤ sm) else decide (sm ≤ s)) s) → gJ M1 (Λ 400) 26 = lN (rowS (cw f n m) (fun _ => true) s) → B_X6_layOdds_236 Q (d + 1) (Λ 400) (nI m) (nI sm) (bi dn) (nI s) M1 := by
  intro d
  induction d with
  | zero =>
    intro s M1 hd gc gj g1 g2
    unfold B_X6_layOdds_236
    have e : s = 1700 := by omega
    subst e
    exact ⟨fun _ => hQ M1 gc gj g1 g2, fun c => absurd (Int32.le_refl _) c⟩
  | succ d ih =>
    intro s M1 hd gc gj g1 g2
    unfold B_X6_layOdds_236
    have sh1 := gc.sh sh
    have e17 : gJ M1 (Λ 417) (1700 * m + s) = lN (cw f n m s) := by rw [gc.2.2 _ (hΛ.ne (by omega))]; exact ht m hm s (by omega)
    refine ⟨fun c => absurd ((nI_leI (a := 1700) (by omega) (by omega)).mp c) (by omega), fun _ => ⟨sh1.1, Λ 417, sh1.r 17 (by omega) (by omega), by rw [e1700]; exact sh1.a 17 (by omega) (by omega) (show 1700 * m + s < 35700 by omega), ?_⟩⟩
    rintro _ rfl
    rw [e1700, nI_clamp (by omega), e17, g2, lN_add]
    have r2 : rowS (cw f n m) (fun _ => true) (s + 1) = rowS (cw f n m) (fun _ => true) s + cw f n m s := by simp [rowS]
    rw [← r2]
    have f25 : gJ (pJ M1 (Λ 400) 26 (lN (rowS (cw f n m) (fun _ => true) (s + 1)))) (Λ 400) 25 = lN (rowS (cw f n m) (fun s => if dn then decide (s ≤ sm) else decide (sm ≤ s)) s) := by rw [gJ_pJ_eq, updL_ne _ _ (by omega)]; exact g1
    have step : ∀ w : Nat, rowS (cw f n m) (fun s => if dn then decide (s ≤ sm) else decide (sm ≤ s)) (s + 1) = rowS (cw f n m) (fun s => if dn then decide (s ≤ sm) else decide (sm ≤ s)) s + w → B_X6_layOdds_236 Q (d + 1) (Λ 400) (nI m) (nI sm) (bi dn) (nI s + 1) (pJ (pJ M1 (Λ 400) 26 (lN (rowS (cw f n m) (fun _ => true) (s + 1)))) (Λ 400) 25 (lN (rowS (cw f n m) (fun s => if dn then decide (s ≤ sm) else decide (sm ≤ s)) s) + lN w)) := by
      intro w hw
      rw [lN_add, ← hw, nI_1]
      refine ih (s + 1) _ (by omega) ((gc.step rfl).step rfl) (fun j h1 h2 => ?_) ?_ ?_
      · rw [gJ_pJ_eq, updL_ne _ _ h1, gJ_pJ_eq, updL_ne _ _ h2]; exact gj j h1 h2
      · rw [gJ_pJ_eq, updL_eq]
      · rw [gJ_pJ_eq, updL_ne _ _ (by omega), gJ_pJ_eq, updL_eq]
    rw [f25]
    cases dn with
    | false =>
      refine ⟨fun _ => ⟨fun c => ?_, fun c => ?_⟩, fun c => absurd rfl c⟩
      · rintro _ rfl
        have hlt := (nI_ltI (by omega) (by omega)).mp c
        exact step 0 (by simp only [rowS, Bool.false_eq_true, if_false, decide_eq_true_eq]; rw [if_neg (by omega)])
      · rintro _ rfl
        have hge : ¬ s < sm := fun z => c ((nI_ltI (by omega) (by omega)).mpr z)
        exact step _ (by simp only [rowS, Bool.false_eq_true, if_false, decide_eq_true_eq]; rw [if_pos (by omega)])
    | true =>
      refine ⟨fun c => absurd c (by decide), fun _ => ⟨fun c => ?_, fun c => ?_⟩⟩
      · rintro _ rfl
        have hlt := (nI_ltI (by omega) (by omega)).mp c
        exact step 0 (by simp only [rowS, if_true, decide_eq_true_eq]; rw [if_neg (by omega)])
      · rintro _ rfl
        have hge : ¬ sm < s := fun z => c ((nI_ltI (by omega) (by omega)).mpr z)
        exact step _ (by simp only [rowS, if_true, decide_eq_true_eq]; rw [if_pos (by omega)])
