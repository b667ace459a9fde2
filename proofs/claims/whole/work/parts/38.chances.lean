/-! PURE, 18: the class's table of choices -/
def ChSh (Λ : Nat → Nat) (M : Mm) : Prop := ok M (Λ 10) 0 ∧ gR M (Λ 10) 0 = some (Λ 11) ∧ ok M (Λ 11) 7 ∧ gN M (Λ 11) = 8591
theorem ChSh.ch {Λ : Nat → Nat} {M M' : Mm} {S : Nat → Prop} (h : ChSh Λ M) (c : Ch S M M') : ChSh Λ M' := by
  unfold ChSh ok at *
  rw [c.R, c.N, c.K, c.L]; exact h
theorem ChSh.a {Λ : Nat → Nat} {M : Mm} (h : ChSh Λ M) {k : Nat} (hk : k < 8591) : ar M (Λ 11) 7 (nI k) := ar_nI h.2.2.1 h.2.2.2 hk (by omega)
theorem e781 (c s : Nat) : nI c * (781 : Int32) + nI s = nI (c * 781 + s) := by rw [show (781 : Int32) = nI 781 from rfl, pk_mul, nI_add]
theorem x_clear_10 {Λ : Nat → Nat} {Q : Mm → Prop} {K2 : Nat → Int32 → Int32 → Int32 → Mm → Prop} {ch sm c : Nat} {M : Mm} (sh : ChSh Λ M) (hch : ch ≤ 10) (hsm : sm ≤ 780) (hc : c ≤ ch)
    (hK : ∀ M', Ch (fun b => b = Λ 11) M M' → (∀ i, gI M' (Λ 11) i = if c * 781 ≤ i ∧ i ≤ c * 781 + sm then 0 else gI M (Λ 11) i) → K2 (Λ 10) (nI ch) (nI sm) (nI c + 1) M') :
    ∀ (d s : Nat) (M1 : Mm), s + d = sm + 1 → Ch (fun b => b = Λ 11) M M1 → (∀ i, gI M1 (Λ 11) i = if c * 781 ≤ i ∧ i < c * 781 + s then 0 else gI M (Λ 11) i) → B_X0_clear_10 Q K2 (d + 1) (Λ 10) (nI ch) (nI sm) (nI c) (nI s) M1 := by
  intro d
  induction d with
  | zero =>
    intro s M1 hd gc gt
    unfold B_X0_clear_10
    refine ⟨fun _ => hK M1 gc (fun i => ?_), fun z => absurd ((nI_ltI (by omega) (by omega)).mpr (by omega)) z⟩
    rw [gt i]
    by_cases e : c * 781 ≤ i ∧ i ≤ c * 781 + sm
    · rw [if_pos e, if_pos (by omega)]
    · rw [if_neg e, if_neg (by omega)]
  | succ d ih =>
    intro s M1 hd gc gt
    unfold B_X0_clear_10
    have sh1 := sh.ch gc
    refine ⟨fun z => absurd ((nI_ltI (by omega) (by omega)).mp z) (by omega), fun _ => ⟨sh1.1, Λ 11, sh1.2.1, by rw [e781]; exact sh1.a (by omega), ?_⟩⟩
    rintro _ rfl
    rw [e781, nI_clamp (by omega), nI_1]
    refine ih (s + 1) _ (by omega) (gc.step rfl) (fun i => ?_)
    rw [gI_pI_eq]
    by_cases e : i = c * 781 + s
    · rw [e, upd_eq, if_pos (by omega)]
    · rw [upd_ne _ _ e, gt i]
      by_cases e2 : c * 781 ≤ i ∧ i < c * 781 + s
      · rw [if_pos e2, if_pos (by omega)]
      · rw [if_neg e2, if_neg (by omega)]
/-- the table holds the ways for the first k -/
def TabOk (Λ : Nat → Nat) (M : Mm) (g : Nat → Nat) (k ch sm : Nat) : Prop := ∀ c, c ≤ ch → ∀ s, s ≤ sm → gI M (Λ 11) (c * 781 + s) = nI (cw g k c s)
theorem x_clear_2 {Λ : Nat → Nat} {Q : Mm → Prop} {ch sm : Nat} {M : Mm} {g : Nat → Nat} (sh : ChSh Λ M) (hch : ch ≤ 10) (hsm : sm ≤ 780)
    (hQ : ∀ M', Ch (fun b => b = Λ 11) M M' → TabOk Λ M' g 0 ch sm → Q M') :
    ∀ (d c : Nat) (M1 : Mm), c + d = ch + 1 → Ch (fun b => b = Λ 11) M M1 → (∀ a, a < c → ∀ s, s ≤ sm → gI M1 (Λ 11) (a * 781 + s) = 0) → B_X0_clear_2 Q (d + 1) (Λ 10) (nI ch) (nI sm) (nI c) M1 := by
  intro d
  induction d with
  | zero =>
    intro c M1 hd gc gz
    unfold B_X0_clear_2
    have sh1 := sh.ch gc
    refine ⟨fun _ => ⟨sh1.1, Λ 11, sh1.2.1, sh1.a (k := 0) (by omega), ?_⟩, fun z => absurd ((nI_ltI (by omega) (by omega)).mpr (by omega)) z⟩
    rintro _ rfl
    refine hQ _ (gc.step rfl) (fun a ha s hs => ?_)
    rw [show Int32.toNatClampNeg (0 : Int32) = 0 from rfl, gI_pI_eq]
    by_cases e : a * 781 + s = 0
    · have e1 : a = 0 := by omega
      have e2 : s = 0 := by omega
      subst e1; subst e2; rw [upd_eq]; rfl
    · rw [upd_ne _ _ e, gz a (by omega) s hs]
      cases a with
      | zero => simp only [cw]; rw [if_neg (by omega)]; rfl
      | succ a => rfl
  | succ d ih =>
    intro c M1 hd gc gz
    unfold B_X0_clear_2
    refine ⟨fun z => absurd ((nI_ltI (by omega) (by omega)).mp z) (by omega), fun _ => ⟨sm + 1 + 1, ?_⟩⟩
    refine x_clear_10 (sh.ch gc) hch hsm (by omega) (fun M' c' t' => ?_) (sm + 1) 0 M1 (by omega) (Ch.refl _ _) (fun i => by rw [if_neg (by omega)])
    rw [nI_1]
    refine ih (c + 1) M' (by omega) (gc.trans c') (fun a ha s hs => ?_)
    rw [t']
    by_cases e : a = c
    · rw [if_pos (by rw [e]; omega)]
    · rw [if_neg (by omega)]; exact gz a (by omega) s hs
theorem x_clear {Λ : Nat → Nat} {Q : Mm → Prop} {ch sm : Nat} {M : Mm} {g : Nat → Nat} (sh : ChSh Λ M) (hch : ch ≤ 10) (hsm : sm ≤ 780) (hQ : ∀ M', Ch (fun b => b = Λ 11) M M' → TabOk Λ M' g 0 ch sm → Q M') : B_X0_clear_0 Q (Λ 10) (nI ch) (nI sm) M :=
  ⟨ch + 1 + 1, x_clear_2 sh hch hsm hQ (ch + 1) 0 M (by omega) (Ch.refl _ _) (fun a ha => absurd ha (by omega))⟩
theorem x_add_29 {Λ : Nat → Nat} {Q : Mm → Prop} {K3 : Nat → Int32 → Int32 → Int32 → Mm → Prop} {far sm c ch : Nat} {x6 : Int32} {M : Mm} {g : Nat → Nat} {k : Nat} (sh : ChSh Λ M) (hch : ch ≤ 10) (hsm : sm ≤ 780) (hc : c + 1 ≤ ch) (hf : far ≤ 780) (hg : g k = far) (h6 : x6.toInt = (c * 781 : Int) - far)
    (ht : ∀ s, s ≤ sm → gI M (Λ 11) (c * 781 + s) = nI (cw g k c s)) (ht1 : ∀ s, s ≤ sm → gI M (Λ 11) ((c + 1) * 781 + s) = nI (cw g k (c + 1) s))
    (hK : ∀ M', Ch (fun b => b = Λ 11) M M' → (∀ s, s ≤ sm → gI M' (Λ 11) ((c + 1) * 781 + s) = nI (cw g (k + 1) (c + 1) s)) → (∀ i, ¬ ((c + 1) * 781 ≤ i ∧ i ≤ (c + 1) * 781 + sm) → gI M' (Λ 11) i = gI M (Λ 11) i) → K3 (Λ 10) (nI far) (nI sm) (nI (c + 1) + (-1)) M') :
    ∀ (d s : Nat) (M1 : Mm), s + d = max far (sm + 1) → far ≤ s → Ch (fun b => b = Λ 11) M M1 → (∀ a, a ≤ sm → gI M1 (Λ 11) ((c + 1) * 781 + a) = if a < s then nI (cw g (k + 1) (c + 1) a) else gI M (Λ 11) ((c + 1) * 781 + a)) → (∀ i, ¬ ((c + 1) * 781 ≤ i ∧ i ≤ (c + 1) * 781 + sm) → gI M1 (Λ 11) i = gI M (Λ 11) i) → B_X0_addOne_29 Q K3 (d + 1) (Λ 10) (nI far) (nI sm) (nI (c + 1)) (nI ((c + 1) * 781)) x6 (nI s) M1 := by
  intro d
  induction d with
  | zero =>
    intro s M1 hd hs gc g1 g2
    unfold B_X0_addOne_29
    refine ⟨fun _ => hK M1 gc (fun a ha => ?_) g2, fun z => absurd ((nI_ltI (by omega) (by omega)).mpr (by omega)) z⟩
    rw [g1 a ha, if_pos (by omega)]
  | succ d ih =>
    intro s M1 hd hs gc g1 g2
    unfold B_X0_addOne_29
    have sh1 := sh.ch gc
    have e5 : nI ((c + 1) * 781) + nI s = nI ((c + 1) * 781 + s) := nI_add _ _
    have e6 : x6 + nI s = nI (c * 781 + (s - far)) := by
      rw [eq_I, addI (by rw [h6, nI_toInt (by omega)]; omega) (by rw [h6, nI_toInt (by omega)]; omega), h6, nI_toInt (by omega), nI_toInt (by omega)]; omega
    rw [e5, e6]
    refine ⟨fun z => absurd ((nI_ltI (by omega) (by omega)).mp z) (by omega), fun _ => ⟨sh1.1, Λ 11, sh1.2.1, sh1.a (by omega), sh1.a (by omega), sh1.a (by omega), ?_⟩⟩
    rintro _ rfl
    rw [nI_clamp (by omega), nI_clamp (by omega), g1 s (by omega), if_neg (by omega), ht1 s (by omega), g2 _ (by omega), ht (s - far) (by omega), nI_add, nI_1]
    have ecw : cw g (k + 1) (c + 1) s = cw g k (c + 1) s + cw g k c (s - far) := by rw [cw, hg, if_pos hs]
    rw [← ecw]
    refine ih (s + 1) _ (by omega) (by omega) (gc.step rfl) (fun a ha => ?_) (fun i hi => ?_)
    · rw [gI_pI_eq]
      by_cases e : a = s
      · rw [e, upd_eq, if_pos (by omega)]
      · rw [upd_ne _ _ (by omega), g1 a ha]
        by_cases e2 : a < s
        · rw [if_pos e2, if_pos (by omega)]
        · rw [if_neg e2, if_neg (by omega)]
    · rw [gI_pI_eq, upd_ne _ _ (by omega)]; exact g2 i hi
theorem x_add_3 {Λ : Nat → Nat} {Q : Mm → Prop} {far sm ch : Nat} {M : Mm} {g : Nat → Nat} {k : Nat} (sh : ChSh Λ M) (hch : ch ≤ 10) (hsm : sm ≤ 780) (hf : far ≤ 780) (hg : g k = far) (ht : TabOk Λ M g k ch sm)
    (hQ : ∀ M', Ch (fun b => b = Λ 11) M M' → TabOk Λ M' g (k + 1) ch sm → Q M') :
    ∀ (c : Nat) (M1 : Mm), c ≤ ch → Ch (fun b => b = Λ 11) M M1 → (∀ a, a ≤ c → ∀ s, s ≤ sm → gI M1 (Λ 11) (a * 781 + s) = nI (cw g k a s)) → (∀ a, c < a → a ≤ ch → ∀ s, s ≤ sm → gI M1 (Λ 11) (a * 781 + s) = nI (cw g (k + 1) a s)) → B_X0_addOne_3 Q (c + 1) (Λ 10) (nI far) (nI sm) (nI c) M1 := by
  intro c
  induction c with
  | zero =>
    intro M1 hc gc g1 g2
    unfold B_X0_addOne_3
    refine ⟨fun _ => hQ M1 gc (fun a ha s hs => ?_), fun z => absurd (Int32.le_refl _) z⟩
    cases a with
    | zero => rw [g1 0 (by omega) s hs, cw]
    | succ a => exact g2 (a + 1) (by omega) ha s hs
  | succ c ih =>
    intro M1 hc gc g1 g2
    unfold B_X0_addOne_3
    refine ⟨fun z => absurd ((nI_leI (b := 0) (by omega) (by omega)).mp z) (by omega), fun _ => ⟨max far (sm + 1) - far + 1, ?_⟩⟩
    have e7 : nI (c + 1) * (781 : Int32) = nI ((c + 1) * 781) := by rw [show (781 : Int32) = nI 781 from rfl, pk_mul]
    have z781 : (781 : Int32).toInt = 781 := rfl
    rw [e7]
    have h6 : ((nI ((c + 1) * 781) - (781 : Int32)) - nI far).toInt = (c * 781 : Int) - far := by
      have e1 : (nI ((c + 1) * 781) - (781 : Int32)).toInt = (c * 781 : Int) := by rw [subI (by rw [nI_toInt (by omega), z781]; omega) (by rw [nI_toInt (by omega), z781]; omega), nI_toInt (by omega), z781]; omega
      rw [subI (by rw [e1, nI_toInt (by omega)]; omega) (by rw [e1, nI_toInt (by omega)]; omega), e1, nI_toInt (by omega)]
    refine x_add_29 (ch := ch) (g := g) (k := k) (sh.ch gc) hch hsm hc hf hg h6 (fun s hs => g1 c (by omega) s hs) (fun s hs => g1 (c + 1) (by omega) s hs) (fun M' c' t1 t2 => ?_) (max far (sm + 1) - far) far M1 (by omega) (Nat.le_refl _) (Ch.refl _ _) (fun a ha => ?_) (fun i _ => rfl)
    · rw [pk_m1]
      refine ih M' (by omega) (gc.trans c') (fun a ha s hs => ?_) (fun a ha hb s hs => ?_)
      · rw [t2 _ (by omega)]; exact g1 a (by omega) s hs
      · by_cases e : a = c + 1
        · rw [e]; exact t1 s hs
        · rw [t2 _ (by omega)]; exact g2 a (by omega) hb s hs
    · by_cases e : a < far
      · rw [if_pos e, g1 (c + 1) (by omega) a ha]
        congr 1
        rw [cw, hg, if_neg (by omega)]; omega
      · rw [if_neg e]
theorem x_addOne {Λ : Nat → Nat} {Q : Mm → Prop} {far sm ch c : Nat} {M : Mm} {g : Nat → Nat} {k : Nat} (sh : ChSh Λ M) (hch : ch ≤ 10) (hsm : sm ≤ 780) (hf : far ≤ 780) (hg : g k = far) (ht : TabOk Λ M g k ch sm) (hc : c = min ch (k + 1))
    (hQ : ∀ M', Ch (fun b => b = Λ 11) M M' → TabOk Λ M' g (k + 1) ch sm → Q M') : B_X0_addOne_0 Q (Λ 10) (nI far) (nI c) (nI sm) M :=
  ⟨c + 1, x_add_3 sh hch hsm hf hg ht hQ c M (by omega) (Ch.refl _ _) (fun a ha s hs => ht a (by omega) s hs) (fun a ha hb s hs => by
    rw [ht a hb s hs, cw_big g s (show k < a by omega), cw_big g s (show k + 1 < a by omega)])⟩
theorem x_cnt_56 {Λ : Nat → Nat} {Q : Int32 → Mm → Prop} {ch sm n : Nat} {M : Mm} {g : Nat → Nat} (sh : ChSh Λ M) (hch : ch ≤ 10) (hsm : sm ≤ 780) (ht : TabOk Λ M g n ch sm) (hQ : Q (nI (rowS (cw g n ch) (fun _ => true) (sm + 1))) M) :
    ∀ (d s : Nat), s + d = sm + 1 → B_X0_countUpTo_56 Q (d + 1) (Λ 10) (nI ch) (nI sm) (nI (rowS (cw g n ch) (fun _ => true) s)) (nI s) M := by
  intro d
  induction d with
  | zero =>
    intro s hd
    unfold B_X0_countUpTo_56
    have e : s = sm + 1 := by omega
    subst e
    exact ⟨fun _ => hQ, fun z => absurd ((nI_ltI (by omega) (by omega)).mpr (by omega)) z⟩
  | succ d ih =>
    intro s hd
    unfold B_X0_countUpTo_56
    refine ⟨fun z => absurd ((nI_ltI (by omega) (by omega)).mp z) (by omega), fun _ => ⟨sh.1, Λ 11, sh.2.1, by rw [e781]; exact sh.a (by omega), ?_⟩⟩
    rw [e781, nI_clamp (by omega), ht ch (Nat.le_refl _) s (by omega), nI_add, nI_1]
    exact ih (s + 1) (by omega)
theorem x_cnt_11 {Λ : Nat → Nat} {Q : Int32 → Mm → Prop} {a fr n ch sm e : Nat} {M : Mm} {g ρ : Nat → Nat} (hΛ : inj Λ) (ha : a ≠ 11) (sh : ChSh Λ M) (oa : ok M (Λ a) 7) (la : gN M (Λ a) = 40) (hch : ch ≤ 10) (hsm : sm ≤ 780) (hn : fr + n ≤ 40) (he : e ≤ 80) (hρ : ∀ k, k < fr + n → ρ k ≤ 80 ∧ gI M (Λ a) k = nI (ρ k)) (hg : ∀ k, k < n → (g k : Int) = ab ((e : Int) - ρ (fr + k)))
    (hQ : ∀ M', Ch (fun b => b = Λ 11) M M' → Q (nI (rowS (cw g n ch) (fun _ => true) (sm + 1))) M') :
    ∀ (d k : Nat) (M1 : Mm), k + d = n → Ch (fun b => b = Λ 11) M M1 → TabOk Λ M1 g k ch sm → B_X0_countUpTo_11 Q (d + 1) (Λ 10) (some (Λ a)) (nI fr) (nI (fr + n)) (nI e) (nI ch) (nI sm) (nI (fr + k)) M1 := by
  intro d
  induction d with
  | zero =>
    intro k M1 hd gc gt
    unfold B_X0_countUpTo_11
    have ek : k = n := by omega
    subst ek
    exact ⟨fun _ => ⟨sm + 1 + 1, x_cnt_56 (sh.ch gc) hch hsm gt (hQ M1 gc) (sm + 1) 0 (by omega)⟩, fun z => absurd (Int32.le_refl _) z⟩
  | succ d ih =>
    intro k M1 hd gc gt
    unfold B_X0_countUpTo_11
    have hk := hρ (fr + k) (by omega)
    have hgk := hg k (by omega)
    refine ⟨fun z => absurd ((nI_leI (by omega) (by omega)).mp z) (by omega), fun _ => ⟨Λ a, rfl, ar_nI (N := 40) (gc.okk.mpr oa) (by rw [gc.N]; exact la) (by omega) (by omega), (sh.ch gc).1, ?_⟩⟩
    rw [nI_clamp (by omega), gc.2 _ (hΛ.ne ha), hk.2]
    have ea : (if 0 ≤ nI e - nI (ρ (fr + k)) then nI e - nI (ρ (fr + k)) else 0 - (nI e - nI (ρ (fr + k)))) = nI (g k) := by
      rw [eq_I, jab1 (by omega) (by omega), nI_toInt (by unfold ab at hgk; omega)]; omega
    have em : (if (nI (fr + k) - nI fr) + (1 : Int32) < nI ch then (nI (fr + k) - nI fr) + (1 : Int32) else nI ch) = nI (min ch (k + 1)) := by
      rw [pk_sub (by omega), show fr + k - fr = k by omega, nI_1]
      by_cases c : k + 1 < ch
      · rw [if_pos ((nI_ltI (by omega) (by omega)).mpr c), show min ch (k + 1) = k + 1 by omega]
      · rw [if_neg (fun z => c ((nI_ltI (by omega) (by omega)).mp z)), show min ch (k + 1) = ch by omega]
    rw [ea, em]
    refine x_addOne (k := k) (g := g) (ch := ch) (sh.ch gc) hch hsm (by unfold ab at hgk; omega) rfl gt rfl (fun M' c' t' => ?_)
    rw [nI_1, show fr + k + 1 = fr + (k + 1) by omega]
    exact ih (k + 1) M' (by omega) (gc.trans c') t'
theorem x_countUpTo {Λ : Nat → Nat} {Q : Int32 → Mm → Prop} {a fr n ch sm e : Nat} {M : Mm} {g ρ : Nat → Nat} (hΛ : inj Λ) (ha : a ≠ 11) (sh : ChSh Λ M) (oa : ok M (Λ a) 7) (la : gN M (Λ a) = 40) (hch : ch ≤ 10) (hsm : sm ≤ 780) (hn : fr + n ≤ 40) (he : e ≤ 80) (hρ : ∀ k, k < fr + n → ρ k ≤ 80 ∧ gI M (Λ a) k = nI (ρ k)) (hg : ∀ k, k < n → (g k : Int) = ab ((e : Int) - ρ (fr + k)))
    (hQ : ∀ M', Ch (fun b => b = Λ 11) M M' → Q (nI (rowS (cw g n ch) (fun _ => true) (sm + 1))) M') : B_X0_countUpTo_0 Q (Λ 10) (some (Λ a)) (nI fr) (nI (fr + n)) (nI e) (nI ch) (nI sm) M := by
  refine ⟨sh.1, x_clear (g := g) sh hch hsm (fun M1 c1 t1 => ⟨n + 1, ?_⟩)⟩
  exact x_cnt_11 hΛ ha (sh.ch c1) (c1.okk.mpr oa) (by rw [c1.N]; exact la) hch hsm hn he (fun k hk => by rw [c1.2 _ (hΛ.ne ha)]; exact hρ k hk) hg (fun M' c' => hQ M' (c1.trans c')) n 0 M1 (by omega) (Ch.refl _ _) t1
