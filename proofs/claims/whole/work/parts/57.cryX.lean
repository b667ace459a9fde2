/-! PURE, 37: the class cries -/
theorem x_was {Λ : Nat → Nat} {M : Mm} {σ τ : Sg} {N t m k B p : Nat} {v : Nat → Int32} {Q : Int32 → Mm → Prop} (h : Inv Λ M σ τ) (rg : Rg σ N) (ht : t < sT σ) (hm : m < 4) (hB : B ≤ 40) (hp : p ≤ 1000) (rC : RowCut Λ M (rc t m) v B p) (hk : k + 1 < zS v B p) (h0 : σ.1 (200 + (4 * t + m)) (cb v B p k) = 0 → Q 0 M) (h1 : ¬ σ.1 (200 + (4 * t + m)) (cb v B p k) = 0 → Q 1 M) : B_X3_wasAlarmed_0 Q (Λ (rc t m)) (nI k) M := by
  have hT := rg.2.1.2
  obtain ⟨_, _, _, _, _, _, _, a8, rs, a9⟩ := x_row_at h rg ht hm
  have hcb := cb_lt (v := v) hB hp hk
  have bb := a9.2.2.1 (cb v B p k) (by omega)
  have hbl := rg.2.2.2.2.2.2.2.1 (4 * t + m) (by omega) (cb v B p k) (by omega)
  unfold B_X3_wasAlarmed_0
  refine ⟨a8, x_cutBuild rs hB hp rC hk ⟨fun c => h0 ?_, fun c => h1 (fun z => c ?_)⟩⟩
  · rw [bt_get (by omega), bb] at c
    rcases hbl with e | e
    · exact e
    · rw [e] at c; exact absurd c (by decide)
  · rw [bt_get (by omega), bb, z]; decide
theorem x_remember {Λ : Nat → Nat} {M : Mm} {σ τ : Sg} {N t m k B p : Nat} {v : Nat → Int32} {Q : Mm → Prop} (h : Inv Λ M σ τ) (rg : Rg σ N) (ht : t < sT σ) (hm : m < 4) (hB : B ≤ 40) (hp : p ≤ 1000) (rC : RowCut Λ M (rc t m) v B p) (hk : k + 1 < zS v B p) (hQ : ∀ M', Inv Λ M' (uI σ (200 + (4 * t + m)) (cb v B p k) 1) τ → gI M' = gI M → gR M' = gR M → Q M') : B_X3_rememberAlarm_0 Q (Λ (rc t m)) (nI k) M := by
  have hT := rg.2.1.2
  obtain ⟨_, _, _, _, _, _, _, a8, rs, a9⟩ := x_row_at h rg ht hm
  have hcb := cb_lt (v := v) hB hp hk
  unfold B_X3_rememberAlarm_0
  refine ⟨a8, x_cutBuild rs hB hp rC hk ⟨a8, ?_⟩⟩
  rintro _ rfl
  refine hQ _ (h.xR (t := t) (m := m) (by omega) hm rfl ⟨?_, ?_, fun b hb => ?_, fun c => ?_⟩ (fun _ _ _ => rfl) (fun c hc => gJ_pJ_ne (h.hΛ.ne hc)) rfl (fun a ha => uI_ne _ _ _ (by omega)) (fun r hr => by rw [uI_ne _ _ _ (by omega)]) (fun r hr h1 => ⟨uI_ne _ _ _ (by omega), uI_ne _ _ _ (by omega)⟩) hT) rfl rfl
  · rw [uI_ne _ _ _ (by omega)]; exact a9.1
  · rw [uI_ne _ _ _ (by omega)]; exact a9.2.1
  · rw [gJ_pJ_eq, updL_eq, bt_set (by omega) (by omega), a9.2.2.1 b hb, uI_eq]
    by_cases e : b = cb v B p k
    · rw [e, upd_eq]; simp
    · rw [upd_ne _ _ e, decide_eq_false (Ne.symm e), Bool.or_false]
  · obtain ⟨B1, p1, b1, b2, b3, b4, b5⟩ := a9.2.2.2 c
    exact ⟨B1, p1, b1, b2, b3, b4, by rw [uI_ne _ _ _ (by omega)]; exact b5⟩
theorem x_keep {Λ : Nat → Nat} {M : Mm} {σ τ : Sg} {A : Nat} {a : Int32} {Q : Mm → Prop} (h : Inv Λ M σ τ) (eA : σ.1 0 10 = nI A) (hA : A < 2 ^ 30) (hQ : ∀ M', Inv Λ M' (ka σ a) τ → (∀ c, c ≠ 0 → c ≠ 3 → gI M' (Λ c) = gI M (Λ c)) → gR M' = gR M → Q M') : B_X5_keepAlarm_0 Q (Λ 0) a M := by
  unfold B_X5_keepAlarm_0
  unfold ka at hQ
  rw [h.f0]
  refine ⟨h.o0, fun c => ?_, fun c => ?_⟩
  · rw [if_pos c] at hQ
    unfold B_X5_keepAlarm_20
    refine ⟨h.o0, ?_⟩
    rintro _ rfl
    rw [h.f0]
    exact hQ _ (h.x0 10 _ (by omega)) (fun c h0 h3 => gI_pI_ne (h.hΛ.ne h0)) rfl
  · rw [if_neg c] at hQ
    have hl : A < 300 := Nat.lt_of_not_le (fun z => c (by rw [eA]; exact (nI_leI (a := 300) (by omega) (by omega)).mpr z))
    rw [eA]
    refine ⟨Λ 3, h.sx.2.2.2.1.1, ar_nI h.sx.2.2.2.1.2.1 h.sx.2.2.2.1.2.2 hl (by omega), ?_⟩
    rintro _ rfl
    have h1 := h.xA 3 (Int32.toNatClampNeg (nI A)) a (Or.inr (Or.inl rfl))
    unfold B_X5_keepAlarm_20
    refine ⟨h1.o0, ?_⟩
    rintro _ rfl
    have h2 := h1.x0 10 (σ.1 0 10 + 1) (by omega)
    have e1 : gI (pI M (Λ 3) (Int32.toNatClampNeg (nI A)) a) (Λ 0) 10 = σ.1 0 10 := by rw [gI_pI_ne (h.hΛ.ne (by omega))]; exact h.f0 10
    rw [e1]
    refine hQ _ ?_ (fun c h0 h3 => by rw [gI_pI_ne (h.hΛ.ne h0), gI_pI_ne (h.hΛ.ne h3)]) rfl
    rw [eA] at h2 ⊢
    exact h2
theorem x_alarming {Λ : Nat → Nat} {M : Mm} {σ τ : Sg} {N t m k : Nat} {Q : Int32 → Mm → Prop} (h : Inv Λ M σ τ) (rg : Rg σ N) (ht : t < sT σ) (hm : m < 4) (hth : ¬ σ.1 21 (4 * t + m) = 0) (hC : ∀ o, o < 4 → ¬ σ.1 21 (4 * t + o) = 0 → RowCut Λ M (rc t o) (sV σ (4 * t + o)) (sB σ) (sP σ)) (hk : k + 1 < zS (sV σ (4 * t + m)) (sB σ) (sP σ))
    (h1 : (0 < zZ (sV σ (4 * t + m)) (sB σ) (sP σ) k ∧ ¬ (σ.1 20 t = 1 ∧ ¬ unV (sV σ (4 * t + m)) (sB σ) (sP σ) k = -9) ∧ sOwn σ t m k = false ∧ σ.1 (200 + (4 * t + m)) (cb (sV σ (4 * t + m)) (sB σ) (sP σ) k) = 0) → Q 1 M) (h0 : ¬ (0 < zZ (sV σ (4 * t + m)) (sB σ) (sP σ) k ∧ ¬ (σ.1 20 t = 1 ∧ ¬ unV (sV σ (4 * t + m)) (sB σ) (sP σ) k = -9) ∧ sOwn σ t m k = false ∧ σ.1 (200 + (4 * t + m)) (cb (sV σ (4 * t + m)) (sB σ) (sP σ) k) = 0) → Q 0 M) : B_X5_isAlarming_0 Q (Λ 0) (some (Λ (tc t))) (nI m) (nI k) M := by
  obtain ⟨a1, a2, a3, a4, a5, a6, a7, a8, rs, a9⟩ := x_row_at h rg ht hm
  have rC := hC m hm hth
  have hz := zS_le (v := sV σ (4 * t + m)) rg.1.2 rg.2.2.1.2
  have ekd : gI M (Λ (tc t)) 0 = σ.1 20 t := (h.cx.2.2.2.2.2 t ht).1
  unfold B_X5_isAlarming_0
  refine ⟨Λ (tc t), rfl, a4, Λ (tc t + 1), a5, a6, Λ (rc t m), a7, a8, x_stepSize rs hz.2 rC.2.2.2.2.2.1 hk (fun x hx => ?_)⟩
  have hx' : x.toInt = zZ (sV σ (4 * t + m)) (sB σ) (sP σ) k := hx
  have z0i : (0 : Int32).toInt = 0 := rfl
  refine ⟨fun c => h0 (fun z => ?_), fun c => ⟨a8, x_was h rg ht hm rg.1.2 rg.2.2.1.2 rC hk (fun w => z0 ⟨a4, ?_⟩) (fun w => z1 (h0 (fun z => w z.2.2.2)))⟩⟩
  · rw [le_I, hx', z0i] at c; have := z.1; omega
  · have hpos : 0 < zZ (sV σ (4 * t + m)) (sB σ) (sP σ) k := by rw [le_I, hx', z0i] at c; omega
    have k52 : (¬ (σ.1 20 t = 1 ∧ ¬ unV (sV σ (4 * t + m)) (sB σ) (sP σ) k = -9)) → B_X5_isAlarming_52 Q (Λ 0) (some (Λ (tc t))) (nI m) (nI k) 0 M := fun hu => by
      unfold B_X5_isAlarming_52
      refine z0' ⟨h.o0, x_ownS h rg ht hm hth hC hk ?_⟩
      cases e : sOwn σ t m k with
      | false => exact z0' (h1 ⟨hpos, hu, e, w⟩)
      | true => exact z1' (h0 (fun z => by rw [z.2.2.1] at e; cases e))
    rw [ekd]
    refine ⟨fun c1 => k52 (fun z => c1 z.1), fun c1 => ⟨a8, x_undoing rs rg.1.2 rg.2.2.1.2 rC hk ⟨fun c2 => k52 (fun z => z.2 c2), fun c2 => ?_⟩⟩⟩
    unfold B_X5_isAlarming_52
    exact z1' (h0 (fun z => z.2.1 ⟨c1, c2⟩))
theorem tnL {u : Int32} (h : 0 ≤ u.toInt) : Int32.toInt64 u = lN (tn u) := by
  have e := nI_tn h
  have hr := rngI u
  have : tn u < 2 ^ 31 := by unfold tn; omega
  conv => lhs; rw [e]
  exact nI_l this
theorem rar_iff {v : Nat → Int32} {B p i U L : Nat} (hB : B ≤ 40) (hp : p ≤ 1000) (hi : i + 1 < zS v B p) (h20 : oN v B p i ≤ 20) : oU v B p i * L ≤ U * oL v B p i ↔ zW v B p i * L ≤ zA v B p i * U := by
  obtain ⟨a1, a2, a3, a4⟩ := zA_ok hB hp hi h20
  have e1 : oU v B p i * Nat.gcd (zW v B p i) (zA v B p i) = zW v B p i := Nat.div_mul_cancel (Nat.gcd_dvd_left _ _)
  have e2 : oL v B p i * Nat.gcd (zW v B p i) (zA v B p i) = zA v B p i := Nat.div_mul_cancel (Nat.gcd_dvd_right _ _)
  generalize Nat.gcd (zW v B p i) (zA v B p i) = g at *
  rw [← e1, ← e2, show oU v B p i * g * L = oU v B p i * L * g by rw [Nat.mul_right_comm], show oL v B p i * g * U = U * oL v B p i * g by rw [Nat.mul_right_comm, Nat.mul_comm U]]
  exact ⟨fun z => Nat.mul_le_mul_right _ z, fun z => Nat.le_of_mul_le_mul_right z a4⟩
theorem mul_b {a b A B : Nat} (ha : a ≤ A) (hb : b ≤ B) : a * b ≤ A * B := Nat.mul_le_mul ha hb
theorem lg_le {a b : Nat} (ha : a < 2 ^ 62) (hb : b < 2 ^ 62) : 0 < lg_cmp (lN a) (lN b) ↔ b < a := by
  rw [lgt, pk_lT (by omega), pk_lT (by omega)]; omega
theorem x_rare {Λ : Nat → Nat} {M : Mm} {σ τ : Sg} {N t m k : Nat} {u l : Int32} {gc gs : Nat} {Q : Int32 → Mm → Prop} (h : Inv Λ M σ τ) (rg : Rg σ N) (ht : t < sT σ) (hm : m < 4) (rC : RowCut Λ M (rc t m) (sV σ (4 * t + m)) (sB σ) (sP σ)) (hk : k + 1 < zS (sV σ (4 * t + m)) (sB σ) (sP σ)) (hu : 0 ≤ u.toInt ∧ u.toInt ≤ 1000000) (hl : 0 ≤ l.toInt ∧ l.toInt ≤ 1000000) (hb : gR M (Λ 0) 5 = none → 2 ≤ gc ∧ 8594 ≤ gs)
    (hQ : ∀ Λ' M', (∀ c, uU (sT σ) c → Λ' c = Λ c) → Inv Λ' M' σ τ → ¬ gR M' (Λ' 0) 5 = none → (∀ c, uU (sT σ) c → gI M' (Λ c) = gI M (Λ c)) → (rar σ t m u l k → Q 1 M') ∧ (¬ rar σ t m u l k → Q 0 M')) : B_X5_isRare_0 Q (Λ 0) (some (Λ (rc t m))) (nI k) u l gc gs M := by
  have hT := rg.2.1.2
  unfold B_X5_isRare_0
  refine ⟨h.o0, gc, gs, Nat.le_refl _, Nat.le_refl _, x_ready h hT hb (fun Λ2 M2 h2 cS e5 eΛ eI => ⟨Λ2 10, rfl, cS.1, ?_⟩)⟩
  have er : Λ (rc t m) = Λ2 (rc t m) := (eΛ (rc t m) (uU_row (j := 0) ht hm (by omega))).symm
  rw [er]
  obtain ⟨_, _, _, _, _, _, _, a8, rs, a9⟩ := x_row_at h2 rg ht hm
  have n5 : ¬ gR M2 (Λ2 0) 5 = none := by rw [e5]; simp
  refine x_reckon (v := sV σ (4 * t + m)) h2.hΛ (by unfold rc; omega) cS rs (rg.2.2.2.2.1 _ (by omega)) rg.1.2 rg.2.2.1.2 (rC.same (fun j hj => by rw [eΛ _ (uU_row ht hm hj)]; exact eI _ (uU_row ht hm hj))) hk (fun hn => z0 ((hQ Λ2 M2 eΛ h2 n5 eI).1 (Or.inl hn))) (fun hy M3 c3 g1 g2 => z1 ⟨(cS.ch c3).1, ?_⟩)
  have h3 := h2.xRk c3
  have q := hQ Λ2 M3 eΛ h3 (by rw [c3.R]; exact n5) (fun c u => by
    rw [← eI c u, ← eΛ c u]
    exact c3.2 _ (fun z => z.elim (h2.hΛ.ne (fun e => by subst e; unfold uU uX at u; omega)) (h2.hΛ.ne (fun e => by subst e; unfold uU uX at u; omega))))
  have g1' : gI M3 (Λ2 10) 1 = nI (oU (sV σ (4 * t + m)) (sB σ) (sP σ) k) := g1
  have g2' : gI M3 (Λ2 10) 2 = nI (oL (sV σ (4 * t + m)) (sB σ) (sP σ) k) := g2
  have ho := oU_ok (v := sV σ (4 * t + m)) rg.1.2 rg.2.2.1.2 hk hy
  have tu : tn u ≤ 1000000 := by unfold tn; omega
  have tl : tn l ≤ 1000000 := by unfold tn; omega
  have b1 := mul_b ho.1 tl
  have b2 := mul_b tu ho.2
  rw [g1', g2', nI_l (by omega), nI_l (by omega), tnL hu.1, tnL hl.1, lN_mul, lN_mul, lg_le (by omega) (by omega)]
  have key := rar_iff (v := sV σ (4 * t + m)) (U := tn u) (L := tn l) rg.1.2 rg.2.2.1.2 hk hy
  refine ⟨fun c => q.2 (fun z => ?_), fun c => q.1 (Or.inr (key.mp (Nat.le_of_not_lt c)))⟩
  rcases z with z | z
  · omega
  · exact absurd (key.mpr z) (Nat.not_le.mpr c)
/-- the rows of test t are cut -/
def RCs (Λ : Nat → Nat) (M : Mm) (σ0 : Sg) (t : Nat) : Prop := ∀ o, o < 4 → ¬ σ0.1 21 (4 * t + o) = 0 → RowCut Λ M (rc t o) (sV σ0 (4 * t + o)) (sB σ0) (sP σ0)
def Ag (T : Nat) (Λ Λ' : Nat → Nat) : Prop := ∀ c, uU T c → Λ' c = Λ c
theorem Ag.trans {T : Nat} {Λ Λ1 Λ2 : Nat → Nat} (h : Ag T Λ Λ1) (h2 : Ag T Λ1 Λ2) : Ag T Λ Λ2 := fun c u => (h2 c u).trans (h c u)
theorem Ag.refl (T : Nat) (Λ : Nat → Nat) : Ag T Λ Λ := fun _ _ => rfl
theorem RCs.same {Λ Λ' : Nat → Nat} {M M' : Mm} {σ0 : Sg} {t : Nat} (h : RCs Λ M σ0 t) (ht : t < sT σ0) (eΛ : Ag (sT σ0) Λ Λ') (eI : ∀ c, uU (sT σ0) c → 20 ≤ c → gI M' (Λ c) = gI M (Λ c)) : RCs Λ' M' σ0 t := fun o ho z => (h o ho z).same (fun j hj => by rw [eΛ _ (uU_row ht ho hj)]; exact eI _ (uU_row ht ho hj) (by unfold rc; omega))
