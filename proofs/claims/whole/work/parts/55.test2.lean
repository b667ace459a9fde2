/-! PURE, 35: the call test, 2 -/
/-- rows that no test has yet: none of their steps was cried -/
def Rz (σ : Sg) : Prop := ∀ r, r < 32 → 4 * sT σ ≤ r → ∀ b, b < 40 → σ.1 (200 + r) b = 0
def testS (σ : Sg) (x : Int32) : Sg := (fun a => if a = 0 then upd (σ.1 0) 7 (nI (sT σ + 1)) else if a = 20 then upd (σ.1 20) (sT σ) x else if 100 + 4 * sT σ ≤ a ∧ a < 104 + 4 * sT σ then fil0 else σ.1 a, σ.2)
def s_test (σ : Sg) (x : Int32) : Int32 × Sg := if x < 0 ∨ (2 : Int32) < x then (-1, σ) else if 8 ≤ sT σ then (-2, σ) else (nI (sT σ), testS σ x)
theorem tS0 (σ : Sg) (x : Int32) : (testS σ x).1 0 = upd (σ.1 0) 7 (nI (sT σ + 1)) := rfl
theorem tS20 (σ : Sg) (x : Int32) : (testS σ x).1 20 = upd (σ.1 20) (sT σ) x := rfl
theorem tSv (σ : Sg) (x : Int32) {a : Nat} (h1 : 100 + 4 * sT σ ≤ a) (h2 : a < 104 + 4 * sT σ) : (testS σ x).1 a = fil0 := by
  show (if a = 0 then _ else if a = 20 then _ else if 100 + 4 * sT σ ≤ a ∧ a < 104 + 4 * sT σ then fil0 else σ.1 a) = fil0
  rw [if_neg (by omega), if_neg (by omega), if_pos ⟨h1, h2⟩]
theorem tSe (σ : Sg) (x : Int32) {a : Nat} (h1 : a ≠ 0) (h2 : a ≠ 20) (h3 : ¬ (100 + 4 * sT σ ≤ a ∧ a < 104 + 4 * sT σ)) : (testS σ x).1 a = σ.1 a := by
  show (if a = 0 then _ else if a = 20 then _ else if 100 + 4 * sT σ ≤ a ∧ a < 104 + 4 * sT σ then fil0 else σ.1 a) = σ.1 a
  rw [if_neg h1, if_neg h2, if_neg h3]
theorem tST (σ : Sg) (x : Int32) (h : sT σ < 8) : sT (testS σ x) = sT σ + 1 := by
  show ((testS σ x).1 0 7).toInt.toNat = _
  rw [tS0, upd_eq, nI_toInt (by omega)]; omega
theorem Sh.test {U : Nat → Prop} {Λ0 Λ : Nat → Nat} {B M : Mm} {t : Nat} {x : Int32} (s : Sh U Λ0 B (tc t) Λ M csT rsT (fT x) (fun _ _ => 0)) : TestSh Λ M t ∧ gI M (Λ (tc t)) 0 = x ∧ ∀ m, m < 4 → gI M (Λ (rc t m)) = upd (fun _ => 0) 3 1 ∧ gI M (Λ (rc t m + 1)) = fil0 ∧ gJ M (Λ (rc t m)) = fun _ => 0 := by
  have e : ∀ m j, tc t + (2 + 7 * m + j) = rc t m + j := fun m j => by unfold tc rc; omega
  have c1 : ∀ m, m < 4 → (2 + 7 * m + 0, 3, 0) ∈ csT := by decide +kernel
  have c2 : ∀ m, m < 4 → ∀ j, j < 7 → 1 ≤ j → (2 + 7 * m + j, 7, if j = 4 then 41 else 40) ∈ csT := by
    intro m hm j hj h1
    have hm' : m = 0 ∨ m = 1 ∨ m = 2 ∨ m = 3 := by omega
    have hj' : j = 1 ∨ j = 2 ∨ j = 3 ∨ j = 4 ∨ j = 5 ∨ j = 6 := by omega
    rcases hm' with rfl | rfl | rfl | rfl <;> rcases hj' with rfl | rfl | rfl | rfl | rfl | rfl <;> decide +kernel
  have r1 : ∀ m, m < 4 → ((2 + 7 * m + 0, 0, 2 + 7 * m + 1) ∈ rsT ∧ (2 + 7 * m + 0, 7, 2 + 7 * m + 2) ∈ rsT ∧ (2 + 7 * m + 0, 8, 2 + 7 * m + 3) ∈ rsT ∧ (2 + 7 * m + 0, 10, 2 + 7 * m + 4) ∈ rsT ∧ (2 + 7 * m + 0, 11, 2 + 7 * m + 5) ∈ rsT ∧ (2 + 7 * m + 0, 12, 2 + 7 * m + 6) ∈ rsT) ∧ (1, m, 2 + 7 * m + 0) ∈ rsT := by
    intro m hm
    have hm' : m = 0 ∨ m = 1 ∨ m = 2 ∨ m = 3 := by omega
    rcases hm' with rfl | rfl | rfl | rfl <;> exact ⟨⟨by decide +kernel, by decide +kernel, by decide +kernel, by decide +kernel, by decide +kernel, by decide +kernel⟩, by decide +kernel⟩
  have cc : ∀ m, m < 4 → ∀ j, j < 7 → 1 ≤ j → ok M (Λ (rc t m + j)) 7 ∧ gN M (Λ (rc t m + j)) = if j = 4 then 41 else 40 := fun m hm j hj h1 => by
    have := s.cell (c2 m hm j hj h1); rw [e] at this; exact this
  have rr : ∀ m k j, (2 + 7 * m + 0, k, 2 + 7 * m + j) ∈ rsT → gR M (Λ (rc t m)) k = some (Λ (rc t m + j)) := fun m k j h => by
    have := s.ref h; rw [e m 0, e m j] at this; exact this
  refine ⟨⟨(s.cell (c := 0) (kd := 4) (n := 0) (by decide +kernel)).1, s.ref (c := 0) (k := 1) (d := 1) (by decide +kernel), (s.cell (c := 1) (kd := 10) (n := 4) (by decide +kernel)).1, (s.cell (c := 1) (kd := 10) (n := 4) (by decide +kernel)).2, fun m hm => ⟨?_, ?_, ?_, fun j j1 j2 => (cc m hm j (by omega) j1).1, fun j j1 j2 j4 => ?_, ?_⟩⟩, ?_, fun m hm => ?_⟩
  · have := s.ref (r1 m hm).2; rw [e] at this; exact this
  · have := (s.cell (c1 m hm)).1; rw [e] at this; exact this
  · obtain ⟨q1, q2, q3, q4, q5, q6⟩ := (r1 m hm).1
    exact ⟨rr m 0 1 q1, rr m 7 2 q2, rr m 8 3 q3, rr m 10 4 q4, rr m 11 5 q5, rr m 12 6 q6⟩
  · rw [(cc m hm j (by omega) j1).2, if_neg j4]
  · rw [(cc m hm 4 (by omega) (by omega)).2, if_pos rfl]
  · have := (s.num (c := 0) (by decide +kernel)).2.2.1
    rw [show tc t + 0 = tc t from rfl, (fT_row x 0 (by omega)).2.2] at this
    rw [this, upd_eq]
  · have a0 := s.num (hd3_mem (c1 m hm))
    have a1 := s.num (hd3_mem (c2 m hm 1 (by omega) (by omega)))
    dsimp only at a0 a1
    rw [e] at a0 a1
    exact ⟨a0.2.2.1.trans (fT_row x m hm).1, a1.2.2.1.trans (fT_row x m hm).2.1, a0.2.2.2⟩
theorem x_test_inv {Λ : Nat → Nat} {M : Mm} {σ τ : Sg} {N : Nat} {x : Int32} (h : Inv Λ M σ τ) (rg : Rg σ N) (rz : Rz σ) (hT : sT σ < 8) (ts : TestSh Λ M (sT σ)) (hx : gI M (Λ (tc (sT σ))) 0 = x) (hr : ∀ m, m < 4 → gI M (Λ (rc (sT σ) m)) = upd (fun _ => 0) 3 1 ∧ gI M (Λ (rc (sT σ) m + 1)) = fil0 ∧ gJ M (Λ (rc (sT σ) m)) = fun _ => 0) : Inv Λ (pI (pR M (Λ 1) (sT σ) (some (Λ (tc (sT σ))))) (Λ 0) 7 (nI (sT σ + 1))) (testS σ x) τ := by
  generalize hM : pI (pR M (Λ 1) (sT σ) (some (Λ (tc (sT σ))))) (Λ 0) 7 (nI (sT σ + 1)) = M'
  have eI : ∀ c, c ≠ 0 → gI M' (Λ c) = gI M (Λ c) := fun c hc => by rw [← hM, gI_pI_ne (h.hΛ.ne hc)]; rfl
  have eI0 : gI M' (Λ 0) = upd (gI M (Λ 0)) 7 (nI (sT σ + 1)) := by rw [← hM, gI_pI_eq]; rfl
  have eJ : gJ M' = gJ M := by rw [← hM]; rfl
  have eR : ∀ c k, c ≠ 1 → gR M' (Λ c) k = gR M (Λ c) k := fun c k hc => by rw [← hM, gR_pI, gR_pR, if_neg (fun z => h.hΛ.ne hc z.1)]
  have eR1 : ∀ t, t ≠ sT σ → gR M' (Λ 1) t = gR M (Λ 1) t := fun t ht => by rw [← hM, gR_pI, gR_pR, if_neg (fun z => ht z.2)]
  have eR2 : gR M' (Λ 1) (sT σ) = some (Λ (tc (sT σ))) := by rw [← hM, gR_pI, gR_pR, if_pos ⟨rfl, rfl⟩]
  have eK : ∀ a k, ok M' a k ↔ ok M a k := fun a k => by rw [← hM]; exact Iff.rfl
  have eN : gN M' = gN M := by rw [← hM]; rfl
  have hsT := tST σ x hT
  have TS : ∀ t, TestSh Λ M t → TestSh Λ M' t := fun t z => by
    obtain ⟨t2, t3, t4, t5, t6⟩ := z
    have n1 : tc t ≠ 1 := by unfold tc; omega
    have n2 : tc t + 1 ≠ 1 := by unfold tc; omega
    refine ⟨(eK _ _).mpr t2, by rw [eR _ _ n1]; exact t3, (eK _ _).mpr t4, by rw [eN]; exact t5, fun m hm => ?_⟩
    obtain ⟨m1, m2, ⟨m3, m4, m5, m6, m7, m8⟩, m9, m10, m11⟩ := t6 m hm
    have n3 : rc t m ≠ 1 := by unfold rc; omega
    exact ⟨by rw [eR _ _ n2]; exact m1, (eK _ _).mpr m2, ⟨by rw [eR _ _ n3]; exact m3, by rw [eR _ _ n3]; exact m4, by rw [eR _ _ n3]; exact m5, by rw [eR _ _ n3]; exact m6, by rw [eR _ _ n3]; exact m7, by rw [eR _ _ n3]; exact m8⟩, fun j j1 j2 => (eK _ _).mpr (m9 j j1 j2), by rw [eN]; exact m10, by rw [eN]; exact m11⟩
  obtain ⟨h0, ⟨h1, h2, h3⟩, ⟨h4, h5, h6⟩, ⟨h7, h8, h9⟩, ⟨h10, h11, h12, h13, h14⟩, ⟨h15, h16⟩, h17⟩ := h.sx
  have sx : SX Λ M' (sT σ + 1) := by
    refine ⟨(eK _ _).mpr h0, ⟨by rw [eR 0 0 (by omega)]; exact h1, (eK _ _).mpr h2, by rw [eN]; exact h3⟩, ⟨by rw [eR 0 1 (by omega)]; exact h4, (eK _ _).mpr h5, by rw [eN]; exact h6⟩, ⟨by rw [eR 0 2 (by omega)]; exact h7, (eK _ _).mpr h8, by rw [eN]; exact h9⟩, ⟨by rw [eR 0 3 (by omega)]; exact h10, (eK _ _).mpr h11, fun j hj => by rw [eR 4 j (by omega)]; exact h12 j hj, fun j hj => (eK _ _).mpr (h13 j hj), fun j hj => by rw [eN]; exact h14 j hj⟩, ⟨by rw [eR 0 4 (by omega)]; exact h15, (eK _ _).mpr h16⟩, fun t ht => ?_⟩
    by_cases z : t = sT σ
    · subst z; exact ⟨eR2, TS _ ts⟩
    · exact ⟨by rw [eR1 t z]; exact (h17 t (by omega)).1, TS t (h17 t (by omega)).2⟩
  have cz : Cz Λ M' := h.cz.elim (fun z => Or.inl (by rw [eR 0 5 (by omega)]; exact z)) (fun z => Or.inr ⟨by rw [eR 0 5 (by omega)]; exact z.1, (eK _ _).mpr z.2.1, by rw [eR 10 0 (by omega)]; exact z.2.2.1, (eK _ _).mpr z.2.2.2.1, by rw [eN]; exact z.2.2.2.2⟩)
  have cx : CX Λ M' (testS σ x) := by
    obtain ⟨c0, c2, c3, c9, cJ, ct⟩ := h.cx
    refine ⟨by rw [eI0, c0, tS0], by rw [eI 2 (by omega), tSe _ _ (by omega) (by omega) (by omega)]; exact c2, by rw [eI 3 (by omega), tSe _ _ (by omega) (by omega) (by omega)]; exact c3, by rw [eI 9 (by omega), tSe _ _ (by omega) (by omega) (by omega)]; exact c9, by rw [eJ]; exact cJ, fun t ht => ?_⟩
    rw [hsT] at ht
    by_cases z : t = sT σ
    · subst z
      refine ⟨by rw [eI _ (by unfold tc; omega), hx, tS20, upd_eq], fun m hm => ⟨?_, ?_, fun b hb => ?_, fun c => ?_⟩⟩
      · rw [eI _ (by unfold rc; omega), (hr m hm).1, tSe _ _ (by omega) (by omega) (by omega), rg.2.2.2.2.2.2.1 _ (by omega) (by omega), upd_ne _ _ (by omega)]
      · rw [eI _ (by unfold rc; omega), (hr m hm).2.1, tSv _ _ (by omega) (by omega)]
      · rw [eJ, (hr m hm).2.2, tSe _ _ (by omega) (by omega) (by omega), rz _ (by omega) (by omega) b hb]
        have e1 : (0 : Int64).toBitVec = 0#64 := rfl
        rw [e1]; simp
      · rw [eI _ (by unfold rc; omega), (hr m hm).1, upd_eq] at c
        exact absurd c (by decide)
    · refine ⟨by rw [eI _ (by unfold tc; omega), tS20, upd_ne _ _ z]; exact (ct t (by omega)).1, fun m hm => ((ct t (by omega)).2 m hm).same (fun j hj => eI _ (by unfold rc; omega)) (by rw [eJ]) (by rw [tSe _ _ (by omega) (by omega) (by omega)]) (by rw [tSe _ _ (by omega) (by omega) (by omega)]) (by rw [tSe _ _ (by omega) (by omega) (by omega)])⟩
  exact ⟨h.hΛ, ⟨by rw [hsT]; exact sx, cz, cx⟩, h.ms.lam (fun _ _ => rfl) (fun j k hj o => ⟨(eK _ _).mpr o, by rw [eN]⟩) (funext fun k => eR 400 k (by omega)), h.cm.same (fun j hj => eI _ (by omega)) (by rw [eJ])⟩
def uV (Λ : Nat → Nat) (M : Mm) (T c : Nat) : Prop := uU T c ∨ ((c = 10 ∨ c = 11) ∧ ¬ gR M (Λ 0) 5 = none)
theorem Inv.memV {Λ : Nat → Nat} {M : Mm} {σ τ : Sg} {c : Nat} (h : Inv Λ M σ τ) (u : uV Λ M (sT σ) c) : Λ c ∈ gL M := by
  rcases u with u | ⟨u, z⟩
  · exact h.mem u
  · rcases h.cz with y | y
    · exact absurd y z
    · rcases u with rfl | rfl
      · exact y.2.1.1
      · exact y.2.2.2.1.1
theorem x_test {Λ : Nat → Nat} {M : Mm} {σ τ : Sg} {N : Nat} {Q : Int32 → Mm → Prop} {x : Int32} {gc gs : Nat} (h : Inv Λ M σ τ) (rg : Rg σ N) (rz : Rz σ) (g1 : 30 ≤ gc) (g2 : 1026 ≤ gs) (hQ : ∀ Λ' M', (∀ c, uU (sT σ) c → Λ' c = Λ c) → Inv Λ' M' (s_test σ x).2 τ → Q (s_test σ x).1 M') : B_X5_test_0 Q (Λ 0) x gc gs M := by
  have hT := rg.2.1.2
  unfold B_X5_test_0 B_X5_isKind_0
  unfold s_test at hQ
  refine x_within (fun c => ⟨Or.inl rfl, z0' ?_⟩) (fun c d => ⟨Or.inr rfl, z1' ⟨h.o0, ?_⟩⟩)
  · rw [if_pos c] at hQ; exact hQ Λ M (fun _ _ => rfl) h
  · rw [if_neg (fun z => z.elim c d)] at hQ
    rw [h.f0, rg.2.1.1]
    refine ⟨fun c8 => ?_, fun c8 => ?_⟩
    · have hT8 : sT σ < 8 := (nI_ltI (b := 8) (by omega) (by omega)).mp c8
      rw [if_neg (by omega)] at hQ
      refine ⟨by omega, by omega, fun q hq => ?_⟩
      rintro _ rfl
      have s0 : Sh (uV Λ M (sT σ)) Λ M (tc (sT σ)) Λ M [] [] (fun _ _ => 0) (fun _ _ => 0) := Sh.start h.hΛ (fun c hc => h.memV hc)
      have hU : ∀ j, j < 30 → ¬ uV Λ M (sT σ) (tc (sT σ) + j) := fun j hj z => by unfold uV uU uX tc at z; omega
      obtain ⟨Λ1, s1, e1, _⟩ := s0.new (c := 0) (kd := 4) (n := 0) (q := q) (by decide) (hU 0 (by omega)) hq rfl rfl
      refine ⟨gc - 1, gs - 2, Nat.le_refl _, Nat.le_refl _, x_test_init s1 e1 hU (by omega) (by omega) (fun Λ2 M2 s2 e2 => ?_)⟩
      have eΛ : ∀ c, uU (sT σ) c → Λ2 c = Λ c := fun c u => (s2.2.1 c (Or.inl u)).1
      have e0 : Λ2 0 = Λ 0 := eΛ 0 (Or.inl (Or.inl (by omega)))
      have e1' : Λ2 1 = Λ 1 := eΛ 1 (Or.inl (Or.inl (by omega)))
      have eq : Λ2 (tc (sT σ)) = q := e2
      have m0 : Λ 0 ∈ gL M := h.mem (Or.inl (Or.inl (by omega)))
      have cz : Cz Λ2 M2 := by
        rcases h.cz with z | z
        · exact Or.inl (by rw [e0, (s2.2.2.1 _ m0).2.2.2.1]; exact z)
        · have nn : ¬ gR M (Λ 0) 5 = none := by rw [z.1]; simp
          have f10 : Λ2 10 = Λ 10 := (s2.2.1 10 (Or.inr ⟨Or.inl rfl, nn⟩)).1
          have f11 : Λ2 11 = Λ 11 := (s2.2.1 11 (Or.inr ⟨Or.inr rfl, nn⟩)).1
          obtain ⟨z1, z2, z3, z4, z5⟩ := z
          have k10 := s2.2.2.1 _ z2.1
          have k11 := s2.2.2.1 _ z4.1
          refine Or.inr ⟨by rw [e0, f10, (s2.2.2.1 _ m0).2.2.2.1]; exact z1, ?_, ?_, ?_, ?_⟩
          · rw [f10]; exact ⟨k10.1, k10.2.2.2.2.1.trans z2.2⟩
          · rw [f10, f11, k10.2.2.2.1]; exact z3
          · rw [f11]; exact ⟨k11.1, k11.2.2.2.2.1.trans z4.2⟩
          · rw [f11, k11.2.2.2.2.2]; exact z5
      have h2 : Inv Λ2 M2 σ τ := h.grow s2.1 eΛ (fun a ha => by
        obtain ⟨a1, a2, a3, a4, a5, a6⟩ := s2.2.2.1 a ha
        exact ⟨a1, a2, a3, fun k _ => by rw [a4], a5, a6⟩) cz
      have st := s2.test
      refine ⟨Λ 1, h.sx.2.1.1, by rw [← eq]; exact st.1.1, by rw [← e1']; exact ar_nI h2.sx.2.1.2.1 h2.sx.2.1.2.2 hT8 (by omega), ?_⟩
      rintro _ rfl
      rw [nI_clamp (by omega)]
      refine ⟨by rw [← e0]; exact h2.o0, ?_⟩
      rintro _ rfl
      have f7 : gI (pR M2 (Λ 1) (sT σ) (some q)) (Λ 0) 7 = nI (sT σ) := by rw [gI_pR, ← e0, h2.f0]; exact rg.2.1.1
      have f8 : nI (sT σ + 1) - 1 = nI (sT σ) := by rw [show (1 : Int32) = nI 1 from rfl, pk_sub (by omega)]; rfl
      rw [f7, nI_1, gI_pI_eq, upd_eq, f8]
      have h3 := x_test_inv (x := x) h2 rg rz hT8 st.1 st.2.1 st.2.2
      rw [eq, e1', e0] at h3
      exact hQ Λ2 _ eΛ h3
    · have : ¬ sT σ < 8 := fun z => c8 ((nI_ltI (b := 8) (by omega) (by omega)).mpr z)
      rw [if_pos (by omega)] at hQ; exact hQ Λ M (fun _ _ => rfl) h
theorem m_test {Λ : Nat → Nat} {M : Mm} {σ τ : Sg} {N : Nat} {Q : Int32 → Mm → Prop} {x : Int32} (h : Inv Λ M σ τ) (hT : sT σ ≤ 8) (rg : Rg τ N) (hQ : ∀ M', Inv Λ M' σ (s_test τ x).2 → Q (s_test τ x).1 M') : B_X6_test_0 Q (Λ 400) x M := by
  have hTT := rg.2.1.2
  unfold B_X6_test_0
  unfold s_test at hQ
  refine m_in (fun c => z0' ?_) (fun c d => z1' ⟨h.m0, ?_⟩)
  · rw [if_pos c] at hQ; exact hQ M h
  · rw [if_neg (fun z => z.elim c d)] at hQ
    rw [show gI M (Λ 400) 4 = τ.1 0 7 from h.g0 4 (by omega) rfl, rg.2.1.1]
    refine ⟨fun c8 => ?_, fun c8 => ?_⟩
    · have n8 : sT τ ≠ 8 := fun z => c8 (by rw [z]; rfl)
      rw [if_neg (by omega)] at hQ
      refine ⟨Λ 402, h.ms.r 2 (by omega) (by omega), h.ms.a 2 (by omega) (by omega) (show sT τ < 8 by omega), ?_⟩
      rintro _ rfl _ rfl
      rw [nI_clamp (by omega)]
      have h1 : Inv Λ (pI M (Λ 402) (sT τ) x) σ (uI τ 20 (sT τ) x) := h.yA hT 2 (sT τ) x (Or.inr (Or.inr rfl))
      have f4 : gI (pI M (Λ 402) (sT τ) x) (Λ 400) 4 = nI (sT τ) := by rw [gI_pI_ne (h.hΛ.ne (by omega))]; exact (h.g0 4 (by omega) rfl).trans rg.2.1.1
      have f8 : nI (sT τ + 1) - 1 = nI (sT τ) := by rw [show (1 : Int32) = nI 1 from rfl, pk_sub (by omega)]; rfl
      rw [f4, nI_1, gI_pI_eq, upd_eq, f8]
      have h2 : Inv Λ (pI (pI M (Λ 402) (sT τ) x) (Λ 400) 4 (nI (sT τ + 1))) σ (uI (uI τ 20 (sT τ) x) 0 7 (nI (sT τ + 1))) := h1.y0 hT 4 (nI (sT τ + 1)) (by omega) rfl
      refine hQ _ (h2.chM rfl ?_ (fun _ _ => rfl) (fun _ _ => rfl))
      have ea : ∀ a, ¬ (100 + 4 * sT τ ≤ a ∧ a < 104 + 4 * sT τ) → (uI (uI τ 20 (sT τ) x) 0 7 (nI (sT τ + 1))).1 a = (testS τ x).1 a := fun a ha => by
        by_cases a0 : a = 0
        · subst a0; rw [uI_eq, uI_ne _ _ _ (by omega), tS0]
        · rw [uI_ne _ _ _ a0]
          by_cases a20 : a = 20
          · subst a20; rw [uI_eq, tS20]
          · rw [uI_ne _ _ _ a20, tSe _ _ a0 a20 ha]
      obtain ⟨c0, c1, ⟨c2, c3, c4, c5⟩, c6, c7⟩ := h2.cm
      refine ⟨fun k hk fk => ?_, c1, ⟨by rw [← ea 2 (by omega)]; exact c2, by rw [← ea 3 (by omega)]; exact c3, by rw [← ea 20 (by omega)]; exact c4, by rw [← ea 21 (by omega)]; exact c5⟩, fun r hr z b hb => ?_, fun r hr b hb => ?_⟩
      · have : ma k < 20 := by unfold ma; split <;> omega
        rw [← ea _ (by omega)]; exact c0 k hk fk
      · rw [← ea 21 (by omega)] at z
        have z' : ¬ τ.1 21 r = 0 := by rw [uI_ne _ _ _ (by omega), uI_ne _ _ _ (by omega)] at z; exact z
        have hr4 : ¬ 4 * sT τ ≤ r := fun w => z' (rg.2.2.2.2.2.2.1 r hr w)
        rw [← ea _ (by omega)]; exact c6 r hr z b hb
      · rw [← ea _ (by omega)]; exact c7 r hr b hb
    · have e8 : sT τ = 8 := (nI_eq (b := 8) (by omega) (by omega)).mp c8
      rw [if_pos (by omega)] at hQ; exact hQ M h
theorem r_test {σ : Sg} {N : Nat} {x : Int32} (h : Rg σ N) : Rg (s_test σ x).2 N := by
  unfold s_test
  split
  · exact h
  · split
    · exact h
    · next c8 =>
      have hT8 : sT σ < 8 := by omega
      have hs := tST σ x hT8
      obtain ⟨h1, h2, h3, h4, h5, h6, h7, h8, h9, h10⟩ := h
      have f : ∀ k, k ≠ 7 → (testS σ x).1 0 k = σ.1 0 k := fun k hk => by rw [tS0, upd_ne _ _ hk]
      refine ⟨?_, ?_, ?_, ?_, fun r hr => ?_, ?_, ?_, fun r hr => ?_, ?_, ?_⟩
      · show (testS σ x).1 0 6 = nI ((testS σ x).1 0 6).toInt.toNat ∧ ((testS σ x).1 0 6).toInt.toNat ≤ 40
        rw [f 6 (by omega)]; exact h1
      · rw [hs, tS0, upd_eq]; exact ⟨rfl, by omega⟩
      · show (testS σ x).1 0 8 = nI ((testS σ x).1 0 8).toInt.toNat ∧ ((testS σ x).1 0 8).toInt.toNat ≤ 1000
        rw [f 8 (by omega)]; exact h3
      · show (testS σ x).1 0 9 = nI ((testS σ x).1 0 9).toInt.toNat ∧ ((testS σ x).1 0 9).toInt.toNat ≤ 5
        rw [f 9 (by omega)]; exact h4
      · by_cases z : 100 + 4 * sT σ ≤ 100 + r ∧ 100 + r < 104 + 4 * sT σ
        · rw [tSv _ _ z.1 z.2]; exact vOk_fil _
        · rw [tSe _ _ (by omega) (by omega) z]; exact h5 r hr
      · rw [tSe _ _ (by omega) (by omega) (by omega)]; exact h6
      · rw [hs, tSe _ _ (by omega) (by omega) (by omega)]; exact fun r hr hz => h7 r hr (by omega)
      · rw [tSe _ _ (by omega) (by omega) (by omega)]; exact h8 r hr
      · rw [f 10 (by omega)]; exact h9
      · unfold Hv; rw [tSe _ _ (by omega) (by omega) (by omega)]; exact h10
theorem rz_test {σ : Sg} {N : Nat} {x : Int32} (rg : Rg σ N) (h : Rz σ) : Rz (s_test σ x).2 := by
  unfold s_test
  split
  · exact h
  · split
    · exact h
    · next c8 =>
      have hT8 : sT σ < 8 := by omega
      have hs := tST σ x hT8
      intro r hr h4 b hb
      rw [hs] at h4
      rw [tSe _ _ (by omega) (by omega) (by omega)]
      exact h r hr (by omega) b hb
