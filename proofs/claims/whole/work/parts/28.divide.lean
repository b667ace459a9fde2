/-! PURE, 9: a ROW cut, as the class keeps it -/
def zP (v : Nat → Int32) (B p : Nat) : Nat → Int × Int × Nat := dpT (mc v B) p (csf (rk v B)) (mc v B)
/-- where the span that begins at i ends -/
def zX (v : Nat → Int32) (B p : Nat) (i : Nat) : Nat := (zP v B p i).2.2
/-- how many spans -/
def zS (v : Nat → Int32) (B p : Nat) : Nat := nS (mc v B) (zX v B p)
/-- where span j begins, of the measured builds -/
def zF (v : Nat → Int32) (B p : Nat) (j : Nat) : Nat := ss (mc v B) (zX v B p) j
/-- the middle of span j -/
def zM (v : Nat → Int32) (B p : Nat) (j : Nat) : Int := md (mc v B) (zX v B p) (fun k => (v (mp v B k)).toInt) j
/-- costs and prices -/
def zT (v : Nat → Int32) (B p : Nat) : Int := if mc v B = 0 then 0 else (zP v B p 0).1
/-- the size of the step at cut i -/
def zZ (v : Nat → Int32) (B p : Nat) (i : Nat) : Int := zM v B p (i + 1) - zM v B p i
/-- the pairs -/
def zQ (v : Nat → Int32) (B p : Nat) : (Nat → Option Nat) × (Nat → Bool) := prs (zS v B p - 1) (zZ v B p) (zS v B p - 1)
def vOk (v : Nat → Int32) : Prop := ∀ b, b < 40 → v b = -9 ∨ (0 ≤ (v b).toInt ∧ (v b).toInt ≤ 1000000)
theorem rk_80 {v : Nat → Int32} {B : Nat} (hB : B ≤ 40) : ∀ k, k < mc v B → 0 ≤ rk v B k ∧ rk v B k ≤ 80 := fun k hk => by have := rk_rng hk; omega
theorem zP_rng {v : Nat → Int32} {B p : Nat} (hB : B ≤ 40) (hp : p ≤ 1000) {i : Nat} (hi : i < mc v B) : (0 ≤ (zP v B p i).1 ∧ (zP v B p i).1 ≤ 4200 * (mc v B - i)) ∧ (0 ≤ (zP v B p i).2.1 ∧ (zP v B p i).2.1 ≤ (mc v B - i)) ∧ i < (zP v B p i).2.2 ∧ (zP v B p i).2.2 ≤ mc v B :=
  dpT_rng (csf_ok (by have := mc_le v B; omega) (rk_80 hB)) (by omega) _ i hi (by omega)
theorem zX_ok {v : Nat → Int32} {B p : Nat} (hB : B ≤ 40) (hp : p ≤ 1000) : nxOk (mc v B) (zX v B p) := fun i hi => (zP_rng hB hp hi).2.2
theorem zM_rng {v : Nat → Int32} {B p : Nat} (hv : vOk v) (hB : B ≤ 40) (hp : p ≤ 1000) {j : Nat} (hj : j < zS v B p) : 0 ≤ zM v B p j ∧ zM v B p j ≤ 1000000 := by
  have h := ss_lt (zX_ok (v := v) hB hp) hj
  refine so_all (P := fun y => 0 ≤ y ∧ y ≤ 1000000) (fun t ht => ?_) _ (by omega)
  have hm := mp_spec v B (ss (mc v B) (zX v B p) j + t) (by omega)
  have := hv _ (show mp v B (ss (mc v B) (zX v B p) j + t) < 40 by omega)
  rcases this with z | z
  · exact absurd z hm.2.1
  · exact z
theorem zS_le {v : Nat → Int32} {B p : Nat} (hB : B ≤ 40) (hp : p ≤ 1000) : zS v B p ≤ mc v B ∧ zS v B p ≤ 40 := by
  have h1 := nS_le (zX_ok (v := v) hB hp)
  have h2 := mc_le v B
  unfold zS; omega
/-- the class's row r holds how its measurements v are cut, for B builds and the price p -/
def RowCut (Λ : Nat → Nat) (M : Mm) (r : Nat) (v : Nat → Int32) (B p : Nat) : Prop :=
  gI M (Λ r) 6 = nI (mc v B) ∧ (∀ k, k < mc v B → gI M (Λ (r + 2)) k = nI (mp v B k)) ∧ (∀ k, k < mc v B → gI M (Λ (r + 3)) k = nI (rk v B k)) ∧ gI M (Λ r) 9 = nI (zS v B p) ∧ (∀ j, j ≤ zS v B p → gI M (Λ (r + 4)) j = nI (zF v B p j)) ∧ MidOk Λ M r (zS v B p) (zM v B p) ∧ Mt (gI M (Λ (r + 6))) (zQ v B p) ∧ (gI M (Λ r) 13).toInt = zT v B p
/-- the cells that cutting row r writes -/
def cutS (Λ : Nat → Nat) (r : Nat) (b : Nat) : Prop := b = Λ r ∨ b = Λ (r + 2) ∨ b = Λ (r + 3) ∨ b = Λ (r + 4) ∨ b = Λ (r + 5) ∨ b = Λ (r + 6) ∨ b = Λ 5 ∨ b = Λ 6 ∨ b = Λ 7 ∨ b = Λ 8
theorem cutS_not {Λ : Nat → Nat} (hΛ : inj Λ) {r c : Nat} (h : c ≠ r ∧ c ≠ r + 2 ∧ c ≠ r + 3 ∧ c ≠ r + 4 ∧ c ≠ r + 5 ∧ c ≠ r + 6 ∧ c ≠ 5 ∧ c ≠ 6 ∧ c ≠ 7 ∧ c ≠ 8) : ¬ cutS Λ r (Λ c) := by
  rintro (e | e | e | e | e | e | e | e | e | e) <;> exact absurd (hΛ _ _ e) (by omega)
set_option maxHeartbeats 1000000 in
theorem x_divide {Λ : Nat → Nat} {M : Mm} {Q : Mm → Prop} {r B p : Nat} {v : Nat → Int32} (hΛ : inj Λ) (hr : 20 ≤ r) (sh : CutSh Λ M) (rs : RowSh Λ M r) (hv : gI M (Λ (r + 1)) = v) (hvo : vOk v) (hB : B ≤ 40) (hp : p ≤ 1000)
    (hQ : ∀ M', Ch (cutS Λ r) M M' → RowCut Λ M' r v B p → gI M' (Λ r) 1 = gI M (Λ r) 1 → gI M' (Λ r) 3 = 0 → gI M' (Λ r) 4 = nI B → gI M' (Λ r) 5 = nI p → Q M') : B_X1_divide_0 Q (Λ 4) (some (Λ r)) (nI B) (nI p) M := by
  have hmB := mc_le v B
  have hx := zX_ok (v := v) hB hp
  have hzs := zS_le (v := v) hB hp
  refine ⟨Λ r, rfl, rs.1, x_gather hΛ rs hv hB (fun M3 g3 => ?_)⟩
  obtain ⟨c3, m3, j3, p3, k3⟩ := g3
  have C3 : Ch (cutS Λ r) M M3 := c3.mono (by rintro b (e | e | e) <;> simp [cutS, e])
  have sh3 := sh.ch c3
  have rs3 := rs.ch c3
  refine ⟨rs3.1, mc v B + 1, ?_⟩
  rw [m3]
  refine x_table hΛ hr sh3 rs3 (by omega) hp m3 (rk_80 hB) k3 (fun M4 tot c4 t4 e4 => ?_) (mc v B) M3 (by omega) (Ch.refl _ _) (fun j h1 h2 => absurd h2 (by omega))
  have C4 : Ch (cutS Λ r) M M4 := C3.trans (c4.mono (by rintro b (e | e | e | e) <;> simp [cutS, e]))
  have o4 : ∀ c, 9 ≤ c → gI M4 (Λ c) = gI M3 (Λ c) := fun c hc => c4.2 _ (by rintro (e | e | e | e) <;> exact hΛ.ne (by omega) e)
  have rs4 := rs3.ch c4
  have sh4 := sh3.ch c4
  refine ⟨Λ r, rfl, rs4.1, ?_⟩
  rintro _ rfl
  have c5 : Ch (fun b => b = Λ r) M4 (pI M4 (Λ r) 13 tot) := Ch.put rfl
  have C5 : Ch (cutS Λ r) M (pI M4 (Λ r) 13 tot) := C4.trans (c5.mono (by rintro b e; exact Or.inl e))
  have rs5 := rs4.ch c5
  have sh5 := sh4.ch c5
  have o5 : ∀ c, c ≠ r → gI (pI M4 (Λ r) 13 tot) (Λ c) = gI M4 (Λ c) := fun c hc => gI_pI_ne (hΛ.ne hc)
  have f5 : ∀ j, j ≠ 13 → gI (pI M4 (Λ r) 13 tot) (Λ r) j = gI M3 (Λ r) j := fun j hj => by rw [gI_pI_eq, upd_ne _ _ hj, o4 r (by omega)]
  have t5 : gI (pI M4 (Λ r) 13 tot) (Λ r) 13 = tot := by rw [gI_pI_eq, upd_eq]
  generalize pI M4 (Λ r) 13 tot = M5 at *
  refine ⟨sh5.1, x_spans (nx := zX v B p) hΛ hr sh5 rs5 (by omega) (by rw [f5 6 (by omega)]; exact m3) hx (fun k hk => by rw [o5 8 (by omega)]; exact (t4 k hk (by omega)).2.2) (fun M6 c6 s6 j6 f6 => ?_)⟩
  have C6 : Ch (cutS Λ r) M M6 := C5.trans (c6.mono (by rintro b (e | e) <;> simp [cutS, e]))
  have rs6 := rs5.ch c6
  have sh6 := sh5.ch c6
  have o6 : ∀ c, c ≠ r → c ≠ r + 4 → gI M6 (Λ c) = gI M5 (Λ c) := fun c h1 h2 => c6.2 _ (fun z => z.elim (hΛ.ne h1) (hΛ.ne h2))
  have p6 : ∀ k, k < mc v B → gI M6 (Λ (r + 2)) k = nI (mp v B k) := fun k hk => by rw [o6 _ (by omega) (by omega), o5 _ (by omega), o4 _ (by omega)]; exact p3 k hk
  have v6 : gI M6 (Λ (r + 1)) = v := by
    rw [o6 _ (by omega) (by omega), o5 _ (by omega), o4 _ (by omega), c3.2 _ (by rintro (e | e | e) <;> exact hΛ.ne (by omega) e)]; exact hv
  have k6 : ∀ k, k < mc v B → gI M6 (Λ (r + 3)) k = nI (rk v B k) := fun k hk => by rw [o6 _ (by omega) (by omega), o5 _ (by omega), o4 _ (by omega)]; exact k3 k hk
  have i6 : ∀ j, j ≠ 9 → j ≠ 13 → j ≠ 6 → gI M6 (Λ r) j = gI M (Λ r) j := fun j h1 h2 h3 => by rw [j6 j h1, f5 j h2]; exact j3 j h3
  have i66 : gI M6 (Λ r) 6 = nI (mc v B) := by rw [j6 6 (by omega), f5 6 (by omega)]; exact m3
  have i613 : gI M6 (Λ r) 13 = tot := by rw [j6 13 (by omega)]; exact t5
  refine ⟨sh6.1, x_middles (nx := zX v B p) (u := fun k => (v (mp v B k)).toInt) (pl := mp v B) hΛ hr sh6 rs6 (by omega) hx s6 f6 (fun k hk => ⟨by have := (mp_spec v B k hk).1; omega, p6 k hk, by rw [v6]⟩) (fun M7 g7 => ?_)⟩
  obtain ⟨c7, m7⟩ := g7
  have C7 : Ch (cutS Λ r) M M7 := C6.trans (c7.mono (by rintro b (e | e) <;> simp [cutS, e]))
  have rs7 := rs6.ch c7
  have o7 : ∀ c, c ≠ 5 → c ≠ r + 5 → gI M7 (Λ c) = gI M6 (Λ c) := fun c h1 h2 => c7.2 _ (fun z => z.elim (hΛ.ne h1) (hΛ.ne h2))
  have mid7 : MidOk Λ M7 r (zS v B p) (zM v B p) := fun j hj => ⟨m7 j hj, zM_rng hvo hB hp hj⟩
  refine ⟨Λ r, rfl, rs7.1, x_pairs (s := zS v B p) (μ := zM v B p) hΛ rs7 hzs.2 (by rw [o7 r (by omega) (by omega)]; exact s6) mid7 (fun M8 c8 q8 => ?_)⟩
  have C8 : Ch (cutS Λ r) M M8 := C7.trans (c8.mono (by rintro b e; simp [cutS, e]))
  have o8 : ∀ c, c ≠ r + 6 → gI M8 (Λ c) = gI M7 (Λ c) := fun c h => c8.2 _ (hΛ.ne h)
  refine ⟨(rs7.ch c8).1, ?_⟩
  rintro _ rfl _ rfl _ rfl
  have C9 : Ch (cutS Λ r) M (pI (pI (pI M8 (Λ r) 3 (0 : Int32)) (Λ r) 4 (nI B)) (Λ r) 5 (nI p)) := ((C8.step (Or.inl rfl)).step (Or.inl rfl)).step (Or.inl rfl)
  have o9 : ∀ c, c ≠ r → gI (pI (pI (pI M8 (Λ r) 3 (0 : Int32)) (Λ r) 4 (nI B)) (Λ r) 5 (nI p)) (Λ c) = gI M8 (Λ c) := fun c h => by rw [gI_pI_ne (hΛ.ne h), gI_pI_ne (hΛ.ne h), gI_pI_ne (hΛ.ne h)]
  have i9 : ∀ j, j ≠ 3 → j ≠ 4 → j ≠ 5 → gI (pI (pI (pI M8 (Λ r) 3 (0 : Int32)) (Λ r) 4 (nI B)) (Λ r) 5 (nI p)) (Λ r) j = gI M6 (Λ r) j := fun j h1 h2 h3 => by
    rw [gI_pI_eq, upd_ne _ _ h3, gI_pI_eq, upd_ne _ _ h2, gI_pI_eq, upd_ne _ _ h1, o8 r (by omega), o7 r (by omega) (by omega)]
  refine hQ _ C9 ⟨?_, ?_, ?_, ?_, ?_, ?_, ?_, ?_⟩ ?_ ?_ ?_ ?_
  · rw [i9 6 (by omega) (by omega) (by omega)]; exact i66
  · intro k hk; rw [o9 _ (by omega), o8 _ (by omega), o7 _ (by omega) (by omega)]; exact p6 k hk
  · intro k hk; rw [o9 _ (by omega), o8 _ (by omega), o7 _ (by omega) (by omega)]; exact k6 k hk
  · rw [i9 9 (by omega) (by omega) (by omega)]; exact s6
  · intro j hj; rw [o9 _ (by omega), o8 _ (by omega), o7 _ (by omega) (by omega)]; exact f6 j hj
  · intro j hj; rw [o9 _ (by omega), o8 _ (by omega)]; exact mid7 j hj
  · rw [o9 _ (by omega)]; exact q8
  · rw [i9 13 (by omega) (by omega) (by omega), i613]; exact e4
  · rw [i9 1 (by omega) (by omega) (by omega)]; exact i6 1 (by omega) (by omega) (by omega)
  · rw [gI_pI_eq, upd_ne _ _ (by omega), gI_pI_eq, upd_ne _ _ (by omega), gI_pI_eq, upd_eq]
  · rw [gI_pI_eq, upd_ne _ _ (by omega), gI_pI_eq, upd_eq]
  · rw [gI_pI_eq, upd_eq]
