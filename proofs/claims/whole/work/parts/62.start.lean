/-! PURE, 42: the start -/
def σS : Sg := (fun a => if a = 0 then n0X else fun _ => 0, vp_updL (fun _ => 0) 13 1)
theorem sSa {a : Nat} (h : a ≠ 0) : σS.1 a = fun _ => 0 := by show (if a = 0 then n0X else fun _ => 0) = _; rw [if_neg h]
theorem sST : sT σS = 0 := by decide
theorem Rg_start : Rg σS 0 := by
  refine ⟨⟨by decide, by decide⟩, ⟨by decide, by decide⟩, ⟨by decide, by decide⟩, ⟨by decide, by decide⟩, fun r hr => ?_, fun r hr => ?_, fun r hr _ => ?_, fun r hr b hb => ?_, ⟨0, by decide, by decide⟩, Or.inl (by decide)⟩
  · rw [sSa (by omega)]; exact fun b hb => Or.inr (show 0 ≤ (0 : Int32).toInt ∧ (0 : Int32).toInt ≤ 1000000 by decide)
  · rw [sSa (by omega)]; exact Or.inl rfl
  · rw [sSa (by omega)]
  · rw [sSa (by omega)]; exact Or.inl rfl
theorem Rz_start : Rz σS := fun r hr _ b hb => by rw [sSa (by omega)]
theorem start_inv {Λ0 Λ1 Λ2 : Nat → Nat} {B M1 M2 : Mm} (sX : Sh (fun _ => False) Λ0 B 0 Λ1 M1 csX rsX (uf (uf (fun _ _ => 0) 0 (upd (fun _ => 0) 8 20)) 0 n0X) (ug (fun _ _ => 0) 0 (vp_updL (fun _ => 0) 13 1))) (sM : Sh (fun c => c ≤ 9) Λ1 M1 400 Λ2 M2 csM rsM (uf (uf (fun _ _ => 0) 0 (upd (fun _ => 0) 13 20)) 0 n0M) (ug (fun _ _ => 0) 0 (vp_updL (fun _ => 0) 28 1))) : Inv Λ2 M2 σS σS := by
  have cX : ∀ {c kd n : Nat}, (c, kd, n) ∈ csX → ok M1 (Λ1 c) kd ∧ gN M1 (Λ1 c) = n := fun h => by have := sX.cell h; rw [Nat.zero_add] at this; exact this
  have rX : ∀ {c k d : Nat}, (c, k, d) ∈ rsX → gR M1 (Λ1 c) k = some (Λ1 d) := fun h => by have := sX.ref h; rw [Nat.zero_add, Nat.zero_add] at this; exact this
  have nX : ∀ c, c ≤ 9 → c ∈ hd3 csX := fun c hc => by
    have : c = 0 ∨ c = 1 ∨ c = 2 ∨ c = 3 ∨ c = 4 ∨ c = 5 ∨ c = 6 ∨ c = 7 ∨ c = 8 ∨ c = 9 := by omega
    rcases this with rfl | rfl | rfl | rfl | rfl | rfl | rfl | rfl | rfl | rfl <;> decide
  have j1 : ∀ j, j < 4 → (4, j, 5 + j) ∈ rsX := by decide
  have j2 : ∀ j, j < 4 → (5 + j, 7, 40) ∈ csX := by decide
  have sx1 : SX Λ1 M1 0 := ⟨(cX (c := 0) (kd := 5) (n := 0) (by decide)).1, ⟨rX (c := 0) (k := 0) (d := 1) (by decide), cX (c := 1) (kd := 11) (n := 8) (by decide)⟩, ⟨rX (c := 0) (k := 1) (d := 2) (by decide), cX (c := 2) (kd := 7) (n := 6) (by decide)⟩, ⟨rX (c := 0) (k := 2) (d := 3) (by decide), cX (c := 3) (kd := 7) (n := 300) (by decide)⟩, ⟨rX (c := 0) (k := 3) (d := 4) (by decide), (cX (c := 4) (kd := 1) (n := 0) (by decide)).1, fun j hj => rX (j1 j hj), fun j hj => (cX (j2 j hj)).1, fun j hj => (cX (j2 j hj)).2⟩, ⟨rX (c := 0) (k := 4) (d := 9) (by decide), (cX (c := 9) (kd := 2) (n := 0) (by decide)).1⟩, fun t ht => absurd ht (by omega)⟩
  have u9 : ∀ c, uX 0 c → c ≤ 9 := fun c u => by unfold uX at u; omega
  have eΛ : ∀ c, c ≤ 9 → Λ2 c = Λ1 c := fun c hc => (sM.2.1 c hc).1
  have mX : ∀ c, c ≤ 9 → Λ1 c ∈ gL M1 := fun c hc => (sM.2.1 c hc).2
  have fr := fun c (hc : c ≤ 9) => sM.2.2.1 _ (mX c hc)
  have gIX : ∀ c, c ≤ 9 → gI M2 (Λ2 c) = (uf (uf (fun _ _ => 0) 0 (upd (fun _ => 0) 8 20)) 0 n0X) c := fun c hc => by
    have := (sX.num (nX c hc)).2.2.1; rw [Nat.zero_add] at this
    rw [eΛ c hc, (fr c hc).2.1]; exact this
  have sx2 : SX Λ2 M2 0 := sx1.lam (fun c u => eΛ c (u9 c u)) (fun c k u o => ⟨⟨(fr c (u9 c u)).1, (fr c (u9 c u)).2.2.2.2.1.trans o.2⟩, (fr c (u9 c u)).2.2.2.2.2⟩) (fun c k u _ => by rw [(fr c (u9 c u)).2.2.2.1])
  have cz : Cz Λ2 M2 := Or.inl (by
    rw [eΛ 0 (by omega), (fr 0 (by omega)).2.2.2.1]
    exact sX.none (c := 0) (k := 5) (by decide) (by decide))
  have gJX : gJ M2 (Λ2 0) = vp_updL (fun _ => 0) 13 1 := by
    have := (sX.num (nX 0 (by omega))).2.2.2
    rw [eΛ 0 (by omega), (fr 0 (by omega)).2.2.1]; exact this
  have cx : CX Λ2 M2 σS := ⟨gIX 0 (by omega), gIX 2 (by omega), gIX 3 (by omega), gIX 9 (by omega), gJX, fun t ht => absurd ht (by rw [sST]; omega)⟩
  have k1 : ∀ j, j < 19 → (0, mf (j + 1), j + 1) ∈ rsM := by decide +kernel
  have k2 : ∀ j, j < 19 → (j + 1, mk (j + 1), ml (j + 1)) ∈ csM := by decide +kernel
  have ms : ModSh Λ2 M2 := by
    refine ⟨(sM.cell (c := 0) (kd := 6) (n := 0) (by decide)).1, fun j h1 h2 => ?_⟩
    obtain ⟨i, rfl⟩ : ∃ i, j = i + 1 := ⟨j - 1, by omega⟩
    exact ⟨sM.ref (k1 i (by omega)), sM.cell (k2 i (by omega))⟩
  have gIM : ∀ c, c ∈ hd3 csM → gI M2 (Λ2 (400 + c)) = (uf (uf (fun _ _ => 0) 0 (upd (fun _ => 0) 13 20)) 0 n0M) c := fun c hc => (sM.num hc).2.2.1
  have g0 : gI M2 (Λ2 400) = n0M := gIM 0 (by decide)
  have gJM : gJ M2 (Λ2 400) = vp_updL (fun _ => 0) 28 1 := (sM.num (c := 0) (by decide)).2.2.2
  have kk : ∀ k, k < 41 → (mF k = false ∨ n0M k = σS.1 (ma k) (mb k)) := by decide +kernel
  refine ⟨sM.1, ⟨by rw [sST]; exact sx2, cz, cx⟩, ms, fun k hk fk => ?_, ⟨by rw [gJM]; decide, by rw [gJM]; decide, by rw [gJM]; decide⟩, ⟨gIM 1 (by decide), gIM 18 (by decide), gIM 2 (by decide), gIM 3 (by decide)⟩, fun r hr z b hb => ?_, fun r hr b hb => ?_⟩
  · rw [g0]
    rcases kk k hk with e | e
    · rw [e] at fk; cases fk
    · exact e
  · rw [sSa (by omega)] at z; exact absurd rfl z
  · rw [sSa (by omega), show Λ2 419 = Λ2 (400 + 19) from rfl, gIM 19 (by decide)]; rfl
