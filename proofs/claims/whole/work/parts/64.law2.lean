/-! PURE, 44: the law -/
def M0 : Mm := (fun _ _ => 0, fun _ _ => 0, fun _ _ => none, fun _ => 0, fun _ => 0, [])
theorem law_18 {b L a0 m0 : Nat} {xs : Nat → Int32} (hL : L ≤ 3584) : ∀ (d k : Nat) (Λ : Nat → Nat) (M : Mm) (σ : Sg) (gc gs : Nat), k + d = L / 7 → Λ 0 = a0 → Λ 400 = m0 → Inv Λ M σ σ → Rg σ k → Rz σ → bud k gc gs → B_L_law_18 b L xs (d + 1) b (some a0) (some m0) (nI (7 * k)) gc gs M := by
  have e7 : (nI L - (7 : Int32)).toInt = (L : Int) - 7 := by
    have q : (7 : Int32).toInt = 7 := rfl
    rw [subI (by rw [nI_toInt (by omega)]; omega) (by rw [nI_toInt (by omega)]; omega), nI_toInt (by omega), q]
  intro d
  induction d with
  | zero =>
    intro k Λ M σ gc gs hd e0 e4 h rg rz bd
    unfold B_L_law_18
    refine ⟨rfl, fun _ => rfl, fun c => absurd ?_ c⟩
    rw [lt_I, e7, nI_toInt (by omega)]; omega
  | succ d ih =>
    intro k Λ M σ gc gs hd e0 e4 h rg rz bd
    have hk : k < 512 := by omega
    have e8 : nI (7 * k) + (7 : Int32) = nI (7 * (k + 1)) := by rw [show (7 : Int32) = nI 7 from rfl, nI_add]; congr 1
    have nx : Nx b Λ k (nI (7 * k)) (fun y0 y1 y2 y3 y4 y5 My => B_L_law_18 b L xs (d + 1) y0 y1 y2 y3 y4 y5 My) := fun Λ' M' σ' gc' gs' e1 e2 h' r' z' b' => by
      have q := ih (k + 1) Λ' M' σ' gc' gs' (by omega) (e1.trans e0) (e2.trans e4) h' r' z' b'
      rw [← e0, ← e4, ← e8] at q
      exact q
    have hv : ∀ j, j ≤ 6 → vp_in (nI (7 * k) + nI j) L := fun j hj => by rw [nI_add]; exact vp_in_nI (by omega) (by omega)
    unfold B_L_law_18
    rw [← e0, ← e4]
    refine ⟨rfl, fun _ => rfl, fun _ => ⟨rfl, vp_in_nI (by omega) (by omega), fun _ => nx Λ M σ gc gs rfl rfl h (rg.mono (by omega)) rz bd.nx, fun _ => l_180 h rg rz hk bd hv nx, fun _ => l_203 h rg rz hk bd hv nx, fun _ => l_226 h rg rz hk bd hv nx, fun _ => l_259 h rg rz hk bd hv nx, fun _ => l_292 h rg rz hk bd hv nx, fun _ => l_345 h rg rz hk bd hv nx, fun _ => l_388 h rg rz hk bd hv nx, fun _ => l_421 h rg rz hk bd hv nx, fun _ => l_496 h rg rz hk bd hv nx, fun _ => l_539 h rg rz hk bd hv nx, fun _ => l_572 h rg rz hk bd hv nx, fun _ => l_595 h rg rz hk bd hv nx, fun _ => l_628 h rg rz hk bd hv nx, fun _ => l_671 h rg rz hk bd hv nx, fun _ => l_714 h rg rz hk bd hv nx, fun _ => l_757 h rg rz hk bd hv nx, fun _ => l_780 h rg rz hk bd hv nx, fun _ => l_823 h rg rz hk bd hv nx, fun _ => l_866 h rg rz hk bd hv nx, fun _ => l_909 h rg rz hk bd hv nx, fun _ => l_952 h rg rz hk bd hv nx, fun _ => l_975 h rg rz hk bd hv nx, fun _ => l_1018 h rg rz hk bd hv nx, fun _ => l_1031 h rg rz hk bd hv nx, fun _ => l_1070 h rg rz hk bd hv nx, fun _ => l_1083 h rg rz hk bd hv nx, fun _ => l_1096 h rg rz hk bd hv nx, fun _ => l_1110 h rg rz hk bd hv nx, fun _ => l_1124 h rg rz hk bd hv nx, fun _ => l_1138 h rg rz hk bd hv nx, fun _ => l_1161 h rg rz hk bd hv nx, fun _ => l_1174 h rg rz hk bd hv nx, fun _ => l_1197 h rg rz hk bd hv nx⟩⟩
theorem pure_law (b L : Nat) (xs : Nat → Int32) (hL : L ≤ 3584) : B_L_law_0 b L xs b 600000 7302249 M0 := by
  unfold B_L_law_0
  refine ⟨by omega, by omega, fun q hq => ?_⟩
  rintro _ rfl
  have s0 : Sh (fun _ => False) (fun c => c) M0 0 (fun c => c) M0 [] [] (fun _ _ => 0) (fun _ _ => 0) := Sh.start (fun c c' e => e) (fun d hd => False.elim hd)
  obtain ⟨Λ1, s1, e1, _⟩ := s0.new (c := 0) (kd := 5) (n := 0) (q := q) (by decide) (fun z => z) hq rfl rfl
  refine ⟨9, 485, by omega, by omega, x_init s1 e1 (fun _ z => z) (by omega) (by omega) (fun Λ2 M2 s2 e2 => ?_)⟩
  refine ⟨by omega, by omega, fun q7 hq7 => ?_⟩
  rintro _ rfl
  have nX : ∀ c, c ≤ 9 → c ∈ hd3 csX := fun c hc => by
    have : c = 0 ∨ c = 1 ∨ c = 2 ∨ c = 3 ∨ c = 4 ∨ c = 5 ∨ c = 6 ∨ c = 7 ∨ c = 8 ∨ c = 9 := by omega
    rcases this with rfl | rfl | rfl | rfl | rfl | rfl | rfl | rfl | rfl | rfl <;> decide
  have t0 : Sh (fun c => c ≤ 9) Λ2 M2 400 Λ2 M2 [] [] (fun _ _ => 0) (fun _ _ => 0) := Sh.start s2.1 (fun d hd => by have := (s2.num (nX d hd)).1; rw [Nat.zero_add] at this; exact this)
  obtain ⟨Λ3, t1, f1, _⟩ := t0.new (c := 0) (kd := 6) (n := 0) (q := q7) (by decide) (by omega) hq7 rfl rfl
  refine ⟨20, 50000, by omega, by omega, m_init t1 f1 (fun j => by omega) (by omega) (by omega) (fun Λ4 M4 t4 f4 => ?_)⟩
  have g0 : Λ4 0 = q := ((t4.2.1 0 (by omega)).1).trans e2
  exact ⟨_, law_18 hL (L / 7) 0 Λ4 M4 σS _ _ (by omega) g0 f4 (start_inv s2 t4) Rg_start Rz_start ⟨by omega, by omega⟩⟩
