/-! PURE, 43: the law, call by call (laid by wip/whole/law_cases.py) -/
def bud (k gc gs : Nat) : Prop := 30 * (512 - k) ≤ gc ∧ 8594 * (512 - k) ≤ gs
theorem bud.nx {k gc gs : Nat} (h : bud k gc gs) : bud (k + 1) gc gs := ⟨Nat.le_trans (Nat.mul_le_mul_left _ (by omega)) h.1, Nat.le_trans (Nat.mul_le_mul_left _ (by omega)) h.2⟩
theorem bud.pay {k gc gs : Nat} (h : bud k gc gs) (hk : k < 512) : 30 ≤ gc ∧ 8594 ≤ gs ∧ bud (k + 1) (gc - 30) (gs - 8594) := by
  obtain ⟨h1, h2⟩ := h
  unfold bud
  omega
theorem lg_self (x : Int64) : lg_cmp x x = 0 := by
  unfold lg_cmp
  rw [if_neg (Int64.lt_irrefl), if_pos rfl]
abbrev K6 : Type := Nat → Option Nat → Option Nat → Int32 → Nat → Nat → Mm → Prop
def Nx (b : Nat) (Λ : Nat → Nat) (k : Nat) (x3 : Int32) (K18 : K6) : Prop := ∀ (Λ' : Nat → Nat) (M' : Mm) (σ' : Sg) (gc gs : Nat), Λ' 0 = Λ 0 → Λ' 400 = Λ 400 → Inv Λ' M' σ' σ' → Rg σ' (k + 1) → Rz σ' → bud (k + 1) gc gs → K18 b (some (Λ 0)) (some (Λ 400)) (x3 + 7) gc gs M'
section LW
variable {b L : Nat} {xs : Nat → Int32} {K18 : K6} {Λ : Nat → Nat} {M : Mm} {σ : Sg} {k gc gs : Nat} {x3 : Int32}
theorem l_180 (h : Inv Λ M σ σ) (rg : Rg σ k) (rz : Rz σ) (hk : k < 512) (bd : bud k gc gs) (hv : ∀ j, j ≤ 6 → vp_in (x3 + nI j) L) (nx : Nx b Λ k x3 K18) : B_L_law_180 b L xs K18 b (some (Λ 0)) (some (Λ 400)) x3 gc gs M :=
  ⟨rfl, hv 1 (by omega), Λ 0, rfl, h.o0, x_builds h (fun M1 h1 => ⟨rfl, hv 1 (by omega), Λ 400, rfl, h1.m0, m_builds h1 (r_builds rg).2.1.2 (fun M2 h2 => ⟨fun _ => nx Λ M2 _ gc gs rfl rfl h2 ((r_builds rg).mono (by omega)) ((k_builds _ _).rz rz) bd.nx, fun c => absurd rfl c⟩)⟩)⟩
theorem l_203 (h : Inv Λ M σ σ) (rg : Rg σ k) (rz : Rz σ) (hk : k < 512) (bd : bud k gc gs) (hv : ∀ j, j ≤ 6 → vp_in (x3 + nI j) L) (nx : Nx b Λ k x3 K18) : B_L_law_203 b L xs K18 b (some (Λ 0)) (some (Λ 400)) x3 gc gs M := by
  obtain ⟨p1, p2, p3⟩ := bd.pay hk
  have r1 := r_test (x := xs (Int32.toNatClampNeg (x3 + 1))) rg
  refine ⟨rfl, hv 1 (by omega), Λ 0, rfl, h.o0, 30, 8594, p1, p2, x_test h rg rz (by omega) (by omega) (fun Λ1 M1 ag h1 => ?_)⟩
  have e0 : Λ1 0 = Λ 0 := ag 0 (u0 _)
  have e4 : Λ1 400 = Λ 400 := ag 400 (Or.inr (by omega))
  refine ⟨rfl, hv 1 (by omega), Λ 400, rfl, by rw [← e4]; exact h1.m0, ?_⟩
  rw [← e4]
  refine m_test h1 r1.2.1.2 rg (fun M2 h2 => ⟨fun _ => ?_, fun c => absurd rfl c⟩)
  have q := nx Λ1 M2 _ (gc - 30) (gs - 8594) e0 e4 h2 (r1.mono (by omega)) (rz_test rg rz) p3
  rw [← e4] at q
  exact q
theorem l_226 (h : Inv Λ M σ σ) (rg : Rg σ k) (rz : Rz σ) (hk : k < 512) (bd : bud k gc gs) (hv : ∀ j, j ≤ 6 → vp_in (x3 + nI j) L) (nx : Nx b Λ k x3 K18) : B_L_law_226 b L xs K18 b (some (Λ 0)) (some (Λ 400)) x3 gc gs M :=
  ⟨rfl, hv 1 (by omega), rfl, hv 2 (by omega), Λ 0, rfl, h.o0, x_is h rg ⟨rfl, hv 1 (by omega), rfl, hv 2 (by omega), Λ 400, rfl, h.m0, m_is h rg ⟨fun _ => nx Λ M σ gc gs rfl rfl h (rg.mono (by omega)) rz bd.nx, fun c => absurd rfl c⟩⟩⟩
theorem l_259 (h : Inv Λ M σ σ) (rg : Rg σ k) (rz : Rz σ) (hk : k < 512) (bd : bud k gc gs) (hv : ∀ j, j ≤ 6 → vp_in (x3 + nI j) L) (nx : Nx b Λ k x3 K18) : B_L_law_259 b L xs K18 b (some (Λ 0)) (some (Λ 400)) x3 gc gs M :=
  ⟨rfl, hv 1 (by omega), rfl, hv 2 (by omega), Λ 0, rfl, h.o0, x_row h rg (fun M1 h1 => ⟨rfl, hv 1 (by omega), rfl, hv 2 (by omega), Λ 400, rfl, h1.m0, m_row h1 (r_row rg).2.1.2 rg (fun M2 h2 => ⟨fun _ => nx Λ M2 _ gc gs rfl rfl h2 ((r_row rg).mono (by omega)) ((k_row rg).rz rz) bd.nx, fun c => absurd rfl c⟩)⟩)⟩
theorem l_292 (h : Inv Λ M σ σ) (rg : Rg σ k) (rz : Rz σ) (hk : k < 512) (bd : bud k gc gs) (hv : ∀ j, j ≤ 6 → vp_in (x3 + nI j) L) (nx : Nx b Λ k x3 K18) : B_L_law_292 b L xs K18 b (some (Λ 0)) (some (Λ 400)) x3 gc gs M :=
  ⟨rfl, hv 1 (by omega), rfl, hv 2 (by omega), rfl, hv 3 (by omega), rfl, hv 4 (by omega), Λ 0, rfl, h.o0, x_lay h rg (fun M1 h1 => ⟨rfl, hv 1 (by omega), rfl, hv 2 (by omega), rfl, hv 3 (by omega), rfl, hv 4 (by omega), Λ 400, rfl, h1.m0, m_lay h1 (r_lay rg).2.1.2 rg (fun M2 h2 => ⟨fun _ => nx Λ M2 _ gc gs rfl rfl h2 ((r_lay rg).mono (by omega)) ((k_lay rg).rz rz) bd.nx, fun c => absurd rfl c⟩)⟩)⟩
theorem l_345 (h : Inv Λ M σ σ) (rg : Rg σ k) (rz : Rz σ) (hk : k < 512) (bd : bud k gc gs) (hv : ∀ j, j ≤ 6 → vp_in (x3 + nI j) L) (nx : Nx b Λ k x3 K18) : B_L_law_345 b L xs K18 b (some (Λ 0)) (some (Λ 400)) x3 gc gs M :=
  ⟨rfl, hv 1 (by omega), rfl, hv 2 (by omega), rfl, hv 3 (by omega), Λ 0, rfl, h.o0, x_at h rg (fun M1 h1 => ⟨rfl, hv 1 (by omega), rfl, hv 2 (by omega), rfl, hv 3 (by omega), Λ 400, rfl, h1.m0, m_at h1 (r_at rg).2.1.2 rg (fun M2 h2 => ⟨fun _ => nx Λ M2 _ gc gs rfl rfl h2 ((r_at rg).mono (by omega)) ((k_at _ _ _ _).rz rz) bd.nx, fun c => absurd rfl c⟩)⟩)⟩
theorem l_388 (h : Inv Λ M σ σ) (rg : Rg σ k) (rz : Rz σ) (hk : k < 512) (bd : bud k gc gs) (hv : ∀ j, j ≤ 6 → vp_in (x3 + nI j) L) (nx : Nx b Λ k x3 K18) : B_L_law_388 b L xs K18 b (some (Λ 0)) (some (Λ 400)) x3 gc gs M :=
  ⟨rfl, hv 1 (by omega), rfl, hv 2 (by omega), Λ 0, rfl, h.o0, x_tear h rg (fun M1 h1 => ⟨rfl, hv 1 (by omega), rfl, hv 2 (by omega), Λ 400, rfl, h1.m0, m_tear h1 (r_tear rg).2.1.2 rg (fun M2 h2 => ⟨fun _ => nx Λ M2 _ gc gs rfl rfl h2 ((r_tear rg).mono (by omega)) ((k_tear rg).rz rz) bd.nx, fun c => absurd rfl c⟩)⟩)⟩
theorem l_421 (h : Inv Λ M σ σ) (rg : Rg σ k) (rz : Rz σ) (hk : k < 512) (bd : bud k gc gs) (hv : ∀ j, j ≤ 6 → vp_in (x3 + nI j) L) (nx : Nx b Λ k x3 K18) : B_L_law_421 b L xs K18 b (some (Λ 0)) (some (Λ 400)) x3 gc gs M :=
  ⟨rfl, hv 1 (by omega), rfl, hv 2 (by omega), rfl, hv 3 (by omega), rfl, hv 4 (by omega), rfl, hv 5 (by omega), rfl, hv 6 (by omega), Λ 0, rfl, h.o0, x_copy h rg (fun M1 h1 => ⟨rfl, hv 1 (by omega), rfl, hv 2 (by omega), rfl, hv 3 (by omega), rfl, hv 4 (by omega), rfl, hv 5 (by omega), rfl, hv 6 (by omega), Λ 400, rfl, h1.m0, m_copy h1 (rg_copy rg).2.1.2 rg (fun M2 h2 => ⟨fun _ => nx Λ M2 _ gc gs rfl rfl h2 ((rg_copy rg).mono (by omega)) ((k_copy rg).rz rz) bd.nx, fun c => absurd rfl c⟩)⟩)⟩
theorem l_496 (h : Inv Λ M σ σ) (rg : Rg σ k) (rz : Rz σ) (hk : k < 512) (bd : bud k gc gs) (hv : ∀ j, j ≤ 6 → vp_in (x3 + nI j) L) (nx : Nx b Λ k x3 K18) : B_L_law_496 b L xs K18 b (some (Λ 0)) (some (Λ 400)) x3 gc gs M :=
  ⟨rfl, hv 1 (by omega), rfl, hv 2 (by omega), rfl, hv 3 (by omega), Λ 0, rfl, h.o0, x_rank h rg (fun M1 h1 => ⟨rfl, hv 1 (by omega), rfl, hv 2 (by omega), rfl, hv 3 (by omega), Λ 400, rfl, h1.m0, m_rank h1 (r_rank rg).2.1.2 rg (fun M2 h2 => ⟨fun _ => nx Λ M2 _ gc gs rfl rfl h2 ((r_rank rg).mono (by omega)) ((k_rank _ _ _ _).rz rz) bd.nx, fun c => absurd rfl c⟩)⟩)⟩
theorem l_539 (h : Inv Λ M σ σ) (rg : Rg σ k) (rz : Rz σ) (hk : k < 512) (bd : bud k gc gs) (hv : ∀ j, j ≤ 6 → vp_in (x3 + nI j) L) (nx : Nx b Λ k x3 K18) : B_L_law_539 b L xs K18 b (some (Λ 0)) (some (Λ 400)) x3 gc gs M :=
  ⟨rfl, hv 1 (by omega), rfl, hv 2 (by omega), Λ 0, rfl, h.o0, x_mean h rg (fun M1 h1 => ⟨rfl, hv 1 (by omega), rfl, hv 2 (by omega), Λ 400, rfl, h1.m0, m_mean h1 (r_mean rg).2.1.2 rg (fun M2 h2 => ⟨fun _ => nx Λ M2 _ gc gs rfl rfl h2 ((r_mean rg).mono (by omega)) ((k_mean _ _ _).rz rz) bd.nx, fun c => absurd rfl c⟩)⟩)⟩
theorem l_572 (h : Inv Λ M σ σ) (rg : Rg σ k) (rz : Rz σ) (hk : k < 512) (bd : bud k gc gs) (hv : ∀ j, j ≤ 6 → vp_in (x3 + nI j) L) (nx : Nx b Λ k x3 K18) : B_L_law_572 b L xs K18 b (some (Λ 0)) (some (Λ 400)) x3 gc gs M :=
  ⟨rfl, hv 1 (by omega), Λ 0, rfl, h.o0, x_price h (fun M1 h1 => ⟨rfl, hv 1 (by omega), Λ 400, rfl, h1.m0, m_price h1 (r_set rg (Or.inl ⟨rfl, rfl⟩)).2.1.2 (fun M2 h2 => ⟨fun _ => nx Λ M2 _ gc gs rfl rfl h2 ((r_set rg (Or.inl ⟨rfl, rfl⟩)).mono (by omega)) ((k_set _ _ _ _ (by omega)).rz rz) bd.nx, fun c => absurd rfl c⟩)⟩)⟩
theorem l_595 (h : Inv Λ M σ σ) (rg : Rg σ k) (rz : Rz σ) (hk : k < 512) (bd : bud k gc gs) (hv : ∀ j, j ≤ 6 → vp_in (x3 + nI j) L) (nx : Nx b Λ k x3 K18) : B_L_law_595 b L xs K18 b (some (Λ 0)) (some (Λ 400)) x3 gc gs M :=
  ⟨rfl, hv 1 (by omega), rfl, hv 2 (by omega), Λ 0, rfl, h.o0, x_cuts h rg (fun M1 h1 => ⟨rfl, hv 1 (by omega), rfl, hv 2 (by omega), Λ 400, rfl, h1.m0, m_cuts h1 (r_cuts rg).2.1.2 rg (fun M2 h2 => ⟨fun _ => nx Λ M2 _ gc gs rfl rfl h2 ((r_cuts rg).mono (by omega)) ((k_cuts _ _ _).rz rz) bd.nx, fun c => absurd rfl c⟩)⟩)⟩
theorem l_628 (h : Inv Λ M σ σ) (rg : Rg σ k) (rz : Rz σ) (hk : k < 512) (bd : bud k gc gs) (hv : ∀ j, j ≤ 6 → vp_in (x3 + nI j) L) (nx : Nx b Λ k x3 K18) : B_L_law_628 b L xs K18 b (some (Λ 0)) (some (Λ 400)) x3 gc gs M :=
  ⟨rfl, hv 1 (by omega), rfl, hv 2 (by omega), rfl, hv 3 (by omega), Λ 0, rfl, h.o0, x_cut h rg (fun M1 h1 => ⟨rfl, hv 1 (by omega), rfl, hv 2 (by omega), rfl, hv 3 (by omega), Λ 400, rfl, h1.m0, m_cut h1 (r_cut rg).2.1.2 rg (fun M2 h2 => ⟨fun _ => nx Λ M2 _ gc gs rfl rfl h2 ((r_cut rg).mono (by omega)) ((k_cut _ _ _ _).rz rz) bd.nx, fun c => absurd rfl c⟩)⟩)⟩
theorem l_671 (h : Inv Λ M σ σ) (rg : Rg σ k) (rz : Rz σ) (hk : k < 512) (bd : bud k gc gs) (hv : ∀ j, j ≤ 6 → vp_in (x3 + nI j) L) (nx : Nx b Λ k x3 K18) : B_L_law_671 b L xs K18 b (some (Λ 0)) (some (Λ 400)) x3 gc gs M :=
  ⟨rfl, hv 1 (by omega), rfl, hv 2 (by omega), rfl, hv 3 (by omega), Λ 0, rfl, h.o0, x_middle h rg (fun M1 h1 => ⟨rfl, hv 1 (by omega), rfl, hv 2 (by omega), rfl, hv 3 (by omega), Λ 400, rfl, h1.m0, m_middle h1 (r_middle rg).2.1.2 rg (fun M2 h2 => ⟨fun _ => nx Λ M2 _ gc gs rfl rfl h2 ((r_middle rg).mono (by omega)) ((k_middle _ _ _ _).rz rz) bd.nx, fun c => absurd rfl c⟩)⟩)⟩
theorem l_714 (h : Inv Λ M σ σ) (rg : Rg σ k) (rz : Rz σ) (hk : k < 512) (bd : bud k gc gs) (hv : ∀ j, j ≤ 6 → vp_in (x3 + nI j) L) (nx : Nx b Λ k x3 K18) : B_L_law_714 b L xs K18 b (some (Λ 0)) (some (Λ 400)) x3 gc gs M :=
  ⟨rfl, hv 1 (by omega), rfl, hv 2 (by omega), rfl, hv 3 (by omega), Λ 0, rfl, h.o0, x_size h rg (fun M1 h1 => ⟨rfl, hv 1 (by omega), rfl, hv 2 (by omega), rfl, hv 3 (by omega), Λ 400, rfl, h1.m0, m_size h1 (r_size rg).2.1.2 rg (fun M2 h2 => ⟨fun _ => nx Λ M2 _ gc gs rfl rfl h2 ((r_size rg).mono (by omega)) ((k_size _ _ _ _).rz rz) bd.nx, fun c => absurd rfl c⟩)⟩)⟩
theorem l_757 (h : Inv Λ M σ σ) (rg : Rg σ k) (rz : Rz σ) (hk : k < 512) (bd : bud k gc gs) (hv : ∀ j, j ≤ 6 → vp_in (x3 + nI j) L) (nx : Nx b Λ k x3 K18) : B_L_law_757 b L xs K18 b (some (Λ 0)) (some (Λ 400)) x3 gc gs M :=
  ⟨rfl, hv 1 (by omega), Λ 0, rfl, h.o0, x_reach h (fun M1 h1 => ⟨rfl, hv 1 (by omega), Λ 400, rfl, h1.m0, m_reach h1 (r_set rg (Or.inr ⟨rfl, rfl⟩)).2.1.2 (fun M2 h2 => ⟨fun _ => nx Λ M2 _ gc gs rfl rfl h2 ((r_set rg (Or.inr ⟨rfl, rfl⟩)).mono (by omega)) ((k_set _ _ _ _ (by omega)).rz rz) bd.nx, fun c => absurd rfl c⟩)⟩)⟩
theorem l_780 (h : Inv Λ M σ σ) (rg : Rg σ k) (rz : Rz σ) (hk : k < 512) (bd : bud k gc gs) (hv : ∀ j, j ≤ 6 → vp_in (x3 + nI j) L) (nx : Nx b Λ k x3 K18) : B_L_law_780 b L xs K18 b (some (Λ 0)) (some (Λ 400)) x3 gc gs M :=
  ⟨rfl, hv 1 (by omega), rfl, hv 2 (by omega), rfl, hv 3 (by omega), Λ 0, rfl, h.o0, x_ownC h rg (fun M1 h1 => ⟨rfl, hv 1 (by omega), rfl, hv 2 (by omega), rfl, hv 3 (by omega), Λ 400, rfl, h1.m0, m_own h1 (r_own rg).2.1.2 rg (fun M2 h2 => ⟨fun _ => nx Λ M2 _ gc gs rfl rfl h2 ((r_own rg).mono (by omega)) ((k_own _ _ _ _).rz rz) bd.nx, fun c => absurd rfl c⟩)⟩)⟩
theorem l_823 (h : Inv Λ M σ σ) (rg : Rg σ k) (rz : Rz σ) (hk : k < 512) (bd : bud k gc gs) (hv : ∀ j, j ≤ 6 → vp_in (x3 + nI j) L) (nx : Nx b Λ k x3 K18) : B_L_law_823 b L xs K18 b (some (Λ 0)) (some (Λ 400)) x3 gc gs M :=
  ⟨rfl, hv 1 (by omega), rfl, hv 2 (by omega), rfl, hv 3 (by omega), Λ 0, rfl, h.o0, x_undone h rg (fun M1 h1 => ⟨rfl, hv 1 (by omega), rfl, hv 2 (by omega), rfl, hv 3 (by omega), Λ 400, rfl, h1.m0, m_undone h1 (r_undone rg).2.1.2 rg (fun M2 h2 => ⟨fun _ => nx Λ M2 _ gc gs rfl rfl h2 ((r_undone rg).mono (by omega)) ((k_undone _ _ _ _).rz rz) bd.nx, fun c => absurd rfl c⟩)⟩)⟩
theorem l_866 (h : Inv Λ M σ σ) (rg : Rg σ k) (rz : Rz σ) (hk : k < 512) (bd : bud k gc gs) (hv : ∀ j, j ≤ 6 → vp_in (x3 + nI j) L) (nx : Nx b Λ k x3 K18) : B_L_law_866 b L xs K18 b (some (Λ 0)) (some (Λ 400)) x3 gc gs M := by
  obtain ⟨p1, p2, p3⟩ := bd.pay hk
  have r1 := r_odds (x := xs (Int32.toNatClampNeg (x3 + 1))) (y := xs (Int32.toNatClampNeg (x3 + 2))) (i := xs (Int32.toNatClampNeg (x3 + 3))) rg
  refine ⟨rfl, hv 1 (by omega), rfl, hv 2 (by omega), rfl, hv 3 (by omega), Λ 0, rfl, h.o0, 30, 8594, p1, p2, x_odds h rg (fun _ => ⟨by omega, by omega⟩) (fun Λ1 M1 ag h1 => ?_)⟩
  have e0 : Λ1 0 = Λ 0 := ag 0 (u0 _)
  have e4 : Λ1 400 = Λ 400 := ag 400 (Or.inr (by omega))
  refine ⟨rfl, hv 1 (by omega), rfl, hv 2 (by omega), rfl, hv 3 (by omega), Λ 400, rfl, by rw [← e4]; exact h1.m0, ?_⟩
  rw [← e4]
  refine m_odds h1 r1.2.1.2 rg (fun M2 h2 => ⟨fun _ => ?_, fun c => absurd rfl c⟩)
  have q := nx Λ1 M2 _ (gc - 30) (gs - 8594) e0 e4 h2 (r1.mono (by omega)) ((k_odds _ _ _ _).rz rz) p3
  rw [← e4] at q
  exact q
theorem l_909 (h : Inv Λ M σ σ) (rg : Rg σ k) (rz : Rz σ) (hk : k < 512) (bd : bud k gc gs) (hv : ∀ j, j ≤ 6 → vp_in (x3 + nI j) L) (nx : Nx b Λ k x3 K18) : B_L_law_909 b L xs K18 b (some (Λ 0)) (some (Λ 400)) x3 gc gs M := by
  obtain ⟨p1, p2, p3⟩ := bd.pay hk
  have r1 := r_cry (s := xs (Int32.toNatClampNeg (x3 + 1))) (u := xs (Int32.toNatClampNeg (x3 + 2))) (l := xs (Int32.toNatClampNeg (x3 + 3))) rg
  refine ⟨rfl, hv 1 (by omega), rfl, hv 2 (by omega), rfl, hv 3 (by omega), Λ 0, rfl, h.o0, 30, 8594, p1, p2, x_cry h rg (by omega) (fun _ => ⟨by omega, by omega⟩) (fun Λ1 M1 ag h1 => ?_)⟩
  have e0 : Λ1 0 = Λ 0 := ag 0 (u0 _)
  have e4 : Λ1 400 = Λ 400 := ag 400 (Or.inr (by omega))
  refine ⟨rfl, hv 1 (by omega), rfl, hv 2 (by omega), rfl, hv 3 (by omega), Λ 400, rfl, by rw [← e4]; exact h1.m0, ?_⟩
  rw [← e4]
  refine m_cry h1 r1.2.1.2 rg (by omega) (fun M2 h2 => ⟨fun _ => ?_, fun c => absurd rfl c⟩)
  have q := nx Λ1 M2 _ (gc - 30) (gs - 8594) e0 e4 h2 r1 (rz_cry rg rz) p3
  rw [← e4] at q
  exact q
theorem l_952 (h : Inv Λ M σ σ) (rg : Rg σ k) (rz : Rz σ) (hk : k < 512) (bd : bud k gc gs) (hv : ∀ j, j ≤ 6 → vp_in (x3 + nI j) L) (nx : Nx b Λ k x3 K18) : B_L_law_952 b L xs K18 b (some (Λ 0)) (some (Λ 400)) x3 gc gs M :=
  ⟨rfl, hv 1 (by omega), Λ 0, rfl, h.o0, x_cried h ⟨rfl, hv 1 (by omega), Λ 400, rfl, h.m0, m_cried h rg (by omega) ⟨fun _ => nx Λ M σ gc gs rfl rfl h (rg.mono (by omega)) rz bd.nx, fun c => absurd rfl c⟩⟩⟩
theorem l_975 (h : Inv Λ M σ σ) (rg : Rg σ k) (rz : Rz σ) (hk : k < 512) (bd : bud k gc gs) (hv : ∀ j, j ≤ 6 → vp_in (x3 + nI j) L) (nx : Nx b Λ k x3 K18) : B_L_law_975 b L xs K18 b (some (Λ 0)) (some (Λ 400)) x3 gc gs M :=
  ⟨rfl, hv 1 (by omega), rfl, hv 2 (by omega), rfl, hv 3 (by omega), Λ 0, rfl, h.o0, x_halve h rg (fun M1 h1 => ⟨rfl, hv 1 (by omega), rfl, hv 2 (by omega), rfl, hv 3 (by omega), Λ 400, rfl, h1.m0, m_halve h1 (r_halve rg).2.1.2 rg (fun M2 h2 => ⟨fun _ => nx Λ M2 _ gc gs rfl rfl h2 ((r_halve rg).mono (by omega)) ((k_halve _ _ _ _).rz rz) bd.nx, fun c => absurd rfl c⟩)⟩)⟩
theorem l_1018 (h : Inv Λ M σ σ) (rg : Rg σ k) (rz : Rz σ) (hk : k < 512) (bd : bud k gc gs) (hv : ∀ j, j ≤ 6 → vp_in (x3 + nI j) L) (nx : Nx b Λ k x3 K18) : B_L_law_1018 b L xs K18 b (some (Λ 0)) (some (Λ 400)) x3 gc gs M :=
  ⟨Λ 0, rfl, h.o0, x_asks h ⟨Λ 400, rfl, h.m0, m_asks h rg ⟨fun _ => nx Λ M σ gc gs rfl rfl h (rg.mono (by omega)) rz bd.nx, fun c => absurd rfl c⟩⟩⟩
theorem l_1070 (h : Inv Λ M σ σ) (rg : Rg σ k) (rz : Rz σ) (hk : k < 512) (bd : bud k gc gs) (hv : ∀ j, j ≤ 6 → vp_in (x3 + nI j) L) (nx : Nx b Λ k x3 K18) : B_L_law_1070 b L xs K18 b (some (Λ 0)) (some (Λ 400)) x3 gc gs M :=
  ⟨Λ 0, rfl, h.o0, x_found h ⟨Λ 400, rfl, h.m0, m_found h rg ⟨fun _ => nx Λ M σ gc gs rfl rfl h (rg.mono (by omega)) rz bd.nx, fun c => absurd rfl c⟩⟩⟩
theorem l_1083 (h : Inv Λ M σ σ) (rg : Rg σ k) (rz : Rz σ) (hk : k < 512) (bd : bud k gc gs) (hv : ∀ j, j ≤ 6 → vp_in (x3 + nI j) L) (nx : Nx b Λ k x3 K18) : B_L_law_1083 b L xs K18 b (some (Λ 0)) (some (Λ 400)) x3 gc gs M :=
  ⟨Λ 0, rfl, h.o0, x_reruns h ⟨Λ 400, rfl, h.m0, m_reruns h ⟨fun _ => nx Λ M σ gc gs rfl rfl h (rg.mono (by omega)) rz bd.nx, fun c => absurd rfl c⟩⟩⟩
theorem l_1096 (h : Inv Λ M σ σ) (rg : Rg σ k) (rz : Rz σ) (hk : k < 512) (bd : bud k gc gs) (hv : ∀ j, j ≤ 6 → vp_in (x3 + nI j) L) (nx : Nx b Λ k x3 K18) : B_L_law_1096 b L xs K18 b (some (Λ 0)) (some (Λ 400)) x3 gc gs M :=
  ⟨Λ 0, rfl, h.o0, x_upper h ⟨Λ 400, rfl, h.m0, m_upper h ⟨fun _ => nx Λ M σ gc gs rfl rfl h (rg.mono (by omega)) rz bd.nx, fun c => absurd (lg_self _) c⟩⟩⟩
theorem l_1110 (h : Inv Λ M σ σ) (rg : Rg σ k) (rz : Rz σ) (hk : k < 512) (bd : bud k gc gs) (hv : ∀ j, j ≤ 6 → vp_in (x3 + nI j) L) (nx : Nx b Λ k x3 K18) : B_L_law_1110 b L xs K18 b (some (Λ 0)) (some (Λ 400)) x3 gc gs M :=
  ⟨Λ 0, rfl, h.o0, x_lower h ⟨Λ 400, rfl, h.m0, m_lower h ⟨fun _ => nx Λ M σ gc gs rfl rfl h (rg.mono (by omega)) rz bd.nx, fun c => absurd (lg_self _) c⟩⟩⟩
theorem l_1124 (h : Inv Λ M σ σ) (rg : Rg σ k) (rz : Rz σ) (hk : k < 512) (bd : bud k gc gs) (hv : ∀ j, j ≤ 6 → vp_in (x3 + nI j) L) (nx : Nx b Λ k x3 K18) : B_L_law_1124 b L xs K18 b (some (Λ 0)) (some (Λ 400)) x3 gc gs M :=
  ⟨Λ 0, rfl, h.o0, x_asked h ⟨Λ 400, rfl, h.m0, m_asked h ⟨fun _ => nx Λ M σ gc gs rfl rfl h (rg.mono (by omega)) rz bd.nx, fun c => absurd (lg_self _) c⟩⟩⟩
theorem l_1138 (h : Inv Λ M σ σ) (rg : Rg σ k) (rz : Rz σ) (hk : k < 512) (bd : bud k gc gs) (hv : ∀ j, j ≤ 6 → vp_in (x3 + nI j) L) (nx : Nx b Λ k x3 K18) : B_L_law_1138 b L xs K18 b (some (Λ 0)) (some (Λ 400)) x3 gc gs M :=
  ⟨rfl, hv 1 (by omega), Λ 0, rfl, h.o0, x_count h rg ⟨rfl, hv 1 (by omega), Λ 400, rfl, h.m0, m_count h ⟨fun _ => nx Λ M σ gc gs rfl rfl h (rg.mono (by omega)) rz bd.nx, fun c => absurd rfl c⟩⟩⟩
theorem l_1161 (h : Inv Λ M σ σ) (rg : Rg σ k) (rz : Rz σ) (hk : k < 512) (bd : bud k gc gs) (hv : ∀ j, j ≤ 6 → vp_in (x3 + nI j) L) (nx : Nx b Λ k x3 K18) : B_L_law_1161 b L xs K18 b (some (Λ 0)) (some (Λ 400)) x3 gc gs M :=
  ⟨Λ 0, rfl, h.o0, x_finding h ⟨Λ 400, rfl, h.m0, m_finding h ⟨fun _ => nx Λ M σ gc gs rfl rfl h (rg.mono (by omega)) rz bd.nx, fun c => absurd rfl c⟩⟩⟩
theorem l_1174 (h : Inv Λ M σ σ) (rg : Rg σ k) (rz : Rz σ) (hk : k < 512) (bd : bud k gc gs) (hv : ∀ j, j ≤ 6 → vp_in (x3 + nI j) L) (nx : Nx b Λ k x3 K18) : B_L_law_1174 b L xs K18 b (some (Λ 0)) (some (Λ 400)) x3 gc gs M :=
  ⟨rfl, hv 1 (by omega), Λ 0, rfl, h.o0, x_findings h ⟨rfl, hv 1 (by omega), Λ 400, rfl, h.m0, m_findings h ⟨fun _ => nx Λ M σ gc gs rfl rfl h (rg.mono (by omega)) rz bd.nx, fun c => absurd rfl c⟩⟩⟩
theorem l_1197 (h : Inv Λ M σ σ) (rg : Rg σ k) (rz : Rz σ) (hk : k < 512) (bd : bud k gc gs) (hv : ∀ j, j ≤ 6 → vp_in (x3 + nI j) L) (nx : Nx b Λ k x3 K18) : B_L_law_1197 b L xs K18 b (some (Λ 0)) (some (Λ 400)) x3 gc gs M :=
  ⟨Λ 0, rfl, h.o0, x_digest h rg ⟨Λ 400, rfl, h.m0, m_digest h rg ⟨fun _ => nx Λ M σ gc gs rfl rfl h (rg.mono (by omega)) rz bd.nx, fun c => absurd (lg_self _) c⟩⟩⟩
theorem l_1031 (h : Inv Λ M σ σ) (rg : Rg σ k) (rz : Rz σ) (hk : k < 512) (bd : bud k gc gs) (hv : ∀ j, j ≤ 6 → vp_in (x3 + nI j) L) (nx : Nx b Λ k x3 K18) : B_L_law_1031 b L xs K18 b (some (Λ 0)) (some (Λ 400)) x3 gc gs M := by
  have go : ∀ v : Int32, (xs (Int32.toNatClampNeg (x3 + (1 : Int32))) = 0 ∧ v = 0) ∨ (¬ xs (Int32.toNatClampNeg (x3 + (1 : Int32))) = 0 ∧ v = 1) → B_L_law_1045 b L xs K18 b (some (Λ 0)) (some (Λ 400)) x3 (some (Λ 0)) v gc gs M := by
    intro v hvv
    have en : ∀ M1, Inv Λ M1 (s_rerun σ v).2 σ → B_L_law_1062 b L xs K18 b (some (Λ 0)) (some (Λ 400)) x3 (s_rerun σ v).1 (some (Λ 400)) v gc gs M1 := fun M1 h1 =>
      ⟨Λ 400, rfl, h1.m0, m_rerun h1 (r_rerun rg).2.1.2 rg (fun M2 h2 => ⟨fun _ => nx Λ M2 _ gc gs rfl rfl h2 ((r_rerun rg).mono (by omega)) ((k_rerun _ _).rz rz) bd.nx, fun c => absurd rfl c⟩)⟩
    refine ⟨Λ 0, rfl, h.o0, x_rerun h rg (fun M1 h1 => ⟨rfl, hv 1 (by omega), ?_⟩)⟩
    rcases hvv with ⟨e1, e2⟩ | ⟨e1, e2⟩
    · subst e2; exact ⟨fun _ => en M1 h1, fun c => absurd e1 c⟩
    · subst e2; exact ⟨fun c => absurd c e1, fun _ => en M1 h1⟩
  exact ⟨rfl, hv 1 (by omega), fun c => go 0 (Or.inl ⟨c, rfl⟩), fun c => go 1 (Or.inr ⟨c, rfl⟩)⟩
end LW
