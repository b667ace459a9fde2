/-! PURE, 41: the two constructors; the start -/
def csX : L3 := [(9, 2, 0), (8, 7, 40), (7, 7, 40), (6, 7, 40), (5, 7, 40), (4, 1, 0), (3, 7, 300), (2, 7, 6), (1, 11, 8), (0, 5, 0)]
def rsX : L3 := [(0, 4, 9), (0, 3, 4), (4, 3, 8), (4, 2, 7), (4, 1, 6), (4, 0, 5), (0, 2, 3), (0, 1, 2), (0, 0, 1)]
def n0X : Nat → Int32 := upd (upd (fun _ => 0) 8 20) 9 1
theorem x_init {U : Nat → Prop} {Λ0 Λ : Nat → Nat} {B M : Mm} {Q : Mm → Prop} {gc gs q : Nat} (h : Sh U Λ0 B 0 Λ M [(0, 5, 0)] [] (fun _ _ => 0) (fun _ _ => 0)) (e : Λ (0 + 0) = q) (hU : ∀ j, ¬ U (0 + j)) (g1 : 9 ≤ gc) (g2 : 485 ≤ gs)
    (hQ : ∀ Λ' M', Sh U Λ0 B 0 Λ' M' csX rsX (uf (uf (fun _ _ => 0) 0 (upd (fun _ => 0) 8 20)) 0 n0X) (ug (fun _ _ => 0) 0 (vp_updL (fun _ => 0) 13 1)) → Λ' (0 + 0) = q → Q M') : B_X5_init_0 Q q gc gs M := by
  unfold B_X5_init_0
  refine mk_step 0 1 0 h e (by decide) (by decide) (hU 1) (by decide) rfl rfl (fun Λ1 M1 s1 e1 _ => ?_) (by omega) (by omega)
  refine mk_step 0 2 0 s1 e1 (by decide) (by decide) (hU 2) (by decide) rfl rfl (fun Λ2 M2 s2 e2 _ => ?_) (by omega) (by omega)
  refine mk_step 0 3 0 s2 e2 (by decide) (by decide) (hU 3) (by decide) rfl rfl (fun Λ3 M3 s3 e3 _ => ?_) (by omega) (by omega)
  refine ⟨by omega, by omega, fun q4 hq4 => ?_⟩
  rintro _ rfl
  obtain ⟨Λ4, s4, e4, k4⟩ := s3.new (c := 4) (kd := 1) (n := 0) (by decide) (hU 4) hq4 rfl rfl
  refine ⟨4, 160, by omega, by omega, ?_⟩
  unfold B_X1_init_0
  refine mk_step 4 5 0 s4 e4 (by decide) (by decide) (hU 5) (by decide) rfl rfl (fun Λ5 M5 s5 e5 k5 => ?_) (by omega) (by omega)
  refine mk_step 4 6 0 s5 e5 (by decide) (by decide) (hU 6) (by decide) rfl rfl (fun Λ6 M6 s6 e6 k6 => ?_) (by omega) (by omega)
  refine mk_step 4 7 0 s6 e6 (by decide) (by decide) (hU 7) (by decide) rfl rfl (fun Λ7 M7 s7 e7 k7 => ?_) (by omega) (by omega)
  refine mk_step 4 8 0 s7 e7 (by decide) (by decide) (hU 8) (by decide) rfl rfl (fun Λ8 M8 s8 e8 k8 => ?_) (by omega) (by omega)
  have f8 : Λ8 (0 + 0) = q := by rw [k8 0 (by decide), k7 0 (by decide), k6 0 (by decide), k5 0 (by decide), k4 0 (by decide)]; exact e3
  refine ⟨by rw [← f8]; exact (s8.cell (c := 0) (kd := 5) (n := 0) (by decide)).1, ?_⟩
  rintro _ rfl
  have s9 := s8.setR (p := 0) (k := 3) (c := 4) f8 e8 (by decide) (by decide) (by decide)
  refine ⟨by omega, by omega, fun q9 hq9 => ?_⟩
  rintro _ rfl
  obtain ⟨Λ9, s10, e10, k10⟩ := s9.new (c := 9) (kd := 2) (n := 0) (by decide) (hU 9) hq9 rfl rfl
  have f9 : Λ9 (0 + 0) = q := (k10 0 (by decide)).trans f8
  unfold B_X2_init_0
  refine ⟨by rw [← f9]; exact (s10.cell (c := 0) (kd := 5) (n := 0) (by decide)).1, ?_⟩
  rintro _ rfl
  have s11 := s10.setR (p := 0) (k := 4) (c := 9) f9 e10 (by decide) (by decide) (by decide)
  rintro _ rfl _ rfl _ rfl
  exact hQ Λ9 _ (((s11.setI 8 20 f9 (by decide)).setI 9 1 f9 (by decide)).setJ 13 1 f9 (by decide)) f9
def csM : L3 := [(19, 9, 1280), (18, 7, 300), (17, 8, 35700), (16, 9, 40), (15, 7, 40), (14, 7, 40), (13, 7, 40), (12, 7, 41), (11, 7, 41), (10, 7, 41), (9, 7, 41), (8, 7, 40), (7, 7, 40), (6, 7, 40), (5, 7, 40), (4, 7, 1280), (3, 9, 32), (2, 7, 8), (1, 7, 6), (0, 6, 0)]
def rsM : L3 := [(0, 32, 19), (0, 31, 18), (0, 29, 17), (0, 24, 16), (0, 23, 15), (0, 21, 14), (0, 20, 13), (0, 19, 12), (0, 17, 11), (0, 16, 10), (0, 15, 9), (0, 12, 8), (0, 11, 7), (0, 10, 6), (0, 8, 5), (0, 7, 4), (0, 6, 3), (0, 5, 2), (0, 1, 1)]
def n0M : Nat → Int32 := upd (upd (fun _ => 0) 13 20) 14 1
set_option maxRecDepth 10000 in
theorem m_init {U : Nat → Prop} {Λ0 Λ : Nat → Nat} {B M : Mm} {Q : Mm → Prop} {gc gs q : Nat} (h : Sh U Λ0 B 400 Λ M [(0, 6, 0)] [] (fun _ _ => 0) (fun _ _ => 0)) (e : Λ (400 + 0) = q) (hU : ∀ j, ¬ U (400 + j)) (g1 : 20 ≤ gc) (g2 : 50000 ≤ gs)
    (hQ : ∀ Λ' M', Sh U Λ0 B 400 Λ' M' csM rsM (uf (uf (fun _ _ => 0) 0 (upd (fun _ => 0) 13 20)) 0 n0M) (ug (fun _ _ => 0) 0 (vp_updL (fun _ => 0) 28 1)) → Λ' (400 + 0) = q → Q M') : B_X6_init_0 Q q gc gs M := by
  unfold B_X6_init_0
  refine mk_step 0 1 0 h e (by decide) (by decide) (hU 1) (by decide) rfl rfl (fun Λ1 M1 s1 e1 _ => ?_) (by omega) (by omega)
  refine mk_step 0 2 0 s1 e1 (by decide) (by decide) (hU 2) (by decide) rfl rfl (fun Λ2 M2 s2 e2 _ => ?_) (by omega) (by omega)
  refine mk_step 0 3 0 s2 e2 (by decide) (by decide) (hU 3) (by decide) rfl rfl (fun Λ3 M3 s3 e3 _ => ?_) (by omega) (by omega)
  refine mk_step 0 4 0 s3 e3 (by decide) (by decide) (hU 4) (by decide) rfl rfl (fun Λ4 M4 s4 e4 _ => ?_) (by omega) (by omega)
  refine mk_step 0 5 0 s4 e4 (by decide) (by decide) (hU 5) (by decide) rfl rfl (fun Λ5 M5 s5 e5 _ => ?_) (by omega) (by omega)
  refine mk_step 0 6 0 s5 e5 (by decide) (by decide) (hU 6) (by decide) rfl rfl (fun Λ6 M6 s6 e6 _ => ?_) (by omega) (by omega)
  refine mk_step 0 7 0 s6 e6 (by decide) (by decide) (hU 7) (by decide) rfl rfl (fun Λ7 M7 s7 e7 _ => ?_) (by omega) (by omega)
  refine mk_step 0 8 0 s7 e7 (by decide) (by decide) (hU 8) (by decide) rfl rfl (fun Λ8 M8 s8 e8 _ => ?_) (by omega) (by omega)
  refine mk_step 0 9 0 s8 e8 (by decide) (by decide) (hU 9) (by decide) rfl rfl (fun Λ9 M9 s9 e9 _ => ?_) (by omega) (by omega)
  refine mk_step 0 10 0 s9 e9 (by decide) (by decide) (hU 10) (by decide) rfl rfl (fun Λ10 M10 s10 e10 _ => ?_) (by omega) (by omega)
  refine mk_step 0 11 0 s10 e10 (by decide) (by decide) (hU 11) (by decide) rfl rfl (fun Λ11 M11 s11 e11 _ => ?_) (by omega) (by omega)
  refine mk_step 0 12 0 s11 e11 (by decide) (by decide) (hU 12) (by decide) rfl rfl (fun Λ12 M12 s12 e12 _ => ?_) (by omega) (by omega)
  refine mk_step 0 13 0 s12 e12 (by decide) (by decide) (hU 13) (by decide) rfl rfl (fun Λ13 M13 s13 e13 _ => ?_) (by omega) (by omega)
  refine mk_step 0 14 0 s13 e13 (by decide) (by decide) (hU 14) (by decide) rfl rfl (fun Λ14 M14 s14 e14 _ => ?_) (by omega) (by omega)
  refine mk_step 0 15 0 s14 e14 (by decide) (by decide) (hU 15) (by decide) rfl rfl (fun Λ15 M15 s15 e15 _ => ?_) (by omega) (by omega)
  refine mk_step 0 16 0 s15 e15 (by decide) (by decide) (hU 16) (by decide) rfl rfl (fun Λ16 M16 s16 e16 _ => ?_) (by omega) (by omega)
  refine mk_step 0 17 0 s16 e16 (by decide) (by decide) (hU 17) (by decide) rfl rfl (fun Λ17 M17 s17 e17 _ => ?_) (by omega) (by omega)
  refine mk_step 0 18 0 s17 e17 (by decide) (by decide) (hU 18) (by decide) rfl rfl (fun Λ18 M18 s18 e18 _ => ?_) (by omega) (by omega)
  refine mk_step 0 19 0 s18 e18 (by decide) (by decide) (hU 19) (by decide) rfl rfl (fun Λ19 M19 s19 e19 _ => ?_) (by omega) (by omega)
  rintro _ rfl _ rfl _ rfl
  exact hQ Λ19 _ (((s19.setI 13 20 e19 (by decide)).setI 14 1 e19 (by decide)).setJ 28 1 e19 (by decide)) e19
