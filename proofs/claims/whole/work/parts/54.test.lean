/-! PURE, 34: the call test -/
def fil0 : Nat → Int32 := fil (fun _ => 0)
def csR (r : Nat) (cs : L3) : L3 := (r + 6, 7, 40) :: (r + 5, 7, 40) :: (r + 4, 7, 41) :: (r + 3, 7, 40) :: (r + 2, 7, 40) :: (r + 1, 7, 40) :: (r, 3, 0) :: cs
def rsR (r : Nat) (rs : L3) : L3 := (r, 12, r + 6) :: (r, 11, r + 5) :: (r, 10, r + 4) :: (r, 8, r + 3) :: (r, 7, r + 2) :: (r, 0, r + 1) :: rs
def fR (r : Nat) (f : Nat → Nat → Int32) : Nat → Nat → Int32 := uf (uf f r (upd (f r) 3 1)) (r + 1) fil0
theorem x_row_init {U : Nat → Prop} {Λ0 Λ : Nat → Nat} {B M : Mm} {o : Nat} {cs rs : L3} {f : Nat → Nat → Int32} {g : Nat → Nat → Int64} {Q : Mm → Prop} {gc gs q : Nat} (r : Nat) (h : Sh U Λ0 B o Λ M ((r, 3, 0) :: cs) rs f g) (e : Λ (o + r) = q) (hcs : ∀ j, j < 7 → r + j ∉ hd3 cs) (hU : ∀ j, j < 7 → ¬ U (o + (r + j))) (hrs : ∀ x ∈ rs, x.1 ≠ r) (hf : ∀ j, j < 7 → f (r + j) = fun _ => 0) (hg : ∀ j, j < 7 → g (r + j) = fun _ => 0) (h1 : 6 ≤ gc) (h2 : 241 ≤ gs)
    (hQ : ∀ Λ' M', Sh U Λ0 B o Λ' M' (csR r cs) (rsR r rs) (fR r f) g → (∀ d, d ∈ hd3 ((r, 3, 0) :: cs) → Λ' (o + d) = Λ (o + d)) → Q M') : B_X3_init_0 Q q gc gs M := by
  have nr : ∀ k, ∀ x ∈ rs, ¬ (x.1 = r ∧ x.2.1 = k) := fun k x hx z => hrs x hx z.1
  have f1 : ∀ j, 0 < j → j < 7 → uf f r (upd (f r) 3 1) (r + j) = fun _ => 0 := fun j j0 j7 => by rw [uf_ne _ _ (by omega)]; exact hf j j7
  unfold B_X3_init_0
  refine mk_step r (r + 1) 0 h e (List.mem_cons_self) (hd3_cons (by dsimp only; omega) (hcs 1 (by omega))) (hU 1 (by omega)) (nr _) (hf 1 (by omega)) (hg 1 (by omega)) (fun Λ1 M1 s1 e1 k1 => ?_) (by omega) (by omega)
  rintro _ rfl
  have s1' := s1.setI 3 1 e1 (by simp [hd3])
  refine mk_step r (r + 2) 0 s1' e1 (by simp) (hd3_cons (by dsimp only; omega) (hd3_cons (by dsimp only; omega) (hcs 2 (by omega)))) (hU 2 (by omega)) (rs_cons (by simp) (nr _)) (f1 2 (by omega) (by omega)) (hg 2 (by omega)) (fun Λ2 M2 s2 e2 k2 => ?_) (by omega) (by omega)
  refine mk_step r (r + 3) 0 s2 e2 (by simp) (hd3_cons (by dsimp only; omega) (hd3_cons (by dsimp only; omega) (hd3_cons (by dsimp only; omega) (hcs 3 (by omega))))) (hU 3 (by omega)) (rs_cons (by simp) (rs_cons (by simp) (nr _))) (f1 3 (by omega) (by omega)) (hg 3 (by omega)) (fun Λ3 M3 s3 e3 k3 => ?_) (by omega) (by omega)
  refine mk_step r (r + 4) 0 s3 e3 (by simp) (hd3_cons (by dsimp only; omega) (hd3_cons (by dsimp only; omega) (hd3_cons (by dsimp only; omega) (hd3_cons (by dsimp only; omega) (hcs 4 (by omega)))))) (hU 4 (by omega)) (rs_cons (by simp) (rs_cons (by simp) (rs_cons (by simp) (nr _)))) (f1 4 (by omega) (by omega)) (hg 4 (by omega)) (fun Λ4 M4 s4 e4 k4 => ?_) (by omega) (by omega)
  refine mk_step r (r + 5) 0 s4 e4 (by simp) (hd3_cons (by dsimp only; omega) (hd3_cons (by dsimp only; omega) (hd3_cons (by dsimp only; omega) (hd3_cons (by dsimp only; omega) (hd3_cons (by dsimp only; omega) (hcs 5 (by omega))))))) (hU 5 (by omega)) (rs_cons (by simp) (rs_cons (by simp) (rs_cons (by simp) (rs_cons (by simp) (nr _))))) (f1 5 (by omega) (by omega)) (hg 5 (by omega)) (fun Λ5 M5 s5 e5 k5 => ?_) (by omega) (by omega)
  refine mk_step r (r + 6) 0 s5 e5 (by simp) (hd3_cons (by dsimp only; omega) (hd3_cons (by dsimp only; omega) (hd3_cons (by dsimp only; omega) (hd3_cons (by dsimp only; omega) (hd3_cons (by dsimp only; omega) (hd3_cons (by dsimp only; omega) (hcs 6 (by omega)))))))) (hU 6 (by omega)) (rs_cons (by simp) (rs_cons (by simp) (rs_cons (by simp) (rs_cons (by simp) (rs_cons (by simp) (nr _)))))) (f1 6 (by omega) (by omega)) (hg 6 (by omega)) (fun Λ6 M6 s6 e6 k6 => ?_) (by omega) (by omega)
  have eR : gR M6 q 0 = some (Λ6 (o + (r + 1))) := by rw [← e6]; exact s6.ref (by simp)
  have cv := s6.cell (c := r + 1) (kd := 7) (n := 40) (by simp)
  have n1 := s6.num (c := r + 1) (by simp [hd3])
  rw [eR]
  refine x_fill (N := 40) (by omega) cv.1 cv.2 (fun M' c' v1 v2 => ?_)
  refine hQ Λ6 M' (s6.setC (p := r + 1) (w := fil0) rfl (by simp [hd3]) c' ?_) (fun d hd => ?_)
  · funext j
    by_cases hj : j < 40
    · rw [v1 j hj]; unfold fil0 fil; rw [if_pos hj]
    · rw [v2 j (by omega), n1.2.2.1, f1 1 (by omega) (by omega)]; unfold fil0 fil; rw [if_neg hj]
  · have m1 : ∀ (x : Nat × Nat × Nat) (l : L3), d ∈ hd3 l → d ∈ hd3 (x :: l) := fun x l hl => List.mem_cons_of_mem _ hl
    rw [k6 d (m1 _ _ (m1 _ _ (m1 _ _ (m1 _ _ (m1 _ _ hd))))), k5 d (m1 _ _ (m1 _ _ (m1 _ _ (m1 _ _ hd)))), k4 d (m1 _ _ (m1 _ _ (m1 _ _ hd))), k3 d (m1 _ _ (m1 _ _ hd)), k2 d (m1 _ _ hd), k1 d hd]
theorem hd3_csR {r d : Nat} {cs : L3} (h : d ∈ hd3 cs) : d ∈ hd3 (csR r cs) := by unfold csR; simp only [hd3, List.map_cons]; exact List.mem_cons_of_mem _ (List.mem_cons_of_mem _ (List.mem_cons_of_mem _ (List.mem_cons_of_mem _ (List.mem_cons_of_mem _ (List.mem_cons_of_mem _ (List.mem_cons_of_mem _ h))))))
theorem mem_csR {r : Nat} {x : Nat × Nat × Nat} {cs : L3} (h : x ∈ cs) : x ∈ csR r cs := List.mem_cons_of_mem _ (List.mem_cons_of_mem _ (List.mem_cons_of_mem _ (List.mem_cons_of_mem _ (List.mem_cons_of_mem _ (List.mem_cons_of_mem _ (List.mem_cons_of_mem _ h))))))
theorem x_row_step {U : Nat → Prop} {Λ0 Λ : Nat → Nat} {B M : Mm} {o : Nat} {cs rs : L3} {f : Nat → Nat → Int32} {g : Nat → Nat → Int64} {Q : Mm → Prop} {gc gs q n : Nat} (m r : Nat) (h : Sh U Λ0 B o Λ M cs rs f g) (e : Λ (o + 0) = q) (hm : m < 4) (h0 : (0, 4, 0) ∈ cs) (h1 : (1, 10, 4) ∈ cs) (hr1 : (0, 1, 1) ∈ rs) (hcs : ∀ j, j < 7 → r + j ∉ hd3 cs) (hU : ∀ j, j < 7 → ¬ U (o + (r + j))) (hrs : ∀ x ∈ rs, x.1 ≠ r) (hr2 : 2 ≤ r) (hrm : ∀ x ∈ rs, ¬ (x.1 = 1 ∧ x.2.1 = m)) (hf : ∀ j, j < 7 → f (r + j) = fun _ => 0) (hg : ∀ j, j < 7 → g (r + j) = fun _ => 0) (g1 : 7 ≤ gc) (g2 : 255 ≤ gs)
    (hQ : ∀ Λ' M', Sh U Λ0 B o Λ' M' (csR r cs) ((1, m, r) :: rsR r rs) (fR r f) g → Λ' (o + 0) = q → B_X4_init_19 Q n q (nI (m + 1)) (gc - 7) (gs - 255) M') : B_X4_init_19 Q (n + 1) q (nI m) gc gs M := by
  unfold B_X4_init_19
  refine ⟨fun c => absurd ((nI_leI (a := 4) (by omega) (by omega)).mp c) (by omega), fun _ => ⟨by rw [← e]; exact (h.cell h0).1, by omega, by omega, fun q4 hq4 => ?_⟩⟩
  rintro _ rfl
  obtain ⟨Λ2, s2, e2, k2⟩ := h.new (c := r) (kd := 3) (n := 0) (hcs 0 (by omega)) (hU 0 (by omega)) hq4 (hf 0 (by omega)) (hg 0 (by omega))
  refine ⟨6, 241, by omega, by omega, x_row_init r s2 e2 hcs hU hrs hf hg (by omega) (by omega) (fun Λ3 M3 s3 k3 => ?_)⟩
  have m0 := hd3_mem h0
  have m1 := hd3_mem h1
  have e1 : Λ3 (o + 1) = Λ (o + 1) := (k3 1 (List.mem_cons_of_mem _ m1)).trans (k2 1 m1)
  have e0 : Λ3 (o + 0) = q := ((k3 0 (List.mem_cons_of_mem _ m0)).trans (k2 0 m0)).trans e
  have er : Λ3 (o + r) = q4 := (k3 r List.mem_cons_self).trans e2
  refine ⟨Λ (o + 1), by rw [← e]; exact h.ref hr1, by rw [← er]; exact (s3.cell (c := r) (kd := 3) (n := 0) (by simp [csR])).1, ?_, ?_⟩
  · rw [← e1]; exact ar_nI (s3.cell (mem_csR h1)).1 (s3.cell (mem_csR h1)).2 hm (by omega)
  · rintro _ rfl
    rw [nI_clamp (by omega), nI_1, show gc - 1 - 6 = gc - 7 by omega, show gs - 14 - 241 = gs - 255 by omega]
    refine hQ Λ3 _ (s3.setR e1 er (hd3_csR m1) (by simp [hd3, csR]) (fun x hx => ?_)) e0
    unfold rsR at hx
    refine rs_cons (by dsimp only; omega) (rs_cons (by dsimp only; omega) (rs_cons (by dsimp only; omega) (rs_cons (by dsimp only; omega) (rs_cons (by dsimp only; omega) (rs_cons (by dsimp only; omega) hrm))))) x hx
def csT : L3 := csR 23 (csR 16 (csR 9 (csR 2 [(1, 10, 4), (0, 4, 0)])))
def rsT : L3 := (1, 3, 23) :: rsR 23 ((1, 2, 16) :: rsR 16 ((1, 1, 9) :: rsR 9 ((1, 0, 2) :: rsR 2 [(0, 1, 1)])))
def fT (x : Int32) : Nat → Nat → Int32 := fR 23 (fR 16 (fR 9 (fR 2 (uf (fun _ _ => 0) 0 (upd (fun _ => 0) 0 x)))))
theorem fR_ne {r d : Nat} {f : Nat → Nat → Int32} (h : d ≠ r) (h2 : d ≠ r + 1) : fR r f d = f d := by unfold fR; rw [uf_ne _ _ h2, uf_ne _ _ h]
theorem fT_row (x : Int32) : ∀ m, m < 4 → fT x (2 + 7 * m) = upd (fun _ => 0) 3 1 ∧ fT x (2 + 7 * m + 1) = fil0 ∧ fT x 0 = upd (fun _ => 0) 0 x := by
  intro m hm
  have : m = 0 ∨ m = 1 ∨ m = 2 ∨ m = 3 := by omega
  have c0 : fT x 0 = upd (fun _ => 0) 0 x := by unfold fT; rw [fR_ne (by omega) (by omega), fR_ne (by omega) (by omega), fR_ne (by omega) (by omega), fR_ne (by omega) (by omega), uf_eq]
  refine ⟨?_, ?_, c0⟩
  · rcases this with rfl | rfl | rfl | rfl <;> rfl
  · rcases this with rfl | rfl | rfl | rfl <;> rfl
theorem x_test_init {U : Nat → Prop} {Λ0 Λ : Nat → Nat} {B M : Mm} {o : Nat} {Q : Mm → Prop} {gc gs q : Nat} {x : Int32} (h : Sh U Λ0 B o Λ M [(0, 4, 0)] [] (fun _ _ => 0) (fun _ _ => 0)) (e : Λ (o + 0) = q) (hU : ∀ j, j < 30 → ¬ U (o + j)) (g1 : 29 ≤ gc) (g2 : 1024 ≤ gs)
    (hQ : ∀ Λ' M', Sh U Λ0 B o Λ' M' csT rsT (fT x) (fun _ _ => 0) → Λ' (o + 0) = q → Q M') : B_X4_init_0 Q q x gc gs M := by
  unfold B_X4_init_0
  refine mk_step 0 1 0 h e (by decide) (by decide) (hU 1 (by omega)) (by decide) rfl rfl (fun Λ1 M1 s1 e1 k1 => ?_) (by omega) (by omega)
  rintro _ rfl
  have s2 := s1.setI 0 x e1 (by decide)
  refine ⟨5, ?_⟩
  have z1 : ∀ j, 2 ≤ j → uf (fun _ _ => 0) 0 (upd (fun _ => 0) 0 x) j = fun _ => 0 := fun j hj => by rw [uf_ne _ _ (by omega)]
  refine x_row_step 0 2 s2 e1 (by omega) (by decide) (by decide) (by decide) (by decide +kernel) (fun j hj => hU _ (by omega)) (by decide) (by omega) (by decide) (fun j hj => z1 _ (by omega)) (fun _ _ => rfl) (by omega) (by omega) (fun Λ3 M3 s3 e3 => ?_)
  have z2 : ∀ j, 9 ≤ j → fR 2 (uf (fun _ _ => 0) 0 (upd (fun _ => 0) 0 x)) j = fun _ => 0 := fun j hj => by rw [fR_ne (by omega) (by omega)]; exact z1 j (by omega)
  refine x_row_step 1 9 s3 e3 (by omega) (by decide +kernel) (by decide +kernel) (by decide +kernel) (by decide +kernel) (fun j hj => hU _ (by omega)) (by decide +kernel) (by omega) (by decide +kernel) (fun j hj => z2 _ (by omega)) (fun _ _ => rfl) (by omega) (by omega) (fun Λ4 M4 s4 e4 => ?_)
  have z3 : ∀ j, 16 ≤ j → fR 9 (fR 2 (uf (fun _ _ => 0) 0 (upd (fun _ => 0) 0 x))) j = fun _ => 0 := fun j hj => by rw [fR_ne (by omega) (by omega)]; exact z2 j (by omega)
  refine x_row_step 2 16 s4 e4 (by omega) (by decide +kernel) (by decide +kernel) (by decide +kernel) (by decide +kernel) (fun j hj => hU _ (by omega)) (by decide +kernel) (by omega) (by decide +kernel) (fun j hj => z3 _ (by omega)) (fun _ _ => rfl) (by omega) (by omega) (fun Λ5 M5 s5 e5 => ?_)
  have z4 : ∀ j, 23 ≤ j → fR 16 (fR 9 (fR 2 (uf (fun _ _ => 0) 0 (upd (fun _ => 0) 0 x)))) j = fun _ => 0 := fun j hj => by rw [fR_ne (by omega) (by omega)]; exact z3 j (by omega)
  refine x_row_step 3 23 s5 e5 (by omega) (by decide +kernel) (by decide +kernel) (by decide +kernel) (by decide +kernel) (fun j hj => hU _ (by omega)) (by decide +kernel) (by omega) (by decide +kernel) (fun j hj => z4 _ (by omega)) (fun _ _ => rfl) (by omega) (by omega) (fun Λ6 M6 s6 e6 => ?_)
  exact ⟨fun _ => hQ Λ6 M6 s6 e6, fun c => absurd (Int32.le_refl _) c⟩
