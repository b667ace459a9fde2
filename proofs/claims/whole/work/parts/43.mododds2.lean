/-! PURE, 23: no step is of size 0; the reference's odds, whole -/
def lxl (x y : Int × Int × Nat) : Prop := x.1 < y.1 ∨ (x.1 = y.1 ∧ x.2.1 ≤ y.2.1)
theorem pk_min (n : Nat) (p : Int) (cs : Nat → Nat → Int) (T : Nat → Int × Int × Nat) (i : Nat) : ∀ k j, j < k → lxl (pk n p cs T i k) (cand n p cs T i (i + j + 1))
  | 0, _, h => absurd h (by omega)
  | k + 1, j, h => by
    have ih := pk_min n p cs T i k
    unfold pk
    by_cases c : k = 0 ∨ (cand n p cs T i (i + k + 1)).1 < (pk n p cs T i k).1 ∨ ((cand n p cs T i (i + k + 1)).1 = (pk n p cs T i k).1 ∧ (cand n p cs T i (i + k + 1)).2.1 < (pk n p cs T i k).2.1)
    · rw [if_pos c]
      by_cases e : j = k
      · subst e; exact Or.inr ⟨rfl, Int.le_refl _⟩
      · have h2 := ih j (by omega)
        rcases c with c | c | c
        · omega
        · unfold lxl at *; omega
        · unfold lxl at *; omega
    · rw [if_neg c]
      by_cases e : j = k
      · subst e; unfold lxl; omega
      · exact ih j (by omega)
theorem dpT_stay (n : Nat) (p : Int) (cs : Nat → Nat → Int) {i : Nat} (hi : i < n) : ∀ d, n ≤ i + d → dpT n p cs d i = dpT n p cs (n - i) i
  | 0, h => absurd h (by omega)
  | d + 1, h => by
    by_cases c : i + (d + 1) = n
    · rw [show n - i = d + 1 by omega]
    · rw [← dpT_stay n p cs hi d (by omega)]
      show (if i + (d + 1) = n then _ else dpT n p cs d i) = _
      rw [if_neg c]
theorem zP_fix {v : Nat → Int32} {B p i : Nat} (hi : i < mc v B) : zP v B p i = pk (mc v B) p (csf (rk v B)) (zP v B p) i (mc v B - i) := by
  have h1 : zP v B p i = dpT (mc v B) p (csf (rk v B)) (mc v B - i) i := dpT_stay _ _ _ hi _ (by omega)
  obtain ⟨e, he⟩ : ∃ e, mc v B - i = e + 1 := ⟨mc v B - i - 1, by omega⟩
  rw [h1, he]
  show (if i + (e + 1) = mc v B then pk (mc v B) p (csf (rk v B)) (dpT (mc v B) p (csf (rk v B)) e) i (e + 1) else _) = _
  rw [if_pos (by omega)]
  refine pk_congr (fun j h1 h2 => ?_) (e + 1)
  unfold zP
  rw [dpT_stay _ _ _ h2 e (by omega), dpT_stay _ _ _ h2 (mc v B) (by omega)]
theorem CC_join {e : Nat → Int} {a b : Nat} (ha : 0 < a) (h : so e a (a / 2) = so (fun t => e (a + t)) b (b / 2)) : CC e (a + b) ≤ CC e a + CC (fun t => e (a + t)) b := by
  have h1 := FF_min (med_hi e (h := a + b) (by omega)) (so e a (a / 2))
  have h2 : FF e (a + b) (so e a (a / 2)) = FF e a (so e a (a / 2)) + FF (fun t => e (a + t)) b (so e a (a / 2)) := sm_split _ a b
  unfold CC
  rw [← h]; omega
theorem zM_rank {v : Nat → Int32} {B p j : Nat} (hB : B ≤ 40) (hp : p ≤ 1000) (hj : j < zS v B p) : ∃ x, x < mc v B ∧ zM v B p j = (v (mp v B x)).toInt ∧ ((rk v B x : Nat) : Int) = so (fun t => ((rk v B (zF v B p j + t) : Nat) : Int)) (zF v B p (j + 1) - zF v B p j) ((zF v B p (j + 1) - zF v B p j) / 2) := by
  have hf := zF_lt hB hp hj
  have hr := soK_rng (fun k => (v (mp v B k)).toInt) (zF v B p j) (zF v B p (j + 1) - zF v B p j) ((zF v B p (j + 1) - zF v B p j) / 2) (by omega)
  refine ⟨soK (fun k => (v (mp v B k)).toInt) (zF v B p j) (zF v B p (j + 1) - zF v B p j) ((zF v B p (j + 1) - zF v B p j) / 2), by omega, ?_, ?_⟩
  · exact (soK_key (fun k => (v (mp v B k)).toInt) (zF v B p j) (zF v B p (j + 1) - zF v B p j) ((zF v B p (j + 1) - zF v B p j) / 2) (by omega)).symm
  · rw [soK_keys (k1 := fun k => (v (mp v B k)).toInt) (k2 := fun k => ((rk v B k : Nat) : Int)) (fun i k h1 h2 h3 h4 => (rk_order (by omega) (by omega)).symm)]
    exact soK_key (fun k => ((rk v B k : Nat) : Int)) (zF v B p j) _ _ (by omega)
theorem zF_succ {v : Nat → Int32} {B p j : Nat} (h : zF v B p j < mc v B) : zF v B p (j + 1) = zX v B p (zF v B p j) := by
  show (if zF v B p j < mc v B then zX v B p (zF v B p j) else zF v B p j) = _
  rw [if_pos h]
theorem zZ_ne {v : Nat → Int32} {B p i : Nat} (hB : B ≤ 40) (hp : p ≤ 1000) (hi : i + 1 < zS v B p) : zZ v B p i ≠ 0 := by
  intro hz
  have f0 := zF_lt hB hp (show i < zS v B p by omega)
  have f1 := zF_lt hB hp hi
  obtain ⟨x, hx, ex, rx⟩ := zM_rank hB hp (show i < zS v B p by omega)
  obtain ⟨y, hy, ey, ry⟩ := zM_rank hB hp hi
  have exy : (v (mp v B x)).toInt = (v (mp v B y)).toInt := by unfold zZ at hz; omega
  have r1 := (rk_order hx hy).mpr (by omega)
  have r2 := (rk_order hy hx).mpr (by omega)
  have s1 := zF_succ f0.2.1
  have s2 := zF_succ f1.2.1
  have k1 := zP_fix (p := p) f0.2.1
  have k2 := zP_fix (p := p) f1.2.1
  obtain ⟨j1, hj1, e1⟩ := pk_is (mc v B) p (csf (rk v B)) (zP v B p) (zF v B p i) (mc v B - zF v B p i) (by omega)
  obtain ⟨j2, hj2, e2⟩ := pk_is (mc v B) p (csf (rk v B)) (zP v B p) (zF v B p (i + 1)) (mc v B - zF v B p (i + 1)) (by omega)
  rw [← k1] at e1
  rw [← k2] at e2
  have x1 : zF v B p (i + 1) = zF v B p i + j1 + 1 := by rw [s1]; unfold zX; rw [e1]; rfl
  have x2 : zF v B p (i + 2) = zF v B p (i + 1) + j2 + 1 := by rw [s2]; unfold zX; rw [e2]; rfl
  rw [← x1] at e1
  rw [← x2] at e2
  have hm := pk_min (mc v B) p (csf (rk v B)) (zP v B p) (zF v B p i) (mc v B - zF v B p i) (zF v B p (i + 2) - zF v B p i - 1) (by omega)
  rw [← k1, show zF v B p i + (zF v B p (i + 2) - zF v B p i - 1) + 1 = zF v B p (i + 2) by omega, e1] at hm
  have hc : csf (rk v B) (zF v B p i) (zF v B p (i + 2)) ≤ csf (rk v B) (zF v B p i) (zF v B p (i + 1)) + csf (rk v B) (zF v B p (i + 1)) (zF v B p (i + 2)) := by
    have hj := CC_join (e := fun t => ((rk v B (zF v B p i + t) : Nat) : Int)) (a := zF v B p (i + 1) - zF v B p i) (b := zF v B p (i + 2) - zF v B p (i + 1)) (by omega) (by
      rw [← rx]
      have : (fun t => ((rk v B (zF v B p i + (zF v B p (i + 1) - zF v B p i + t)) : Nat) : Int)) = fun t => ((rk v B (zF v B p (i + 1) + t) : Nat) : Int) := by
        funext t; rw [show zF v B p i + (zF v B p (i + 1) - zF v B p i + t) = zF v B p (i + 1) + t by omega]
      rw [this, ← ry]; omega)
    have : (fun t => ((rk v B (zF v B p i + (zF v B p (i + 1) - zF v B p i + t)) : Nat) : Int)) = fun t => ((rk v B (zF v B p (i + 1) + t) : Nat) : Int) := by
      funext t; rw [show zF v B p i + (zF v B p (i + 1) - zF v B p i + t) = zF v B p (i + 1) + t by omega]
    rw [this, show zF v B p (i + 1) - zF v B p i + (zF v B p (i + 2) - zF v B p (i + 1)) = zF v B p (i + 2) - zF v B p i by omega] at hj
    exact hj
  have c1 : (cand (mc v B) p (csf (rk v B)) (zP v B p) (zF v B p i) (zF v B p (i + 1))) = (csf (rk v B) (zF v B p i) (zF v B p (i + 1)) + (p + (zP v B p (zF v B p (i + 1))).1), 1 + (zP v B p (zF v B p (i + 1))).2.1, zF v B p (i + 1)) := by
    unfold cand; rw [if_pos f1.2.1, if_pos f1.2.1]
  rw [c1, e2] at hm
  unfold lxl cand at hm
  dsimp only at hm
  omega
theorem m_od_55 {Λ : Nat → Nat} {M : Mm} {Q : Int32 → Mm → Prop} {x1 x2 x5 : Int32} {a n : Nat} {ρ : Nat → Nat} (sh : ModSh Λ M) (ha : a + n ≤ 40) (hr : ∀ k, k < n → ρ k ≤ 80 ∧ gI M (Λ 408) (a + k) = nI (ρ k))
    (hQ : ∀ S : Nat, (S : Int) = sm (fun k => (ρ k : Int)) n → S ≤ 80 * n → ∃ n2, B_X6_layOdds_82 Q n2 (Λ 400) x1 x2 (nI (a + n)) x5 (nI S) (0 : Int32) M) :
    ∀ (d k S : Nat), k + d = n → (S : Int) = sm (fun k => (ρ k : Int)) k → S ≤ 80 * k → B_X6_layOdds_55 Q (d + 1) (Λ 400) x1 x2 (nI (a + n)) x5 (nI S) (nI (a + k)) M := by
  intro d
  induction d with
  | zero =>
    intro k S hd hS hb
    unfold B_X6_layOdds_55
    have e : k = n := by omega
    subst e
    exact ⟨fun _ => hQ S hS hb, fun c => absurd (Int32.le_refl _) c⟩
  | succ d ih =>
    intro k S hd hS hb
    unfold B_X6_layOdds_55
    have h := hr k (by omega)
    refine ⟨fun c => absurd ((nI_leI (by omega) (by omega)).mp c) (by omega), fun _ => ⟨sh.1, Λ 408, sh.r 8 (by omega) (by omega), sh.a 8 (by omega) (by omega) (show a + k < 40 by omega), ?_⟩⟩
    rw [nI_clamp (by omega), h.2, nI_add, nI_1]
    refine ih (k + 1) (S + ρ k) (by omega) ?_ (by omega)
    show _ = sm (fun k => (ρ k : Int)) k + (ρ k : Int)
    omega
def odS (Λ : Nat → Nat) (b : Nat) : Prop := b = Λ 400 ∨ b = Λ 417
theorem m_layOdds {Λ : Nat → Nat} {M : Mm} {Q : Int32 → Mm → Prop} {B p i : Nat} {v : Nat → Int32} (hΛ : inj Λ) (sh : ModSh Λ M) (hv : vOk v) (hB : B ≤ 40) (hp : p ≤ 1000) (mC : ModCut Λ M v B p) (hi : i + 1 < zS v B p)
    (hN : 20 < oN v B p i → Q 0 M) (hY : oN v B p i ≤ 20 → ∀ M', CJ (odS Λ) M M' → (∀ j, j ≠ 25 → j ≠ 26 → gJ M' (Λ 400) j = gJ M (Λ 400) j) → gJ M' (Λ 400) 25 = lN (zW v B p i) → gJ M' (Λ 400) 26 = lN (zA v B p i) → Q 1 M') : B_X6_layOdds_0 Q (Λ 400) (nI i) M := by
  have hz := zS_le (v := v) hB hp
  have f0 := zF_lt hB hp (show i < zS v B p by omega)
  have f1 : zF v B p (i + 1) < zF v B p (i + 2) ∧ zF v B p (i + 1) < mc v B ∧ zF v B p (i + 2) ≤ mc v B := zF_lt hB hp hi
  have hmc := mc_le v B
  have ht := oF_tot hB hp hi
  unfold B_X6_layOdds_0
  have e0 := mC.2.2.2.1 i (by omega)
  have e1 := mC.2.2.2.1 (i + 1) (by omega)
  have e2 := mC.2.2.2.1 (i + 2) (by omega)
  have n2 : nI i + (2 : Int32) = nI (i + 2) := by rw [show (2 : Int32) = nI 2 from rfl, nI_add]
  rw [n2, nI_1]
  refine ⟨sh.1, Λ 412, sh.r 12 (by omega) (by omega), sh.a 12 (by omega) (by omega) (show i < 41 by omega), sh.a 12 (by omega) (by omega) (show i + 2 < 41 by omega), ?_⟩
  rw [nI_clamp (n := i) (by omega), nI_clamp (n := i + 2) (by omega), nI_clamp (n := i + 1) (by omega), e0, e1, e2, pk_sub (by omega), pk_sub (by omega)]
  refine ⟨fun c => ⟨sh.a 12 (by omega) (by omega) (show i + 1 < 41 by omega), sh.a 12 (by omega) (by omega) (show i + 1 < 41 by omega), ?_⟩, fun c => hN (Nat.lt_of_not_le fun z => c ((nI_leI (b := 20) (by omega) (by omega)).mpr z))⟩
  have hn20 : oN v B p i ≤ 20 := (nI_leI (b := 20) (by omega) (by omega)).mp c
  have hY := hY hn20
  refine ⟨oM v B p i + 1, ?_⟩
  have ea : zF v B p (i + 2) = zF v B p (i + 1) + oM v B p i := by unfold oM; omega
  have eb : zF v B p (i + 2) = zF v B p i + oN v B p i := by unfold oN; omega
  have hrk : ∀ k, k < mc v B → rk v B k ≤ 80 ∧ gI M (Λ 408) k = nI (rk v B k) := fun k hk => ⟨(rk_80 hB k hk).2, (mC.2.1 k hk).2.2⟩
  rw [ea]
  refine m_od_55 (ρ := fun k => rk v B (zF v B p (i + 1) + k)) sh (by omega) (fun k hk => hrk _ (by omega)) (fun S hS hSb => ⟨35700 + 1, ?_⟩) (oM v B p i) 0 0 (by omega) rfl (by omega)
  have hSF : (S : Int) = oF v B p i := hS
  rw [← ea, eb]
  refine m_od_82 sh (fun M1 c1 t1 => ⟨oN v B p i + 1, ?_⟩) 35700 0 M (by omega) (CJ.refl _ _) (fun i hi => absurd hi (by omega))
  have sh1 := c1.sh sh
  have hT0 : JT Λ M1 (fun k => rk v B (zF v B p i + k)) 0 := fun c hc s hs => by
    rw [t1 _ (by omega)]
    cases c with
    | zero => unfold cw; by_cases e : s = 0
              · rw [if_pos (by omega), if_pos e]; rfl
              · rw [if_neg (by omega), if_neg e]; rfl
    | succ c => unfold cw; rw [if_neg (by omega)]; rfl
  refine m_od_113 (f := fun k => rk v B (zF v B p i + k)) hΛ sh1 hn20 (by omega) (fun k hk => by rw [c1.I]; exact hrk _ (by omega)) (fun M2 c2 t2 => ?_) (oN v B p i) 0 M1 (by omega) (CJ.refl _ _) hT0
  have sh2 := c2.sh sh1
  refine ⟨sh2.1, ?_⟩
  rintro _ rfl _ rfl
  have sh4 : ModSh Λ (pJ (pJ M2 (Λ 400) 25 (0 : Int64)) (Λ 400) 26 (0 : Int64)) := sh2
  have cI : gI (pJ (pJ M2 (Λ 400) 25 (0 : Int64)) (Λ 400) 26 (0 : Int64)) = gI M := by rw [gI_pJ, gI_pJ, c2.I, c1.I]
  refine m_sizeOf (μ := zM v B p) sh4 hz.2 (fun j hj => by rw [cI]; exact mC.mid hv hB hp j hj) hi (fun x hx => ?_)
  have hzz : x.toInt = zZ v B p i := hx
  have t4 : JT Λ (pJ (pJ M2 (Λ 400) 25 (0 : Int64)) (Λ 400) 26 (0 : Int64)) (fun k => rk v B (zF v B p i + k)) (oN v B p i) := fun c hc s hs => by
    rw [gJ_pJ_ne (hΛ.ne (by omega)), gJ_pJ_ne (hΛ.ne (by omega))]; exact t2 c hc s hs
  have c4 : CJ (odS Λ) M (pJ (pJ M2 (Λ 400) 25 (0 : Int64)) (Λ 400) 26 (0 : Int64)) := (CJ.step (CJ.mono (T := odS Λ) (c1.trans c2) (fun b hb => Or.inr hb)) (Or.inl rfl)).step (Or.inl rfl)
  have hne := zZ_ne hB hp hi
  have fin : ∀ dn : Bool, dn = decide (zZ v B p i < 0) → ∃ n8, B_X6_layOdds_236 Q n8 (Λ 400) (nI (oM v B p i)) (nI S) (bi dn) (nI 0) (pJ (pJ M2 (Λ 400) 25 (0 : Int64)) (Λ 400) 26 (0 : Int64)) := by
    intro dn hdn
    refine ⟨1700 + 1, m_od_236 (f := fun k => rk v B (zF v B p i + k)) hΛ sh4 (by omega) (by omega) t4 (fun M5 c5 k5 g1 g2 => ?_) 1700 0 _ (by omega) (CJ.refl _ _) (fun _ _ _ => rfl) (by rw [gJ_pJ_eq, updL_ne _ _ (by omega), gJ_pJ_eq, updL_eq]; rfl) (by rw [gJ_pJ_eq, updL_eq]; rfl)⟩
    refine hY M5 (c4.trans (c5.mono (fun b hb => Or.inl hb))) (fun j h1 h2 => ?_) ?_ ?_
    · rw [k5 j h1 h2, gJ_pJ_eq, updL_ne _ _ h2, gJ_pJ_eq, updL_ne _ _ h1, c2.2.2 _ (show ¬ oS Λ (Λ 400) from hΛ.ne (by omega)), c1.2.2 _ (show ¬ oS Λ (Λ 400) from hΛ.ne (by omega))]
    · rw [g1]
      congr 1
      rw [rowS_nc]
      refine nc_on (fun k => rk v B (zF v B p i + k)) 80 _ _ _ _ (fun k hk => (hrk _ (by omega)).1) (fun x h0 hx => ?_)
      have hx2 : x < 1700 := by
        have : (80 : Int) * (oN v B p i : Int) ≤ 1600 := by omega
        have h3 : x ≤ ((80 : Nat) : Int) * (oN v B p i : Int) := hx
        omega
      rw [show decide (0 ≤ x ∧ x < ((1700 : Nat) : Int)) = true from decide_eq_true ⟨h0, by omega⟩, Bool.true_and]
      by_cases c : 0 < zZ v B p i
      · rw [if_pos c, hdn, decide_eq_false (by omega : ¬ zZ v B p i < 0), if_neg (by decide)]
        by_cases c2 : oF v B p i ≤ x
        · rw [decide_eq_true c2, decide_eq_true (show S ≤ x.toNat by omega)]
        · rw [decide_eq_false c2, decide_eq_false (show ¬ S ≤ x.toNat by omega)]
      · rw [if_neg c, hdn, decide_eq_true (by omega : zZ v B p i < 0), if_pos rfl]
        by_cases c2 : x ≤ oF v B p i
        · rw [decide_eq_true c2, decide_eq_true (show x.toNat ≤ S by omega)]
        · rw [decide_eq_false c2, decide_eq_false (show ¬ x.toNat ≤ S by omega)]
    · rw [g2]
      congr 1
      rw [rowS_nc]
      unfold zA
      rw [← nc_all (oR v B p i)]
      refine nc_on (fun k => rk v B (zF v B p i + k)) 80 _ _ _ _ (fun k hk => (hrk _ (by omega)).1) (fun x h0 hx => ?_)
      have h3 : x ≤ ((80 : Nat) : Int) * (oN v B p i : Int) := hx
      rw [show decide (0 ≤ x ∧ x < ((1700 : Nat) : Int)) = true from decide_eq_true ⟨h0, by omega⟩, Bool.true_and]
  rw [show zF v B p i + oN v B p i - zF v B p (i + 1) = oM v B p i by omega]
  refine ⟨fun c => ?_, fun c => ?_⟩
  · have : ¬ zZ v B p i < 0 := by rw [le_I, hzz] at c; exact Int.not_lt.mpr c
    exact fin false (decide_eq_false this).symm
  · have : zZ v B p i < 0 := by rw [le_I, hzz] at c; exact Int.not_le.mp c
    exact fin true (decide_eq_true this).symm
theorem leq0 (x : Int64) : lg_cmp x (0 : Int64) = 0 ↔ x = 0 := by
  unfold lg_cmp
  by_cases h : x > 0
  · rw [if_pos h]; constructor
    · intro z; exact absurd z (by decide)
    · rintro rfl; exact absurd h (Int64.lt_irrefl)
  · rw [if_neg h]
    by_cases h2 : x = 0
    · rw [if_pos h2]; simp [h2]
    · rw [if_neg h2]; simp [h2]
theorem m_gcd {Q : Int64 → Mm → Prop} {M : Mm} : ∀ (b a : Nat), a < 2 ^ 40 → b < 2 ^ 40 → Q (lN (Nat.gcd a b)) M → ∃ n, B_X6_gcd_6 Q n (lN a) (lN b) M := by
  intro b
  induction b using Nat.strongRecOn with
  | _ b ih =>
    intro a ha hb hQ
    by_cases h0 : b = 0
    · subst h0
      refine ⟨1, ?_⟩
      unfold B_X6_gcd_6
      rw [Nat.gcd_zero_right] at hQ
      exact ⟨fun _ => hQ, fun c => absurd ((leq0 _).mpr rfl) c⟩
    · have hm := Nat.mod_lt a (Nat.pos_of_ne_zero h0)
      obtain ⟨n, hn⟩ := ih (a % b) hm b hb (by omega) (by rw [Nat.gcd_comm a b, Nat.gcd_rec b a, Nat.gcd_comm] at hQ; exact hQ)
      have hne : ¬ lN b = 0 := fun z => h0 ((pk_lEQ (b := 0) (by omega) (by omega)).mp z)
      refine ⟨n + 1, ?_⟩
      unfold B_X6_gcd_6
      refine ⟨fun c => absurd ((leq0 _).mp c) hne, fun _ => ⟨hne, ?_⟩⟩
      rw [pk_lRem (by omega) (Nat.pos_of_ne_zero h0) (by omega)]
      exact hn
