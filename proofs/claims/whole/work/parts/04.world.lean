/-! THE WORLD: one memory, by address and slot. gI: ints and booleans, gJ: longs, gR: references, gK: the kind of a cell (0 .. 6: an object of that class of vwCl; 7 int[], 8 long[], 9 boolean[], 10 Row[], 11 Test[]), gN: a row's length, gL: the cells -/
abbrev Mm : Type := (Nat → Nat → Int32) × (Nat → Nat → Int64) × (Nat → Nat → Option Nat) × (Nat → Nat) × (Nat → Nat) × List Nat
def gI (M : Mm) : Nat → Nat → Int32 := M.1
def gJ (M : Mm) : Nat → Nat → Int64 := M.2.1
def gR (M : Mm) : Nat → Nat → Option Nat := M.2.2.1
def gK (M : Mm) : Nat → Nat := M.2.2.2.1
def gN (M : Mm) : Nat → Nat := M.2.2.2.2.1
def gL (M : Mm) : List Nat := M.2.2.2.2.2
def pI (M : Mm) (a k : Nat) (v : Int32) : Mm := (fun b j => if b = a ∧ j = k then v else M.1 b j, M.2)
def pJ (M : Mm) (a k : Nat) (v : Int64) : Mm := (M.1, fun b j => if b = a ∧ j = k then v else M.2.1 b j, M.2.2)
def pR (M : Mm) (a k : Nat) (v : Option Nat) : Mm := (M.1, M.2.1, fun b j => if b = a ∧ j = k then v else M.2.2.1 b j, M.2.2.2)
def nC (M : Mm) (a kd n : Nat) : Mm := (fun b j => if b = a then 0 else M.1 b j, fun b j => if b = a then 0 else M.2.1 b j, fun b j => if b = a then none else M.2.2.1 b j, fun b => if b = a then kd else M.2.2.2.1 b, fun b => if b = a then n else M.2.2.2.2.1 b, M.2.2.2.2.2 ++ [a])
def cI (M : Mm) (a0 a sp dp n : Nat) : Mm := (fun b j => if b = a then va_cpy (M.1 a0) (M.1 a) sp dp n j else M.1 b j, M.2)
def ok (M : Mm) (a k : Nat) : Prop := a ∈ gL M ∧ gK M a = k
/-- a place of a row -/
def ar (M : Mm) (a k : Nat) (i : Int32) : Prop := ok M a k ∧ vp_in i (gN M a)
def bl (v : Int32) : Prop := v = 0 ∨ v = 1
def ft (ci : Nat) : List Nat := match ci with
  | 0 => [2, 0, 0]
  | 1 => [2, 2, 2, 2]
  | 2 => [0, 0, 0, 0, 0, 0, 0]
  | 3 => [2, 0, 1, 0, 0, 0, 0, 2, 2, 0, 2, 2, 2, 0]
  | 4 => [0, 2]
  | 5 => [2, 2, 2, 2, 2, 2, 0, 0, 0, 0, 0, 0, 1, 1, 1]
  | 6 => [0, 2, 1, 0, 0, 2, 2, 2, 2, 0, 2, 2, 2, 0, 0, 2, 2, 2, 0, 2, 2, 2, 0, 2, 2, 1, 1, 1, 1, 2, 0, 2, 2, 0, 0, 0, 0, 0, 0, 0, 0]
  | _ => []
def fv (M : Mm) (a t k : Nat) : Value := if t = 0 then .int (gI M a k) else if t = 1 then .long (gJ M a k) else va_rf (gR M a k)
def fvs (M : Mm) (a : Nat) : Nat → List Nat → List Value
  | _, [] => []
  | k, t :: ts => fv M a t k :: fvs M a (k + 1) ts
def en (cy : Nat → ClassId) (M : Mm) (a : Nat) : va_E :=
  if gK M a = 7 then .inl (cy 0, gN M a, .inl (gI M a)) else
  if gK M a = 8 then .inl (cy 1, gN M a, .inr (.inl (gJ M a))) else
  if gK M a = 9 then .inl (cy 2, gN M a, .inl (gI M a)) else
  if gK M a = 10 then .inl (cy 3, gN M a, .inr (.inr (.inr (.inr (gR M a))))) else
  if gK M a = 11 then .inl (cy 4, gN M a, .inr (.inr (.inr (.inr (gR M a))))) else
  .inr (gK M a, fvs M a 0 (ft (gK M a)))
def wl (cy : Nat → ClassId) (M : Mm) : va_W := va_pl (gL M) (en cy M)
def tyq (cy : Nat → ClassId) : List (ClassId × FieldType) := [(cy 0, .int), (cy 1, .long), (cy 2, .boolean), (cy 3, .object RX3), (cy 4, .object RX4)]
-- the memory's own laws
theorem gI_pI (M : Mm) (a k : Nat) (v : Int32) (b j : Nat) : gI (pI M a k v) b j = if b = a ∧ j = k then v else gI M b j := rfl
theorem gJ_pI (M : Mm) (a k : Nat) (v : Int32) : gJ (pI M a k v) = gJ M := rfl
theorem gR_pI (M : Mm) (a k : Nat) (v : Int32) : gR (pI M a k v) = gR M := rfl
theorem gK_pI (M : Mm) (a k : Nat) (v : Int32) : gK (pI M a k v) = gK M := rfl
theorem gN_pI (M : Mm) (a k : Nat) (v : Int32) : gN (pI M a k v) = gN M := rfl
theorem gL_pI (M : Mm) (a k : Nat) (v : Int32) : gL (pI M a k v) = gL M := rfl
theorem gI_pJ (M : Mm) (a k : Nat) (v : Int64) : gI (pJ M a k v) = gI M := rfl
theorem gJ_pJ (M : Mm) (a k : Nat) (v : Int64) (b j : Nat) : gJ (pJ M a k v) b j = if b = a ∧ j = k then v else gJ M b j := rfl
theorem gR_pJ (M : Mm) (a k : Nat) (v : Int64) : gR (pJ M a k v) = gR M := rfl
theorem gK_pJ (M : Mm) (a k : Nat) (v : Int64) : gK (pJ M a k v) = gK M := rfl
theorem gN_pJ (M : Mm) (a k : Nat) (v : Int64) : gN (pJ M a k v) = gN M := rfl
theorem gL_pJ (M : Mm) (a k : Nat) (v : Int64) : gL (pJ M a k v) = gL M := rfl
theorem gI_pR (M : Mm) (a k : Nat) (v : Option Nat) : gI (pR M a k v) = gI M := rfl
theorem gJ_pR (M : Mm) (a k : Nat) (v : Option Nat) : gJ (pR M a k v) = gJ M := rfl
theorem gR_pR (M : Mm) (a k : Nat) (v : Option Nat) (b j : Nat) : gR (pR M a k v) b j = if b = a ∧ j = k then v else gR M b j := rfl
theorem gK_pR (M : Mm) (a k : Nat) (v : Option Nat) : gK (pR M a k v) = gK M := rfl
theorem gN_pR (M : Mm) (a k : Nat) (v : Option Nat) : gN (pR M a k v) = gN M := rfl
theorem gL_pR (M : Mm) (a k : Nat) (v : Option Nat) : gL (pR M a k v) = gL M := rfl
theorem gI_nC (M : Mm) (a kd n b j : Nat) : gI (nC M a kd n) b j = if b = a then 0 else gI M b j := rfl
theorem gJ_nC (M : Mm) (a kd n b j : Nat) : gJ (nC M a kd n) b j = if b = a then 0 else gJ M b j := rfl
theorem gR_nC (M : Mm) (a kd n b j : Nat) : gR (nC M a kd n) b j = if b = a then none else gR M b j := rfl
theorem gK_nC (M : Mm) (a kd n b : Nat) : gK (nC M a kd n) b = if b = a then kd else gK M b := rfl
theorem gN_nC (M : Mm) (a kd n b : Nat) : gN (nC M a kd n) b = if b = a then n else gN M b := rfl
theorem gL_nC (M : Mm) (a kd n : Nat) : gL (nC M a kd n) = gL M ++ [a] := rfl
theorem gI_cI (M : Mm) (a0 a sp dp n b j : Nat) : gI (cI M a0 a sp dp n) b j = if b = a then va_cpy (gI M a0) (gI M a) sp dp n j else gI M b j := rfl
theorem gJ_cI (M : Mm) (a0 a sp dp n : Nat) : gJ (cI M a0 a sp dp n) = gJ M := rfl
theorem gR_cI (M : Mm) (a0 a sp dp n : Nat) : gR (cI M a0 a sp dp n) = gR M := rfl
theorem gK_cI (M : Mm) (a0 a sp dp n : Nat) : gK (cI M a0 a sp dp n) = gK M := rfl
theorem gN_cI (M : Mm) (a0 a sp dp n : Nat) : gN (cI M a0 a sp dp n) = gN M := rfl
theorem gL_cI (M : Mm) (a0 a sp dp n : Nat) : gL (cI M a0 a sp dp n) = gL M := rfl
-- the fields of an object
theorem fvs_get (M : Mm) (a : Nat) : ∀ (ts : List Nat) (k j t : Nat), ts[j]? = some t → (fvs M a k ts)[j]? = some (fv M a t (k + j))
  | [], _, _, _, h => by simp at h
  | t0 :: ts, k, 0, t, h => by simp at h; subst h; rfl
  | t0 :: ts, k, j + 1, t, h => by
    have h' : ts[j]? = some t := by simpa using h
    have := fvs_get M a ts (k + 1) j t h'
    rw [show k + (j + 1) = k + 1 + j by omega]
    simpa [fvs] using this
theorem fvs_len (M : Mm) (a : Nat) : ∀ (ts : List Nat) (k : Nat), (fvs M a k ts).length = ts.length
  | [], _ => rfl
  | _ :: ts, k => by simp [fvs, fvs_len M a ts (k + 1)]
theorem fvs_same {M M' : Mm} {a : Nat} : ∀ (ts : List Nat) (k : Nat), (∀ (j t : Nat), ts[j]? = some t → fv M a t (k + j) = fv M' a t (k + j)) → fvs M a k ts = fvs M' a k ts
  | [], _, _ => rfl
  | t :: ts, k, h => by
    have h0 := h 0 t rfl
    have h1 := fvs_same (M := M) (M' := M') (a := a) ts (k + 1) (fun j t' hj => by
      have := h (j + 1) t' (by simpa using hj)
      rwa [show k + (j + 1) = k + 1 + j by omega] at this)
    simp only [fvs, h1]
    rw [show k + 0 = k from rfl] at h0
    rw [h0]
theorem fvs_set {M M' : Mm} {a : Nat} : ∀ (ts : List Nat) (k j t : Nat), ts[j]? = some t → (∀ (i t' : Nat), ts[i]? = some t' → i ≠ j → fv M a t' (k + i) = fv M' a t' (k + i)) → (fvs M a k ts).set j (fv M' a t (k + j)) = fvs M' a k ts
  | [], _, _, _, h, _ => by simp at h
  | t0 :: ts, k, 0, t, h, hs => by
    simp at h; subst h
    have h1 := fvs_same (M := M) (M' := M') (a := a) ts (k + 1) (fun i t' hi => by
      have := hs (i + 1) t' (by simpa using hi) (by omega)
      rwa [show k + (i + 1) = k + 1 + i by omega] at this)
    simp [fvs, h1]
  | t0 :: ts, k, j + 1, t, h, hs => by
    have h' : ts[j]? = some t := by simpa using h
    have h1 := fvs_set (M := M) (M' := M') (a := a) ts (k + 1) j t h' (fun i t' hi hne => by
      have := hs (i + 1) t' (by simpa using hi) (by omega)
      rwa [show k + (i + 1) = k + 1 + i by omega] at this)
    have h0 := hs 0 t0 rfl (by omega)
    rw [show k + 0 = k from rfl] at h0
    rw [show k + (j + 1) = k + 1 + j by omega]
    simp [fvs, h1, h0]
theorem en_o {cy : Nat → ClassId} {M : Mm} {a ci : Nat} (h : gK M a = ci) (hc : ci < 7) : en cy M a = .inr (ci, fvs M a 0 (ft ci)) := by
  subst h
  unfold en
  rw [if_neg (by omega), if_neg (by omega), if_neg (by omega), if_neg (by omega), if_neg (by omega)]
theorem en_I {cy : Nat → ClassId} {M : Mm} {a : Nat} (h : gK M a = 7) : en cy M a = .inl (cy 0, gN M a, .inl (gI M a)) := by simp [en, h]
theorem en_J {cy : Nat → ClassId} {M : Mm} {a : Nat} (h : gK M a = 8) : en cy M a = .inl (cy 1, gN M a, .inr (.inl (gJ M a))) := by simp [en, h]
theorem en_Z {cy : Nat → ClassId} {M : Mm} {a : Nat} (h : gK M a = 9) : en cy M a = .inl (cy 2, gN M a, .inl (gI M a)) := by simp [en, h]
theorem en_R {cy : Nat → ClassId} {M : Mm} {a : Nat} (h : gK M a = 10) : en cy M a = .inl (cy 3, gN M a, .inr (.inr (.inr (.inr (gR M a))))) := by simp [en, h]
theorem en_T {cy : Nat → ClassId} {M : Mm} {a : Nat} (h : gK M a = 11) : en cy M a = .inl (cy 4, gN M a, .inr (.inr (.inr (.inr (gR M a))))) := by simp [en, h]
theorem en_at {cy : Nat → ClassId} {M M' : Mm} {b : Nat} (h1 : gI M b = gI M' b) (h2 : gJ M b = gJ M' b) (h3 : gR M b = gR M' b) (h4 : gK M b = gK M' b) (h5 : gN M b = gN M' b) : en cy M b = en cy M' b := by
  unfold en
  have hf : fvs M b 0 (ft (gK M b)) = fvs M' b 0 (ft (gK M' b)) := by
    rw [← h4]
    exact fvs_same _ 0 (fun j t _ => by simp only [fv, h1, h2, h3])
  rw [h1, h2, h3, h5, hf, h4]
theorem wl_get {cy : Nat → ClassId} {M : Mm} {a : Nat} (h : a ∈ gL M) : ∃ k : Nat, (wl cy M)[k]? = some (a, en cy M a) := va_pl_get (X := []) h
theorem wl_set {A : Nat → Prop} {cy : Nat → ClassId} {M M' : Mm} {a k : Nat} {e : va_E} (hD : va_D A (wl cy M)) (h : a ∈ gL M) (hk : (wl cy M)[k]? = some (a, en cy M a)) (hL : gL M' = gL M) (ha : e = en cy M' a) (hn : ∀ b, b ≠ a → en cy M b = en cy M' b) : (wl cy M).set k (a, e) = wl cy M' := by
  have h1 : (wl cy M).set k (a, e) = va_pl (gL M) (va_up (en cy M) a e) := va_pl_set (X := []) hD h hk
  rw [h1]
  unfold wl
  rw [hL]
  congr 1
  funext b
  unfold va_up
  by_cases hb : b = a
  · rw [if_pos hb, hb, ha]
  · rw [if_neg hb]; exact hn b hb
theorem wl_push {cy : Nat → ClassId} {M M' : Mm} {a : Nat} {e : va_E} (h : a ∉ gL M) (hL : gL M' = gL M ++ [a]) (ha : e = en cy M' a) (hn : ∀ b, b ≠ a → en cy M b = en cy M' b) : wl cy M ++ [(a, e)] = wl cy M' := by
  have h1 : wl cy M ++ [(a, e)] = va_pl (gL M ++ [a]) (va_up (en cy M) a e) := va_pl_push h
  rw [h1]
  unfold wl
  rw [hL]
  congr 1
  funext b
  unfold va_up
  by_cases hb : b = a
  · rw [if_pos hb, hb, ha]
  · rw [if_neg hb]; exact hn b hb
theorem wl_fresh {A : Nat → Prop} {cy : Nat → ClassId} {M : Mm} {a : Nat} {e : va_E} (hD : va_D A (wl cy M ++ [(a, e)])) : a ∉ gL M := by
  intro h
  obtain ⟨k, hk⟩ := wl_get (cy := cy) h
  have hl : k < (wl cy M).length := (List.getElem?_eq_some_iff.mp hk).1
  have h1 : (wl cy M ++ [(a, e)])[k]? = some (a, en cy M a) := by rw [List.getElem?_append_left hl]; exact hk
  have h2 : (wl cy M ++ [(a, e)])[(wl cy M).length]? = some (a, e) := by simp
  have := hD.1 _ _ _ _ h1 h2 rfl
  omega
theorem en_pI {cy : Nat → ClassId} {M : Mm} {a k b : Nat} {v : Int32} (h : b ≠ a) : en cy M b = en cy (pI M a k v) b := en_at (by funext j; rw [gI_pI, if_neg (fun z => h z.1)]) rfl rfl rfl rfl
theorem en_pJ {cy : Nat → ClassId} {M : Mm} {a k b : Nat} {v : Int64} (h : b ≠ a) : en cy M b = en cy (pJ M a k v) b := en_at rfl (by funext j; rw [gJ_pJ, if_neg (fun z => h z.1)]) rfl rfl rfl
theorem en_pR {cy : Nat → ClassId} {M : Mm} {a k b : Nat} {v : Option Nat} (h : b ≠ a) : en cy M b = en cy (pR M a k v) b := en_at rfl rfl (by funext j; rw [gR_pR, if_neg (fun z => h z.1)]) rfl rfl
theorem en_nC {cy : Nat → ClassId} {M : Mm} {a kd n b : Nat} (h : b ≠ a) : en cy M b = en cy (nC M a kd n) b := en_at (by funext j; rw [gI_nC, if_neg h]) (by funext j; rw [gJ_nC, if_neg h]) (by funext j; rw [gR_nC, if_neg h]) (by rw [gK_nC, if_neg h]) (by rw [gN_nC, if_neg h])
theorem en_cI {cy : Nat → ClassId} {M : Mm} {a0 a sp dp n b : Nat} (h : b ≠ a) : en cy M b = en cy (cI M a0 a sp dp n) b := en_at (by funext j; rw [gI_cI, if_neg h]) rfl rfl rfl rfl
theorem fvs_pI {M : Mm} {a k : Nat} {v : Int32} {ts : List Nat} (ht : ts[k]? = some 0) : (fvs M a 0 ts).set k (.int v) = fvs (pI M a k v) a 0 ts := by
  have h := fvs_set (M := M) (M' := pI M a k v) (a := a) ts 0 k 0 ht (fun i t' _ hne => by
    simp [fv, gI_pI, gJ_pI, gR_pI, hne])
  rw [← h]
  simp [fv, gI_pI]
theorem fvs_pJ {M : Mm} {a k : Nat} {v : Int64} {ts : List Nat} (ht : ts[k]? = some 1) : (fvs M a 0 ts).set k (.long v) = fvs (pJ M a k v) a 0 ts := by
  have h := fvs_set (M := M) (M' := pJ M a k v) (a := a) ts 0 k 1 ht (fun i t' _ hne => by
    simp [fv, gI_pJ, gJ_pJ, gR_pJ, hne])
  rw [← h]
  simp [fv, gJ_pJ]
theorem fvs_pR {M : Mm} {a k : Nat} {v : Option Nat} {ts : List Nat} (ht : ts[k]? = some 2) : (fvs M a 0 ts).set k (va_rf v) = fvs (pR M a k v) a 0 ts := by
  have h := fvs_set (M := M) (M' := pR M a k v) (a := a) ts 0 k 2 ht (fun i t' _ hne => by
    simp [fv, gI_pR, gJ_pR, gR_pR, hne])
  rw [← h]
  simp [fv, gR_pR]
