/-! MY ROWS: an instruction over the memory -/
/-- the words of the tables that hold in a callee as they hold in its caller -/
def lwt : List Cond := lw_tbl.filter goodWord
theorem lwt_i (i : Nat) {w : Cond} (h : lw_tbl[i]? = some w) (g : goodWord w = true) : w ∈ lwt := List.mem_filter.mpr ⟨List.mem_of_getElem? h, g⟩
theorem lw_gi {ws : List Cond} (h : ∀ w ∈ ws, w ∈ lwt) : GoodIn lwt ws := fun w hw => ⟨h w hw, good_of_word (List.mem_filter.mp (h w hw)).2⟩
theorem lwt_sub {ws : List Cond} (h : ∀ w ∈ ws, w ∈ lw_tbl) (g : ws.all goodWord = true) : ∀ w ∈ ws, w ∈ lwt := fun w hw => List.mem_filter.mpr ⟨h w hw, List.all_eq_true.mp g w hw⟩
/-- a local's value, by its kind -/
abbrev Tg : Type := Int32 ⊕ Int64 ⊕ Option Nat
abbrev iv (x : Int32) : Tg := .inl x
abbrev jv (x : Int64) : Tg := .inr (.inl x)
abbrev rv (x : Option Nat) : Tg := .inr (.inr x)
def tv : Tg → Value
  | .inl x => .int x
  | .inr (.inl x) => .long x
  | .inr (.inr x) => va_rf x
def ct : Tg → Nat
  | .inl _ => 1
  | .inr (.inl _) => 2
  | .inr (.inr _) => 1
theorem va_rf_cat (x : Option Nat) : (va_rf x).category = 1 := by cases x <;> rfl
theorem tv_cat (v : Tg) : (tv v).category = ct v := by
  rcases v with x | x | x
  · rfl
  · rfl
  · exact va_rf_cat x
def lm (L : List (Nat × Tg)) : List (Nat × Value) := L.map fun q => (q.1, tv q.2)
def lh (ls : Array Slot) (n : Nat) (L : List (Nat × Tg)) : Prop := lv_has ls n (lm L)
theorem lh_at {ls : Array Slot} {n : Nat} {L : List (Nat × Tg)} (h : lh ls n L) (k : Nat) {i : Nat} {v : Tg} (hk : L[k]? = some (i, v)) : ls[i]? = some (.val (tv v)) :=
  lv_at h k (by unfold lm; rw [List.getElem?_map, hk]; rfl)
theorem lh_sub {ls : Array Slot} {n : Nat} {L L' : List (Nat × Tg)} (h : lh ls n L) (ks : List Nat) (hl : ks.filterMap (fun k => L[k]?) = L') : lh ls n L' := by
  refine ⟨h.1, h.2.1, fun q hq => ?_⟩
  unfold lm at hq
  obtain ⟨q0, h0, rfl⟩ := List.mem_map.mp hq
  rw [← hl] at h0
  obtain ⟨k, -, hk⟩ := List.mem_filterMap.mp h0
  exact lh_at h k hk
def ko (i : Nat) (q : Nat × Tg) : Bool := !(q.1 == i) && !(q.1 + 1 == i && ct q.2 == 2)
def koL (i : Nat) (q : Nat × Tg) : Bool := !(q.1 == i) && (!(q.1 == i + 1) && !(q.1 + 1 == i && ct q.2 == 2))
theorem lm_ko (i : Nat) (L : List (Nat × Tg)) : (lm L).filter (fun q => !(q.1 == i) && !(q.1 + 1 == i && q.2.category == 2)) = lm (L.filter (ko i)) := by
  unfold lm
  rw [List.filter_map]
  congr 1
  congr 1
  funext q
  simp only [Function.comp, ko, tv_cat]
theorem lm_koL (i : Nat) (L : List (Nat × Tg)) : (lm L).filter (fun q => !(q.1 == i) && (!(q.1 == i + 1) && !(q.1 + 1 == i && q.2.category == 2))) = lm (L.filter (koL i)) := by
  unfold lm
  rw [List.filter_map]
  congr 1
  congr 1
  funext q
  simp only [Function.comp, koL, tv_cat]
def la : Nat → List Tg → List (Nat × Tg)
  | _, [] => []
  | i, v :: vs => (i, v) :: la (i + ct v) vs
theorem la_args : ∀ (vs : List Tg) (i : Nat), lv_args i (vs.map tv) = lm (la i vs)
  | [], _ => rfl
  | v :: vs, i => by
    have h : (if (tv v).category = 2 then i + 2 else i + 1) = i + ct v := by
      rw [tv_cat]
      rcases v with x | x | x <;> simp [ct]
    show (i, tv v) :: lv_args (if (tv v).category = 2 then i + 2 else i + 1) (vs.map tv) = (i, tv v) :: lm (la (i + ct v) vs)
    rw [h, la_args vs (i + ct v)]
theorem la_len : ∀ (vs : List Tg), (lg_sl (vs.map tv)).length = (vs.map ct).sum
  | [] => rfl
  | v :: vs => by
    have := la_len vs
    unfold lg_sl at this ⊢
    rw [List.map_cons, List.flatMap_cons, List.length_append, this, List.map_cons, List.sum_cons, tv_cat]
    rcases v with x | x | x <;> rfl
theorem tv_sum (rs : List Tg) : ((rs.map tv).map fun v => v.category).sum = (rs.map ct).sum := by
  rw [List.map_map]
  congr 2
  funext v
  exact tv_cat v
def dv (t : Nat) : Value := if t = 0 then .int 0 else if t = 1 then .long 0 else .null
theorem fvs_nC (M : Mm) (a kd n : Nat) : ∀ (ts : List Nat) (k : Nat), fvs (nC M a kd n) a k ts = ts.map dv
  | [], _ => rfl
  | t :: ts, k => by
    rw [fvs, List.map_cons, fvs_nC M a kd n ts (k + 1)]
    congr 1
    simp [fv, dv, gI_nC, gJ_nC, gR_nC, va_rf]
def Cls (ci : Nat) (C : String) (T : u_T) (N : Nat) (ty : Nat → FieldType) : Prop := vwCl[ci]? = some (C, T, N) ∧ (∀ w ∈ u_ws C T N, w ∈ lwt) ∧ (∀ k, k < N → parseFieldDescriptor (T k).2.2.1 = some (ty k)) ∧ (∀ a, a < N → ∀ b, b < N → a ≠ b → (T a).2.1 ≠ (T b).2.1) ∧ ci < 7 ∧ (ft ci).length = N ∧ ∀ j, j < N → defaultValue (ty j) = vp_V ((ft ci).map dv) j
/-- what the machine's own tables say, beside the words -/
def Vk (D : va_G) (cy : Nat → ClassId) (U : State) : Prop := va_K D vwCl (tyq cy) U ∧ va_AO RX3 U ∧ va_AO RX4 U ∧ va_Nw (.methodLinkNest RX5 24 yX1_init RX5) U ∧ va_Nw (.methodLinkNest RX5 31 yX2_init RX5) U ∧ va_Nw (.methodLinkNest RX5 247 yX0_init RX5) U
theorem Vk.warm {D : va_G} {cy : Nat → ClassId} {s U : State} (h : Vk D cy s) (hW : s.WarmedH U.vm) : Vk D cy U := ⟨va_K.moved hW.alike h.1, va_AO.moved hW.alike h.2.1, va_AO.moved hW.alike h.2.2.1, va_Nw.warmM hW h.2.2.2.1, va_Nw.warmM hW h.2.2.2.2.1, va_Nw.warmM hW h.2.2.2.2.2⟩
theorem Vk.calling {D : va_G} {cy : Nat → ClassId} {U : State} (h : Vk D cy U) (g : JFrame) (mk : MethodId) (a : Array Value) : Vk D cy (U.calling g mk a) := ⟨va_K.moved (u := U) (U := U.calling g mk a) (Vm.Alike.refl U.vm) h.1, va_AO.moved (u := U) (U := U.calling g mk a) (Vm.Alike.refl U.vm) h.2.1, va_AO.moved (u := U) (U := U.calling g mk a) (Vm.Alike.refl U.vm) h.2.2.1, va_Nw.same rfl (u := U) (U := U.calling g mk a) rfl h.2.2.2.1, va_Nw.same rfl (u := U) (U := U.calling g mk a) rfl h.2.2.2.2.1, va_Nw.same rfl (u := U) (U := U.calling g mk a) rfl h.2.2.2.2.2⟩
def Ex (p : Program) (m : MethodId) (c : Code) (cc : ByteArray) (nL : Nat) (s : State) (args : Array Value) (own : String) (D : va_G) (cy : Nat → ClassId) (A : Nat → Prop) : Prop := CallFix p m c cc nL s args lwt own ∧ Vk D cy s ∧ ∀ q : Nat, s.heap.size ≤ q → A q
def Wd (D : va_G) (cy : Nat → ClassId) (A : Nat → Prop) (s : State) (M : Mm) (H : Heap) (locs : List Loc) : Prop := va_P D vwCl (wl cy M) H ∧ va_D A (wl cy M) ∧ va_S A s.heap H locs
/-- a method: its word is among the tables', and how many it takes -/
def Yk (y : MethodName) (cd : Cond) (bytes : ByteArray) (maxL : Nat) (ret : Option FieldType) (n : Nat) : Prop := cd = Cond.code y bytes maxL ret ∧ cd ∈ lwt ∧ Cond.initialized y.cls ∈ lwt ∧ (y.cls ≠ "java/lang/invoke/MethodHandle" ∧ y.cls ≠ "java/lang/invoke/VarHandle" ∧ (parseMethodDescriptor y.desc).map (fun d => d.parameters.length) = some n)
def Pr (D : va_G) (cy : Nat → ClassId) (sz : Nat) (M : Mm) (U : State) : Prop := U.heap.size = sz ∧ va_P D vwCl (wl cy M) U.heap ∧ Vk D cy U ∧ va_D (fun _ => True) (wl cy M)
def Po (D : va_G) (cy : Nat → ClassId) (A : Nat → Prop) (M : Mm) (t : State) : Prop := va_P D vwCl (wl cy M) t.heap ∧ va_D A (wl cy M)
def KI (l : Launch) (y : MethodName) (cd : Cond) (rm : Room) (av : List Tg) (M : Mm) (Qm : Int32 → Mm → Prop) : Prop := ∀ (D : va_G) (cy : Nat → ClassId) (sz : Nat), Met l y (cd :: lwt) rm (va_Pc (av.map tv) (Pr D cy sz M)) (va_Qi Qm (Po D cy (va_A (wl cy M) sz)) (va_A (wl cy M) sz)) rm.cells rm.slots (va_A (wl cy M) sz)
def KL (l : Launch) (y : MethodName) (cd : Cond) (rm : Room) (av : List Tg) (M : Mm) (Qm : Int64 → Mm → Prop) : Prop := ∀ (D : va_G) (cy : Nat → ClassId) (sz : Nat), Met l y (cd :: lwt) rm (va_Pc (av.map tv) (Pr D cy sz M)) (va_Ql Qm (Po D cy (va_A (wl cy M) sz)) (va_A (wl cy M) sz)) rm.cells rm.slots (va_A (wl cy M) sz)
def KV (l : Launch) (y : MethodName) (cd : Cond) (rm : Room) (av : List Tg) (M : Mm) (Qm : Mm → Prop) : Prop := ∀ (D : va_G) (cy : Nat → ClassId) (sz : Nat), Met l y (cd :: lwt) rm (va_Pc (av.map tv) (Pr D cy sz M)) (va_Qv Qm (Po D cy (va_A (wl cy M) sz)) (va_A (wl cy M) sz)) rm.cells rm.slots (va_A (wl cy M) sz)
def KQ (l : Launch) (y : MethodName) (cd : Cond) (rm : Room) (av : List Tg) (M : Mm) (Qm : Option Nat → Mm → Prop) : Prop := ∀ (D : va_G) (cy : Nat → ClassId) (sz : Nat), Met l y (cd :: lwt) rm (va_Pc (av.map tv) (Pr D cy sz M)) (va_Qq Qm (Po D cy (va_A (wl cy M) sz)) (va_A (wl cy M) sz)) rm.cells rm.slots (va_A (wl cy M) sz)
section RW
variable {p : Program} {l : Launch} {e : Env} {R : Room} {s : State} {m : MethodId} {args : Array Value} {below : List Frame} {meth : Method} {c : Code} {H : Heap} {locs : List Loc} {cells slots : Nat} {Q : State → Prop} {cc : ByteArray} {nL pc : Nat} {own : String} {ls : Array Slot} {rest : List Value} {D : va_G} {cy : Nat → ClassId} {A : Nat → Prop} {M : Mm}
-- references in locals and on the stack
theorem r_aload (hx : p.tables.exec = Jvm.exec) (hb : c.code = cc) {i : Nat} {x : Option Nat} (hd : decode cc pc = .ok (.aload i, 2)) (hl : ls[i]? = some (.val (va_rf x))) (k : W p l e R s m args below meth c H locs cells slots Q (F0 m (pc + 2) ls (va_rf x :: rest))) : W p l e R s m args below meth c H locs cells slots Q (F0 m pc ls rest) := by
  cases x with
  | none => exact lv_aloadN hx hb hd hl k
  | some a => exact lv_aload hx hb hd hl k
theorem r_aload_n (hx : p.tables.exec = Jvm.exec) (hb : c.code = cc) {k : Fin 4} {i : Nat} {x : Option Nat} (hd : decode cc pc = .ok (.aload_n k, 1)) (hi : (k : Nat) = i) (hl : ls[i]? = some (.val (va_rf x))) (k : W p l e R s m args below meth c H locs cells slots Q (F0 m (pc + 1) ls (va_rf x :: rest))) : W p l e R s m args below meth c H locs cells slots Q (F0 m pc ls rest) := by
  cases x with
  | none => exact lv_aload_nN hx hb hd hi hl k
  | some a => exact lv_aload_n hx hb hd hi hl k
theorem r_astore (hx : p.tables.exec = Jvm.exec) (hb : c.code = cc) {i : Nat} {x : Option Nat} {lv lv' : List (Nat × Tg)} (hd : decode cc pc = .ok (.astore i, 2)) (h : lh ls nL lv) (hn : i < nL) (hl : (i, rv x) :: lv.filter (ko i) = lv') (kk : ∀ ls' : Array Slot, lh ls' nL lv' → W p l e R s m args below meth c H locs cells slots Q (F0 m (pc + 2) ls' rest)) : W p l e R s m args below meth c H locs cells slots Q (F0 m pc ls (va_rf x :: rest)) := by
  subst hl
  cases x with
  | none => exact lv_astoreN hx hb hd h hn rfl (fun ls' h' => kk ls' (by rw [lm_ko] at h'; exact h'))
  | some a => exact lv_astore hx hb hd h hn rfl (fun ls' h' => kk ls' (by rw [lm_ko] at h'; exact h'))
theorem r_astore_n (hx : p.tables.exec = Jvm.exec) (hb : c.code = cc) {k : Fin 4} {i : Nat} {x : Option Nat} {lv lv' : List (Nat × Tg)} (hd : decode cc pc = .ok (.astore_n k, 1)) (hi : (k : Nat) = i) (h : lh ls nL lv) (hn : i < nL) (hl : (i, rv x) :: lv.filter (ko i) = lv') (kk : ∀ ls' : Array Slot, lh ls' nL lv' → W p l e R s m args below meth c H locs cells slots Q (F0 m (pc + 1) ls' rest)) : W p l e R s m args below meth c H locs cells slots Q (F0 m pc ls (va_rf x :: rest)) := by
  subst hl
  cases x with
  | none => exact lv_astore_nN hx hb hd hi h hn rfl (fun ls' h' => kk ls' (by rw [lm_ko] at h'; exact h'))
  | some a => exact lv_astore_n hx hb hd hi h hn rfl (fun ls' h' => kk ls' (by rw [lm_ko] at h'; exact h'))
theorem r_ifnull (hx : p.tables.exec = Jvm.exec) (hb : c.code = cc) {x : Option Nat} {off : Int} {tgt : Nat} (hd : decode cc pc = .ok (.ifnull off, 3)) (ht : (pc : Int) + off = (tgt : Int)) (kn : x = none → W p l e R s m args below meth c H locs cells slots Q (F0 m tgt ls rest)) (ks : ∀ a, x = some a → W p l e R s m args below meth c H locs cells slots Q (F0 m (pc + 3) ls rest)) : W p l e R s m args below meth c H locs cells slots Q (F0 m pc ls (va_rf x :: rest)) := by
  cases x with
  | none => exact lv_ifnullN hx hb hd ht (kn rfl)
  | some a => exact lv_ifnull hx hb hd (ks a rfl)
theorem r_ifnonnull (hx : p.tables.exec = Jvm.exec) (hb : c.code = cc) {x : Option Nat} {off : Int} {tgt : Nat} (hd : decode cc pc = .ok (.ifnonnull off, 3)) (ht : (pc : Int) + off = (tgt : Int)) (kn : x = none → W p l e R s m args below meth c H locs cells slots Q (F0 m (pc + 3) ls rest)) (ks : ∀ a, x = some a → W p l e R s m args below meth c H locs cells slots Q (F0 m tgt ls rest)) : W p l e R s m args below meth c H locs cells slots Q (F0 m pc ls (va_rf x :: rest)) := by
  cases x with
  | none => exact lv_ifnonnullN hx hb hd (kn rfl)
  | some a => exact lv_ifnonnull hx hb hd ht (ks a rfl)
theorem r_null (hx : p.tables.exec = Jvm.exec) (hb : c.code = cc) (hd : decode cc pc = .ok (.aconst_null, 1)) (k : W p l e R s m args below meth c H locs cells slots Q (F0 m (pc + 1) ls (va_rf none :: rest))) : W p l e R s m args below meth c H locs cells slots Q (F0 m pc ls rest) := lv_null hx hb hd k
theorem r_dupr (hx : p.tables.exec = Jvm.exec) (hb : c.code = cc) {x : Option Nat} (hd : decode cc pc = .ok (.dup, 1)) (k : W p l e R s m args below meth c H locs cells slots Q (F0 m (pc + 1) ls (va_rf x :: va_rf x :: rest))) : W p l e R s m args below meth c H locs cells slots Q (F0 m pc ls (va_rf x :: rest)) := lv_dup hx hb hd (va_rf_cat x) k
theorem r_dup2r (hx : p.tables.exec = Jvm.exec) (hb : c.code = cc) {x : Option Nat} {i : Int32} (hd : decode cc pc = .ok (.dup2, 1)) (k : W p l e R s m args below meth c H locs cells slots Q (F0 m (pc + 1) ls (.int i :: va_rf x :: .int i :: va_rf x :: rest))) : W p l e R s m args below meth c H locs cells slots Q (F0 m pc ls (.int i :: va_rf x :: rest)) := lv_dup2_11 hx hb hd rfl (va_rf_cat x) k
theorem r_istore (hx : p.tables.exec = Jvm.exec) (hb : c.code = cc) {i : Nat} {x : Int32} {lv lv' : List (Nat × Tg)} (hd : decode cc pc = .ok (.istore i, 2)) (h : lh ls nL lv) (hn : i < nL) (hl : (i, iv x) :: lv.filter (ko i) = lv') (kk : ∀ ls' : Array Slot, lh ls' nL lv' → W p l e R s m args below meth c H locs cells slots Q (F0 m (pc + 2) ls' rest)) : W p l e R s m args below meth c H locs cells slots Q (F0 m pc ls (.int x :: rest)) := by
  subst hl
  exact lv_istore hx hb hd h hn rfl (fun ls' h' => kk ls' (by rw [lm_ko] at h'; exact h'))
theorem r_istore_n (hx : p.tables.exec = Jvm.exec) (hb : c.code = cc) {k : Fin 4} {i : Nat} {x : Int32} {lv lv' : List (Nat × Tg)} (hd : decode cc pc = .ok (.istore_n k, 1)) (hi : (k : Nat) = i) (h : lh ls nL lv) (hn : i < nL) (hl : (i, iv x) :: lv.filter (ko i) = lv') (kk : ∀ ls' : Array Slot, lh ls' nL lv' → W p l e R s m args below meth c H locs cells slots Q (F0 m (pc + 1) ls' rest)) : W p l e R s m args below meth c H locs cells slots Q (F0 m pc ls (.int x :: rest)) := by
  subst hl
  exact lv_istore_n hx hb hd hi h hn rfl (fun ls' h' => kk ls' (by rw [lm_ko] at h'; exact h'))
theorem r_lstore (hx : p.tables.exec = Jvm.exec) (hb : c.code = cc) {i : Nat} {x : Int64} {lv lv' : List (Nat × Tg)} (hd : decode cc pc = .ok (.lstore i, 2)) (h : lh ls nL lv) (hn : i + 1 < nL) (hl : (i, jv x) :: lv.filter (koL i) = lv') (kk : ∀ ls' : Array Slot, lh ls' nL lv' → W p l e R s m args below meth c H locs cells slots Q (F0 m (pc + 2) ls' rest)) : W p l e R s m args below meth c H locs cells slots Q (F0 m pc ls (.long x :: rest)) := by
  subst hl
  exact lv_lstore hx hb hd h hn rfl (fun ls' h' => kk ls' (by rw [lm_koL] at h'; exact h'))
theorem r_lstore_n (hx : p.tables.exec = Jvm.exec) (hb : c.code = cc) {k : Fin 4} {i : Nat} {x : Int64} {lv lv' : List (Nat × Tg)} (hd : decode cc pc = .ok (.lstore_n k, 1)) (hi : (k : Nat) = i) (h : lh ls nL lv) (hn : i + 1 < nL) (hl : (i, jv x) :: lv.filter (koL i) = lv') (kk : ∀ ls' : Array Slot, lh ls' nL lv' → W p l e R s m args below meth c H locs cells slots Q (F0 m (pc + 1) ls' rest)) : W p l e R s m args below meth c H locs cells slots Q (F0 m pc ls (.long x :: rest)) := by
  subst hl
  exact lv_lstore_n hx hb hd hi h hn rfl (fun ls' h' => kk ls' (by rw [lm_koL] at h'; exact h'))
theorem r_iinc (hx : p.tables.exec = Jvm.exec) (hb : c.code = cc) {i k : Nat} {n : Int} {x v : Int32} {lv lv' : List (Nat × Tg)} (hd : decode cc pc = .ok (.iinc i n, 3)) (h : lh ls nL lv) (hk : lv[k]? = some (i, iv x)) (hv : x + Int32.ofInt n = v) (hn : i < nL) (hl : (i, iv v) :: lv.filter (ko i) = lv') (kk : ∀ ls' : Array Slot, lh ls' nL lv' → W p l e R s m args below meth c H locs cells slots Q (F0 m (pc + 3) ls' rest)) : W p l e R s m args below meth c H locs cells slots Q (F0 m pc ls rest) := by
  subst hl
  exact lv_iinc (k := k) hx hb hd h (by unfold lm; rw [List.getElem?_map, hk]; rfl) hv hn rfl (fun ls' h' => kk ls' (by rw [lm_ko] at h'; exact h'))
-- fields
theorem r_getI (E : Ex p m c cc nL s args own D cy A) (w : Wd D cy A s M H locs) {x : Option Nat} {a ci : Nat} {C : String} {T : u_T} {N : Nat} {ty : Nat → FieldType} (hxa : x = some a) (ho : ok M a ci) (K : Cls ci C T N ty) (k : Nat) {idx : Nat} (ht : (ft ci)[k]? = some 0) (hl : Cond.fieldLink own idx (T k).1 (T k).2.1 (T k).2.2.1 ∈ lwt) (hd : decode cc pc = .ok (.getfield idx, 3)) (kk : W p l e R s m args below meth c H locs cells slots Q (F0 m (pc + 3) ls (.int (gI M a k) :: rest))) : W p l e R s m args below meth c H locs cells slots Q (F0 m pc ls (va_rf x :: rest)) := by
  subst hxa
  obtain ⟨k0, hk0⟩ := wl_get (cy := cy) ho.1
  rw [en_o ho.2 K.2.2.2.2.1] at hk0
  have hkN : k < N := by rw [← K.2.2.2.2.2.1]; exact (List.getElem?_eq_some_iff.mp ht).1
  have hv := fvs_get M a (ft ci) 0 k 0 ht
  rw [show fv M a 0 (0 + k) = .int (gI M a k) by simp [fv]] at hv
  exact va_get E.1.1 E.1.2.1 E.1.2.2.2.2 K.2.1 E.1.2.2.2.1 E.2.1.1 w.1 k0 hk0 K.1 k hkN (E.1.2.2.2.2 _ hl) (fun _ h => h) hv hd kk
theorem r_getJ (E : Ex p m c cc nL s args own D cy A) (w : Wd D cy A s M H locs) {x : Option Nat} {a ci : Nat} {C : String} {T : u_T} {N : Nat} {ty : Nat → FieldType} (hxa : x = some a) (ho : ok M a ci) (K : Cls ci C T N ty) (k : Nat) {idx : Nat} (ht : (ft ci)[k]? = some 1) (hl : Cond.fieldLink own idx (T k).1 (T k).2.1 (T k).2.2.1 ∈ lwt) (hd : decode cc pc = .ok (.getfield idx, 3)) (kk : W p l e R s m args below meth c H locs cells slots Q (F0 m (pc + 3) ls (.long (gJ M a k) :: rest))) : W p l e R s m args below meth c H locs cells slots Q (F0 m pc ls (va_rf x :: rest)) := by
  subst hxa
  obtain ⟨k0, hk0⟩ := wl_get (cy := cy) ho.1
  rw [en_o ho.2 K.2.2.2.2.1] at hk0
  have hkN : k < N := by rw [← K.2.2.2.2.2.1]; exact (List.getElem?_eq_some_iff.mp ht).1
  have hv := fvs_get M a (ft ci) 0 k 1 ht
  rw [show fv M a 1 (0 + k) = .long (gJ M a k) by simp [fv]] at hv
  exact va_get E.1.1 E.1.2.1 E.1.2.2.2.2 K.2.1 E.1.2.2.2.1 E.2.1.1 w.1 k0 hk0 K.1 k hkN (E.1.2.2.2.2 _ hl) (fun _ h => h) hv hd kk
theorem r_getR (E : Ex p m c cc nL s args own D cy A) (w : Wd D cy A s M H locs) {x : Option Nat} {a ci : Nat} {C : String} {T : u_T} {N : Nat} {ty : Nat → FieldType} (hxa : x = some a) (ho : ok M a ci) (K : Cls ci C T N ty) (k : Nat) {idx : Nat} (ht : (ft ci)[k]? = some 2) (hl : Cond.fieldLink own idx (T k).1 (T k).2.1 (T k).2.2.1 ∈ lwt) (hd : decode cc pc = .ok (.getfield idx, 3)) (kk : W p l e R s m args below meth c H locs cells slots Q (F0 m (pc + 3) ls (va_rf (gR M a k) :: rest))) : W p l e R s m args below meth c H locs cells slots Q (F0 m pc ls (va_rf x :: rest)) := by
  subst hxa
  obtain ⟨k0, hk0⟩ := wl_get (cy := cy) ho.1
  rw [en_o ho.2 K.2.2.2.2.1] at hk0
  have hkN : k < N := by rw [← K.2.2.2.2.2.1]; exact (List.getElem?_eq_some_iff.mp ht).1
  have hv := fvs_get M a (ft ci) 0 k 2 ht
  rw [show fv M a 2 (0 + k) = va_rf (gR M a k) by simp [fv]] at hv
  exact va_get E.1.1 E.1.2.1 E.1.2.2.2.2 K.2.1 E.1.2.2.2.1 E.2.1.1 w.1 k0 hk0 K.1 k hkN (E.1.2.2.2.2 _ hl) (fun _ h => h) hv hd kk
theorem r_put0 (E : Ex p m c cc nL s args own D cy A) (w : Wd D cy A s M H locs) {M' : Mm} {x : Option Nat} {a ci t : Nat} {C : String} {T : u_T} {N : Nat} {ty : Nat → FieldType} {v : Value} (hxa : x = some a) (ho : ok M a ci) (K : Cls ci C T N ty) (k : Nat) {idx : Nat} (ht : (ft ci)[k]? = some t) (hl : Cond.fieldLink own idx (T k).1 (T k).2.1 (T k).2.2.1 ∈ lwt) (hfin : (T k).2.2.2 = false ∨ ((T k).2.2.2 = true ∧ meth.name = "<init>" ∧ (T k).1 = own)) (hn : narrow (ty k) v = v) (hfit : fits (ty k) v = true) (hL : gL M' = gL M) (hKd : gK M' a = gK M a) (hfs : (fvs M a 0 (ft ci)).set k v = fvs M' a 0 (ft ci)) (hne : ∀ b, b ≠ a → en cy M b = en cy M' b) (hd : decode cc pc = .ok (.putfield idx, 3)) (kk : ∀ (H' : Heap) (locs' : List Loc), Wd D cy A s M' H' locs' → W p l e R s m args below meth c H' locs' cells slots Q (F0 m (pc + 3) ls rest)) : W p l e R s m args below meth c H locs cells slots Q (F0 m pc ls (v :: va_rf x :: rest)) := by
  subst hxa
  obtain ⟨k0, hk00⟩ := wl_get (cy := cy) ho.1
  have hk0 := hk00
  rw [en_o ho.2 K.2.2.2.2.1] at hk0
  have hkN : k < N := by rw [← K.2.2.2.2.2.1]; exact (List.getElem?_eq_some_iff.mp ht).1
  have hset : (wl cy M).set k0 (a, .inr (ci, (fvs M a 0 (ft ci)).set k v)) = wl cy M' := by
    refine wl_set w.2.1 ho.1 hk00 hL ?_ hne
    rw [en_o (by rw [hKd]; exact ho.2) K.2.2.2.2.1, hfs]
  have hlen : k < (fvs M a 0 (ft ci)).length := by rw [fvs_len, K.2.2.2.2.2.1]; exact hkN
  rcases hfin with hf | ⟨hf, hi, hde⟩
  · exact va_put E.1.1 E.1.2.1 E.1.2.2.2.2 K.2.1 ty K.2.2.1 K.2.2.2.1 E.1.2.2.2.1 E.2.1.1 w.1 w.2.1 w.2.2 k0 hk0 K.1 k hkN (E.1.2.2.2.2 _ hl) (fun _ h => h) hf (K.2.2.1 k hkN) hn hfit hlen hd (fun H1 locs1 h1 h2 h3 => kk H1 locs1 (by rw [hset] at h1 h2; exact ⟨h1, h2, h3⟩))
  · exact va_putF E.1.1 E.1.2.1 E.1.2.2.2.2 K.2.1 ty K.2.2.1 K.2.2.2.1 E.1.2.2.2.1 E.2.1.1 w.1 w.2.1 w.2.2 k0 hk0 K.1 k hkN (E.1.2.2.2.2 _ hl) (fun _ h => h) hf hi hde (K.2.2.1 k hkN) hn hfit hlen hd (fun H1 locs1 h1 h2 h3 => kk H1 locs1 (by rw [hset] at h1 h2; exact ⟨h1, h2, h3⟩))
theorem r_putI (E : Ex p m c cc nL s args own D cy A) (w : Wd D cy A s M H locs) {x : Option Nat} {a ci : Nat} {C : String} {T : u_T} {N : Nat} {ty : Nat → FieldType} {v : Int32} (hxa : x = some a) (ho : ok M a ci) (K : Cls ci C T N ty) (k : Nat) {idx : Nat} (ht : (ft ci)[k]? = some 0) (hl : Cond.fieldLink own idx (T k).1 (T k).2.1 (T k).2.2.1 ∈ lwt) (hfin : (T k).2.2.2 = false ∨ ((T k).2.2.2 = true ∧ meth.name = "<init>" ∧ (T k).1 = own)) (hty : ty k = .int ∨ (ty k = .boolean ∧ bl v)) (hd : decode cc pc = .ok (.putfield idx, 3)) (kk : ∀ (H' : Heap) (locs' : List Loc), Wd D cy A s (pI M a k v) H' locs' → W p l e R s m args below meth c H' locs' cells slots Q (F0 m (pc + 3) ls rest)) : W p l e R s m args below meth c H locs cells slots Q (F0 m pc ls (.int v :: va_rf x :: rest)) := by
  refine r_put0 (M' := pI M a k v) E w hxa ho K k ht hl hfin ?_ ?_ rfl rfl (fvs_pI ht) (fun b hb => en_pI hb) hd kk
  · rcases hty with h | ⟨h, h0 | h1⟩
    · rw [h]; rfl
    · rw [h, h0]; rfl
    · rw [h, h1]; rfl
  · rcases hty with h | ⟨h, h0 | h1⟩
    · rw [h]; rfl
    · rw [h, h0]; rfl
    · rw [h, h1]; rfl
theorem r_putJ (E : Ex p m c cc nL s args own D cy A) (w : Wd D cy A s M H locs) {x : Option Nat} {a ci : Nat} {C : String} {T : u_T} {N : Nat} {ty : Nat → FieldType} {v : Int64} (hxa : x = some a) (ho : ok M a ci) (K : Cls ci C T N ty) (k : Nat) {idx : Nat} (ht : (ft ci)[k]? = some 1) (hl : Cond.fieldLink own idx (T k).1 (T k).2.1 (T k).2.2.1 ∈ lwt) (hfin : (T k).2.2.2 = false ∨ ((T k).2.2.2 = true ∧ meth.name = "<init>" ∧ (T k).1 = own)) (hty : ty k = .long) (hd : decode cc pc = .ok (.putfield idx, 3)) (kk : ∀ (H' : Heap) (locs' : List Loc), Wd D cy A s (pJ M a k v) H' locs' → W p l e R s m args below meth c H' locs' cells slots Q (F0 m (pc + 3) ls rest)) : W p l e R s m args below meth c H locs cells slots Q (F0 m pc ls (.long v :: va_rf x :: rest)) :=
  r_put0 (M' := pJ M a k v) E w hxa ho K k ht hl hfin (by rw [hty]; rfl) (by rw [hty]; rfl) rfl rfl (fvs_pJ ht) (fun b hb => en_pJ hb) hd kk
theorem r_putR (E : Ex p m c cc nL s args own D cy A) (w : Wd D cy A s M H locs) {x : Option Nat} {a ci : Nat} {C : String} {T : u_T} {N : Nat} {ty : Nat → FieldType} {v : Option Nat} (hxa : x = some a) (ho : ok M a ci) (K : Cls ci C T N ty) (k : Nat) {idx : Nat} (ht : (ft ci)[k]? = some 2) (hl : Cond.fieldLink own idx (T k).1 (T k).2.1 (T k).2.2.1 ∈ lwt) (hfin : (T k).2.2.2 = false ∨ ((T k).2.2.2 = true ∧ meth.name = "<init>" ∧ (T k).1 = own)) (hty : (∃ n, ty k = .object n) ∨ ∃ n, ty k = .array n) (hd : decode cc pc = .ok (.putfield idx, 3)) (kk : ∀ (H' : Heap) (locs' : List Loc), Wd D cy A s (pR M a k v) H' locs' → W p l e R s m args below meth c H' locs' cells slots Q (F0 m (pc + 3) ls rest)) : W p l e R s m args below meth c H locs cells slots Q (F0 m pc ls (va_rf v :: va_rf x :: rest)) := by
  refine r_put0 (M' := pR M a k v) E w hxa ho K k ht hl hfin ?_ ?_ rfl rfl (fvs_pR ht) (fun b hb => en_pR hb) hd kk
  · rcases hty with ⟨n, h⟩ | ⟨n, h⟩ <;> rw [h] <;> cases v <;> rfl
  · rcases hty with ⟨n, h⟩ | ⟨n, h⟩ <;> rw [h] <;> cases v <;> rfl
end RW
