/-! MY ROWS, 2: arrays, what is made, returns, calls, the entry -/
section RX
variable {p : Program} {l : Launch} {e : Env} {R : Room} {s : State} {m : MethodId} {args : Array Value} {below : List Frame} {meth : Method} {c : Code} {H : Heap} {locs : List Loc} {cells slots : Nat} {Q : State → Prop} {cc : ByteArray} {nL pc : Nat} {own : String} {ls : Array Slot} {rest : List Value} {D : va_G} {cy : Nat → ClassId} {A : Nat → Prop} {M : Mm}
theorem r_iald (E : Ex p m c cc nL s args own D cy A) (w : Wd D cy A s M H locs) {x : Option Nat} {a : Nat} {i : Int32} (hxa : x = some a) (ha : ar M a 7 i) (hd : decode cc pc = .ok (.iaload, 1)) (kk : W p l e R s m args below meth c H locs cells slots Q (F0 m (pc + 1) ls (.int (gI M a i.toNatClampNeg) :: rest))) : W p l e R s m args below meth c H locs cells slots Q (F0 m pc ls (.int i :: va_rf x :: rest)) := by
  subst hxa
  obtain ⟨k0, hk0⟩ := wl_get (cy := cy) ha.1.1
  rw [en_I ha.1.2] at hk0
  exact va_iald E.1.1 E.1.2.1 E.2.1.1 w.1 k0 0 hk0 rfl ha.2 hd kk
theorem r_lald (E : Ex p m c cc nL s args own D cy A) (w : Wd D cy A s M H locs) {x : Option Nat} {a : Nat} {i : Int32} (hxa : x = some a) (ha : ar M a 8 i) (hd : decode cc pc = .ok (.laload, 1)) (kk : W p l e R s m args below meth c H locs cells slots Q (F0 m (pc + 1) ls (.long (gJ M a i.toNatClampNeg) :: rest))) : W p l e R s m args below meth c H locs cells slots Q (F0 m pc ls (.int i :: va_rf x :: rest)) := by
  subst hxa
  obtain ⟨k0, hk0⟩ := wl_get (cy := cy) ha.1.1
  rw [en_J ha.1.2] at hk0
  exact va_lald E.1.1 E.1.2.1 E.2.1.1 w.1 k0 1 hk0 rfl ha.2 hd kk
theorem r_zald (E : Ex p m c cc nL s args own D cy A) (w : Wd D cy A s M H locs) {x : Option Nat} {a : Nat} {i : Int32} (hxa : x = some a) (ha : ar M a 9 i) (hd : decode cc pc = .ok (.baload, 1)) (kk : W p l e R s m args below meth c H locs cells slots Q (F0 m (pc + 1) ls (.int (gI M a i.toNatClampNeg) :: rest))) : W p l e R s m args below meth c H locs cells slots Q (F0 m pc ls (.int i :: va_rf x :: rest)) := by
  subst hxa
  obtain ⟨k0, hk0⟩ := wl_get (cy := cy) ha.1.1
  rw [en_Z ha.1.2] at hk0
  exact va_zald E.1.1 E.1.2.1 E.2.1.1 w.1 k0 2 hk0 rfl ha.2 hd kk
theorem r_aald10 (E : Ex p m c cc nL s args own D cy A) (w : Wd D cy A s M H locs) {x : Option Nat} {a : Nat} {i : Int32} (hxa : x = some a) (ha : ar M a 10 i) (hd : decode cc pc = .ok (.aaload, 1)) (kk : W p l e R s m args below meth c H locs cells slots Q (F0 m (pc + 1) ls (va_rf (gR M a i.toNatClampNeg) :: rest))) : W p l e R s m args below meth c H locs cells slots Q (F0 m pc ls (.int i :: va_rf x :: rest)) := by
  subst hxa
  obtain ⟨k0, hk0⟩ := wl_get (cy := cy) ha.1.1
  rw [en_R ha.1.2] at hk0
  exact va_aldq E.1.1 E.1.2.1 E.2.1.1 w.1 k0 3 hk0 rfl ha.2 hd kk
theorem r_aald11 (E : Ex p m c cc nL s args own D cy A) (w : Wd D cy A s M H locs) {x : Option Nat} {a : Nat} {i : Int32} (hxa : x = some a) (ha : ar M a 11 i) (hd : decode cc pc = .ok (.aaload, 1)) (kk : W p l e R s m args below meth c H locs cells slots Q (F0 m (pc + 1) ls (va_rf (gR M a i.toNatClampNeg) :: rest))) : W p l e R s m args below meth c H locs cells slots Q (F0 m pc ls (.int i :: va_rf x :: rest)) := by
  subst hxa
  obtain ⟨k0, hk0⟩ := wl_get (cy := cy) ha.1.1
  rw [en_T ha.1.2] at hk0
  exact va_aldq E.1.1 E.1.2.1 E.2.1.1 w.1 k0 4 hk0 rfl ha.2 hd kk
theorem r_iast (E : Ex p m c cc nL s args own D cy A) (w : Wd D cy A s M H locs) {x : Option Nat} {a : Nat} {i : Int32} {v : Int32} (hxa : x = some a) (ha : ar M a 7 i) (hd : decode cc pc = .ok (.iastore, 1)) (kk : ∀ (H' : Heap) (locs' : List Loc), Wd D cy A s (pI M a i.toNatClampNeg v) H' locs' → W p l e R s m args below meth c H' locs' cells slots Q (F0 m (pc + 1) ls rest)) : W p l e R s m args below meth c H locs cells slots Q (F0 m pc ls (.int v :: .int i :: va_rf x :: rest)) := by
  subst hxa
  obtain ⟨k0, hk00⟩ := wl_get (cy := cy) ha.1.1
  have hk0 := hk00
  rw [en_I ha.1.2] at hk0
  refine va_iast E.1.1 E.1.2.1 E.2.1.1 w.1 w.2.1 w.2.2 k0 0 hk0 rfl ha.2 hd (fun H1 locs1 h1 h2 h3 => kk H1 locs1 ?_)
  have hset : (wl cy M).set k0 (a, .inl (cy 0, gN M a, .inl (upd (gI M a) i.toNatClampNeg v))) = wl cy (pI M a i.toNatClampNeg v) := by
    refine wl_set w.2.1 ha.1.1 hk00 rfl ?_ (fun b hb => en_pI hb)
    rw [en_I (show gK (pI M a i.toNatClampNeg v) a = 7 from ha.1.2)]
    have hf : gI (pI M a i.toNatClampNeg v) a = upd (gI M a) i.toNatClampNeg v := by
      funext q
      simp [gI_pI, upd]
    rw [hf]; rfl
  rw [hset] at h1 h2
  exact ⟨h1, h2, h3⟩
theorem r_last (E : Ex p m c cc nL s args own D cy A) (w : Wd D cy A s M H locs) {x : Option Nat} {a : Nat} {i : Int32} {v : Int64} (hxa : x = some a) (ha : ar M a 8 i) (hd : decode cc pc = .ok (.lastore, 1)) (kk : ∀ (H' : Heap) (locs' : List Loc), Wd D cy A s (pJ M a i.toNatClampNeg v) H' locs' → W p l e R s m args below meth c H' locs' cells slots Q (F0 m (pc + 1) ls rest)) : W p l e R s m args below meth c H locs cells slots Q (F0 m pc ls (.long v :: .int i :: va_rf x :: rest)) := by
  subst hxa
  obtain ⟨k0, hk00⟩ := wl_get (cy := cy) ha.1.1
  have hk0 := hk00
  rw [en_J ha.1.2] at hk0
  refine va_last E.1.1 E.1.2.1 E.2.1.1 w.1 w.2.1 w.2.2 k0 1 hk0 rfl ha.2 hd (fun H1 locs1 h1 h2 h3 => kk H1 locs1 ?_)
  have hset : (wl cy M).set k0 (a, .inl (cy 1, gN M a, .inr (.inl (vp_updL (gJ M a) i.toNatClampNeg v)))) = wl cy (pJ M a i.toNatClampNeg v) := by
    refine wl_set w.2.1 ha.1.1 hk00 rfl ?_ (fun b hb => en_pJ hb)
    rw [en_J (show gK (pJ M a i.toNatClampNeg v) a = 8 from ha.1.2)]
    have hf : gJ (pJ M a i.toNatClampNeg v) a = vp_updL (gJ M a) i.toNatClampNeg v := by
      funext q
      simp [gJ_pJ, vp_updL]
    rw [hf]; rfl
  rw [hset] at h1 h2
  exact ⟨h1, h2, h3⟩
theorem r_zast (E : Ex p m c cc nL s args own D cy A) (w : Wd D cy A s M H locs) {x : Option Nat} {a : Nat} {i : Int32} {v : Int32} (hxa : x = some a) (ha : ar M a 9 i) (hv : bl v) (hd : decode cc pc = .ok (.bastore, 1)) (kk : ∀ (H' : Heap) (locs' : List Loc), Wd D cy A s (pI M a i.toNatClampNeg v) H' locs' → W p l e R s m args below meth c H' locs' cells slots Q (F0 m (pc + 1) ls rest)) : W p l e R s m args below meth c H locs cells slots Q (F0 m pc ls (.int v :: .int i :: va_rf x :: rest)) := by
  subst hxa
  obtain ⟨k0, hk00⟩ := wl_get (cy := cy) ha.1.1
  have hk0 := hk00
  rw [en_Z ha.1.2] at hk0
  refine va_zast E.1.1 E.1.2.1 E.2.1.1 w.1 w.2.1 w.2.2 k0 2 hk0 rfl ha.2 hd (fun H1 locs1 h1 h2 h3 => kk H1 locs1 ?_)
  have hset : (wl cy M).set k0 (a, .inl (cy 2, gN M a, .inl (upd (gI M a) i.toNatClampNeg v))) = wl cy (pI M a i.toNatClampNeg v) := by
    refine wl_set w.2.1 ha.1.1 hk00 rfl ?_ (fun b hb => en_pI hb)
    rw [en_Z (show gK (pI M a i.toNatClampNeg v) a = 9 from ha.1.2)]
    have hf : gI (pI M a i.toNatClampNeg v) a = upd (gI M a) i.toNatClampNeg v := by
      funext q
      simp [gI_pI, upd]
    rw [hf]; rfl
  have hnar : vp_nar .boolean v = v := by rcases hv with h | h <;> rw [h] <;> rfl
  rw [hnar] at h1 h2
  rw [hset] at h1 h2
  exact ⟨h1, h2, h3⟩
theorem r_aast10 (E : Ex p m c cc nL s args own D cy A) (w : Wd D cy A s M H locs) {x y : Option Nat} {a v : Nat} {i : Int32} (hxa : x = some a) (hyv : y = some v) (ha : ar M a 10 i) (hv : ok M v 3) (hd : decode cc pc = .ok (.aastore, 1)) (kk : ∀ (H' : Heap) (locs' : List Loc), Wd D cy A s (pR M a i.toNatClampNeg (some v)) H' locs' → W p l e R s m args below meth c H' locs' cells slots Q (F0 m (pc + 1) ls rest)) : W p l e R s m args below meth c H locs cells slots Q (F0 m pc ls (va_rf y :: .int i :: va_rf x :: rest)) := by
  subst hxa; subst hyv
  obtain ⟨k0, hk00⟩ := wl_get (cy := cy) ha.1.1
  have hk0 := hk00
  rw [en_R ha.1.2] at hk0
  obtain ⟨k1, hk1⟩ := wl_get (cy := cy) hv.1
  rw [en_o hv.2 (by decide)] at hk1
  refine va_astq E.1.1 E.1.2.1 E.2.1.1 w.1 w.2.1 w.2.2 k0 3 k1 3 (r := (RX3, TX3, 14)) hk0 rfl hk1 rfl ha.2 hd (fun H1 locs1 h1 h2 h3 => kk H1 locs1 ?_)
  have hset : (wl cy M).set k0 (a, .inl (cy 3, gN M a, .inr (.inr (.inr (.inr (va_up (gR M a) i.toNatClampNeg (some v))))))) = wl cy (pR M a i.toNatClampNeg (some v)) := by
    refine wl_set w.2.1 ha.1.1 hk00 rfl ?_ (fun b hb => en_pR hb)
    rw [en_R (show gK (pR M a i.toNatClampNeg (some v)) a = 10 from ha.1.2)]
    have hf : gR (pR M a i.toNatClampNeg (some v)) a = va_up (gR M a) i.toNatClampNeg (some v) := by
      funext q
      simp [gR_pR, va_up]
    rw [hf]; rfl
  rw [hset] at h1 h2
  exact ⟨h1, h2, h3⟩
theorem r_aast11 (E : Ex p m c cc nL s args own D cy A) (w : Wd D cy A s M H locs) {x y : Option Nat} {a v : Nat} {i : Int32} (hxa : x = some a) (hyv : y = some v) (ha : ar M a 11 i) (hv : ok M v 4) (hd : decode cc pc = .ok (.aastore, 1)) (kk : ∀ (H' : Heap) (locs' : List Loc), Wd D cy A s (pR M a i.toNatClampNeg (some v)) H' locs' → W p l e R s m args below meth c H' locs' cells slots Q (F0 m (pc + 1) ls rest)) : W p l e R s m args below meth c H locs cells slots Q (F0 m pc ls (va_rf y :: .int i :: va_rf x :: rest)) := by
  subst hxa; subst hyv
  obtain ⟨k0, hk00⟩ := wl_get (cy := cy) ha.1.1
  have hk0 := hk00
  rw [en_T ha.1.2] at hk0
  obtain ⟨k1, hk1⟩ := wl_get (cy := cy) hv.1
  rw [en_o hv.2 (by decide)] at hk1
  refine va_astq E.1.1 E.1.2.1 E.2.1.1 w.1 w.2.1 w.2.2 k0 4 k1 4 (r := (RX4, TX4, 2)) hk0 rfl hk1 rfl ha.2 hd (fun H1 locs1 h1 h2 h3 => kk H1 locs1 ?_)
  have hset : (wl cy M).set k0 (a, .inl (cy 4, gN M a, .inr (.inr (.inr (.inr (va_up (gR M a) i.toNatClampNeg (some v))))))) = wl cy (pR M a i.toNatClampNeg (some v)) := by
    refine wl_set w.2.1 ha.1.1 hk00 rfl ?_ (fun b hb => en_pR hb)
    rw [en_T (show gK (pR M a i.toNatClampNeg (some v)) a = 11 from ha.1.2)]
    have hf : gR (pR M a i.toNatClampNeg (some v)) a = va_up (gR M a) i.toNatClampNeg (some v) := by
      funext q
      simp [gR_pR, va_up]
    rw [hf]; rfl
  rw [hset] at h1 h2
  exact ⟨h1, h2, h3⟩
theorem r_new (E : Ex p m c cc nL s args own D cy A) (w : Wd D cy A s M H locs) {ci : Nat} {C : String} {T : u_T} {N : Nat} {ty : Nat → FieldType} (K : Cls ci C T N ty) {idx : Nat} (hcl : Cond.classLink own idx C ∈ lwt) (hinst : Cond.instantiable C N ∈ lwt) (hini : Cond.initialized C ∈ lwt) (hcells : cells + 1 ≤ R.cells) (hslots : slots + N ≤ R.slots) (hd : decode cc pc = .ok (.new idx, 3)) (kk : ∀ (q : Nat) (H' : Heap), q ∉ gL M → Wd D cy A s (nC M q ci 0) H' locs → W p l e R s m args below meth c H' locs (cells + 1) (slots + N) Q (F0 m (pc + 3) ls (va_rf (some q) :: rest))) : W p l e R s m args below meth c H locs cells slots Q (F0 m pc ls rest) := by
  refine va_new (fs := (ft ci).map dv) E.1.1 E.1.2.1 E.1.2.2.2.2 K.2.1 ty K.2.2.1 E.1.2.2.2.1 (E.1.2.2.2.2 _ hcl) (E.1.2.2.2.2 _ hinst) (E.1.2.2.2.2 _ hini) E.2.1.1 w.1 w.2.1 w.2.2 E.2.2 K.1 K.2.2.2.2.2.2 hcells hslots hd (fun q H1 h1 h2 h3 => ?_)
  have hq : q ∉ gL M := wl_fresh h2
  have hp : wl cy M ++ [(q, .inr (ci, (ft ci).map dv))] = wl cy (nC M q ci 0) := by
    refine wl_push hq rfl ?_ (fun b hb => en_nC hb)
    rw [en_o (show gK (nC M q ci 0) q = ci by rw [gK_nC, if_pos rfl]) K.2.2.2.2.1, fvs_nC]
  rw [hp] at h1 h2
  exact kk q H1 hq ⟨h1, h2, h3⟩
theorem r_newa7 (E : Ex p m c cc nL s args own D cy A) (w : Wd D cy A s M H locs) (harr : Cond.arrayClass .int ∈ lwt) {n : Int32} {N : Nat} (hn : ¬ n < 0) (hN : n.toNatClampNeg = N) (hbytes : N * componentBytes .int ≤ 536870912) (hcells : cells + 1 ≤ R.cells) (hslots : slots + N ≤ R.slots) (hd : decode cc pc = .ok (.newarray .int, 2)) (kk : ∀ (q : Nat) (H' : Heap), q ∉ gL M → Wd D cy A s (nC M q 7 N) H' locs → W p l e R s m args below meth c H' locs (cells + 1) (slots + N) Q (F0 m (pc + 2) ls (va_rf (some q) :: rest))) : W p l e R s m args below meth c H locs cells slots Q (F0 m pc ls (.int n :: rest)) := by
  refine va_newa (atype := .int) (ty := .int) (a0 := (N, .inl (fun _ => 0))) E.1.1 E.1.2.1 (E.1.2.2.2.2 _ harr) rfl E.2.1.1 w.1 w.2.1 w.2.2 E.2.2 (fun _ => rfl) hn hN hbytes hcells hslots hd (fun q cA H1 hK' h1 h2 h3 => ?_)
  have hcA : cA = cy 0 := Option.some.inj ((hK'.2 5 (cA, .int) rfl).2.symm.trans (E.2.1.1.2 0 (cy 0, .int) rfl).2)
  subst hcA
  have hq : q ∉ gL M := wl_fresh h2
  have hp : wl cy M ++ [(q, .inl (cy 0, (N, .inl (fun _ => 0))))] = wl cy (nC M q 7 N) := by
    refine wl_push hq rfl ?_ (fun b hb => en_nC hb)
    rw [en_I (show gK (nC M q 7 N) q = 7 by rw [gK_nC, if_pos rfl])]
    have hf : gI (nC M q 7 N) q = fun _ => 0 := by
      funext j
      rw [gI_nC, if_pos rfl]
    rw [hf, gN_nC, if_pos rfl]
  rw [hp] at h1 h2
  exact kk q H1 hq ⟨h1, h2, h3⟩
theorem r_newa8 (E : Ex p m c cc nL s args own D cy A) (w : Wd D cy A s M H locs) (harr : Cond.arrayClass .long ∈ lwt) {n : Int32} {N : Nat} (hn : ¬ n < 0) (hN : n.toNatClampNeg = N) (hbytes : N * componentBytes .long ≤ 536870912) (hcells : cells + 1 ≤ R.cells) (hslots : slots + N ≤ R.slots) (hd : decode cc pc = .ok (.newarray .long, 2)) (kk : ∀ (q : Nat) (H' : Heap), q ∉ gL M → Wd D cy A s (nC M q 8 N) H' locs → W p l e R s m args below meth c H' locs (cells + 1) (slots + N) Q (F0 m (pc + 2) ls (va_rf (some q) :: rest))) : W p l e R s m args below meth c H locs cells slots Q (F0 m pc ls (.int n :: rest)) := by
  refine va_newa (atype := .long) (ty := .long) (a0 := (N, .inr (.inl (fun _ => 0)))) E.1.1 E.1.2.1 (E.1.2.2.2.2 _ harr) rfl E.2.1.1 w.1 w.2.1 w.2.2 E.2.2 (fun _ => rfl) hn hN hbytes hcells hslots hd (fun q cA H1 hK' h1 h2 h3 => ?_)
  have hcA : cA = cy 1 := Option.some.inj ((hK'.2 5 (cA, .long) rfl).2.symm.trans (E.2.1.1.2 1 (cy 1, .long) rfl).2)
  subst hcA
  have hq : q ∉ gL M := wl_fresh h2
  have hp : wl cy M ++ [(q, .inl (cy 1, (N, .inr (.inl (fun _ => 0)))))] = wl cy (nC M q 8 N) := by
    refine wl_push hq rfl ?_ (fun b hb => en_nC hb)
    rw [en_J (show gK (nC M q 8 N) q = 8 by rw [gK_nC, if_pos rfl])]
    have hf : gJ (nC M q 8 N) q = fun _ => 0 := by
      funext j
      rw [gJ_nC, if_pos rfl]
    rw [hf, gN_nC, if_pos rfl]
  rw [hp] at h1 h2
  exact kk q H1 hq ⟨h1, h2, h3⟩
theorem r_newa9 (E : Ex p m c cc nL s args own D cy A) (w : Wd D cy A s M H locs) (harr : Cond.arrayClass .boolean ∈ lwt) {n : Int32} {N : Nat} (hn : ¬ n < 0) (hN : n.toNatClampNeg = N) (hbytes : N * componentBytes .boolean ≤ 536870912) (hcells : cells + 1 ≤ R.cells) (hslots : slots + N ≤ R.slots) (hd : decode cc pc = .ok (.newarray .boolean, 2)) (kk : ∀ (q : Nat) (H' : Heap), q ∉ gL M → Wd D cy A s (nC M q 9 N) H' locs → W p l e R s m args below meth c H' locs (cells + 1) (slots + N) Q (F0 m (pc + 2) ls (va_rf (some q) :: rest))) : W p l e R s m args below meth c H locs cells slots Q (F0 m pc ls (.int n :: rest)) := by
  refine va_newa (atype := .boolean) (ty := .boolean) (a0 := (N, .inl (fun _ => 0))) E.1.1 E.1.2.1 (E.1.2.2.2.2 _ harr) rfl E.2.1.1 w.1 w.2.1 w.2.2 E.2.2 (fun _ => rfl) hn hN hbytes hcells hslots hd (fun q cA H1 hK' h1 h2 h3 => ?_)
  have hcA : cA = cy 2 := Option.some.inj ((hK'.2 5 (cA, .boolean) rfl).2.symm.trans (E.2.1.1.2 2 (cy 2, .boolean) rfl).2)
  subst hcA
  have hq : q ∉ gL M := wl_fresh h2
  have hp : wl cy M ++ [(q, .inl (cy 2, (N, .inl (fun _ => 0))))] = wl cy (nC M q 9 N) := by
    refine wl_push hq rfl ?_ (fun b hb => en_nC hb)
    rw [en_Z (show gK (nC M q 9 N) q = 9 by rw [gK_nC, if_pos rfl])]
    have hf : gI (nC M q 9 N) q = fun _ => 0 := by
      funext j
      rw [gI_nC, if_pos rfl]
    rw [hf, gN_nC, if_pos rfl]
  rw [hp] at h1 h2
  exact kk q H1 hq ⟨h1, h2, h3⟩
theorem r_newq10 (E : Ex p m c cc nL s args own D cy A) (w : Wd D cy A s M H locs) {idx : Nat} (hcl : Cond.classLink own idx RX3 ∈ lwt) {n : Int32} {N : Nat} (hn : ¬ n < 0) (hN : n.toNatClampNeg = N) (hbytes : N * 4 ≤ 536870912) (hcells : cells + 1 ≤ R.cells) (hslots : slots + N ≤ R.slots) (hd : decode cc pc = .ok (.anewarray idx, 3)) (kk : ∀ (q : Nat) (H' : Heap), q ∉ gL M → Wd D cy A s (nC M q 10 N) H' locs → W p l e R s m args below meth c H' locs (cells + 1) (slots + N) Q (F0 m (pc + 3) ls (va_rf (some q) :: rest))) : W p l e R s m args below meth c H locs cells slots Q (F0 m pc ls (.int n :: rest)) := by
  refine va_newq E.1.1 E.1.2.1 E.1.2.2.2.1 (E.1.2.2.2.2 _ hcl) E.2.1.2.1 E.2.1.1 w.1 w.2.1 w.2.2 E.2.2 hn hN hbytes hcells hslots hd (fun q cA H1 hK' h1 h2 h3 => ?_)
  obtain ⟨_, _, _, _, _, f1⟩ := (hK'.2 5 (cA, .object RX3) rfl).2
  obtain ⟨_, _, _, _, _, f2⟩ := (E.2.1.1.2 3 (cy 3, .object RX3) rfl).2
  have hcA : cA = cy 3 := Option.some.inj (f1.symm.trans f2)
  subst hcA
  have hq : q ∉ gL M := wl_fresh h2
  have hp : wl cy M ++ [(q, .inl (cy 3, N, .inr (.inr (.inr (.inr (fun _ => none))))))] = wl cy (nC M q 10 N) := by
    refine wl_push hq rfl ?_ (fun b hb => en_nC hb)
    rw [en_R (show gK (nC M q 10 N) q = 10 by rw [gK_nC, if_pos rfl])]
    have hf : gR (nC M q 10 N) q = fun _ => none := by
      funext j
      rw [gR_nC, if_pos rfl]
    rw [hf, gN_nC, if_pos rfl]
  rw [hp] at h1 h2
  exact kk q H1 hq ⟨h1, h2, h3⟩
theorem r_newq11 (E : Ex p m c cc nL s args own D cy A) (w : Wd D cy A s M H locs) {idx : Nat} (hcl : Cond.classLink own idx RX4 ∈ lwt) {n : Int32} {N : Nat} (hn : ¬ n < 0) (hN : n.toNatClampNeg = N) (hbytes : N * 4 ≤ 536870912) (hcells : cells + 1 ≤ R.cells) (hslots : slots + N ≤ R.slots) (hd : decode cc pc = .ok (.anewarray idx, 3)) (kk : ∀ (q : Nat) (H' : Heap), q ∉ gL M → Wd D cy A s (nC M q 11 N) H' locs → W p l e R s m args below meth c H' locs (cells + 1) (slots + N) Q (F0 m (pc + 3) ls (va_rf (some q) :: rest))) : W p l e R s m args below meth c H locs cells slots Q (F0 m pc ls (.int n :: rest)) := by
  refine va_newq E.1.1 E.1.2.1 E.1.2.2.2.1 (E.1.2.2.2.2 _ hcl) E.2.1.2.2.1 E.2.1.1 w.1 w.2.1 w.2.2 E.2.2 hn hN hbytes hcells hslots hd (fun q cA H1 hK' h1 h2 h3 => ?_)
  obtain ⟨_, _, _, _, _, f1⟩ := (hK'.2 5 (cA, .object RX4) rfl).2
  obtain ⟨_, _, _, _, _, f2⟩ := (E.2.1.1.2 4 (cy 4, .object RX4) rfl).2
  have hcA : cA = cy 4 := Option.some.inj (f1.symm.trans f2)
  subst hcA
  have hq : q ∉ gL M := wl_fresh h2
  have hp : wl cy M ++ [(q, .inl (cy 4, N, .inr (.inr (.inr (.inr (fun _ => none))))))] = wl cy (nC M q 11 N) := by
    refine wl_push hq rfl ?_ (fun b hb => en_nC hb)
    rw [en_T (show gK (nC M q 11 N) q = 11 by rw [gK_nC, if_pos rfl])]
    have hf : gR (nC M q 11 N) q = fun _ => none := by
      funext j
      rw [gR_nC, if_pos rfl]
    rw [hf, gN_nC, if_pos rfl]
  rw [hp] at h1 h2
  exact kk q H1 hq ⟨h1, h2, h3⟩
theorem r_iret (E : Ex p m c cc nL s args own D cy A) (w : Wd D cy A s M H locs) (hr : meth.sig.returnType = some .int) (hlk : meth.locks = false) {Qm : Int32 → Mm → Prop} {v : Int32} {mc ms : Nat} (hq : Qm v M) (hc : cells ≤ mc) (hs : slots ≤ ms) (hd : decode cc pc = .ok (.ireturn, 1)) : W p l e R s m args below meth c H locs cells slots (MQ below (va_Qi Qm (Po D cy A) A) args s mc ms A) (F0 m pc ls [.int v]) := by
  refine W.widen hc hs ?_
  exact W.iret E.1.1 E.1.2.1 hr (fun t ht hW => ⟨⟨v, M, rfl, hq, by rw [ht]; exact w.1, w.2.1⟩, w.2.2.F ht⟩) w.2.2.2.2 hd hlk
theorem r_zret (E : Ex p m c cc nL s args own D cy A) (w : Wd D cy A s M H locs) (hr : meth.sig.returnType = some .boolean) (hlk : meth.locks = false) {Qm : Int32 → Mm → Prop} {v : Int32} {mc ms : Nat} (hq : bl v ∧ Qm v M) (hc : cells ≤ mc) (hs : slots ≤ ms) (hd : decode cc pc = .ok (.ireturn, 1)) : W p l e R s m args below meth c H locs cells slots (MQ below (va_Qi Qm (Po D cy A) A) args s mc ms A) (F0 m pc ls [.int v]) := by
  refine W.widen hc hs ?_
  exact W.zret E.1.1 E.1.2.1 hr (by rcases hq.1 with h | h <;> rw [h] <;> rfl) (fun t ht hW => ⟨⟨v, M, rfl, hq.2, by rw [ht]; exact w.1, w.2.1⟩, w.2.2.F ht⟩) w.2.2.2.2 hd hlk
theorem r_lret (E : Ex p m c cc nL s args own D cy A) (w : Wd D cy A s M H locs) (hr : meth.sig.returnType = some .long) (hlk : meth.locks = false) {Qm : Int64 → Mm → Prop} {v : Int64} {mc ms : Nat} (hq : Qm v M) (hc : cells ≤ mc) (hs : slots ≤ ms) (hd : decode cc pc = .ok (.lreturn, 1)) : W p l e R s m args below meth c H locs cells slots (MQ below (va_Ql Qm (Po D cy A) A) args s mc ms A) (F0 m pc ls [.long v]) := by
  refine W.widen hc hs ?_
  exact W.lret E.1.1 E.1.2.1 hr (fun t ht hW => ⟨⟨v, M, rfl, hq, by rw [ht]; exact w.1, w.2.1⟩, w.2.2.F ht⟩) w.2.2.2.2 hd hlk
theorem r_vret (E : Ex p m c cc nL s args own D cy A) (w : Wd D cy A s M H locs) (hr : meth.sig.returnType = none) (hlk : meth.locks = false) {Qm : Mm → Prop} {mc ms : Nat} (hq : Qm M) (hc : cells ≤ mc) (hs : slots ≤ ms) (hd : decode cc pc = .ok (.return_, 1)) : W p l e R s m args below meth c H locs cells slots (MQ below (va_Qv Qm (Po D cy A) A) args s mc ms A) (F0 m pc ls []) := by
  refine W.widen hc hs ?_
  exact W.vret E.1.1 E.1.2.1 hr (fun t ht hW => ⟨⟨M, rfl, hq, by rw [ht]; exact w.1, w.2.1⟩, w.2.2.F ht⟩) w.2.2.2.2 hd hlk
theorem r_aret (E : Ex p m c cc nL s args own D cy A) (w : Wd D cy A s M H locs) {n : String} (hr : meth.sig.returnType = some (.object n)) (hlk : meth.locks = false) {Qm : Option Nat → Mm → Prop} {x : Option Nat} {mc ms : Nat} (hq : Qm x M) (hc : cells ≤ mc) (hs : slots ≤ ms) (hd : decode cc pc = .ok (.areturn, 1)) : W p l e R s m args below meth c H locs cells slots (MQ below (va_Qq Qm (Po D cy A) A) args s mc ms A) (F0 m pc ls [va_rf x]) := by
  refine W.widen hc hs ?_
  exact W.aret E.1.1 E.1.2.1 hr (Or.inl ⟨n, rfl⟩) (by cases x with | none => exact Or.inl rfl | some a => exact Or.inr ⟨a, rfl⟩) (fun t ht hW => ⟨⟨x, M, rfl, hq, by rw [ht]; exact w.1, w.2.1⟩, w.2.2.F ht⟩) w.2.2.2.2 hd hlk
theorem KI_of {l : Launch} {y : MethodName} {cd : Cond} {rm : Room} {av : List Tg} {M : Mm} {Qm : Int32 → Mm → Prop} {cc : ByteArray} {maxL : Nat} {ret : Option FieldType} (hy : plainName y.cls = true) (hcd : cd = Cond.code y cc maxL ret) (hlen : (av.map ct).sum ≤ maxL)
    (body : ∀ (p : Program) (e : Env) (s : State) (m : MethodId) (args : Array Value) (below : List Frame) (meth : Method) (c : Code) (D : va_G) (cy : Nat → ClassId) (A : Nat → Prop) (ls : Array Slot), Ex p m c cc maxL s args y.cls D cy A → meth.sig.returnType = ret → meth.locks = false → meth.name = y.name → Wd D cy A s M s.heap [] → lh ls maxL (la 0 av) → W p l e rm s m args below meth c s.heap [] 0 0 (MQ below (va_Qi Qm (Po D cy A) A) args s rm.cells rm.slots A) (F0 m 0 ls [])) : KI l y cd rm av M Qm := by
  intro D cy sz
  subst hcd
  refine Met.ofW (cc := cc) (maxL := maxL) (ret := ret) hy rfl ?_
  intro p e s m args below meth c s₁ B hml hv
  obtain ⟨rfl, hsz, hP, hV, hD0⟩ := hv
  subst hsz
  rw [lg_entry_eq]
  have hl := lv_entry (av.map tv) (n := maxL) (by rw [la_len]; exact hlen)
  rw [la_args] at hl
  have hts := atoms_spec (ws := Cond.code y cc maxL ret :: lwt) B.pre
  exact body p e s m _ below meth c D cy (va_A (wl cy M) s.heap.size) _ ⟨⟨B.exec, B.bytes, hml, findClass_of_methodNamed B.named, fun w h => hts w (List.mem_cons_of_mem _ h)⟩, hV, fun q h => Or.inr h⟩ B.returns B.notSynchronized (name_of_methodNamed B.named B.method).1 ⟨hP, hD0.self, va_S.rf⟩ hl
theorem KL_of {l : Launch} {y : MethodName} {cd : Cond} {rm : Room} {av : List Tg} {M : Mm} {Qm : Int64 → Mm → Prop} {cc : ByteArray} {maxL : Nat} {ret : Option FieldType} (hy : plainName y.cls = true) (hcd : cd = Cond.code y cc maxL ret) (hlen : (av.map ct).sum ≤ maxL)
    (body : ∀ (p : Program) (e : Env) (s : State) (m : MethodId) (args : Array Value) (below : List Frame) (meth : Method) (c : Code) (D : va_G) (cy : Nat → ClassId) (A : Nat → Prop) (ls : Array Slot), Ex p m c cc maxL s args y.cls D cy A → meth.sig.returnType = ret → meth.locks = false → meth.name = y.name → Wd D cy A s M s.heap [] → lh ls maxL (la 0 av) → W p l e rm s m args below meth c s.heap [] 0 0 (MQ below (va_Ql Qm (Po D cy A) A) args s rm.cells rm.slots A) (F0 m 0 ls [])) : KL l y cd rm av M Qm := by
  intro D cy sz
  subst hcd
  refine Met.ofW (cc := cc) (maxL := maxL) (ret := ret) hy rfl ?_
  intro p e s m args below meth c s₁ B hml hv
  obtain ⟨rfl, hsz, hP, hV, hD0⟩ := hv
  subst hsz
  rw [lg_entry_eq]
  have hl := lv_entry (av.map tv) (n := maxL) (by rw [la_len]; exact hlen)
  rw [la_args] at hl
  have hts := atoms_spec (ws := Cond.code y cc maxL ret :: lwt) B.pre
  exact body p e s m _ below meth c D cy (va_A (wl cy M) s.heap.size) _ ⟨⟨B.exec, B.bytes, hml, findClass_of_methodNamed B.named, fun w h => hts w (List.mem_cons_of_mem _ h)⟩, hV, fun q h => Or.inr h⟩ B.returns B.notSynchronized (name_of_methodNamed B.named B.method).1 ⟨hP, hD0.self, va_S.rf⟩ hl
theorem KV_of {l : Launch} {y : MethodName} {cd : Cond} {rm : Room} {av : List Tg} {M : Mm} {Qm : Mm → Prop} {cc : ByteArray} {maxL : Nat} {ret : Option FieldType} (hy : plainName y.cls = true) (hcd : cd = Cond.code y cc maxL ret) (hlen : (av.map ct).sum ≤ maxL)
    (body : ∀ (p : Program) (e : Env) (s : State) (m : MethodId) (args : Array Value) (below : List Frame) (meth : Method) (c : Code) (D : va_G) (cy : Nat → ClassId) (A : Nat → Prop) (ls : Array Slot), Ex p m c cc maxL s args y.cls D cy A → meth.sig.returnType = ret → meth.locks = false → meth.name = y.name → Wd D cy A s M s.heap [] → lh ls maxL (la 0 av) → W p l e rm s m args below meth c s.heap [] 0 0 (MQ below (va_Qv Qm (Po D cy A) A) args s rm.cells rm.slots A) (F0 m 0 ls [])) : KV l y cd rm av M Qm := by
  intro D cy sz
  subst hcd
  refine Met.ofW (cc := cc) (maxL := maxL) (ret := ret) hy rfl ?_
  intro p e s m args below meth c s₁ B hml hv
  obtain ⟨rfl, hsz, hP, hV, hD0⟩ := hv
  subst hsz
  rw [lg_entry_eq]
  have hl := lv_entry (av.map tv) (n := maxL) (by rw [la_len]; exact hlen)
  rw [la_args] at hl
  have hts := atoms_spec (ws := Cond.code y cc maxL ret :: lwt) B.pre
  exact body p e s m _ below meth c D cy (va_A (wl cy M) s.heap.size) _ ⟨⟨B.exec, B.bytes, hml, findClass_of_methodNamed B.named, fun w h => hts w (List.mem_cons_of_mem _ h)⟩, hV, fun q h => Or.inr h⟩ B.returns B.notSynchronized (name_of_methodNamed B.named B.method).1 ⟨hP, hD0.self, va_S.rf⟩ hl
theorem KQ_of {l : Launch} {y : MethodName} {cd : Cond} {rm : Room} {av : List Tg} {M : Mm} {Qm : Option Nat → Mm → Prop} {cc : ByteArray} {maxL : Nat} {ret : Option FieldType} (hy : plainName y.cls = true) (hcd : cd = Cond.code y cc maxL ret) (hlen : (av.map ct).sum ≤ maxL)
    (body : ∀ (p : Program) (e : Env) (s : State) (m : MethodId) (args : Array Value) (below : List Frame) (meth : Method) (c : Code) (D : va_G) (cy : Nat → ClassId) (A : Nat → Prop) (ls : Array Slot), Ex p m c cc maxL s args y.cls D cy A → meth.sig.returnType = ret → meth.locks = false → meth.name = y.name → Wd D cy A s M s.heap [] → lh ls maxL (la 0 av) → W p l e rm s m args below meth c s.heap [] 0 0 (MQ below (va_Qq Qm (Po D cy A) A) args s rm.cells rm.slots A) (F0 m 0 ls [])) : KQ l y cd rm av M Qm := by
  intro D cy sz
  subst hcd
  refine Met.ofW (cc := cc) (maxL := maxL) (ret := ret) hy rfl ?_
  intro p e s m args below meth c s₁ B hml hv
  obtain ⟨rfl, hsz, hP, hV, hD0⟩ := hv
  subst hsz
  rw [lg_entry_eq]
  have hl := lv_entry (av.map tv) (n := maxL) (by rw [la_len]; exact hlen)
  rw [la_args] at hl
  have hts := atoms_spec (ws := Cond.code y cc maxL ret :: lwt) B.pre
  exact body p e s m _ below meth c D cy (va_A (wl cy M) s.heap.size) _ ⟨⟨B.exec, B.bytes, hml, findClass_of_methodNamed B.named, fun w h => hts w (List.mem_cons_of_mem _ h)⟩, hV, fun q h => Or.inr h⟩ B.returns B.notSynchronized (name_of_methodNamed B.named B.method).1 ⟨hP, hD0.self, va_S.rf⟩ hl
theorem r_callVi (E : Ex p m c cc nL s args own D cy A) (w : Wd D cy A s M H locs) {x : Option Nat} {b ci : Nat} {C : String} {T : u_T} {N : Nat} {ty : Nat → FieldType} {st : List Value} {y : MethodName} {cd : Cond} {bytes : ByteArray} {maxL n idx : Nat} {ret : Option FieldType} {rm : Room} {Qm : Int32 → Mm → Prop} (hxb : x = some b) (ho : ok M b ci) (K : Cls ci C T N ty) (Y : Yk y cd bytes maxL ret n) (hR : rm.frames + 1 ≤ R.frames ∧ 8 + (maxL + 11) + rm.locals ≤ R.locals) (hcs : cells + rm.cells ≤ R.cells ∧ slots + rm.slots ≤ R.slots) (hC : y.cls = C) (hlink : Cond.methodLink own idx y ∈ lwt) (hinst : Cond.instanceMethod y ∈ lwt) (hsel : Cond.selects C y y ∈ lwt) (av : List Tg) (hst : st = (av.map tv).reverse ++ va_rf x :: rest) (hn : av.length = n) {lv : List (Nat × Tg)} (hsz : lh ls nL lv) (rs : List Tg) (hrs : rest = rs.map tv) (hsum : (rs.map ct).sum ≤ 8) (k : KI l y cd rm (rv (some b) :: av) M Qm) (hd : decode cc pc = .ok (.invokevirtual idx, 3)) (kk : ∀ (r : Int32) (M' : Mm) (H' : Heap) (locs' : List Loc), Qm r M' → Wd D cy A s M' H' locs' → W p l e R s m args below meth c H' locs' (cells + rm.cells) (slots + rm.slots) Q (F0 m (pc + 3) ls (.int r :: rest))) : W p l e R s m args below meth c H locs cells slots Q (F0 m pc ls st) := by
  have hF : ∀ q, va_A (wl cy M) H.size q → A q := by
    intro q hq
    rcases hq with ⟨k, e9, h9⟩ | h9
    · exact w.2.1.2 k (q, e9) h9
    · exact E.2.2 q (Nat.le_trans w.2.2.1 h9)
  have hroom : 2 * (F0 m pc ls st).monitorRoom + (rest.map fun v => v.category).sum ≤ 8 := lv_room (by rw [hrs, tv_sum]; exact hsum)
  obtain ⟨rfl, hcd, hini, hdd⟩ := Y
  subst hxb
  obtain ⟨k0, hk0⟩ := wl_get (cy := cy) ho.1
  rw [en_o ho.2 K.2.2.2.2.1] at hk0
  have hini' : Cond.initialized C ∈ lwt := by rw [← hC]; exact hini
  have hG : GoodIn lwt (wsV own idx C y (Cond.code y bytes maxL ret :: lwt)) := lw_gi (fun w9 h9 => by
    unfold wsV at h9
    simp only [List.cons_append, List.nil_append, List.mem_cons] at h9
    rcases h9 with h | h | h | h | h | h
    · rw [h]; exact hlink
    · rw [h]; exact hinst
    · rw [h]; exact hsel
    · rw [h]; exact hini'
    · rw [h]; exact hcd
    · exact h)
  exact va_calli (va_runV (As := av.map tv) (rest := rest) (b := b) E.1 (k D cy H.size) (cwV n E.1.2.2.2.2 hG rfl rfl rfl ⟨hC, hdd⟩ hR) ⟨fun a U g mk q => by obtain ⟨q0, q1, qP, qK, qD⟩ := q; exact ⟨q0, q1, qP, qK.calling g mk a, qD⟩, va_recv E.2.1.1 w.1 K.1 hk0, fun U hU hW => ⟨rfl, by rw [hU], by rw [hU]; exact w.1, E.2.1.warm hW, w.2.1.weaken (fun _ _ _ _ => trivial)⟩⟩ rfl (by rw [List.length_map]; exact hn) hsz.1 hst hroom hd hcs) w.2.2 (fun q _ h => hF q h) hF (fun r u t H1 locs1 ht hvm hw hB hz1 hk1 hS => kk r u H1 locs1 hw ⟨by rw [← ht]; exact hB.1, hB.2.weaken (fun k q _ hq => hF q.1 hq), hS⟩)
theorem r_callSi (E : Ex p m c cc nL s args own D cy A) (w : Wd D cy A s M H locs) {st : List Value} {y : MethodName} {cd : Cond} {bytes : ByteArray} {maxL n idx : Nat} {ret : Option FieldType} {rm : Room} {Qm : Int32 → Mm → Prop} (Y : Yk y cd bytes maxL ret n) (hR : rm.frames + 1 ≤ R.frames ∧ 8 + (maxL + 11) + rm.locals ≤ R.locals) (hcs : cells + rm.cells ≤ R.cells ∧ slots + rm.slots ≤ R.slots) (hC : y.cls = own) (hlink : Cond.methodLink own idx y ∈ lwt) (hstat : Cond.static y ∈ lwt) (av : List Tg) (hst : st = (av.map tv).reverse ++ rest) (hn : av.length = n) {lv : List (Nat × Tg)} (hsz : lh ls nL lv) (rs : List Tg) (hrs : rest = rs.map tv) (hsum : (rs.map ct).sum ≤ 8) (k : KI l y cd rm av M Qm) (hd : decode cc pc = .ok (.invokestatic idx, 3)) (kk : ∀ (r : Int32) (M' : Mm) (H' : Heap) (locs' : List Loc), Qm r M' → Wd D cy A s M' H' locs' → W p l e R s m args below meth c H' locs' (cells + rm.cells) (slots + rm.slots) Q (F0 m (pc + 3) ls (.int r :: rest))) : W p l e R s m args below meth c H locs cells slots Q (F0 m pc ls st) := by
  have hF : ∀ q, va_A (wl cy M) H.size q → A q := by
    intro q hq
    rcases hq with ⟨k, e9, h9⟩ | h9
    · exact w.2.1.2 k (q, e9) h9
    · exact E.2.2 q (Nat.le_trans w.2.2.1 h9)
  have hroom : 2 * (F0 m pc ls st).monitorRoom + (rest.map fun v => v.category).sum ≤ 8 := lv_room (by rw [hrs, tv_sum]; exact hsum)
  obtain ⟨rfl, hcd, hini, hdd⟩ := Y
  have hini' : Cond.initialized own ∈ lwt := by rw [← hC]; exact hini
  have hG : GoodIn lwt (wsS own idx y (Cond.code y bytes maxL ret :: lwt)) := lw_gi (fun w9 h9 => by
    unfold wsS at h9
    simp only [List.cons_append, List.nil_append, List.mem_cons] at h9
    rcases h9 with h | h | h | h | h
    · rw [h]; exact hlink
    · rw [h]; exact hstat
    · rw [h]; exact hini'
    · rw [h]; exact hcd
    · exact h)
  exact va_calli (va_runS (As := av.map tv) (rest := rest) E.1 (k D cy H.size) (cwS n E.1.2.2.2.2 hG rfl rfl rfl ⟨hC, hdd⟩ hR) ⟨fun a U g mk q => by obtain ⟨q0, q1, qP, qK, qD⟩ := q; exact ⟨q0, q1, qP, qK.calling g mk a, qD⟩, fun U hU hW => ⟨rfl, by rw [hU], by rw [hU]; exact w.1, E.2.1.warm hW, w.2.1.weaken (fun _ _ _ _ => trivial)⟩⟩ rfl (by rw [List.length_map]; exact hn) hsz.1 hst hroom hd hcs) w.2.2 (fun q _ h => hF q h) hF (fun r u t H1 locs1 ht hvm hw hB hz1 hk1 hS => kk r u H1 locs1 hw ⟨by rw [← ht]; exact hB.1, hB.2.weaken (fun k q _ hq => hF q.1 hq), hS⟩)
theorem r_callTi (E : Ex p m c cc nL s args own D cy A) (w : Wd D cy A s M H locs) {st : List Value} {y : MethodName} {cd : Cond} {bytes : ByteArray} {maxL n idx : Nat} {ret : Option FieldType} {rm : Room} {Qm : Int32 → Mm → Prop} (Y : Yk y cd bytes maxL ret n) (hR : rm.frames + 1 ≤ R.frames ∧ 8 + (maxL + 11) + rm.locals ≤ R.locals) (hcs : cells + rm.cells ≤ R.cells ∧ slots + rm.slots ≤ R.slots) (hlink : Cond.methodLink own idx y ∈ lwt) (hstat : Cond.static y ∈ lwt) (av : List Tg) (hst : st = (av.map tv).reverse ++ rest) (hn : av.length = n) {lv : List (Nat × Tg)} (hsz : lh ls nL lv) (rs : List Tg) (hrs : rest = rs.map tv) (hsum : (rs.map ct).sum ≤ 8) (k : KI l y cd rm av M Qm) (hd : decode cc pc = .ok (.invokestatic idx, 3)) (kk : ∀ (r : Int32) (M' : Mm) (H' : Heap) (locs' : List Loc), Qm r M' → Wd D cy A s M' H' locs' → W p l e R s m args below meth c H' locs' (cells + rm.cells) (slots + rm.slots) Q (F0 m (pc + 3) ls (.int r :: rest))) : W p l e R s m args below meth c H locs cells slots Q (F0 m pc ls st) := by
  have hF : ∀ q, va_A (wl cy M) H.size q → A q := by
    intro q hq
    rcases hq with ⟨k, e9, h9⟩ | h9
    · exact w.2.1.2 k (q, e9) h9
    · exact E.2.2 q (Nat.le_trans w.2.2.1 h9)
  have hroom : 2 * (F0 m pc ls st).monitorRoom + (rest.map fun v => v.category).sum ≤ 8 := lv_room (by rw [hrs, tv_sum]; exact hsum)
  obtain ⟨rfl, hcd, hini, hdd⟩ := Y
  have hG : GoodIn lwt (Cond.code y bytes maxL ret :: lwt) := lw_gi (fun w9 h9 => by
    rcases List.mem_cons.mp h9 with h | h
    · rw [h]; exact hcd
    · exact h)
  exact va_calli (va_runS (As := av.map tv) (rest := rest) E.1 (k D cy H.size) ⟨callB_of n E.1.2.2.2.2 hG rfl rfl rfl (E.1.2.2.2.2 _ hini) (E.1.2.2.2.2 _ hlink) hdd hR, E.1.2.2.2.2 _ hstat⟩ ⟨fun a U g mk q => by obtain ⟨q0, q1, qP, qK, qD⟩ := q; exact ⟨q0, q1, qP, qK.calling g mk a, qD⟩, fun U hU hW => ⟨rfl, by rw [hU], by rw [hU]; exact w.1, E.2.1.warm hW, w.2.1.weaken (fun _ _ _ _ => trivial)⟩⟩ rfl (by rw [List.length_map]; exact hn) hsz.1 hst hroom hd hcs) w.2.2 (fun q _ h => hF q h) hF (fun r u t H1 locs1 ht hvm hw hB hz1 hk1 hS => kk r u H1 locs1 hw ⟨by rw [← ht]; exact hB.1, hB.2.weaken (fun k q _ hq => hF q.1 hq), hS⟩)
theorem r_callVl (E : Ex p m c cc nL s args own D cy A) (w : Wd D cy A s M H locs) {x : Option Nat} {b ci : Nat} {C : String} {T : u_T} {N : Nat} {ty : Nat → FieldType} {st : List Value} {y : MethodName} {cd : Cond} {bytes : ByteArray} {maxL n idx : Nat} {ret : Option FieldType} {rm : Room} {Qm : Int64 → Mm → Prop} (hxb : x = some b) (ho : ok M b ci) (K : Cls ci C T N ty) (Y : Yk y cd bytes maxL ret n) (hR : rm.frames + 1 ≤ R.frames ∧ 8 + (maxL + 11) + rm.locals ≤ R.locals) (hcs : cells + rm.cells ≤ R.cells ∧ slots + rm.slots ≤ R.slots) (hC : y.cls = C) (hlink : Cond.methodLink own idx y ∈ lwt) (hinst : Cond.instanceMethod y ∈ lwt) (hsel : Cond.selects C y y ∈ lwt) (av : List Tg) (hst : st = (av.map tv).reverse ++ va_rf x :: rest) (hn : av.length = n) {lv : List (Nat × Tg)} (hsz : lh ls nL lv) (rs : List Tg) (hrs : rest = rs.map tv) (hsum : (rs.map ct).sum ≤ 8) (k : KL l y cd rm (rv (some b) :: av) M Qm) (hd : decode cc pc = .ok (.invokevirtual idx, 3)) (kk : ∀ (r : Int64) (M' : Mm) (H' : Heap) (locs' : List Loc), Qm r M' → Wd D cy A s M' H' locs' → W p l e R s m args below meth c H' locs' (cells + rm.cells) (slots + rm.slots) Q (F0 m (pc + 3) ls (.long r :: rest))) : W p l e R s m args below meth c H locs cells slots Q (F0 m pc ls st) := by
  have hF : ∀ q, va_A (wl cy M) H.size q → A q := by
    intro q hq
    rcases hq with ⟨k, e9, h9⟩ | h9
    · exact w.2.1.2 k (q, e9) h9
    · exact E.2.2 q (Nat.le_trans w.2.2.1 h9)
  have hroom : 2 * (F0 m pc ls st).monitorRoom + (rest.map fun v => v.category).sum ≤ 8 := lv_room (by rw [hrs, tv_sum]; exact hsum)
  obtain ⟨rfl, hcd, hini, hdd⟩ := Y
  subst hxb
  obtain ⟨k0, hk0⟩ := wl_get (cy := cy) ho.1
  rw [en_o ho.2 K.2.2.2.2.1] at hk0
  have hini' : Cond.initialized C ∈ lwt := by rw [← hC]; exact hini
  have hG : GoodIn lwt (wsV own idx C y (Cond.code y bytes maxL ret :: lwt)) := lw_gi (fun w9 h9 => by
    unfold wsV at h9
    simp only [List.cons_append, List.nil_append, List.mem_cons] at h9
    rcases h9 with h | h | h | h | h | h
    · rw [h]; exact hlink
    · rw [h]; exact hinst
    · rw [h]; exact hsel
    · rw [h]; exact hini'
    · rw [h]; exact hcd
    · exact h)
  exact va_calll (va_runV (As := av.map tv) (rest := rest) (b := b) E.1 (k D cy H.size) (cwV n E.1.2.2.2.2 hG rfl rfl rfl ⟨hC, hdd⟩ hR) ⟨fun a U g mk q => by obtain ⟨q0, q1, qP, qK, qD⟩ := q; exact ⟨q0, q1, qP, qK.calling g mk a, qD⟩, va_recv E.2.1.1 w.1 K.1 hk0, fun U hU hW => ⟨rfl, by rw [hU], by rw [hU]; exact w.1, E.2.1.warm hW, w.2.1.weaken (fun _ _ _ _ => trivial)⟩⟩ rfl (by rw [List.length_map]; exact hn) hsz.1 hst hroom hd hcs) w.2.2 (fun q _ h => hF q h) hF (fun r u t H1 locs1 ht hvm hw hB hz1 hk1 hS => kk r u H1 locs1 hw ⟨by rw [← ht]; exact hB.1, hB.2.weaken (fun k q _ hq => hF q.1 hq), hS⟩)
theorem r_callSl (E : Ex p m c cc nL s args own D cy A) (w : Wd D cy A s M H locs) {st : List Value} {y : MethodName} {cd : Cond} {bytes : ByteArray} {maxL n idx : Nat} {ret : Option FieldType} {rm : Room} {Qm : Int64 → Mm → Prop} (Y : Yk y cd bytes maxL ret n) (hR : rm.frames + 1 ≤ R.frames ∧ 8 + (maxL + 11) + rm.locals ≤ R.locals) (hcs : cells + rm.cells ≤ R.cells ∧ slots + rm.slots ≤ R.slots) (hC : y.cls = own) (hlink : Cond.methodLink own idx y ∈ lwt) (hstat : Cond.static y ∈ lwt) (av : List Tg) (hst : st = (av.map tv).reverse ++ rest) (hn : av.length = n) {lv : List (Nat × Tg)} (hsz : lh ls nL lv) (rs : List Tg) (hrs : rest = rs.map tv) (hsum : (rs.map ct).sum ≤ 8) (k : KL l y cd rm av M Qm) (hd : decode cc pc = .ok (.invokestatic idx, 3)) (kk : ∀ (r : Int64) (M' : Mm) (H' : Heap) (locs' : List Loc), Qm r M' → Wd D cy A s M' H' locs' → W p l e R s m args below meth c H' locs' (cells + rm.cells) (slots + rm.slots) Q (F0 m (pc + 3) ls (.long r :: rest))) : W p l e R s m args below meth c H locs cells slots Q (F0 m pc ls st) := by
  have hF : ∀ q, va_A (wl cy M) H.size q → A q := by
    intro q hq
    rcases hq with ⟨k, e9, h9⟩ | h9
    · exact w.2.1.2 k (q, e9) h9
    · exact E.2.2 q (Nat.le_trans w.2.2.1 h9)
  have hroom : 2 * (F0 m pc ls st).monitorRoom + (rest.map fun v => v.category).sum ≤ 8 := lv_room (by rw [hrs, tv_sum]; exact hsum)
  obtain ⟨rfl, hcd, hini, hdd⟩ := Y
  have hini' : Cond.initialized own ∈ lwt := by rw [← hC]; exact hini
  have hG : GoodIn lwt (wsS own idx y (Cond.code y bytes maxL ret :: lwt)) := lw_gi (fun w9 h9 => by
    unfold wsS at h9
    simp only [List.cons_append, List.nil_append, List.mem_cons] at h9
    rcases h9 with h | h | h | h | h
    · rw [h]; exact hlink
    · rw [h]; exact hstat
    · rw [h]; exact hini'
    · rw [h]; exact hcd
    · exact h)
  exact va_calll (va_runS (As := av.map tv) (rest := rest) E.1 (k D cy H.size) (cwS n E.1.2.2.2.2 hG rfl rfl rfl ⟨hC, hdd⟩ hR) ⟨fun a U g mk q => by obtain ⟨q0, q1, qP, qK, qD⟩ := q; exact ⟨q0, q1, qP, qK.calling g mk a, qD⟩, fun U hU hW => ⟨rfl, by rw [hU], by rw [hU]; exact w.1, E.2.1.warm hW, w.2.1.weaken (fun _ _ _ _ => trivial)⟩⟩ rfl (by rw [List.length_map]; exact hn) hsz.1 hst hroom hd hcs) w.2.2 (fun q _ h => hF q h) hF (fun r u t H1 locs1 ht hvm hw hB hz1 hk1 hS => kk r u H1 locs1 hw ⟨by rw [← ht]; exact hB.1, hB.2.weaken (fun k q _ hq => hF q.1 hq), hS⟩)
theorem r_callTl (E : Ex p m c cc nL s args own D cy A) (w : Wd D cy A s M H locs) {st : List Value} {y : MethodName} {cd : Cond} {bytes : ByteArray} {maxL n idx : Nat} {ret : Option FieldType} {rm : Room} {Qm : Int64 → Mm → Prop} (Y : Yk y cd bytes maxL ret n) (hR : rm.frames + 1 ≤ R.frames ∧ 8 + (maxL + 11) + rm.locals ≤ R.locals) (hcs : cells + rm.cells ≤ R.cells ∧ slots + rm.slots ≤ R.slots) (hlink : Cond.methodLink own idx y ∈ lwt) (hstat : Cond.static y ∈ lwt) (av : List Tg) (hst : st = (av.map tv).reverse ++ rest) (hn : av.length = n) {lv : List (Nat × Tg)} (hsz : lh ls nL lv) (rs : List Tg) (hrs : rest = rs.map tv) (hsum : (rs.map ct).sum ≤ 8) (k : KL l y cd rm av M Qm) (hd : decode cc pc = .ok (.invokestatic idx, 3)) (kk : ∀ (r : Int64) (M' : Mm) (H' : Heap) (locs' : List Loc), Qm r M' → Wd D cy A s M' H' locs' → W p l e R s m args below meth c H' locs' (cells + rm.cells) (slots + rm.slots) Q (F0 m (pc + 3) ls (.long r :: rest))) : W p l e R s m args below meth c H locs cells slots Q (F0 m pc ls st) := by
  have hF : ∀ q, va_A (wl cy M) H.size q → A q := by
    intro q hq
    rcases hq with ⟨k, e9, h9⟩ | h9
    · exact w.2.1.2 k (q, e9) h9
    · exact E.2.2 q (Nat.le_trans w.2.2.1 h9)
  have hroom : 2 * (F0 m pc ls st).monitorRoom + (rest.map fun v => v.category).sum ≤ 8 := lv_room (by rw [hrs, tv_sum]; exact hsum)
  obtain ⟨rfl, hcd, hini, hdd⟩ := Y
  have hG : GoodIn lwt (Cond.code y bytes maxL ret :: lwt) := lw_gi (fun w9 h9 => by
    rcases List.mem_cons.mp h9 with h | h
    · rw [h]; exact hcd
    · exact h)
  exact va_calll (va_runS (As := av.map tv) (rest := rest) E.1 (k D cy H.size) ⟨callB_of n E.1.2.2.2.2 hG rfl rfl rfl (E.1.2.2.2.2 _ hini) (E.1.2.2.2.2 _ hlink) hdd hR, E.1.2.2.2.2 _ hstat⟩ ⟨fun a U g mk q => by obtain ⟨q0, q1, qP, qK, qD⟩ := q; exact ⟨q0, q1, qP, qK.calling g mk a, qD⟩, fun U hU hW => ⟨rfl, by rw [hU], by rw [hU]; exact w.1, E.2.1.warm hW, w.2.1.weaken (fun _ _ _ _ => trivial)⟩⟩ rfl (by rw [List.length_map]; exact hn) hsz.1 hst hroom hd hcs) w.2.2 (fun q _ h => hF q h) hF (fun r u t H1 locs1 ht hvm hw hB hz1 hk1 hS => kk r u H1 locs1 hw ⟨by rw [← ht]; exact hB.1, hB.2.weaken (fun k q _ hq => hF q.1 hq), hS⟩)
theorem r_callVv (E : Ex p m c cc nL s args own D cy A) (w : Wd D cy A s M H locs) {x : Option Nat} {b ci : Nat} {C : String} {T : u_T} {N : Nat} {ty : Nat → FieldType} {st : List Value} {y : MethodName} {cd : Cond} {bytes : ByteArray} {maxL n idx : Nat} {ret : Option FieldType} {rm : Room} {Qm : Mm → Prop} (hxb : x = some b) (ho : ok M b ci) (K : Cls ci C T N ty) (Y : Yk y cd bytes maxL ret n) (hR : rm.frames + 1 ≤ R.frames ∧ 8 + (maxL + 11) + rm.locals ≤ R.locals) (hcs : cells + rm.cells ≤ R.cells ∧ slots + rm.slots ≤ R.slots) (hC : y.cls = C) (hlink : Cond.methodLink own idx y ∈ lwt) (hinst : Cond.instanceMethod y ∈ lwt) (hsel : Cond.selects C y y ∈ lwt) (av : List Tg) (hst : st = (av.map tv).reverse ++ va_rf x :: rest) (hn : av.length = n) {lv : List (Nat × Tg)} (hsz : lh ls nL lv) (rs : List Tg) (hrs : rest = rs.map tv) (hsum : (rs.map ct).sum ≤ 8) (k : KV l y cd rm (rv (some b) :: av) M Qm) (hd : decode cc pc = .ok (.invokevirtual idx, 3)) (kk : ∀ (M' : Mm) (H' : Heap) (locs' : List Loc), Qm  M' → Wd D cy A s M' H' locs' → W p l e R s m args below meth c H' locs' (cells + rm.cells) (slots + rm.slots) Q (F0 m (pc + 3) ls (rest))) : W p l e R s m args below meth c H locs cells slots Q (F0 m pc ls st) := by
  have hF : ∀ q, va_A (wl cy M) H.size q → A q := by
    intro q hq
    rcases hq with ⟨k, e9, h9⟩ | h9
    · exact w.2.1.2 k (q, e9) h9
    · exact E.2.2 q (Nat.le_trans w.2.2.1 h9)
  have hroom : 2 * (F0 m pc ls st).monitorRoom + (rest.map fun v => v.category).sum ≤ 8 := lv_room (by rw [hrs, tv_sum]; exact hsum)
  obtain ⟨rfl, hcd, hini, hdd⟩ := Y
  subst hxb
  obtain ⟨k0, hk0⟩ := wl_get (cy := cy) ho.1
  rw [en_o ho.2 K.2.2.2.2.1] at hk0
  have hini' : Cond.initialized C ∈ lwt := by rw [← hC]; exact hini
  have hG : GoodIn lwt (wsV own idx C y (Cond.code y bytes maxL ret :: lwt)) := lw_gi (fun w9 h9 => by
    unfold wsV at h9
    simp only [List.cons_append, List.nil_append, List.mem_cons] at h9
    rcases h9 with h | h | h | h | h | h
    · rw [h]; exact hlink
    · rw [h]; exact hinst
    · rw [h]; exact hsel
    · rw [h]; exact hini'
    · rw [h]; exact hcd
    · exact h)
  exact va_callv (va_runV (As := av.map tv) (rest := rest) (b := b) E.1 (k D cy H.size) (cwV n E.1.2.2.2.2 hG rfl rfl rfl ⟨hC, hdd⟩ hR) ⟨fun a U g mk q => by obtain ⟨q0, q1, qP, qK, qD⟩ := q; exact ⟨q0, q1, qP, qK.calling g mk a, qD⟩, va_recv E.2.1.1 w.1 K.1 hk0, fun U hU hW => ⟨rfl, by rw [hU], by rw [hU]; exact w.1, E.2.1.warm hW, w.2.1.weaken (fun _ _ _ _ => trivial)⟩⟩ rfl (by rw [List.length_map]; exact hn) hsz.1 hst hroom hd hcs) w.2.2 (fun q _ h => hF q h) hF (fun u t H1 locs1 ht hvm hw hB hz1 hk1 hS => kk u H1 locs1 hw ⟨by rw [← ht]; exact hB.1, hB.2.weaken (fun k q _ hq => hF q.1 hq), hS⟩)
theorem r_callSv (E : Ex p m c cc nL s args own D cy A) (w : Wd D cy A s M H locs) {st : List Value} {y : MethodName} {cd : Cond} {bytes : ByteArray} {maxL n idx : Nat} {ret : Option FieldType} {rm : Room} {Qm : Mm → Prop} (Y : Yk y cd bytes maxL ret n) (hR : rm.frames + 1 ≤ R.frames ∧ 8 + (maxL + 11) + rm.locals ≤ R.locals) (hcs : cells + rm.cells ≤ R.cells ∧ slots + rm.slots ≤ R.slots) (hC : y.cls = own) (hlink : Cond.methodLink own idx y ∈ lwt) (hstat : Cond.static y ∈ lwt) (av : List Tg) (hst : st = (av.map tv).reverse ++ rest) (hn : av.length = n) {lv : List (Nat × Tg)} (hsz : lh ls nL lv) (rs : List Tg) (hrs : rest = rs.map tv) (hsum : (rs.map ct).sum ≤ 8) (k : KV l y cd rm av M Qm) (hd : decode cc pc = .ok (.invokestatic idx, 3)) (kk : ∀ (M' : Mm) (H' : Heap) (locs' : List Loc), Qm  M' → Wd D cy A s M' H' locs' → W p l e R s m args below meth c H' locs' (cells + rm.cells) (slots + rm.slots) Q (F0 m (pc + 3) ls (rest))) : W p l e R s m args below meth c H locs cells slots Q (F0 m pc ls st) := by
  have hF : ∀ q, va_A (wl cy M) H.size q → A q := by
    intro q hq
    rcases hq with ⟨k, e9, h9⟩ | h9
    · exact w.2.1.2 k (q, e9) h9
    · exact E.2.2 q (Nat.le_trans w.2.2.1 h9)
  have hroom : 2 * (F0 m pc ls st).monitorRoom + (rest.map fun v => v.category).sum ≤ 8 := lv_room (by rw [hrs, tv_sum]; exact hsum)
  obtain ⟨rfl, hcd, hini, hdd⟩ := Y
  have hini' : Cond.initialized own ∈ lwt := by rw [← hC]; exact hini
  have hG : GoodIn lwt (wsS own idx y (Cond.code y bytes maxL ret :: lwt)) := lw_gi (fun w9 h9 => by
    unfold wsS at h9
    simp only [List.cons_append, List.nil_append, List.mem_cons] at h9
    rcases h9 with h | h | h | h | h
    · rw [h]; exact hlink
    · rw [h]; exact hstat
    · rw [h]; exact hini'
    · rw [h]; exact hcd
    · exact h)
  exact va_callv (va_runS (As := av.map tv) (rest := rest) E.1 (k D cy H.size) (cwS n E.1.2.2.2.2 hG rfl rfl rfl ⟨hC, hdd⟩ hR) ⟨fun a U g mk q => by obtain ⟨q0, q1, qP, qK, qD⟩ := q; exact ⟨q0, q1, qP, qK.calling g mk a, qD⟩, fun U hU hW => ⟨rfl, by rw [hU], by rw [hU]; exact w.1, E.2.1.warm hW, w.2.1.weaken (fun _ _ _ _ => trivial)⟩⟩ rfl (by rw [List.length_map]; exact hn) hsz.1 hst hroom hd hcs) w.2.2 (fun q _ h => hF q h) hF (fun u t H1 locs1 ht hvm hw hB hz1 hk1 hS => kk u H1 locs1 hw ⟨by rw [← ht]; exact hB.1, hB.2.weaken (fun k q _ hq => hF q.1 hq), hS⟩)
theorem r_callTv (E : Ex p m c cc nL s args own D cy A) (w : Wd D cy A s M H locs) {st : List Value} {y : MethodName} {cd : Cond} {bytes : ByteArray} {maxL n idx : Nat} {ret : Option FieldType} {rm : Room} {Qm : Mm → Prop} (Y : Yk y cd bytes maxL ret n) (hR : rm.frames + 1 ≤ R.frames ∧ 8 + (maxL + 11) + rm.locals ≤ R.locals) (hcs : cells + rm.cells ≤ R.cells ∧ slots + rm.slots ≤ R.slots) (hlink : Cond.methodLink own idx y ∈ lwt) (hstat : Cond.static y ∈ lwt) (av : List Tg) (hst : st = (av.map tv).reverse ++ rest) (hn : av.length = n) {lv : List (Nat × Tg)} (hsz : lh ls nL lv) (rs : List Tg) (hrs : rest = rs.map tv) (hsum : (rs.map ct).sum ≤ 8) (k : KV l y cd rm av M Qm) (hd : decode cc pc = .ok (.invokestatic idx, 3)) (kk : ∀ (M' : Mm) (H' : Heap) (locs' : List Loc), Qm  M' → Wd D cy A s M' H' locs' → W p l e R s m args below meth c H' locs' (cells + rm.cells) (slots + rm.slots) Q (F0 m (pc + 3) ls (rest))) : W p l e R s m args below meth c H locs cells slots Q (F0 m pc ls st) := by
  have hF : ∀ q, va_A (wl cy M) H.size q → A q := by
    intro q hq
    rcases hq with ⟨k, e9, h9⟩ | h9
    · exact w.2.1.2 k (q, e9) h9
    · exact E.2.2 q (Nat.le_trans w.2.2.1 h9)
  have hroom : 2 * (F0 m pc ls st).monitorRoom + (rest.map fun v => v.category).sum ≤ 8 := lv_room (by rw [hrs, tv_sum]; exact hsum)
  obtain ⟨rfl, hcd, hini, hdd⟩ := Y
  have hG : GoodIn lwt (Cond.code y bytes maxL ret :: lwt) := lw_gi (fun w9 h9 => by
    rcases List.mem_cons.mp h9 with h | h
    · rw [h]; exact hcd
    · exact h)
  exact va_callv (va_runS (As := av.map tv) (rest := rest) E.1 (k D cy H.size) ⟨callB_of n E.1.2.2.2.2 hG rfl rfl rfl (E.1.2.2.2.2 _ hini) (E.1.2.2.2.2 _ hlink) hdd hR, E.1.2.2.2.2 _ hstat⟩ ⟨fun a U g mk q => by obtain ⟨q0, q1, qP, qK, qD⟩ := q; exact ⟨q0, q1, qP, qK.calling g mk a, qD⟩, fun U hU hW => ⟨rfl, by rw [hU], by rw [hU]; exact w.1, E.2.1.warm hW, w.2.1.weaken (fun _ _ _ _ => trivial)⟩⟩ rfl (by rw [List.length_map]; exact hn) hsz.1 hst hroom hd hcs) w.2.2 (fun q _ h => hF q h) hF (fun u t H1 locs1 ht hvm hw hB hz1 hk1 hS => kk u H1 locs1 hw ⟨by rw [← ht]; exact hB.1, hB.2.weaken (fun k q _ hq => hF q.1 hq), hS⟩)
theorem r_callI (E : Ex p m c cc nL s args own D cy A) (w : Wd D cy A s M H locs) {x : Option Nat} {b : Nat} {st : List Value} {y : MethodName} {cd : Cond} {bytes : ByteArray} {maxL n idx : Nat} {rm : Room} {Qm : Mm → Prop} (hxb : x = some b) (Y : Yk y cd bytes maxL none n) (hR : rm.frames + 1 ≤ R.frames ∧ 8 + (maxL + 11) + rm.locals ≤ R.locals) (hcs : cells + rm.cells ≤ R.cells ∧ slots + rm.slots ≤ R.slots) (hname : y.name = "<init>") (hlink : Cond.methodLink own idx y ∈ lwt) (hinst : Cond.instanceMethod y ∈ lwt) (av : List Tg) (hst : st = (av.map tv).reverse ++ va_rf x :: rest) (hn : av.length = n) {lv : List (Nat × Tg)} (hsz : lh ls nL lv) (rs : List Tg) (hrs : rest = rs.map tv) (hsum : (rs.map ct).sum ≤ 8) (k : KV l y cd rm (rv (some b) :: av) M Qm) (hd : decode cc pc = .ok (.invokespecial idx, 3)) (kk : ∀ (M' : Mm) (H' : Heap) (locs' : List Loc), Qm  M' → Wd D cy A s M' H' locs' → W p l e R s m args below meth c H' locs' (cells + rm.cells) (slots + rm.slots) Q (F0 m (pc + 3) ls (rest))) : W p l e R s m args below meth c H locs cells slots Q (F0 m pc ls st) := by
  have hF : ∀ q, va_A (wl cy M) H.size q → A q := by
    intro q hq
    rcases hq with ⟨k, e9, h9⟩ | h9
    · exact w.2.1.2 k (q, e9) h9
    · exact E.2.2 q (Nat.le_trans w.2.2.1 h9)
  have hroom : 2 * (F0 m pc ls st).monitorRoom + (rest.map fun v => v.category).sum ≤ 8 := lv_room (by rw [hrs, tv_sum]; exact hsum)
  obtain ⟨rfl, hcd, hini, hdd⟩ := Y
  subst hxb
  have hG : GoodIn lwt (Cond.code y bytes maxL none :: lwt) := lw_gi (fun w9 h9 => by
    rcases List.mem_cons.mp h9 with h | h
    · rw [h]; exact hcd
    · exact h)
  exact va_callv (va_runI (As := av.map tv) (rest := rest) (b := b) E.1 (k D cy H.size) (cwI n E.1.2.2.2.2 hG rfl rfl rfl (E.1.2.2.2.2 _ hini) (E.1.2.2.2.2 _ hlink) (E.1.2.2.2.2 _ hinst) hname hdd hR) ⟨fun a U g mk q => by obtain ⟨q0, q1, qP, qK, qD⟩ := q; exact ⟨q0, q1, qP, qK.calling g mk a, qD⟩, fun U hU hW => ⟨rfl, by rw [hU], by rw [hU]; exact w.1, E.2.1.warm hW, w.2.1.weaken (fun _ _ _ _ => trivial)⟩⟩ rfl (by rw [List.length_map]; exact hn) hsz.1 hst hroom hd hcs) w.2.2 (fun q _ h => hF q h) hF (fun u t H1 locs1 ht hvm hw hB hz1 hk1 hS => kk u H1 locs1 hw ⟨by rw [← ht]; exact hB.1, hB.2.weaken (fun k q _ hq => hF q.1 hq), hS⟩)
theorem r_callIN (E : Ex p m c cc nL s args own D cy A) (w : Wd D cy A s M H locs) {x : Option Nat} {b : Nat} {host : String} {st : List Value} {y : MethodName} {cd : Cond} {bytes : ByteArray} {maxL n idx : Nat} {rm : Room} {Qm : Mm → Prop} (hxb : x = some b) (Y : Yk y cd bytes maxL none n) (hR : rm.frames + 1 ≤ R.frames ∧ 8 + (maxL + 11) + rm.locals ≤ R.locals) (hcs : cells + rm.cells ≤ R.cells ∧ slots + rm.slots ≤ R.slots) (hname : y.name = "<init>") (hlink : va_Nw (.methodLinkNest own idx y host) s) (hinst : Cond.instanceMethod y ∈ lwt) (av : List Tg) (hst : st = (av.map tv).reverse ++ va_rf x :: rest) (hn : av.length = n) {lv : List (Nat × Tg)} (hsz : lh ls nL lv) (rs : List Tg) (hrs : rest = rs.map tv) (hsum : (rs.map ct).sum ≤ 8) (k : KV l y cd rm (rv (some b) :: av) M Qm) (hd : decode cc pc = .ok (.invokespecial idx, 3)) (kk : ∀ (M' : Mm) (H' : Heap) (locs' : List Loc), Qm  M' → Wd D cy A s M' H' locs' → W p l e R s m args below meth c H' locs' (cells + rm.cells) (slots + rm.slots) Q (F0 m (pc + 3) ls (rest))) : W p l e R s m args below meth c H locs cells slots Q (F0 m pc ls st) := by
  have hF : ∀ q, va_A (wl cy M) H.size q → A q := by
    intro q hq
    rcases hq with ⟨k, e9, h9⟩ | h9
    · exact w.2.1.2 k (q, e9) h9
    · exact E.2.2 q (Nat.le_trans w.2.2.1 h9)
  have hroom : 2 * (F0 m pc ls st).monitorRoom + (rest.map fun v => v.category).sum ≤ 8 := lv_room (by rw [hrs, tv_sum]; exact hsum)
  obtain ⟨rfl, hcd, hini, hdd⟩ := Y
  subst hxb
  have hG : GoodIn lwt (Cond.code y bytes maxL none :: lwt) := lw_gi (fun w9 h9 => by
    rcases List.mem_cons.mp h9 with h | h
    · rw [h]; exact hcd
    · exact h)
  exact va_callv (va_runIN (As := av.map tv) (rest := rest) (b := b) E.1 (k D cy H.size) ⟨va_cnB n E.1.2.2.2.2 hG rfl rfl rfl hlink (E.1.2.2.2.2 _ hini) hdd hR, hname, E.1.2.2.2.2 _ hinst⟩ ⟨fun a U g mk q => by obtain ⟨q0, q1, qP, qK, qD⟩ := q; exact ⟨q0, q1, qP, qK.calling g mk a, qD⟩, fun U hU hW => ⟨rfl, by rw [hU], by rw [hU]; exact w.1, E.2.1.warm hW, w.2.1.weaken (fun _ _ _ _ => trivial)⟩⟩ rfl (by rw [List.length_map]; exact hn) hsz.1 hst hroom hd hcs) w.2.2 (fun q _ h => hF q h) hF (fun u t H1 locs1 ht hvm hw hB hz1 hk1 hS => kk u H1 locs1 hw ⟨by rw [← ht]; exact hB.1, hB.2.weaken (fun k q _ hq => hF q.1 hq), hS⟩)
theorem r_callVq (E : Ex p m c cc nL s args own D cy A) (w : Wd D cy A s M H locs) {x : Option Nat} {b ci : Nat} {C : String} {T : u_T} {N : Nat} {ty : Nat → FieldType} {st : List Value} {y : MethodName} {cd : Cond} {bytes : ByteArray} {maxL n idx : Nat} {ret : Option FieldType} {rm : Room} {Qm : Option Nat → Mm → Prop} (hxb : x = some b) (ho : ok M b ci) (K : Cls ci C T N ty) (Y : Yk y cd bytes maxL ret n) (hR : rm.frames + 1 ≤ R.frames ∧ 8 + (maxL + 11) + rm.locals ≤ R.locals) (hcs : cells + rm.cells ≤ R.cells ∧ slots + rm.slots ≤ R.slots) (hC : y.cls = C) (hlink : Cond.methodLink own idx y ∈ lwt) (hinst : Cond.instanceMethod y ∈ lwt) (hsel : Cond.selects C y y ∈ lwt) (av : List Tg) (hst : st = (av.map tv).reverse ++ va_rf x :: rest) (hn : av.length = n) {lv : List (Nat × Tg)} (hsz : lh ls nL lv) (rs : List Tg) (hrs : rest = rs.map tv) (hsum : (rs.map ct).sum ≤ 8) (k : KQ l y cd rm (rv (some b) :: av) M Qm) (hd : decode cc pc = .ok (.invokevirtual idx, 3)) (kk : ∀ (r : Option Nat) (M' : Mm) (H' : Heap) (locs' : List Loc), Qm r M' → Wd D cy A s M' H' locs' → W p l e R s m args below meth c H' locs' (cells + rm.cells) (slots + rm.slots) Q (F0 m (pc + 3) ls (va_rf r :: rest))) : W p l e R s m args below meth c H locs cells slots Q (F0 m pc ls st) := by
  have hF : ∀ q, va_A (wl cy M) H.size q → A q := by
    intro q hq
    rcases hq with ⟨k, e9, h9⟩ | h9
    · exact w.2.1.2 k (q, e9) h9
    · exact E.2.2 q (Nat.le_trans w.2.2.1 h9)
  have hroom : 2 * (F0 m pc ls st).monitorRoom + (rest.map fun v => v.category).sum ≤ 8 := lv_room (by rw [hrs, tv_sum]; exact hsum)
  obtain ⟨rfl, hcd, hini, hdd⟩ := Y
  subst hxb
  obtain ⟨k0, hk0⟩ := wl_get (cy := cy) ho.1
  rw [en_o ho.2 K.2.2.2.2.1] at hk0
  have hini' : Cond.initialized C ∈ lwt := by rw [← hC]; exact hini
  have hG : GoodIn lwt (wsV own idx C y (Cond.code y bytes maxL ret :: lwt)) := lw_gi (fun w9 h9 => by
    unfold wsV at h9
    simp only [List.cons_append, List.nil_append, List.mem_cons] at h9
    rcases h9 with h | h | h | h | h | h
    · rw [h]; exact hlink
    · rw [h]; exact hinst
    · rw [h]; exact hsel
    · rw [h]; exact hini'
    · rw [h]; exact hcd
    · exact h)
  exact va_callq (va_runV (As := av.map tv) (rest := rest) (b := b) E.1 (k D cy H.size) (cwV n E.1.2.2.2.2 hG rfl rfl rfl ⟨hC, hdd⟩ hR) ⟨fun a U g mk q => by obtain ⟨q0, q1, qP, qK, qD⟩ := q; exact ⟨q0, q1, qP, qK.calling g mk a, qD⟩, va_recv E.2.1.1 w.1 K.1 hk0, fun U hU hW => ⟨rfl, by rw [hU], by rw [hU]; exact w.1, E.2.1.warm hW, w.2.1.weaken (fun _ _ _ _ => trivial)⟩⟩ rfl (by rw [List.length_map]; exact hn) hsz.1 hst hroom hd hcs) w.2.2 (fun q _ h => hF q h) hF (fun r u t H1 locs1 ht hvm hw hB hz1 hk1 hS => kk r u H1 locs1 hw ⟨by rw [← ht]; exact hB.1, hB.2.weaken (fun k q _ hq => hF q.1 hq), hS⟩)
theorem r_callSq (E : Ex p m c cc nL s args own D cy A) (w : Wd D cy A s M H locs) {st : List Value} {y : MethodName} {cd : Cond} {bytes : ByteArray} {maxL n idx : Nat} {ret : Option FieldType} {rm : Room} {Qm : Option Nat → Mm → Prop} (Y : Yk y cd bytes maxL ret n) (hR : rm.frames + 1 ≤ R.frames ∧ 8 + (maxL + 11) + rm.locals ≤ R.locals) (hcs : cells + rm.cells ≤ R.cells ∧ slots + rm.slots ≤ R.slots) (hC : y.cls = own) (hlink : Cond.methodLink own idx y ∈ lwt) (hstat : Cond.static y ∈ lwt) (av : List Tg) (hst : st = (av.map tv).reverse ++ rest) (hn : av.length = n) {lv : List (Nat × Tg)} (hsz : lh ls nL lv) (rs : List Tg) (hrs : rest = rs.map tv) (hsum : (rs.map ct).sum ≤ 8) (k : KQ l y cd rm av M Qm) (hd : decode cc pc = .ok (.invokestatic idx, 3)) (kk : ∀ (r : Option Nat) (M' : Mm) (H' : Heap) (locs' : List Loc), Qm r M' → Wd D cy A s M' H' locs' → W p l e R s m args below meth c H' locs' (cells + rm.cells) (slots + rm.slots) Q (F0 m (pc + 3) ls (va_rf r :: rest))) : W p l e R s m args below meth c H locs cells slots Q (F0 m pc ls st) := by
  have hF : ∀ q, va_A (wl cy M) H.size q → A q := by
    intro q hq
    rcases hq with ⟨k, e9, h9⟩ | h9
    · exact w.2.1.2 k (q, e9) h9
    · exact E.2.2 q (Nat.le_trans w.2.2.1 h9)
  have hroom : 2 * (F0 m pc ls st).monitorRoom + (rest.map fun v => v.category).sum ≤ 8 := lv_room (by rw [hrs, tv_sum]; exact hsum)
  obtain ⟨rfl, hcd, hini, hdd⟩ := Y
  have hini' : Cond.initialized own ∈ lwt := by rw [← hC]; exact hini
  have hG : GoodIn lwt (wsS own idx y (Cond.code y bytes maxL ret :: lwt)) := lw_gi (fun w9 h9 => by
    unfold wsS at h9
    simp only [List.cons_append, List.nil_append, List.mem_cons] at h9
    rcases h9 with h | h | h | h | h
    · rw [h]; exact hlink
    · rw [h]; exact hstat
    · rw [h]; exact hini'
    · rw [h]; exact hcd
    · exact h)
  exact va_callq (va_runS (As := av.map tv) (rest := rest) E.1 (k D cy H.size) (cwS n E.1.2.2.2.2 hG rfl rfl rfl ⟨hC, hdd⟩ hR) ⟨fun a U g mk q => by obtain ⟨q0, q1, qP, qK, qD⟩ := q; exact ⟨q0, q1, qP, qK.calling g mk a, qD⟩, fun U hU hW => ⟨rfl, by rw [hU], by rw [hU]; exact w.1, E.2.1.warm hW, w.2.1.weaken (fun _ _ _ _ => trivial)⟩⟩ rfl (by rw [List.length_map]; exact hn) hsz.1 hst hroom hd hcs) w.2.2 (fun q _ h => hF q h) hF (fun r u t H1 locs1 ht hvm hw hB hz1 hk1 hS => kk r u H1 locs1 hw ⟨by rw [← ht]; exact hB.1, hB.2.weaken (fun k q _ hq => hF q.1 hq), hS⟩)
theorem r_callTq (E : Ex p m c cc nL s args own D cy A) (w : Wd D cy A s M H locs) {st : List Value} {y : MethodName} {cd : Cond} {bytes : ByteArray} {maxL n idx : Nat} {ret : Option FieldType} {rm : Room} {Qm : Option Nat → Mm → Prop} (Y : Yk y cd bytes maxL ret n) (hR : rm.frames + 1 ≤ R.frames ∧ 8 + (maxL + 11) + rm.locals ≤ R.locals) (hcs : cells + rm.cells ≤ R.cells ∧ slots + rm.slots ≤ R.slots) (hlink : Cond.methodLink own idx y ∈ lwt) (hstat : Cond.static y ∈ lwt) (av : List Tg) (hst : st = (av.map tv).reverse ++ rest) (hn : av.length = n) {lv : List (Nat × Tg)} (hsz : lh ls nL lv) (rs : List Tg) (hrs : rest = rs.map tv) (hsum : (rs.map ct).sum ≤ 8) (k : KQ l y cd rm av M Qm) (hd : decode cc pc = .ok (.invokestatic idx, 3)) (kk : ∀ (r : Option Nat) (M' : Mm) (H' : Heap) (locs' : List Loc), Qm r M' → Wd D cy A s M' H' locs' → W p l e R s m args below meth c H' locs' (cells + rm.cells) (slots + rm.slots) Q (F0 m (pc + 3) ls (va_rf r :: rest))) : W p l e R s m args below meth c H locs cells slots Q (F0 m pc ls st) := by
  have hF : ∀ q, va_A (wl cy M) H.size q → A q := by
    intro q hq
    rcases hq with ⟨k, e9, h9⟩ | h9
    · exact w.2.1.2 k (q, e9) h9
    · exact E.2.2 q (Nat.le_trans w.2.2.1 h9)
  have hroom : 2 * (F0 m pc ls st).monitorRoom + (rest.map fun v => v.category).sum ≤ 8 := lv_room (by rw [hrs, tv_sum]; exact hsum)
  obtain ⟨rfl, hcd, hini, hdd⟩ := Y
  have hG : GoodIn lwt (Cond.code y bytes maxL ret :: lwt) := lw_gi (fun w9 h9 => by
    rcases List.mem_cons.mp h9 with h | h
    · rw [h]; exact hcd
    · exact h)
  exact va_callq (va_runS (As := av.map tv) (rest := rest) E.1 (k D cy H.size) ⟨callB_of n E.1.2.2.2.2 hG rfl rfl rfl (E.1.2.2.2.2 _ hini) (E.1.2.2.2.2 _ hlink) hdd hR, E.1.2.2.2.2 _ hstat⟩ ⟨fun a U g mk q => by obtain ⟨q0, q1, qP, qK, qD⟩ := q; exact ⟨q0, q1, qP, qK.calling g mk a, qD⟩, fun U hU hW => ⟨rfl, by rw [hU], by rw [hU]; exact w.1, E.2.1.warm hW, w.2.1.weaken (fun _ _ _ _ => trivial)⟩⟩ rfl (by rw [List.length_map]; exact hn) hsz.1 hst hroom hd hcs) w.2.2 (fun q _ h => hF q h) hF (fun r u t H1 locs1 ht hvm hw hB hz1 hk1 hS => kk r u H1 locs1 hw ⟨by rw [← ht]; exact hB.1, hB.2.weaken (fun k q _ hq => hF q.1 hq), hS⟩)
end RX
