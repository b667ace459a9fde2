/-! THE END: the law's predicate gives the claim -/
theorem ac_spec {s : State} {args : Array Value} {ty : FieldType} (h : (Cond.arrayClass ty).before args s = true) (hp : va_RA s = va_RA s) : ∃ cA : ClassId, ArrOfT s cA ty ∧ s.vm.findClass ("[" ++ ty.toString) = some cA := by
  obtain ⟨c, k, comp, h1, h2, h3⟩ := Cond.arrayClass_spec h
  exact ⟨c, fun n z => ⟨fun k h => (by cases h), k, h2, comp, h3⟩, h1⟩
theorem ao_spec {s : State} {C : String} (h : va_AO C s) : ∃ cA : ClassId, ArrOfT s cA (.object C) ∧ va_RA s cA (.object C) := by
  obtain ⟨comp, c, k, h1, h2, h3, h4, h5⟩ := Cond.arrayOver_spec h
  exact ⟨c, fun n z => ⟨fun k h => (by cases h), k, h3, comp, h4⟩, k, comp, h3, h4, h1, h5⟩
set_option maxHeartbeats 4000000 in
set_option maxRecDepth 100000 in
theorem whole_start {p : Program} {e : Env} {s : State} {m : MethodId} {below : List Frame} {meth : Method} {c : Code} (l : Launch) {b L : Nat} {xs : Nat → Int32} (hL : L ≤ 3584) (C0 : lw_At p s m meth c b L xs) : W p l e room_1 s m #[Value.ref b] below meth c s.heap [] 0 0 (lw_Z below #[Value.ref b] s) (entryFrame m ([Value.ref b] : List Value).toArray 4) := by
  obtain ⟨hx, hb, hr, hml, hown, hts, hX, hbl, hlocks, hgv⟩ := C0
  have hts' : ∀ w ∈ lwt, w.before #[Value.ref b] s = true := fun w h => hts w (List.mem_filter.mp h).1
  have hkn : ∀ (ci : Nat) (C : String) (T : u_T) (N : Nat) (ty : Nat → FieldType), Cls ci C T N ty → Cond.instantiable C N ∈ lwt → ∃ (cC : ClassId) (iS : Nat → Nat), u_Kn s C T N cC iS := fun ci C T N ty K hi => u_known (n := N) hts' K.2.1 (hts' _ hi)
  obtain ⟨c0, i0, k0⟩ := hkn _ _ _ _ _ cl_X0 ins_X0
  obtain ⟨c1, i1, k1⟩ := hkn _ _ _ _ _ cl_X1 ins_X1
  obtain ⟨c2, i2, k2⟩ := hkn _ _ _ _ _ cl_X2 ins_X2
  obtain ⟨c3, i3, k3⟩ := hkn _ _ _ _ _ cl_X3 ins_X3
  obtain ⟨c4, i4, k4⟩ := hkn _ _ _ _ _ cl_X4 ins_X4
  obtain ⟨c5, i5, k5⟩ := hkn _ _ _ _ _ cl_X5 ins_X5
  obtain ⟨c6, i6, k6⟩ := hkn _ _ _ _ _ cl_X6 ins_X6
  obtain ⟨y0, ya0, yb0⟩ := ac_spec (hts' _ acl_int) rfl
  obtain ⟨y1, ya1, yb1⟩ := ac_spec (hts' _ acl_long) rfl
  obtain ⟨y2, ya2, yb2⟩ := ac_spec (hts' _ acl_boolean) rfl
  have ao3 : va_AO RX3 s := va_AO.of (hts (.arrayOver (.object RX3)) (by decide +kernel))
  have ao4 : va_AO RX4 s := va_AO.of (hts (.arrayOver (.object RX4)) (by decide +kernel))
  obtain ⟨y3, ya3, yb3⟩ := ao_spec ao3
  obtain ⟨y4, ya4, yb4⟩ := ao_spec ao4
  have n1 : va_Nw (.methodLinkNest RX5 24 yX1_init RX5) s := va_Nw.of rfl (hts _ (by decide +kernel))
  have n2 : va_Nw (.methodLinkNest RX5 31 yX2_init RX5) s := va_Nw.of rfl (hts _ (by decide +kernel))
  have n3 : va_Nw (.methodLinkNest RX5 247 yX0_init RX5) s := va_Nw.of rfl (hts _ (by decide +kernel))
  obtain ⟨D, hD⟩ : ∃ D : va_G, ∀ (k : Nat) (q : vw_C), vwCl[k]? = some q → u_Kn s q.1 q.2.1 q.2.2 (D.1 k) (D.2 k) := by
    refine ⟨(fun k => match k with | 0 => c0 | 1 => c1 | 2 => c2 | 3 => c3 | 4 => c4 | 5 => c5 | _ => c6, fun k => match k with | 0 => i0 | 1 => i1 | 2 => i2 | 3 => i3 | 4 => i4 | 5 => i5 | _ => i6), ?_⟩
    intro k q hq
    match k, hq with
    | 0, hq => cases hq; exact k0
    | 1, hq => cases hq; exact k1
    | 2, hq => cases hq; exact k2
    | 3, hq => cases hq; exact k3
    | 4, hq => cases hq; exact k4
    | 5, hq => cases hq; exact k5
    | 6, hq => cases hq; exact k6
    | k + 7, hq => simp [vwCl] at hq
  obtain ⟨cy, hcy⟩ : ∃ cy : Nat → ClassId, cy 0 = y0 ∧ cy 1 = y1 ∧ cy 2 = y2 ∧ cy 3 = y3 ∧ cy 4 = y4 := ⟨fun k => match k with | 0 => y0 | 1 => y1 | 2 => y2 | 3 => y3 | _ => y4, rfl, rfl, rfl, rfl, rfl⟩
  obtain ⟨rfl, rfl, rfl, rfl, rfl⟩ := hcy
  have hK : va_K D vwCl (tyq cy) s := by
    refine ⟨hD, fun k q hq => ?_⟩
    match k, hq with
    | 0, hq => cases hq; exact ⟨ya0, yb0⟩
    | 1, hq => cases hq; exact ⟨ya1, yb1⟩
    | 2, hq => cases hq; exact ⟨ya2, yb2⟩
    | 3, hq => cases hq; exact ⟨ya3, yb3⟩
    | 4, hq => cases hq; exact ⟨ya4, yb4⟩
    | k + 5, hq => simp [tyq] at hq
  have E : Ex p m c cL_law 4 s #[Value.ref b] RL D cy (fun q : Nat => s.heap.size ≤ q) := ⟨⟨hx, hb, hml, hown, hts'⟩, ⟨hK, ao3, ao4, n1, n2, n3⟩, fun _ h => h⟩
  have w : Wd D cy (fun q : Nat => s.heap.size ≤ q) s M0 s.heap [] := ⟨fun k q h => by simp [wl, M0, gL, va_pl] at h, ⟨fun i j p q h => by simp [wl, M0, gL, va_pl] at h, fun k q h => by simp [wl, M0, gL, va_pl] at h⟩, va_S.rf⟩
  have hl := lv_entry ([rv (some b)].map tv) (n := 4) (Nat.le_of_ble_eq_true rfl)
  rw [la_args] at hl
  have hle : entryFrame m ([Value.ref b] : List Value).toArray 4 = entryFrame m (([rv (some b)].map tv).toArray) 4 := rfl
  rw [hle, lg_entry_eq]
  exact k_L_law_0 E hr hlocks hX hbl _ _ _ _ _ _ _ 0 0 (pure_law b L xs hL) w hl ⟨by decide, by decide⟩
