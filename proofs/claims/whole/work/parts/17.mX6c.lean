def B_X6_isCut_0 (Q : Int32 → Mm → Prop)  (h0 : Nat) (x1 : Int32) (M : Mm) : Prop := ((x1 < 0 → Q (0 : Int32) M) ∧ (¬ x1 < 0 → (ok M h0 6 ∧ ((((gI M h0 18) - (1 : Int32)) ≤ x1 → Q (0 : Int32) M) ∧ (¬ ((gI M h0 18) - (1 : Int32)) ≤ x1 → Q (1 : Int32) M)))))
set_option maxHeartbeats 4000000 in
set_option maxRecDepth 100000 in
theorem k_X6_isCut_0 {p : Program} {l : Launch} {e : Env} {s : State} {m : MethodId} {args : Array Value} {below : List Frame} {meth : Method} {c : Code} {D : va_G} {cy : Nat → ClassId} {A : Nat → Prop} {Q : Int32 → Mm → Prop} (E : Ex p m c cX6_isCut 2 s args RX6 D cy A) (hr : meth.sig.returnType = (some .boolean)) (hlk : meth.locks = false) : ∀ (h0 : Nat) (x1 : Int32) (M : Mm) (H : Heap) (locs : List Loc) (ls : Array Slot), B_X6_isCut_0 Q  h0 x1 M → Wd D cy A s M H locs → lh ls 2 [(0, rv (some h0)), (1, iv x1)] → W p l e (rmm 0 0 0) s m args below meth c H locs 0 0 (MQ below (va_Qi Q (Po D cy A) A) args s 0 0 A) (F0 m 0 ls []) := by
  obtain ⟨hx, hb, hml, hown, hts⟩ := E.1
  intro h0 x1 M H locs ls h w hl
  unfold B_X6_isCut_0 at h
  refine lv_iload_n (x := x1) hx hb dX6_isCut_0 rfl (lh_at hl 1 rfl) ?_
  refine lv_if_lt (tgt := 18) hx hb dX6_isCut_1 (by decide) (fun c1 => ?_) (fun c1 => ?_)
  · have h := h.1 c1
    refine lv_iconst (v := (0 : Int32)) hx hb dX6_isCut_18 (by decide) ?_
    exact r_zret E w hr hlk ⟨Or.inl rfl, h⟩ (Nat.le_refl 0) (Nat.le_refl 0) dX6_isCut_19
  · have h := h.2 c1
    refine lv_iload_n (x := x1) hx hb dX6_isCut_4 rfl (lh_at hl 1 rfl) ?_
    refine r_aload_n (x := (some h0)) hx hb dX6_isCut_5 rfl (lh_at hl 0 rfl) ?_
    obtain ⟨ho2, h⟩ := h
    refine r_getI E w rfl ho2 cl_X6 18 rfl fl_X6_132 dX6_isCut_6 ?_
    refine lv_iconst (v := (1 : Int32)) hx hb dX6_isCut_9 (by decide) ?_
    refine lv_isub hx hb dX6_isCut_10 ?_
    refine lv_icmp_ge (tgt := 18) hx hb dX6_isCut_11 (by decide) (fun c3 => ?_) (fun c3 => ?_)
    · have h := h.1 c3
      refine lv_iconst (v := (0 : Int32)) hx hb dX6_isCut_18 (by decide) ?_
      exact r_zret E w hr hlk ⟨Or.inl rfl, h⟩ (Nat.le_refl 0) (Nat.le_refl 0) dX6_isCut_19
    · have h := h.2 c3
      refine lv_iconst (v := (1 : Int32)) hx hb dX6_isCut_14 (by decide) ?_
      refine lv_goto (tgt := 19) hx hb dX6_isCut_15 (by decide) ?_
      exact r_zret E w hr hlk ⟨Or.inr rfl, h⟩ (Nat.le_refl 0) (Nat.le_refl 0) dX6_isCut_19
theorem K_X6_isCut {l : Launch} {Q : Int32 → Mm → Prop} {h0 : Nat} {x1 : Int32} {M : Mm} (h : B_X6_isCut_0 Q h0 x1 M) : KI l yX6_isCut cdX6_isCut (rmm 0 0 0) [rv (some h0), iv x1] M Q :=
  KI_of (by decide) rfl (Nat.le_of_ble_eq_true rfl) (fun p e s m args below meth c D cy A ls E hr hlk hn w hl => k_X6_isCut_0 E hr hlk _ _ _ _ _ _ h w hl)
def B_X6_buildOfCut_0 (Q : Int32 → Mm → Prop)  (h0 : Nat) (x1 : Int32) (M : Mm) : Prop := (ok M h0 6 ∧ (∃ a2, (gR M h0 19) = some a2 ∧ (ar M a2 7 (x1 + (1 : Int32)) ∧ (∃ a4, (gR M h0 10) = some a4 ∧ (ar M a4 7 (gI M a2 (Int32.toNatClampNeg (x1 + (1 : Int32)))) ∧ Q (gI M a4 (Int32.toNatClampNeg (gI M a2 (Int32.toNatClampNeg (x1 + (1 : Int32)))))) M)))))
set_option maxHeartbeats 4000000 in
set_option maxRecDepth 100000 in
theorem k_X6_buildOfCut_0 {p : Program} {l : Launch} {e : Env} {s : State} {m : MethodId} {args : Array Value} {below : List Frame} {meth : Method} {c : Code} {D : va_G} {cy : Nat → ClassId} {A : Nat → Prop} {Q : Int32 → Mm → Prop} (E : Ex p m c cX6_buildOfCut 2 s args RX6 D cy A) (hr : meth.sig.returnType = (some .int)) (hlk : meth.locks = false) : ∀ (h0 : Nat) (x1 : Int32) (M : Mm) (H : Heap) (locs : List Loc) (ls : Array Slot), B_X6_buildOfCut_0 Q  h0 x1 M → Wd D cy A s M H locs → lh ls 2 [(0, rv (some h0)), (1, iv x1)] → W p l e (rmm 0 0 0) s m args below meth c H locs 0 0 (MQ below (va_Qi Q (Po D cy A) A) args s 0 0 A) (F0 m 0 ls []) := by
  obtain ⟨hx, hb, hml, hown, hts⟩ := E.1
  intro h0 x1 M H locs ls h w hl
  unfold B_X6_buildOfCut_0 at h
  refine r_aload_n (x := (some h0)) hx hb dX6_buildOfCut_0 rfl (lh_at hl 0 rfl) ?_
  obtain ⟨ho1, h⟩ := h
  refine r_getR E w rfl ho1 cl_X6 10 rfl fl_X6_26 dX6_buildOfCut_1 ?_
  refine r_aload_n (x := (some h0)) hx hb dX6_buildOfCut_4 rfl (lh_at hl 0 rfl) ?_
  refine r_getR E w rfl ho1 cl_X6 19 rfl fl_X6_44 dX6_buildOfCut_5 ?_
  refine lv_iload_n (x := x1) hx hb dX6_buildOfCut_8 rfl (lh_at hl 1 rfl) ?_
  refine lv_iconst (v := (1 : Int32)) hx hb dX6_buildOfCut_9 (by decide) ?_
  refine lv_iadd hx hb dX6_buildOfCut_10 ?_
  obtain ⟨a2, ea2, h⟩ := h
  obtain ⟨ha3, h⟩ := h
  refine r_iald E w ea2 ha3 dX6_buildOfCut_11 ?_
  obtain ⟨a4, ea4, h⟩ := h
  obtain ⟨ha5, h⟩ := h
  refine r_iald E w ea4 ha5 dX6_buildOfCut_12 ?_
  exact r_iret E w hr hlk h (Nat.le_refl 0) (Nat.le_refl 0) dX6_buildOfCut_13
theorem K_X6_buildOfCut {l : Launch} {Q : Int32 → Mm → Prop} {h0 : Nat} {x1 : Int32} {M : Mm} (h : B_X6_buildOfCut_0 Q h0 x1 M) : KI l yX6_buildOfCut cdX6_buildOfCut (rmm 0 0 0) [rv (some h0), iv x1] M Q :=
  KI_of (by decide) rfl (Nat.le_of_ble_eq_true rfl) (fun p e s m args below meth c D cy A ls E hr hlk hn w hl => k_X6_buildOfCut_0 E hr hlk _ _ _ _ _ _ h w hl)
def B_X6_sizeOf_0 (Q : Int32 → Mm → Prop)  (h0 : Nat) (x1 : Int32) (M : Mm) : Prop := (ok M h0 6 ∧ (∃ a2, (gR M h0 20) = some a2 ∧ (ar M a2 7 (x1 + (1 : Int32)) ∧ (ar M a2 7 x1 ∧ Q ((gI M a2 (Int32.toNatClampNeg (x1 + (1 : Int32)))) - (gI M a2 (Int32.toNatClampNeg x1))) M))))
set_option maxHeartbeats 4000000 in
set_option maxRecDepth 100000 in
theorem k_X6_sizeOf_0 {p : Program} {l : Launch} {e : Env} {s : State} {m : MethodId} {args : Array Value} {below : List Frame} {meth : Method} {c : Code} {D : va_G} {cy : Nat → ClassId} {A : Nat → Prop} {Q : Int32 → Mm → Prop} (E : Ex p m c cX6_sizeOf 2 s args RX6 D cy A) (hr : meth.sig.returnType = (some .int)) (hlk : meth.locks = false) : ∀ (h0 : Nat) (x1 : Int32) (M : Mm) (H : Heap) (locs : List Loc) (ls : Array Slot), B_X6_sizeOf_0 Q  h0 x1 M → Wd D cy A s M H locs → lh ls 2 [(0, rv (some h0)), (1, iv x1)] → W p l e (rmm 0 0 0) s m args below meth c H locs 0 0 (MQ below (va_Qi Q (Po D cy A) A) args s 0 0 A) (F0 m 0 ls []) := by
  obtain ⟨hx, hb, hml, hown, hts⟩ := E.1
  intro h0 x1 M H locs ls h w hl
  unfold B_X6_sizeOf_0 at h
  refine r_aload_n (x := (some h0)) hx hb dX6_sizeOf_0 rfl (lh_at hl 0 rfl) ?_
  obtain ⟨ho1, h⟩ := h
  refine r_getR E w rfl ho1 cl_X6 20 rfl fl_X6_47 dX6_sizeOf_1 ?_
  refine lv_iload_n (x := x1) hx hb dX6_sizeOf_4 rfl (lh_at hl 1 rfl) ?_
  refine lv_iconst (v := (1 : Int32)) hx hb dX6_sizeOf_5 (by decide) ?_
  refine lv_iadd hx hb dX6_sizeOf_6 ?_
  obtain ⟨a2, ea2, h⟩ := h
  obtain ⟨ha3, h⟩ := h
  refine r_iald E w ea2 ha3 dX6_sizeOf_7 ?_
  refine r_aload_n (x := (some h0)) hx hb dX6_sizeOf_8 rfl (lh_at hl 0 rfl) ?_
  refine r_getR E w rfl ho1 cl_X6 20 rfl fl_X6_47 dX6_sizeOf_9 ?_
  refine lv_iload_n (x := x1) hx hb dX6_sizeOf_12 rfl (lh_at hl 1 rfl) ?_
  obtain ⟨ha4, h⟩ := h
  refine r_iald E w ea2 ha4 dX6_sizeOf_13 ?_
  refine lv_isub hx hb dX6_sizeOf_14 ?_
  exact r_iret E w hr hlk h (Nat.le_refl 0) (Nat.le_refl 0) dX6_sizeOf_15
theorem K_X6_sizeOf {l : Launch} {Q : Int32 → Mm → Prop} {h0 : Nat} {x1 : Int32} {M : Mm} (h : B_X6_sizeOf_0 Q h0 x1 M) : KI l yX6_sizeOf cdX6_sizeOf (rmm 0 0 0) [rv (some h0), iv x1] M Q :=
  KI_of (by decide) rfl (Nat.le_of_ble_eq_true rfl) (fun p e s m args below meth c D cy A ls E hr hlk hn w hl => k_X6_sizeOf_0 E hr hlk _ _ _ _ _ _ h w hl)
def B_X6_price_0 (Q : Int32 → Mm → Prop)  (h0 : Nat) (x1 : Int32) (M : Mm) : Prop := (B_X6_in_0 (fun r2 M1 => ((¬ r2 = 0 → (ok M1 h0 6 ∧ (∀ M5, M5 = pI M1 h0 13 x1 → Q (gI M1 h0 13) M5))) ∧ (r2 = 0 → Q (-1 : Int32) M1))) x1 (0 : Int32) (1000 : Int32) M)
set_option maxHeartbeats 4000000 in
set_option maxRecDepth 100000 in
theorem k_X6_price_0 {p : Program} {l : Launch} {e : Env} {s : State} {m : MethodId} {args : Array Value} {below : List Frame} {meth : Method} {c : Code} {D : va_G} {cy : Nat → ClassId} {A : Nat → Prop} {Q : Int32 → Mm → Prop} (E : Ex p m c cX6_price 3 s args RX6 D cy A) (hr : meth.sig.returnType = (some .int)) (hlk : meth.locks = false) : ∀ (h0 : Nat) (x1 : Int32) (M : Mm) (H : Heap) (locs : List Loc) (ls : Array Slot), B_X6_price_0 Q  h0 x1 M → Wd D cy A s M H locs → lh ls 3 [(0, rv (some h0)), (1, iv x1)] → W p l e (rmm 1 0 0) s m args below meth c H locs 0 0 (MQ below (va_Qi Q (Po D cy A) A) args s 0 0 A) (F0 m 0 ls []) := by
  obtain ⟨hx, hb, hml, hown, hts⟩ := E.1
  intro h0 x1 M H locs ls h w hl
  unfold B_X6_price_0 at h
  refine lv_iload_n (x := x1) hx hb dX6_price_0 rfl (lh_at hl 1 rfl) ?_
  refine lv_iconst (v := (0 : Int32)) hx hb dX6_price_1 (by decide) ?_
  refine lv_sipush (v := (1000 : Int32)) hx hb dX6_price_2 (by decide) ?_
  refine z_callSi E w yk_X6_in ⟨Nat.le_of_ble_eq_true rfl, Nat.le_of_ble_eq_true rfl⟩ ⟨(Nat.zero_le _), (Nat.zero_le _)⟩ rfl ml_X6_84 st_X6_in [iv x1, iv (0 : Int32), iv (1000 : Int32)] rfl rfl hl [] rfl (Nat.le_of_ble_eq_true rfl) (K_X6_in h) dX6_price_5 (fun r2 M1 H locs h w => ?_)
  refine lv_if_ne (tgt := 13) hx hb dX6_price_8 (by decide) (fun c3 => ?_) (fun c3 => ?_)
  · have h := h.1 c3
    refine r_aload_n (x := (some h0)) hx hb dX6_price_13 rfl (lh_at hl 0 rfl) ?_
    obtain ⟨ho4, h⟩ := h
    refine r_getI E w rfl ho4 cl_X6 13 rfl fl_X6_70 dX6_price_14 ?_
    refine r_istore_n (lv' := [(2, iv (gI M1 h0 13)), (0, rv (some h0)), (1, iv x1)]) hx hb dX6_price_17 rfl hl (by decide) rfl (fun ls hl => ?_)
    refine r_aload_n (x := (some h0)) hx hb dX6_price_18 rfl (lh_at hl 1 rfl) ?_
    refine lv_iload_n (x := x1) hx hb dX6_price_19 rfl (lh_at hl 2 rfl) ?_
    refine r_putI (v := x1) E w rfl ho4 cl_X6 13 rfl fl_X6_70 (Or.inl rfl) (Or.inl rfl) dX6_price_20 (fun H locs w => ?_)
    obtain ⟨M5, eM5⟩ : ∃ z, z = pI M1 h0 13 x1 := ⟨_, rfl⟩
    rw [← eM5] at w
    have h := h M5 eM5
    refine lv_iload_n (x := (gI M1 h0 13)) hx hb dX6_price_23 rfl (lh_at hl 0 rfl) ?_
    exact r_iret E w hr hlk h (Nat.le_refl 0) (Nat.le_refl 0) dX6_price_24
  · have h := h.2 c3
    refine lv_iconst (v := (-1 : Int32)) hx hb dX6_price_11 (by decide) ?_
    exact r_iret E w hr hlk h (Nat.le_refl 0) (Nat.le_refl 0) dX6_price_12
theorem K_X6_price {l : Launch} {Q : Int32 → Mm → Prop} {h0 : Nat} {x1 : Int32} {M : Mm} (h : B_X6_price_0 Q h0 x1 M) : KI l yX6_price cdX6_price (rmm 1 0 0) [rv (some h0), iv x1] M Q :=
  KI_of (by decide) rfl (Nat.le_of_ble_eq_true rfl) (fun p e s m args below meth c D cy A ls E hr hlk hn w hl => k_X6_price_0 E hr hlk _ _ _ _ _ _ h w hl)
def B_X6_cuts_32 (Q : Int32 → Mm → Prop)  (h0 : Nat) (s0 : Nat) (s1 : Int64) (M : Mm) : Prop := (ok M s0 6 ∧ (∀ M2, M2 = pJ M s0 2 s1 → (ok M2 h0 6 ∧ ((¬ (gI M2 h0 9) = 0 → Q ((gI M2 h0 18) - (1 : Int32)) M2) ∧ ((gI M2 h0 9) = 0 → Q (0 : Int32) M2)))))
set_option maxHeartbeats 4000000 in
set_option maxRecDepth 100000 in
theorem k_X6_cuts_32 {p : Program} {l : Launch} {e : Env} {s : State} {m : MethodId} {args : Array Value} {below : List Frame} {meth : Method} {c : Code} {D : va_G} {cy : Nat → ClassId} {A : Nat → Prop} {Q : Int32 → Mm → Prop} (E : Ex p m c cX6_cuts 4 s args RX6 D cy A) (hr : meth.sig.returnType = (some .int)) (hlk : meth.locks = false) : ∀ (h0 : Nat) (s0 : Nat) (s1 : Int64) (M : Mm) (H : Heap) (locs : List Loc) (ls : Array Slot), B_X6_cuts_32 Q  h0 s0 s1 M → Wd D cy A s M H locs → lh ls 4 [(0, rv (some h0))] → W p l e (rmm 4 0 0) s m args below meth c H locs 0 0 (MQ below (va_Qi Q (Po D cy A) A) args s 0 0 A) (F0 m 32 ls [.long s1, va_rf (some s0)]) := by
  obtain ⟨hx, hb, hml, hown, hts⟩ := E.1
  intro h0 s0 s1 M H locs ls h w hl
  unfold B_X6_cuts_32 at h
  obtain ⟨ho1, h⟩ := h
  refine r_putJ (v := s1) E w rfl ho1 cl_X6 2 rfl fl_X6_88 (Or.inl rfl) rfl dX6_cuts_32 (fun H locs w => ?_)
  obtain ⟨M2, eM2⟩ : ∃ z, z = pJ M s0 2 s1 := ⟨_, rfl⟩
  rw [← eM2] at w
  have h := h M2 eM2
  refine r_aload_n (x := (some h0)) hx hb dX6_cuts_35 rfl (lh_at hl 0 rfl) ?_
  obtain ⟨ho3, h⟩ := h
  refine r_getI E w rfl ho3 cl_X6 9 rfl fl_X6_112 dX6_cuts_36 ?_
  refine lv_if_ne (tgt := 46) hx hb dX6_cuts_39 (by decide) (fun c4 => ?_) (fun c4 => ?_)
  · have h := h.1 c4
    refine r_aload_n (x := (some h0)) hx hb dX6_cuts_46 rfl (lh_at hl 0 rfl) ?_
    refine r_getI E w rfl ho3 cl_X6 18 rfl fl_X6_132 dX6_cuts_47 ?_
    refine lv_iconst (v := (1 : Int32)) hx hb dX6_cuts_50 (by decide) ?_
    refine lv_isub hx hb dX6_cuts_51 ?_
    exact r_iret E w hr hlk h (Nat.le_refl 0) (Nat.le_refl 0) dX6_cuts_52
  · have h := h.2 c4
    refine lv_iconst (v := (0 : Int32)) hx hb dX6_cuts_42 (by decide) ?_
    refine lv_goto (tgt := 52) hx hb dX6_cuts_43 (by decide) ?_
    exact r_iret E w hr hlk h (Nat.le_refl 0) (Nat.le_refl 0) dX6_cuts_52
def B_X6_cuts_0 (Q : Int32 → Mm → Prop)  (h0 : Nat) (x1 : Int32) (x2 : Int32) (M : Mm) : Prop := (ok M h0 6 ∧ (B_X6_need_0 (fun r3 M2 => ((0 ≤ r3 → (ok M2 h0 6 ∧ ((¬ (gI M2 h0 9) = 0 → (∃ a7, (gR M2 h0 15) = some a7 ∧ (ar M2 a7 7 (0 : Int32) ∧ B_X6_cuts_32 Q  h0 h0 (Int32.toInt64 (gI M2 a7 (Int32.toNatClampNeg (0 : Int32)))) M2))) ∧ ((gI M2 h0 9) = 0 → B_X6_cuts_32 Q  h0 h0 (0 : Int64) M2)))) ∧ (¬ 0 ≤ r3 → Q r3 M2))) h0 x1 x2 M))
set_option maxHeartbeats 4000000 in
set_option maxRecDepth 100000 in
theorem k_X6_cuts_0 {p : Program} {l : Launch} {e : Env} {s : State} {m : MethodId} {args : Array Value} {below : List Frame} {meth : Method} {c : Code} {D : va_G} {cy : Nat → ClassId} {A : Nat → Prop} {Q : Int32 → Mm → Prop} (E : Ex p m c cX6_cuts 4 s args RX6 D cy A) (hr : meth.sig.returnType = (some .int)) (hlk : meth.locks = false) : ∀ (h0 : Nat) (x1 : Int32) (x2 : Int32) (M : Mm) (H : Heap) (locs : List Loc) (ls : Array Slot), B_X6_cuts_0 Q  h0 x1 x2 M → Wd D cy A s M H locs → lh ls 4 [(0, rv (some h0)), (1, iv x1), (2, iv x2)] → W p l e (rmm 4 0 0) s m args below meth c H locs 0 0 (MQ below (va_Qi Q (Po D cy A) A) args s 0 0 A) (F0 m 0 ls []) := by
  obtain ⟨hx, hb, hml, hown, hts⟩ := E.1
  intro h0 x1 x2 M H locs ls h w hl
  unfold B_X6_cuts_0 at h
  refine r_aload_n (x := (some h0)) hx hb dX6_cuts_0 rfl (lh_at hl 0 rfl) ?_
  refine lv_iload_n (x := x1) hx hb dX6_cuts_1 rfl (lh_at hl 1 rfl) ?_
  refine lv_iload_n (x := x2) hx hb dX6_cuts_2 rfl (lh_at hl 2 rfl) ?_
  obtain ⟨ho1, h⟩ := h
  refine z_callVi E w rfl ho1 cl_X6 yk_X6_need ⟨Nat.le_of_ble_eq_true rfl, Nat.le_of_ble_eq_true rfl⟩ ⟨(Nat.zero_le _), (Nat.zero_le _)⟩ rfl ml_X6_119 im_X6_need sl_X6_need [iv x1, iv x2] rfl rfl hl [] rfl (Nat.le_of_ble_eq_true rfl) (K_X6_need h) dX6_cuts_3 (fun r3 M2 H locs h w => ?_)
  refine r_istore_n (lv' := [(3, iv r3), (0, rv (some h0)), (1, iv x1), (2, iv x2)]) hx hb dX6_cuts_6 rfl hl (by decide) rfl (fun ls hl => ?_)
  refine lv_iload_n (x := r3) hx hb dX6_cuts_7 rfl (lh_at hl 0 rfl) ?_
  refine lv_if_ge (tgt := 13) hx hb dX6_cuts_8 (by decide) (fun c4 => ?_) (fun c4 => ?_)
  · have h := h.1 c4
    refine r_aload_n (x := (some h0)) hx hb dX6_cuts_13 rfl (lh_at hl 1 rfl) ?_
    refine r_aload_n (x := (some h0)) hx hb dX6_cuts_14 rfl (lh_at hl 1 rfl) ?_
    obtain ⟨ho5, h⟩ := h
    refine r_getI E w rfl ho5 cl_X6 9 rfl fl_X6_112 dX6_cuts_15 ?_
    refine lv_if_ne (tgt := 25) hx hb dX6_cuts_18 (by decide) (fun c6 => ?_) (fun c6 => ?_)
    · have h := h.1 c6
      refine r_aload_n (x := (some h0)) hx hb dX6_cuts_25 rfl (lh_at hl 1 rfl) ?_
      refine r_getR E w rfl ho5 cl_X6 15 rfl fl_X6_35 dX6_cuts_26 ?_
      refine lv_iconst (v := (0 : Int32)) hx hb dX6_cuts_29 (by decide) ?_
      obtain ⟨a7, ea7, h⟩ := h
      obtain ⟨ha8, h⟩ := h
      refine r_iald E w ea7 ha8 dX6_cuts_30 ?_
      refine lv_i2l hx hb dX6_cuts_31 rfl ?_
      exact k_X6_cuts_32 E hr hlk  _ _ _ _ _ _ _ h w (lh_sub hl [1] rfl)
    · have h := h.2 c6
      refine lv_lconst (v := (0 : Int64)) hx hb dX6_cuts_21 (by decide) ?_
      refine lv_goto (tgt := 32) hx hb dX6_cuts_22 (by decide) ?_
      exact k_X6_cuts_32 E hr hlk  _ _ _ _ _ _ _ h w (lh_sub hl [1] rfl)
  · have h := h.2 c4
    refine lv_iload_n (x := r3) hx hb dX6_cuts_11 rfl (lh_at hl 0 rfl) ?_
    exact r_iret E w hr hlk h (Nat.le_refl 0) (Nat.le_refl 0) dX6_cuts_12
theorem K_X6_cuts {l : Launch} {Q : Int32 → Mm → Prop} {h0 : Nat} {x1 : Int32} {x2 : Int32} {M : Mm} (h : B_X6_cuts_0 Q h0 x1 x2 M) : KI l yX6_cuts cdX6_cuts (rmm 4 0 0) [rv (some h0), iv x1, iv x2] M Q :=
  KI_of (by decide) rfl (Nat.le_of_ble_eq_true rfl) (fun p e s m args below meth c D cy A ls E hr hlk hn w hl => k_X6_cuts_0 E hr hlk _ _ _ _ _ _ _ h w hl)
def B_X6_cut_0 (Q : Int32 → Mm → Prop)  (h0 : Nat) (x1 : Int32) (x2 : Int32) (x3 : Int32) (M : Mm) : Prop := (ok M h0 6 ∧ (B_X6_need_0 (fun r3 M2 => ((0 ≤ r3 → (ok M2 h0 6 ∧ (B_X6_isCut_0 (fun r7 M6 => ((r7 = 0 → Q (-9 : Int32) M6) ∧ (¬ r7 = 0 → (ok M6 h0 6 ∧ (B_X6_buildOfCut_0 (fun r11 M10 => Q r11 M10) h0 x3 M6))))) h0 x3 M2))) ∧ (¬ 0 ≤ r3 → Q r3 M2))) h0 x1 x2 M))
set_option maxHeartbeats 4000000 in
set_option maxRecDepth 100000 in
theorem k_X6_cut_0 {p : Program} {l : Launch} {e : Env} {s : State} {m : MethodId} {args : Array Value} {below : List Frame} {meth : Method} {c : Code} {D : va_G} {cy : Nat → ClassId} {A : Nat → Prop} {Q : Int32 → Mm → Prop} (E : Ex p m c cX6_cut 5 s args RX6 D cy A) (hr : meth.sig.returnType = (some .int)) (hlk : meth.locks = false) : ∀ (h0 : Nat) (x1 : Int32) (x2 : Int32) (x3 : Int32) (M : Mm) (H : Heap) (locs : List Loc) (ls : Array Slot), B_X6_cut_0 Q  h0 x1 x2 x3 M → Wd D cy A s M H locs → lh ls 5 [(0, rv (some h0)), (1, iv x1), (2, iv x2), (3, iv x3)] → W p l e (rmm 4 0 0) s m args below meth c H locs 0 0 (MQ below (va_Qi Q (Po D cy A) A) args s 0 0 A) (F0 m 0 ls []) := by
  obtain ⟨hx, hb, hml, hown, hts⟩ := E.1
  intro h0 x1 x2 x3 M H locs ls h w hl
  unfold B_X6_cut_0 at h
  refine r_aload_n (x := (some h0)) hx hb dX6_cut_0 rfl (lh_at hl 0 rfl) ?_
  refine lv_iload_n (x := x1) hx hb dX6_cut_1 rfl (lh_at hl 1 rfl) ?_
  refine lv_iload_n (x := x2) hx hb dX6_cut_2 rfl (lh_at hl 2 rfl) ?_
  obtain ⟨ho1, h⟩ := h
  refine z_callVi E w rfl ho1 cl_X6 yk_X6_need ⟨Nat.le_of_ble_eq_true rfl, Nat.le_of_ble_eq_true rfl⟩ ⟨(Nat.zero_le _), (Nat.zero_le _)⟩ rfl ml_X6_119 im_X6_need sl_X6_need [iv x1, iv x2] rfl rfl hl [] rfl (Nat.le_of_ble_eq_true rfl) (K_X6_need h) dX6_cut_3 (fun r3 M2 H locs h w => ?_)
  refine r_istore (lv' := [(4, iv r3), (0, rv (some h0)), (1, iv x1), (2, iv x2), (3, iv x3)]) hx hb dX6_cut_6 hl (by decide) rfl (fun ls hl => ?_)
  refine lv_iload (x := r3) hx hb dX6_cut_8 (lh_at hl 0 rfl) ?_
  refine lv_if_ge (tgt := 18) hx hb dX6_cut_10 (by decide) (fun c4 => ?_) (fun c4 => ?_)
  · have h := h.1 c4
    refine r_aload_n (x := (some h0)) hx hb dX6_cut_18 rfl (lh_at hl 1 rfl) ?_
    refine lv_iload_n (x := x3) hx hb dX6_cut_19 rfl (lh_at hl 4 rfl) ?_
    obtain ⟨ho5, h⟩ := h
    refine z_callVi E w rfl ho5 cl_X6 yk_X6_isCut ⟨Nat.le_of_ble_eq_true rfl, Nat.le_of_ble_eq_true rfl⟩ ⟨(Nat.zero_le _), (Nat.zero_le _)⟩ rfl ml_X6_135 im_X6_isCut sl_X6_isCut [iv x3] rfl rfl hl [] rfl (Nat.le_of_ble_eq_true rfl) (K_X6_isCut h) dX6_cut_20 (fun r7 M6 H locs h w => ?_)
    refine lv_if_eq (tgt := 34) hx hb dX6_cut_23 (by decide) (fun c8 => ?_) (fun c8 => ?_)
    · have h := h.1 c8
      refine lv_bipush (v := (-9 : Int32)) hx hb dX6_cut_34 (by decide) ?_
      exact r_iret E w hr hlk h (Nat.le_refl 0) (Nat.le_refl 0) dX6_cut_36
    · have h := h.2 c8
      refine r_aload_n (x := (some h0)) hx hb dX6_cut_26 rfl (lh_at hl 1 rfl) ?_
      refine lv_iload_n (x := x3) hx hb dX6_cut_27 rfl (lh_at hl 4 rfl) ?_
      obtain ⟨ho9, h⟩ := h
      refine z_callVi E w rfl ho9 cl_X6 yk_X6_buildOfCut ⟨Nat.le_of_ble_eq_true rfl, Nat.le_of_ble_eq_true rfl⟩ ⟨(Nat.zero_le _), (Nat.zero_le _)⟩ rfl ml_X6_138 im_X6_buildOfCut sl_X6_buildOfCut [iv x3] rfl rfl hl [] rfl (Nat.le_of_ble_eq_true rfl) (K_X6_buildOfCut h) dX6_cut_28 (fun r11 M10 H locs h w => ?_)
      refine lv_goto (tgt := 36) hx hb dX6_cut_31 (by decide) ?_
      exact r_iret E w hr hlk h (Nat.le_refl 0) (Nat.le_refl 0) dX6_cut_36
  · have h := h.2 c4
    refine lv_iload (x := r3) hx hb dX6_cut_13 (lh_at hl 0 rfl) ?_
    refine lv_goto (tgt := 36) hx hb dX6_cut_15 (by decide) ?_
    exact r_iret E w hr hlk h (Nat.le_refl 0) (Nat.le_refl 0) dX6_cut_36
theorem K_X6_cut {l : Launch} {Q : Int32 → Mm → Prop} {h0 : Nat} {x1 : Int32} {x2 : Int32} {x3 : Int32} {M : Mm} (h : B_X6_cut_0 Q h0 x1 x2 x3 M) : KI l yX6_cut cdX6_cut (rmm 4 0 0) [rv (some h0), iv x1, iv x2, iv x3] M Q :=
  KI_of (by decide) rfl (Nat.le_of_ble_eq_true rfl) (fun p e s m args below meth c D cy A ls E hr hlk hn w hl => k_X6_cut_0 E hr hlk _ _ _ _ _ _ _ _ h w hl)
def B_X6_middle_0 (Q : Int32 → Mm → Prop)  (h0 : Nat) (x1 : Int32) (x2 : Int32) (x3 : Int32) (M : Mm) : Prop := (ok M h0 6 ∧ (B_X6_need_0 (fun r3 M2 => ((0 ≤ r3 → (ok M2 h0 6 ∧ (B_X6_in_0 (fun r7 M6 => ((r7 = 0 → Q (-9 : Int32) M6) ∧ (¬ r7 = 0 → (ok M6 h0 6 ∧ (∃ a10, (gR M6 h0 20) = some a10 ∧ (ar M6 a10 7 x3 ∧ Q (gI M6 a10 (Int32.toNatClampNeg x3)) M6)))))) x3 (0 : Int32) ((gI M2 h0 18) - (1 : Int32)) M2))) ∧ (¬ 0 ≤ r3 → Q r3 M2))) h0 x1 x2 M))
set_option maxHeartbeats 4000000 in
set_option maxRecDepth 100000 in
theorem k_X6_middle_0 {p : Program} {l : Launch} {e : Env} {s : State} {m : MethodId} {args : Array Value} {below : List Frame} {meth : Method} {c : Code} {D : va_G} {cy : Nat → ClassId} {A : Nat → Prop} {Q : Int32 → Mm → Prop} (E : Ex p m c cX6_middle 5 s args RX6 D cy A) (hr : meth.sig.returnType = (some .int)) (hlk : meth.locks = false) : ∀ (h0 : Nat) (x1 : Int32) (x2 : Int32) (x3 : Int32) (M : Mm) (H : Heap) (locs : List Loc) (ls : Array Slot), B_X6_middle_0 Q  h0 x1 x2 x3 M → Wd D cy A s M H locs → lh ls 5 [(0, rv (some h0)), (1, iv x1), (2, iv x2), (3, iv x3)] → W p l e (rmm 4 0 0) s m args below meth c H locs 0 0 (MQ below (va_Qi Q (Po D cy A) A) args s 0 0 A) (F0 m 0 ls []) := by
  obtain ⟨hx, hb, hml, hown, hts⟩ := E.1
  intro h0 x1 x2 x3 M H locs ls h w hl
  unfold B_X6_middle_0 at h
  refine r_aload_n (x := (some h0)) hx hb dX6_middle_0 rfl (lh_at hl 0 rfl) ?_
  refine lv_iload_n (x := x1) hx hb dX6_middle_1 rfl (lh_at hl 1 rfl) ?_
  refine lv_iload_n (x := x2) hx hb dX6_middle_2 rfl (lh_at hl 2 rfl) ?_
  obtain ⟨ho1, h⟩ := h
  refine z_callVi E w rfl ho1 cl_X6 yk_X6_need ⟨Nat.le_of_ble_eq_true rfl, Nat.le_of_ble_eq_true rfl⟩ ⟨(Nat.zero_le _), (Nat.zero_le _)⟩ rfl ml_X6_119 im_X6_need sl_X6_need [iv x1, iv x2] rfl rfl hl [] rfl (Nat.le_of_ble_eq_true rfl) (K_X6_need h) dX6_middle_3 (fun r3 M2 H locs h w => ?_)
  refine r_istore (lv' := [(4, iv r3), (0, rv (some h0)), (1, iv x1), (2, iv x2), (3, iv x3)]) hx hb dX6_middle_6 hl (by decide) rfl (fun ls hl => ?_)
  refine lv_iload (x := r3) hx hb dX6_middle_8 (lh_at hl 0 rfl) ?_
  refine lv_if_ge (tgt := 18) hx hb dX6_middle_10 (by decide) (fun c4 => ?_) (fun c4 => ?_)
  · have h := h.1 c4
    refine lv_iload_n (x := x3) hx hb dX6_middle_18 rfl (lh_at hl 4 rfl) ?_
    refine lv_iconst (v := (0 : Int32)) hx hb dX6_middle_19 (by decide) ?_
    refine r_aload_n (x := (some h0)) hx hb dX6_middle_20 rfl (lh_at hl 1 rfl) ?_
    obtain ⟨ho5, h⟩ := h
    refine r_getI E w rfl ho5 cl_X6 18 rfl fl_X6_132 dX6_middle_21 ?_
    refine lv_iconst (v := (1 : Int32)) hx hb dX6_middle_24 (by decide) ?_
    refine lv_isub hx hb dX6_middle_25 ?_
    refine z_callSi E w yk_X6_in ⟨Nat.le_of_ble_eq_true rfl, Nat.le_of_ble_eq_true rfl⟩ ⟨(Nat.zero_le _), (Nat.zero_le _)⟩ rfl ml_X6_84 st_X6_in [iv x3, iv (0 : Int32), iv ((gI M2 h0 18) - (1 : Int32))] rfl rfl hl [] rfl (Nat.le_of_ble_eq_true rfl) (K_X6_in h) dX6_middle_26 (fun r7 M6 H locs h w => ?_)
    refine lv_if_eq (tgt := 41) hx hb dX6_middle_29 (by decide) (fun c8 => ?_) (fun c8 => ?_)
    · have h := h.1 c8
      refine lv_bipush (v := (-9 : Int32)) hx hb dX6_middle_41 (by decide) ?_
      exact r_iret E w hr hlk h (Nat.le_refl 0) (Nat.le_refl 0) dX6_middle_43
    · have h := h.2 c8
      refine r_aload_n (x := (some h0)) hx hb dX6_middle_32 rfl (lh_at hl 1 rfl) ?_
      obtain ⟨ho9, h⟩ := h
      refine r_getR E w rfl ho9 cl_X6 20 rfl fl_X6_47 dX6_middle_33 ?_
      refine lv_iload_n (x := x3) hx hb dX6_middle_36 rfl (lh_at hl 4 rfl) ?_
      obtain ⟨a10, ea10, h⟩ := h
      obtain ⟨ha11, h⟩ := h
      refine r_iald E w ea10 ha11 dX6_middle_37 ?_
      refine lv_goto (tgt := 43) hx hb dX6_middle_38 (by decide) ?_
      exact r_iret E w hr hlk h (Nat.le_refl 0) (Nat.le_refl 0) dX6_middle_43
  · have h := h.2 c4
    refine lv_iload (x := r3) hx hb dX6_middle_13 (lh_at hl 0 rfl) ?_
    refine lv_goto (tgt := 43) hx hb dX6_middle_15 (by decide) ?_
    exact r_iret E w hr hlk h (Nat.le_refl 0) (Nat.le_refl 0) dX6_middle_43
theorem K_X6_middle {l : Launch} {Q : Int32 → Mm → Prop} {h0 : Nat} {x1 : Int32} {x2 : Int32} {x3 : Int32} {M : Mm} (h : B_X6_middle_0 Q h0 x1 x2 x3 M) : KI l yX6_middle cdX6_middle (rmm 4 0 0) [rv (some h0), iv x1, iv x2, iv x3] M Q :=
  KI_of (by decide) rfl (Nat.le_of_ble_eq_true rfl) (fun p e s m args below meth c D cy A ls E hr hlk hn w hl => k_X6_middle_0 E hr hlk _ _ _ _ _ _ _ _ h w hl)
def B_X6_size_0 (Q : Int32 → Mm → Prop)  (h0 : Nat) (x1 : Int32) (x2 : Int32) (x3 : Int32) (M : Mm) : Prop := (ok M h0 6 ∧ (B_X6_need_0 (fun r3 M2 => ((0 ≤ r3 → (ok M2 h0 6 ∧ (B_X6_isCut_0 (fun r7 M6 => ((¬ r7 = 0 → (ok M6 h0 6 ∧ (B_X6_sizeOf_0 (fun r11 M10 => (ok M10 h0 6 ∧ (∀ M13, M13 = pJ M10 h0 2 (Int32.toInt64 r11) → Q (1 : Int32) M13))) h0 x3 M6))) ∧ (r7 = 0 → Q (-9 : Int32) M6))) h0 x3 M2))) ∧ (¬ 0 ≤ r3 → Q r3 M2))) h0 x1 x2 M))
set_option maxHeartbeats 4000000 in
set_option maxRecDepth 100000 in
theorem k_X6_size_0 {p : Program} {l : Launch} {e : Env} {s : State} {m : MethodId} {args : Array Value} {below : List Frame} {meth : Method} {c : Code} {D : va_G} {cy : Nat → ClassId} {A : Nat → Prop} {Q : Int32 → Mm → Prop} (E : Ex p m c cX6_size 5 s args RX6 D cy A) (hr : meth.sig.returnType = (some .int)) (hlk : meth.locks = false) : ∀ (h0 : Nat) (x1 : Int32) (x2 : Int32) (x3 : Int32) (M : Mm) (H : Heap) (locs : List Loc) (ls : Array Slot), B_X6_size_0 Q  h0 x1 x2 x3 M → Wd D cy A s M H locs → lh ls 5 [(0, rv (some h0)), (1, iv x1), (2, iv x2), (3, iv x3)] → W p l e (rmm 4 0 0) s m args below meth c H locs 0 0 (MQ below (va_Qi Q (Po D cy A) A) args s 0 0 A) (F0 m 0 ls []) := by
  obtain ⟨hx, hb, hml, hown, hts⟩ := E.1
  intro h0 x1 x2 x3 M H locs ls h w hl
  unfold B_X6_size_0 at h
  refine r_aload_n (x := (some h0)) hx hb dX6_size_0 rfl (lh_at hl 0 rfl) ?_
  refine lv_iload_n (x := x1) hx hb dX6_size_1 rfl (lh_at hl 1 rfl) ?_
  refine lv_iload_n (x := x2) hx hb dX6_size_2 rfl (lh_at hl 2 rfl) ?_
  obtain ⟨ho1, h⟩ := h
  refine z_callVi E w rfl ho1 cl_X6 yk_X6_need ⟨Nat.le_of_ble_eq_true rfl, Nat.le_of_ble_eq_true rfl⟩ ⟨(Nat.zero_le _), (Nat.zero_le _)⟩ rfl ml_X6_119 im_X6_need sl_X6_need [iv x1, iv x2] rfl rfl hl [] rfl (Nat.le_of_ble_eq_true rfl) (K_X6_need h) dX6_size_3 (fun r3 M2 H locs h w => ?_)
  refine r_istore (lv' := [(4, iv r3), (0, rv (some h0)), (1, iv x1), (2, iv x2), (3, iv x3)]) hx hb dX6_size_6 hl (by decide) rfl (fun ls hl => ?_)
  refine lv_iload (x := r3) hx hb dX6_size_8 (lh_at hl 0 rfl) ?_
  refine lv_if_ge (tgt := 16) hx hb dX6_size_10 (by decide) (fun c4 => ?_) (fun c4 => ?_)
  · have h := h.1 c4
    refine r_aload_n (x := (some h0)) hx hb dX6_size_16 rfl (lh_at hl 1 rfl) ?_
    refine lv_iload_n (x := x3) hx hb dX6_size_17 rfl (lh_at hl 4 rfl) ?_
    obtain ⟨ho5, h⟩ := h
    refine z_callVi E w rfl ho5 cl_X6 yk_X6_isCut ⟨Nat.le_of_ble_eq_true rfl, Nat.le_of_ble_eq_true rfl⟩ ⟨(Nat.zero_le _), (Nat.zero_le _)⟩ rfl ml_X6_135 im_X6_isCut sl_X6_isCut [iv x3] rfl rfl hl [] rfl (Nat.le_of_ble_eq_true rfl) (K_X6_isCut h) dX6_size_18 (fun r7 M6 H locs h w => ?_)
    refine lv_if_ne (tgt := 27) hx hb dX6_size_21 (by decide) (fun c8 => ?_) (fun c8 => ?_)
    · have h := h.1 c8
      refine r_aload_n (x := (some h0)) hx hb dX6_size_27 rfl (lh_at hl 1 rfl) ?_
      refine r_aload_n (x := (some h0)) hx hb dX6_size_28 rfl (lh_at hl 1 rfl) ?_
      refine lv_iload_n (x := x3) hx hb dX6_size_29 rfl (lh_at hl 4 rfl) ?_
      obtain ⟨ho9, h⟩ := h
      refine z_callVi E w rfl ho9 cl_X6 yk_X6_sizeOf ⟨Nat.le_of_ble_eq_true rfl, Nat.le_of_ble_eq_true rfl⟩ ⟨(Nat.zero_le _), (Nat.zero_le _)⟩ rfl ml_X6_141 im_X6_sizeOf sl_X6_sizeOf [iv x3] rfl rfl hl [rv (some h0)] rfl (Nat.le_of_ble_eq_true rfl) (K_X6_sizeOf h) dX6_size_30 (fun r11 M10 H locs h w => ?_)
      refine lv_i2l hx hb dX6_size_33 rfl ?_
      obtain ⟨ho12, h⟩ := h
      refine r_putJ (v := (Int32.toInt64 r11)) E w rfl ho12 cl_X6 2 rfl fl_X6_88 (Or.inl rfl) rfl dX6_size_34 (fun H locs w => ?_)
      obtain ⟨M13, eM13⟩ : ∃ z, z = pJ M10 h0 2 (Int32.toInt64 r11) := ⟨_, rfl⟩
      rw [← eM13] at w
      have h := h M13 eM13
      refine lv_iconst (v := (1 : Int32)) hx hb dX6_size_37 (by decide) ?_
      exact r_iret E w hr hlk h (Nat.le_refl 0) (Nat.le_refl 0) dX6_size_38
    · have h := h.2 c8
      refine lv_bipush (v := (-9 : Int32)) hx hb dX6_size_24 (by decide) ?_
      exact r_iret E w hr hlk h (Nat.le_refl 0) (Nat.le_refl 0) dX6_size_26
  · have h := h.2 c4
    refine lv_iload (x := r3) hx hb dX6_size_13 (lh_at hl 0 rfl) ?_
    exact r_iret E w hr hlk h (Nat.le_refl 0) (Nat.le_refl 0) dX6_size_15
theorem K_X6_size {l : Launch} {Q : Int32 → Mm → Prop} {h0 : Nat} {x1 : Int32} {x2 : Int32} {x3 : Int32} {M : Mm} (h : B_X6_size_0 Q h0 x1 x2 x3 M) : KI l yX6_size cdX6_size (rmm 4 0 0) [rv (some h0), iv x1, iv x2, iv x3] M Q :=
  KI_of (by decide) rfl (Nat.le_of_ble_eq_true rfl) (fun p e s m args below meth c D cy A ls E hr hlk hn w hl => k_X6_size_0 E hr hlk _ _ _ _ _ _ _ _ h w hl)
def B_X6_reach_0 (Q : Int32 → Mm → Prop)  (h0 : Nat) (x1 : Int32) (M : Mm) : Prop := (B_X6_in_0 (fun r2 M1 => ((¬ r2 = 0 → (ok M1 h0 6 ∧ (∀ M5, M5 = pI M1 h0 14 x1 → Q (gI M1 h0 14) M5))) ∧ (r2 = 0 → Q (-1 : Int32) M1))) x1 (0 : Int32) (5 : Int32) M)
set_option maxHeartbeats 4000000 in
set_option maxRecDepth 100000 in
theorem k_X6_reach_0 {p : Program} {l : Launch} {e : Env} {s : State} {m : MethodId} {args : Array Value} {below : List Frame} {meth : Method} {c : Code} {D : va_G} {cy : Nat → ClassId} {A : Nat → Prop} {Q : Int32 → Mm → Prop} (E : Ex p m c cX6_reach 3 s args RX6 D cy A) (hr : meth.sig.returnType = (some .int)) (hlk : meth.locks = false) : ∀ (h0 : Nat) (x1 : Int32) (M : Mm) (H : Heap) (locs : List Loc) (ls : Array Slot), B_X6_reach_0 Q  h0 x1 M → Wd D cy A s M H locs → lh ls 3 [(0, rv (some h0)), (1, iv x1)] → W p l e (rmm 1 0 0) s m args below meth c H locs 0 0 (MQ below (va_Qi Q (Po D cy A) A) args s 0 0 A) (F0 m 0 ls []) := by
  obtain ⟨hx, hb, hml, hown, hts⟩ := E.1
  intro h0 x1 M H locs ls h w hl
  unfold B_X6_reach_0 at h
  refine lv_iload_n (x := x1) hx hb dX6_reach_0 rfl (lh_at hl 1 rfl) ?_
  refine lv_iconst (v := (0 : Int32)) hx hb dX6_reach_1 (by decide) ?_
  refine lv_iconst (v := (5 : Int32)) hx hb dX6_reach_2 (by decide) ?_
  refine z_callSi E w yk_X6_in ⟨Nat.le_of_ble_eq_true rfl, Nat.le_of_ble_eq_true rfl⟩ ⟨(Nat.zero_le _), (Nat.zero_le _)⟩ rfl ml_X6_84 st_X6_in [iv x1, iv (0 : Int32), iv (5 : Int32)] rfl rfl hl [] rfl (Nat.le_of_ble_eq_true rfl) (K_X6_in h) dX6_reach_3 (fun r2 M1 H locs h w => ?_)
  refine lv_if_ne (tgt := 11) hx hb dX6_reach_6 (by decide) (fun c3 => ?_) (fun c3 => ?_)
  · have h := h.1 c3
    refine r_aload_n (x := (some h0)) hx hb dX6_reach_11 rfl (lh_at hl 0 rfl) ?_
    obtain ⟨ho4, h⟩ := h
    refine r_getI E w rfl ho4 cl_X6 14 rfl fl_X6_74 dX6_reach_12 ?_
    refine r_istore_n (lv' := [(2, iv (gI M1 h0 14)), (0, rv (some h0)), (1, iv x1)]) hx hb dX6_reach_15 rfl hl (by decide) rfl (fun ls hl => ?_)
    refine r_aload_n (x := (some h0)) hx hb dX6_reach_16 rfl (lh_at hl 1 rfl) ?_
    refine lv_iload_n (x := x1) hx hb dX6_reach_17 rfl (lh_at hl 2 rfl) ?_
    refine r_putI (v := x1) E w rfl ho4 cl_X6 14 rfl fl_X6_74 (Or.inl rfl) (Or.inl rfl) dX6_reach_18 (fun H locs w => ?_)
    obtain ⟨M5, eM5⟩ : ∃ z, z = pI M1 h0 14 x1 := ⟨_, rfl⟩
    rw [← eM5] at w
    have h := h M5 eM5
    refine lv_iload_n (x := (gI M1 h0 14)) hx hb dX6_reach_21 rfl (lh_at hl 0 rfl) ?_
    exact r_iret E w hr hlk h (Nat.le_refl 0) (Nat.le_refl 0) dX6_reach_22
  · have h := h.2 c3
    refine lv_iconst (v := (-1 : Int32)) hx hb dX6_reach_9 (by decide) ?_
    exact r_iret E w hr hlk h (Nat.le_refl 0) (Nat.le_refl 0) dX6_reach_10
theorem K_X6_reach {l : Launch} {Q : Int32 → Mm → Prop} {h0 : Nat} {x1 : Int32} {M : Mm} (h : B_X6_reach_0 Q h0 x1 M) : KI l yX6_reach cdX6_reach (rmm 1 0 0) [rv (some h0), iv x1] M Q :=
  KI_of (by decide) rfl (Nat.le_of_ble_eq_true rfl) (fun p e s m args below meth c D cy A ls E hr hlk hn w hl => k_X6_reach_0 E hr hlk _ _ _ _ _ _ h w hl)
def B_X6_showsNear_72 (Q : Int32 → Mm → Prop) (K5 : Nat → Int32 → Int32 → Int32 → Int32 → Mm → Prop) (h0 : Nat) (x1 : Int32) (x2 : Int32) (x4 : Int32) (M : Mm) : Prop := ((0 ≤ x2 → K5 h0 x1 x2 (0 : Int32) (x4 + 1) M) ∧ (¬ 0 ≤ x2 → (ok M h0 6 ∧ (B_X6_sizeOf_0 (fun r4 M3 => ((0 ≤ r4 → K5 h0 x1 x2 (0 : Int32) (x4 + 1) M3) ∧ (¬ 0 ≤ r4 → K5 h0 x1 x2 (1 : Int32) (x4 + 1) M3))) h0 x4 M))))
set_option maxHeartbeats 4000000 in
set_option maxRecDepth 100000 in
theorem k_X6_showsNear_72 {p : Program} {l : Launch} {e : Env} {s : State} {m : MethodId} {args : Array Value} {below : List Frame} {meth : Method} {c : Code} {D : va_G} {cy : Nat → ClassId} {A : Nat → Prop} {Q : Int32 → Mm → Prop} (E : Ex p m c cX6_showsNear 7 s args RX6 D cy A) (hr : meth.sig.returnType = (some .boolean)) (hlk : meth.locks = false) {K5 : Nat → Int32 → Int32 → Int32 → Int32 → Mm → Prop} (hK5 : ∀ (h0 : Nat) (x1 : Int32) (x2 : Int32) (x3 : Int32) (x4 : Int32) (M : Mm) (H : Heap) (locs : List Loc) (ls : Array Slot), K5 h0 x1 x2 x3 x4 M → Wd D cy A s M H locs → lh ls 7 [(0, rv (some h0)), (1, iv x1), (2, iv x2), (3, iv x3), (4, iv x4)] → W p l e (rmm 1 0 0) s m args below meth c H locs 0 0 (MQ below (va_Qi Q (Po D cy A) A) args s 0 0 A) (F0 m 5 ls [])) : ∀ (h0 : Nat) (x1 : Int32) (x2 : Int32) (x4 : Int32) (M : Mm) (H : Heap) (locs : List Loc) (ls : Array Slot), B_X6_showsNear_72 Q K5 h0 x1 x2 x4 M → Wd D cy A s M H locs → lh ls 7 [(0, rv (some h0)), (1, iv x1), (2, iv x2), (4, iv x4)] → W p l e (rmm 1 0 0) s m args below meth c H locs 0 0 (MQ below (va_Qi Q (Po D cy A) A) args s 0 0 A) (F0 m 72 ls []) := by
  obtain ⟨hx, hb, hml, hown, hts⟩ := E.1
  intro h0 x1 x2 x4 M H locs ls h w hl
  unfold B_X6_showsNear_72 at h
  refine lv_iload_n (x := x2) hx hb dX6_showsNear_72 rfl (lh_at hl 2 rfl) ?_
  refine lv_if_ge (tgt := 89) hx hb dX6_showsNear_73 (by decide) (fun c1 => ?_) (fun c1 => ?_)
  · have h := h.1 c1
    refine lv_iconst (v := (0 : Int32)) hx hb dX6_showsNear_89 (by decide) ?_
    refine r_istore_n (lv' := [(3, iv (0 : Int32)), (0, rv (some h0)), (1, iv x1), (2, iv x2), (4, iv x4)]) hx hb dX6_showsNear_90 rfl hl (by decide) rfl (fun ls hl => ?_)
    refine r_iinc (k := 4) (x := x4) (v := (x4 + 1)) (lv' := [(4, iv (x4 + 1)), (3, iv (0 : Int32)), (0, rv (some h0)), (1, iv x1), (2, iv x2)]) hx hb dX6_showsNear_91 hl rfl rfl (by decide) rfl (fun ls hl => ?_)
    refine lv_goto (tgt := 5) hx hb dX6_showsNear_94 (by decide) ?_
    exact hK5 _ _ _ _ _ _ _ _ _ h w (lh_sub hl [2, 3, 4, 1, 0] rfl)
  · have h := h.2 c1
    refine r_aload_n (x := (some h0)) hx hb dX6_showsNear_76 rfl (lh_at hl 0 rfl) ?_
    refine lv_iload (x := x4) hx hb dX6_showsNear_77 (lh_at hl 3 rfl) ?_
    obtain ⟨ho2, h⟩ := h
    refine z_callVi E w rfl ho2 cl_X6 yk_X6_sizeOf ⟨Nat.le_of_ble_eq_true rfl, Nat.le_of_ble_eq_true rfl⟩ ⟨(Nat.zero_le _), (Nat.zero_le _)⟩ rfl ml_X6_141 im_X6_sizeOf sl_X6_sizeOf [iv x4] rfl rfl hl [] rfl (Nat.le_of_ble_eq_true rfl) (K_X6_sizeOf h) dX6_showsNear_79 (fun r4 M3 H locs h w => ?_)
    refine lv_if_ge (tgt := 89) hx hb dX6_showsNear_82 (by decide) (fun c5 => ?_) (fun c5 => ?_)
    · have h := h.1 c5
      refine lv_iconst (v := (0 : Int32)) hx hb dX6_showsNear_89 (by decide) ?_
      refine r_istore_n (lv' := [(3, iv (0 : Int32)), (0, rv (some h0)), (1, iv x1), (2, iv x2), (4, iv x4)]) hx hb dX6_showsNear_90 rfl hl (by decide) rfl (fun ls hl => ?_)
      refine r_iinc (k := 4) (x := x4) (v := (x4 + 1)) (lv' := [(4, iv (x4 + 1)), (3, iv (0 : Int32)), (0, rv (some h0)), (1, iv x1), (2, iv x2)]) hx hb dX6_showsNear_91 hl rfl rfl (by decide) rfl (fun ls hl => ?_)
      refine lv_goto (tgt := 5) hx hb dX6_showsNear_94 (by decide) ?_
      exact hK5 _ _ _ _ _ _ _ _ _ h w (lh_sub hl [2, 3, 4, 1, 0] rfl)
    · have h := h.2 c5
      refine lv_iconst (v := (1 : Int32)) hx hb dX6_showsNear_85 (by decide) ?_
      refine lv_goto (tgt := 90) hx hb dX6_showsNear_86 (by decide) ?_
      refine r_istore_n (lv' := [(3, iv (1 : Int32)), (0, rv (some h0)), (1, iv x1), (2, iv x2), (4, iv x4)]) hx hb dX6_showsNear_90 rfl hl (by decide) rfl (fun ls hl => ?_)
      refine r_iinc (k := 4) (x := x4) (v := (x4 + 1)) (lv' := [(4, iv (x4 + 1)), (3, iv (1 : Int32)), (0, rv (some h0)), (1, iv x1), (2, iv x2)]) hx hb dX6_showsNear_91 hl rfl rfl (by decide) rfl (fun ls hl => ?_)
      refine lv_goto (tgt := 5) hx hb dX6_showsNear_94 (by decide) ?_
      exact hK5 _ _ _ _ _ _ _ _ _ h w (lh_sub hl [2, 3, 4, 1, 0] rfl)
def B_X6_showsNear_48 (Q : Int32 → Mm → Prop) (K5 : Nat → Int32 → Int32 → Int32 → Int32 → Mm → Prop) (h0 : Nat) (x1 : Int32) (x2 : Int32) (x3 : Int32) (x4 : Int32) (s0 : Int32) (M : Mm) : Prop := ((¬ x3 = 0 → K5 h0 x1 x2 (1 : Int32) (x4 + 1) M) ∧ (x3 = 0 → ((s0 = 0 → K5 h0 x1 x2 (0 : Int32) (x4 + 1) M) ∧ (¬ s0 = 0 → ((x2 ≤ 0 → B_X6_showsNear_72 Q K5 h0 x1 x2 x4 M) ∧ (¬ x2 ≤ 0 → (ok M h0 6 ∧ (B_X6_sizeOf_0 (fun r6 M5 => ((0 < r6 → K5 h0 x1 x2 (1 : Int32) (x4 + 1) M5) ∧ (¬ 0 < r6 → B_X6_showsNear_72 Q K5 h0 x1 x2 x4 M5))) h0 x4 M))))))))
set_option maxHeartbeats 4000000 in
set_option maxRecDepth 100000 in
theorem k_X6_showsNear_48 {p : Program} {l : Launch} {e : Env} {s : State} {m : MethodId} {args : Array Value} {below : List Frame} {meth : Method} {c : Code} {D : va_G} {cy : Nat → ClassId} {A : Nat → Prop} {Q : Int32 → Mm → Prop} (E : Ex p m c cX6_showsNear 7 s args RX6 D cy A) (hr : meth.sig.returnType = (some .boolean)) (hlk : meth.locks = false) {K5 : Nat → Int32 → Int32 → Int32 → Int32 → Mm → Prop} (hK5 : ∀ (h0 : Nat) (x1 : Int32) (x2 : Int32) (x3 : Int32) (x4 : Int32) (M : Mm) (H : Heap) (locs : List Loc) (ls : Array Slot), K5 h0 x1 x2 x3 x4 M → Wd D cy A s M H locs → lh ls 7 [(0, rv (some h0)), (1, iv x1), (2, iv x2), (3, iv x3), (4, iv x4)] → W p l e (rmm 1 0 0) s m args below meth c H locs 0 0 (MQ below (va_Qi Q (Po D cy A) A) args s 0 0 A) (F0 m 5 ls [])) : ∀ (h0 : Nat) (x1 : Int32) (x2 : Int32) (x3 : Int32) (x4 : Int32) (s0 : Int32) (M : Mm) (H : Heap) (locs : List Loc) (ls : Array Slot), B_X6_showsNear_48 Q K5 h0 x1 x2 x3 x4 s0 M → Wd D cy A s M H locs → lh ls 7 [(0, rv (some h0)), (1, iv x1), (2, iv x2), (3, iv x3), (4, iv x4)] → W p l e (rmm 1 0 0) s m args below meth c H locs 0 0 (MQ below (va_Qi Q (Po D cy A) A) args s 0 0 A) (F0 m 48 ls [.int s0]) := by
  obtain ⟨hx, hb, hml, hown, hts⟩ := E.1
  intro h0 x1 x2 x3 x4 s0 M H locs ls h w hl
  unfold B_X6_showsNear_48 at h
  refine r_istore (lv' := [(6, iv s0), (0, rv (some h0)), (1, iv x1), (2, iv x2), (3, iv x3), (4, iv x4)]) hx hb dX6_showsNear_48 hl (by decide) rfl (fun ls hl => ?_)
  refine lv_iload_n (x := x3) hx hb dX6_showsNear_50 rfl (lh_at hl 4 rfl) ?_
  refine lv_if_ne (tgt := 85) hx hb dX6_showsNear_51 (by decide) (fun c1 => ?_) (fun c1 => ?_)
  · have h := h.1 c1
    refine lv_iconst (v := (1 : Int32)) hx hb dX6_showsNear_85 (by decide) ?_
    refine lv_goto (tgt := 90) hx hb dX6_showsNear_86 (by decide) ?_
    refine r_istore_n (lv' := [(3, iv (1 : Int32)), (6, iv s0), (0, rv (some h0)), (1, iv x1), (2, iv x2), (4, iv x4)]) hx hb dX6_showsNear_90 rfl hl (by decide) rfl (fun ls hl => ?_)
    refine r_iinc (k := 5) (x := x4) (v := (x4 + 1)) (lv' := [(4, iv (x4 + 1)), (3, iv (1 : Int32)), (6, iv s0), (0, rv (some h0)), (1, iv x1), (2, iv x2)]) hx hb dX6_showsNear_91 hl rfl rfl (by decide) rfl (fun ls hl => ?_)
    refine lv_goto (tgt := 5) hx hb dX6_showsNear_94 (by decide) ?_
    exact hK5 _ _ _ _ _ _ _ _ _ h w (lh_sub hl [3, 4, 5, 1, 0] rfl)
  · have h := h.2 c1
    refine lv_iload (x := s0) hx hb dX6_showsNear_54 (lh_at hl 0 rfl) ?_
    refine lv_if_eq (tgt := 89) hx hb dX6_showsNear_56 (by decide) (fun c2 => ?_) (fun c2 => ?_)
    · have h := h.1 c2
      refine lv_iconst (v := (0 : Int32)) hx hb dX6_showsNear_89 (by decide) ?_
      refine r_istore_n (lv' := [(3, iv (0 : Int32)), (6, iv s0), (0, rv (some h0)), (1, iv x1), (2, iv x2), (4, iv x4)]) hx hb dX6_showsNear_90 rfl hl (by decide) rfl (fun ls hl => ?_)
      refine r_iinc (k := 5) (x := x4) (v := (x4 + 1)) (lv' := [(4, iv (x4 + 1)), (3, iv (0 : Int32)), (6, iv s0), (0, rv (some h0)), (1, iv x1), (2, iv x2)]) hx hb dX6_showsNear_91 hl rfl rfl (by decide) rfl (fun ls hl => ?_)
      refine lv_goto (tgt := 5) hx hb dX6_showsNear_94 (by decide) ?_
      exact hK5 _ _ _ _ _ _ _ _ _ h w (lh_sub hl [3, 4, 5, 1, 0] rfl)
    · have h := h.2 c2
      refine lv_iload_n (x := x2) hx hb dX6_showsNear_59 rfl (lh_at hl 3 rfl) ?_
      refine lv_if_le (tgt := 72) hx hb dX6_showsNear_60 (by decide) (fun c3 => ?_) (fun c3 => ?_)
      · have h := h.1 c3
        exact k_X6_showsNear_72 E hr hlk hK5 _ _ _ _ _ _ _ _ h w (lh_sub hl [1, 2, 3, 5] rfl)
      · have h := h.2 c3
        refine r_aload_n (x := (some h0)) hx hb dX6_showsNear_63 rfl (lh_at hl 1 rfl) ?_
        refine lv_iload (x := x4) hx hb dX6_showsNear_64 (lh_at hl 5 rfl) ?_
        obtain ⟨ho4, h⟩ := h
        refine z_callVi E w rfl ho4 cl_X6 yk_X6_sizeOf ⟨Nat.le_of_ble_eq_true rfl, Nat.le_of_ble_eq_true rfl⟩ ⟨(Nat.zero_le _), (Nat.zero_le _)⟩ rfl ml_X6_141 im_X6_sizeOf sl_X6_sizeOf [iv x4] rfl rfl hl [] rfl (Nat.le_of_ble_eq_true rfl) (K_X6_sizeOf h) dX6_showsNear_66 (fun r6 M5 H locs h w => ?_)
        refine lv_if_gt (tgt := 85) hx hb dX6_showsNear_69 (by decide) (fun c7 => ?_) (fun c7 => ?_)
        · have h := h.1 c7
          refine lv_iconst (v := (1 : Int32)) hx hb dX6_showsNear_85 (by decide) ?_
          refine lv_goto (tgt := 90) hx hb dX6_showsNear_86 (by decide) ?_
          refine r_istore_n (lv' := [(3, iv (1 : Int32)), (6, iv s0), (0, rv (some h0)), (1, iv x1), (2, iv x2), (4, iv x4)]) hx hb dX6_showsNear_90 rfl hl (by decide) rfl (fun ls hl => ?_)
          refine r_iinc (k := 5) (x := x4) (v := (x4 + 1)) (lv' := [(4, iv (x4 + 1)), (3, iv (1 : Int32)), (6, iv s0), (0, rv (some h0)), (1, iv x1), (2, iv x2)]) hx hb dX6_showsNear_91 hl rfl rfl (by decide) rfl (fun ls hl => ?_)
          refine lv_goto (tgt := 5) hx hb dX6_showsNear_94 (by decide) ?_
          exact hK5 _ _ _ _ _ _ _ _ _ h w (lh_sub hl [3, 4, 5, 1, 0] rfl)
        · have h := h.2 c7
          exact k_X6_showsNear_72 E hr hlk hK5 _ _ _ _ _ _ _ _ h w (lh_sub hl [1, 2, 3, 5] rfl)
def B_X6_showsNear_47 (Q : Int32 → Mm → Prop) (K5 : Nat → Int32 → Int32 → Int32 → Int32 → Mm → Prop) (h0 : Nat) (x1 : Int32) (x2 : Int32) (x3 : Int32) (x4 : Int32) (M : Mm) : Prop := B_X6_showsNear_48 Q K5 h0 x1 x2 x3 x4 (0 : Int32) M
set_option maxHeartbeats 4000000 in
set_option maxRecDepth 100000 in
theorem k_X6_showsNear_47 {p : Program} {l : Launch} {e : Env} {s : State} {m : MethodId} {args : Array Value} {below : List Frame} {meth : Method} {c : Code} {D : va_G} {cy : Nat → ClassId} {A : Nat → Prop} {Q : Int32 → Mm → Prop} (E : Ex p m c cX6_showsNear 7 s args RX6 D cy A) (hr : meth.sig.returnType = (some .boolean)) (hlk : meth.locks = false) {K5 : Nat → Int32 → Int32 → Int32 → Int32 → Mm → Prop} (hK5 : ∀ (h0 : Nat) (x1 : Int32) (x2 : Int32) (x3 : Int32) (x4 : Int32) (M : Mm) (H : Heap) (locs : List Loc) (ls : Array Slot), K5 h0 x1 x2 x3 x4 M → Wd D cy A s M H locs → lh ls 7 [(0, rv (some h0)), (1, iv x1), (2, iv x2), (3, iv x3), (4, iv x4)] → W p l e (rmm 1 0 0) s m args below meth c H locs 0 0 (MQ below (va_Qi Q (Po D cy A) A) args s 0 0 A) (F0 m 5 ls [])) : ∀ (h0 : Nat) (x1 : Int32) (x2 : Int32) (x3 : Int32) (x4 : Int32) (M : Mm) (H : Heap) (locs : List Loc) (ls : Array Slot), B_X6_showsNear_47 Q K5 h0 x1 x2 x3 x4 M → Wd D cy A s M H locs → lh ls 7 [(0, rv (some h0)), (1, iv x1), (2, iv x2), (3, iv x3), (4, iv x4)] → W p l e (rmm 1 0 0) s m args below meth c H locs 0 0 (MQ below (va_Qi Q (Po D cy A) A) args s 0 0 A) (F0 m 47 ls []) := by
  obtain ⟨hx, hb, hml, hown, hts⟩ := E.1
  intro h0 x1 x2 x3 x4 M H locs ls h w hl
  unfold B_X6_showsNear_47 at h
  refine lv_iconst (v := (0 : Int32)) hx hb dX6_showsNear_47 (by decide) ?_
  exact k_X6_showsNear_48 E hr hlk hK5 _ _ _ _ _ _ _ _ _ _ h w (lh_sub hl [0, 1, 2, 3, 4] rfl)
def B_X6_showsNear_5 (Q : Int32 → Mm → Prop)  : Nat → Nat → Int32 → Int32 → Int32 → Int32 → Mm → Prop
  | 0, _, _, _, _, _, _ => False
  | n + 1, h0, x1, x2, x3, x4, M => (ok M h0 6 ∧ (B_X6_isCut_0 (fun r3 M2 => ((r3 = 0 → (bl x3 ∧ Q x3 M2)) ∧ (¬ r3 = 0 → (ok M2 h0 6 ∧ (B_X6_buildOfCut_0 (fun r7 M6 => (ok M6 h0 6 ∧ (((gI M6 h0 14) < (r7 - x1) → B_X6_showsNear_47 Q (fun y0 y1 y2 y3 y4 My => B_X6_showsNear_5 Q n y0 y1 y2 y3 y4 My) h0 x1 x2 x3 x4 M6) ∧ (¬ (gI M6 h0 14) < (r7 - x1) → (((gI M6 h0 14) < (-(r7 - x1)) → B_X6_showsNear_47 Q (fun y0 y1 y2 y3 y4 My => B_X6_showsNear_5 Q n y0 y1 y2 y3 y4 My) h0 x1 x2 x3 x4 M6) ∧ (¬ (gI M6 h0 14) < (-(r7 - x1)) → B_X6_showsNear_48 Q (fun y0 y1 y2 y3 y4 My => B_X6_showsNear_5 Q n y0 y1 y2 y3 y4 My) h0 x1 x2 x3 x4 (1 : Int32) M6)))))) h0 x4 M2))))) h0 x4 M))
set_option maxHeartbeats 4000000 in
set_option maxRecDepth 100000 in
theorem k_X6_showsNear_5 {p : Program} {l : Launch} {e : Env} {s : State} {m : MethodId} {args : Array Value} {below : List Frame} {meth : Method} {c : Code} {D : va_G} {cy : Nat → ClassId} {A : Nat → Prop} {Q : Int32 → Mm → Prop} (E : Ex p m c cX6_showsNear 7 s args RX6 D cy A) (hr : meth.sig.returnType = (some .boolean)) (hlk : meth.locks = false) : ∀ (n : Nat), ∀ (h0 : Nat) (x1 : Int32) (x2 : Int32) (x3 : Int32) (x4 : Int32) (M : Mm) (H : Heap) (locs : List Loc) (ls : Array Slot), B_X6_showsNear_5 Q  n h0 x1 x2 x3 x4 M → Wd D cy A s M H locs → lh ls 7 [(0, rv (some h0)), (1, iv x1), (2, iv x2), (3, iv x3), (4, iv x4)] → W p l e (rmm 1 0 0) s m args below meth c H locs 0 0 (MQ below (va_Qi Q (Po D cy A) A) args s 0 0 A) (F0 m 5 ls []) := by
  obtain ⟨hx, hb, hml, hown, hts⟩ := E.1
  intro n
  induction n with
  | zero => intro h0 x1 x2 x3 x4 M H locs ls h; exact False.elim h
  | succ n ih =>
    intro h0 x1 x2 x3 x4 M H locs ls h w hl
    unfold B_X6_showsNear_5 at h
    refine r_aload_n (x := (some h0)) hx hb dX6_showsNear_5 rfl (lh_at hl 0 rfl) ?_
    refine lv_iload (x := x4) hx hb dX6_showsNear_6 (lh_at hl 4 rfl) ?_
    obtain ⟨ho1, h⟩ := h
    refine z_callVi E w rfl ho1 cl_X6 yk_X6_isCut ⟨Nat.le_of_ble_eq_true rfl, Nat.le_of_ble_eq_true rfl⟩ ⟨(Nat.zero_le _), (Nat.zero_le _)⟩ rfl ml_X6_135 im_X6_isCut sl_X6_isCut [iv x4] rfl rfl hl [] rfl (Nat.le_of_ble_eq_true rfl) (K_X6_isCut h) dX6_showsNear_8 (fun r3 M2 H locs h w => ?_)
    refine lv_if_eq (tgt := 97) hx hb dX6_showsNear_11 (by decide) (fun c4 => ?_) (fun c4 => ?_)
    · have h := h.1 c4
      refine lv_iload_n (x := x3) hx hb dX6_showsNear_97 rfl (lh_at hl 3 rfl) ?_
      exact r_zret E w hr hlk h (Nat.le_refl 0) (Nat.le_refl 0) dX6_showsNear_98
    · have h := h.2 c4
      refine r_aload_n (x := (some h0)) hx hb dX6_showsNear_14 rfl (lh_at hl 0 rfl) ?_
      refine lv_iload (x := x4) hx hb dX6_showsNear_15 (lh_at hl 4 rfl) ?_
      obtain ⟨ho5, h⟩ := h
      refine z_callVi E w rfl ho5 cl_X6 yk_X6_buildOfCut ⟨Nat.le_of_ble_eq_true rfl, Nat.le_of_ble_eq_true rfl⟩ ⟨(Nat.zero_le _), (Nat.zero_le _)⟩ rfl ml_X6_138 im_X6_buildOfCut sl_X6_buildOfCut [iv x4] rfl rfl hl [] rfl (Nat.le_of_ble_eq_true rfl) (K_X6_buildOfCut h) dX6_showsNear_17 (fun r7 M6 H locs h w => ?_)
      refine lv_iload_n (x := x1) hx hb dX6_showsNear_20 rfl (lh_at hl 1 rfl) ?_
      refine lv_isub hx hb dX6_showsNear_21 ?_
      refine r_istore (lv' := [(5, iv (r7 - x1)), (0, rv (some h0)), (1, iv x1), (2, iv x2), (3, iv x3), (4, iv x4)]) hx hb dX6_showsNear_22 hl (by decide) rfl (fun ls hl => ?_)
      refine lv_iload (x := (r7 - x1)) hx hb dX6_showsNear_24 (lh_at hl 0 rfl) ?_
      refine r_aload_n (x := (some h0)) hx hb dX6_showsNear_26 rfl (lh_at hl 1 rfl) ?_
      obtain ⟨ho8, h⟩ := h
      refine r_getI E w rfl ho8 cl_X6 14 rfl fl_X6_74 dX6_showsNear_27 ?_
      refine lv_icmp_gt (tgt := 47) hx hb dX6_showsNear_30 (by decide) (fun c9 => ?_) (fun c9 => ?_)
      · have h := h.1 c9
        exact k_X6_showsNear_47 E hr hlk ih _ _ _ _ _ _ _ _ _ h w (lh_sub hl [1, 2, 3, 4, 5] rfl)
      · have h := h.2 c9
        refine lv_iload (x := (r7 - x1)) hx hb dX6_showsNear_33 (lh_at hl 0 rfl) ?_
        refine lv_ineg hx hb dX6_showsNear_35 ?_
        refine r_aload_n (x := (some h0)) hx hb dX6_showsNear_36 rfl (lh_at hl 1 rfl) ?_
        refine r_getI E w rfl ho8 cl_X6 14 rfl fl_X6_74 dX6_showsNear_37 ?_
        refine lv_icmp_gt (tgt := 47) hx hb dX6_showsNear_40 (by decide) (fun c10 => ?_) (fun c10 => ?_)
        · have h := h.1 c10
          exact k_X6_showsNear_47 E hr hlk ih _ _ _ _ _ _ _ _ _ h w (lh_sub hl [1, 2, 3, 4, 5] rfl)
        · have h := h.2 c10
          refine lv_iconst (v := (1 : Int32)) hx hb dX6_showsNear_43 (by decide) ?_
          refine lv_goto (tgt := 48) hx hb dX6_showsNear_44 (by decide) ?_
          exact k_X6_showsNear_48 E hr hlk ih _ _ _ _ _ _ _ _ _ _ h w (lh_sub hl [1, 2, 3, 4, 5] rfl)
def B_X6_showsNear_0 (Q : Int32 → Mm → Prop)  (h0 : Nat) (x1 : Int32) (x2 : Int32) (M : Mm) : Prop := (∃ n1, B_X6_showsNear_5 Q  n1 h0 x1 x2 (0 : Int32) (0 : Int32) M)
set_option maxHeartbeats 4000000 in
set_option maxRecDepth 100000 in
theorem k_X6_showsNear_0 {p : Program} {l : Launch} {e : Env} {s : State} {m : MethodId} {args : Array Value} {below : List Frame} {meth : Method} {c : Code} {D : va_G} {cy : Nat → ClassId} {A : Nat → Prop} {Q : Int32 → Mm → Prop} (E : Ex p m c cX6_showsNear 7 s args RX6 D cy A) (hr : meth.sig.returnType = (some .boolean)) (hlk : meth.locks = false) : ∀ (h0 : Nat) (x1 : Int32) (x2 : Int32) (M : Mm) (H : Heap) (locs : List Loc) (ls : Array Slot), B_X6_showsNear_0 Q  h0 x1 x2 M → Wd D cy A s M H locs → lh ls 7 [(0, rv (some h0)), (1, iv x1), (2, iv x2)] → W p l e (rmm 1 0 0) s m args below meth c H locs 0 0 (MQ below (va_Qi Q (Po D cy A) A) args s 0 0 A) (F0 m 0 ls []) := by
  obtain ⟨hx, hb, hml, hown, hts⟩ := E.1
  intro h0 x1 x2 M H locs ls h w hl
  unfold B_X6_showsNear_0 at h
  refine lv_iconst (v := (0 : Int32)) hx hb dX6_showsNear_0 (by decide) ?_
  refine r_istore_n (lv' := [(3, iv (0 : Int32)), (0, rv (some h0)), (1, iv x1), (2, iv x2)]) hx hb dX6_showsNear_1 rfl hl (by decide) rfl (fun ls hl => ?_)
  refine lv_iconst (v := (0 : Int32)) hx hb dX6_showsNear_2 (by decide) ?_
  refine r_istore (lv' := [(4, iv (0 : Int32)), (3, iv (0 : Int32)), (0, rv (some h0)), (1, iv x1), (2, iv x2)]) hx hb dX6_showsNear_3 hl (by decide) rfl (fun ls hl => ?_)
  obtain ⟨n1, h⟩ := h
  exact k_X6_showsNear_5 E hr hlk  n1 _ _ _ _ _ _ _ _ _ h w (lh_sub hl [2, 3, 4, 1, 0] rfl)
theorem K_X6_showsNear {l : Launch} {Q : Int32 → Mm → Prop} {h0 : Nat} {x1 : Int32} {x2 : Int32} {M : Mm} (h : B_X6_showsNear_0 Q h0 x1 x2 M) : KI l yX6_showsNear cdX6_showsNear (rmm 1 0 0) [rv (some h0), iv x1, iv x2] M Q :=
  KI_of (by decide) rfl (Nat.le_of_ble_eq_true rfl) (fun p e s m args below meth c D cy A ls E hr hlk hn w hl => k_X6_showsNear_0 E hr hlk _ _ _ _ _ _ _ h w hl)
def B_X6_couldShow_0 (Q : Int32 → Mm → Prop)  (h0 : Nat) (x1 : Int32) (M : Mm) : Prop := (ok M h0 6 ∧ (((gI M h0 9) ≤ 0 → Q (0 : Int32) M) ∧ (¬ (gI M h0 9) ≤ 0 → (∃ a3, (gR M h0 10) = some a3 ∧ (ar M a3 7 (0 : Int32) ∧ ((x1 ≤ (gI M a3 (Int32.toNatClampNeg (0 : Int32))) → Q (0 : Int32) M) ∧ (¬ x1 ≤ (gI M a3 (Int32.toNatClampNeg (0 : Int32))) → (ar M a3 7 ((gI M h0 9) - (1 : Int32)) ∧ (((gI M a3 (Int32.toNatClampNeg ((gI M h0 9) - (1 : Int32)))) < x1 → Q (0 : Int32) M) ∧ (¬ (gI M a3 (Int32.toNatClampNeg ((gI M h0 9) - (1 : Int32)))) < x1 → Q (1 : Int32) M))))))))))
set_option maxHeartbeats 4000000 in
set_option maxRecDepth 100000 in
theorem k_X6_couldShow_0 {p : Program} {l : Launch} {e : Env} {s : State} {m : MethodId} {args : Array Value} {below : List Frame} {meth : Method} {c : Code} {D : va_G} {cy : Nat → ClassId} {A : Nat → Prop} {Q : Int32 → Mm → Prop} (E : Ex p m c cX6_couldShow 2 s args RX6 D cy A) (hr : meth.sig.returnType = (some .boolean)) (hlk : meth.locks = false) : ∀ (h0 : Nat) (x1 : Int32) (M : Mm) (H : Heap) (locs : List Loc) (ls : Array Slot), B_X6_couldShow_0 Q  h0 x1 M → Wd D cy A s M H locs → lh ls 2 [(0, rv (some h0)), (1, iv x1)] → W p l e (rmm 0 0 0) s m args below meth c H locs 0 0 (MQ below (va_Qi Q (Po D cy A) A) args s 0 0 A) (F0 m 0 ls []) := by
  obtain ⟨hx, hb, hml, hown, hts⟩ := E.1
  intro h0 x1 M H locs ls h w hl
  unfold B_X6_couldShow_0 at h
  refine r_aload_n (x := (some h0)) hx hb dX6_couldShow_0 rfl (lh_at hl 0 rfl) ?_
  obtain ⟨ho1, h⟩ := h
  refine r_getI E w rfl ho1 cl_X6 9 rfl fl_X6_112 dX6_couldShow_1 ?_
  refine lv_if_le (tgt := 36) hx hb dX6_couldShow_4 (by decide) (fun c2 => ?_) (fun c2 => ?_)
  · have h := h.1 c2
    refine lv_iconst (v := (0 : Int32)) hx hb dX6_couldShow_36 (by decide) ?_
    exact r_zret E w hr hlk ⟨Or.inl rfl, h⟩ (Nat.le_refl 0) (Nat.le_refl 0) dX6_couldShow_37
  · have h := h.2 c2
    refine r_aload_n (x := (some h0)) hx hb dX6_couldShow_7 rfl (lh_at hl 0 rfl) ?_
    refine r_getR E w rfl ho1 cl_X6 10 rfl fl_X6_26 dX6_couldShow_8 ?_
    refine lv_iconst (v := (0 : Int32)) hx hb dX6_couldShow_11 (by decide) ?_
    obtain ⟨a3, ea3, h⟩ := h
    obtain ⟨ha4, h⟩ := h
    refine r_iald E w ea3 ha4 dX6_couldShow_12 ?_
    refine lv_iload_n (x := x1) hx hb dX6_couldShow_13 rfl (lh_at hl 1 rfl) ?_
    refine lv_icmp_ge (tgt := 36) hx hb dX6_couldShow_14 (by decide) (fun c5 => ?_) (fun c5 => ?_)
    · have h := h.1 c5
      refine lv_iconst (v := (0 : Int32)) hx hb dX6_couldShow_36 (by decide) ?_
      exact r_zret E w hr hlk ⟨Or.inl rfl, h⟩ (Nat.le_refl 0) (Nat.le_refl 0) dX6_couldShow_37
    · have h := h.2 c5
      refine r_aload_n (x := (some h0)) hx hb dX6_couldShow_17 rfl (lh_at hl 0 rfl) ?_
      refine r_getR E w rfl ho1 cl_X6 10 rfl fl_X6_26 dX6_couldShow_18 ?_
      refine r_aload_n (x := (some h0)) hx hb dX6_couldShow_21 rfl (lh_at hl 0 rfl) ?_
      refine r_getI E w rfl ho1 cl_X6 9 rfl fl_X6_112 dX6_couldShow_22 ?_
      refine lv_iconst (v := (1 : Int32)) hx hb dX6_couldShow_25 (by decide) ?_
      refine lv_isub hx hb dX6_couldShow_26 ?_
      obtain ⟨ha6, h⟩ := h
      refine r_iald E w ea3 ha6 dX6_couldShow_27 ?_
      refine lv_iload_n (x := x1) hx hb dX6_couldShow_28 rfl (lh_at hl 1 rfl) ?_
      refine lv_icmp_lt (tgt := 36) hx hb dX6_couldShow_29 (by decide) (fun c7 => ?_) (fun c7 => ?_)
      · have h := h.1 c7
        refine lv_iconst (v := (0 : Int32)) hx hb dX6_couldShow_36 (by decide) ?_
        exact r_zret E w hr hlk ⟨Or.inl rfl, h⟩ (Nat.le_refl 0) (Nat.le_refl 0) dX6_couldShow_37
      · have h := h.2 c7
        refine lv_iconst (v := (1 : Int32)) hx hb dX6_couldShow_32 (by decide) ?_
        refine lv_goto (tgt := 37) hx hb dX6_couldShow_33 (by decide) ?_
        exact r_zret E w hr hlk ⟨Or.inr rfl, h⟩ (Nat.le_refl 0) (Nat.le_refl 0) dX6_couldShow_37
theorem K_X6_couldShow {l : Launch} {Q : Int32 → Mm → Prop} {h0 : Nat} {x1 : Int32} {M : Mm} (h : B_X6_couldShow_0 Q h0 x1 M) : KI l yX6_couldShow cdX6_couldShow (rmm 0 0 0) [rv (some h0), iv x1] M Q :=
  KI_of (by decide) rfl (Nat.le_of_ble_eq_true rfl) (fun p e s m args below meth c D cy A ls E hr hlk hn w hl => k_X6_couldShow_0 E hr hlk _ _ _ _ _ _ h w hl)
def B_X6_isOwn_80 (Q : Int32 → Mm → Prop) (K23 : Nat → Int32 → Int32 → Int32 → Int32 → Int32 → Int32 → Int32 → Mm → Prop) (h0 : Nat) (x1 : Int32) (x2 : Int32) (x4 : Int32) (x5 : Int32) (x7 : Int32) (x8 : Int32) (s0 : Int32) (M : Mm) : Prop := ((¬ x7 = 0 → K23 h0 x1 x2 x4 x5 s0 (1 : Int32) (x8 + 1) M) ∧ (x7 = 0 → (ok M h0 6 ∧ (B_X6_couldShow_0 (fun r4 M3 => ((r4 = 0 → K23 h0 x1 x2 x4 x5 s0 (0 : Int32) (x8 + 1) M3) ∧ (¬ r4 = 0 → K23 h0 x1 x2 x4 x5 s0 (1 : Int32) (x8 + 1) M3))) h0 x4 M))))
set_option maxHeartbeats 4000000 in
set_option maxRecDepth 100000 in
theorem k_X6_isOwn_80 {p : Program} {l : Launch} {e : Env} {s : State} {m : MethodId} {args : Array Value} {below : List Frame} {meth : Method} {c : Code} {D : va_G} {cy : Nat → ClassId} {A : Nat → Prop} {Q : Int32 → Mm → Prop} (E : Ex p m c cX6_isOwn 9 s args RX6 D cy A) (hr : meth.sig.returnType = (some .boolean)) (hlk : meth.locks = false) {K23 : Nat → Int32 → Int32 → Int32 → Int32 → Int32 → Int32 → Int32 → Mm → Prop} (hK23 : ∀ (h0 : Nat) (x1 : Int32) (x2 : Int32) (x4 : Int32) (x5 : Int32) (x6 : Int32) (x7 : Int32) (x8 : Int32) (M : Mm) (H : Heap) (locs : List Loc) (ls : Array Slot), K23 h0 x1 x2 x4 x5 x6 x7 x8 M → Wd D cy A s M H locs → lh ls 9 [(0, rv (some h0)), (1, iv x1), (2, iv x2), (4, iv x4), (5, iv x5), (6, iv x6), (7, iv x7), (8, iv x8)] → W p l e (rmm 2 0 0) s m args below meth c H locs 0 0 (MQ below (va_Qi Q (Po D cy A) A) args s 0 0 A) (F0 m 23 ls [])) : ∀ (h0 : Nat) (x1 : Int32) (x2 : Int32) (x4 : Int32) (x5 : Int32) (x7 : Int32) (x8 : Int32) (s0 : Int32) (M : Mm) (H : Heap) (locs : List Loc) (ls : Array Slot), B_X6_isOwn_80 Q K23 h0 x1 x2 x4 x5 x7 x8 s0 M → Wd D cy A s M H locs → lh ls 9 [(0, rv (some h0)), (1, iv x1), (2, iv x2), (4, iv x4), (5, iv x5), (7, iv x7), (8, iv x8)] → W p l e (rmm 2 0 0) s m args below meth c H locs 0 0 (MQ below (va_Qi Q (Po D cy A) A) args s 0 0 A) (F0 m 80 ls [.int s0]) := by
  obtain ⟨hx, hb, hml, hown, hts⟩ := E.1
  intro h0 x1 x2 x4 x5 x7 x8 s0 M H locs ls h w hl
  unfold B_X6_isOwn_80 at h
  refine r_istore (lv' := [(6, iv s0), (0, rv (some h0)), (1, iv x1), (2, iv x2), (4, iv x4), (5, iv x5), (7, iv x7), (8, iv x8)]) hx hb dX6_isOwn_80 hl (by decide) rfl (fun ls hl => ?_)
  refine lv_iload (x := x7) hx hb dX6_isOwn_82 (lh_at hl 6 rfl) ?_
  refine lv_if_ne (tgt := 96) hx hb dX6_isOwn_84 (by decide) (fun c1 => ?_) (fun c1 => ?_)
  · have h := h.1 c1
    refine lv_iconst (v := (1 : Int32)) hx hb dX6_isOwn_96 (by decide) ?_
    refine lv_goto (tgt := 101) hx hb dX6_isOwn_97 (by decide) ?_
    refine r_istore (lv' := [(7, iv (1 : Int32)), (6, iv s0), (0, rv (some h0)), (1, iv x1), (2, iv x2), (4, iv x4), (5, iv x5), (8, iv x8)]) hx hb dX6_isOwn_101 hl (by decide) rfl (fun ls hl => ?_)
    refine r_iinc (k := 7) (x := x8) (v := (x8 + 1)) (lv' := [(8, iv (x8 + 1)), (7, iv (1 : Int32)), (6, iv s0), (0, rv (some h0)), (1, iv x1), (2, iv x2), (4, iv x4), (5, iv x5)]) hx hb dX6_isOwn_103 hl rfl rfl (by decide) rfl (fun ls hl => ?_)
    refine lv_goto (tgt := 23) hx hb dX6_isOwn_106 (by decide) ?_
    exact hK23 _ _ _ _ _ _ _ _ _ _ _ _ h w (lh_sub hl [3, 4, 5, 6, 7, 2, 1, 0] rfl)
  · have h := h.2 c1
    refine r_aload_n (x := (some h0)) hx hb dX6_isOwn_87 rfl (lh_at hl 1 rfl) ?_
    refine lv_iload (x := x4) hx hb dX6_isOwn_88 (lh_at hl 4 rfl) ?_
    obtain ⟨ho2, h⟩ := h
    refine z_callVi E w rfl ho2 cl_X6 yk_X6_couldShow ⟨Nat.le_of_ble_eq_true rfl, Nat.le_of_ble_eq_true rfl⟩ ⟨(Nat.zero_le _), (Nat.zero_le _)⟩ rfl ml_X6_147 im_X6_couldShow sl_X6_couldShow [iv x4] rfl rfl hl [] rfl (Nat.le_of_ble_eq_true rfl) (K_X6_couldShow h) dX6_isOwn_90 (fun r4 M3 H locs h w => ?_)
    refine lv_if_eq (tgt := 100) hx hb dX6_isOwn_93 (by decide) (fun c5 => ?_) (fun c5 => ?_)
    · have h := h.1 c5
      refine lv_iconst (v := (0 : Int32)) hx hb dX6_isOwn_100 (by decide) ?_
      refine r_istore (lv' := [(7, iv (0 : Int32)), (6, iv s0), (0, rv (some h0)), (1, iv x1), (2, iv x2), (4, iv x4), (5, iv x5), (8, iv x8)]) hx hb dX6_isOwn_101 hl (by decide) rfl (fun ls hl => ?_)
      refine r_iinc (k := 7) (x := x8) (v := (x8 + 1)) (lv' := [(8, iv (x8 + 1)), (7, iv (0 : Int32)), (6, iv s0), (0, rv (some h0)), (1, iv x1), (2, iv x2), (4, iv x4), (5, iv x5)]) hx hb dX6_isOwn_103 hl rfl rfl (by decide) rfl (fun ls hl => ?_)
      refine lv_goto (tgt := 23) hx hb dX6_isOwn_106 (by decide) ?_
      exact hK23 _ _ _ _ _ _ _ _ _ _ _ _ h w (lh_sub hl [3, 4, 5, 6, 7, 2, 1, 0] rfl)
    · have h := h.2 c5
      refine lv_iconst (v := (1 : Int32)) hx hb dX6_isOwn_96 (by decide) ?_
      refine lv_goto (tgt := 101) hx hb dX6_isOwn_97 (by decide) ?_
      refine r_istore (lv' := [(7, iv (1 : Int32)), (6, iv s0), (0, rv (some h0)), (1, iv x1), (2, iv x2), (4, iv x4), (5, iv x5), (8, iv x8)]) hx hb dX6_isOwn_101 hl (by decide) rfl (fun ls hl => ?_)
      refine r_iinc (k := 7) (x := x8) (v := (x8 + 1)) (lv' := [(8, iv (x8 + 1)), (7, iv (1 : Int32)), (6, iv s0), (0, rv (some h0)), (1, iv x1), (2, iv x2), (4, iv x4), (5, iv x5)]) hx hb dX6_isOwn_103 hl rfl rfl (by decide) rfl (fun ls hl => ?_)
      refine lv_goto (tgt := 23) hx hb dX6_isOwn_106 (by decide) ?_
      exact hK23 _ _ _ _ _ _ _ _ _ _ _ _ h w (lh_sub hl [3, 4, 5, 6, 7, 2, 1, 0] rfl)
def B_X6_isOwn_75 (Q : Int32 → Mm → Prop) (K23 : Nat → Int32 → Int32 → Int32 → Int32 → Int32 → Int32 → Int32 → Mm → Prop) (h0 : Nat) (x1 : Int32) (x2 : Int32) (x4 : Int32) (x5 : Int32) (x7 : Int32) (x8 : Int32) (M : Mm) : Prop := B_X6_isOwn_80 Q K23 h0 x1 x2 x4 x5 x7 x8 (1 : Int32) M
set_option maxHeartbeats 4000000 in
set_option maxRecDepth 100000 in
theorem k_X6_isOwn_75 {p : Program} {l : Launch} {e : Env} {s : State} {m : MethodId} {args : Array Value} {below : List Frame} {meth : Method} {c : Code} {D : va_G} {cy : Nat → ClassId} {A : Nat → Prop} {Q : Int32 → Mm → Prop} (E : Ex p m c cX6_isOwn 9 s args RX6 D cy A) (hr : meth.sig.returnType = (some .boolean)) (hlk : meth.locks = false) {K23 : Nat → Int32 → Int32 → Int32 → Int32 → Int32 → Int32 → Int32 → Mm → Prop} (hK23 : ∀ (h0 : Nat) (x1 : Int32) (x2 : Int32) (x4 : Int32) (x5 : Int32) (x6 : Int32) (x7 : Int32) (x8 : Int32) (M : Mm) (H : Heap) (locs : List Loc) (ls : Array Slot), K23 h0 x1 x2 x4 x5 x6 x7 x8 M → Wd D cy A s M H locs → lh ls 9 [(0, rv (some h0)), (1, iv x1), (2, iv x2), (4, iv x4), (5, iv x5), (6, iv x6), (7, iv x7), (8, iv x8)] → W p l e (rmm 2 0 0) s m args below meth c H locs 0 0 (MQ below (va_Qi Q (Po D cy A) A) args s 0 0 A) (F0 m 23 ls [])) : ∀ (h0 : Nat) (x1 : Int32) (x2 : Int32) (x4 : Int32) (x5 : Int32) (x7 : Int32) (x8 : Int32) (M : Mm) (H : Heap) (locs : List Loc) (ls : Array Slot), B_X6_isOwn_75 Q K23 h0 x1 x2 x4 x5 x7 x8 M → Wd D cy A s M H locs → lh ls 9 [(0, rv (some h0)), (1, iv x1), (2, iv x2), (4, iv x4), (5, iv x5), (7, iv x7), (8, iv x8)] → W p l e (rmm 2 0 0) s m args below meth c H locs 0 0 (MQ below (va_Qi Q (Po D cy A) A) args s 0 0 A) (F0 m 75 ls []) := by
  obtain ⟨hx, hb, hml, hown, hts⟩ := E.1
  intro h0 x1 x2 x4 x5 x7 x8 M H locs ls h w hl
  unfold B_X6_isOwn_75 at h
  refine lv_iconst (v := (1 : Int32)) hx hb dX6_isOwn_75 (by decide) ?_
  refine lv_goto (tgt := 80) hx hb dX6_isOwn_76 (by decide) ?_
  exact k_X6_isOwn_80 E hr hlk hK23 _ _ _ _ _ _ _ _ _ _ _ _ h w (lh_sub hl [0, 1, 2, 3, 4, 5, 6] rfl)
def B_X6_isOwn_23 (Q : Int32 → Mm → Prop)  : Nat → Nat → Int32 → Int32 → Int32 → Int32 → Int32 → Int32 → Int32 → Mm → Prop
  | 0, _, _, _, _, _, _, _, _, _ => False
  | n + 1, h0, x1, x2, x4, x5, x6, x7, x8, M => (((4 : Int32) ≤ x8 → ((x7 = 0 → Q (0 : Int32) M) ∧ (¬ x7 = 0 → ((¬ x6 = 0 → Q (0 : Int32) M) ∧ (x6 = 0 → Q (1 : Int32) M))))) ∧ (¬ (4 : Int32) ≤ x8 → ((x8 = x2 → B_X6_isOwn_23 Q  n h0 x1 x2 x4 x5 x6 x7 (x8 + 1) M) ∧ (¬ x8 = x2 → (ok M h0 6 ∧ (∃ a6, (gR M h0 6) = some a6 ∧ (ar M a6 9 (((4 : Int32) * x1) + x8) ∧ (((gI M a6 (Int32.toNatClampNeg (((4 : Int32) * x1) + x8))) = 0 → B_X6_isOwn_23 Q  n h0 x1 x2 x4 x5 x6 x7 (x8 + 1) M) ∧ (¬ (gI M a6 (Int32.toNatClampNeg (((4 : Int32) * x1) + x8))) = 0 → (B_X6_layCuts_0 (fun  M9 => ((¬ x6 = 0 → B_X6_isOwn_75 Q (fun y0 y1 y2 y3 y4 y5 y6 y7 My => B_X6_isOwn_23 Q n y0 y1 y2 y3 y4 y5 y6 y7 My) h0 x1 x2 x4 x5 x7 x8 M9) ∧ (x6 = 0 → (ok M9 h0 6 ∧ (B_X6_showsNear_0 (fun r13 M12 => ((r13 = 0 → B_X6_isOwn_80 Q (fun y0 y1 y2 y3 y4 y5 y6 y7 My => B_X6_isOwn_23 Q n y0 y1 y2 y3 y4 y5 y6 y7 My) h0 x1 x2 x4 x5 x7 x8 (0 : Int32) M12) ∧ (¬ r13 = 0 → B_X6_isOwn_75 Q (fun y0 y1 y2 y3 y4 y5 y6 y7 My => B_X6_isOwn_23 Q n y0 y1 y2 y3 y4 y5 y6 y7 My) h0 x1 x2 x4 x5 x7 x8 M12))) h0 x4 x5 M9))))) h0 (((4 : Int32) * x1) + x8) M))))))))))
set_option maxHeartbeats 4000000 in
set_option maxRecDepth 100000 in
theorem k_X6_isOwn_23 {p : Program} {l : Launch} {e : Env} {s : State} {m : MethodId} {args : Array Value} {below : List Frame} {meth : Method} {c : Code} {D : va_G} {cy : Nat → ClassId} {A : Nat → Prop} {Q : Int32 → Mm → Prop} (E : Ex p m c cX6_isOwn 9 s args RX6 D cy A) (hr : meth.sig.returnType = (some .boolean)) (hlk : meth.locks = false) : ∀ (n : Nat), ∀ (h0 : Nat) (x1 : Int32) (x2 : Int32) (x4 : Int32) (x5 : Int32) (x6 : Int32) (x7 : Int32) (x8 : Int32) (M : Mm) (H : Heap) (locs : List Loc) (ls : Array Slot), B_X6_isOwn_23 Q  n h0 x1 x2 x4 x5 x6 x7 x8 M → Wd D cy A s M H locs → lh ls 9 [(0, rv (some h0)), (1, iv x1), (2, iv x2), (4, iv x4), (5, iv x5), (6, iv x6), (7, iv x7), (8, iv x8)] → W p l e (rmm 2 0 0) s m args below meth c H locs 0 0 (MQ below (va_Qi Q (Po D cy A) A) args s 0 0 A) (F0 m 23 ls []) := by
  obtain ⟨hx, hb, hml, hown, hts⟩ := E.1
  intro n
  induction n with
  | zero => intro h0 x1 x2 x4 x5 x6 x7 x8 M H locs ls h; exact False.elim h
  | succ n ih =>
    intro h0 x1 x2 x4 x5 x6 x7 x8 M H locs ls h w hl
    unfold B_X6_isOwn_23 at h
    refine lv_iload (x := x8) hx hb dX6_isOwn_23 (lh_at hl 7 rfl) ?_
    refine lv_iconst (v := (4 : Int32)) hx hb dX6_isOwn_25 (by decide) ?_
    refine lv_icmp_ge (tgt := 109) hx hb dX6_isOwn_26 (by decide) (fun c1 => ?_) (fun c1 => ?_)
    · have h := h.1 c1
      refine lv_iload (x := x7) hx hb dX6_isOwn_109 (lh_at hl 6 rfl) ?_
      refine lv_if_eq (tgt := 123) hx hb dX6_isOwn_111 (by decide) (fun c2 => ?_) (fun c2 => ?_)
      · have h := h.1 c2
        refine lv_iconst (v := (0 : Int32)) hx hb dX6_isOwn_123 (by decide) ?_
        exact r_zret E w hr hlk ⟨Or.inl rfl, h⟩ (Nat.le_refl 0) (Nat.le_refl 0) dX6_isOwn_124
      · have h := h.2 c2
        refine lv_iload (x := x6) hx hb dX6_isOwn_114 (lh_at hl 5 rfl) ?_
        refine lv_if_ne (tgt := 123) hx hb dX6_isOwn_116 (by decide) (fun c3 => ?_) (fun c3 => ?_)
        · have h := h.1 c3
          refine lv_iconst (v := (0 : Int32)) hx hb dX6_isOwn_123 (by decide) ?_
          exact r_zret E w hr hlk ⟨Or.inl rfl, h⟩ (Nat.le_refl 0) (Nat.le_refl 0) dX6_isOwn_124
        · have h := h.2 c3
          refine lv_iconst (v := (1 : Int32)) hx hb dX6_isOwn_119 (by decide) ?_
          refine lv_goto (tgt := 124) hx hb dX6_isOwn_120 (by decide) ?_
          exact r_zret E w hr hlk ⟨Or.inr rfl, h⟩ (Nat.le_refl 0) (Nat.le_refl 0) dX6_isOwn_124
    · have h := h.2 c1
      refine lv_iload (x := x8) hx hb dX6_isOwn_29 (lh_at hl 7 rfl) ?_
      refine lv_iload_n (x := x2) hx hb dX6_isOwn_31 rfl (lh_at hl 2 rfl) ?_
      refine lv_icmp_eq (tgt := 103) hx hb dX6_isOwn_32 (by decide) (fun c4 => ?_) (fun c4 => ?_)
      · have h := h.1 c4
        refine r_iinc (k := 7) (x := x8) (v := (x8 + 1)) (lv' := [(8, iv (x8 + 1)), (0, rv (some h0)), (1, iv x1), (2, iv x2), (4, iv x4), (5, iv x5), (6, iv x6), (7, iv x7)]) hx hb dX6_isOwn_103 hl rfl rfl (by decide) rfl (fun ls hl => ?_)
        refine lv_goto (tgt := 23) hx hb dX6_isOwn_106 (by decide) ?_
        exact ih _ _ _ _ _ _ _ _ _ _ _ _ h w (lh_sub hl [1, 2, 3, 4, 5, 6, 7, 0] rfl)
      · have h := h.2 c4
        refine r_aload_n (x := (some h0)) hx hb dX6_isOwn_35 rfl (lh_at hl 0 rfl) ?_
        obtain ⟨ho5, h⟩ := h
        refine r_getR E w rfl ho5 cl_X6 6 rfl fl_X6_16 dX6_isOwn_36 ?_
        refine lv_iconst (v := (4 : Int32)) hx hb dX6_isOwn_39 (by decide) ?_
        refine lv_iload_n (x := x1) hx hb dX6_isOwn_40 rfl (lh_at hl 1 rfl) ?_
        refine lv_imul hx hb dX6_isOwn_41 ?_
        refine lv_iload (x := x8) hx hb dX6_isOwn_42 (lh_at hl 7 rfl) ?_
        refine lv_iadd hx hb dX6_isOwn_44 ?_
        obtain ⟨a6, ea6, h⟩ := h
        obtain ⟨ha7, h⟩ := h
        refine r_zald E w ea6 ha7 dX6_isOwn_45 ?_
        refine lv_if_eq (tgt := 103) hx hb dX6_isOwn_46 (by decide) (fun c8 => ?_) (fun c8 => ?_)
        · have h := h.1 c8
          refine r_iinc (k := 7) (x := x8) (v := (x8 + 1)) (lv' := [(8, iv (x8 + 1)), (0, rv (some h0)), (1, iv x1), (2, iv x2), (4, iv x4), (5, iv x5), (6, iv x6), (7, iv x7)]) hx hb dX6_isOwn_103 hl rfl rfl (by decide) rfl (fun ls hl => ?_)
          refine lv_goto (tgt := 23) hx hb dX6_isOwn_106 (by decide) ?_
          exact ih _ _ _ _ _ _ _ _ _ _ _ _ h w (lh_sub hl [1, 2, 3, 4, 5, 6, 7, 0] rfl)
        · have h := h.2 c8
          refine r_aload_n (x := (some h0)) hx hb dX6_isOwn_49 rfl (lh_at hl 0 rfl) ?_
          refine lv_iconst (v := (4 : Int32)) hx hb dX6_isOwn_50 (by decide) ?_
          refine lv_iload_n (x := x1) hx hb dX6_isOwn_51 rfl (lh_at hl 1 rfl) ?_
          refine lv_imul hx hb dX6_isOwn_52 ?_
          refine lv_iload (x := x8) hx hb dX6_isOwn_53 (lh_at hl 7 rfl) ?_
          refine lv_iadd hx hb dX6_isOwn_55 ?_
          refine z_callVv E w rfl ho5 cl_X6 yk_X6_layCuts ⟨Nat.le_of_ble_eq_true rfl, Nat.le_of_ble_eq_true rfl⟩ ⟨(Nat.zero_le _), (Nat.zero_le _)⟩ rfl ml_X6_115 im_X6_layCuts sl_X6_layCuts [iv (((4 : Int32) * x1) + x8)] rfl rfl hl [] rfl (Nat.le_of_ble_eq_true rfl) (K_X6_layCuts h) dX6_isOwn_56 (fun  M9 H locs h w => ?_)
          refine lv_iload (x := x6) hx hb dX6_isOwn_59 (lh_at hl 5 rfl) ?_
          refine lv_if_ne (tgt := 75) hx hb dX6_isOwn_61 (by decide) (fun c10 => ?_) (fun c10 => ?_)
          · have h := h.1 c10
            exact k_X6_isOwn_75 E hr hlk ih _ _ _ _ _ _ _ _ _ _ _ h w (lh_sub hl [0, 1, 2, 3, 4, 6, 7] rfl)
          · have h := h.2 c10
            refine r_aload_n (x := (some h0)) hx hb dX6_isOwn_64 rfl (lh_at hl 0 rfl) ?_
            refine lv_iload (x := x4) hx hb dX6_isOwn_65 (lh_at hl 3 rfl) ?_
            refine lv_iload (x := x5) hx hb dX6_isOwn_67 (lh_at hl 4 rfl) ?_
            obtain ⟨ho11, h⟩ := h
            refine z_callVi E w rfl ho11 cl_X6 yk_X6_showsNear ⟨Nat.le_of_ble_eq_true rfl, Nat.le_of_ble_eq_true rfl⟩ ⟨(Nat.zero_le _), (Nat.zero_le _)⟩ rfl ml_X6_144 im_X6_showsNear sl_X6_showsNear [iv x4, iv x5] rfl rfl hl [] rfl (Nat.le_of_ble_eq_true rfl) (K_X6_showsNear h) dX6_isOwn_69 (fun r13 M12 H locs h w => ?_)
            refine lv_if_eq (tgt := 79) hx hb dX6_isOwn_72 (by decide) (fun c14 => ?_) (fun c14 => ?_)
            · have h := h.1 c14
              refine lv_iconst (v := (0 : Int32)) hx hb dX6_isOwn_79 (by decide) ?_
              exact k_X6_isOwn_80 E hr hlk ih _ _ _ _ _ _ _ _ _ _ _ _ h w (lh_sub hl [0, 1, 2, 3, 4, 6, 7] rfl)
            · have h := h.2 c14
              exact k_X6_isOwn_75 E hr hlk ih _ _ _ _ _ _ _ _ _ _ _ h w (lh_sub hl [0, 1, 2, 3, 4, 6, 7] rfl)
def B_X6_isOwn_0 (Q : Int32 → Mm → Prop)  (h0 : Nat) (x1 : Int32) (x2 : Int32) (x3 : Int32) (M : Mm) : Prop := (ok M h0 6 ∧ (B_X6_buildOfCut_0 (fun r3 M2 => (ok M2 h0 6 ∧ (B_X6_sizeOf_0 (fun r6 M5 => (∃ n7, B_X6_isOwn_23 Q  n7 h0 x1 x2 r3 r6 (0 : Int32) (0 : Int32) (0 : Int32) M5)) h0 x3 M2))) h0 x3 M))
set_option maxHeartbeats 4000000 in
set_option maxRecDepth 100000 in
theorem k_X6_isOwn_0 {p : Program} {l : Launch} {e : Env} {s : State} {m : MethodId} {args : Array Value} {below : List Frame} {meth : Method} {c : Code} {D : va_G} {cy : Nat → ClassId} {A : Nat → Prop} {Q : Int32 → Mm → Prop} (E : Ex p m c cX6_isOwn 9 s args RX6 D cy A) (hr : meth.sig.returnType = (some .boolean)) (hlk : meth.locks = false) : ∀ (h0 : Nat) (x1 : Int32) (x2 : Int32) (x3 : Int32) (M : Mm) (H : Heap) (locs : List Loc) (ls : Array Slot), B_X6_isOwn_0 Q  h0 x1 x2 x3 M → Wd D cy A s M H locs → lh ls 9 [(0, rv (some h0)), (1, iv x1), (2, iv x2), (3, iv x3)] → W p l e (rmm 2 0 0) s m args below meth c H locs 0 0 (MQ below (va_Qi Q (Po D cy A) A) args s 0 0 A) (F0 m 0 ls []) := by
  obtain ⟨hx, hb, hml, hown, hts⟩ := E.1
  intro h0 x1 x2 x3 M H locs ls h w hl
  unfold B_X6_isOwn_0 at h
  refine r_aload_n (x := (some h0)) hx hb dX6_isOwn_0 rfl (lh_at hl 0 rfl) ?_
  refine lv_iload_n (x := x3) hx hb dX6_isOwn_1 rfl (lh_at hl 3 rfl) ?_
  obtain ⟨ho1, h⟩ := h
  refine z_callVi E w rfl ho1 cl_X6 yk_X6_buildOfCut ⟨Nat.le_of_ble_eq_true rfl, Nat.le_of_ble_eq_true rfl⟩ ⟨(Nat.zero_le _), (Nat.zero_le _)⟩ rfl ml_X6_138 im_X6_buildOfCut sl_X6_buildOfCut [iv x3] rfl rfl hl [] rfl (Nat.le_of_ble_eq_true rfl) (K_X6_buildOfCut h) dX6_isOwn_2 (fun r3 M2 H locs h w => ?_)
  refine r_istore (lv' := [(4, iv r3), (0, rv (some h0)), (1, iv x1), (2, iv x2), (3, iv x3)]) hx hb dX6_isOwn_5 hl (by decide) rfl (fun ls hl => ?_)
  refine r_aload_n (x := (some h0)) hx hb dX6_isOwn_7 rfl (lh_at hl 1 rfl) ?_
  refine lv_iload_n (x := x3) hx hb dX6_isOwn_8 rfl (lh_at hl 4 rfl) ?_
  obtain ⟨ho4, h⟩ := h
  refine z_callVi E w rfl ho4 cl_X6 yk_X6_sizeOf ⟨Nat.le_of_ble_eq_true rfl, Nat.le_of_ble_eq_true rfl⟩ ⟨(Nat.zero_le _), (Nat.zero_le _)⟩ rfl ml_X6_141 im_X6_sizeOf sl_X6_sizeOf [iv x3] rfl rfl hl [] rfl (Nat.le_of_ble_eq_true rfl) (K_X6_sizeOf h) dX6_isOwn_9 (fun r6 M5 H locs h w => ?_)
  refine r_istore (lv' := [(5, iv r6), (4, iv r3), (0, rv (some h0)), (1, iv x1), (2, iv x2), (3, iv x3)]) hx hb dX6_isOwn_12 hl (by decide) rfl (fun ls hl => ?_)
  refine lv_iconst (v := (0 : Int32)) hx hb dX6_isOwn_14 (by decide) ?_
  refine r_istore (lv' := [(6, iv (0 : Int32)), (5, iv r6), (4, iv r3), (0, rv (some h0)), (1, iv x1), (2, iv x2), (3, iv x3)]) hx hb dX6_isOwn_15 hl (by decide) rfl (fun ls hl => ?_)
  refine lv_iconst (v := (0 : Int32)) hx hb dX6_isOwn_17 (by decide) ?_
  refine r_istore (lv' := [(7, iv (0 : Int32)), (6, iv (0 : Int32)), (5, iv r6), (4, iv r3), (0, rv (some h0)), (1, iv x1), (2, iv x2), (3, iv x3)]) hx hb dX6_isOwn_18 hl (by decide) rfl (fun ls hl => ?_)
  refine lv_iconst (v := (0 : Int32)) hx hb dX6_isOwn_20 (by decide) ?_
  refine r_istore (lv' := [(8, iv (0 : Int32)), (7, iv (0 : Int32)), (6, iv (0 : Int32)), (5, iv r6), (4, iv r3), (0, rv (some h0)), (1, iv x1), (2, iv x2), (3, iv x3)]) hx hb dX6_isOwn_21 hl (by decide) rfl (fun ls hl => ?_)
  obtain ⟨n7, h⟩ := h
  exact k_X6_isOwn_23 E hr hlk  n7 _ _ _ _ _ _ _ _ _ _ _ _ h w (lh_sub hl [5, 6, 7, 4, 3, 2, 1, 0] rfl)
theorem K_X6_isOwn {l : Launch} {Q : Int32 → Mm → Prop} {h0 : Nat} {x1 : Int32} {x2 : Int32} {x3 : Int32} {M : Mm} (h : B_X6_isOwn_0 Q h0 x1 x2 x3 M) : KI l yX6_isOwn cdX6_isOwn (rmm 2 0 0) [rv (some h0), iv x1, iv x2, iv x3] M Q :=
  KI_of (by decide) rfl (Nat.le_of_ble_eq_true rfl) (fun p e s m args below meth c D cy A ls E hr hlk hn w hl => k_X6_isOwn_0 E hr hlk _ _ _ _ _ _ _ _ h w hl)
def B_X6_own_0 (Q : Int32 → Mm → Prop)  (h0 : Nat) (x1 : Int32) (x2 : Int32) (x3 : Int32) (M : Mm) : Prop := (ok M h0 6 ∧ (B_X6_need_0 (fun r3 M2 => ((0 ≤ r3 → (ok M2 h0 6 ∧ (B_X6_isCut_0 (fun r7 M6 => ((¬ r7 = 0 → (ok M6 h0 6 ∧ (B_X6_isOwn_0 (fun r11 M10 => ((r11 = 0 → Q (0 : Int32) M10) ∧ (¬ r11 = 0 → Q (1 : Int32) M10))) h0 x1 x2 x3 M6))) ∧ (r7 = 0 → Q (-9 : Int32) M6))) h0 x3 M2))) ∧ (¬ 0 ≤ r3 → Q r3 M2))) h0 x1 x2 M))
set_option maxHeartbeats 4000000 in
set_option maxRecDepth 100000 in
theorem k_X6_own_0 {p : Program} {l : Launch} {e : Env} {s : State} {m : MethodId} {args : Array Value} {below : List Frame} {meth : Method} {c : Code} {D : va_G} {cy : Nat → ClassId} {A : Nat → Prop} {Q : Int32 → Mm → Prop} (E : Ex p m c cX6_own 5 s args RX6 D cy A) (hr : meth.sig.returnType = (some .int)) (hlk : meth.locks = false) : ∀ (h0 : Nat) (x1 : Int32) (x2 : Int32) (x3 : Int32) (M : Mm) (H : Heap) (locs : List Loc) (ls : Array Slot), B_X6_own_0 Q  h0 x1 x2 x3 M → Wd D cy A s M H locs → lh ls 5 [(0, rv (some h0)), (1, iv x1), (2, iv x2), (3, iv x3)] → W p l e (rmm 4 0 0) s m args below meth c H locs 0 0 (MQ below (va_Qi Q (Po D cy A) A) args s 0 0 A) (F0 m 0 ls []) := by
  obtain ⟨hx, hb, hml, hown, hts⟩ := E.1
  intro h0 x1 x2 x3 M H locs ls h w hl
  unfold B_X6_own_0 at h
  refine r_aload_n (x := (some h0)) hx hb dX6_own_0 rfl (lh_at hl 0 rfl) ?_
  refine lv_iload_n (x := x1) hx hb dX6_own_1 rfl (lh_at hl 1 rfl) ?_
  refine lv_iload_n (x := x2) hx hb dX6_own_2 rfl (lh_at hl 2 rfl) ?_
  obtain ⟨ho1, h⟩ := h
  refine z_callVi E w rfl ho1 cl_X6 yk_X6_need ⟨Nat.le_of_ble_eq_true rfl, Nat.le_of_ble_eq_true rfl⟩ ⟨(Nat.zero_le _), (Nat.zero_le _)⟩ rfl ml_X6_119 im_X6_need sl_X6_need [iv x1, iv x2] rfl rfl hl [] rfl (Nat.le_of_ble_eq_true rfl) (K_X6_need h) dX6_own_3 (fun r3 M2 H locs h w => ?_)
  refine r_istore (lv' := [(4, iv r3), (0, rv (some h0)), (1, iv x1), (2, iv x2), (3, iv x3)]) hx hb dX6_own_6 hl (by decide) rfl (fun ls hl => ?_)
  refine lv_iload (x := r3) hx hb dX6_own_8 (lh_at hl 0 rfl) ?_
  refine lv_if_ge (tgt := 18) hx hb dX6_own_10 (by decide) (fun c4 => ?_) (fun c4 => ?_)
  · have h := h.1 c4
    refine r_aload_n (x := (some h0)) hx hb dX6_own_18 rfl (lh_at hl 1 rfl) ?_
    refine lv_iload_n (x := x3) hx hb dX6_own_19 rfl (lh_at hl 4 rfl) ?_
    obtain ⟨ho5, h⟩ := h
    refine z_callVi E w rfl ho5 cl_X6 yk_X6_isCut ⟨Nat.le_of_ble_eq_true rfl, Nat.le_of_ble_eq_true rfl⟩ ⟨(Nat.zero_le _), (Nat.zero_le _)⟩ rfl ml_X6_135 im_X6_isCut sl_X6_isCut [iv x3] rfl rfl hl [] rfl (Nat.le_of_ble_eq_true rfl) (K_X6_isCut h) dX6_own_20 (fun r7 M6 H locs h w => ?_)
    refine lv_if_ne (tgt := 31) hx hb dX6_own_23 (by decide) (fun c8 => ?_) (fun c8 => ?_)
    · have h := h.1 c8
      refine r_aload_n (x := (some h0)) hx hb dX6_own_31 rfl (lh_at hl 1 rfl) ?_
      refine lv_iload_n (x := x1) hx hb dX6_own_32 rfl (lh_at hl 2 rfl) ?_
      refine lv_iload_n (x := x2) hx hb dX6_own_33 rfl (lh_at hl 3 rfl) ?_
      refine lv_iload_n (x := x3) hx hb dX6_own_34 rfl (lh_at hl 4 rfl) ?_
      obtain ⟨ho9, h⟩ := h
      refine z_callVi E w rfl ho9 cl_X6 yk_X6_isOwn ⟨Nat.le_of_ble_eq_true rfl, Nat.le_of_ble_eq_true rfl⟩ ⟨(Nat.zero_le _), (Nat.zero_le _)⟩ rfl ml_X6_150 im_X6_isOwn sl_X6_isOwn [iv x1, iv x2, iv x3] rfl rfl hl [] rfl (Nat.le_of_ble_eq_true rfl) (K_X6_isOwn h) dX6_own_35 (fun r11 M10 H locs h w => ?_)
      refine lv_if_eq (tgt := 45) hx hb dX6_own_38 (by decide) (fun c12 => ?_) (fun c12 => ?_)
      · have h := h.1 c12
        refine lv_iconst (v := (0 : Int32)) hx hb dX6_own_45 (by decide) ?_
        exact r_iret E w hr hlk h (Nat.le_refl 0) (Nat.le_refl 0) dX6_own_46
      · have h := h.2 c12
        refine lv_iconst (v := (1 : Int32)) hx hb dX6_own_41 (by decide) ?_
        refine lv_goto (tgt := 46) hx hb dX6_own_42 (by decide) ?_
        exact r_iret E w hr hlk h (Nat.le_refl 0) (Nat.le_refl 0) dX6_own_46
    · have h := h.2 c8
      refine lv_bipush (v := (-9 : Int32)) hx hb dX6_own_26 (by decide) ?_
      refine lv_goto (tgt := 46) hx hb dX6_own_28 (by decide) ?_
      exact r_iret E w hr hlk h (Nat.le_refl 0) (Nat.le_refl 0) dX6_own_46
  · have h := h.2 c4
    refine lv_iload (x := r3) hx hb dX6_own_13 (lh_at hl 0 rfl) ?_
    refine lv_goto (tgt := 46) hx hb dX6_own_15 (by decide) ?_
    exact r_iret E w hr hlk h (Nat.le_refl 0) (Nat.le_refl 0) dX6_own_46
theorem K_X6_own {l : Launch} {Q : Int32 → Mm → Prop} {h0 : Nat} {x1 : Int32} {x2 : Int32} {x3 : Int32} {M : Mm} (h : B_X6_own_0 Q h0 x1 x2 x3 M) : KI l yX6_own cdX6_own (rmm 4 0 0) [rv (some h0), iv x1, iv x2, iv x3] M Q :=
  KI_of (by decide) rfl (Nat.le_of_ble_eq_true rfl) (fun p e s m args below meth c D cy A ls E hr hlk hn w hl => k_X6_own_0 E hr hlk _ _ _ _ _ _ _ _ h w hl)
def B_X6_layPairs_93 (Q : Mm → Prop) (K31 : Nat → Int32 → Mm → Prop) (K43 : Nat → Int32 → Int32 → Mm → Prop) (h0 : Nat) (x1 : Int32) (x2 : Int32) (s0 : Int32) (M : Mm) : Prop := (ok M h0 6 ∧ (B_X6_sizeOf_0 (fun r3 M2 => ((0 ≤ r3 → K43 h0 x1 (x2 + 1) M2) ∧ (¬ 0 ≤ r3 → (ok M2 h0 6 ∧ (∃ a6, (gR M2 h0 24) = some a6 ∧ (ar M2 a6 9 x2 ∧ ((¬ (gI M2 a6 (Int32.toNatClampNeg x2)) = 0 → K43 h0 x1 (x2 + 1) M2) ∧ ((gI M2 a6 (Int32.toNatClampNeg x2)) = 0 → (B_X6_sizeOf_0 (fun r10 M9 => ((0 < (lg_cmp ((10 : Int64) * (Int32.toInt64 s0)) (Int32.toInt64 r10)) → K43 h0 x1 (x2 + 1) M9) ∧ (¬ 0 < (lg_cmp ((10 : Int64) * (Int32.toInt64 s0)) (Int32.toInt64 r10)) → (ok M9 h0 6 ∧ (∃ a13, (gR M9 h0 23) = some a13 ∧ (ar M9 a13 7 x1 ∧ (∀ M15, M15 = pI M9 a13 (Int32.toNatClampNeg x1) x2 → (∃ a16, (gR M15 h0 24) = some a16 ∧ (ar M15 a16 9 x2 ∧ (∀ M18, M18 = pI M15 a16 (Int32.toNatClampNeg x2) (1 : Int32) → K43 h0 x1 (x2 + 1) M18)))))))))) h0 x1 M2))))))))) h0 x2 M))
set_option maxHeartbeats 4000000 in
set_option maxRecDepth 100000 in
theorem k_X6_layPairs_93 {p : Program} {l : Launch} {e : Env} {s : State} {m : MethodId} {args : Array Value} {below : List Frame} {meth : Method} {c : Code} {D : va_G} {cy : Nat → ClassId} {A : Nat → Prop} {Q : Mm → Prop} (E : Ex p m c cX6_layPairs 5 s args RX6 D cy A) (hr : meth.sig.returnType = none) (hlk : meth.locks = false) {K31 : Nat → Int32 → Mm → Prop} (hK31 : ∀ (h0 : Nat) (x1 : Int32) (M : Mm) (H : Heap) (locs : List Loc) (ls : Array Slot), K31 h0 x1 M → Wd D cy A s M H locs → lh ls 5 [(0, rv (some h0)), (1, iv x1)] → W p l e (rmm 1 0 0) s m args below meth c H locs 0 0 (MQ below (va_Qv Q (Po D cy A) A) args s 0 0 A) (F0 m 31 ls [])) {K43 : Nat → Int32 → Int32 → Mm → Prop} (hK43 : ∀ (h0 : Nat) (x1 : Int32) (x2 : Int32) (M : Mm) (H : Heap) (locs : List Loc) (ls : Array Slot), K43 h0 x1 x2 M → Wd D cy A s M H locs → lh ls 5 [(0, rv (some h0)), (1, iv x1), (2, iv x2)] → W p l e (rmm 1 0 0) s m args below meth c H locs 0 0 (MQ below (va_Qv Q (Po D cy A) A) args s 0 0 A) (F0 m 43 ls [])) : ∀ (h0 : Nat) (x1 : Int32) (x2 : Int32) (s0 : Int32) (M : Mm) (H : Heap) (locs : List Loc) (ls : Array Slot), B_X6_layPairs_93 Q K31 K43 h0 x1 x2 s0 M → Wd D cy A s M H locs → lh ls 5 [(0, rv (some h0)), (1, iv x1), (2, iv x2)] → W p l e (rmm 1 0 0) s m args below meth c H locs 0 0 (MQ below (va_Qv Q (Po D cy A) A) args s 0 0 A) (F0 m 93 ls [.int s0]) := by
  obtain ⟨hx, hb, hml, hown, hts⟩ := E.1
  intro h0 x1 x2 s0 M H locs ls h w hl
  unfold B_X6_layPairs_93 at h
  refine r_istore (lv' := [(4, iv s0), (0, rv (some h0)), (1, iv x1), (2, iv x2)]) hx hb dX6_layPairs_93 hl (by decide) rfl (fun ls hl => ?_)
  refine r_aload_n (x := (some h0)) hx hb dX6_layPairs_95 rfl (lh_at hl 1 rfl) ?_
  refine lv_iload_n (x := x2) hx hb dX6_layPairs_96 rfl (lh_at hl 3 rfl) ?_
  obtain ⟨ho1, h⟩ := h
  refine z_callVi E w rfl ho1 cl_X6 yk_X6_sizeOf ⟨Nat.le_of_ble_eq_true rfl, Nat.le_of_ble_eq_true rfl⟩ ⟨(Nat.zero_le _), (Nat.zero_le _)⟩ rfl ml_X6_141 im_X6_sizeOf sl_X6_sizeOf [iv x2] rfl rfl hl [] rfl (Nat.le_of_ble_eq_true rfl) (K_X6_sizeOf h) dX6_layPairs_97 (fun r3 M2 H locs h w => ?_)
  refine lv_if_ge (tgt := 143) hx hb dX6_layPairs_100 (by decide) (fun c4 => ?_) (fun c4 => ?_)
  · have h := h.1 c4
    refine r_iinc (k := 3) (x := x2) (v := (x2 + 1)) (lv' := [(2, iv (x2 + 1)), (4, iv s0), (0, rv (some h0)), (1, iv x1)]) hx hb dX6_layPairs_143 hl rfl rfl (by decide) rfl (fun ls hl => ?_)
    refine lv_goto (tgt := 43) hx hb dX6_layPairs_146 (by decide) ?_
    exact hK43 _ _ _ _ _ _ _ h w (lh_sub hl [2, 3, 0] rfl)
  · have h := h.2 c4
    refine r_aload_n (x := (some h0)) hx hb dX6_layPairs_103 rfl (lh_at hl 1 rfl) ?_
    obtain ⟨ho5, h⟩ := h
    refine r_getR E w rfl ho5 cl_X6 24 rfl fl_X6_56 dX6_layPairs_104 ?_
    refine lv_iload_n (x := x2) hx hb dX6_layPairs_107 rfl (lh_at hl 3 rfl) ?_
    obtain ⟨a6, ea6, h⟩ := h
    obtain ⟨ha7, h⟩ := h
    refine r_zald E w ea6 ha7 dX6_layPairs_108 ?_
    refine lv_if_ne (tgt := 143) hx hb dX6_layPairs_109 (by decide) (fun c8 => ?_) (fun c8 => ?_)
    · have h := h.1 c8
      refine r_iinc (k := 3) (x := x2) (v := (x2 + 1)) (lv' := [(2, iv (x2 + 1)), (4, iv s0), (0, rv (some h0)), (1, iv x1)]) hx hb dX6_layPairs_143 hl rfl rfl (by decide) rfl (fun ls hl => ?_)
      refine lv_goto (tgt := 43) hx hb dX6_layPairs_146 (by decide) ?_
      exact hK43 _ _ _ _ _ _ _ h w (lh_sub hl [2, 3, 0] rfl)
    · have h := h.2 c8
      refine lv_ldc2 (v := (10 : Int64)) hx hb hown (hts _ kc_X6_153) dX6_layPairs_112 ?_
      refine lv_iload (x := s0) hx hb dX6_layPairs_115 (lh_at hl 0 rfl) ?_
      refine lv_i2l hx hb dX6_layPairs_117 rfl ?_
      refine lv_lmul hx hb dX6_layPairs_118 ?_
      refine r_aload_n (x := (some h0)) hx hb dX6_layPairs_119 rfl (lh_at hl 1 rfl) ?_
      refine lv_iload_n (x := x1) hx hb dX6_layPairs_120 rfl (lh_at hl 2 rfl) ?_
      refine z_callVi E w rfl ho5 cl_X6 yk_X6_sizeOf ⟨Nat.le_of_ble_eq_true rfl, Nat.le_of_ble_eq_true rfl⟩ ⟨(Nat.zero_le _), (Nat.zero_le _)⟩ rfl ml_X6_141 im_X6_sizeOf sl_X6_sizeOf [iv x1] rfl rfl hl [jv ((10 : Int64) * (Int32.toInt64 s0))] rfl (Nat.le_of_ble_eq_true rfl) (K_X6_sizeOf h) dX6_layPairs_121 (fun r10 M9 H locs h w => ?_)
      refine lv_i2l hx hb dX6_layPairs_124 rfl ?_
      refine W.lcmp hx hb dX6_layPairs_125 ?_
      refine lv_if_gt (tgt := 143) hx hb dX6_layPairs_126 (by decide) (fun c11 => ?_) (fun c11 => ?_)
      · have h := h.1 c11
        refine r_iinc (k := 3) (x := x2) (v := (x2 + 1)) (lv' := [(2, iv (x2 + 1)), (4, iv s0), (0, rv (some h0)), (1, iv x1)]) hx hb dX6_layPairs_143 hl rfl rfl (by decide) rfl (fun ls hl => ?_)
        refine lv_goto (tgt := 43) hx hb dX6_layPairs_146 (by decide) ?_
        exact hK43 _ _ _ _ _ _ _ h w (lh_sub hl [2, 3, 0] rfl)
      · have h := h.2 c11
        refine r_aload_n (x := (some h0)) hx hb dX6_layPairs_129 rfl (lh_at hl 1 rfl) ?_
        obtain ⟨ho12, h⟩ := h
        refine r_getR E w rfl ho12 cl_X6 23 rfl fl_X6_53 dX6_layPairs_130 ?_
        refine lv_iload_n (x := x1) hx hb dX6_layPairs_133 rfl (lh_at hl 2 rfl) ?_
        refine lv_iload_n (x := x2) hx hb dX6_layPairs_134 rfl (lh_at hl 3 rfl) ?_
        obtain ⟨a13, ea13, h⟩ := h
        obtain ⟨ha14, h⟩ := h
        refine r_iast (v := x2) E w ea13 ha14 dX6_layPairs_135 (fun H locs w => ?_)
        obtain ⟨M15, eM15⟩ : ∃ z, z = pI M9 a13 (Int32.toNatClampNeg x1) x2 := ⟨_, rfl⟩
        rw [← eM15] at w
        have h := h M15 eM15
        refine r_aload_n (x := (some h0)) hx hb dX6_layPairs_136 rfl (lh_at hl 1 rfl) ?_
        have ho12 : ok M15 h0 6 := by rw [eM15]; exact ho12
        refine r_getR E w rfl ho12 cl_X6 24 rfl fl_X6_56 dX6_layPairs_137 ?_
        refine lv_iload_n (x := x2) hx hb dX6_layPairs_140 rfl (lh_at hl 3 rfl) ?_
        refine lv_iconst (v := (1 : Int32)) hx hb dX6_layPairs_141 (by decide) ?_
        obtain ⟨a16, ea16, h⟩ := h
        obtain ⟨ha17, h⟩ := h
        refine r_zast (v := (1 : Int32)) E w ea16 ha17 (Or.inr rfl) dX6_layPairs_142 (fun H locs w => ?_)
        obtain ⟨M18, eM18⟩ : ∃ z, z = pI M15 a16 (Int32.toNatClampNeg x2) (1 : Int32) := ⟨_, rfl⟩
        rw [← eM18] at w
        have h := h M18 eM18
        refine r_iinc (k := 3) (x := x2) (v := (x2 + 1)) (lv' := [(2, iv (x2 + 1)), (4, iv s0), (0, rv (some h0)), (1, iv x1)]) hx hb dX6_layPairs_143 hl rfl rfl (by decide) rfl (fun ls hl => ?_)
        refine lv_goto (tgt := 43) hx hb dX6_layPairs_146 (by decide) ?_
        exact hK43 _ _ _ _ _ _ _ h w (lh_sub hl [2, 3, 0] rfl)
def B_X6_layPairs_43 (Q : Mm → Prop) (K31 : Nat → Int32 → Mm → Prop) : Nat → Nat → Int32 → Int32 → Mm → Prop
  | 0, _, _, _, _ => False
  | n + 1, h0, x1, x2, M => (ok M h0 6 ∧ (B_X6_isCut_0 (fun r3 M2 => ((r3 = 0 → K31 h0 (x1 + 1) M2) ∧ (¬ r3 = 0 → (ok M2 h0 6 ∧ (B_X6_sizeOf_0 (fun r7 M6 => ((r7 ≤ 0 → K31 h0 (x1 + 1) M6) ∧ (¬ r7 ≤ 0 → (ok M6 h0 6 ∧ (∃ a10, (gR M6 h0 23) = some a10 ∧ (ar M6 a10 7 x1 ∧ ((¬ (gI M6 a10 (Int32.toNatClampNeg x1)) = (-9 : Int32) → K31 h0 (x1 + 1) M6) ∧ ((gI M6 a10 (Int32.toNatClampNeg x1)) = (-9 : Int32) → (B_X6_sizeOf_0 (fun r14 M13 => (ok M13 h0 6 ∧ (B_X6_sizeOf_0 (fun r17 M16 => ((0 ≤ ((-r14) - r17) → B_X6_layPairs_93 Q K31 (fun y0 y1 y2 My => B_X6_layPairs_43 Q K31 n y0 y1 y2 My) h0 x1 x2 ((-r14) - r17) M16) ∧ (¬ 0 ≤ ((-r14) - r17) → B_X6_layPairs_93 Q K31 (fun y0 y1 y2 My => B_X6_layPairs_43 Q K31 n y0 y1 y2 My) h0 x1 x2 (-((-r14) - r17)) M16))) h0 x1 M13))) h0 x2 M6))))))))) h0 x1 M2))))) h0 x2 M))
set_option maxHeartbeats 4000000 in
set_option maxRecDepth 100000 in
theorem k_X6_layPairs_43 {p : Program} {l : Launch} {e : Env} {s : State} {m : MethodId} {args : Array Value} {below : List Frame} {meth : Method} {c : Code} {D : va_G} {cy : Nat → ClassId} {A : Nat → Prop} {Q : Mm → Prop} (E : Ex p m c cX6_layPairs 5 s args RX6 D cy A) (hr : meth.sig.returnType = none) (hlk : meth.locks = false) {K31 : Nat → Int32 → Mm → Prop} (hK31 : ∀ (h0 : Nat) (x1 : Int32) (M : Mm) (H : Heap) (locs : List Loc) (ls : Array Slot), K31 h0 x1 M → Wd D cy A s M H locs → lh ls 5 [(0, rv (some h0)), (1, iv x1)] → W p l e (rmm 1 0 0) s m args below meth c H locs 0 0 (MQ below (va_Qv Q (Po D cy A) A) args s 0 0 A) (F0 m 31 ls [])) : ∀ (n : Nat), ∀ (h0 : Nat) (x1 : Int32) (x2 : Int32) (M : Mm) (H : Heap) (locs : List Loc) (ls : Array Slot), B_X6_layPairs_43 Q K31 n h0 x1 x2 M → Wd D cy A s M H locs → lh ls 5 [(0, rv (some h0)), (1, iv x1), (2, iv x2)] → W p l e (rmm 1 0 0) s m args below meth c H locs 0 0 (MQ below (va_Qv Q (Po D cy A) A) args s 0 0 A) (F0 m 43 ls []) := by
  obtain ⟨hx, hb, hml, hown, hts⟩ := E.1
  intro n
  induction n with
  | zero => intro h0 x1 x2 M H locs ls h; exact False.elim h
  | succ n ih =>
    intro h0 x1 x2 M H locs ls h w hl
    unfold B_X6_layPairs_43 at h
    refine r_aload_n (x := (some h0)) hx hb dX6_layPairs_43 rfl (lh_at hl 0 rfl) ?_
    refine lv_iload_n (x := x2) hx hb dX6_layPairs_44 rfl (lh_at hl 2 rfl) ?_
    obtain ⟨ho1, h⟩ := h
    refine z_callVi E w rfl ho1 cl_X6 yk_X6_isCut ⟨Nat.le_of_ble_eq_true rfl, Nat.le_of_ble_eq_true rfl⟩ ⟨(Nat.zero_le _), (Nat.zero_le _)⟩ rfl ml_X6_135 im_X6_isCut sl_X6_isCut [iv x2] rfl rfl hl [] rfl (Nat.le_of_ble_eq_true rfl) (K_X6_isCut h) dX6_layPairs_45 (fun r3 M2 H locs h w => ?_)
    refine lv_if_eq (tgt := 149) hx hb dX6_layPairs_48 (by decide) (fun c4 => ?_) (fun c4 => ?_)
    · have h := h.1 c4
      refine r_iinc (k := 1) (x := x1) (v := (x1 + 1)) (lv' := [(1, iv (x1 + 1)), (0, rv (some h0)), (2, iv x2)]) hx hb dX6_layPairs_149 hl rfl rfl (by decide) rfl (fun ls hl => ?_)
      refine lv_goto (tgt := 31) hx hb dX6_layPairs_152 (by decide) ?_
      exact hK31 _ _ _ _ _ _ h w (lh_sub hl [1, 0] rfl)
    · have h := h.2 c4
      refine r_aload_n (x := (some h0)) hx hb dX6_layPairs_51 rfl (lh_at hl 0 rfl) ?_
      refine lv_iload_n (x := x1) hx hb dX6_layPairs_52 rfl (lh_at hl 1 rfl) ?_
      obtain ⟨ho5, h⟩ := h
      refine z_callVi E w rfl ho5 cl_X6 yk_X6_sizeOf ⟨Nat.le_of_ble_eq_true rfl, Nat.le_of_ble_eq_true rfl⟩ ⟨(Nat.zero_le _), (Nat.zero_le _)⟩ rfl ml_X6_141 im_X6_sizeOf sl_X6_sizeOf [iv x1] rfl rfl hl [] rfl (Nat.le_of_ble_eq_true rfl) (K_X6_sizeOf h) dX6_layPairs_53 (fun r7 M6 H locs h w => ?_)
      refine lv_if_le (tgt := 149) hx hb dX6_layPairs_56 (by decide) (fun c8 => ?_) (fun c8 => ?_)
      · have h := h.1 c8
        refine r_iinc (k := 1) (x := x1) (v := (x1 + 1)) (lv' := [(1, iv (x1 + 1)), (0, rv (some h0)), (2, iv x2)]) hx hb dX6_layPairs_149 hl rfl rfl (by decide) rfl (fun ls hl => ?_)
        refine lv_goto (tgt := 31) hx hb dX6_layPairs_152 (by decide) ?_
        exact hK31 _ _ _ _ _ _ h w (lh_sub hl [1, 0] rfl)
      · have h := h.2 c8
        refine r_aload_n (x := (some h0)) hx hb dX6_layPairs_59 rfl (lh_at hl 0 rfl) ?_
        obtain ⟨ho9, h⟩ := h
        refine r_getR E w rfl ho9 cl_X6 23 rfl fl_X6_53 dX6_layPairs_60 ?_
        refine lv_iload_n (x := x1) hx hb dX6_layPairs_63 rfl (lh_at hl 1 rfl) ?_
        obtain ⟨a10, ea10, h⟩ := h
        obtain ⟨ha11, h⟩ := h
        refine r_iald E w ea10 ha11 dX6_layPairs_64 ?_
        refine lv_bipush (v := (-9 : Int32)) hx hb dX6_layPairs_65 (by decide) ?_
        refine lv_icmp_ne (tgt := 149) hx hb dX6_layPairs_67 (by decide) (fun c12 => ?_) (fun c12 => ?_)
        · have h := h.1 c12
          refine r_iinc (k := 1) (x := x1) (v := (x1 + 1)) (lv' := [(1, iv (x1 + 1)), (0, rv (some h0)), (2, iv x2)]) hx hb dX6_layPairs_149 hl rfl rfl (by decide) rfl (fun ls hl => ?_)
          refine lv_goto (tgt := 31) hx hb dX6_layPairs_152 (by decide) ?_
          exact hK31 _ _ _ _ _ _ h w (lh_sub hl [1, 0] rfl)
        · have h := h.2 c12
          refine r_aload_n (x := (some h0)) hx hb dX6_layPairs_70 rfl (lh_at hl 0 rfl) ?_
          refine lv_iload_n (x := x2) hx hb dX6_layPairs_71 rfl (lh_at hl 2 rfl) ?_
          refine z_callVi E w rfl ho9 cl_X6 yk_X6_sizeOf ⟨Nat.le_of_ble_eq_true rfl, Nat.le_of_ble_eq_true rfl⟩ ⟨(Nat.zero_le _), (Nat.zero_le _)⟩ rfl ml_X6_141 im_X6_sizeOf sl_X6_sizeOf [iv x2] rfl rfl hl [] rfl (Nat.le_of_ble_eq_true rfl) (K_X6_sizeOf h) dX6_layPairs_72 (fun r14 M13 H locs h w => ?_)
          refine lv_ineg hx hb dX6_layPairs_75 ?_
          refine r_aload_n (x := (some h0)) hx hb dX6_layPairs_76 rfl (lh_at hl 0 rfl) ?_
          refine lv_iload_n (x := x1) hx hb dX6_layPairs_77 rfl (lh_at hl 1 rfl) ?_
          obtain ⟨ho15, h⟩ := h
          refine z_callVi E w rfl ho15 cl_X6 yk_X6_sizeOf ⟨Nat.le_of_ble_eq_true rfl, Nat.le_of_ble_eq_true rfl⟩ ⟨(Nat.zero_le _), (Nat.zero_le _)⟩ rfl ml_X6_141 im_X6_sizeOf sl_X6_sizeOf [iv x1] rfl rfl hl [iv (-r14)] rfl (Nat.le_of_ble_eq_true rfl) (K_X6_sizeOf h) dX6_layPairs_78 (fun r17 M16 H locs h w => ?_)
          refine lv_isub hx hb dX6_layPairs_81 ?_
          refine r_istore_n (lv' := [(3, iv ((-r14) - r17)), (0, rv (some h0)), (1, iv x1), (2, iv x2)]) hx hb dX6_layPairs_82 rfl hl (by decide) rfl (fun ls hl => ?_)
          refine lv_iload_n (x := ((-r14) - r17)) hx hb dX6_layPairs_83 rfl (lh_at hl 0 rfl) ?_
          refine lv_if_ge (tgt := 92) hx hb dX6_layPairs_84 (by decide) (fun c18 => ?_) (fun c18 => ?_)
          · have h := h.1 c18
            refine lv_iload_n (x := ((-r14) - r17)) hx hb dX6_layPairs_92 rfl (lh_at hl 0 rfl) ?_
            exact k_X6_layPairs_93 E hr hlk hK31 ih _ _ _ _ _ _ _ _ h w (lh_sub hl [1, 2, 3] rfl)
          · have h := h.2 c18
            refine lv_iload_n (x := ((-r14) - r17)) hx hb dX6_layPairs_87 rfl (lh_at hl 0 rfl) ?_
            refine lv_ineg hx hb dX6_layPairs_88 ?_
            refine lv_goto (tgt := 93) hx hb dX6_layPairs_89 (by decide) ?_
            exact k_X6_layPairs_93 E hr hlk hK31 ih _ _ _ _ _ _ _ _ h w (lh_sub hl [1, 2, 3] rfl)
def B_X6_layPairs_31 (Q : Mm → Prop)  : Nat → Nat → Int32 → Mm → Prop
  | 0, _, _, _ => False
  | n + 1, h0, x1, M => (ok M h0 6 ∧ (B_X6_isCut_0 (fun r3 M2 => ((r3 = 0 → Q M2) ∧ (¬ r3 = 0 → (∃ n5, B_X6_layPairs_43 Q (fun y0 y1 My => B_X6_layPairs_31 Q n y0 y1 My) n5 h0 x1 (x1 + (1 : Int32)) M2)))) h0 x1 M))
set_option maxHeartbeats 4000000 in
set_option maxRecDepth 100000 in
theorem k_X6_layPairs_31 {p : Program} {l : Launch} {e : Env} {s : State} {m : MethodId} {args : Array Value} {below : List Frame} {meth : Method} {c : Code} {D : va_G} {cy : Nat → ClassId} {A : Nat → Prop} {Q : Mm → Prop} (E : Ex p m c cX6_layPairs 5 s args RX6 D cy A) (hr : meth.sig.returnType = none) (hlk : meth.locks = false) : ∀ (n : Nat), ∀ (h0 : Nat) (x1 : Int32) (M : Mm) (H : Heap) (locs : List Loc) (ls : Array Slot), B_X6_layPairs_31 Q  n h0 x1 M → Wd D cy A s M H locs → lh ls 5 [(0, rv (some h0)), (1, iv x1)] → W p l e (rmm 1 0 0) s m args below meth c H locs 0 0 (MQ below (va_Qv Q (Po D cy A) A) args s 0 0 A) (F0 m 31 ls []) := by
  obtain ⟨hx, hb, hml, hown, hts⟩ := E.1
  intro n
  induction n with
  | zero => intro h0 x1 M H locs ls h; exact False.elim h
  | succ n ih =>
    intro h0 x1 M H locs ls h w hl
    unfold B_X6_layPairs_31 at h
    refine r_aload_n (x := (some h0)) hx hb dX6_layPairs_31 rfl (lh_at hl 0 rfl) ?_
    refine lv_iload_n (x := x1) hx hb dX6_layPairs_32 rfl (lh_at hl 1 rfl) ?_
    obtain ⟨ho1, h⟩ := h
    refine z_callVi E w rfl ho1 cl_X6 yk_X6_isCut ⟨Nat.le_of_ble_eq_true rfl, Nat.le_of_ble_eq_true rfl⟩ ⟨(Nat.zero_le _), (Nat.zero_le _)⟩ rfl ml_X6_135 im_X6_isCut sl_X6_isCut [iv x1] rfl rfl hl [] rfl (Nat.le_of_ble_eq_true rfl) (K_X6_isCut h) dX6_layPairs_33 (fun r3 M2 H locs h w => ?_)
    refine lv_if_eq (tgt := 155) hx hb dX6_layPairs_36 (by decide) (fun c4 => ?_) (fun c4 => ?_)
    · have h := h.1 c4
      exact r_vret E w hr hlk h (Nat.le_refl 0) (Nat.le_refl 0) dX6_layPairs_155
    · have h := h.2 c4
      refine lv_iload_n (x := x1) hx hb dX6_layPairs_39 rfl (lh_at hl 1 rfl) ?_
      refine lv_iconst (v := (1 : Int32)) hx hb dX6_layPairs_40 (by decide) ?_
      refine lv_iadd hx hb dX6_layPairs_41 ?_
      refine r_istore_n (lv' := [(2, iv (x1 + (1 : Int32))), (0, rv (some h0)), (1, iv x1)]) hx hb dX6_layPairs_42 rfl hl (by decide) rfl (fun ls hl => ?_)
      obtain ⟨n5, h⟩ := h
      exact k_X6_layPairs_43 E hr hlk ih n5 _ _ _ _ _ _ _ h w (lh_sub hl [1, 2, 0] rfl)
def B_X6_layPairs_2 (Q : Mm → Prop)  : Nat → Nat → Int32 → Mm → Prop
  | 0, _, _, _ => False
  | n + 1, h0, x1, M => (((40 : Int32) ≤ x1 → (∃ n2, B_X6_layPairs_31 Q  n2 h0 (0 : Int32) M)) ∧ (¬ (40 : Int32) ≤ x1 → (ok M h0 6 ∧ (∃ a4, (gR M h0 23) = some a4 ∧ (ar M a4 7 x1 ∧ (∀ M6, M6 = pI M a4 (Int32.toNatClampNeg x1) (-9 : Int32) → (∃ a7, (gR M6 h0 24) = some a7 ∧ (ar M6 a7 9 x1 ∧ (∀ M9, M9 = pI M6 a7 (Int32.toNatClampNeg x1) (0 : Int32) → B_X6_layPairs_2 Q  n h0 (x1 + 1) M9)))))))))
set_option maxHeartbeats 4000000 in
set_option maxRecDepth 100000 in
theorem k_X6_layPairs_2 {p : Program} {l : Launch} {e : Env} {s : State} {m : MethodId} {args : Array Value} {below : List Frame} {meth : Method} {c : Code} {D : va_G} {cy : Nat → ClassId} {A : Nat → Prop} {Q : Mm → Prop} (E : Ex p m c cX6_layPairs 5 s args RX6 D cy A) (hr : meth.sig.returnType = none) (hlk : meth.locks = false) : ∀ (n : Nat), ∀ (h0 : Nat) (x1 : Int32) (M : Mm) (H : Heap) (locs : List Loc) (ls : Array Slot), B_X6_layPairs_2 Q  n h0 x1 M → Wd D cy A s M H locs → lh ls 5 [(0, rv (some h0)), (1, iv x1)] → W p l e (rmm 1 0 0) s m args below meth c H locs 0 0 (MQ below (va_Qv Q (Po D cy A) A) args s 0 0 A) (F0 m 2 ls []) := by
  obtain ⟨hx, hb, hml, hown, hts⟩ := E.1
  intro n
  induction n with
  | zero => intro h0 x1 M H locs ls h; exact False.elim h
  | succ n ih =>
    intro h0 x1 M H locs ls h w hl
    unfold B_X6_layPairs_2 at h
    refine lv_iload_n (x := x1) hx hb dX6_layPairs_2 rfl (lh_at hl 1 rfl) ?_
    refine lv_bipush (v := (40 : Int32)) hx hb dX6_layPairs_3 (by decide) ?_
    refine lv_icmp_ge (tgt := 29) hx hb dX6_layPairs_5 (by decide) (fun c1 => ?_) (fun c1 => ?_)
    · have h := h.1 c1
      refine lv_iconst (v := (0 : Int32)) hx hb dX6_layPairs_29 (by decide) ?_
      refine r_istore_n (lv' := [(1, iv (0 : Int32)), (0, rv (some h0))]) hx hb dX6_layPairs_30 rfl hl (by decide) rfl (fun ls hl => ?_)
      obtain ⟨n2, h⟩ := h
      exact k_X6_layPairs_31 E hr hlk  n2 _ _ _ _ _ _ h w (lh_sub hl [1, 0] rfl)
    · have h := h.2 c1
      refine r_aload_n (x := (some h0)) hx hb dX6_layPairs_8 rfl (lh_at hl 0 rfl) ?_
      obtain ⟨ho3, h⟩ := h
      refine r_getR E w rfl ho3 cl_X6 23 rfl fl_X6_53 dX6_layPairs_9 ?_
      refine lv_iload_n (x := x1) hx hb dX6_layPairs_12 rfl (lh_at hl 1 rfl) ?_
      refine lv_bipush (v := (-9 : Int32)) hx hb dX6_layPairs_13 (by decide) ?_
      obtain ⟨a4, ea4, h⟩ := h
      obtain ⟨ha5, h⟩ := h
      refine r_iast (v := (-9 : Int32)) E w ea4 ha5 dX6_layPairs_15 (fun H locs w => ?_)
      obtain ⟨M6, eM6⟩ : ∃ z, z = pI M a4 (Int32.toNatClampNeg x1) (-9 : Int32) := ⟨_, rfl⟩
      rw [← eM6] at w
      have h := h M6 eM6
      refine r_aload_n (x := (some h0)) hx hb dX6_layPairs_16 rfl (lh_at hl 0 rfl) ?_
      have ho3 : ok M6 h0 6 := by rw [eM6]; exact ho3
      refine r_getR E w rfl ho3 cl_X6 24 rfl fl_X6_56 dX6_layPairs_17 ?_
      refine lv_iload_n (x := x1) hx hb dX6_layPairs_20 rfl (lh_at hl 1 rfl) ?_
      refine lv_iconst (v := (0 : Int32)) hx hb dX6_layPairs_21 (by decide) ?_
      obtain ⟨a7, ea7, h⟩ := h
      obtain ⟨ha8, h⟩ := h
      refine r_zast (v := (0 : Int32)) E w ea7 ha8 (Or.inl rfl) dX6_layPairs_22 (fun H locs w => ?_)
      obtain ⟨M9, eM9⟩ : ∃ z, z = pI M6 a7 (Int32.toNatClampNeg x1) (0 : Int32) := ⟨_, rfl⟩
      rw [← eM9] at w
      have h := h M9 eM9
      refine r_iinc (k := 1) (x := x1) (v := (x1 + 1)) (lv' := [(1, iv (x1 + 1)), (0, rv (some h0))]) hx hb dX6_layPairs_23 hl rfl rfl (by decide) rfl (fun ls hl => ?_)
      refine lv_goto (tgt := 2) hx hb dX6_layPairs_26 (by decide) ?_
      exact ih _ _ _ _ _ _ h w (lh_sub hl [1, 0] rfl)
def B_X6_layPairs_0 (Q : Mm → Prop)  (h0 : Nat) (M : Mm) : Prop := (∃ n1, B_X6_layPairs_2 Q  n1 h0 (0 : Int32) M)
set_option maxHeartbeats 4000000 in
set_option maxRecDepth 100000 in
theorem k_X6_layPairs_0 {p : Program} {l : Launch} {e : Env} {s : State} {m : MethodId} {args : Array Value} {below : List Frame} {meth : Method} {c : Code} {D : va_G} {cy : Nat → ClassId} {A : Nat → Prop} {Q : Mm → Prop} (E : Ex p m c cX6_layPairs 5 s args RX6 D cy A) (hr : meth.sig.returnType = none) (hlk : meth.locks = false) : ∀ (h0 : Nat) (M : Mm) (H : Heap) (locs : List Loc) (ls : Array Slot), B_X6_layPairs_0 Q  h0 M → Wd D cy A s M H locs → lh ls 5 [(0, rv (some h0))] → W p l e (rmm 1 0 0) s m args below meth c H locs 0 0 (MQ below (va_Qv Q (Po D cy A) A) args s 0 0 A) (F0 m 0 ls []) := by
  obtain ⟨hx, hb, hml, hown, hts⟩ := E.1
  intro h0 M H locs ls h w hl
  unfold B_X6_layPairs_0 at h
  refine lv_iconst (v := (0 : Int32)) hx hb dX6_layPairs_0 (by decide) ?_
  refine r_istore_n (lv' := [(1, iv (0 : Int32)), (0, rv (some h0))]) hx hb dX6_layPairs_1 rfl hl (by decide) rfl (fun ls hl => ?_)
  obtain ⟨n1, h⟩ := h
  exact k_X6_layPairs_2 E hr hlk  n1 _ _ _ _ _ _ h w (lh_sub hl [1, 0] rfl)
theorem K_X6_layPairs {l : Launch} {Q : Mm → Prop} {h0 : Nat} {M : Mm} (h : B_X6_layPairs_0 Q h0 M) : KV l yX6_layPairs cdX6_layPairs (rmm 1 0 0) [rv (some h0)] M Q :=
  KV_of (by decide) rfl (Nat.le_of_ble_eq_true rfl) (fun p e s m args below meth c D cy A ls E hr hlk hn w hl => k_X6_layPairs_0 E hr hlk _ _ _ _ _ h w hl)
def B_X6_undone_0 (Q : Int32 → Mm → Prop)  (h0 : Nat) (x1 : Int32) (x2 : Int32) (x3 : Int32) (M : Mm) : Prop := (ok M h0 6 ∧ (B_X6_need_0 (fun r3 M2 => ((0 ≤ r3 → (ok M2 h0 6 ∧ (∃ a6, (gR M2 h0 5) = some a6 ∧ (ar M2 a6 7 x1 ∧ (((gI M2 a6 (Int32.toNatClampNeg x1)) = (1 : Int32) → (B_X6_layPairs_0 (fun  M9 => (ok M9 h0 6 ∧ (B_X6_isCut_0 (fun r12 M11 => ((r12 = 0 → Q (-9 : Int32) M11) ∧ (¬ r12 = 0 → (ok M11 h0 6 ∧ (∃ a15, (gR M11 h0 23) = some a15 ∧ (ar M11 a15 7 x3 ∧ Q (gI M11 a15 (Int32.toNatClampNeg x3)) M11)))))) h0 x3 M9))) h0  M2)) ∧ (¬ (gI M2 a6 (Int32.toNatClampNeg x1)) = (1 : Int32) → (B_X6_meets_0 (fun r18 M17 => Q r18 M17) h0 (3 : Int32) M2))))))) ∧ (¬ 0 ≤ r3 → Q r3 M2))) h0 x1 x2 M))
set_option maxHeartbeats 4000000 in
set_option maxRecDepth 100000 in
theorem k_X6_undone_0 {p : Program} {l : Launch} {e : Env} {s : State} {m : MethodId} {args : Array Value} {below : List Frame} {meth : Method} {c : Code} {D : va_G} {cy : Nat → ClassId} {A : Nat → Prop} {Q : Int32 → Mm → Prop} (E : Ex p m c cX6_undone 5 s args RX6 D cy A) (hr : meth.sig.returnType = (some .int)) (hlk : meth.locks = false) : ∀ (h0 : Nat) (x1 : Int32) (x2 : Int32) (x3 : Int32) (M : Mm) (H : Heap) (locs : List Loc) (ls : Array Slot), B_X6_undone_0 Q  h0 x1 x2 x3 M → Wd D cy A s M H locs → lh ls 5 [(0, rv (some h0)), (1, iv x1), (2, iv x2), (3, iv x3)] → W p l e (rmm 4 0 0) s m args below meth c H locs 0 0 (MQ below (va_Qi Q (Po D cy A) A) args s 0 0 A) (F0 m 0 ls []) := by
  obtain ⟨hx, hb, hml, hown, hts⟩ := E.1
  intro h0 x1 x2 x3 M H locs ls h w hl
  unfold B_X6_undone_0 at h
  refine r_aload_n (x := (some h0)) hx hb dX6_undone_0 rfl (lh_at hl 0 rfl) ?_
  refine lv_iload_n (x := x1) hx hb dX6_undone_1 rfl (lh_at hl 1 rfl) ?_
  refine lv_iload_n (x := x2) hx hb dX6_undone_2 rfl (lh_at hl 2 rfl) ?_
  obtain ⟨ho1, h⟩ := h
  refine z_callVi E w rfl ho1 cl_X6 yk_X6_need ⟨Nat.le_of_ble_eq_true rfl, Nat.le_of_ble_eq_true rfl⟩ ⟨(Nat.zero_le _), (Nat.zero_le _)⟩ rfl ml_X6_119 im_X6_need sl_X6_need [iv x1, iv x2] rfl rfl hl [] rfl (Nat.le_of_ble_eq_true rfl) (K_X6_need h) dX6_undone_3 (fun r3 M2 H locs h w => ?_)
  refine r_istore (lv' := [(4, iv r3), (0, rv (some h0)), (1, iv x1), (2, iv x2), (3, iv x3)]) hx hb dX6_undone_6 hl (by decide) rfl (fun ls hl => ?_)
  refine lv_iload (x := r3) hx hb dX6_undone_8 (lh_at hl 0 rfl) ?_
  refine lv_if_ge (tgt := 16) hx hb dX6_undone_10 (by decide) (fun c4 => ?_) (fun c4 => ?_)
  · have h := h.1 c4
    refine r_aload_n (x := (some h0)) hx hb dX6_undone_16 rfl (lh_at hl 1 rfl) ?_
    obtain ⟨ho5, h⟩ := h
    refine r_getR E w rfl ho5 cl_X6 5 rfl fl_X6_13 dX6_undone_17 ?_
    refine lv_iload_n (x := x1) hx hb dX6_undone_20 rfl (lh_at hl 2 rfl) ?_
    obtain ⟨a6, ea6, h⟩ := h
    obtain ⟨ha7, h⟩ := h
    refine r_iald E w ea6 ha7 dX6_undone_21 ?_
    refine lv_iconst (v := (1 : Int32)) hx hb dX6_undone_22 (by decide) ?_
    refine lv_icmp_eq (tgt := 32) hx hb dX6_undone_23 (by decide) (fun c8 => ?_) (fun c8 => ?_)
    · have h := h.1 c8
      refine r_aload_n (x := (some h0)) hx hb dX6_undone_32 rfl (lh_at hl 1 rfl) ?_
      refine z_callVv E w rfl ho5 cl_X6 yk_X6_layPairs ⟨Nat.le_of_ble_eq_true rfl, Nat.le_of_ble_eq_true rfl⟩ ⟨(Nat.zero_le _), (Nat.zero_le _)⟩ rfl ml_X6_155 im_X6_layPairs sl_X6_layPairs [] rfl rfl hl [] rfl (Nat.le_of_ble_eq_true rfl) (K_X6_layPairs h) dX6_undone_33 (fun  M9 H locs h w => ?_)
      refine r_aload_n (x := (some h0)) hx hb dX6_undone_36 rfl (lh_at hl 1 rfl) ?_
      refine lv_iload_n (x := x3) hx hb dX6_undone_37 rfl (lh_at hl 4 rfl) ?_
      obtain ⟨ho10, h⟩ := h
      refine z_callVi E w rfl ho10 cl_X6 yk_X6_isCut ⟨Nat.le_of_ble_eq_true rfl, Nat.le_of_ble_eq_true rfl⟩ ⟨(Nat.zero_le _), (Nat.zero_le _)⟩ rfl ml_X6_135 im_X6_isCut sl_X6_isCut [iv x3] rfl rfl hl [] rfl (Nat.le_of_ble_eq_true rfl) (K_X6_isCut h) dX6_undone_38 (fun r12 M11 H locs h w => ?_)
      refine lv_if_eq (tgt := 53) hx hb dX6_undone_41 (by decide) (fun c13 => ?_) (fun c13 => ?_)
      · have h := h.1 c13
        refine lv_bipush (v := (-9 : Int32)) hx hb dX6_undone_53 (by decide) ?_
        exact r_iret E w hr hlk h (Nat.le_refl 0) (Nat.le_refl 0) dX6_undone_55
      · have h := h.2 c13
        refine r_aload_n (x := (some h0)) hx hb dX6_undone_44 rfl (lh_at hl 1 rfl) ?_
        obtain ⟨ho14, h⟩ := h
        refine r_getR E w rfl ho14 cl_X6 23 rfl fl_X6_53 dX6_undone_45 ?_
        refine lv_iload_n (x := x3) hx hb dX6_undone_48 rfl (lh_at hl 4 rfl) ?_
        obtain ⟨a15, ea15, h⟩ := h
        obtain ⟨ha16, h⟩ := h
        refine r_iald E w ea15 ha16 dX6_undone_49 ?_
        refine lv_goto (tgt := 55) hx hb dX6_undone_50 (by decide) ?_
        exact r_iret E w hr hlk h (Nat.le_refl 0) (Nat.le_refl 0) dX6_undone_55
    · have h := h.2 c8
      refine r_aload_n (x := (some h0)) hx hb dX6_undone_26 rfl (lh_at hl 1 rfl) ?_
      refine lv_iconst (v := (3 : Int32)) hx hb dX6_undone_27 (by decide) ?_
      refine z_callVi E w rfl ho5 cl_X6 yk_X6_meets ⟨Nat.le_of_ble_eq_true rfl, Nat.le_of_ble_eq_true rfl⟩ ⟨(Nat.zero_le _), (Nat.zero_le _)⟩ rfl ml_X6_106 im_X6_meets sl_X6_meets [iv (3 : Int32)] rfl rfl hl [] rfl (Nat.le_of_ble_eq_true rfl) (K_X6_meets h) dX6_undone_28 (fun r18 M17 H locs h w => ?_)
      exact r_iret E w hr hlk h (Nat.le_refl 0) (Nat.le_refl 0) dX6_undone_31
  · have h := h.2 c4
    refine lv_iload (x := r3) hx hb dX6_undone_13 (lh_at hl 0 rfl) ?_
    exact r_iret E w hr hlk h (Nat.le_refl 0) (Nat.le_refl 0) dX6_undone_15
theorem K_X6_undone {l : Launch} {Q : Int32 → Mm → Prop} {h0 : Nat} {x1 : Int32} {x2 : Int32} {x3 : Int32} {M : Mm} (h : B_X6_undone_0 Q h0 x1 x2 x3 M) : KI l yX6_undone cdX6_undone (rmm 4 0 0) [rv (some h0), iv x1, iv x2, iv x3] M Q :=
  KI_of (by decide) rfl (Nat.le_of_ble_eq_true rfl) (fun p e s m args below meth c D cy A ls E hr hlk hn w hl => k_X6_undone_0 E hr hlk _ _ _ _ _ _ _ _ h w hl)
def B_X6_layOdds_236 (Q : Int32 → Mm → Prop)  : Nat → Nat → Int32 → Int32 → Int32 → Int32 → Mm → Prop
  | 0, _, _, _, _, _, _ => False
  | n + 1, h0, x5, x6, x7, x8, M => (((1700 : Int32) ≤ x8 → Q (1 : Int32) M) ∧ (¬ (1700 : Int32) ≤ x8 → (ok M h0 6 ∧ (∃ a3, (gR M h0 29) = some a3 ∧ (ar M a3 8 (((1700 : Int32) * x5) + x8) ∧ (∀ M5, M5 = pJ M h0 26 ((gJ M h0 26) + (gJ M a3 (Int32.toNatClampNeg (((1700 : Int32) * x5) + x8)))) → ((x7 = 0 → ((x8 < x6 → (∀ M8, M8 = pJ M5 h0 25 ((gJ M5 h0 25) + (0 : Int64)) → B_X6_layOdds_236 Q  n h0 x5 x6 x7 (x8 + 1) M8)) ∧ (¬ x8 < x6 → (∀ M9, M9 = pJ M5 h0 25 ((gJ M5 h0 25) + (gJ M a3 (Int32.toNatClampNeg (((1700 : Int32) * x5) + x8)))) → B_X6_layOdds_236 Q  n h0 x5 x6 x7 (x8 + 1) M9)))) ∧ (¬ x7 = 0 → ((x6 < x8 → (∀ M11, M11 = pJ M5 h0 25 ((gJ M5 h0 25) + (0 : Int64)) → B_X6_layOdds_236 Q  n h0 x5 x6 x7 (x8 + 1) M11)) ∧ (¬ x6 < x8 → (∀ M12, M12 = pJ M5 h0 25 ((gJ M5 h0 25) + (gJ M a3 (Int32.toNatClampNeg (((1700 : Int32) * x5) + x8)))) → B_X6_layOdds_236 Q  n h0 x5 x6 x7 (x8 + 1) M12)))))))))))
set_option maxHeartbeats 4000000 in
set_option maxRecDepth 100000 in
theorem k_X6_layOdds_236 {p : Program} {l : Launch} {e : Env} {s : State} {m : MethodId} {args : Array Value} {below : List Frame} {meth : Method} {c : Code} {D : va_G} {cy : Nat → ClassId} {A : Nat → Prop} {Q : Int32 → Mm → Prop} (E : Ex p m c cX6_layOdds 11 s args RX6 D cy A) (hr : meth.sig.returnType = (some .boolean)) (hlk : meth.locks = false) : ∀ (n : Nat), ∀ (h0 : Nat) (x5 : Int32) (x6 : Int32) (x7 : Int32) (x8 : Int32) (M : Mm) (H : Heap) (locs : List Loc) (ls : Array Slot), B_X6_layOdds_236 Q  n h0 x5 x6 x7 x8 M → Wd D cy A s M H locs → lh ls 11 [(0, rv (some h0)), (5, iv x5), (6, iv x6), (7, iv x7), (8, iv x8)] → W p l e (rmm 1 0 0) s m args below meth c H locs 0 0 (MQ below (va_Qi Q (Po D cy A) A) args s 0 0 A) (F0 m 236 ls []) := by
  obtain ⟨hx, hb, hml, hown, hts⟩ := E.1
  intro n
  induction n with
  | zero => intro h0 x5 x6 x7 x8 M H locs ls h; exact False.elim h
  | succ n ih =>
    intro h0 x5 x6 x7 x8 M H locs ls h w hl
    unfold B_X6_layOdds_236 at h
    refine lv_iload (x := x8) hx hb dX6_layOdds_236 (lh_at hl 4 rfl) ?_
    refine lv_sipush (v := (1700 : Int32)) hx hb dX6_layOdds_238 (by decide) ?_
    refine lv_icmp_ge (tgt := 320) hx hb dX6_layOdds_241 (by decide) (fun c1 => ?_) (fun c1 => ?_)
    · have h := h.1 c1
      refine lv_iconst (v := (1 : Int32)) hx hb dX6_layOdds_320 (by decide) ?_
      exact r_zret E w hr hlk ⟨Or.inr rfl, h⟩ (Nat.le_refl 0) (Nat.le_refl 0) dX6_layOdds_321
    · have h := h.2 c1
      refine r_aload_n (x := (some h0)) hx hb dX6_layOdds_244 rfl (lh_at hl 0 rfl) ?_
      obtain ⟨ho2, h⟩ := h
      refine r_getR E w rfl ho2 cl_X6 29 rfl fl_X6_60 dX6_layOdds_245 ?_
      refine lv_sipush (v := (1700 : Int32)) hx hb dX6_layOdds_248 (by decide) ?_
      refine lv_iload (x := x5) hx hb dX6_layOdds_251 (lh_at hl 1 rfl) ?_
      refine lv_imul hx hb dX6_layOdds_253 ?_
      refine lv_iload (x := x8) hx hb dX6_layOdds_254 (lh_at hl 4 rfl) ?_
      refine lv_iadd hx hb dX6_layOdds_256 ?_
      obtain ⟨a3, ea3, h⟩ := h
      obtain ⟨ha4, h⟩ := h
      refine r_lald E w ea3 ha4 dX6_layOdds_257 ?_
      refine r_lstore (lv' := [(9, jv (gJ M a3 (Int32.toNatClampNeg (((1700 : Int32) * x5) + x8)))), (0, rv (some h0)), (5, iv x5), (6, iv x6), (7, iv x7), (8, iv x8)]) hx hb dX6_layOdds_258 hl (by decide) rfl (fun ls hl => ?_)
      refine r_aload_n (x := (some h0)) hx hb dX6_layOdds_260 rfl (lh_at hl 1 rfl) ?_
      refine r_dupr hx hb dX6_layOdds_261 ?_
      refine r_getJ E w rfl ho2 cl_X6 26 rfl fl_X6_161 dX6_layOdds_262 ?_
      refine lv_lload (x := (gJ M a3 (Int32.toNatClampNeg (((1700 : Int32) * x5) + x8)))) hx hb dX6_layOdds_265 (lh_at hl 0 rfl) ?_
      refine lv_ladd hx hb dX6_layOdds_267 ?_
      refine r_putJ (v := ((gJ M h0 26) + (gJ M a3 (Int32.toNatClampNeg (((1700 : Int32) * x5) + x8))))) E w rfl ho2 cl_X6 26 rfl fl_X6_161 (Or.inl rfl) rfl dX6_layOdds_268 (fun H locs w => ?_)
      obtain ⟨M5, eM5⟩ : ∃ z, z = pJ M h0 26 ((gJ M h0 26) + (gJ M a3 (Int32.toNatClampNeg (((1700 : Int32) * x5) + x8)))) := ⟨_, rfl⟩
      rw [← eM5] at w
      have h := h M5 eM5
      refine r_aload_n (x := (some h0)) hx hb dX6_layOdds_271 rfl (lh_at hl 1 rfl) ?_
      refine r_dupr hx hb dX6_layOdds_272 ?_
      have ho2 : ok M5 h0 6 := by rw [eM5]; exact ho2
      refine r_getJ E w rfl ho2 cl_X6 25 rfl fl_X6_158 dX6_layOdds_273 ?_
      refine lv_iload (x := x7) hx hb dX6_layOdds_276 (lh_at hl 4 rfl) ?_
      refine lv_if_eq (tgt := 297) hx hb dX6_layOdds_278 (by decide) (fun c6 => ?_) (fun c6 => ?_)
      · have h := h.1 c6
        refine lv_iload (x := x8) hx hb dX6_layOdds_297 (lh_at hl 5 rfl) ?_
        refine lv_iload (x := x6) hx hb dX6_layOdds_299 (lh_at hl 3 rfl) ?_
        refine lv_icmp_lt (tgt := 309) hx hb dX6_layOdds_301 (by decide) (fun c7 => ?_) (fun c7 => ?_)
        · have h := h.1 c7
          refine lv_lconst (v := (0 : Int64)) hx hb dX6_layOdds_309 (by decide) ?_
          refine lv_ladd hx hb dX6_layOdds_310 ?_
          refine r_putJ (v := ((gJ M5 h0 25) + (0 : Int64))) E w rfl ho2 cl_X6 25 rfl fl_X6_158 (Or.inl rfl) rfl dX6_layOdds_311 (fun H locs w => ?_)
          obtain ⟨M8, eM8⟩ : ∃ z, z = pJ M5 h0 25 ((gJ M5 h0 25) + (0 : Int64)) := ⟨_, rfl⟩
          rw [← eM8] at w
          have h := h M8 eM8
          refine r_iinc (k := 5) (x := x8) (v := (x8 + 1)) (lv' := [(8, iv (x8 + 1)), (9, jv (gJ M a3 (Int32.toNatClampNeg (((1700 : Int32) * x5) + x8)))), (0, rv (some h0)), (5, iv x5), (6, iv x6), (7, iv x7)]) hx hb dX6_layOdds_314 hl rfl rfl (by decide) rfl (fun ls hl => ?_)
          refine lv_goto (tgt := 236) hx hb dX6_layOdds_317 (by decide) ?_
          exact ih _ _ _ _ _ _ _ _ _ h w (lh_sub hl [2, 3, 4, 5, 0] rfl)
        · have h := h.2 c7
          refine lv_lload (x := (gJ M a3 (Int32.toNatClampNeg (((1700 : Int32) * x5) + x8)))) hx hb dX6_layOdds_304 (lh_at hl 0 rfl) ?_
          refine lv_goto (tgt := 310) hx hb dX6_layOdds_306 (by decide) ?_
          refine lv_ladd hx hb dX6_layOdds_310 ?_
          refine r_putJ (v := ((gJ M5 h0 25) + (gJ M a3 (Int32.toNatClampNeg (((1700 : Int32) * x5) + x8))))) E w rfl ho2 cl_X6 25 rfl fl_X6_158 (Or.inl rfl) rfl dX6_layOdds_311 (fun H locs w => ?_)
          obtain ⟨M9, eM9⟩ : ∃ z, z = pJ M5 h0 25 ((gJ M5 h0 25) + (gJ M a3 (Int32.toNatClampNeg (((1700 : Int32) * x5) + x8)))) := ⟨_, rfl⟩
          rw [← eM9] at w
          have h := h M9 eM9
          refine r_iinc (k := 5) (x := x8) (v := (x8 + 1)) (lv' := [(8, iv (x8 + 1)), (9, jv (gJ M a3 (Int32.toNatClampNeg (((1700 : Int32) * x5) + x8)))), (0, rv (some h0)), (5, iv x5), (6, iv x6), (7, iv x7)]) hx hb dX6_layOdds_314 hl rfl rfl (by decide) rfl (fun ls hl => ?_)
          refine lv_goto (tgt := 236) hx hb dX6_layOdds_317 (by decide) ?_
          exact ih _ _ _ _ _ _ _ _ _ h w (lh_sub hl [2, 3, 4, 5, 0] rfl)
      · have h := h.2 c6
        refine lv_iload (x := x8) hx hb dX6_layOdds_281 (lh_at hl 5 rfl) ?_
        refine lv_iload (x := x6) hx hb dX6_layOdds_283 (lh_at hl 3 rfl) ?_
        refine lv_icmp_gt (tgt := 293) hx hb dX6_layOdds_285 (by decide) (fun c10 => ?_) (fun c10 => ?_)
        · have h := h.1 c10
          refine lv_lconst (v := (0 : Int64)) hx hb dX6_layOdds_293 (by decide) ?_
          refine lv_goto (tgt := 310) hx hb dX6_layOdds_294 (by decide) ?_
          refine lv_ladd hx hb dX6_layOdds_310 ?_
          refine r_putJ (v := ((gJ M5 h0 25) + (0 : Int64))) E w rfl ho2 cl_X6 25 rfl fl_X6_158 (Or.inl rfl) rfl dX6_layOdds_311 (fun H locs w => ?_)
          obtain ⟨M11, eM11⟩ : ∃ z, z = pJ M5 h0 25 ((gJ M5 h0 25) + (0 : Int64)) := ⟨_, rfl⟩
          rw [← eM11] at w
          have h := h M11 eM11
          refine r_iinc (k := 5) (x := x8) (v := (x8 + 1)) (lv' := [(8, iv (x8 + 1)), (9, jv (gJ M a3 (Int32.toNatClampNeg (((1700 : Int32) * x5) + x8)))), (0, rv (some h0)), (5, iv x5), (6, iv x6), (7, iv x7)]) hx hb dX6_layOdds_314 hl rfl rfl (by decide) rfl (fun ls hl => ?_)
          refine lv_goto (tgt := 236) hx hb dX6_layOdds_317 (by decide) ?_
          exact ih _ _ _ _ _ _ _ _ _ h w (lh_sub hl [2, 3, 4, 5, 0] rfl)
        · have h := h.2 c10
          refine lv_lload (x := (gJ M a3 (Int32.toNatClampNeg (((1700 : Int32) * x5) + x8)))) hx hb dX6_layOdds_288 (lh_at hl 0 rfl) ?_
          refine lv_goto (tgt := 310) hx hb dX6_layOdds_290 (by decide) ?_
          refine lv_ladd hx hb dX6_layOdds_310 ?_
          refine r_putJ (v := ((gJ M5 h0 25) + (gJ M a3 (Int32.toNatClampNeg (((1700 : Int32) * x5) + x8))))) E w rfl ho2 cl_X6 25 rfl fl_X6_158 (Or.inl rfl) rfl dX6_layOdds_311 (fun H locs w => ?_)
          obtain ⟨M12, eM12⟩ : ∃ z, z = pJ M5 h0 25 ((gJ M5 h0 25) + (gJ M a3 (Int32.toNatClampNeg (((1700 : Int32) * x5) + x8)))) := ⟨_, rfl⟩
          rw [← eM12] at w
          have h := h M12 eM12
          refine r_iinc (k := 5) (x := x8) (v := (x8 + 1)) (lv' := [(8, iv (x8 + 1)), (9, jv (gJ M a3 (Int32.toNatClampNeg (((1700 : Int32) * x5) + x8)))), (0, rv (some h0)), (5, iv x5), (6, iv x6), (7, iv x7)]) hx hb dX6_layOdds_314 hl rfl rfl (by decide) rfl (fun ls hl => ?_)
          refine lv_goto (tgt := 236) hx hb dX6_layOdds_317 (by decide) ?_
          exact ih _ _ _ _ _ _ _ _ _ h w (lh_sub hl [2, 3, 4, 5, 0] rfl)
def B_X6_layOdds_133 (Q : Int32 → Mm → Prop) (K113 : Nat → Int32 → Int32 → Int32 → Int32 → Int32 → Int32 → Mm → Prop) (K125 : Nat → Int32 → Int32 → Int32 → Int32 → Int32 → Int32 → Int32 → Mm → Prop) : Nat → Nat → Int32 → Int32 → Int32 → Int32 → Int32 → Int32 → Int32 → Int32 → Mm → Prop
  | 0, _, _, _, _, _, _, _, _, _, _ => False
  | n + 1, h0, x1, x2, x3, x5, x6, x7, x8, x9, M => (ok M h0 6 ∧ (∃ a2, (gR M h0 12) = some a2 ∧ (ar M a2 7 x7 ∧ (((1700 : Int32) ≤ (x9 + (gI M a2 (Int32.toNatClampNeg x7))) → K125 h0 x1 x2 x3 x5 x6 x7 (x8 + (-1)) M) ∧ (¬ (1700 : Int32) ≤ (x9 + (gI M a2 (Int32.toNatClampNeg x7))) → (ar M a2 7 x7 ∧ (∃ a6, (gR M h0 29) = some a6 ∧ (ar M a6 8 ((((1700 : Int32) * (x8 + (1 : Int32))) + x9) + (gI M a2 (Int32.toNatClampNeg x7))) ∧ (ar M a6 8 (((1700 : Int32) * x8) + x9) ∧ (ar M a6 8 ((((1700 : Int32) * (x8 + (1 : Int32))) + x9) + (gI M a2 (Int32.toNatClampNeg x7))) ∧ (∀ M10, M10 = pJ M a6 (Int32.toNatClampNeg ((((1700 : Int32) * (x8 + (1 : Int32))) + x9) + (gI M a2 (Int32.toNatClampNeg x7)))) ((gJ M a6 (Int32.toNatClampNeg ((((1700 : Int32) * (x8 + (1 : Int32))) + x9) + (gI M a2 (Int32.toNatClampNeg x7))))) + (gJ M a6 (Int32.toNatClampNeg (((1700 : Int32) * x8) + x9)))) → B_X6_layOdds_133 Q K113 K125 n h0 x1 x2 x3 x5 x6 x7 x8 (x9 + 1) M10)))))))))))
set_option maxHeartbeats 4000000 in
set_option maxRecDepth 100000 in
theorem k_X6_layOdds_133 {p : Program} {l : Launch} {e : Env} {s : State} {m : MethodId} {args : Array Value} {below : List Frame} {meth : Method} {c : Code} {D : va_G} {cy : Nat → ClassId} {A : Nat → Prop} {Q : Int32 → Mm → Prop} (E : Ex p m c cX6_layOdds 11 s args RX6 D cy A) (hr : meth.sig.returnType = (some .boolean)) (hlk : meth.locks = false) {K113 : Nat → Int32 → Int32 → Int32 → Int32 → Int32 → Int32 → Mm → Prop} (hK113 : ∀ (h0 : Nat) (x1 : Int32) (x2 : Int32) (x3 : Int32) (x5 : Int32) (x6 : Int32) (x7 : Int32) (M : Mm) (H : Heap) (locs : List Loc) (ls : Array Slot), K113 h0 x1 x2 x3 x5 x6 x7 M → Wd D cy A s M H locs → lh ls 11 [(0, rv (some h0)), (1, iv x1), (2, iv x2), (3, iv x3), (5, iv x5), (6, iv x6), (7, iv x7)] → W p l e (rmm 1 0 0) s m args below meth c H locs 0 0 (MQ below (va_Qi Q (Po D cy A) A) args s 0 0 A) (F0 m 113 ls [])) {K125 : Nat → Int32 → Int32 → Int32 → Int32 → Int32 → Int32 → Int32 → Mm → Prop} (hK125 : ∀ (h0 : Nat) (x1 : Int32) (x2 : Int32) (x3 : Int32) (x5 : Int32) (x6 : Int32) (x7 : Int32) (x8 : Int32) (M : Mm) (H : Heap) (locs : List Loc) (ls : Array Slot), K125 h0 x1 x2 x3 x5 x6 x7 x8 M → Wd D cy A s M H locs → lh ls 11 [(0, rv (some h0)), (1, iv x1), (2, iv x2), (3, iv x3), (5, iv x5), (6, iv x6), (7, iv x7), (8, iv x8)] → W p l e (rmm 1 0 0) s m args below meth c H locs 0 0 (MQ below (va_Qi Q (Po D cy A) A) args s 0 0 A) (F0 m 125 ls [])) : ∀ (n : Nat), ∀ (h0 : Nat) (x1 : Int32) (x2 : Int32) (x3 : Int32) (x5 : Int32) (x6 : Int32) (x7 : Int32) (x8 : Int32) (x9 : Int32) (M : Mm) (H : Heap) (locs : List Loc) (ls : Array Slot), B_X6_layOdds_133 Q K113 K125 n h0 x1 x2 x3 x5 x6 x7 x8 x9 M → Wd D cy A s M H locs → lh ls 11 [(0, rv (some h0)), (1, iv x1), (2, iv x2), (3, iv x3), (5, iv x5), (6, iv x6), (7, iv x7), (8, iv x8), (9, iv x9)] → W p l e (rmm 1 0 0) s m args below meth c H locs 0 0 (MQ below (va_Qi Q (Po D cy A) A) args s 0 0 A) (F0 m 133 ls []) := by
  obtain ⟨hx, hb, hml, hown, hts⟩ := E.1
  intro n
  induction n with
  | zero => intro h0 x1 x2 x3 x5 x6 x7 x8 x9 M H locs ls h; exact False.elim h
  | succ n ih =>
    intro h0 x1 x2 x3 x5 x6 x7 x8 x9 M H locs ls h w hl
    unfold B_X6_layOdds_133 at h
    refine lv_iload (x := x9) hx hb dX6_layOdds_133 (lh_at hl 8 rfl) ?_
    refine r_aload_n (x := (some h0)) hx hb dX6_layOdds_135 rfl (lh_at hl 0 rfl) ?_
    obtain ⟨ho1, h⟩ := h
    refine r_getR E w rfl ho1 cl_X6 12 rfl fl_X6_32 dX6_layOdds_136 ?_
    refine lv_iload (x := x7) hx hb dX6_layOdds_139 (lh_at hl 6 rfl) ?_
    obtain ⟨a2, ea2, h⟩ := h
    obtain ⟨ha3, h⟩ := h
    refine r_iald E w ea2 ha3 dX6_layOdds_141 ?_
    refine lv_iadd hx hb dX6_layOdds_142 ?_
    refine lv_sipush (v := (1700 : Int32)) hx hb dX6_layOdds_143 (by decide) ?_
    refine lv_icmp_ge (tgt := 196) hx hb dX6_layOdds_146 (by decide) (fun c4 => ?_) (fun c4 => ?_)
    · have h := h.1 c4
      refine r_iinc (k := 7) (x := x8) (v := (x8 + (-1))) (lv' := [(8, iv (x8 + (-1))), (0, rv (some h0)), (1, iv x1), (2, iv x2), (3, iv x3), (5, iv x5), (6, iv x6), (7, iv x7), (9, iv x9)]) hx hb dX6_layOdds_196 hl rfl rfl (by decide) rfl (fun ls hl => ?_)
      refine lv_goto (tgt := 125) hx hb dX6_layOdds_199 (by decide) ?_
      exact hK125 _ _ _ _ _ _ _ _ _ _ _ _ h w (lh_sub hl [1, 2, 3, 4, 5, 6, 7, 0] rfl)
    · have h := h.2 c4
      refine r_aload_n (x := (some h0)) hx hb dX6_layOdds_149 rfl (lh_at hl 0 rfl) ?_
      refine r_getR E w rfl ho1 cl_X6 29 rfl fl_X6_60 dX6_layOdds_150 ?_
      refine lv_sipush (v := (1700 : Int32)) hx hb dX6_layOdds_153 (by decide) ?_
      refine lv_iload (x := x8) hx hb dX6_layOdds_156 (lh_at hl 7 rfl) ?_
      refine lv_iconst (v := (1 : Int32)) hx hb dX6_layOdds_158 (by decide) ?_
      refine lv_iadd hx hb dX6_layOdds_159 ?_
      refine lv_imul hx hb dX6_layOdds_160 ?_
      refine lv_iload (x := x9) hx hb dX6_layOdds_161 (lh_at hl 8 rfl) ?_
      refine lv_iadd hx hb dX6_layOdds_163 ?_
      refine r_aload_n (x := (some h0)) hx hb dX6_layOdds_164 rfl (lh_at hl 0 rfl) ?_
      refine r_getR E w rfl ho1 cl_X6 12 rfl fl_X6_32 dX6_layOdds_165 ?_
      refine lv_iload (x := x7) hx hb dX6_layOdds_168 (lh_at hl 6 rfl) ?_
      obtain ⟨ha5, h⟩ := h
      refine r_iald E w ea2 ha5 dX6_layOdds_170 ?_
      refine lv_iadd hx hb dX6_layOdds_171 ?_
      refine r_dup2r hx hb dX6_layOdds_172 ?_
      obtain ⟨a6, ea6, h⟩ := h
      obtain ⟨ha7, h⟩ := h
      refine r_lald E w ea6 ha7 dX6_layOdds_173 ?_
      refine r_aload_n (x := (some h0)) hx hb dX6_layOdds_174 rfl (lh_at hl 0 rfl) ?_
      refine r_getR E w rfl ho1 cl_X6 29 rfl fl_X6_60 dX6_layOdds_175 ?_
      refine lv_sipush (v := (1700 : Int32)) hx hb dX6_layOdds_178 (by decide) ?_
      refine lv_iload (x := x8) hx hb dX6_layOdds_181 (lh_at hl 7 rfl) ?_
      refine lv_imul hx hb dX6_layOdds_183 ?_
      refine lv_iload (x := x9) hx hb dX6_layOdds_184 (lh_at hl 8 rfl) ?_
      refine lv_iadd hx hb dX6_layOdds_186 ?_
      obtain ⟨ha8, h⟩ := h
      refine r_lald E w ea6 ha8 dX6_layOdds_187 ?_
      refine lv_ladd hx hb dX6_layOdds_188 ?_
      obtain ⟨ha9, h⟩ := h
      refine r_last (v := ((gJ M a6 (Int32.toNatClampNeg ((((1700 : Int32) * (x8 + (1 : Int32))) + x9) + (gI M a2 (Int32.toNatClampNeg x7))))) + (gJ M a6 (Int32.toNatClampNeg (((1700 : Int32) * x8) + x9))))) E w ea6 ha9 dX6_layOdds_189 (fun H locs w => ?_)
      obtain ⟨M10, eM10⟩ : ∃ z, z = pJ M a6 (Int32.toNatClampNeg ((((1700 : Int32) * (x8 + (1 : Int32))) + x9) + (gI M a2 (Int32.toNatClampNeg x7)))) ((gJ M a6 (Int32.toNatClampNeg ((((1700 : Int32) * (x8 + (1 : Int32))) + x9) + (gI M a2 (Int32.toNatClampNeg x7))))) + (gJ M a6 (Int32.toNatClampNeg (((1700 : Int32) * x8) + x9)))) := ⟨_, rfl⟩
      rw [← eM10] at w
      have h := h M10 eM10
      refine r_iinc (k := 8) (x := x9) (v := (x9 + 1)) (lv' := [(9, iv (x9 + 1)), (0, rv (some h0)), (1, iv x1), (2, iv x2), (3, iv x3), (5, iv x5), (6, iv x6), (7, iv x7), (8, iv x8)]) hx hb dX6_layOdds_190 hl rfl rfl (by decide) rfl (fun ls hl => ?_)
      refine lv_goto (tgt := 133) hx hb dX6_layOdds_193 (by decide) ?_
      exact ih _ _ _ _ _ _ _ _ _ _ _ _ _ h w (lh_sub hl [1, 2, 3, 4, 5, 6, 7, 8, 0] rfl)
def B_X6_layOdds_125 (Q : Int32 → Mm → Prop) (K113 : Nat → Int32 → Int32 → Int32 → Int32 → Int32 → Int32 → Mm → Prop) : Nat → Nat → Int32 → Int32 → Int32 → Int32 → Int32 → Int32 → Int32 → Mm → Prop
  | 0, _, _, _, _, _, _, _, _, _ => False
  | n + 1, h0, x1, x2, x3, x5, x6, x7, x8, M => ((x8 < 0 → K113 h0 x1 x2 x3 x5 x6 (x7 + 1) M) ∧ (¬ x8 < 0 → (∃ n2, B_X6_layOdds_133 Q K113 (fun y0 y1 y2 y3 y4 y5 y6 y7 My => B_X6_layOdds_125 Q K113 n y0 y1 y2 y3 y4 y5 y6 y7 My) n2 h0 x1 x2 x3 x5 x6 x7 x8 (0 : Int32) M)))
set_option maxHeartbeats 4000000 in
set_option maxRecDepth 100000 in
theorem k_X6_layOdds_125 {p : Program} {l : Launch} {e : Env} {s : State} {m : MethodId} {args : Array Value} {below : List Frame} {meth : Method} {c : Code} {D : va_G} {cy : Nat → ClassId} {A : Nat → Prop} {Q : Int32 → Mm → Prop} (E : Ex p m c cX6_layOdds 11 s args RX6 D cy A) (hr : meth.sig.returnType = (some .boolean)) (hlk : meth.locks = false) {K113 : Nat → Int32 → Int32 → Int32 → Int32 → Int32 → Int32 → Mm → Prop} (hK113 : ∀ (h0 : Nat) (x1 : Int32) (x2 : Int32) (x3 : Int32) (x5 : Int32) (x6 : Int32) (x7 : Int32) (M : Mm) (H : Heap) (locs : List Loc) (ls : Array Slot), K113 h0 x1 x2 x3 x5 x6 x7 M → Wd D cy A s M H locs → lh ls 11 [(0, rv (some h0)), (1, iv x1), (2, iv x2), (3, iv x3), (5, iv x5), (6, iv x6), (7, iv x7)] → W p l e (rmm 1 0 0) s m args below meth c H locs 0 0 (MQ below (va_Qi Q (Po D cy A) A) args s 0 0 A) (F0 m 113 ls [])) : ∀ (n : Nat), ∀ (h0 : Nat) (x1 : Int32) (x2 : Int32) (x3 : Int32) (x5 : Int32) (x6 : Int32) (x7 : Int32) (x8 : Int32) (M : Mm) (H : Heap) (locs : List Loc) (ls : Array Slot), B_X6_layOdds_125 Q K113 n h0 x1 x2 x3 x5 x6 x7 x8 M → Wd D cy A s M H locs → lh ls 11 [(0, rv (some h0)), (1, iv x1), (2, iv x2), (3, iv x3), (5, iv x5), (6, iv x6), (7, iv x7), (8, iv x8)] → W p l e (rmm 1 0 0) s m args below meth c H locs 0 0 (MQ below (va_Qi Q (Po D cy A) A) args s 0 0 A) (F0 m 125 ls []) := by
  obtain ⟨hx, hb, hml, hown, hts⟩ := E.1
  intro n
  induction n with
  | zero => intro h0 x1 x2 x3 x5 x6 x7 x8 M H locs ls h; exact False.elim h
  | succ n ih =>
    intro h0 x1 x2 x3 x5 x6 x7 x8 M H locs ls h w hl
    unfold B_X6_layOdds_125 at h
    refine lv_iload (x := x8) hx hb dX6_layOdds_125 (lh_at hl 7 rfl) ?_
    refine lv_if_lt (tgt := 202) hx hb dX6_layOdds_127 (by decide) (fun c1 => ?_) (fun c1 => ?_)
    · have h := h.1 c1
      refine r_iinc (k := 6) (x := x7) (v := (x7 + 1)) (lv' := [(7, iv (x7 + 1)), (0, rv (some h0)), (1, iv x1), (2, iv x2), (3, iv x3), (5, iv x5), (6, iv x6), (8, iv x8)]) hx hb dX6_layOdds_202 hl rfl rfl (by decide) rfl (fun ls hl => ?_)
      refine lv_goto (tgt := 113) hx hb dX6_layOdds_205 (by decide) ?_
      exact hK113 _ _ _ _ _ _ _ _ _ _ _ h w (lh_sub hl [1, 2, 3, 4, 5, 6, 0] rfl)
    · have h := h.2 c1
      refine lv_iconst (v := (0 : Int32)) hx hb dX6_layOdds_130 (by decide) ?_
      refine r_istore (lv' := [(9, iv (0 : Int32)), (0, rv (some h0)), (1, iv x1), (2, iv x2), (3, iv x3), (5, iv x5), (6, iv x6), (7, iv x7), (8, iv x8)]) hx hb dX6_layOdds_131 hl (by decide) rfl (fun ls hl => ?_)
      obtain ⟨n2, h⟩ := h
      exact k_X6_layOdds_133 E hr hlk hK113 ih n2 _ _ _ _ _ _ _ _ _ _ _ _ _ h w (lh_sub hl [1, 2, 3, 4, 5, 6, 7, 8, 0] rfl)
def B_X6_layOdds_113 (Q : Int32 → Mm → Prop)  : Nat → Nat → Int32 → Int32 → Int32 → Int32 → Int32 → Int32 → Mm → Prop
  | 0, _, _, _, _, _, _, _, _ => False
  | n + 1, h0, x1, x2, x3, x5, x6, x7, M => ((x3 ≤ x7 → (ok M h0 6 ∧ (∀ M3, M3 = pJ M h0 25 (0 : Int64) → (∀ M4, M4 = pJ M3 h0 26 (0 : Int64) → (B_X6_sizeOf_0 (fun r6 M5 => ((0 ≤ r6 → (∃ n8, B_X6_layOdds_236 Q  n8 h0 x5 x6 (0 : Int32) (0 : Int32) M5)) ∧ (¬ 0 ≤ r6 → (∃ n9, B_X6_layOdds_236 Q  n9 h0 x5 x6 (1 : Int32) (0 : Int32) M5)))) h0 x1 M4))))) ∧ (¬ x3 ≤ x7 → (∃ n10, B_X6_layOdds_125 Q (fun y0 y1 y2 y3 y4 y5 y6 My => B_X6_layOdds_113 Q n y0 y1 y2 y3 y4 y5 y6 My) n10 h0 x1 x2 x3 x5 x6 x7 (x7 - x2) M)))
set_option maxHeartbeats 4000000 in
set_option maxRecDepth 100000 in
theorem k_X6_layOdds_113 {p : Program} {l : Launch} {e : Env} {s : State} {m : MethodId} {args : Array Value} {below : List Frame} {meth : Method} {c : Code} {D : va_G} {cy : Nat → ClassId} {A : Nat → Prop} {Q : Int32 → Mm → Prop} (E : Ex p m c cX6_layOdds 11 s args RX6 D cy A) (hr : meth.sig.returnType = (some .boolean)) (hlk : meth.locks = false) : ∀ (n : Nat), ∀ (h0 : Nat) (x1 : Int32) (x2 : Int32) (x3 : Int32) (x5 : Int32) (x6 : Int32) (x7 : Int32) (M : Mm) (H : Heap) (locs : List Loc) (ls : Array Slot), B_X6_layOdds_113 Q  n h0 x1 x2 x3 x5 x6 x7 M → Wd D cy A s M H locs → lh ls 11 [(0, rv (some h0)), (1, iv x1), (2, iv x2), (3, iv x3), (5, iv x5), (6, iv x6), (7, iv x7)] → W p l e (rmm 1 0 0) s m args below meth c H locs 0 0 (MQ below (va_Qi Q (Po D cy A) A) args s 0 0 A) (F0 m 113 ls []) := by
  obtain ⟨hx, hb, hml, hown, hts⟩ := E.1
  intro n
  induction n with
  | zero => intro h0 x1 x2 x3 x5 x6 x7 M H locs ls h; exact False.elim h
  | succ n ih =>
    intro h0 x1 x2 x3 x5 x6 x7 M H locs ls h w hl
    unfold B_X6_layOdds_113 at h
    refine lv_iload (x := x7) hx hb dX6_layOdds_113 (lh_at hl 6 rfl) ?_
    refine lv_iload_n (x := x3) hx hb dX6_layOdds_115 rfl (lh_at hl 3 rfl) ?_
    refine lv_icmp_ge (tgt := 208) hx hb dX6_layOdds_116 (by decide) (fun c1 => ?_) (fun c1 => ?_)
    · have h := h.1 c1
      refine r_aload_n (x := (some h0)) hx hb dX6_layOdds_208 rfl (lh_at hl 0 rfl) ?_
      refine lv_lconst (v := (0 : Int64)) hx hb dX6_layOdds_209 (by decide) ?_
      obtain ⟨ho2, h⟩ := h
      refine r_putJ (v := (0 : Int64)) E w rfl ho2 cl_X6 25 rfl fl_X6_158 (Or.inl rfl) rfl dX6_layOdds_210 (fun H locs w => ?_)
      obtain ⟨M3, eM3⟩ : ∃ z, z = pJ M h0 25 (0 : Int64) := ⟨_, rfl⟩
      rw [← eM3] at w
      have h := h M3 eM3
      refine r_aload_n (x := (some h0)) hx hb dX6_layOdds_213 rfl (lh_at hl 0 rfl) ?_
      refine lv_lconst (v := (0 : Int64)) hx hb dX6_layOdds_214 (by decide) ?_
      have ho2 : ok M3 h0 6 := by rw [eM3]; exact ho2
      refine r_putJ (v := (0 : Int64)) E w rfl ho2 cl_X6 26 rfl fl_X6_161 (Or.inl rfl) rfl dX6_layOdds_215 (fun H locs w => ?_)
      obtain ⟨M4, eM4⟩ : ∃ z, z = pJ M3 h0 26 (0 : Int64) := ⟨_, rfl⟩
      rw [← eM4] at w
      have h := h M4 eM4
      refine r_aload_n (x := (some h0)) hx hb dX6_layOdds_218 rfl (lh_at hl 0 rfl) ?_
      refine lv_iload_n (x := x1) hx hb dX6_layOdds_219 rfl (lh_at hl 1 rfl) ?_
      have ho2 : ok M4 h0 6 := by rw [eM4]; exact ho2
      refine z_callVi E w rfl ho2 cl_X6 yk_X6_sizeOf ⟨Nat.le_of_ble_eq_true rfl, Nat.le_of_ble_eq_true rfl⟩ ⟨(Nat.zero_le _), (Nat.zero_le _)⟩ rfl ml_X6_141 im_X6_sizeOf sl_X6_sizeOf [iv x1] rfl rfl hl [] rfl (Nat.le_of_ble_eq_true rfl) (K_X6_sizeOf h) dX6_layOdds_220 (fun r6 M5 H locs h w => ?_)
      refine lv_if_ge (tgt := 230) hx hb dX6_layOdds_223 (by decide) (fun c7 => ?_) (fun c7 => ?_)
      · have h := h.1 c7
        refine lv_iconst (v := (0 : Int32)) hx hb dX6_layOdds_230 (by decide) ?_
        refine r_istore (lv' := [(7, iv (0 : Int32)), (0, rv (some h0)), (1, iv x1), (2, iv x2), (3, iv x3), (5, iv x5), (6, iv x6)]) hx hb dX6_layOdds_231 hl (by decide) rfl (fun ls hl => ?_)
        refine lv_iconst (v := (0 : Int32)) hx hb dX6_layOdds_233 (by decide) ?_
        refine r_istore (lv' := [(8, iv (0 : Int32)), (7, iv (0 : Int32)), (0, rv (some h0)), (1, iv x1), (2, iv x2), (3, iv x3), (5, iv x5), (6, iv x6)]) hx hb dX6_layOdds_234 hl (by decide) rfl (fun ls hl => ?_)
        obtain ⟨n8, h⟩ := h
        exact k_X6_layOdds_236 E hr hlk  n8 _ _ _ _ _ _ _ _ _ h w (lh_sub hl [2, 6, 7, 1, 0] rfl)
      · have h := h.2 c7
        refine lv_iconst (v := (1 : Int32)) hx hb dX6_layOdds_226 (by decide) ?_
        refine lv_goto (tgt := 231) hx hb dX6_layOdds_227 (by decide) ?_
        refine r_istore (lv' := [(7, iv (1 : Int32)), (0, rv (some h0)), (1, iv x1), (2, iv x2), (3, iv x3), (5, iv x5), (6, iv x6)]) hx hb dX6_layOdds_231 hl (by decide) rfl (fun ls hl => ?_)
        refine lv_iconst (v := (0 : Int32)) hx hb dX6_layOdds_233 (by decide) ?_
        refine r_istore (lv' := [(8, iv (0 : Int32)), (7, iv (1 : Int32)), (0, rv (some h0)), (1, iv x1), (2, iv x2), (3, iv x3), (5, iv x5), (6, iv x6)]) hx hb dX6_layOdds_234 hl (by decide) rfl (fun ls hl => ?_)
        obtain ⟨n9, h⟩ := h
        exact k_X6_layOdds_236 E hr hlk  n9 _ _ _ _ _ _ _ _ _ h w (lh_sub hl [2, 6, 7, 1, 0] rfl)
    · have h := h.2 c1
      refine lv_iload (x := x7) hx hb dX6_layOdds_119 (lh_at hl 6 rfl) ?_
      refine lv_iload_n (x := x2) hx hb dX6_layOdds_121 rfl (lh_at hl 2 rfl) ?_
      refine lv_isub hx hb dX6_layOdds_122 ?_
      refine r_istore (lv' := [(8, iv (x7 - x2)), (0, rv (some h0)), (1, iv x1), (2, iv x2), (3, iv x3), (5, iv x5), (6, iv x6), (7, iv x7)]) hx hb dX6_layOdds_123 hl (by decide) rfl (fun ls hl => ?_)
      obtain ⟨n10, h⟩ := h
      exact k_X6_layOdds_125 E hr hlk ih n10 _ _ _ _ _ _ _ _ _ _ _ _ h w (lh_sub hl [1, 2, 3, 4, 5, 6, 7, 0] rfl)
def B_X6_layOdds_82 (Q : Int32 → Mm → Prop)  : Nat → Nat → Int32 → Int32 → Int32 → Int32 → Int32 → Int32 → Mm → Prop
  | 0, _, _, _, _, _, _, _, _ => False
  | n + 1, h0, x1, x2, x3, x5, x6, x7, M => (((35700 : Int32) ≤ x7 → (ok M h0 6 ∧ (∃ a3, (gR M h0 29) = some a3 ∧ (ar M a3 8 (0 : Int32) ∧ (∀ M5, M5 = pJ M a3 (Int32.toNatClampNeg (0 : Int32)) (1 : Int64) → (∃ n6, B_X6_layOdds_113 Q  n6 h0 x1 x2 x3 x5 x6 x2 M5)))))) ∧ (¬ (35700 : Int32) ≤ x7 → (ok M h0 6 ∧ (∃ a8, (gR M h0 29) = some a8 ∧ (ar M a8 8 x7 ∧ (∀ M10, M10 = pJ M a8 (Int32.toNatClampNeg x7) (0 : Int64) → B_X6_layOdds_82 Q  n h0 x1 x2 x3 x5 x6 (x7 + 1) M10))))))
set_option maxHeartbeats 4000000 in
set_option maxRecDepth 100000 in
theorem k_X6_layOdds_82 {p : Program} {l : Launch} {e : Env} {s : State} {m : MethodId} {args : Array Value} {below : List Frame} {meth : Method} {c : Code} {D : va_G} {cy : Nat → ClassId} {A : Nat → Prop} {Q : Int32 → Mm → Prop} (E : Ex p m c cX6_layOdds 11 s args RX6 D cy A) (hr : meth.sig.returnType = (some .boolean)) (hlk : meth.locks = false) : ∀ (n : Nat), ∀ (h0 : Nat) (x1 : Int32) (x2 : Int32) (x3 : Int32) (x5 : Int32) (x6 : Int32) (x7 : Int32) (M : Mm) (H : Heap) (locs : List Loc) (ls : Array Slot), B_X6_layOdds_82 Q  n h0 x1 x2 x3 x5 x6 x7 M → Wd D cy A s M H locs → lh ls 11 [(0, rv (some h0)), (1, iv x1), (2, iv x2), (3, iv x3), (5, iv x5), (6, iv x6), (7, iv x7)] → W p l e (rmm 1 0 0) s m args below meth c H locs 0 0 (MQ below (va_Qi Q (Po D cy A) A) args s 0 0 A) (F0 m 82 ls []) := by
  obtain ⟨hx, hb, hml, hown, hts⟩ := E.1
  intro n
  induction n with
  | zero => intro h0 x1 x2 x3 x5 x6 x7 M H locs ls h; exact False.elim h
  | succ n ih =>
    intro h0 x1 x2 x3 x5 x6 x7 M H locs ls h w hl
    unfold B_X6_layOdds_82 at h
    refine lv_iload (x := x7) hx hb dX6_layOdds_82 (lh_at hl 6 rfl) ?_
    refine lv_ldc (v := (35700 : Int32)) hx hb hown (hts _ kc_X6_59) dX6_layOdds_84 ?_
    refine lv_icmp_ge (tgt := 103) hx hb dX6_layOdds_86 (by decide) (fun c1 => ?_) (fun c1 => ?_)
    · have h := h.1 c1
      refine r_aload_n (x := (some h0)) hx hb dX6_layOdds_103 rfl (lh_at hl 0 rfl) ?_
      obtain ⟨ho2, h⟩ := h
      refine r_getR E w rfl ho2 cl_X6 29 rfl fl_X6_60 dX6_layOdds_104 ?_
      refine lv_iconst (v := (0 : Int32)) hx hb dX6_layOdds_107 (by decide) ?_
      refine lv_lconst (v := (1 : Int64)) hx hb dX6_layOdds_108 (by decide) ?_
      obtain ⟨a3, ea3, h⟩ := h
      obtain ⟨ha4, h⟩ := h
      refine r_last (v := (1 : Int64)) E w ea3 ha4 dX6_layOdds_109 (fun H locs w => ?_)
      obtain ⟨M5, eM5⟩ : ∃ z, z = pJ M a3 (Int32.toNatClampNeg (0 : Int32)) (1 : Int64) := ⟨_, rfl⟩
      rw [← eM5] at w
      have h := h M5 eM5
      refine lv_iload_n (x := x2) hx hb dX6_layOdds_110 rfl (lh_at hl 2 rfl) ?_
      refine r_istore (lv' := [(7, iv x2), (0, rv (some h0)), (1, iv x1), (2, iv x2), (3, iv x3), (5, iv x5), (6, iv x6)]) hx hb dX6_layOdds_111 hl (by decide) rfl (fun ls hl => ?_)
      obtain ⟨n6, h⟩ := h
      exact k_X6_layOdds_113 E hr hlk  n6 _ _ _ _ _ _ _ _ _ _ _ h w (lh_sub hl [1, 2, 3, 4, 5, 6, 0] rfl)
    · have h := h.2 c1
      refine r_aload_n (x := (some h0)) hx hb dX6_layOdds_89 rfl (lh_at hl 0 rfl) ?_
      obtain ⟨ho7, h⟩ := h
      refine r_getR E w rfl ho7 cl_X6 29 rfl fl_X6_60 dX6_layOdds_90 ?_
      refine lv_iload (x := x7) hx hb dX6_layOdds_93 (lh_at hl 6 rfl) ?_
      refine lv_lconst (v := (0 : Int64)) hx hb dX6_layOdds_95 (by decide) ?_
      obtain ⟨a8, ea8, h⟩ := h
      obtain ⟨ha9, h⟩ := h
      refine r_last (v := (0 : Int64)) E w ea8 ha9 dX6_layOdds_96 (fun H locs w => ?_)
      obtain ⟨M10, eM10⟩ : ∃ z, z = pJ M a8 (Int32.toNatClampNeg x7) (0 : Int64) := ⟨_, rfl⟩
      rw [← eM10] at w
      have h := h M10 eM10
      refine r_iinc (k := 6) (x := x7) (v := (x7 + 1)) (lv' := [(7, iv (x7 + 1)), (0, rv (some h0)), (1, iv x1), (2, iv x2), (3, iv x3), (5, iv x5), (6, iv x6)]) hx hb dX6_layOdds_97 hl rfl rfl (by decide) rfl (fun ls hl => ?_)
      refine lv_goto (tgt := 82) hx hb dX6_layOdds_100 (by decide) ?_
      exact ih _ _ _ _ _ _ _ _ _ _ _ h w (lh_sub hl [1, 2, 3, 4, 5, 6, 0] rfl)
def B_X6_layOdds_55 (Q : Int32 → Mm → Prop)  : Nat → Nat → Int32 → Int32 → Int32 → Int32 → Int32 → Int32 → Mm → Prop
  | 0, _, _, _, _, _, _, _, _ => False
  | n + 1, h0, x1, x2, x3, x5, x6, x7, M => ((x3 ≤ x7 → (∃ n2, B_X6_layOdds_82 Q  n2 h0 x1 x2 x3 x5 x6 (0 : Int32) M)) ∧ (¬ x3 ≤ x7 → (ok M h0 6 ∧ (∃ a4, (gR M h0 12) = some a4 ∧ (ar M a4 7 x7 ∧ B_X6_layOdds_55 Q  n h0 x1 x2 x3 x5 (x6 + (gI M a4 (Int32.toNatClampNeg x7))) (x7 + 1) M)))))
set_option maxHeartbeats 4000000 in
set_option maxRecDepth 100000 in
theorem k_X6_layOdds_55 {p : Program} {l : Launch} {e : Env} {s : State} {m : MethodId} {args : Array Value} {below : List Frame} {meth : Method} {c : Code} {D : va_G} {cy : Nat → ClassId} {A : Nat → Prop} {Q : Int32 → Mm → Prop} (E : Ex p m c cX6_layOdds 11 s args RX6 D cy A) (hr : meth.sig.returnType = (some .boolean)) (hlk : meth.locks = false) : ∀ (n : Nat), ∀ (h0 : Nat) (x1 : Int32) (x2 : Int32) (x3 : Int32) (x5 : Int32) (x6 : Int32) (x7 : Int32) (M : Mm) (H : Heap) (locs : List Loc) (ls : Array Slot), B_X6_layOdds_55 Q  n h0 x1 x2 x3 x5 x6 x7 M → Wd D cy A s M H locs → lh ls 11 [(0, rv (some h0)), (1, iv x1), (2, iv x2), (3, iv x3), (5, iv x5), (6, iv x6), (7, iv x7)] → W p l e (rmm 1 0 0) s m args below meth c H locs 0 0 (MQ below (va_Qi Q (Po D cy A) A) args s 0 0 A) (F0 m 55 ls []) := by
  obtain ⟨hx, hb, hml, hown, hts⟩ := E.1
  intro n
  induction n with
  | zero => intro h0 x1 x2 x3 x5 x6 x7 M H locs ls h; exact False.elim h
  | succ n ih =>
    intro h0 x1 x2 x3 x5 x6 x7 M H locs ls h w hl
    unfold B_X6_layOdds_55 at h
    refine lv_iload (x := x7) hx hb dX6_layOdds_55 (lh_at hl 6 rfl) ?_
    refine lv_iload_n (x := x3) hx hb dX6_layOdds_57 rfl (lh_at hl 3 rfl) ?_
    refine lv_icmp_ge (tgt := 79) hx hb dX6_layOdds_58 (by decide) (fun c1 => ?_) (fun c1 => ?_)
    · have h := h.1 c1
      refine lv_iconst (v := (0 : Int32)) hx hb dX6_layOdds_79 (by decide) ?_
      refine r_istore (lv' := [(7, iv (0 : Int32)), (0, rv (some h0)), (1, iv x1), (2, iv x2), (3, iv x3), (5, iv x5), (6, iv x6)]) hx hb dX6_layOdds_80 hl (by decide) rfl (fun ls hl => ?_)
      obtain ⟨n2, h⟩ := h
      exact k_X6_layOdds_82 E hr hlk  n2 _ _ _ _ _ _ _ _ _ _ _ h w (lh_sub hl [1, 2, 3, 4, 5, 6, 0] rfl)
    · have h := h.2 c1
      refine lv_iload (x := x6) hx hb dX6_layOdds_61 (lh_at hl 5 rfl) ?_
      refine r_aload_n (x := (some h0)) hx hb dX6_layOdds_63 rfl (lh_at hl 0 rfl) ?_
      obtain ⟨ho3, h⟩ := h
      refine r_getR E w rfl ho3 cl_X6 12 rfl fl_X6_32 dX6_layOdds_64 ?_
      refine lv_iload (x := x7) hx hb dX6_layOdds_67 (lh_at hl 6 rfl) ?_
      obtain ⟨a4, ea4, h⟩ := h
      obtain ⟨ha5, h⟩ := h
      refine r_iald E w ea4 ha5 dX6_layOdds_69 ?_
      refine lv_iadd hx hb dX6_layOdds_70 ?_
      refine r_istore (lv' := [(6, iv (x6 + (gI M a4 (Int32.toNatClampNeg x7)))), (0, rv (some h0)), (1, iv x1), (2, iv x2), (3, iv x3), (5, iv x5), (7, iv x7)]) hx hb dX6_layOdds_71 hl (by decide) rfl (fun ls hl => ?_)
      refine r_iinc (k := 6) (x := x7) (v := (x7 + 1)) (lv' := [(7, iv (x7 + 1)), (6, iv (x6 + (gI M a4 (Int32.toNatClampNeg x7)))), (0, rv (some h0)), (1, iv x1), (2, iv x2), (3, iv x3), (5, iv x5)]) hx hb dX6_layOdds_73 hl rfl rfl (by decide) rfl (fun ls hl => ?_)
      refine lv_goto (tgt := 55) hx hb dX6_layOdds_76 (by decide) ?_
      exact ih _ _ _ _ _ _ _ _ _ _ _ h w (lh_sub hl [2, 3, 4, 5, 6, 1, 0] rfl)
def B_X6_layOdds_0 (Q : Int32 → Mm → Prop)  (h0 : Nat) (x1 : Int32) (M : Mm) : Prop := (ok M h0 6 ∧ (∃ a2, (gR M h0 19) = some a2 ∧ (ar M a2 7 x1 ∧ (ar M a2 7 (x1 + (2 : Int32)) ∧ ((((gI M a2 (Int32.toNatClampNeg (x1 + (2 : Int32)))) - (gI M a2 (Int32.toNatClampNeg x1))) ≤ (20 : Int32) → (ar M a2 7 (x1 + (1 : Int32)) ∧ (ar M a2 7 (x1 + (1 : Int32)) ∧ (∃ n8, B_X6_layOdds_55 Q  n8 h0 x1 (gI M a2 (Int32.toNatClampNeg x1)) (gI M a2 (Int32.toNatClampNeg (x1 + (2 : Int32)))) ((gI M a2 (Int32.toNatClampNeg (x1 + (2 : Int32)))) - (gI M a2 (Int32.toNatClampNeg (x1 + (1 : Int32))))) (0 : Int32) (gI M a2 (Int32.toNatClampNeg (x1 + (1 : Int32)))) M)))) ∧ (¬ ((gI M a2 (Int32.toNatClampNeg (x1 + (2 : Int32)))) - (gI M a2 (Int32.toNatClampNeg x1))) ≤ (20 : Int32) → Q (0 : Int32) M))))))
set_option maxHeartbeats 4000000 in
set_option maxRecDepth 100000 in
theorem k_X6_layOdds_0 {p : Program} {l : Launch} {e : Env} {s : State} {m : MethodId} {args : Array Value} {below : List Frame} {meth : Method} {c : Code} {D : va_G} {cy : Nat → ClassId} {A : Nat → Prop} {Q : Int32 → Mm → Prop} (E : Ex p m c cX6_layOdds 11 s args RX6 D cy A) (hr : meth.sig.returnType = (some .boolean)) (hlk : meth.locks = false) : ∀ (h0 : Nat) (x1 : Int32) (M : Mm) (H : Heap) (locs : List Loc) (ls : Array Slot), B_X6_layOdds_0 Q  h0 x1 M → Wd D cy A s M H locs → lh ls 11 [(0, rv (some h0)), (1, iv x1)] → W p l e (rmm 1 0 0) s m args below meth c H locs 0 0 (MQ below (va_Qi Q (Po D cy A) A) args s 0 0 A) (F0 m 0 ls []) := by
  obtain ⟨hx, hb, hml, hown, hts⟩ := E.1
  intro h0 x1 M H locs ls h w hl
  unfold B_X6_layOdds_0 at h
  refine r_aload_n (x := (some h0)) hx hb dX6_layOdds_0 rfl (lh_at hl 0 rfl) ?_
  obtain ⟨ho1, h⟩ := h
  refine r_getR E w rfl ho1 cl_X6 19 rfl fl_X6_44 dX6_layOdds_1 ?_
  refine lv_iload_n (x := x1) hx hb dX6_layOdds_4 rfl (lh_at hl 1 rfl) ?_
  obtain ⟨a2, ea2, h⟩ := h
  obtain ⟨ha3, h⟩ := h
  refine r_iald E w ea2 ha3 dX6_layOdds_5 ?_
  refine r_istore_n (lv' := [(2, iv (gI M a2 (Int32.toNatClampNeg x1))), (0, rv (some h0)), (1, iv x1)]) hx hb dX6_layOdds_6 rfl hl (by decide) rfl (fun ls hl => ?_)
  refine r_aload_n (x := (some h0)) hx hb dX6_layOdds_7 rfl (lh_at hl 1 rfl) ?_
  refine r_getR E w rfl ho1 cl_X6 19 rfl fl_X6_44 dX6_layOdds_8 ?_
  refine lv_iload_n (x := x1) hx hb dX6_layOdds_11 rfl (lh_at hl 2 rfl) ?_
  refine lv_iconst (v := (2 : Int32)) hx hb dX6_layOdds_12 (by decide) ?_
  refine lv_iadd hx hb dX6_layOdds_13 ?_
  obtain ⟨ha4, h⟩ := h
  refine r_iald E w ea2 ha4 dX6_layOdds_14 ?_
  refine r_istore_n (lv' := [(3, iv (gI M a2 (Int32.toNatClampNeg (x1 + (2 : Int32))))), (2, iv (gI M a2 (Int32.toNatClampNeg x1))), (0, rv (some h0)), (1, iv x1)]) hx hb dX6_layOdds_15 rfl hl (by decide) rfl (fun ls hl => ?_)
  refine lv_iload_n (x := (gI M a2 (Int32.toNatClampNeg (x1 + (2 : Int32))))) hx hb dX6_layOdds_16 rfl (lh_at hl 0 rfl) ?_
  refine lv_iload_n (x := (gI M a2 (Int32.toNatClampNeg x1))) hx hb dX6_layOdds_17 rfl (lh_at hl 1 rfl) ?_
  refine lv_isub hx hb dX6_layOdds_18 ?_
  refine r_istore (lv' := [(4, iv ((gI M a2 (Int32.toNatClampNeg (x1 + (2 : Int32)))) - (gI M a2 (Int32.toNatClampNeg x1)))), (3, iv (gI M a2 (Int32.toNatClampNeg (x1 + (2 : Int32))))), (2, iv (gI M a2 (Int32.toNatClampNeg x1))), (0, rv (some h0)), (1, iv x1)]) hx hb dX6_layOdds_19 hl (by decide) rfl (fun ls hl => ?_)
  refine lv_iload (x := ((gI M a2 (Int32.toNatClampNeg (x1 + (2 : Int32)))) - (gI M a2 (Int32.toNatClampNeg x1)))) hx hb dX6_layOdds_21 (lh_at hl 0 rfl) ?_
  refine lv_bipush (v := (20 : Int32)) hx hb dX6_layOdds_23 (by decide) ?_
  refine lv_icmp_le (tgt := 30) hx hb dX6_layOdds_25 (by decide) (fun c5 => ?_) (fun c5 => ?_)
  · have h := h.1 c5
    refine lv_iload_n (x := (gI M a2 (Int32.toNatClampNeg (x1 + (2 : Int32))))) hx hb dX6_layOdds_30 rfl (lh_at hl 1 rfl) ?_
    refine r_aload_n (x := (some h0)) hx hb dX6_layOdds_31 rfl (lh_at hl 3 rfl) ?_
    refine r_getR E w rfl ho1 cl_X6 19 rfl fl_X6_44 dX6_layOdds_32 ?_
    refine lv_iload_n (x := x1) hx hb dX6_layOdds_35 rfl (lh_at hl 4 rfl) ?_
    refine lv_iconst (v := (1 : Int32)) hx hb dX6_layOdds_36 (by decide) ?_
    refine lv_iadd hx hb dX6_layOdds_37 ?_
    obtain ⟨ha6, h⟩ := h
    refine r_iald E w ea2 ha6 dX6_layOdds_38 ?_
    refine lv_isub hx hb dX6_layOdds_39 ?_
    refine r_istore (lv' := [(5, iv ((gI M a2 (Int32.toNatClampNeg (x1 + (2 : Int32)))) - (gI M a2 (Int32.toNatClampNeg (x1 + (1 : Int32)))))), (4, iv ((gI M a2 (Int32.toNatClampNeg (x1 + (2 : Int32)))) - (gI M a2 (Int32.toNatClampNeg x1)))), (3, iv (gI M a2 (Int32.toNatClampNeg (x1 + (2 : Int32))))), (2, iv (gI M a2 (Int32.toNatClampNeg x1))), (0, rv (some h0)), (1, iv x1)]) hx hb dX6_layOdds_40 hl (by decide) rfl (fun ls hl => ?_)
    refine lv_iconst (v := (0 : Int32)) hx hb dX6_layOdds_42 (by decide) ?_
    refine r_istore (lv' := [(6, iv (0 : Int32)), (5, iv ((gI M a2 (Int32.toNatClampNeg (x1 + (2 : Int32)))) - (gI M a2 (Int32.toNatClampNeg (x1 + (1 : Int32)))))), (4, iv ((gI M a2 (Int32.toNatClampNeg (x1 + (2 : Int32)))) - (gI M a2 (Int32.toNatClampNeg x1)))), (3, iv (gI M a2 (Int32.toNatClampNeg (x1 + (2 : Int32))))), (2, iv (gI M a2 (Int32.toNatClampNeg x1))), (0, rv (some h0)), (1, iv x1)]) hx hb dX6_layOdds_43 hl (by decide) rfl (fun ls hl => ?_)
    refine r_aload_n (x := (some h0)) hx hb dX6_layOdds_45 rfl (lh_at hl 5 rfl) ?_
    refine r_getR E w rfl ho1 cl_X6 19 rfl fl_X6_44 dX6_layOdds_46 ?_
    refine lv_iload_n (x := x1) hx hb dX6_layOdds_49 rfl (lh_at hl 6 rfl) ?_
    refine lv_iconst (v := (1 : Int32)) hx hb dX6_layOdds_50 (by decide) ?_
    refine lv_iadd hx hb dX6_layOdds_51 ?_
    obtain ⟨ha7, h⟩ := h
    refine r_iald E w ea2 ha7 dX6_layOdds_52 ?_
    refine r_istore (lv' := [(7, iv (gI M a2 (Int32.toNatClampNeg (x1 + (1 : Int32))))), (6, iv (0 : Int32)), (5, iv ((gI M a2 (Int32.toNatClampNeg (x1 + (2 : Int32)))) - (gI M a2 (Int32.toNatClampNeg (x1 + (1 : Int32)))))), (4, iv ((gI M a2 (Int32.toNatClampNeg (x1 + (2 : Int32)))) - (gI M a2 (Int32.toNatClampNeg x1)))), (3, iv (gI M a2 (Int32.toNatClampNeg (x1 + (2 : Int32))))), (2, iv (gI M a2 (Int32.toNatClampNeg x1))), (0, rv (some h0)), (1, iv x1)]) hx hb dX6_layOdds_53 hl (by decide) rfl (fun ls hl => ?_)
    obtain ⟨n8, h⟩ := h
    exact k_X6_layOdds_55 E hr hlk  n8 _ _ _ _ _ _ _ _ _ _ _ h w (lh_sub hl [6, 7, 5, 4, 2, 1, 0] rfl)
  · have h := h.2 c5
    refine lv_iconst (v := (0 : Int32)) hx hb dX6_layOdds_28 (by decide) ?_
    exact r_zret E w hr hlk ⟨Or.inl rfl, h⟩ (Nat.le_refl 0) (Nat.le_refl 0) dX6_layOdds_29
theorem K_X6_layOdds {l : Launch} {Q : Int32 → Mm → Prop} {h0 : Nat} {x1 : Int32} {M : Mm} (h : B_X6_layOdds_0 Q h0 x1 M) : KI l yX6_layOdds cdX6_layOdds (rmm 1 0 0) [rv (some h0), iv x1] M Q :=
  KI_of (by decide) rfl (Nat.le_of_ble_eq_true rfl) (fun p e s m args below meth c D cy A ls E hr hlk hn w hl => k_X6_layOdds_0 E hr hlk _ _ _ _ _ _ h w hl)
