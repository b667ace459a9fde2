def B_X5_price_0 (Q : Int32 → Mm → Prop)  (h0 : Nat) (x1 : Int32) (M : Mm) : Prop := (B_X5_isWithin_0 (fun r2 M1 => ((¬ r2 = 0 → (ok M1 h0 5 ∧ (∀ M5, M5 = pI M1 h0 8 x1 → Q (gI M1 h0 8) M5))) ∧ (r2 = 0 → Q (-1 : Int32) M1))) x1 (1000 : Int32) M)
set_option maxHeartbeats 4000000 in
set_option maxRecDepth 100000 in
theorem k_X5_price_0 {p : Program} {l : Launch} {e : Env} {s : State} {m : MethodId} {args : Array Value} {below : List Frame} {meth : Method} {c : Code} {D : va_G} {cy : Nat → ClassId} {A : Nat → Prop} {Q : Int32 → Mm → Prop} (E : Ex p m c cX5_price 3 s args RX5 D cy A) (hr : meth.sig.returnType = (some .int)) (hlk : meth.locks = false) : ∀ (h0 : Nat) (x1 : Int32) (M : Mm) (H : Heap) (locs : List Loc) (ls : Array Slot), B_X5_price_0 Q  h0 x1 M → Wd D cy A s M H locs → lh ls 3 [(0, rv (some h0)), (1, iv x1)] → W p l e (rmm 1 0 0) s m args below meth c H locs 0 0 (MQ below (va_Qi Q (Po D cy A) A) args s 0 0 A) (F0 m 0 ls []) := by
  obtain ⟨hx, hb, hml, hown, hts⟩ := E.1
  intro h0 x1 M H locs ls h w hl
  unfold B_X5_price_0 at h
  refine lv_iload_n (x := x1) hx hb dX5_price_0 rfl (lh_at hl 1 rfl) ?_
  refine lv_sipush (v := (1000 : Int32)) hx hb dX5_price_1 (by decide) ?_
  refine z_callSi E w yk_X5_isWithin ⟨Nat.le_of_ble_eq_true rfl, Nat.le_of_ble_eq_true rfl⟩ ⟨(Nat.zero_le _), (Nat.zero_le _)⟩ rfl ml_X5_81 st_X5_isWithin [iv x1, iv (1000 : Int32)] rfl rfl hl [] rfl (Nat.le_of_ble_eq_true rfl) (K_X5_isWithin h) dX5_price_4 (fun r2 M1 H locs h w => ?_)
  refine lv_if_ne (tgt := 12) hx hb dX5_price_7 (by decide) (fun c3 => ?_) (fun c3 => ?_)
  · have h := h.1 c3
    refine r_aload_n (x := (some h0)) hx hb dX5_price_12 rfl (lh_at hl 0 rfl) ?_
    obtain ⟨ho4, h⟩ := h
    refine r_getI E w rfl ho4 cl_X5 8 rfl fl_X5_36 dX5_price_13 ?_
    refine r_istore_n (lv' := [(2, iv (gI M1 h0 8)), (0, rv (some h0)), (1, iv x1)]) hx hb dX5_price_16 rfl hl (by decide) rfl (fun ls hl => ?_)
    refine r_aload_n (x := (some h0)) hx hb dX5_price_17 rfl (lh_at hl 1 rfl) ?_
    refine lv_iload_n (x := x1) hx hb dX5_price_18 rfl (lh_at hl 2 rfl) ?_
    refine r_putI (v := x1) E w rfl ho4 cl_X5 8 rfl fl_X5_36 (Or.inl rfl) (Or.inl rfl) dX5_price_19 (fun H locs w => ?_)
    obtain ⟨M5, eM5⟩ : ∃ z, z = pI M1 h0 8 x1 := ⟨_, rfl⟩
    rw [← eM5] at w
    have h := h M5 eM5
    refine lv_iload_n (x := (gI M1 h0 8)) hx hb dX5_price_22 rfl (lh_at hl 0 rfl) ?_
    exact r_iret E w hr hlk h (Nat.le_refl 0) (Nat.le_refl 0) dX5_price_23
  · have h := h.2 c3
    refine lv_iconst (v := (-1 : Int32)) hx hb dX5_price_10 (by decide) ?_
    exact r_iret E w hr hlk h (Nat.le_refl 0) (Nat.le_refl 0) dX5_price_11
theorem K_X5_price {l : Launch} {Q : Int32 → Mm → Prop} {h0 : Nat} {x1 : Int32} {M : Mm} (h : B_X5_price_0 Q h0 x1 M) : KI l yX5_price cdX5_price (rmm 1 0 0) [rv (some h0), iv x1] M Q :=
  KI_of (by decide) rfl (Nat.le_of_ble_eq_true rfl) (fun p e s m args below meth c D cy A ls E hr hlk hn w hl => k_X5_price_0 E hr hlk _ _ _ _ _ _ h w hl)
def B_X5_bringUpToDate_29 (Q : Mm → Prop)  (h0 : Nat) (x1 : Option Nat) (M : Mm) : Prop := (ok M h0 5 ∧ (∃ a2, (gR M h0 3) = some a2 ∧ (ok M a2 1 ∧ (B_X1_divide_0 (fun  M4 => Q M4) a2 x1 (gI M h0 6) (gI M h0 8) M))))
set_option maxHeartbeats 4000000 in
set_option maxRecDepth 100000 in
theorem k_X5_bringUpToDate_29 {p : Program} {l : Launch} {e : Env} {s : State} {m : MethodId} {args : Array Value} {below : List Frame} {meth : Method} {c : Code} {D : va_G} {cy : Nat → ClassId} {A : Nat → Prop} {Q : Mm → Prop} (E : Ex p m c cX5_bringUpToDate 2 s args RX5 D cy A) (hr : meth.sig.returnType = none) (hlk : meth.locks = false) : ∀ (h0 : Nat) (x1 : Option Nat) (M : Mm) (H : Heap) (locs : List Loc) (ls : Array Slot), B_X5_bringUpToDate_29 Q  h0 x1 M → Wd D cy A s M H locs → lh ls 2 [(0, rv (some h0)), (1, rv x1)] → W p l e (rmm 4 0 0) s m args below meth c H locs 0 0 (MQ below (va_Qv Q (Po D cy A) A) args s 0 0 A) (F0 m 29 ls []) := by
  obtain ⟨hx, hb, hml, hown, hts⟩ := E.1
  intro h0 x1 M H locs ls h w hl
  unfold B_X5_bringUpToDate_29 at h
  refine r_aload_n (x := (some h0)) hx hb dX5_bringUpToDate_29 rfl (lh_at hl 0 rfl) ?_
  obtain ⟨ho1, h⟩ := h
  refine r_getR E w rfl ho1 cl_X5 3 rfl fl_X5_25 dX5_bringUpToDate_30 ?_
  refine r_aload_n (x := x1) hx hb dX5_bringUpToDate_33 rfl (lh_at hl 1 rfl) ?_
  refine r_aload_n (x := (some h0)) hx hb dX5_bringUpToDate_34 rfl (lh_at hl 0 rfl) ?_
  refine r_getI E w rfl ho1 cl_X5 6 rfl fl_X5_47 dX5_bringUpToDate_35 ?_
  refine r_aload_n (x := (some h0)) hx hb dX5_bringUpToDate_38 rfl (lh_at hl 0 rfl) ?_
  refine r_getI E w rfl ho1 cl_X5 8 rfl fl_X5_36 dX5_bringUpToDate_39 ?_
  obtain ⟨a2, ea2, h⟩ := h
  obtain ⟨ho3, h⟩ := h
  refine z_callVv E w ea2 ho3 cl_X1 yk_X1_divide ⟨Nat.le_of_ble_eq_true rfl, Nat.le_of_ble_eq_true rfl⟩ ⟨(Nat.zero_le _), (Nat.zero_le _)⟩ rfl ml_X5_239 im_X1_divide sl_X1_divide [rv x1, iv (gI M h0 6), iv (gI M h0 8)] rfl rfl hl [] rfl (Nat.le_of_ble_eq_true rfl) (K_X1_divide h) dX5_bringUpToDate_42 (fun  M4 H locs h w => ?_)
  exact r_vret E w hr hlk h (Nat.le_refl 0) (Nat.le_refl 0) dX5_bringUpToDate_45
def B_X5_bringUpToDate_0 (Q : Mm → Prop)  (h0 : Nat) (x1 : Option Nat) (M : Mm) : Prop := (∃ a1, x1 = some a1 ∧ (ok M a1 3 ∧ ((¬ (gI M a1 3) = 0 → B_X5_bringUpToDate_29 Q  h0 x1 M) ∧ ((gI M a1 3) = 0 → (ok M h0 5 ∧ ((¬ (gI M a1 4) = (gI M h0 6) → B_X5_bringUpToDate_29 Q  h0 x1 M) ∧ ((gI M a1 4) = (gI M h0 6) → (((gI M a1 5) = (gI M h0 8) → Q M) ∧ (¬ (gI M a1 5) = (gI M h0 8) → B_X5_bringUpToDate_29 Q  h0 x1 M)))))))))
set_option maxHeartbeats 4000000 in
set_option maxRecDepth 100000 in
theorem k_X5_bringUpToDate_0 {p : Program} {l : Launch} {e : Env} {s : State} {m : MethodId} {args : Array Value} {below : List Frame} {meth : Method} {c : Code} {D : va_G} {cy : Nat → ClassId} {A : Nat → Prop} {Q : Mm → Prop} (E : Ex p m c cX5_bringUpToDate 2 s args RX5 D cy A) (hr : meth.sig.returnType = none) (hlk : meth.locks = false) : ∀ (h0 : Nat) (x1 : Option Nat) (M : Mm) (H : Heap) (locs : List Loc) (ls : Array Slot), B_X5_bringUpToDate_0 Q  h0 x1 M → Wd D cy A s M H locs → lh ls 2 [(0, rv (some h0)), (1, rv x1)] → W p l e (rmm 4 0 0) s m args below meth c H locs 0 0 (MQ below (va_Qv Q (Po D cy A) A) args s 0 0 A) (F0 m 0 ls []) := by
  obtain ⟨hx, hb, hml, hown, hts⟩ := E.1
  intro h0 x1 M H locs ls h w hl
  unfold B_X5_bringUpToDate_0 at h
  refine r_aload_n (x := x1) hx hb dX5_bringUpToDate_0 rfl (lh_at hl 1 rfl) ?_
  obtain ⟨a1, ea1, h⟩ := h
  obtain ⟨ho2, h⟩ := h
  refine r_getI E w ea1 ho2 cl_X3 3 rfl fl_X5_95 dX5_bringUpToDate_1 ?_
  refine lv_if_ne (tgt := 29) hx hb dX5_bringUpToDate_4 (by decide) (fun c3 => ?_) (fun c3 => ?_)
  · have h := h.1 c3
    exact k_X5_bringUpToDate_29 E hr hlk  _ _ _ _ _ _ h w (lh_sub hl [0, 1] rfl)
  · have h := h.2 c3
    refine r_aload_n (x := x1) hx hb dX5_bringUpToDate_7 rfl (lh_at hl 1 rfl) ?_
    refine r_getI E w ea1 ho2 cl_X3 4 rfl fl_X5_235 dX5_bringUpToDate_8 ?_
    refine r_aload_n (x := (some h0)) hx hb dX5_bringUpToDate_11 rfl (lh_at hl 0 rfl) ?_
    obtain ⟨ho4, h⟩ := h
    refine r_getI E w rfl ho4 cl_X5 6 rfl fl_X5_47 dX5_bringUpToDate_12 ?_
    refine lv_icmp_ne (tgt := 29) hx hb dX5_bringUpToDate_15 (by decide) (fun c5 => ?_) (fun c5 => ?_)
    · have h := h.1 c5
      exact k_X5_bringUpToDate_29 E hr hlk  _ _ _ _ _ _ h w (lh_sub hl [0, 1] rfl)
    · have h := h.2 c5
      refine r_aload_n (x := x1) hx hb dX5_bringUpToDate_18 rfl (lh_at hl 1 rfl) ?_
      refine r_getI E w ea1 ho2 cl_X3 5 rfl fl_X5_238 dX5_bringUpToDate_19 ?_
      refine r_aload_n (x := (some h0)) hx hb dX5_bringUpToDate_22 rfl (lh_at hl 0 rfl) ?_
      refine r_getI E w rfl ho4 cl_X5 8 rfl fl_X5_36 dX5_bringUpToDate_23 ?_
      refine lv_icmp_eq (tgt := 45) hx hb dX5_bringUpToDate_26 (by decide) (fun c6 => ?_) (fun c6 => ?_)
      · have h := h.1 c6
        exact r_vret E w hr hlk h (Nat.le_refl 0) (Nat.le_refl 0) dX5_bringUpToDate_45
      · have h := h.2 c6
        exact k_X5_bringUpToDate_29 E hr hlk  _ _ _ _ _ _ h w (lh_sub hl [0, 1] rfl)
theorem K_X5_bringUpToDate {l : Launch} {Q : Mm → Prop} {h0 : Nat} {x1 : Option Nat} {M : Mm} (h : B_X5_bringUpToDate_0 Q h0 x1 M) : KV l yX5_bringUpToDate cdX5_bringUpToDate (rmm 4 0 0) [rv (some h0), rv x1] M Q :=
  KV_of (by decide) rfl (Nat.le_of_ble_eq_true rfl) (fun p e s m args below meth c D cy A ls E hr hlk hn w hl => k_X5_bringUpToDate_0 E hr hlk _ _ _ _ _ _ h w hl)
def B_X5_cuts_18 (Q : Int32 → Mm → Prop)  (h0 : Nat) (x3 : Option Nat) (M : Mm) : Prop := (ok M h0 5 ∧ (B_X5_refuseRow_0 (fun r3 M2 => Q r3 M2) h0 x3 M))
set_option maxHeartbeats 4000000 in
set_option maxRecDepth 100000 in
theorem k_X5_cuts_18 {p : Program} {l : Launch} {e : Env} {s : State} {m : MethodId} {args : Array Value} {below : List Frame} {meth : Method} {c : Code} {D : va_G} {cy : Nat → ClassId} {A : Nat → Prop} {Q : Int32 → Mm → Prop} (E : Ex p m c cX5_cuts 4 s args RX5 D cy A) (hr : meth.sig.returnType = (some .int)) (hlk : meth.locks = false) : ∀ (h0 : Nat) (x3 : Option Nat) (M : Mm) (H : Heap) (locs : List Loc) (ls : Array Slot), B_X5_cuts_18 Q  h0 x3 M → Wd D cy A s M H locs → lh ls 4 [(0, rv (some h0)), (3, rv x3)] → W p l e (rmm 5 0 0) s m args below meth c H locs 0 0 (MQ below (va_Qi Q (Po D cy A) A) args s 0 0 A) (F0 m 18 ls []) := by
  obtain ⟨hx, hb, hml, hown, hts⟩ := E.1
  intro h0 x3 M H locs ls h w hl
  unfold B_X5_cuts_18 at h
  refine r_aload_n (x := (some h0)) hx hb dX5_cuts_18 rfl (lh_at hl 0 rfl) ?_
  refine r_aload_n (x := x3) hx hb dX5_cuts_19 rfl (lh_at hl 1 rfl) ?_
  obtain ⟨ho1, h⟩ := h
  refine z_callVi E w rfl ho1 cl_X5 yk_X5_refuseRow ⟨Nat.le_of_ble_eq_true rfl, Nat.le_of_ble_eq_true rfl⟩ ⟨(Nat.zero_le _), (Nat.zero_le _)⟩ rfl ml_X5_98 im_X5_refuseRow sl_X5_refuseRow [rv x3] rfl rfl hl [] rfl (Nat.le_of_ble_eq_true rfl) (K_X5_refuseRow h) dX5_cuts_20 (fun r3 M2 H locs h w => ?_)
  exact r_iret E w hr hlk h (Nat.le_refl 0) (Nat.le_refl 0) dX5_cuts_23
def B_X5_cuts_0 (Q : Int32 → Mm → Prop)  (h0 : Nat) (x1 : Int32) (x2 : Int32) (M : Mm) : Prop := (ok M h0 5 ∧ (B_X5_findRow_0 (fun r3 M2 => ((r3 = none → B_X5_cuts_18 Q  h0 r3 M2) ∧ (∀ a4, r3 = some a4 → (ok M2 a4 3 ∧ ((¬ (gI M2 a4 1) = 0 → (ok M2 h0 5 ∧ (B_X5_bringUpToDate_0 (fun  M9 => (ok M9 a4 3 ∧ (ok M9 h0 5 ∧ (∀ M12, M12 = pJ M9 h0 14 (Int32.toInt64 (gI M9 a4 13)) → (B_X3_cutCount_0 (fun r14 M13 => Q r14 M13) a4  M12))))) h0 r3 M2))) ∧ ((gI M2 a4 1) = 0 → B_X5_cuts_18 Q  h0 r3 M2)))))) h0 x1 x2 M))
set_option maxHeartbeats 4000000 in
set_option maxRecDepth 100000 in
theorem k_X5_cuts_0 {p : Program} {l : Launch} {e : Env} {s : State} {m : MethodId} {args : Array Value} {below : List Frame} {meth : Method} {c : Code} {D : va_G} {cy : Nat → ClassId} {A : Nat → Prop} {Q : Int32 → Mm → Prop} (E : Ex p m c cX5_cuts 4 s args RX5 D cy A) (hr : meth.sig.returnType = (some .int)) (hlk : meth.locks = false) : ∀ (h0 : Nat) (x1 : Int32) (x2 : Int32) (M : Mm) (H : Heap) (locs : List Loc) (ls : Array Slot), B_X5_cuts_0 Q  h0 x1 x2 M → Wd D cy A s M H locs → lh ls 4 [(0, rv (some h0)), (1, iv x1), (2, iv x2)] → W p l e (rmm 5 0 0) s m args below meth c H locs 0 0 (MQ below (va_Qi Q (Po D cy A) A) args s 0 0 A) (F0 m 0 ls []) := by
  obtain ⟨hx, hb, hml, hown, hts⟩ := E.1
  intro h0 x1 x2 M H locs ls h w hl
  unfold B_X5_cuts_0 at h
  refine r_aload_n (x := (some h0)) hx hb dX5_cuts_0 rfl (lh_at hl 0 rfl) ?_
  refine lv_iload_n (x := x1) hx hb dX5_cuts_1 rfl (lh_at hl 1 rfl) ?_
  refine lv_iload_n (x := x2) hx hb dX5_cuts_2 rfl (lh_at hl 2 rfl) ?_
  obtain ⟨ho1, h⟩ := h
  refine z_callVq E w rfl ho1 cl_X5 yk_X5_findRow ⟨Nat.le_of_ble_eq_true rfl, Nat.le_of_ble_eq_true rfl⟩ ⟨(Nat.zero_le _), (Nat.zero_le _)⟩ rfl ml_X5_67 im_X5_findRow sl_X5_findRow [iv x1, iv x2] rfl rfl hl [] rfl (Nat.le_of_ble_eq_true rfl) (K_X5_findRow h) dX5_cuts_3 (fun r3 M2 H locs h w => ?_)
  refine r_astore_n (lv' := [(3, rv r3), (0, rv (some h0)), (1, iv x1), (2, iv x2)]) hx hb dX5_cuts_6 rfl hl (by decide) rfl (fun ls hl => ?_)
  refine r_aload_n (x := r3) hx hb dX5_cuts_7 rfl (lh_at hl 0 rfl) ?_
  refine r_ifnull (tgt := 18) hx hb dX5_cuts_8 (by decide) (fun c5 => ?_) (fun a4 ea4 => ?_)
  · have h := h.1 c5
    exact k_X5_cuts_18 E hr hlk  _ _ _ _ _ _ h w (lh_sub hl [1, 0] rfl)
  · have h := h.2 a4 ea4
    refine r_aload_n (x := r3) hx hb dX5_cuts_11 rfl (lh_at hl 0 rfl) ?_
    obtain ⟨ho6, h⟩ := h
    refine r_getI E w ea4 ho6 cl_X3 1 rfl fl_X5_71 dX5_cuts_12 ?_
    refine lv_if_ne (tgt := 24) hx hb dX5_cuts_15 (by decide) (fun c7 => ?_) (fun c7 => ?_)
    · have h := h.1 c7
      refine r_aload_n (x := (some h0)) hx hb dX5_cuts_24 rfl (lh_at hl 1 rfl) ?_
      refine r_aload_n (x := r3) hx hb dX5_cuts_25 rfl (lh_at hl 0 rfl) ?_
      obtain ⟨ho8, h⟩ := h
      refine z_callVv E w rfl ho8 cl_X5 yk_X5_bringUpToDate ⟨Nat.le_of_ble_eq_true rfl, Nat.le_of_ble_eq_true rfl⟩ ⟨(Nat.zero_le _), (Nat.zero_le _)⟩ rfl ml_X5_115 im_X5_bringUpToDate sl_X5_bringUpToDate [rv r3] rfl rfl hl [] rfl (Nat.le_of_ble_eq_true rfl) (K_X5_bringUpToDate h) dX5_cuts_26 (fun  M9 H locs h w => ?_)
      refine r_aload_n (x := (some h0)) hx hb dX5_cuts_29 rfl (lh_at hl 1 rfl) ?_
      refine r_aload_n (x := r3) hx hb dX5_cuts_30 rfl (lh_at hl 0 rfl) ?_
      obtain ⟨ho10, h⟩ := h
      refine r_getI E w ea4 ho10 cl_X3 13 rfl fl_X5_119 dX5_cuts_31 ?_
      refine lv_i2l hx hb dX5_cuts_34 rfl ?_
      obtain ⟨ho11, h⟩ := h
      refine r_putJ (v := (Int32.toInt64 (gI M9 a4 13))) E w rfl ho11 cl_X5 14 rfl fl_X5_122 (Or.inl rfl) rfl dX5_cuts_35 (fun H locs w => ?_)
      obtain ⟨M12, eM12⟩ : ∃ z, z = pJ M9 h0 14 (Int32.toInt64 (gI M9 a4 13)) := ⟨_, rfl⟩
      rw [← eM12] at w
      have h := h M12 eM12
      refine r_aload_n (x := r3) hx hb dX5_cuts_38 rfl (lh_at hl 0 rfl) ?_
      have ho10 : ok M12 a4 3 := by rw [eM12]; exact ho10
      refine z_callVi E w ea4 ho10 cl_X3 yk_X3_cutCount ⟨Nat.le_of_ble_eq_true rfl, Nat.le_of_ble_eq_true rfl⟩ ⟨(Nat.zero_le _), (Nat.zero_le _)⟩ rfl ml_X5_125 im_X3_cutCount sl_X3_cutCount [] rfl rfl hl [] rfl (Nat.le_of_ble_eq_true rfl) (K_X3_cutCount h) dX5_cuts_39 (fun r14 M13 H locs h w => ?_)
      exact r_iret E w hr hlk h (Nat.le_refl 0) (Nat.le_refl 0) dX5_cuts_42
    · have h := h.2 c7
      exact k_X5_cuts_18 E hr hlk  _ _ _ _ _ _ h w (lh_sub hl [1, 0] rfl)
theorem K_X5_cuts {l : Launch} {Q : Int32 → Mm → Prop} {h0 : Nat} {x1 : Int32} {x2 : Int32} {M : Mm} (h : B_X5_cuts_0 Q h0 x1 x2 M) : KI l yX5_cuts cdX5_cuts (rmm 5 0 0) [rv (some h0), iv x1, iv x2] M Q :=
  KI_of (by decide) rfl (Nat.le_of_ble_eq_true rfl) (fun p e s m args below meth c D cy A ls E hr hlk hn w hl => k_X5_cuts_0 E hr hlk _ _ _ _ _ _ _ h w hl)
def B_X5_cut_21 (Q : Int32 → Mm → Prop)  (h0 : Nat) (x4 : Option Nat) (M : Mm) : Prop := (ok M h0 5 ∧ (B_X5_refuseRow_0 (fun r3 M2 => Q r3 M2) h0 x4 M))
set_option maxHeartbeats 4000000 in
set_option maxRecDepth 100000 in
theorem k_X5_cut_21 {p : Program} {l : Launch} {e : Env} {s : State} {m : MethodId} {args : Array Value} {below : List Frame} {meth : Method} {c : Code} {D : va_G} {cy : Nat → ClassId} {A : Nat → Prop} {Q : Int32 → Mm → Prop} (E : Ex p m c cX5_cut 5 s args RX5 D cy A) (hr : meth.sig.returnType = (some .int)) (hlk : meth.locks = false) : ∀ (h0 : Nat) (x4 : Option Nat) (M : Mm) (H : Heap) (locs : List Loc) (ls : Array Slot), B_X5_cut_21 Q  h0 x4 M → Wd D cy A s M H locs → lh ls 5 [(0, rv (some h0)), (4, rv x4)] → W p l e (rmm 5 0 0) s m args below meth c H locs 0 0 (MQ below (va_Qi Q (Po D cy A) A) args s 0 0 A) (F0 m 21 ls []) := by
  obtain ⟨hx, hb, hml, hown, hts⟩ := E.1
  intro h0 x4 M H locs ls h w hl
  unfold B_X5_cut_21 at h
  refine r_aload_n (x := (some h0)) hx hb dX5_cut_21 rfl (lh_at hl 0 rfl) ?_
  refine r_aload (x := x4) hx hb dX5_cut_22 (lh_at hl 1 rfl) ?_
  obtain ⟨ho1, h⟩ := h
  refine z_callVi E w rfl ho1 cl_X5 yk_X5_refuseRow ⟨Nat.le_of_ble_eq_true rfl, Nat.le_of_ble_eq_true rfl⟩ ⟨(Nat.zero_le _), (Nat.zero_le _)⟩ rfl ml_X5_98 im_X5_refuseRow sl_X5_refuseRow [rv x4] rfl rfl hl [] rfl (Nat.le_of_ble_eq_true rfl) (K_X5_refuseRow h) dX5_cut_24 (fun r3 M2 H locs h w => ?_)
  exact r_iret E w hr hlk h (Nat.le_refl 0) (Nat.le_refl 0) dX5_cut_27
def B_X5_cut_0 (Q : Int32 → Mm → Prop)  (h0 : Nat) (x1 : Int32) (x2 : Int32) (x3 : Int32) (M : Mm) : Prop := (ok M h0 5 ∧ (B_X5_findRow_0 (fun r3 M2 => ((r3 = none → B_X5_cut_21 Q  h0 r3 M2) ∧ (∀ a4, r3 = some a4 → (ok M2 a4 3 ∧ ((¬ (gI M2 a4 1) = 0 → (ok M2 h0 5 ∧ (B_X5_bringUpToDate_0 (fun  M9 => (ok M9 a4 3 ∧ (B_X3_hasCut_0 (fun r12 M11 => ((r12 = 0 → Q (-9 : Int32) M11) ∧ (¬ r12 = 0 → (ok M11 a4 3 ∧ (B_X3_cutBuild_0 (fun r16 M15 => Q r16 M15) a4 x3 M11))))) a4 x3 M9))) h0 r3 M2))) ∧ ((gI M2 a4 1) = 0 → B_X5_cut_21 Q  h0 r3 M2)))))) h0 x1 x2 M))
set_option maxHeartbeats 4000000 in
set_option maxRecDepth 100000 in
theorem k_X5_cut_0 {p : Program} {l : Launch} {e : Env} {s : State} {m : MethodId} {args : Array Value} {below : List Frame} {meth : Method} {c : Code} {D : va_G} {cy : Nat → ClassId} {A : Nat → Prop} {Q : Int32 → Mm → Prop} (E : Ex p m c cX5_cut 5 s args RX5 D cy A) (hr : meth.sig.returnType = (some .int)) (hlk : meth.locks = false) : ∀ (h0 : Nat) (x1 : Int32) (x2 : Int32) (x3 : Int32) (M : Mm) (H : Heap) (locs : List Loc) (ls : Array Slot), B_X5_cut_0 Q  h0 x1 x2 x3 M → Wd D cy A s M H locs → lh ls 5 [(0, rv (some h0)), (1, iv x1), (2, iv x2), (3, iv x3)] → W p l e (rmm 5 0 0) s m args below meth c H locs 0 0 (MQ below (va_Qi Q (Po D cy A) A) args s 0 0 A) (F0 m 0 ls []) := by
  obtain ⟨hx, hb, hml, hown, hts⟩ := E.1
  intro h0 x1 x2 x3 M H locs ls h w hl
  unfold B_X5_cut_0 at h
  refine r_aload_n (x := (some h0)) hx hb dX5_cut_0 rfl (lh_at hl 0 rfl) ?_
  refine lv_iload_n (x := x1) hx hb dX5_cut_1 rfl (lh_at hl 1 rfl) ?_
  refine lv_iload_n (x := x2) hx hb dX5_cut_2 rfl (lh_at hl 2 rfl) ?_
  obtain ⟨ho1, h⟩ := h
  refine z_callVq E w rfl ho1 cl_X5 yk_X5_findRow ⟨Nat.le_of_ble_eq_true rfl, Nat.le_of_ble_eq_true rfl⟩ ⟨(Nat.zero_le _), (Nat.zero_le _)⟩ rfl ml_X5_67 im_X5_findRow sl_X5_findRow [iv x1, iv x2] rfl rfl hl [] rfl (Nat.le_of_ble_eq_true rfl) (K_X5_findRow h) dX5_cut_3 (fun r3 M2 H locs h w => ?_)
  refine r_astore (lv' := [(4, rv r3), (0, rv (some h0)), (1, iv x1), (2, iv x2), (3, iv x3)]) hx hb dX5_cut_6 hl (by decide) rfl (fun ls hl => ?_)
  refine r_aload (x := r3) hx hb dX5_cut_8 (lh_at hl 0 rfl) ?_
  refine r_ifnull (tgt := 21) hx hb dX5_cut_10 (by decide) (fun c5 => ?_) (fun a4 ea4 => ?_)
  · have h := h.1 c5
    exact k_X5_cut_21 E hr hlk  _ _ _ _ _ _ h w (lh_sub hl [1, 0] rfl)
  · have h := h.2 a4 ea4
    refine r_aload (x := r3) hx hb dX5_cut_13 (lh_at hl 0 rfl) ?_
    obtain ⟨ho6, h⟩ := h
    refine r_getI E w ea4 ho6 cl_X3 1 rfl fl_X5_71 dX5_cut_15 ?_
    refine lv_if_ne (tgt := 28) hx hb dX5_cut_18 (by decide) (fun c7 => ?_) (fun c7 => ?_)
    · have h := h.1 c7
      refine r_aload_n (x := (some h0)) hx hb dX5_cut_28 rfl (lh_at hl 1 rfl) ?_
      refine r_aload (x := r3) hx hb dX5_cut_29 (lh_at hl 0 rfl) ?_
      obtain ⟨ho8, h⟩ := h
      refine z_callVv E w rfl ho8 cl_X5 yk_X5_bringUpToDate ⟨Nat.le_of_ble_eq_true rfl, Nat.le_of_ble_eq_true rfl⟩ ⟨(Nat.zero_le _), (Nat.zero_le _)⟩ rfl ml_X5_115 im_X5_bringUpToDate sl_X5_bringUpToDate [rv r3] rfl rfl hl [] rfl (Nat.le_of_ble_eq_true rfl) (K_X5_bringUpToDate h) dX5_cut_31 (fun  M9 H locs h w => ?_)
      refine r_aload (x := r3) hx hb dX5_cut_34 (lh_at hl 0 rfl) ?_
      refine lv_iload_n (x := x3) hx hb dX5_cut_36 rfl (lh_at hl 4 rfl) ?_
      obtain ⟨ho10, h⟩ := h
      refine z_callVi E w ea4 ho10 cl_X3 yk_X3_hasCut ⟨Nat.le_of_ble_eq_true rfl, Nat.le_of_ble_eq_true rfl⟩ ⟨(Nat.zero_le _), (Nat.zero_le _)⟩ rfl ml_X5_129 im_X3_hasCut sl_X3_hasCut [iv x3] rfl rfl hl [] rfl (Nat.le_of_ble_eq_true rfl) (K_X3_hasCut h) dX5_cut_37 (fun r12 M11 H locs h w => ?_)
      refine lv_if_eq (tgt := 52) hx hb dX5_cut_40 (by decide) (fun c13 => ?_) (fun c13 => ?_)
      · have h := h.1 c13
        refine lv_bipush (v := (-9 : Int32)) hx hb dX5_cut_52 (by decide) ?_
        exact r_iret E w hr hlk h (Nat.le_refl 0) (Nat.le_refl 0) dX5_cut_54
      · have h := h.2 c13
        refine r_aload (x := r3) hx hb dX5_cut_43 (lh_at hl 0 rfl) ?_
        refine lv_iload_n (x := x3) hx hb dX5_cut_45 rfl (lh_at hl 4 rfl) ?_
        obtain ⟨ho14, h⟩ := h
        refine z_callVi E w ea4 ho14 cl_X3 yk_X3_cutBuild ⟨Nat.le_of_ble_eq_true rfl, Nat.le_of_ble_eq_true rfl⟩ ⟨(Nat.zero_le _), (Nat.zero_le _)⟩ rfl ml_X5_132 im_X3_cutBuild sl_X3_cutBuild [iv x3] rfl rfl hl [] rfl (Nat.le_of_ble_eq_true rfl) (K_X3_cutBuild h) dX5_cut_46 (fun r16 M15 H locs h w => ?_)
        refine lv_goto (tgt := 54) hx hb dX5_cut_49 (by decide) ?_
        exact r_iret E w hr hlk h (Nat.le_refl 0) (Nat.le_refl 0) dX5_cut_54
    · have h := h.2 c7
      exact k_X5_cut_21 E hr hlk  _ _ _ _ _ _ h w (lh_sub hl [1, 0] rfl)
theorem K_X5_cut {l : Launch} {Q : Int32 → Mm → Prop} {h0 : Nat} {x1 : Int32} {x2 : Int32} {x3 : Int32} {M : Mm} (h : B_X5_cut_0 Q h0 x1 x2 x3 M) : KI l yX5_cut cdX5_cut (rmm 5 0 0) [rv (some h0), iv x1, iv x2, iv x3] M Q :=
  KI_of (by decide) rfl (Nat.le_of_ble_eq_true rfl) (fun p e s m args below meth c D cy A ls E hr hlk hn w hl => k_X5_cut_0 E hr hlk _ _ _ _ _ _ _ _ h w hl)
def B_X5_middle_21 (Q : Int32 → Mm → Prop)  (h0 : Nat) (x4 : Option Nat) (M : Mm) : Prop := (ok M h0 5 ∧ (B_X5_refuseRow_0 (fun r3 M2 => Q r3 M2) h0 x4 M))
set_option maxHeartbeats 4000000 in
set_option maxRecDepth 100000 in
theorem k_X5_middle_21 {p : Program} {l : Launch} {e : Env} {s : State} {m : MethodId} {args : Array Value} {below : List Frame} {meth : Method} {c : Code} {D : va_G} {cy : Nat → ClassId} {A : Nat → Prop} {Q : Int32 → Mm → Prop} (E : Ex p m c cX5_middle 5 s args RX5 D cy A) (hr : meth.sig.returnType = (some .int)) (hlk : meth.locks = false) : ∀ (h0 : Nat) (x4 : Option Nat) (M : Mm) (H : Heap) (locs : List Loc) (ls : Array Slot), B_X5_middle_21 Q  h0 x4 M → Wd D cy A s M H locs → lh ls 5 [(0, rv (some h0)), (4, rv x4)] → W p l e (rmm 5 0 0) s m args below meth c H locs 0 0 (MQ below (va_Qi Q (Po D cy A) A) args s 0 0 A) (F0 m 21 ls []) := by
  obtain ⟨hx, hb, hml, hown, hts⟩ := E.1
  intro h0 x4 M H locs ls h w hl
  unfold B_X5_middle_21 at h
  refine r_aload_n (x := (some h0)) hx hb dX5_middle_21 rfl (lh_at hl 0 rfl) ?_
  refine r_aload (x := x4) hx hb dX5_middle_22 (lh_at hl 1 rfl) ?_
  obtain ⟨ho1, h⟩ := h
  refine z_callVi E w rfl ho1 cl_X5 yk_X5_refuseRow ⟨Nat.le_of_ble_eq_true rfl, Nat.le_of_ble_eq_true rfl⟩ ⟨(Nat.zero_le _), (Nat.zero_le _)⟩ rfl ml_X5_98 im_X5_refuseRow sl_X5_refuseRow [rv x4] rfl rfl hl [] rfl (Nat.le_of_ble_eq_true rfl) (K_X5_refuseRow h) dX5_middle_24 (fun r3 M2 H locs h w => ?_)
  exact r_iret E w hr hlk h (Nat.le_refl 0) (Nat.le_refl 0) dX5_middle_27
def B_X5_middle_0 (Q : Int32 → Mm → Prop)  (h0 : Nat) (x1 : Int32) (x2 : Int32) (x3 : Int32) (M : Mm) : Prop := (ok M h0 5 ∧ (B_X5_findRow_0 (fun r3 M2 => ((r3 = none → B_X5_middle_21 Q  h0 r3 M2) ∧ (∀ a4, r3 = some a4 → (ok M2 a4 3 ∧ ((¬ (gI M2 a4 1) = 0 → (ok M2 h0 5 ∧ (B_X5_bringUpToDate_0 (fun  M9 => ((x3 < 0 → Q (-9 : Int32) M9) ∧ (¬ x3 < 0 → (ok M9 a4 3 ∧ (((gI M9 a4 9) ≤ x3 → Q (-9 : Int32) M9) ∧ (¬ (gI M9 a4 9) ≤ x3 → (∃ a13, (gR M9 a4 11) = some a13 ∧ (ar M9 a13 7 x3 ∧ Q (gI M9 a13 (Int32.toNatClampNeg x3)) M9)))))))) h0 r3 M2))) ∧ ((gI M2 a4 1) = 0 → B_X5_middle_21 Q  h0 r3 M2)))))) h0 x1 x2 M))
set_option maxHeartbeats 4000000 in
set_option maxRecDepth 100000 in
theorem k_X5_middle_0 {p : Program} {l : Launch} {e : Env} {s : State} {m : MethodId} {args : Array Value} {below : List Frame} {meth : Method} {c : Code} {D : va_G} {cy : Nat → ClassId} {A : Nat → Prop} {Q : Int32 → Mm → Prop} (E : Ex p m c cX5_middle 5 s args RX5 D cy A) (hr : meth.sig.returnType = (some .int)) (hlk : meth.locks = false) : ∀ (h0 : Nat) (x1 : Int32) (x2 : Int32) (x3 : Int32) (M : Mm) (H : Heap) (locs : List Loc) (ls : Array Slot), B_X5_middle_0 Q  h0 x1 x2 x3 M → Wd D cy A s M H locs → lh ls 5 [(0, rv (some h0)), (1, iv x1), (2, iv x2), (3, iv x3)] → W p l e (rmm 5 0 0) s m args below meth c H locs 0 0 (MQ below (va_Qi Q (Po D cy A) A) args s 0 0 A) (F0 m 0 ls []) := by
  obtain ⟨hx, hb, hml, hown, hts⟩ := E.1
  intro h0 x1 x2 x3 M H locs ls h w hl
  unfold B_X5_middle_0 at h
  refine r_aload_n (x := (some h0)) hx hb dX5_middle_0 rfl (lh_at hl 0 rfl) ?_
  refine lv_iload_n (x := x1) hx hb dX5_middle_1 rfl (lh_at hl 1 rfl) ?_
  refine lv_iload_n (x := x2) hx hb dX5_middle_2 rfl (lh_at hl 2 rfl) ?_
  obtain ⟨ho1, h⟩ := h
  refine z_callVq E w rfl ho1 cl_X5 yk_X5_findRow ⟨Nat.le_of_ble_eq_true rfl, Nat.le_of_ble_eq_true rfl⟩ ⟨(Nat.zero_le _), (Nat.zero_le _)⟩ rfl ml_X5_67 im_X5_findRow sl_X5_findRow [iv x1, iv x2] rfl rfl hl [] rfl (Nat.le_of_ble_eq_true rfl) (K_X5_findRow h) dX5_middle_3 (fun r3 M2 H locs h w => ?_)
  refine r_astore (lv' := [(4, rv r3), (0, rv (some h0)), (1, iv x1), (2, iv x2), (3, iv x3)]) hx hb dX5_middle_6 hl (by decide) rfl (fun ls hl => ?_)
  refine r_aload (x := r3) hx hb dX5_middle_8 (lh_at hl 0 rfl) ?_
  refine r_ifnull (tgt := 21) hx hb dX5_middle_10 (by decide) (fun c5 => ?_) (fun a4 ea4 => ?_)
  · have h := h.1 c5
    exact k_X5_middle_21 E hr hlk  _ _ _ _ _ _ h w (lh_sub hl [1, 0] rfl)
  · have h := h.2 a4 ea4
    refine r_aload (x := r3) hx hb dX5_middle_13 (lh_at hl 0 rfl) ?_
    obtain ⟨ho6, h⟩ := h
    refine r_getI E w ea4 ho6 cl_X3 1 rfl fl_X5_71 dX5_middle_15 ?_
    refine lv_if_ne (tgt := 28) hx hb dX5_middle_18 (by decide) (fun c7 => ?_) (fun c7 => ?_)
    · have h := h.1 c7
      refine r_aload_n (x := (some h0)) hx hb dX5_middle_28 rfl (lh_at hl 1 rfl) ?_
      refine r_aload (x := r3) hx hb dX5_middle_29 (lh_at hl 0 rfl) ?_
      obtain ⟨ho8, h⟩ := h
      refine z_callVv E w rfl ho8 cl_X5 yk_X5_bringUpToDate ⟨Nat.le_of_ble_eq_true rfl, Nat.le_of_ble_eq_true rfl⟩ ⟨(Nat.zero_le _), (Nat.zero_le _)⟩ rfl ml_X5_115 im_X5_bringUpToDate sl_X5_bringUpToDate [rv r3] rfl rfl hl [] rfl (Nat.le_of_ble_eq_true rfl) (K_X5_bringUpToDate h) dX5_middle_31 (fun  M9 H locs h w => ?_)
      refine lv_iload_n (x := x3) hx hb dX5_middle_34 rfl (lh_at hl 4 rfl) ?_
      refine lv_if_lt (tgt := 57) hx hb dX5_middle_35 (by decide) (fun c10 => ?_) (fun c10 => ?_)
      · have h := h.1 c10
        refine lv_bipush (v := (-9 : Int32)) hx hb dX5_middle_57 (by decide) ?_
        exact r_iret E w hr hlk h (Nat.le_refl 0) (Nat.le_refl 0) dX5_middle_59
      · have h := h.2 c10
        refine lv_iload_n (x := x3) hx hb dX5_middle_38 rfl (lh_at hl 4 rfl) ?_
        refine r_aload (x := r3) hx hb dX5_middle_39 (lh_at hl 0 rfl) ?_
        obtain ⟨ho11, h⟩ := h
        refine r_getI E w ea4 ho11 cl_X3 9 rfl fl_X5_135 dX5_middle_41 ?_
        refine lv_icmp_ge (tgt := 57) hx hb dX5_middle_44 (by decide) (fun c12 => ?_) (fun c12 => ?_)
        · have h := h.1 c12
          refine lv_bipush (v := (-9 : Int32)) hx hb dX5_middle_57 (by decide) ?_
          exact r_iret E w hr hlk h (Nat.le_refl 0) (Nat.le_refl 0) dX5_middle_59
        · have h := h.2 c12
          refine r_aload (x := r3) hx hb dX5_middle_47 (lh_at hl 0 rfl) ?_
          refine r_getR E w ea4 ho11 cl_X3 11 rfl fl_X5_138 dX5_middle_49 ?_
          refine lv_iload_n (x := x3) hx hb dX5_middle_52 rfl (lh_at hl 4 rfl) ?_
          obtain ⟨a13, ea13, h⟩ := h
          obtain ⟨ha14, h⟩ := h
          refine r_iald E w ea13 ha14 dX5_middle_53 ?_
          refine lv_goto (tgt := 59) hx hb dX5_middle_54 (by decide) ?_
          exact r_iret E w hr hlk h (Nat.le_refl 0) (Nat.le_refl 0) dX5_middle_59
    · have h := h.2 c7
      exact k_X5_middle_21 E hr hlk  _ _ _ _ _ _ h w (lh_sub hl [1, 0] rfl)
theorem K_X5_middle {l : Launch} {Q : Int32 → Mm → Prop} {h0 : Nat} {x1 : Int32} {x2 : Int32} {x3 : Int32} {M : Mm} (h : B_X5_middle_0 Q h0 x1 x2 x3 M) : KI l yX5_middle cdX5_middle (rmm 5 0 0) [rv (some h0), iv x1, iv x2, iv x3] M Q :=
  KI_of (by decide) rfl (Nat.le_of_ble_eq_true rfl) (fun p e s m args below meth c D cy A ls E hr hlk hn w hl => k_X5_middle_0 E hr hlk _ _ _ _ _ _ _ _ h w hl)
def B_X5_size_21 (Q : Int32 → Mm → Prop)  (h0 : Nat) (x4 : Option Nat) (M : Mm) : Prop := (ok M h0 5 ∧ (B_X5_refuseRow_0 (fun r3 M2 => Q r3 M2) h0 x4 M))
set_option maxHeartbeats 4000000 in
set_option maxRecDepth 100000 in
theorem k_X5_size_21 {p : Program} {l : Launch} {e : Env} {s : State} {m : MethodId} {args : Array Value} {below : List Frame} {meth : Method} {c : Code} {D : va_G} {cy : Nat → ClassId} {A : Nat → Prop} {Q : Int32 → Mm → Prop} (E : Ex p m c cX5_size 5 s args RX5 D cy A) (hr : meth.sig.returnType = (some .int)) (hlk : meth.locks = false) : ∀ (h0 : Nat) (x4 : Option Nat) (M : Mm) (H : Heap) (locs : List Loc) (ls : Array Slot), B_X5_size_21 Q  h0 x4 M → Wd D cy A s M H locs → lh ls 5 [(0, rv (some h0)), (4, rv x4)] → W p l e (rmm 5 0 0) s m args below meth c H locs 0 0 (MQ below (va_Qi Q (Po D cy A) A) args s 0 0 A) (F0 m 21 ls []) := by
  obtain ⟨hx, hb, hml, hown, hts⟩ := E.1
  intro h0 x4 M H locs ls h w hl
  unfold B_X5_size_21 at h
  refine r_aload_n (x := (some h0)) hx hb dX5_size_21 rfl (lh_at hl 0 rfl) ?_
  refine r_aload (x := x4) hx hb dX5_size_22 (lh_at hl 1 rfl) ?_
  obtain ⟨ho1, h⟩ := h
  refine z_callVi E w rfl ho1 cl_X5 yk_X5_refuseRow ⟨Nat.le_of_ble_eq_true rfl, Nat.le_of_ble_eq_true rfl⟩ ⟨(Nat.zero_le _), (Nat.zero_le _)⟩ rfl ml_X5_98 im_X5_refuseRow sl_X5_refuseRow [rv x4] rfl rfl hl [] rfl (Nat.le_of_ble_eq_true rfl) (K_X5_refuseRow h) dX5_size_24 (fun r3 M2 H locs h w => ?_)
  exact r_iret E w hr hlk h (Nat.le_refl 0) (Nat.le_refl 0) dX5_size_27
def B_X5_size_0 (Q : Int32 → Mm → Prop)  (h0 : Nat) (x1 : Int32) (x2 : Int32) (x3 : Int32) (M : Mm) : Prop := (ok M h0 5 ∧ (B_X5_findRow_0 (fun r3 M2 => ((r3 = none → B_X5_size_21 Q  h0 r3 M2) ∧ (∀ a4, r3 = some a4 → (ok M2 a4 3 ∧ ((¬ (gI M2 a4 1) = 0 → (ok M2 h0 5 ∧ (B_X5_bringUpToDate_0 (fun  M9 => (ok M9 a4 3 ∧ (B_X3_hasCut_0 (fun r12 M11 => ((¬ r12 = 0 → (ok M11 a4 3 ∧ (B_X3_stepSize_0 (fun r16 M15 => (ok M15 h0 5 ∧ (∀ M18, M18 = pJ M15 h0 14 (Int32.toInt64 r16) → Q (1 : Int32) M18))) a4 x3 M11))) ∧ (r12 = 0 → Q (-9 : Int32) M11))) a4 x3 M9))) h0 r3 M2))) ∧ ((gI M2 a4 1) = 0 → B_X5_size_21 Q  h0 r3 M2)))))) h0 x1 x2 M))
set_option maxHeartbeats 4000000 in
set_option maxRecDepth 100000 in
theorem k_X5_size_0 {p : Program} {l : Launch} {e : Env} {s : State} {m : MethodId} {args : Array Value} {below : List Frame} {meth : Method} {c : Code} {D : va_G} {cy : Nat → ClassId} {A : Nat → Prop} {Q : Int32 → Mm → Prop} (E : Ex p m c cX5_size 5 s args RX5 D cy A) (hr : meth.sig.returnType = (some .int)) (hlk : meth.locks = false) : ∀ (h0 : Nat) (x1 : Int32) (x2 : Int32) (x3 : Int32) (M : Mm) (H : Heap) (locs : List Loc) (ls : Array Slot), B_X5_size_0 Q  h0 x1 x2 x3 M → Wd D cy A s M H locs → lh ls 5 [(0, rv (some h0)), (1, iv x1), (2, iv x2), (3, iv x3)] → W p l e (rmm 5 0 0) s m args below meth c H locs 0 0 (MQ below (va_Qi Q (Po D cy A) A) args s 0 0 A) (F0 m 0 ls []) := by
  obtain ⟨hx, hb, hml, hown, hts⟩ := E.1
  intro h0 x1 x2 x3 M H locs ls h w hl
  unfold B_X5_size_0 at h
  refine r_aload_n (x := (some h0)) hx hb dX5_size_0 rfl (lh_at hl 0 rfl) ?_
  refine lv_iload_n (x := x1) hx hb dX5_size_1 rfl (lh_at hl 1 rfl) ?_
  refine lv_iload_n (x := x2) hx hb dX5_size_2 rfl (lh_at hl 2 rfl) ?_
  obtain ⟨ho1, h⟩ := h
  refine z_callVq E w rfl ho1 cl_X5 yk_X5_findRow ⟨Nat.le_of_ble_eq_true rfl, Nat.le_of_ble_eq_true rfl⟩ ⟨(Nat.zero_le _), (Nat.zero_le _)⟩ rfl ml_X5_67 im_X5_findRow sl_X5_findRow [iv x1, iv x2] rfl rfl hl [] rfl (Nat.le_of_ble_eq_true rfl) (K_X5_findRow h) dX5_size_3 (fun r3 M2 H locs h w => ?_)
  refine r_astore (lv' := [(4, rv r3), (0, rv (some h0)), (1, iv x1), (2, iv x2), (3, iv x3)]) hx hb dX5_size_6 hl (by decide) rfl (fun ls hl => ?_)
  refine r_aload (x := r3) hx hb dX5_size_8 (lh_at hl 0 rfl) ?_
  refine r_ifnull (tgt := 21) hx hb dX5_size_10 (by decide) (fun c5 => ?_) (fun a4 ea4 => ?_)
  · have h := h.1 c5
    exact k_X5_size_21 E hr hlk  _ _ _ _ _ _ h w (lh_sub hl [1, 0] rfl)
  · have h := h.2 a4 ea4
    refine r_aload (x := r3) hx hb dX5_size_13 (lh_at hl 0 rfl) ?_
    obtain ⟨ho6, h⟩ := h
    refine r_getI E w ea4 ho6 cl_X3 1 rfl fl_X5_71 dX5_size_15 ?_
    refine lv_if_ne (tgt := 28) hx hb dX5_size_18 (by decide) (fun c7 => ?_) (fun c7 => ?_)
    · have h := h.1 c7
      refine r_aload_n (x := (some h0)) hx hb dX5_size_28 rfl (lh_at hl 1 rfl) ?_
      refine r_aload (x := r3) hx hb dX5_size_29 (lh_at hl 0 rfl) ?_
      obtain ⟨ho8, h⟩ := h
      refine z_callVv E w rfl ho8 cl_X5 yk_X5_bringUpToDate ⟨Nat.le_of_ble_eq_true rfl, Nat.le_of_ble_eq_true rfl⟩ ⟨(Nat.zero_le _), (Nat.zero_le _)⟩ rfl ml_X5_115 im_X5_bringUpToDate sl_X5_bringUpToDate [rv r3] rfl rfl hl [] rfl (Nat.le_of_ble_eq_true rfl) (K_X5_bringUpToDate h) dX5_size_31 (fun  M9 H locs h w => ?_)
      refine r_aload (x := r3) hx hb dX5_size_34 (lh_at hl 0 rfl) ?_
      refine lv_iload_n (x := x3) hx hb dX5_size_36 rfl (lh_at hl 4 rfl) ?_
      obtain ⟨ho10, h⟩ := h
      refine z_callVi E w ea4 ho10 cl_X3 yk_X3_hasCut ⟨Nat.le_of_ble_eq_true rfl, Nat.le_of_ble_eq_true rfl⟩ ⟨(Nat.zero_le _), (Nat.zero_le _)⟩ rfl ml_X5_129 im_X3_hasCut sl_X3_hasCut [iv x3] rfl rfl hl [] rfl (Nat.le_of_ble_eq_true rfl) (K_X3_hasCut h) dX5_size_37 (fun r12 M11 H locs h w => ?_)
      refine lv_if_ne (tgt := 46) hx hb dX5_size_40 (by decide) (fun c13 => ?_) (fun c13 => ?_)
      · have h := h.1 c13
        refine r_aload_n (x := (some h0)) hx hb dX5_size_46 rfl (lh_at hl 1 rfl) ?_
        refine r_aload (x := r3) hx hb dX5_size_47 (lh_at hl 0 rfl) ?_
        refine lv_iload_n (x := x3) hx hb dX5_size_49 rfl (lh_at hl 4 rfl) ?_
        obtain ⟨ho14, h⟩ := h
        refine z_callVi E w ea4 ho14 cl_X3 yk_X3_stepSize ⟨Nat.le_of_ble_eq_true rfl, Nat.le_of_ble_eq_true rfl⟩ ⟨(Nat.zero_le _), (Nat.zero_le _)⟩ rfl ml_X5_141 im_X3_stepSize sl_X3_stepSize [iv x3] rfl rfl hl [rv (some h0)] rfl (Nat.le_of_ble_eq_true rfl) (K_X3_stepSize h) dX5_size_50 (fun r16 M15 H locs h w => ?_)
        refine lv_i2l hx hb dX5_size_53 rfl ?_
        obtain ⟨ho17, h⟩ := h
        refine r_putJ (v := (Int32.toInt64 r16)) E w rfl ho17 cl_X5 14 rfl fl_X5_122 (Or.inl rfl) rfl dX5_size_54 (fun H locs w => ?_)
        obtain ⟨M18, eM18⟩ : ∃ z, z = pJ M15 h0 14 (Int32.toInt64 r16) := ⟨_, rfl⟩
        rw [← eM18] at w
        have h := h M18 eM18
        refine lv_iconst (v := (1 : Int32)) hx hb dX5_size_57 (by decide) ?_
        exact r_iret E w hr hlk h (Nat.le_refl 0) (Nat.le_refl 0) dX5_size_58
      · have h := h.2 c13
        refine lv_bipush (v := (-9 : Int32)) hx hb dX5_size_43 (by decide) ?_
        exact r_iret E w hr hlk h (Nat.le_refl 0) (Nat.le_refl 0) dX5_size_45
    · have h := h.2 c7
      exact k_X5_size_21 E hr hlk  _ _ _ _ _ _ h w (lh_sub hl [1, 0] rfl)
theorem K_X5_size {l : Launch} {Q : Int32 → Mm → Prop} {h0 : Nat} {x1 : Int32} {x2 : Int32} {x3 : Int32} {M : Mm} (h : B_X5_size_0 Q h0 x1 x2 x3 M) : KI l yX5_size cdX5_size (rmm 5 0 0) [rv (some h0), iv x1, iv x2, iv x3] M Q :=
  KI_of (by decide) rfl (Nat.le_of_ble_eq_true rfl) (fun p e s m args below meth c D cy A ls E hr hlk hn w hl => k_X5_size_0 E hr hlk _ _ _ _ _ _ _ _ h w hl)
def B_X5_reach_0 (Q : Int32 → Mm → Prop)  (h0 : Nat) (x1 : Int32) (M : Mm) : Prop := (B_X5_isWithin_0 (fun r2 M1 => ((¬ r2 = 0 → (ok M1 h0 5 ∧ (∀ M5, M5 = pI M1 h0 9 x1 → Q (gI M1 h0 9) M5))) ∧ (r2 = 0 → Q (-1 : Int32) M1))) x1 (5 : Int32) M)
set_option maxHeartbeats 4000000 in
set_option maxRecDepth 100000 in
theorem k_X5_reach_0 {p : Program} {l : Launch} {e : Env} {s : State} {m : MethodId} {args : Array Value} {below : List Frame} {meth : Method} {c : Code} {D : va_G} {cy : Nat → ClassId} {A : Nat → Prop} {Q : Int32 → Mm → Prop} (E : Ex p m c cX5_reach 3 s args RX5 D cy A) (hr : meth.sig.returnType = (some .int)) (hlk : meth.locks = false) : ∀ (h0 : Nat) (x1 : Int32) (M : Mm) (H : Heap) (locs : List Loc) (ls : Array Slot), B_X5_reach_0 Q  h0 x1 M → Wd D cy A s M H locs → lh ls 3 [(0, rv (some h0)), (1, iv x1)] → W p l e (rmm 1 0 0) s m args below meth c H locs 0 0 (MQ below (va_Qi Q (Po D cy A) A) args s 0 0 A) (F0 m 0 ls []) := by
  obtain ⟨hx, hb, hml, hown, hts⟩ := E.1
  intro h0 x1 M H locs ls h w hl
  unfold B_X5_reach_0 at h
  refine lv_iload_n (x := x1) hx hb dX5_reach_0 rfl (lh_at hl 1 rfl) ?_
  refine lv_iconst (v := (5 : Int32)) hx hb dX5_reach_1 (by decide) ?_
  refine z_callSi E w yk_X5_isWithin ⟨Nat.le_of_ble_eq_true rfl, Nat.le_of_ble_eq_true rfl⟩ ⟨(Nat.zero_le _), (Nat.zero_le _)⟩ rfl ml_X5_81 st_X5_isWithin [iv x1, iv (5 : Int32)] rfl rfl hl [] rfl (Nat.le_of_ble_eq_true rfl) (K_X5_isWithin h) dX5_reach_2 (fun r2 M1 H locs h w => ?_)
  refine lv_if_ne (tgt := 10) hx hb dX5_reach_5 (by decide) (fun c3 => ?_) (fun c3 => ?_)
  · have h := h.1 c3
    refine r_aload_n (x := (some h0)) hx hb dX5_reach_10 rfl (lh_at hl 0 rfl) ?_
    obtain ⟨ho4, h⟩ := h
    refine r_getI E w rfl ho4 cl_X5 9 rfl fl_X5_40 dX5_reach_11 ?_
    refine r_istore_n (lv' := [(2, iv (gI M1 h0 9)), (0, rv (some h0)), (1, iv x1)]) hx hb dX5_reach_14 rfl hl (by decide) rfl (fun ls hl => ?_)
    refine r_aload_n (x := (some h0)) hx hb dX5_reach_15 rfl (lh_at hl 1 rfl) ?_
    refine lv_iload_n (x := x1) hx hb dX5_reach_16 rfl (lh_at hl 2 rfl) ?_
    refine r_putI (v := x1) E w rfl ho4 cl_X5 9 rfl fl_X5_40 (Or.inl rfl) (Or.inl rfl) dX5_reach_17 (fun H locs w => ?_)
    obtain ⟨M5, eM5⟩ : ∃ z, z = pI M1 h0 9 x1 := ⟨_, rfl⟩
    rw [← eM5] at w
    have h := h M5 eM5
    refine lv_iload_n (x := (gI M1 h0 9)) hx hb dX5_reach_20 rfl (lh_at hl 0 rfl) ?_
    exact r_iret E w hr hlk h (Nat.le_refl 0) (Nat.le_refl 0) dX5_reach_21
  · have h := h.2 c3
    refine lv_iconst (v := (-1 : Int32)) hx hb dX5_reach_8 (by decide) ?_
    exact r_iret E w hr hlk h (Nat.le_refl 0) (Nat.le_refl 0) dX5_reach_9
theorem K_X5_reach {l : Launch} {Q : Int32 → Mm → Prop} {h0 : Nat} {x1 : Int32} {M : Mm} (h : B_X5_reach_0 Q h0 x1 M) : KI l yX5_reach cdX5_reach (rmm 1 0 0) [rv (some h0), iv x1] M Q :=
  KI_of (by decide) rfl (Nat.le_of_ble_eq_true rfl) (fun p e s m args below meth c D cy A ls E hr hlk hn w hl => k_X5_reach_0 E hr hlk _ _ _ _ _ _ h w hl)
def B_X5_bringRowsUpToDate_2 (Q : Mm → Prop)  : Nat → Nat → Option Nat → Int32 → Mm → Prop
  | 0, _, _, _, _ => False
  | n + 1, h0, x1, x2, M => (((4 : Int32) ≤ x2 → Q M) ∧ (¬ (4 : Int32) ≤ x2 → (∃ a2, x1 = some a2 ∧ (ok M a2 4 ∧ (∃ a4, (gR M a2 1) = some a4 ∧ (ar M a4 10 x2 ∧ (∃ a6, (gR M a4 (Int32.toNatClampNeg x2)) = some a6 ∧ (ok M a6 3 ∧ (((gI M a6 1) = 0 → B_X5_bringRowsUpToDate_2 Q  n h0 x1 (x2 + 1) M) ∧ (¬ (gI M a6 1) = 0 → (ar M a4 10 x2 ∧ (ok M h0 5 ∧ (B_X5_bringUpToDate_0 (fun  M11 => B_X5_bringRowsUpToDate_2 Q  n h0 x1 (x2 + 1) M11) h0 (gR M a4 (Int32.toNatClampNeg x2)) M)))))))))))))
set_option maxHeartbeats 4000000 in
set_option maxRecDepth 100000 in
theorem k_X5_bringRowsUpToDate_2 {p : Program} {l : Launch} {e : Env} {s : State} {m : MethodId} {args : Array Value} {below : List Frame} {meth : Method} {c : Code} {D : va_G} {cy : Nat → ClassId} {A : Nat → Prop} {Q : Mm → Prop} (E : Ex p m c cX5_bringRowsUpToDate 3 s args RX5 D cy A) (hr : meth.sig.returnType = none) (hlk : meth.locks = false) : ∀ (n : Nat), ∀ (h0 : Nat) (x1 : Option Nat) (x2 : Int32) (M : Mm) (H : Heap) (locs : List Loc) (ls : Array Slot), B_X5_bringRowsUpToDate_2 Q  n h0 x1 x2 M → Wd D cy A s M H locs → lh ls 3 [(0, rv (some h0)), (1, rv x1), (2, iv x2)] → W p l e (rmm 5 0 0) s m args below meth c H locs 0 0 (MQ below (va_Qv Q (Po D cy A) A) args s 0 0 A) (F0 m 2 ls []) := by
  obtain ⟨hx, hb, hml, hown, hts⟩ := E.1
  intro n
  induction n with
  | zero => intro h0 x1 x2 M H locs ls h; exact False.elim h
  | succ n ih =>
    intro h0 x1 x2 M H locs ls h w hl
    unfold B_X5_bringRowsUpToDate_2 at h
    refine lv_iload_n (x := x2) hx hb dX5_bringRowsUpToDate_2 rfl (lh_at hl 2 rfl) ?_
    refine lv_iconst (v := (4 : Int32)) hx hb dX5_bringRowsUpToDate_3 (by decide) ?_
    refine lv_icmp_ge (tgt := 35) hx hb dX5_bringRowsUpToDate_4 (by decide) (fun c1 => ?_) (fun c1 => ?_)
    · have h := h.1 c1
      exact r_vret E w hr hlk h (Nat.le_refl 0) (Nat.le_refl 0) dX5_bringRowsUpToDate_35
    · have h := h.2 c1
      refine r_aload_n (x := x1) hx hb dX5_bringRowsUpToDate_7 rfl (lh_at hl 1 rfl) ?_
      obtain ⟨a2, ea2, h⟩ := h
      obtain ⟨ho3, h⟩ := h
      refine r_getR E w ea2 ho3 cl_X4 1 rfl fl_X5_218 dX5_bringRowsUpToDate_8 ?_
      refine lv_iload_n (x := x2) hx hb dX5_bringRowsUpToDate_11 rfl (lh_at hl 2 rfl) ?_
      obtain ⟨a4, ea4, h⟩ := h
      obtain ⟨ha5, h⟩ := h
      refine r_aald10 E w ea4 ha5 dX5_bringRowsUpToDate_12 ?_
      obtain ⟨a6, ea6, h⟩ := h
      obtain ⟨ho7, h⟩ := h
      refine r_getI E w ea6 ho7 cl_X3 1 rfl fl_X5_71 dX5_bringRowsUpToDate_13 ?_
      refine lv_if_eq (tgt := 29) hx hb dX5_bringRowsUpToDate_16 (by decide) (fun c8 => ?_) (fun c8 => ?_)
      · have h := h.1 c8
        refine r_iinc (k := 2) (x := x2) (v := (x2 + 1)) (lv' := [(2, iv (x2 + 1)), (0, rv (some h0)), (1, rv x1)]) hx hb dX5_bringRowsUpToDate_29 hl rfl rfl (by decide) rfl (fun ls hl => ?_)
        refine lv_goto (tgt := 2) hx hb dX5_bringRowsUpToDate_32 (by decide) ?_
        exact ih _ _ _ _ _ _ _ h w (lh_sub hl [1, 2, 0] rfl)
      · have h := h.2 c8
        refine r_aload_n (x := (some h0)) hx hb dX5_bringRowsUpToDate_19 rfl (lh_at hl 0 rfl) ?_
        refine r_aload_n (x := x1) hx hb dX5_bringRowsUpToDate_20 rfl (lh_at hl 1 rfl) ?_
        refine r_getR E w ea2 ho3 cl_X4 1 rfl fl_X5_218 dX5_bringRowsUpToDate_21 ?_
        refine lv_iload_n (x := x2) hx hb dX5_bringRowsUpToDate_24 rfl (lh_at hl 2 rfl) ?_
        obtain ⟨ha9, h⟩ := h
        refine r_aald10 E w ea4 ha9 dX5_bringRowsUpToDate_25 ?_
        obtain ⟨ho10, h⟩ := h
        refine z_callVv E w rfl ho10 cl_X5 yk_X5_bringUpToDate ⟨Nat.le_of_ble_eq_true rfl, Nat.le_of_ble_eq_true rfl⟩ ⟨(Nat.zero_le _), (Nat.zero_le _)⟩ rfl ml_X5_115 im_X5_bringUpToDate sl_X5_bringUpToDate [rv (gR M a4 (Int32.toNatClampNeg x2))] rfl rfl hl [] rfl (Nat.le_of_ble_eq_true rfl) (K_X5_bringUpToDate h) dX5_bringRowsUpToDate_26 (fun  M11 H locs h w => ?_)
        refine r_iinc (k := 2) (x := x2) (v := (x2 + 1)) (lv' := [(2, iv (x2 + 1)), (0, rv (some h0)), (1, rv x1)]) hx hb dX5_bringRowsUpToDate_29 hl rfl rfl (by decide) rfl (fun ls hl => ?_)
        refine lv_goto (tgt := 2) hx hb dX5_bringRowsUpToDate_32 (by decide) ?_
        exact ih _ _ _ _ _ _ _ h w (lh_sub hl [1, 2, 0] rfl)
def B_X5_bringRowsUpToDate_0 (Q : Mm → Prop)  (h0 : Nat) (x1 : Option Nat) (M : Mm) : Prop := (∃ n1, B_X5_bringRowsUpToDate_2 Q  n1 h0 x1 (0 : Int32) M)
set_option maxHeartbeats 4000000 in
set_option maxRecDepth 100000 in
theorem k_X5_bringRowsUpToDate_0 {p : Program} {l : Launch} {e : Env} {s : State} {m : MethodId} {args : Array Value} {below : List Frame} {meth : Method} {c : Code} {D : va_G} {cy : Nat → ClassId} {A : Nat → Prop} {Q : Mm → Prop} (E : Ex p m c cX5_bringRowsUpToDate 3 s args RX5 D cy A) (hr : meth.sig.returnType = none) (hlk : meth.locks = false) : ∀ (h0 : Nat) (x1 : Option Nat) (M : Mm) (H : Heap) (locs : List Loc) (ls : Array Slot), B_X5_bringRowsUpToDate_0 Q  h0 x1 M → Wd D cy A s M H locs → lh ls 3 [(0, rv (some h0)), (1, rv x1)] → W p l e (rmm 5 0 0) s m args below meth c H locs 0 0 (MQ below (va_Qv Q (Po D cy A) A) args s 0 0 A) (F0 m 0 ls []) := by
  obtain ⟨hx, hb, hml, hown, hts⟩ := E.1
  intro h0 x1 M H locs ls h w hl
  unfold B_X5_bringRowsUpToDate_0 at h
  refine lv_iconst (v := (0 : Int32)) hx hb dX5_bringRowsUpToDate_0 (by decide) ?_
  refine r_istore_n (lv' := [(2, iv (0 : Int32)), (0, rv (some h0)), (1, rv x1)]) hx hb dX5_bringRowsUpToDate_1 rfl hl (by decide) rfl (fun ls hl => ?_)
  obtain ⟨n1, h⟩ := h
  exact k_X5_bringRowsUpToDate_2 E hr hlk  n1 _ _ _ _ _ _ _ h w (lh_sub hl [1, 2, 0] rfl)
theorem K_X5_bringRowsUpToDate {l : Launch} {Q : Mm → Prop} {h0 : Nat} {x1 : Option Nat} {M : Mm} (h : B_X5_bringRowsUpToDate_0 Q h0 x1 M) : KV l yX5_bringRowsUpToDate cdX5_bringRowsUpToDate (rmm 5 0 0) [rv (some h0), rv x1] M Q :=
  KV_of (by decide) rfl (Nat.le_of_ble_eq_true rfl) (fun p e s m args below meth c D cy A ls E hr hlk hn w hl => k_X5_bringRowsUpToDate_0 E hr hlk _ _ _ _ _ _ h w hl)
def B_X5_isItsOwn_33 (Q : Int32 → Mm → Prop)  : Nat → Nat → Option Nat → Int32 → Int32 → Int32 → Int32 → Int32 → Mm → Prop
  | 0, _, _, _, _, _, _, _, _ => False
  | n + 1, h0, x1, x2, x5, x6, x7, x8, M => (((4 : Int32) ≤ x8 → (bl x7 ∧ Q x7 M)) ∧ (¬ (4 : Int32) ≤ x8 → (∃ a2, x1 = some a2 ∧ (ok M a2 4 ∧ (∃ a4, (gR M a2 1) = some a4 ∧ (ar M a4 10 x8 ∧ ((x8 = x2 → B_X5_isItsOwn_33 Q  n h0 x1 x2 x5 x6 x7 (x8 + 1) M) ∧ (¬ x8 = x2 → (∃ a7, (gR M a4 (Int32.toNatClampNeg x8)) = some a7 ∧ (ok M a7 3 ∧ ((¬ (gI M a7 1) = 0 → (ok M h0 5 ∧ (B_X3_stepsNear_0 (fun r12 M11 => ((r12 = 0 → ((¬ x7 = 0 → B_X5_isItsOwn_33 Q  n h0 x1 x2 x5 x6 (1 : Int32) (x8 + 1) M11) ∧ (x7 = 0 → (ok M11 a7 3 ∧ (B_X3_isMeasuredAround_0 (fun r17 M16 => ((r17 = 0 → B_X5_isItsOwn_33 Q  n h0 x1 x2 x5 x6 (0 : Int32) (x8 + 1) M16) ∧ (¬ r17 = 0 → B_X5_isItsOwn_33 Q  n h0 x1 x2 x5 x6 (1 : Int32) (x8 + 1) M16))) a7 x5 M11))))) ∧ (¬ r12 = 0 → Q (0 : Int32) M11))) a7 x5 (gI M h0 9) x6 M))) ∧ ((gI M a7 1) = 0 → B_X5_isItsOwn_33 Q  n h0 x1 x2 x5 x6 x7 (x8 + 1) M))))))))))))
set_option maxHeartbeats 4000000 in
set_option maxRecDepth 100000 in
theorem k_X5_isItsOwn_33 {p : Program} {l : Launch} {e : Env} {s : State} {m : MethodId} {args : Array Value} {below : List Frame} {meth : Method} {c : Code} {D : va_G} {cy : Nat → ClassId} {A : Nat → Prop} {Q : Int32 → Mm → Prop} (E : Ex p m c cX5_isItsOwn 10 s args RX5 D cy A) (hr : meth.sig.returnType = (some .boolean)) (hlk : meth.locks = false) : ∀ (n : Nat), ∀ (h0 : Nat) (x1 : Option Nat) (x2 : Int32) (x5 : Int32) (x6 : Int32) (x7 : Int32) (x8 : Int32) (M : Mm) (H : Heap) (locs : List Loc) (ls : Array Slot), B_X5_isItsOwn_33 Q  n h0 x1 x2 x5 x6 x7 x8 M → Wd D cy A s M H locs → lh ls 10 [(0, rv (some h0)), (1, rv x1), (2, iv x2), (5, iv x5), (6, iv x6), (7, iv x7), (8, iv x8)] → W p l e (rmm 2 0 0) s m args below meth c H locs 0 0 (MQ below (va_Qi Q (Po D cy A) A) args s 0 0 A) (F0 m 33 ls []) := by
  obtain ⟨hx, hb, hml, hown, hts⟩ := E.1
  intro n
  induction n with
  | zero => intro h0 x1 x2 x5 x6 x7 x8 M H locs ls h; exact False.elim h
  | succ n ih =>
    intro h0 x1 x2 x5 x6 x7 x8 M H locs ls h w hl
    unfold B_X5_isItsOwn_33 at h
    refine lv_iload (x := x8) hx hb dX5_isItsOwn_33 (lh_at hl 6 rfl) ?_
    refine lv_iconst (v := (4 : Int32)) hx hb dX5_isItsOwn_35 (by decide) ?_
    refine lv_icmp_ge (tgt := 111) hx hb dX5_isItsOwn_36 (by decide) (fun c1 => ?_) (fun c1 => ?_)
    · have h := h.1 c1
      refine lv_iload (x := x7) hx hb dX5_isItsOwn_111 (lh_at hl 5 rfl) ?_
      exact r_zret E w hr hlk h (Nat.le_refl 0) (Nat.le_refl 0) dX5_isItsOwn_113
    · have h := h.2 c1
      refine r_aload_n (x := x1) hx hb dX5_isItsOwn_39 rfl (lh_at hl 1 rfl) ?_
      obtain ⟨a2, ea2, h⟩ := h
      obtain ⟨ho3, h⟩ := h
      refine r_getR E w ea2 ho3 cl_X4 1 rfl fl_X5_218 dX5_isItsOwn_40 ?_
      refine lv_iload (x := x8) hx hb dX5_isItsOwn_43 (lh_at hl 6 rfl) ?_
      obtain ⟨a4, ea4, h⟩ := h
      obtain ⟨ha5, h⟩ := h
      refine r_aald10 E w ea4 ha5 dX5_isItsOwn_45 ?_
      refine r_astore (lv' := [(9, rv (gR M a4 (Int32.toNatClampNeg x8))), (0, rv (some h0)), (1, rv x1), (2, iv x2), (5, iv x5), (6, iv x6), (7, iv x7), (8, iv x8)]) hx hb dX5_isItsOwn_46 hl (by decide) rfl (fun ls hl => ?_)
      refine lv_iload (x := x8) hx hb dX5_isItsOwn_48 (lh_at hl 7 rfl) ?_
      refine lv_iload_n (x := x2) hx hb dX5_isItsOwn_50 rfl (lh_at hl 3 rfl) ?_
      refine lv_icmp_eq (tgt := 105) hx hb dX5_isItsOwn_51 (by decide) (fun c6 => ?_) (fun c6 => ?_)
      · have h := h.1 c6
        refine r_iinc (k := 7) (x := x8) (v := (x8 + 1)) (lv' := [(8, iv (x8 + 1)), (9, rv (gR M a4 (Int32.toNatClampNeg x8))), (0, rv (some h0)), (1, rv x1), (2, iv x2), (5, iv x5), (6, iv x6), (7, iv x7)]) hx hb dX5_isItsOwn_105 hl rfl rfl (by decide) rfl (fun ls hl => ?_)
        refine lv_goto (tgt := 33) hx hb dX5_isItsOwn_108 (by decide) ?_
        exact ih _ _ _ _ _ _ _ _ _ _ _ h w (lh_sub hl [2, 3, 4, 5, 6, 7, 0] rfl)
      · have h := h.2 c6
        refine r_aload (x := (gR M a4 (Int32.toNatClampNeg x8))) hx hb dX5_isItsOwn_54 (lh_at hl 0 rfl) ?_
        obtain ⟨a7, ea7, h⟩ := h
        obtain ⟨ho8, h⟩ := h
        refine r_getI E w ea7 ho8 cl_X3 1 rfl fl_X5_71 dX5_isItsOwn_56 ?_
        refine lv_if_ne (tgt := 65) hx hb dX5_isItsOwn_59 (by decide) (fun c9 => ?_) (fun c9 => ?_)
        · have h := h.1 c9
          refine r_aload (x := (gR M a4 (Int32.toNatClampNeg x8))) hx hb dX5_isItsOwn_65 (lh_at hl 0 rfl) ?_
          refine lv_iload (x := x5) hx hb dX5_isItsOwn_67 (lh_at hl 4 rfl) ?_
          refine r_aload_n (x := (some h0)) hx hb dX5_isItsOwn_69 rfl (lh_at hl 1 rfl) ?_
          obtain ⟨ho10, h⟩ := h
          refine r_getI E w rfl ho10 cl_X5 9 rfl fl_X5_40 dX5_isItsOwn_70 ?_
          refine lv_iload (x := x6) hx hb dX5_isItsOwn_73 (lh_at hl 5 rfl) ?_
          refine z_callVi E w ea7 ho8 cl_X3 yk_X3_stepsNear ⟨Nat.le_of_ble_eq_true rfl, Nat.le_of_ble_eq_true rfl⟩ ⟨(Nat.zero_le _), (Nat.zero_le _)⟩ rfl ml_X5_253 im_X3_stepsNear sl_X3_stepsNear [iv x5, iv (gI M h0 9), iv x6] rfl rfl hl [] rfl (Nat.le_of_ble_eq_true rfl) (K_X3_stepsNear h) dX5_isItsOwn_75 (fun r12 M11 H locs h w => ?_)
          refine lv_if_eq (tgt := 83) hx hb dX5_isItsOwn_78 (by decide) (fun c13 => ?_) (fun c13 => ?_)
          · have h := h.1 c13
            refine lv_iload (x := x7) hx hb dX5_isItsOwn_83 (lh_at hl 6 rfl) ?_
            refine lv_if_ne (tgt := 98) hx hb dX5_isItsOwn_85 (by decide) (fun c14 => ?_) (fun c14 => ?_)
            · have h := h.1 c14
              refine lv_iconst (v := (1 : Int32)) hx hb dX5_isItsOwn_98 (by decide) ?_
              refine lv_goto (tgt := 103) hx hb dX5_isItsOwn_99 (by decide) ?_
              refine r_istore (lv' := [(7, iv (1 : Int32)), (9, rv (gR M a4 (Int32.toNatClampNeg x8))), (0, rv (some h0)), (1, rv x1), (2, iv x2), (5, iv x5), (6, iv x6), (8, iv x8)]) hx hb dX5_isItsOwn_103 hl (by decide) rfl (fun ls hl => ?_)
              refine r_iinc (k := 7) (x := x8) (v := (x8 + 1)) (lv' := [(8, iv (x8 + 1)), (7, iv (1 : Int32)), (9, rv (gR M a4 (Int32.toNatClampNeg x8))), (0, rv (some h0)), (1, rv x1), (2, iv x2), (5, iv x5), (6, iv x6)]) hx hb dX5_isItsOwn_105 hl rfl rfl (by decide) rfl (fun ls hl => ?_)
              refine lv_goto (tgt := 33) hx hb dX5_isItsOwn_108 (by decide) ?_
              exact ih _ _ _ _ _ _ _ _ _ _ _ h w (lh_sub hl [3, 4, 5, 6, 7, 1, 0] rfl)
            · have h := h.2 c14
              refine r_aload (x := (gR M a4 (Int32.toNatClampNeg x8))) hx hb dX5_isItsOwn_88 (lh_at hl 0 rfl) ?_
              refine lv_iload (x := x5) hx hb dX5_isItsOwn_90 (lh_at hl 4 rfl) ?_
              obtain ⟨ho15, h⟩ := h
              refine z_callVi E w ea7 ho15 cl_X3 yk_X3_isMeasuredAround ⟨Nat.le_of_ble_eq_true rfl, Nat.le_of_ble_eq_true rfl⟩ ⟨(Nat.zero_le _), (Nat.zero_le _)⟩ rfl ml_X5_257 im_X3_isMeasuredAround sl_X3_isMeasuredAround [iv x5] rfl rfl hl [] rfl (Nat.le_of_ble_eq_true rfl) (K_X3_isMeasuredAround h) dX5_isItsOwn_92 (fun r17 M16 H locs h w => ?_)
              refine lv_if_eq (tgt := 102) hx hb dX5_isItsOwn_95 (by decide) (fun c18 => ?_) (fun c18 => ?_)
              · have h := h.1 c18
                refine lv_iconst (v := (0 : Int32)) hx hb dX5_isItsOwn_102 (by decide) ?_
                refine r_istore (lv' := [(7, iv (0 : Int32)), (9, rv (gR M a4 (Int32.toNatClampNeg x8))), (0, rv (some h0)), (1, rv x1), (2, iv x2), (5, iv x5), (6, iv x6), (8, iv x8)]) hx hb dX5_isItsOwn_103 hl (by decide) rfl (fun ls hl => ?_)
                refine r_iinc (k := 7) (x := x8) (v := (x8 + 1)) (lv' := [(8, iv (x8 + 1)), (7, iv (0 : Int32)), (9, rv (gR M a4 (Int32.toNatClampNeg x8))), (0, rv (some h0)), (1, rv x1), (2, iv x2), (5, iv x5), (6, iv x6)]) hx hb dX5_isItsOwn_105 hl rfl rfl (by decide) rfl (fun ls hl => ?_)
                refine lv_goto (tgt := 33) hx hb dX5_isItsOwn_108 (by decide) ?_
                exact ih _ _ _ _ _ _ _ _ _ _ _ h w (lh_sub hl [3, 4, 5, 6, 7, 1, 0] rfl)
              · have h := h.2 c18
                refine lv_iconst (v := (1 : Int32)) hx hb dX5_isItsOwn_98 (by decide) ?_
                refine lv_goto (tgt := 103) hx hb dX5_isItsOwn_99 (by decide) ?_
                refine r_istore (lv' := [(7, iv (1 : Int32)), (9, rv (gR M a4 (Int32.toNatClampNeg x8))), (0, rv (some h0)), (1, rv x1), (2, iv x2), (5, iv x5), (6, iv x6), (8, iv x8)]) hx hb dX5_isItsOwn_103 hl (by decide) rfl (fun ls hl => ?_)
                refine r_iinc (k := 7) (x := x8) (v := (x8 + 1)) (lv' := [(8, iv (x8 + 1)), (7, iv (1 : Int32)), (9, rv (gR M a4 (Int32.toNatClampNeg x8))), (0, rv (some h0)), (1, rv x1), (2, iv x2), (5, iv x5), (6, iv x6)]) hx hb dX5_isItsOwn_105 hl rfl rfl (by decide) rfl (fun ls hl => ?_)
                refine lv_goto (tgt := 33) hx hb dX5_isItsOwn_108 (by decide) ?_
                exact ih _ _ _ _ _ _ _ _ _ _ _ h w (lh_sub hl [3, 4, 5, 6, 7, 1, 0] rfl)
          · have h := h.2 c13
            refine lv_iconst (v := (0 : Int32)) hx hb dX5_isItsOwn_81 (by decide) ?_
            exact r_zret E w hr hlk ⟨Or.inl rfl, h⟩ (Nat.le_refl 0) (Nat.le_refl 0) dX5_isItsOwn_82
        · have h := h.2 c9
          refine lv_goto (tgt := 105) hx hb dX5_isItsOwn_62 (by decide) ?_
          refine r_iinc (k := 7) (x := x8) (v := (x8 + 1)) (lv' := [(8, iv (x8 + 1)), (9, rv (gR M a4 (Int32.toNatClampNeg x8))), (0, rv (some h0)), (1, rv x1), (2, iv x2), (5, iv x5), (6, iv x6), (7, iv x7)]) hx hb dX5_isItsOwn_105 hl rfl rfl (by decide) rfl (fun ls hl => ?_)
          refine lv_goto (tgt := 33) hx hb dX5_isItsOwn_108 (by decide) ?_
          exact ih _ _ _ _ _ _ _ _ _ _ _ h w (lh_sub hl [2, 3, 4, 5, 6, 7, 0] rfl)
def B_X5_isItsOwn_0 (Q : Int32 → Mm → Prop)  (h0 : Nat) (x1 : Option Nat) (x2 : Int32) (x3 : Int32) (M : Mm) : Prop := (∃ a1, x1 = some a1 ∧ (ok M a1 4 ∧ (∃ a3, (gR M a1 1) = some a3 ∧ (ar M a3 10 x2 ∧ (∃ a5, (gR M a3 (Int32.toNatClampNeg x2)) = some a5 ∧ (ok M a5 3 ∧ (B_X3_cutBuild_0 (fun r8 M7 => (ok M7 a5 3 ∧ (B_X3_stepSize_0 (fun r11 M10 => (B_J6_signum_0f7a4_0 (fun r13 M12 => (∃ n14, B_X5_isItsOwn_33 Q  n14 h0 x1 x2 r8 r13 (0 : Int32) (0 : Int32) M12)) r11 M10)) a5 x3 M7))) a5 x3 M)))))))
set_option maxHeartbeats 4000000 in
set_option maxRecDepth 100000 in
theorem k_X5_isItsOwn_0 {p : Program} {l : Launch} {e : Env} {s : State} {m : MethodId} {args : Array Value} {below : List Frame} {meth : Method} {c : Code} {D : va_G} {cy : Nat → ClassId} {A : Nat → Prop} {Q : Int32 → Mm → Prop} (E : Ex p m c cX5_isItsOwn 10 s args RX5 D cy A) (hr : meth.sig.returnType = (some .boolean)) (hlk : meth.locks = false) : ∀ (h0 : Nat) (x1 : Option Nat) (x2 : Int32) (x3 : Int32) (M : Mm) (H : Heap) (locs : List Loc) (ls : Array Slot), B_X5_isItsOwn_0 Q  h0 x1 x2 x3 M → Wd D cy A s M H locs → lh ls 10 [(0, rv (some h0)), (1, rv x1), (2, iv x2), (3, iv x3)] → W p l e (rmm 2 0 0) s m args below meth c H locs 0 0 (MQ below (va_Qi Q (Po D cy A) A) args s 0 0 A) (F0 m 0 ls []) := by
  obtain ⟨hx, hb, hml, hown, hts⟩ := E.1
  intro h0 x1 x2 x3 M H locs ls h w hl
  unfold B_X5_isItsOwn_0 at h
  refine r_aload_n (x := x1) hx hb dX5_isItsOwn_0 rfl (lh_at hl 1 rfl) ?_
  obtain ⟨a1, ea1, h⟩ := h
  obtain ⟨ho2, h⟩ := h
  refine r_getR E w ea1 ho2 cl_X4 1 rfl fl_X5_218 dX5_isItsOwn_1 ?_
  refine lv_iload_n (x := x2) hx hb dX5_isItsOwn_4 rfl (lh_at hl 2 rfl) ?_
  obtain ⟨a3, ea3, h⟩ := h
  obtain ⟨ha4, h⟩ := h
  refine r_aald10 E w ea3 ha4 dX5_isItsOwn_5 ?_
  refine r_astore (lv' := [(4, rv (gR M a3 (Int32.toNatClampNeg x2))), (0, rv (some h0)), (1, rv x1), (2, iv x2), (3, iv x3)]) hx hb dX5_isItsOwn_6 hl (by decide) rfl (fun ls hl => ?_)
  refine r_aload (x := (gR M a3 (Int32.toNatClampNeg x2))) hx hb dX5_isItsOwn_8 (lh_at hl 0 rfl) ?_
  refine lv_iload_n (x := x3) hx hb dX5_isItsOwn_10 rfl (lh_at hl 4 rfl) ?_
  obtain ⟨a5, ea5, h⟩ := h
  obtain ⟨ho6, h⟩ := h
  refine z_callVi E w ea5 ho6 cl_X3 yk_X3_cutBuild ⟨Nat.le_of_ble_eq_true rfl, Nat.le_of_ble_eq_true rfl⟩ ⟨(Nat.zero_le _), (Nat.zero_le _)⟩ rfl ml_X5_132 im_X3_cutBuild sl_X3_cutBuild [iv x3] rfl rfl hl [] rfl (Nat.le_of_ble_eq_true rfl) (K_X3_cutBuild h) dX5_isItsOwn_11 (fun r8 M7 H locs h w => ?_)
  refine r_istore (lv' := [(5, iv r8), (4, rv (gR M a3 (Int32.toNatClampNeg x2))), (0, rv (some h0)), (1, rv x1), (2, iv x2), (3, iv x3)]) hx hb dX5_isItsOwn_14 hl (by decide) rfl (fun ls hl => ?_)
  refine r_aload (x := (gR M a3 (Int32.toNatClampNeg x2))) hx hb dX5_isItsOwn_16 (lh_at hl 1 rfl) ?_
  refine lv_iload_n (x := x3) hx hb dX5_isItsOwn_18 rfl (lh_at hl 5 rfl) ?_
  obtain ⟨ho9, h⟩ := h
  refine z_callVi E w ea5 ho9 cl_X3 yk_X3_stepSize ⟨Nat.le_of_ble_eq_true rfl, Nat.le_of_ble_eq_true rfl⟩ ⟨(Nat.zero_le _), (Nat.zero_le _)⟩ rfl ml_X5_141 im_X3_stepSize sl_X3_stepSize [iv x3] rfl rfl hl [] rfl (Nat.le_of_ble_eq_true rfl) (K_X3_stepSize h) dX5_isItsOwn_19 (fun r11 M10 H locs h w => ?_)
  refine z_callTi E w yk_J6_signum_0f7a4 ⟨Nat.le_of_ble_eq_true rfl, Nat.le_of_ble_eq_true rfl⟩ ⟨(Nat.zero_le _), (Nat.zero_le _)⟩ ml_X5_248 st_J6_signum_0f7a4 [iv r11] rfl rfl hl [] rfl (Nat.le_of_ble_eq_true rfl) (K_J6_signum_0f7a4 h) dX5_isItsOwn_22 (fun r13 M12 H locs h w => ?_)
  refine r_istore (lv' := [(6, iv r13), (5, iv r8), (4, rv (gR M a3 (Int32.toNatClampNeg x2))), (0, rv (some h0)), (1, rv x1), (2, iv x2), (3, iv x3)]) hx hb dX5_isItsOwn_25 hl (by decide) rfl (fun ls hl => ?_)
  refine lv_iconst (v := (0 : Int32)) hx hb dX5_isItsOwn_27 (by decide) ?_
  refine r_istore (lv' := [(7, iv (0 : Int32)), (6, iv r13), (5, iv r8), (4, rv (gR M a3 (Int32.toNatClampNeg x2))), (0, rv (some h0)), (1, rv x1), (2, iv x2), (3, iv x3)]) hx hb dX5_isItsOwn_28 hl (by decide) rfl (fun ls hl => ?_)
  refine lv_iconst (v := (0 : Int32)) hx hb dX5_isItsOwn_30 (by decide) ?_
  refine r_istore (lv' := [(8, iv (0 : Int32)), (7, iv (0 : Int32)), (6, iv r13), (5, iv r8), (4, rv (gR M a3 (Int32.toNatClampNeg x2))), (0, rv (some h0)), (1, rv x1), (2, iv x2), (3, iv x3)]) hx hb dX5_isItsOwn_31 hl (by decide) rfl (fun ls hl => ?_)
  obtain ⟨n14, h⟩ := h
  exact k_X5_isItsOwn_33 E hr hlk  n14 _ _ _ _ _ _ _ _ _ _ _ h w (lh_sub hl [5, 6, 7, 3, 2, 1, 0] rfl)
theorem K_X5_isItsOwn {l : Launch} {Q : Int32 → Mm → Prop} {h0 : Nat} {x1 : Option Nat} {x2 : Int32} {x3 : Int32} {M : Mm} (h : B_X5_isItsOwn_0 Q h0 x1 x2 x3 M) : KI l yX5_isItsOwn cdX5_isItsOwn (rmm 2 0 0) [rv (some h0), rv x1, iv x2, iv x3] M Q :=
  KI_of (by decide) rfl (Nat.le_of_ble_eq_true rfl) (fun p e s m args below meth c D cy A ls E hr hlk hn w hl => k_X5_isItsOwn_0 E hr hlk _ _ _ _ _ _ _ _ h w hl)
def B_X5_own_33 (Q : Int32 → Mm → Prop)  (h0 : Nat) (x5 : Option Nat) (M : Mm) : Prop := (ok M h0 5 ∧ (B_X5_refuseRow_0 (fun r3 M2 => Q r3 M2) h0 x5 M))
set_option maxHeartbeats 4000000 in
set_option maxRecDepth 100000 in
theorem k_X5_own_33 {p : Program} {l : Launch} {e : Env} {s : State} {m : MethodId} {args : Array Value} {below : List Frame} {meth : Method} {c : Code} {D : va_G} {cy : Nat → ClassId} {A : Nat → Prop} {Q : Int32 → Mm → Prop} (E : Ex p m c cX5_own 6 s args RX5 D cy A) (hr : meth.sig.returnType = (some .int)) (hlk : meth.locks = false) : ∀ (h0 : Nat) (x5 : Option Nat) (M : Mm) (H : Heap) (locs : List Loc) (ls : Array Slot), B_X5_own_33 Q  h0 x5 M → Wd D cy A s M H locs → lh ls 6 [(0, rv (some h0)), (5, rv x5)] → W p l e (rmm 6 0 0) s m args below meth c H locs 0 0 (MQ below (va_Qi Q (Po D cy A) A) args s 0 0 A) (F0 m 33 ls []) := by
  obtain ⟨hx, hb, hml, hown, hts⟩ := E.1
  intro h0 x5 M H locs ls h w hl
  unfold B_X5_own_33 at h
  refine r_aload_n (x := (some h0)) hx hb dX5_own_33 rfl (lh_at hl 0 rfl) ?_
  refine r_aload (x := x5) hx hb dX5_own_34 (lh_at hl 1 rfl) ?_
  obtain ⟨ho1, h⟩ := h
  refine z_callVi E w rfl ho1 cl_X5 yk_X5_refuseRow ⟨Nat.le_of_ble_eq_true rfl, Nat.le_of_ble_eq_true rfl⟩ ⟨(Nat.zero_le _), (Nat.zero_le _)⟩ rfl ml_X5_98 im_X5_refuseRow sl_X5_refuseRow [rv x5] rfl rfl hl [] rfl (Nat.le_of_ble_eq_true rfl) (K_X5_refuseRow h) dX5_own_36 (fun r3 M2 H locs h w => ?_)
  exact r_iret E w hr hlk h (Nat.le_refl 0) (Nat.le_refl 0) dX5_own_39
def B_X5_own_0 (Q : Int32 → Mm → Prop)  (h0 : Nat) (x1 : Int32) (x2 : Int32) (x3 : Int32) (M : Mm) : Prop := (ok M h0 5 ∧ (B_X5_findTest_0 (fun r3 M2 => (ok M2 h0 5 ∧ (B_X5_findRow_0 (fun r6 M5 => ((r3 = none → B_X5_own_33 Q  h0 r6 M5) ∧ (∀ a7, r3 = some a7 → ((r6 = none → B_X5_own_33 Q  h0 r6 M5) ∧ (∀ a9, r6 = some a9 → (ok M5 a9 3 ∧ ((¬ (gI M5 a9 1) = 0 → (ok M5 h0 5 ∧ (B_X5_bringRowsUpToDate_0 (fun  M14 => (ok M14 a9 3 ∧ (B_X3_hasCut_0 (fun r17 M16 => ((¬ r17 = 0 → (ok M16 h0 5 ∧ (B_X5_isItsOwn_0 (fun r21 M20 => ((r21 = 0 → Q (0 : Int32) M20) ∧ (¬ r21 = 0 → Q (1 : Int32) M20))) h0 r3 x2 x3 M16))) ∧ (r17 = 0 → Q (-9 : Int32) M16))) a9 x3 M14))) h0 r3 M5))) ∧ ((gI M5 a9 1) = 0 → B_X5_own_33 Q  h0 r6 M5)))))))) h0 x1 x2 M2))) h0 x1 M))
set_option maxHeartbeats 4000000 in
set_option maxRecDepth 100000 in
theorem k_X5_own_0 {p : Program} {l : Launch} {e : Env} {s : State} {m : MethodId} {args : Array Value} {below : List Frame} {meth : Method} {c : Code} {D : va_G} {cy : Nat → ClassId} {A : Nat → Prop} {Q : Int32 → Mm → Prop} (E : Ex p m c cX5_own 6 s args RX5 D cy A) (hr : meth.sig.returnType = (some .int)) (hlk : meth.locks = false) : ∀ (h0 : Nat) (x1 : Int32) (x2 : Int32) (x3 : Int32) (M : Mm) (H : Heap) (locs : List Loc) (ls : Array Slot), B_X5_own_0 Q  h0 x1 x2 x3 M → Wd D cy A s M H locs → lh ls 6 [(0, rv (some h0)), (1, iv x1), (2, iv x2), (3, iv x3)] → W p l e (rmm 6 0 0) s m args below meth c H locs 0 0 (MQ below (va_Qi Q (Po D cy A) A) args s 0 0 A) (F0 m 0 ls []) := by
  obtain ⟨hx, hb, hml, hown, hts⟩ := E.1
  intro h0 x1 x2 x3 M H locs ls h w hl
  unfold B_X5_own_0 at h
  refine r_aload_n (x := (some h0)) hx hb dX5_own_0 rfl (lh_at hl 0 rfl) ?_
  refine lv_iload_n (x := x1) hx hb dX5_own_1 rfl (lh_at hl 1 rfl) ?_
  obtain ⟨ho1, h⟩ := h
  refine z_callVq E w rfl ho1 cl_X5 yk_X5_findTest ⟨Nat.le_of_ble_eq_true rfl, Nat.le_of_ble_eq_true rfl⟩ ⟨(Nat.zero_le _), (Nat.zero_le _)⟩ rfl ml_X5_60 im_X5_findTest sl_X5_findTest [iv x1] rfl rfl hl [] rfl (Nat.le_of_ble_eq_true rfl) (K_X5_findTest h) dX5_own_2 (fun r3 M2 H locs h w => ?_)
  refine r_astore (lv' := [(4, rv r3), (0, rv (some h0)), (1, iv x1), (2, iv x2), (3, iv x3)]) hx hb dX5_own_5 hl (by decide) rfl (fun ls hl => ?_)
  refine r_aload_n (x := (some h0)) hx hb dX5_own_7 rfl (lh_at hl 1 rfl) ?_
  refine lv_iload_n (x := x1) hx hb dX5_own_8 rfl (lh_at hl 2 rfl) ?_
  refine lv_iload_n (x := x2) hx hb dX5_own_9 rfl (lh_at hl 3 rfl) ?_
  obtain ⟨ho4, h⟩ := h
  refine z_callVq E w rfl ho4 cl_X5 yk_X5_findRow ⟨Nat.le_of_ble_eq_true rfl, Nat.le_of_ble_eq_true rfl⟩ ⟨(Nat.zero_le _), (Nat.zero_le _)⟩ rfl ml_X5_67 im_X5_findRow sl_X5_findRow [iv x1, iv x2] rfl rfl hl [] rfl (Nat.le_of_ble_eq_true rfl) (K_X5_findRow h) dX5_own_10 (fun r6 M5 H locs h w => ?_)
  refine r_astore (lv' := [(5, rv r6), (4, rv r3), (0, rv (some h0)), (1, iv x1), (2, iv x2), (3, iv x3)]) hx hb dX5_own_13 hl (by decide) rfl (fun ls hl => ?_)
  refine r_aload (x := r3) hx hb dX5_own_15 (lh_at hl 1 rfl) ?_
  refine r_ifnull (tgt := 33) hx hb dX5_own_17 (by decide) (fun c8 => ?_) (fun a7 ea7 => ?_)
  · have h := h.1 c8
    exact k_X5_own_33 E hr hlk  _ _ _ _ _ _ h w (lh_sub hl [2, 0] rfl)
  · have h := h.2 a7 ea7
    refine r_aload (x := r6) hx hb dX5_own_20 (lh_at hl 0 rfl) ?_
    refine r_ifnull (tgt := 33) hx hb dX5_own_22 (by decide) (fun c10 => ?_) (fun a9 ea9 => ?_)
    · have h := h.1 c10
      exact k_X5_own_33 E hr hlk  _ _ _ _ _ _ h w (lh_sub hl [2, 0] rfl)
    · have h := h.2 a9 ea9
      refine r_aload (x := r6) hx hb dX5_own_25 (lh_at hl 0 rfl) ?_
      obtain ⟨ho11, h⟩ := h
      refine r_getI E w ea9 ho11 cl_X3 1 rfl fl_X5_71 dX5_own_27 ?_
      refine lv_if_ne (tgt := 40) hx hb dX5_own_30 (by decide) (fun c12 => ?_) (fun c12 => ?_)
      · have h := h.1 c12
        refine r_aload_n (x := (some h0)) hx hb dX5_own_40 rfl (lh_at hl 2 rfl) ?_
        refine r_aload (x := r3) hx hb dX5_own_41 (lh_at hl 1 rfl) ?_
        obtain ⟨ho13, h⟩ := h
        refine z_callVv E w rfl ho13 cl_X5 yk_X5_bringRowsUpToDate ⟨Nat.le_of_ble_eq_true rfl, Nat.le_of_ble_eq_true rfl⟩ ⟨(Nat.zero_le _), (Nat.zero_le _)⟩ rfl ml_X5_144 im_X5_bringRowsUpToDate sl_X5_bringRowsUpToDate [rv r3] rfl rfl hl [] rfl (Nat.le_of_ble_eq_true rfl) (K_X5_bringRowsUpToDate h) dX5_own_43 (fun  M14 H locs h w => ?_)
        refine r_aload (x := r6) hx hb dX5_own_46 (lh_at hl 0 rfl) ?_
        refine lv_iload_n (x := x3) hx hb dX5_own_48 rfl (lh_at hl 5 rfl) ?_
        obtain ⟨ho15, h⟩ := h
        refine z_callVi E w ea9 ho15 cl_X3 yk_X3_hasCut ⟨Nat.le_of_ble_eq_true rfl, Nat.le_of_ble_eq_true rfl⟩ ⟨(Nat.zero_le _), (Nat.zero_le _)⟩ rfl ml_X5_129 im_X3_hasCut sl_X3_hasCut [iv x3] rfl rfl hl [] rfl (Nat.le_of_ble_eq_true rfl) (K_X3_hasCut h) dX5_own_49 (fun r17 M16 H locs h w => ?_)
        refine lv_if_ne (tgt := 58) hx hb dX5_own_52 (by decide) (fun c18 => ?_) (fun c18 => ?_)
        · have h := h.1 c18
          refine r_aload_n (x := (some h0)) hx hb dX5_own_58 rfl (lh_at hl 2 rfl) ?_
          refine r_aload (x := r3) hx hb dX5_own_59 (lh_at hl 1 rfl) ?_
          refine lv_iload_n (x := x2) hx hb dX5_own_61 rfl (lh_at hl 4 rfl) ?_
          refine lv_iload_n (x := x3) hx hb dX5_own_62 rfl (lh_at hl 5 rfl) ?_
          obtain ⟨ho19, h⟩ := h
          refine z_callVi E w rfl ho19 cl_X5 yk_X5_isItsOwn ⟨Nat.le_of_ble_eq_true rfl, Nat.le_of_ble_eq_true rfl⟩ ⟨(Nat.zero_le _), (Nat.zero_le _)⟩ rfl ml_X5_148 im_X5_isItsOwn sl_X5_isItsOwn [rv r3, iv x2, iv x3] rfl rfl hl [] rfl (Nat.le_of_ble_eq_true rfl) (K_X5_isItsOwn h) dX5_own_63 (fun r21 M20 H locs h w => ?_)
          refine lv_if_eq (tgt := 73) hx hb dX5_own_66 (by decide) (fun c22 => ?_) (fun c22 => ?_)
          · have h := h.1 c22
            refine lv_iconst (v := (0 : Int32)) hx hb dX5_own_73 (by decide) ?_
            exact r_iret E w hr hlk h (Nat.le_refl 0) (Nat.le_refl 0) dX5_own_74
          · have h := h.2 c22
            refine lv_iconst (v := (1 : Int32)) hx hb dX5_own_69 (by decide) ?_
            refine lv_goto (tgt := 74) hx hb dX5_own_70 (by decide) ?_
            exact r_iret E w hr hlk h (Nat.le_refl 0) (Nat.le_refl 0) dX5_own_74
        · have h := h.2 c18
          refine lv_bipush (v := (-9 : Int32)) hx hb dX5_own_55 (by decide) ?_
          exact r_iret E w hr hlk h (Nat.le_refl 0) (Nat.le_refl 0) dX5_own_57
      · have h := h.2 c12
        exact k_X5_own_33 E hr hlk  _ _ _ _ _ _ h w (lh_sub hl [2, 0] rfl)
theorem K_X5_own {l : Launch} {Q : Int32 → Mm → Prop} {h0 : Nat} {x1 : Int32} {x2 : Int32} {x3 : Int32} {M : Mm} (h : B_X5_own_0 Q h0 x1 x2 x3 M) : KI l yX5_own cdX5_own (rmm 6 0 0) [rv (some h0), iv x1, iv x2, iv x3] M Q :=
  KI_of (by decide) rfl (Nat.le_of_ble_eq_true rfl) (fun p e s m args below meth c D cy A ls E hr hlk hn w hl => k_X5_own_0 E hr hlk _ _ _ _ _ _ _ _ h w hl)
def B_X5_undone_33 (Q : Int32 → Mm → Prop)  (h0 : Nat) (x5 : Option Nat) (M : Mm) : Prop := (ok M h0 5 ∧ (B_X5_refuseRow_0 (fun r3 M2 => Q r3 M2) h0 x5 M))
set_option maxHeartbeats 4000000 in
set_option maxRecDepth 100000 in
theorem k_X5_undone_33 {p : Program} {l : Launch} {e : Env} {s : State} {m : MethodId} {args : Array Value} {below : List Frame} {meth : Method} {c : Code} {D : va_G} {cy : Nat → ClassId} {A : Nat → Prop} {Q : Int32 → Mm → Prop} (E : Ex p m c cX5_undone 6 s args RX5 D cy A) (hr : meth.sig.returnType = (some .int)) (hlk : meth.locks = false) : ∀ (h0 : Nat) (x5 : Option Nat) (M : Mm) (H : Heap) (locs : List Loc) (ls : Array Slot), B_X5_undone_33 Q  h0 x5 M → Wd D cy A s M H locs → lh ls 6 [(0, rv (some h0)), (5, rv x5)] → W p l e (rmm 5 0 0) s m args below meth c H locs 0 0 (MQ below (va_Qi Q (Po D cy A) A) args s 0 0 A) (F0 m 33 ls []) := by
  obtain ⟨hx, hb, hml, hown, hts⟩ := E.1
  intro h0 x5 M H locs ls h w hl
  unfold B_X5_undone_33 at h
  refine r_aload_n (x := (some h0)) hx hb dX5_undone_33 rfl (lh_at hl 0 rfl) ?_
  refine r_aload (x := x5) hx hb dX5_undone_34 (lh_at hl 1 rfl) ?_
  obtain ⟨ho1, h⟩ := h
  refine z_callVi E w rfl ho1 cl_X5 yk_X5_refuseRow ⟨Nat.le_of_ble_eq_true rfl, Nat.le_of_ble_eq_true rfl⟩ ⟨(Nat.zero_le _), (Nat.zero_le _)⟩ rfl ml_X5_98 im_X5_refuseRow sl_X5_refuseRow [rv x5] rfl rfl hl [] rfl (Nat.le_of_ble_eq_true rfl) (K_X5_refuseRow h) dX5_undone_36 (fun r3 M2 H locs h w => ?_)
  exact r_iret E w hr hlk h (Nat.le_refl 0) (Nat.le_refl 0) dX5_undone_39
def B_X5_undone_0 (Q : Int32 → Mm → Prop)  (h0 : Nat) (x1 : Int32) (x2 : Int32) (x3 : Int32) (M : Mm) : Prop := (ok M h0 5 ∧ (B_X5_findTest_0 (fun r3 M2 => (ok M2 h0 5 ∧ (B_X5_findRow_0 (fun r6 M5 => ((r3 = none → B_X5_undone_33 Q  h0 r6 M5) ∧ (∀ a7, r3 = some a7 → ((r6 = none → B_X5_undone_33 Q  h0 r6 M5) ∧ (∀ a9, r6 = some a9 → (ok M5 a9 3 ∧ ((¬ (gI M5 a9 1) = 0 → (ok M5 a7 4 ∧ (((gI M5 a7 0) = (1 : Int32) → (ok M5 h0 5 ∧ (B_X5_bringUpToDate_0 (fun  M16 => (ok M16 a9 3 ∧ (B_X3_hasCut_0 (fun r19 M18 => ((r19 = 0 → Q (-9 : Int32) M18) ∧ (¬ r19 = 0 → (ok M18 a9 3 ∧ (B_X3_undoingOf_0 (fun r23 M22 => Q r23 M22) a9 x3 M18))))) a9 x3 M16))) h0 r6 M5))) ∧ (¬ (gI M5 a7 0) = (1 : Int32) → (ok M5 h0 5 ∧ (B_X5_refuseWith_0 (fun r26 M25 => Q r26 M25) h0 (3 : Int32) M5)))))) ∧ ((gI M5 a9 1) = 0 → B_X5_undone_33 Q  h0 r6 M5)))))))) h0 x1 x2 M2))) h0 x1 M))
set_option maxHeartbeats 4000000 in
set_option maxRecDepth 100000 in
theorem k_X5_undone_0 {p : Program} {l : Launch} {e : Env} {s : State} {m : MethodId} {args : Array Value} {below : List Frame} {meth : Method} {c : Code} {D : va_G} {cy : Nat → ClassId} {A : Nat → Prop} {Q : Int32 → Mm → Prop} (E : Ex p m c cX5_undone 6 s args RX5 D cy A) (hr : meth.sig.returnType = (some .int)) (hlk : meth.locks = false) : ∀ (h0 : Nat) (x1 : Int32) (x2 : Int32) (x3 : Int32) (M : Mm) (H : Heap) (locs : List Loc) (ls : Array Slot), B_X5_undone_0 Q  h0 x1 x2 x3 M → Wd D cy A s M H locs → lh ls 6 [(0, rv (some h0)), (1, iv x1), (2, iv x2), (3, iv x3)] → W p l e (rmm 5 0 0) s m args below meth c H locs 0 0 (MQ below (va_Qi Q (Po D cy A) A) args s 0 0 A) (F0 m 0 ls []) := by
  obtain ⟨hx, hb, hml, hown, hts⟩ := E.1
  intro h0 x1 x2 x3 M H locs ls h w hl
  unfold B_X5_undone_0 at h
  refine r_aload_n (x := (some h0)) hx hb dX5_undone_0 rfl (lh_at hl 0 rfl) ?_
  refine lv_iload_n (x := x1) hx hb dX5_undone_1 rfl (lh_at hl 1 rfl) ?_
  obtain ⟨ho1, h⟩ := h
  refine z_callVq E w rfl ho1 cl_X5 yk_X5_findTest ⟨Nat.le_of_ble_eq_true rfl, Nat.le_of_ble_eq_true rfl⟩ ⟨(Nat.zero_le _), (Nat.zero_le _)⟩ rfl ml_X5_60 im_X5_findTest sl_X5_findTest [iv x1] rfl rfl hl [] rfl (Nat.le_of_ble_eq_true rfl) (K_X5_findTest h) dX5_undone_2 (fun r3 M2 H locs h w => ?_)
  refine r_astore (lv' := [(4, rv r3), (0, rv (some h0)), (1, iv x1), (2, iv x2), (3, iv x3)]) hx hb dX5_undone_5 hl (by decide) rfl (fun ls hl => ?_)
  refine r_aload_n (x := (some h0)) hx hb dX5_undone_7 rfl (lh_at hl 1 rfl) ?_
  refine lv_iload_n (x := x1) hx hb dX5_undone_8 rfl (lh_at hl 2 rfl) ?_
  refine lv_iload_n (x := x2) hx hb dX5_undone_9 rfl (lh_at hl 3 rfl) ?_
  obtain ⟨ho4, h⟩ := h
  refine z_callVq E w rfl ho4 cl_X5 yk_X5_findRow ⟨Nat.le_of_ble_eq_true rfl, Nat.le_of_ble_eq_true rfl⟩ ⟨(Nat.zero_le _), (Nat.zero_le _)⟩ rfl ml_X5_67 im_X5_findRow sl_X5_findRow [iv x1, iv x2] rfl rfl hl [] rfl (Nat.le_of_ble_eq_true rfl) (K_X5_findRow h) dX5_undone_10 (fun r6 M5 H locs h w => ?_)
  refine r_astore (lv' := [(5, rv r6), (4, rv r3), (0, rv (some h0)), (1, iv x1), (2, iv x2), (3, iv x3)]) hx hb dX5_undone_13 hl (by decide) rfl (fun ls hl => ?_)
  refine r_aload (x := r3) hx hb dX5_undone_15 (lh_at hl 1 rfl) ?_
  refine r_ifnull (tgt := 33) hx hb dX5_undone_17 (by decide) (fun c8 => ?_) (fun a7 ea7 => ?_)
  · have h := h.1 c8
    exact k_X5_undone_33 E hr hlk  _ _ _ _ _ _ h w (lh_sub hl [2, 0] rfl)
  · have h := h.2 a7 ea7
    refine r_aload (x := r6) hx hb dX5_undone_20 (lh_at hl 0 rfl) ?_
    refine r_ifnull (tgt := 33) hx hb dX5_undone_22 (by decide) (fun c10 => ?_) (fun a9 ea9 => ?_)
    · have h := h.1 c10
      exact k_X5_undone_33 E hr hlk  _ _ _ _ _ _ h w (lh_sub hl [2, 0] rfl)
    · have h := h.2 a9 ea9
      refine r_aload (x := r6) hx hb dX5_undone_25 (lh_at hl 0 rfl) ?_
      obtain ⟨ho11, h⟩ := h
      refine r_getI E w ea9 ho11 cl_X3 1 rfl fl_X5_71 dX5_undone_27 ?_
      refine lv_if_ne (tgt := 40) hx hb dX5_undone_30 (by decide) (fun c12 => ?_) (fun c12 => ?_)
      · have h := h.1 c12
        refine r_aload (x := r3) hx hb dX5_undone_40 (lh_at hl 1 rfl) ?_
        obtain ⟨ho13, h⟩ := h
        refine r_getI E w ea7 ho13 cl_X4 0 rfl fl_X5_64 dX5_undone_42 ?_
        refine lv_iconst (v := (1 : Int32)) hx hb dX5_undone_45 (by decide) ?_
        refine lv_icmp_eq (tgt := 55) hx hb dX5_undone_46 (by decide) (fun c14 => ?_) (fun c14 => ?_)
        · have h := h.1 c14
          refine r_aload_n (x := (some h0)) hx hb dX5_undone_55 rfl (lh_at hl 2 rfl) ?_
          refine r_aload (x := r6) hx hb dX5_undone_56 (lh_at hl 0 rfl) ?_
          obtain ⟨ho15, h⟩ := h
          refine z_callVv E w rfl ho15 cl_X5 yk_X5_bringUpToDate ⟨Nat.le_of_ble_eq_true rfl, Nat.le_of_ble_eq_true rfl⟩ ⟨(Nat.zero_le _), (Nat.zero_le _)⟩ rfl ml_X5_115 im_X5_bringUpToDate sl_X5_bringUpToDate [rv r6] rfl rfl hl [] rfl (Nat.le_of_ble_eq_true rfl) (K_X5_bringUpToDate h) dX5_undone_58 (fun  M16 H locs h w => ?_)
          refine r_aload (x := r6) hx hb dX5_undone_61 (lh_at hl 0 rfl) ?_
          refine lv_iload_n (x := x3) hx hb dX5_undone_63 rfl (lh_at hl 5 rfl) ?_
          obtain ⟨ho17, h⟩ := h
          refine z_callVi E w ea9 ho17 cl_X3 yk_X3_hasCut ⟨Nat.le_of_ble_eq_true rfl, Nat.le_of_ble_eq_true rfl⟩ ⟨(Nat.zero_le _), (Nat.zero_le _)⟩ rfl ml_X5_129 im_X3_hasCut sl_X3_hasCut [iv x3] rfl rfl hl [] rfl (Nat.le_of_ble_eq_true rfl) (K_X3_hasCut h) dX5_undone_64 (fun r19 M18 H locs h w => ?_)
          refine lv_if_eq (tgt := 79) hx hb dX5_undone_67 (by decide) (fun c20 => ?_) (fun c20 => ?_)
          · have h := h.1 c20
            refine lv_bipush (v := (-9 : Int32)) hx hb dX5_undone_79 (by decide) ?_
            exact r_iret E w hr hlk h (Nat.le_refl 0) (Nat.le_refl 0) dX5_undone_81
          · have h := h.2 c20
            refine r_aload (x := r6) hx hb dX5_undone_70 (lh_at hl 0 rfl) ?_
            refine lv_iload_n (x := x3) hx hb dX5_undone_72 rfl (lh_at hl 5 rfl) ?_
            obtain ⟨ho21, h⟩ := h
            refine z_callVi E w ea9 ho21 cl_X3 yk_X3_undoingOf ⟨Nat.le_of_ble_eq_true rfl, Nat.le_of_ble_eq_true rfl⟩ ⟨(Nat.zero_le _), (Nat.zero_le _)⟩ rfl ml_X5_152 im_X3_undoingOf sl_X3_undoingOf [iv x3] rfl rfl hl [] rfl (Nat.le_of_ble_eq_true rfl) (K_X3_undoingOf h) dX5_undone_73 (fun r23 M22 H locs h w => ?_)
            refine lv_goto (tgt := 81) hx hb dX5_undone_76 (by decide) ?_
            exact r_iret E w hr hlk h (Nat.le_refl 0) (Nat.le_refl 0) dX5_undone_81
        · have h := h.2 c14
          refine r_aload_n (x := (some h0)) hx hb dX5_undone_49 rfl (lh_at hl 2 rfl) ?_
          refine lv_iconst (v := (3 : Int32)) hx hb dX5_undone_50 (by decide) ?_
          obtain ⟨ho24, h⟩ := h
          refine z_callVi E w rfl ho24 cl_X5 yk_X5_refuseWith ⟨Nat.le_of_ble_eq_true rfl, Nat.le_of_ble_eq_true rfl⟩ ⟨(Nat.zero_le _), (Nat.zero_le _)⟩ rfl ml_X5_85 im_X5_refuseWith sl_X5_refuseWith [iv (3 : Int32)] rfl rfl hl [] rfl (Nat.le_of_ble_eq_true rfl) (K_X5_refuseWith h) dX5_undone_51 (fun r26 M25 H locs h w => ?_)
          exact r_iret E w hr hlk h (Nat.le_refl 0) (Nat.le_refl 0) dX5_undone_54
      · have h := h.2 c12
        exact k_X5_undone_33 E hr hlk  _ _ _ _ _ _ h w (lh_sub hl [2, 0] rfl)
theorem K_X5_undone {l : Launch} {Q : Int32 → Mm → Prop} {h0 : Nat} {x1 : Int32} {x2 : Int32} {x3 : Int32} {M : Mm} (h : B_X5_undone_0 Q h0 x1 x2 x3 M) : KI l yX5_undone cdX5_undone (rmm 5 0 0) [rv (some h0), iv x1, iv x2, iv x3] M Q :=
  KI_of (by decide) rfl (Nat.le_of_ble_eq_true rfl) (fun p e s m args below meth c D cy A ls E hr hlk hn w hl => k_X5_undone_0 E hr hlk _ _ _ _ _ _ _ _ h w hl)
def B_X5_readyChances_0 (Q : Option Nat → Mm → Prop)  (h0 : Nat) (gc : Nat) (gs : Nat) (M : Mm) : Prop := (ok M h0 5 ∧ (((gR M h0 5) = none → (1 ≤ gc ∧ 3 ≤ gs ∧ (∀ q5, q5 ∉ gL M → (∀ M6, M6 = nC M q5 0 0 → (∃ b8 b8s : Nat, b8 ≤ (gc - 1) ∧ b8s ≤ (gs - 3) ∧ (B_X0_init_0 (fun  M7 => (ok M7 h0 5 ∧ (∀ M10, M10 = pR M7 h0 5 (some q5) → Q (gR M10 h0 5) M10))) q5  b8 b8s M6)))))) ∧ (∀ a2, (gR M h0 5) = some a2 → Q (gR M h0 5) M)))
set_option maxHeartbeats 4000000 in
set_option maxRecDepth 100000 in
theorem k_X5_readyChances_0 {p : Program} {l : Launch} {e : Env} {s : State} {m : MethodId} {args : Array Value} {below : List Frame} {meth : Method} {c : Code} {D : va_G} {cy : Nat → ClassId} {A : Nat → Prop} {mc ms : Nat} {Q : Option Nat → Mm → Prop} (E : Ex p m c cX5_readyChances 1 s args RX5 D cy A) (hr : meth.sig.returnType = (some (.object "SlowWatch$Chances"))) (hlk : meth.locks = false) : ∀ (h0 : Nat) (gc : Nat) (gs : Nat) (M : Mm) (H : Heap) (locs : List Loc) (ls : Array Slot) (cells slots : Nat), B_X5_readyChances_0 Q  h0 gc gs M → Wd D cy A s M H locs → lh ls 1 [(0, rv (some h0))] → cells + gc ≤ mc ∧ slots + gs ≤ ms → W p l e (rmm 2 mc ms) s m args below meth c H locs cells slots (MQ below (va_Qq Q (Po D cy A) A) args s mc ms A) (F0 m 0 ls []) := by
  obtain ⟨hx, hb, hml, hown, hts⟩ := E.1
  intro h0 gc gs M H locs ls cells slots h w hl hg
  unfold B_X5_readyChances_0 at h
  refine r_aload_n (x := (some h0)) hx hb dX5_readyChances_0 rfl (lh_at hl 0 rfl) ?_
  obtain ⟨ho1, h⟩ := h
  refine r_getR E w rfl ho1 cl_X5 5 rfl fl_X5_243 dX5_readyChances_1 ?_
  refine r_ifnonnull (tgt := 18) hx hb dX5_readyChances_4 (by decide) (fun c3 => ?_) (fun a2 ea2 => ?_)
  · have h := h.1 c3
    refine r_aload_n (x := (some h0)) hx hb dX5_readyChances_7 rfl (lh_at hl 0 rfl) ?_
    obtain ⟨g4a, g4b, h⟩ := h
    refine r_new E w cl_X0 kl_X5_160 ins_X0 ini_X0 (show cells + 1 ≤ mc by omega) (show slots + 3 ≤ ms by omega) dX5_readyChances_8 (fun q5 H hq5 w => ?_)
    have h := h q5 hq5
    obtain ⟨M6, eM6⟩ : ∃ z, z = nC M q5 0 0 := ⟨_, rfl⟩
    rw [← eM6] at w
    have h := h M6 eM6
    have hg : (cells + 1) + (gc - 1) ≤ mc ∧ (slots + 3) + (gs - 3) ≤ ms := ⟨by omega, by omega⟩
    refine r_dupr hx hb dX5_readyChances_11 ?_
    obtain ⟨b8, b8s, b8c, b8d, h⟩ := h
    refine r_callIN (rm := rmm 1 b8 b8s) E w rfl yk_X0_init ⟨Nat.le_of_ble_eq_true rfl, Nat.le_of_ble_eq_true rfl⟩ ⟨show (cells + 1) + b8 ≤ mc by omega, show (slots + 3) + b8s ≤ ms by omega⟩ rfl E.2.1.2.2.2.2.2 im_X0_init [] rfl rfl hl [rv (some q5), rv (some h0)] rfl (Nat.le_of_ble_eq_true rfl) (K_X0_init h) dX5_readyChances_12 (fun M7 H locs h w => ?_)
    have hg : ((cells + 1) + b8) + ((gc - 1) - b8) ≤ mc ∧ ((slots + 3) + b8s) + ((gs - 3) - b8s) ≤ ms := ⟨by omega, by omega⟩
    obtain ⟨ho9, h⟩ := h
    refine r_putR (v := (some q5)) E w rfl ho9 cl_X5 5 rfl fl_X5_243 (Or.inl rfl) (Or.inl ⟨_, rfl⟩) dX5_readyChances_15 (fun H locs w => ?_)
    obtain ⟨M10, eM10⟩ : ∃ z, z = pR M7 h0 5 (some q5) := ⟨_, rfl⟩
    rw [← eM10] at w
    have h := h M10 eM10
    refine r_aload_n (x := (some h0)) hx hb dX5_readyChances_18 rfl (lh_at hl 0 rfl) ?_
    have ho9 : ok M10 h0 5 := by rw [eM10]; exact ho9
    refine r_getR E w rfl ho9 cl_X5 5 rfl fl_X5_243 dX5_readyChances_19 ?_
    exact r_aret (x := (gR M10 h0 5)) E w hr hlk h (show ((cells + 1) + b8) ≤ mc by omega) (show ((slots + 3) + b8s) ≤ ms by omega) dX5_readyChances_22
  · have h := h.2 a2 ea2
    refine r_aload_n (x := (some h0)) hx hb dX5_readyChances_18 rfl (lh_at hl 0 rfl) ?_
    refine r_getR E w rfl ho1 cl_X5 5 rfl fl_X5_243 dX5_readyChances_19 ?_
    exact r_aret (x := (gR M h0 5)) E w hr hlk h (show cells ≤ mc by omega) (show slots ≤ ms by omega) dX5_readyChances_22
theorem K_X5_readyChances {l : Launch} {Q : Option Nat → Mm → Prop} {h0 : Nat} {gc gs : Nat} {M : Mm} (h : B_X5_readyChances_0 Q h0 gc gs M) : KQ l yX5_readyChances cdX5_readyChances (rmm 2 gc gs) [rv (some h0)] M Q :=
  KQ_of (by decide) rfl (Nat.le_of_ble_eq_true rfl) (fun p e s m args below meth c D cy A ls E hr hlk hn w hl => k_X5_readyChances_0 E hr hlk _ _ _ _ _ _ _ _ _ h w hl ⟨Nat.le_of_eq (Nat.zero_add _), Nat.le_of_eq (Nat.zero_add _)⟩)
def B_X5_odds_21 (Q : Int32 → Mm → Prop)  (h0 : Nat) (x4 : Option Nat) (gc : Nat) (gs : Nat) (M : Mm) : Prop := (ok M h0 5 ∧ (B_X5_refuseRow_0 (fun r3 M2 => Q r3 M2) h0 x4 M))
set_option maxHeartbeats 4000000 in
set_option maxRecDepth 100000 in
theorem k_X5_odds_21 {p : Program} {l : Launch} {e : Env} {s : State} {m : MethodId} {args : Array Value} {below : List Frame} {meth : Method} {c : Code} {D : va_G} {cy : Nat → ClassId} {A : Nat → Prop} {mc ms : Nat} {Q : Int32 → Mm → Prop} (E : Ex p m c cX5_odds 6 s args RX5 D cy A) (hr : meth.sig.returnType = (some .int)) (hlk : meth.locks = false) : ∀ (h0 : Nat) (x4 : Option Nat) (gc : Nat) (gs : Nat) (M : Mm) (H : Heap) (locs : List Loc) (ls : Array Slot) (cells slots : Nat), B_X5_odds_21 Q  h0 x4 gc gs M → Wd D cy A s M H locs → lh ls 6 [(0, rv (some h0)), (4, rv x4)] → cells + gc ≤ mc ∧ slots + gs ≤ ms → W p l e (rmm 5 mc ms) s m args below meth c H locs cells slots (MQ below (va_Qi Q (Po D cy A) A) args s mc ms A) (F0 m 21 ls []) := by
  obtain ⟨hx, hb, hml, hown, hts⟩ := E.1
  intro h0 x4 gc gs M H locs ls cells slots h w hl hg
  unfold B_X5_odds_21 at h
  refine r_aload_n (x := (some h0)) hx hb dX5_odds_21 rfl (lh_at hl 0 rfl) ?_
  refine r_aload (x := x4) hx hb dX5_odds_22 (lh_at hl 1 rfl) ?_
  obtain ⟨ho1, h⟩ := h
  refine z_callVi E w rfl ho1 cl_X5 yk_X5_refuseRow ⟨Nat.le_of_ble_eq_true rfl, Nat.le_of_ble_eq_true rfl⟩ ⟨(show cells ≤ mc by omega), (show slots ≤ ms by omega)⟩ rfl ml_X5_98 im_X5_refuseRow sl_X5_refuseRow [rv x4] rfl rfl hl [] rfl (Nat.le_of_ble_eq_true rfl) (K_X5_refuseRow h) dX5_odds_24 (fun r3 M2 H locs h w => ?_)
  exact r_iret E w hr hlk h (show cells ≤ mc by omega) (show slots ≤ ms by omega) dX5_odds_27
def B_X5_odds_0 (Q : Int32 → Mm → Prop)  (h0 : Nat) (x1 : Int32) (x2 : Int32) (x3 : Int32) (gc : Nat) (gs : Nat) (M : Mm) : Prop := (ok M h0 5 ∧ (B_X5_findRow_0 (fun r3 M2 => ((r3 = none → B_X5_odds_21 Q  h0 r3 gc gs M2) ∧ (∀ a4, r3 = some a4 → (ok M2 a4 3 ∧ ((¬ (gI M2 a4 1) = 0 → (ok M2 h0 5 ∧ (B_X5_bringUpToDate_0 (fun  M9 => (ok M9 a4 3 ∧ (B_X3_hasCut_0 (fun r12 M11 => ((¬ r12 = 0 → (ok M11 h0 5 ∧ (∃ b17 b17s : Nat, b17 ≤ gc ∧ b17s ≤ gs ∧ (B_X5_readyChances_0 (fun r16 M15 => (∃ a18, r16 = some a18 ∧ (ok M15 a18 0 ∧ (B_X0_reckon_0 (fun r21 M20 => ((¬ r21 = 0 → (ok M20 a18 0 ∧ (ok M20 h0 5 ∧ (∀ M25, M25 = pJ M20 h0 12 (Int32.toInt64 (gI M20 a18 1)) → (∀ M26, M26 = pJ M25 h0 13 (Int32.toInt64 (gI M25 a18 2)) → Q (1 : Int32) M26))))) ∧ (r21 = 0 → Q (0 : Int32) M20))) a18 r3 x3 M15)))) h0  b17 b17s M11)))) ∧ (r12 = 0 → Q (-9 : Int32) M11))) a4 x3 M9))) h0 r3 M2))) ∧ ((gI M2 a4 1) = 0 → B_X5_odds_21 Q  h0 r3 gc gs M2)))))) h0 x1 x2 M))
set_option maxHeartbeats 4000000 in
set_option maxRecDepth 100000 in
theorem k_X5_odds_0 {p : Program} {l : Launch} {e : Env} {s : State} {m : MethodId} {args : Array Value} {below : List Frame} {meth : Method} {c : Code} {D : va_G} {cy : Nat → ClassId} {A : Nat → Prop} {mc ms : Nat} {Q : Int32 → Mm → Prop} (E : Ex p m c cX5_odds 6 s args RX5 D cy A) (hr : meth.sig.returnType = (some .int)) (hlk : meth.locks = false) : ∀ (h0 : Nat) (x1 : Int32) (x2 : Int32) (x3 : Int32) (gc : Nat) (gs : Nat) (M : Mm) (H : Heap) (locs : List Loc) (ls : Array Slot) (cells slots : Nat), B_X5_odds_0 Q  h0 x1 x2 x3 gc gs M → Wd D cy A s M H locs → lh ls 6 [(0, rv (some h0)), (1, iv x1), (2, iv x2), (3, iv x3)] → cells + gc ≤ mc ∧ slots + gs ≤ ms → W p l e (rmm 5 mc ms) s m args below meth c H locs cells slots (MQ below (va_Qi Q (Po D cy A) A) args s mc ms A) (F0 m 0 ls []) := by
  obtain ⟨hx, hb, hml, hown, hts⟩ := E.1
  intro h0 x1 x2 x3 gc gs M H locs ls cells slots h w hl hg
  unfold B_X5_odds_0 at h
  refine r_aload_n (x := (some h0)) hx hb dX5_odds_0 rfl (lh_at hl 0 rfl) ?_
  refine lv_iload_n (x := x1) hx hb dX5_odds_1 rfl (lh_at hl 1 rfl) ?_
  refine lv_iload_n (x := x2) hx hb dX5_odds_2 rfl (lh_at hl 2 rfl) ?_
  obtain ⟨ho1, h⟩ := h
  refine z_callVq E w rfl ho1 cl_X5 yk_X5_findRow ⟨Nat.le_of_ble_eq_true rfl, Nat.le_of_ble_eq_true rfl⟩ ⟨(show cells ≤ mc by omega), (show slots ≤ ms by omega)⟩ rfl ml_X5_67 im_X5_findRow sl_X5_findRow [iv x1, iv x2] rfl rfl hl [] rfl (Nat.le_of_ble_eq_true rfl) (K_X5_findRow h) dX5_odds_3 (fun r3 M2 H locs h w => ?_)
  refine r_astore (lv' := [(4, rv r3), (0, rv (some h0)), (1, iv x1), (2, iv x2), (3, iv x3)]) hx hb dX5_odds_6 hl (by decide) rfl (fun ls hl => ?_)
  refine r_aload (x := r3) hx hb dX5_odds_8 (lh_at hl 0 rfl) ?_
  refine r_ifnull (tgt := 21) hx hb dX5_odds_10 (by decide) (fun c5 => ?_) (fun a4 ea4 => ?_)
  · have h := h.1 c5
    exact k_X5_odds_21 E hr hlk  _ _ _ _ _ _ _ _ _ _ h w (lh_sub hl [1, 0] rfl) hg
  · have h := h.2 a4 ea4
    refine r_aload (x := r3) hx hb dX5_odds_13 (lh_at hl 0 rfl) ?_
    obtain ⟨ho6, h⟩ := h
    refine r_getI E w ea4 ho6 cl_X3 1 rfl fl_X5_71 dX5_odds_15 ?_
    refine lv_if_ne (tgt := 28) hx hb dX5_odds_18 (by decide) (fun c7 => ?_) (fun c7 => ?_)
    · have h := h.1 c7
      refine r_aload_n (x := (some h0)) hx hb dX5_odds_28 rfl (lh_at hl 1 rfl) ?_
      refine r_aload (x := r3) hx hb dX5_odds_29 (lh_at hl 0 rfl) ?_
      obtain ⟨ho8, h⟩ := h
      refine z_callVv E w rfl ho8 cl_X5 yk_X5_bringUpToDate ⟨Nat.le_of_ble_eq_true rfl, Nat.le_of_ble_eq_true rfl⟩ ⟨(show cells ≤ mc by omega), (show slots ≤ ms by omega)⟩ rfl ml_X5_115 im_X5_bringUpToDate sl_X5_bringUpToDate [rv r3] rfl rfl hl [] rfl (Nat.le_of_ble_eq_true rfl) (K_X5_bringUpToDate h) dX5_odds_31 (fun  M9 H locs h w => ?_)
      refine r_aload (x := r3) hx hb dX5_odds_34 (lh_at hl 0 rfl) ?_
      refine lv_iload_n (x := x3) hx hb dX5_odds_36 rfl (lh_at hl 4 rfl) ?_
      obtain ⟨ho10, h⟩ := h
      refine z_callVi E w ea4 ho10 cl_X3 yk_X3_hasCut ⟨Nat.le_of_ble_eq_true rfl, Nat.le_of_ble_eq_true rfl⟩ ⟨(show cells ≤ mc by omega), (show slots ≤ ms by omega)⟩ rfl ml_X5_129 im_X3_hasCut sl_X3_hasCut [iv x3] rfl rfl hl [] rfl (Nat.le_of_ble_eq_true rfl) (K_X3_hasCut h) dX5_odds_37 (fun r12 M11 H locs h w => ?_)
      refine lv_if_ne (tgt := 46) hx hb dX5_odds_40 (by decide) (fun c13 => ?_) (fun c13 => ?_)
      · have h := h.1 c13
        refine r_aload_n (x := (some h0)) hx hb dX5_odds_46 rfl (lh_at hl 1 rfl) ?_
        obtain ⟨ho14, h⟩ := h
        obtain ⟨b17, b17s, b17c, b17d, h⟩ := h
        refine r_callVq (rm := rmm 2 b17 b17s) E w rfl ho14 cl_X5 yk_X5_readyChances ⟨Nat.le_of_ble_eq_true rfl, Nat.le_of_ble_eq_true rfl⟩ ⟨show cells + b17 ≤ mc by omega, show slots + b17s ≤ ms by omega⟩ rfl ml_X5_155 im_X5_readyChances sl_X5_readyChances [] rfl rfl hl [] rfl (Nat.le_of_ble_eq_true rfl) (K_X5_readyChances h) dX5_odds_47 (fun r16 M15 H locs h w => ?_)
        have hg : (cells + b17) + (gc - b17) ≤ mc ∧ (slots + b17s) + (gs - b17s) ≤ ms := ⟨by omega, by omega⟩
        refine r_astore (lv' := [(5, rv r16), (4, rv r3), (0, rv (some h0)), (1, iv x1), (2, iv x2), (3, iv x3)]) hx hb dX5_odds_50 hl (by decide) rfl (fun ls hl => ?_)
        refine r_aload (x := r16) hx hb dX5_odds_52 (lh_at hl 0 rfl) ?_
        refine r_aload (x := r3) hx hb dX5_odds_54 (lh_at hl 1 rfl) ?_
        refine lv_iload_n (x := x3) hx hb dX5_odds_56 rfl (lh_at hl 5 rfl) ?_
        obtain ⟨a18, ea18, h⟩ := h
        obtain ⟨ho19, h⟩ := h
        refine z_callVi E w ea18 ho19 cl_X0 yk_X0_reckon ⟨Nat.le_of_ble_eq_true rfl, Nat.le_of_ble_eq_true rfl⟩ ⟨(show (cells + b17) ≤ mc by omega), (show (slots + b17s) ≤ ms by omega)⟩ rfl ml_X5_159 im_X0_reckon sl_X0_reckon [rv r3, iv x3] rfl rfl hl [] rfl (Nat.le_of_ble_eq_true rfl) (K_X0_reckon h) dX5_odds_57 (fun r21 M20 H locs h w => ?_)
        refine lv_if_ne (tgt := 65) hx hb dX5_odds_60 (by decide) (fun c22 => ?_) (fun c22 => ?_)
        · have h := h.1 c22
          refine r_aload_n (x := (some h0)) hx hb dX5_odds_65 rfl (lh_at hl 2 rfl) ?_
          refine r_aload (x := r16) hx hb dX5_odds_66 (lh_at hl 0 rfl) ?_
          obtain ⟨ho23, h⟩ := h
          refine r_getI E w ea18 ho23 cl_X0 1 rfl fl_X5_165 dX5_odds_68 ?_
          refine lv_i2l hx hb dX5_odds_71 rfl ?_
          obtain ⟨ho24, h⟩ := h
          refine r_putJ (v := (Int32.toInt64 (gI M20 a18 1))) E w rfl ho24 cl_X5 12 rfl fl_X5_168 (Or.inl rfl) rfl dX5_odds_72 (fun H locs w => ?_)
          obtain ⟨M25, eM25⟩ : ∃ z, z = pJ M20 h0 12 (Int32.toInt64 (gI M20 a18 1)) := ⟨_, rfl⟩
          rw [← eM25] at w
          have h := h M25 eM25
          refine r_aload_n (x := (some h0)) hx hb dX5_odds_75 rfl (lh_at hl 2 rfl) ?_
          refine r_aload (x := r16) hx hb dX5_odds_76 (lh_at hl 0 rfl) ?_
          have ho23 : ok M25 a18 0 := by rw [eM25]; exact ho23
          refine r_getI E w ea18 ho23 cl_X0 2 rfl fl_X5_171 dX5_odds_78 ?_
          refine lv_i2l hx hb dX5_odds_81 rfl ?_
          have ho24 : ok M25 h0 5 := by rw [eM25]; exact ho24
          refine r_putJ (v := (Int32.toInt64 (gI M25 a18 2))) E w rfl ho24 cl_X5 13 rfl fl_X5_43 (Or.inl rfl) rfl dX5_odds_82 (fun H locs w => ?_)
          obtain ⟨M26, eM26⟩ : ∃ z, z = pJ M25 h0 13 (Int32.toInt64 (gI M25 a18 2)) := ⟨_, rfl⟩
          rw [← eM26] at w
          have h := h M26 eM26
          refine lv_iconst (v := (1 : Int32)) hx hb dX5_odds_85 (by decide) ?_
          exact r_iret E w hr hlk h (show (cells + b17) ≤ mc by omega) (show (slots + b17s) ≤ ms by omega) dX5_odds_86
        · have h := h.2 c22
          refine lv_iconst (v := (0 : Int32)) hx hb dX5_odds_63 (by decide) ?_
          exact r_iret E w hr hlk h (show (cells + b17) ≤ mc by omega) (show (slots + b17s) ≤ ms by omega) dX5_odds_64
      · have h := h.2 c13
        refine lv_bipush (v := (-9 : Int32)) hx hb dX5_odds_43 (by decide) ?_
        exact r_iret E w hr hlk h (show cells ≤ mc by omega) (show slots ≤ ms by omega) dX5_odds_45
    · have h := h.2 c7
      exact k_X5_odds_21 E hr hlk  _ _ _ _ _ _ _ _ _ _ h w (lh_sub hl [1, 0] rfl) hg
theorem K_X5_odds {l : Launch} {Q : Int32 → Mm → Prop} {h0 : Nat} {x1 : Int32} {x2 : Int32} {x3 : Int32} {gc gs : Nat} {M : Mm} (h : B_X5_odds_0 Q h0 x1 x2 x3 gc gs M) : KI l yX5_odds cdX5_odds (rmm 5 gc gs) [rv (some h0), iv x1, iv x2, iv x3] M Q :=
  KI_of (by decide) rfl (Nat.le_of_ble_eq_true rfl) (fun p e s m args below meth c D cy A ls E hr hlk hn w hl => k_X5_odds_0 E hr hlk _ _ _ _ _ _ _ _ _ _ _ _ h w hl ⟨Nat.le_of_eq (Nat.zero_add _), Nat.le_of_eq (Nat.zero_add _)⟩)
def B_X5_isAlarming_52 (Q : Int32 → Mm → Prop)  (h0 : Nat) (x1 : Option Nat) (x2 : Int32) (x3 : Int32) (s0 : Int32) (M : Mm) : Prop := ((¬ s0 = 0 → Q (0 : Int32) M) ∧ (s0 = 0 → (ok M h0 5 ∧ (B_X5_isItsOwn_0 (fun r4 M3 => ((¬ r4 = 0 → Q (0 : Int32) M3) ∧ (r4 = 0 → Q (1 : Int32) M3))) h0 x1 x2 x3 M))))
set_option maxHeartbeats 4000000 in
set_option maxRecDepth 100000 in
theorem k_X5_isAlarming_52 {p : Program} {l : Launch} {e : Env} {s : State} {m : MethodId} {args : Array Value} {below : List Frame} {meth : Method} {c : Code} {D : va_G} {cy : Nat → ClassId} {A : Nat → Prop} {Q : Int32 → Mm → Prop} (E : Ex p m c cX5_isAlarming 6 s args RX5 D cy A) (hr : meth.sig.returnType = (some .boolean)) (hlk : meth.locks = false) : ∀ (h0 : Nat) (x1 : Option Nat) (x2 : Int32) (x3 : Int32) (s0 : Int32) (M : Mm) (H : Heap) (locs : List Loc) (ls : Array Slot), B_X5_isAlarming_52 Q  h0 x1 x2 x3 s0 M → Wd D cy A s M H locs → lh ls 6 [(0, rv (some h0)), (1, rv x1), (2, iv x2), (3, iv x3)] → W p l e (rmm 3 0 0) s m args below meth c H locs 0 0 (MQ below (va_Qi Q (Po D cy A) A) args s 0 0 A) (F0 m 52 ls [.int s0]) := by
  obtain ⟨hx, hb, hml, hown, hts⟩ := E.1
  intro h0 x1 x2 x3 s0 M H locs ls h w hl
  unfold B_X5_isAlarming_52 at h
  refine r_istore (lv' := [(5, iv s0), (0, rv (some h0)), (1, rv x1), (2, iv x2), (3, iv x3)]) hx hb dX5_isAlarming_52 hl (by decide) rfl (fun ls hl => ?_)
  refine lv_iload (x := s0) hx hb dX5_isAlarming_54 (lh_at hl 0 rfl) ?_
  refine lv_if_ne (tgt := 73) hx hb dX5_isAlarming_56 (by decide) (fun c1 => ?_) (fun c1 => ?_)
  · have h := h.1 c1
    refine lv_iconst (v := (0 : Int32)) hx hb dX5_isAlarming_73 (by decide) ?_
    exact r_zret E w hr hlk ⟨Or.inl rfl, h⟩ (Nat.le_refl 0) (Nat.le_refl 0) dX5_isAlarming_74
  · have h := h.2 c1
    refine r_aload_n (x := (some h0)) hx hb dX5_isAlarming_59 rfl (lh_at hl 1 rfl) ?_
    refine r_aload_n (x := x1) hx hb dX5_isAlarming_60 rfl (lh_at hl 2 rfl) ?_
    refine lv_iload_n (x := x2) hx hb dX5_isAlarming_61 rfl (lh_at hl 3 rfl) ?_
    refine lv_iload_n (x := x3) hx hb dX5_isAlarming_62 rfl (lh_at hl 4 rfl) ?_
    obtain ⟨ho2, h⟩ := h
    refine z_callVi E w rfl ho2 cl_X5 yk_X5_isItsOwn ⟨Nat.le_of_ble_eq_true rfl, Nat.le_of_ble_eq_true rfl⟩ ⟨(Nat.zero_le _), (Nat.zero_le _)⟩ rfl ml_X5_148 im_X5_isItsOwn sl_X5_isItsOwn [rv x1, iv x2, iv x3] rfl rfl hl [] rfl (Nat.le_of_ble_eq_true rfl) (K_X5_isItsOwn h) dX5_isAlarming_63 (fun r4 M3 H locs h w => ?_)
    refine lv_if_ne (tgt := 73) hx hb dX5_isAlarming_66 (by decide) (fun c5 => ?_) (fun c5 => ?_)
    · have h := h.1 c5
      refine lv_iconst (v := (0 : Int32)) hx hb dX5_isAlarming_73 (by decide) ?_
      exact r_zret E w hr hlk ⟨Or.inl rfl, h⟩ (Nat.le_refl 0) (Nat.le_refl 0) dX5_isAlarming_74
    · have h := h.2 c5
      refine lv_iconst (v := (1 : Int32)) hx hb dX5_isAlarming_69 (by decide) ?_
      refine lv_goto (tgt := 74) hx hb dX5_isAlarming_70 (by decide) ?_
      exact r_zret E w hr hlk ⟨Or.inr rfl, h⟩ (Nat.le_refl 0) (Nat.le_refl 0) dX5_isAlarming_74
def B_X5_isAlarming_51 (Q : Int32 → Mm → Prop)  (h0 : Nat) (x1 : Option Nat) (x2 : Int32) (x3 : Int32) (M : Mm) : Prop := B_X5_isAlarming_52 Q  h0 x1 x2 x3 (0 : Int32) M
set_option maxHeartbeats 4000000 in
set_option maxRecDepth 100000 in
theorem k_X5_isAlarming_51 {p : Program} {l : Launch} {e : Env} {s : State} {m : MethodId} {args : Array Value} {below : List Frame} {meth : Method} {c : Code} {D : va_G} {cy : Nat → ClassId} {A : Nat → Prop} {Q : Int32 → Mm → Prop} (E : Ex p m c cX5_isAlarming 6 s args RX5 D cy A) (hr : meth.sig.returnType = (some .boolean)) (hlk : meth.locks = false) : ∀ (h0 : Nat) (x1 : Option Nat) (x2 : Int32) (x3 : Int32) (M : Mm) (H : Heap) (locs : List Loc) (ls : Array Slot), B_X5_isAlarming_51 Q  h0 x1 x2 x3 M → Wd D cy A s M H locs → lh ls 6 [(0, rv (some h0)), (1, rv x1), (2, iv x2), (3, iv x3)] → W p l e (rmm 3 0 0) s m args below meth c H locs 0 0 (MQ below (va_Qi Q (Po D cy A) A) args s 0 0 A) (F0 m 51 ls []) := by
  obtain ⟨hx, hb, hml, hown, hts⟩ := E.1
  intro h0 x1 x2 x3 M H locs ls h w hl
  unfold B_X5_isAlarming_51 at h
  refine lv_iconst (v := (0 : Int32)) hx hb dX5_isAlarming_51 (by decide) ?_
  exact k_X5_isAlarming_52 E hr hlk  _ _ _ _ _ _ _ _ _ h w (lh_sub hl [0, 1, 2, 3] rfl)
def B_X5_isAlarming_0 (Q : Int32 → Mm → Prop)  (h0 : Nat) (x1 : Option Nat) (x2 : Int32) (x3 : Int32) (M : Mm) : Prop := (∃ a1, x1 = some a1 ∧ (ok M a1 4 ∧ (∃ a3, (gR M a1 1) = some a3 ∧ (ar M a3 10 x2 ∧ (∃ a5, (gR M a3 (Int32.toNatClampNeg x2)) = some a5 ∧ (ok M a5 3 ∧ (B_X3_stepSize_0 (fun r8 M7 => ((r8 ≤ 0 → Q (0 : Int32) M7) ∧ (¬ r8 ≤ 0 → (ok M7 a5 3 ∧ (B_X3_wasAlarmed_0 (fun r12 M11 => ((r12 = 0 → (ok M11 a1 4 ∧ ((¬ (gI M11 a1 0) = (1 : Int32) → B_X5_isAlarming_51 Q  h0 x1 x2 x3 M11) ∧ ((gI M11 a1 0) = (1 : Int32) → (ok M11 a5 3 ∧ (B_X3_undoingOf_0 (fun r18 M17 => ((r18 = (-9 : Int32) → B_X5_isAlarming_51 Q  h0 x1 x2 x3 M17) ∧ (¬ r18 = (-9 : Int32) → B_X5_isAlarming_52 Q  h0 x1 x2 x3 (1 : Int32) M17))) a5 x3 M11)))))) ∧ (¬ r12 = 0 → Q (0 : Int32) M11))) a5 x3 M7))))) a5 x3 M)))))))
set_option maxHeartbeats 4000000 in
set_option maxRecDepth 100000 in
theorem k_X5_isAlarming_0 {p : Program} {l : Launch} {e : Env} {s : State} {m : MethodId} {args : Array Value} {below : List Frame} {meth : Method} {c : Code} {D : va_G} {cy : Nat → ClassId} {A : Nat → Prop} {Q : Int32 → Mm → Prop} (E : Ex p m c cX5_isAlarming 6 s args RX5 D cy A) (hr : meth.sig.returnType = (some .boolean)) (hlk : meth.locks = false) : ∀ (h0 : Nat) (x1 : Option Nat) (x2 : Int32) (x3 : Int32) (M : Mm) (H : Heap) (locs : List Loc) (ls : Array Slot), B_X5_isAlarming_0 Q  h0 x1 x2 x3 M → Wd D cy A s M H locs → lh ls 6 [(0, rv (some h0)), (1, rv x1), (2, iv x2), (3, iv x3)] → W p l e (rmm 3 0 0) s m args below meth c H locs 0 0 (MQ below (va_Qi Q (Po D cy A) A) args s 0 0 A) (F0 m 0 ls []) := by
  obtain ⟨hx, hb, hml, hown, hts⟩ := E.1
  intro h0 x1 x2 x3 M H locs ls h w hl
  unfold B_X5_isAlarming_0 at h
  refine r_aload_n (x := x1) hx hb dX5_isAlarming_0 rfl (lh_at hl 1 rfl) ?_
  obtain ⟨a1, ea1, h⟩ := h
  obtain ⟨ho2, h⟩ := h
  refine r_getR E w ea1 ho2 cl_X4 1 rfl fl_X5_218 dX5_isAlarming_1 ?_
  refine lv_iload_n (x := x2) hx hb dX5_isAlarming_4 rfl (lh_at hl 2 rfl) ?_
  obtain ⟨a3, ea3, h⟩ := h
  obtain ⟨ha4, h⟩ := h
  refine r_aald10 E w ea3 ha4 dX5_isAlarming_5 ?_
  refine r_astore (lv' := [(4, rv (gR M a3 (Int32.toNatClampNeg x2))), (0, rv (some h0)), (1, rv x1), (2, iv x2), (3, iv x3)]) hx hb dX5_isAlarming_6 hl (by decide) rfl (fun ls hl => ?_)
  refine r_aload (x := (gR M a3 (Int32.toNatClampNeg x2))) hx hb dX5_isAlarming_8 (lh_at hl 0 rfl) ?_
  refine lv_iload_n (x := x3) hx hb dX5_isAlarming_10 rfl (lh_at hl 4 rfl) ?_
  obtain ⟨a5, ea5, h⟩ := h
  obtain ⟨ho6, h⟩ := h
  refine z_callVi E w ea5 ho6 cl_X3 yk_X3_stepSize ⟨Nat.le_of_ble_eq_true rfl, Nat.le_of_ble_eq_true rfl⟩ ⟨(Nat.zero_le _), (Nat.zero_le _)⟩ rfl ml_X5_141 im_X3_stepSize sl_X3_stepSize [iv x3] rfl rfl hl [] rfl (Nat.le_of_ble_eq_true rfl) (K_X3_stepSize h) dX5_isAlarming_11 (fun r8 M7 H locs h w => ?_)
  refine lv_if_le (tgt := 26) hx hb dX5_isAlarming_14 (by decide) (fun c9 => ?_) (fun c9 => ?_)
  · have h := h.1 c9
    refine lv_iconst (v := (0 : Int32)) hx hb dX5_isAlarming_26 (by decide) ?_
    exact r_zret E w hr hlk ⟨Or.inl rfl, h⟩ (Nat.le_refl 0) (Nat.le_refl 0) dX5_isAlarming_27
  · have h := h.2 c9
    refine r_aload (x := (gR M a3 (Int32.toNatClampNeg x2))) hx hb dX5_isAlarming_17 (lh_at hl 0 rfl) ?_
    refine lv_iload_n (x := x3) hx hb dX5_isAlarming_19 rfl (lh_at hl 4 rfl) ?_
    obtain ⟨ho10, h⟩ := h
    refine z_callVi E w ea5 ho10 cl_X3 yk_X3_wasAlarmed ⟨Nat.le_of_ble_eq_true rfl, Nat.le_of_ble_eq_true rfl⟩ ⟨(Nat.zero_le _), (Nat.zero_le _)⟩ rfl ml_X5_273 im_X3_wasAlarmed sl_X3_wasAlarmed [iv x3] rfl rfl hl [] rfl (Nat.le_of_ble_eq_true rfl) (K_X3_wasAlarmed h) dX5_isAlarming_20 (fun r12 M11 H locs h w => ?_)
    refine lv_if_eq (tgt := 28) hx hb dX5_isAlarming_23 (by decide) (fun c13 => ?_) (fun c13 => ?_)
    · have h := h.1 c13
      refine r_aload_n (x := x1) hx hb dX5_isAlarming_28 rfl (lh_at hl 2 rfl) ?_
      obtain ⟨ho14, h⟩ := h
      refine r_getI E w ea1 ho14 cl_X4 0 rfl fl_X5_64 dX5_isAlarming_29 ?_
      refine lv_iconst (v := (1 : Int32)) hx hb dX5_isAlarming_32 (by decide) ?_
      refine lv_icmp_ne (tgt := 51) hx hb dX5_isAlarming_33 (by decide) (fun c15 => ?_) (fun c15 => ?_)
      · have h := h.1 c15
        exact k_X5_isAlarming_51 E hr hlk  _ _ _ _ _ _ _ _ h w (lh_sub hl [1, 2, 3, 4] rfl)
      · have h := h.2 c15
        refine r_aload (x := (gR M a3 (Int32.toNatClampNeg x2))) hx hb dX5_isAlarming_36 (lh_at hl 0 rfl) ?_
        refine lv_iload_n (x := x3) hx hb dX5_isAlarming_38 rfl (lh_at hl 4 rfl) ?_
        obtain ⟨ho16, h⟩ := h
        refine z_callVi E w ea5 ho16 cl_X3 yk_X3_undoingOf ⟨Nat.le_of_ble_eq_true rfl, Nat.le_of_ble_eq_true rfl⟩ ⟨(Nat.zero_le _), (Nat.zero_le _)⟩ rfl ml_X5_152 im_X3_undoingOf sl_X3_undoingOf [iv x3] rfl rfl hl [] rfl (Nat.le_of_ble_eq_true rfl) (K_X3_undoingOf h) dX5_isAlarming_39 (fun r18 M17 H locs h w => ?_)
        refine lv_bipush (v := (-9 : Int32)) hx hb dX5_isAlarming_42 (by decide) ?_
        refine lv_icmp_eq (tgt := 51) hx hb dX5_isAlarming_44 (by decide) (fun c19 => ?_) (fun c19 => ?_)
        · have h := h.1 c19
          exact k_X5_isAlarming_51 E hr hlk  _ _ _ _ _ _ _ _ h w (lh_sub hl [1, 2, 3, 4] rfl)
        · have h := h.2 c19
          refine lv_iconst (v := (1 : Int32)) hx hb dX5_isAlarming_47 (by decide) ?_
          refine lv_goto (tgt := 52) hx hb dX5_isAlarming_48 (by decide) ?_
          exact k_X5_isAlarming_52 E hr hlk  _ _ _ _ _ _ _ _ _ h w (lh_sub hl [1, 2, 3, 4] rfl)
    · have h := h.2 c13
      refine lv_iconst (v := (0 : Int32)) hx hb dX5_isAlarming_26 (by decide) ?_
      exact r_zret E w hr hlk ⟨Or.inl rfl, h⟩ (Nat.le_refl 0) (Nat.le_refl 0) dX5_isAlarming_27
theorem K_X5_isAlarming {l : Launch} {Q : Int32 → Mm → Prop} {h0 : Nat} {x1 : Option Nat} {x2 : Int32} {x3 : Int32} {M : Mm} (h : B_X5_isAlarming_0 Q h0 x1 x2 x3 M) : KI l yX5_isAlarming cdX5_isAlarming (rmm 3 0 0) [rv (some h0), rv x1, iv x2, iv x3] M Q :=
  KI_of (by decide) rfl (Nat.le_of_ble_eq_true rfl) (fun p e s m args below meth c D cy A ls E hr hlk hn w hl => k_X5_isAlarming_0 E hr hlk _ _ _ _ _ _ _ _ h w hl)
def B_X5_isRare_0 (Q : Int32 → Mm → Prop)  (h0 : Nat) (x1 : Option Nat) (x2 : Int32) (x3 : Int32) (x4 : Int32) (gc : Nat) (gs : Nat) (M : Mm) : Prop := (ok M h0 5 ∧ (∃ b4 b4s : Nat, b4 ≤ gc ∧ b4s ≤ gs ∧ (B_X5_readyChances_0 (fun r3 M2 => (∃ a5, r3 = some a5 ∧ (ok M2 a5 0 ∧ (B_X0_reckon_0 (fun r8 M7 => ((r8 = 0 → Q (1 : Int32) M7) ∧ (¬ r8 = 0 → (ok M7 a5 0 ∧ ((0 < (lg_cmp ((Int32.toInt64 (gI M7 a5 1)) * (Int32.toInt64 x4)) ((Int32.toInt64 x3) * (Int32.toInt64 (gI M7 a5 2)))) → Q (0 : Int32) M7) ∧ (¬ 0 < (lg_cmp ((Int32.toInt64 (gI M7 a5 1)) * (Int32.toInt64 x4)) ((Int32.toInt64 x3) * (Int32.toInt64 (gI M7 a5 2)))) → Q (1 : Int32) M7)))))) a5 x1 x2 M2)))) h0  b4 b4s M)))
set_option maxHeartbeats 4000000 in
set_option maxRecDepth 100000 in
theorem k_X5_isRare_0 {p : Program} {l : Launch} {e : Env} {s : State} {m : MethodId} {args : Array Value} {below : List Frame} {meth : Method} {c : Code} {D : va_G} {cy : Nat → ClassId} {A : Nat → Prop} {mc ms : Nat} {Q : Int32 → Mm → Prop} (E : Ex p m c cX5_isRare 6 s args RX5 D cy A) (hr : meth.sig.returnType = (some .boolean)) (hlk : meth.locks = false) : ∀ (h0 : Nat) (x1 : Option Nat) (x2 : Int32) (x3 : Int32) (x4 : Int32) (gc : Nat) (gs : Nat) (M : Mm) (H : Heap) (locs : List Loc) (ls : Array Slot) (cells slots : Nat), B_X5_isRare_0 Q  h0 x1 x2 x3 x4 gc gs M → Wd D cy A s M H locs → lh ls 6 [(0, rv (some h0)), (1, rv x1), (2, iv x2), (3, iv x3), (4, iv x4)] → cells + gc ≤ mc ∧ slots + gs ≤ ms → W p l e (rmm 3 mc ms) s m args below meth c H locs cells slots (MQ below (va_Qi Q (Po D cy A) A) args s mc ms A) (F0 m 0 ls []) := by
  obtain ⟨hx, hb, hml, hown, hts⟩ := E.1
  intro h0 x1 x2 x3 x4 gc gs M H locs ls cells slots h w hl hg
  unfold B_X5_isRare_0 at h
  refine r_aload_n (x := (some h0)) hx hb dX5_isRare_0 rfl (lh_at hl 0 rfl) ?_
  obtain ⟨ho1, h⟩ := h
  obtain ⟨b4, b4s, b4c, b4d, h⟩ := h
  refine r_callVq (rm := rmm 2 b4 b4s) E w rfl ho1 cl_X5 yk_X5_readyChances ⟨Nat.le_of_ble_eq_true rfl, Nat.le_of_ble_eq_true rfl⟩ ⟨show cells + b4 ≤ mc by omega, show slots + b4s ≤ ms by omega⟩ rfl ml_X5_155 im_X5_readyChances sl_X5_readyChances [] rfl rfl hl [] rfl (Nat.le_of_ble_eq_true rfl) (K_X5_readyChances h) dX5_isRare_1 (fun r3 M2 H locs h w => ?_)
  have hg : (cells + b4) + (gc - b4) ≤ mc ∧ (slots + b4s) + (gs - b4s) ≤ ms := ⟨by omega, by omega⟩
  refine r_astore (lv' := [(5, rv r3), (0, rv (some h0)), (1, rv x1), (2, iv x2), (3, iv x3), (4, iv x4)]) hx hb dX5_isRare_4 hl (by decide) rfl (fun ls hl => ?_)
  refine r_aload (x := r3) hx hb dX5_isRare_6 (lh_at hl 0 rfl) ?_
  refine r_aload_n (x := x1) hx hb dX5_isRare_8 rfl (lh_at hl 2 rfl) ?_
  refine lv_iload_n (x := x2) hx hb dX5_isRare_9 rfl (lh_at hl 3 rfl) ?_
  obtain ⟨a5, ea5, h⟩ := h
  obtain ⟨ho6, h⟩ := h
  refine z_callVi E w ea5 ho6 cl_X0 yk_X0_reckon ⟨Nat.le_of_ble_eq_true rfl, Nat.le_of_ble_eq_true rfl⟩ ⟨(show (cells + b4) ≤ mc by omega), (show (slots + b4s) ≤ ms by omega)⟩ rfl ml_X5_159 im_X0_reckon sl_X0_reckon [rv x1, iv x2] rfl rfl hl [] rfl (Nat.le_of_ble_eq_true rfl) (K_X0_reckon h) dX5_isRare_10 (fun r8 M7 H locs h w => ?_)
  refine lv_if_eq (tgt := 39) hx hb dX5_isRare_13 (by decide) (fun c9 => ?_) (fun c9 => ?_)
  · have h := h.1 c9
    refine lv_iconst (v := (1 : Int32)) hx hb dX5_isRare_39 (by decide) ?_
    refine lv_goto (tgt := 44) hx hb dX5_isRare_40 (by decide) ?_
    exact r_zret E w hr hlk ⟨Or.inr rfl, h⟩ (show (cells + b4) ≤ mc by omega) (show (slots + b4s) ≤ ms by omega) dX5_isRare_44
  · have h := h.2 c9
    refine r_aload (x := r3) hx hb dX5_isRare_16 (lh_at hl 0 rfl) ?_
    obtain ⟨ho10, h⟩ := h
    refine r_getI E w ea5 ho10 cl_X0 1 rfl fl_X5_165 dX5_isRare_18 ?_
    refine lv_i2l hx hb dX5_isRare_21 rfl ?_
    refine lv_iload (x := x4) hx hb dX5_isRare_22 (lh_at hl 5 rfl) ?_
    refine lv_i2l hx hb dX5_isRare_24 rfl ?_
    refine lv_lmul hx hb dX5_isRare_25 ?_
    refine lv_iload_n (x := x3) hx hb dX5_isRare_26 rfl (lh_at hl 4 rfl) ?_
    refine lv_i2l hx hb dX5_isRare_27 rfl ?_
    refine r_aload (x := r3) hx hb dX5_isRare_28 (lh_at hl 0 rfl) ?_
    refine r_getI E w ea5 ho10 cl_X0 2 rfl fl_X5_171 dX5_isRare_30 ?_
    refine lv_i2l hx hb dX5_isRare_33 rfl ?_
    refine lv_lmul hx hb dX5_isRare_34 ?_
    refine W.lcmp hx hb dX5_isRare_35 ?_
    refine lv_if_gt (tgt := 43) hx hb dX5_isRare_36 (by decide) (fun c11 => ?_) (fun c11 => ?_)
    · have h := h.1 c11
      refine lv_iconst (v := (0 : Int32)) hx hb dX5_isRare_43 (by decide) ?_
      exact r_zret E w hr hlk ⟨Or.inl rfl, h⟩ (show (cells + b4) ≤ mc by omega) (show (slots + b4s) ≤ ms by omega) dX5_isRare_44
    · have h := h.2 c11
      refine lv_iconst (v := (1 : Int32)) hx hb dX5_isRare_39 (by decide) ?_
      refine lv_goto (tgt := 44) hx hb dX5_isRare_40 (by decide) ?_
      exact r_zret E w hr hlk ⟨Or.inr rfl, h⟩ (show (cells + b4) ≤ mc by omega) (show (slots + b4s) ≤ ms by omega) dX5_isRare_44
theorem K_X5_isRare {l : Launch} {Q : Int32 → Mm → Prop} {h0 : Nat} {x1 : Option Nat} {x2 : Int32} {x3 : Int32} {x4 : Int32} {gc gs : Nat} {M : Mm} (h : B_X5_isRare_0 Q h0 x1 x2 x3 x4 gc gs M) : KI l yX5_isRare cdX5_isRare (rmm 3 gc gs) [rv (some h0), rv x1, iv x2, iv x3, iv x4] M Q :=
  KI_of (by decide) rfl (Nat.le_of_ble_eq_true rfl) (fun p e s m args below meth c D cy A ls E hr hlk hn w hl => k_X5_isRare_0 E hr hlk _ _ _ _ _ _ _ _ _ _ _ _ _ h w hl ⟨Nat.le_of_eq (Nat.zero_add _), Nat.le_of_eq (Nat.zero_add _)⟩)
def B_X5_keepAlarm_20 (Q : Mm → Prop)  (h0 : Nat) (M : Mm) : Prop := (ok M h0 5 ∧ (∀ M2, M2 = pI M h0 10 ((gI M h0 10) + (1 : Int32)) → Q M2))
set_option maxHeartbeats 4000000 in
set_option maxRecDepth 100000 in
theorem k_X5_keepAlarm_20 {p : Program} {l : Launch} {e : Env} {s : State} {m : MethodId} {args : Array Value} {below : List Frame} {meth : Method} {c : Code} {D : va_G} {cy : Nat → ClassId} {A : Nat → Prop} {Q : Mm → Prop} (E : Ex p m c cX5_keepAlarm 2 s args RX5 D cy A) (hr : meth.sig.returnType = none) (hlk : meth.locks = false) : ∀ (h0 : Nat) (M : Mm) (H : Heap) (locs : List Loc) (ls : Array Slot), B_X5_keepAlarm_20 Q  h0 M → Wd D cy A s M H locs → lh ls 2 [(0, rv (some h0))] → W p l e (rmm 0 0 0) s m args below meth c H locs 0 0 (MQ below (va_Qv Q (Po D cy A) A) args s 0 0 A) (F0 m 20 ls []) := by
  obtain ⟨hx, hb, hml, hown, hts⟩ := E.1
  intro h0 M H locs ls h w hl
  unfold B_X5_keepAlarm_20 at h
  refine r_aload_n (x := (some h0)) hx hb dX5_keepAlarm_20 rfl (lh_at hl 0 rfl) ?_
  refine r_dupr hx hb dX5_keepAlarm_21 ?_
  obtain ⟨ho1, h⟩ := h
  refine r_getI E w rfl ho1 cl_X5 10 rfl fl_X5_174 dX5_keepAlarm_22 ?_
  refine lv_iconst (v := (1 : Int32)) hx hb dX5_keepAlarm_25 (by decide) ?_
  refine lv_iadd hx hb dX5_keepAlarm_26 ?_
  refine r_putI (v := ((gI M h0 10) + (1 : Int32))) E w rfl ho1 cl_X5 10 rfl fl_X5_174 (Or.inl rfl) (Or.inl rfl) dX5_keepAlarm_27 (fun H locs w => ?_)
  obtain ⟨M2, eM2⟩ : ∃ z, z = pI M h0 10 ((gI M h0 10) + (1 : Int32)) := ⟨_, rfl⟩
  rw [← eM2] at w
  have h := h M2 eM2
  exact r_vret E w hr hlk h (Nat.le_refl 0) (Nat.le_refl 0) dX5_keepAlarm_30
def B_X5_keepAlarm_0 (Q : Mm → Prop)  (h0 : Nat) (x1 : Int32) (M : Mm) : Prop := (ok M h0 5 ∧ (((300 : Int32) ≤ (gI M h0 10) → B_X5_keepAlarm_20 Q  h0 M) ∧ (¬ (300 : Int32) ≤ (gI M h0 10) → (∃ a3, (gR M h0 2) = some a3 ∧ (ar M a3 7 (gI M h0 10) ∧ (∀ M5, M5 = pI M a3 (Int32.toNatClampNeg (gI M h0 10)) x1 → B_X5_keepAlarm_20 Q  h0 M5))))))
set_option maxHeartbeats 4000000 in
set_option maxRecDepth 100000 in
theorem k_X5_keepAlarm_0 {p : Program} {l : Launch} {e : Env} {s : State} {m : MethodId} {args : Array Value} {below : List Frame} {meth : Method} {c : Code} {D : va_G} {cy : Nat → ClassId} {A : Nat → Prop} {Q : Mm → Prop} (E : Ex p m c cX5_keepAlarm 2 s args RX5 D cy A) (hr : meth.sig.returnType = none) (hlk : meth.locks = false) : ∀ (h0 : Nat) (x1 : Int32) (M : Mm) (H : Heap) (locs : List Loc) (ls : Array Slot), B_X5_keepAlarm_0 Q  h0 x1 M → Wd D cy A s M H locs → lh ls 2 [(0, rv (some h0)), (1, iv x1)] → W p l e (rmm 0 0 0) s m args below meth c H locs 0 0 (MQ below (va_Qv Q (Po D cy A) A) args s 0 0 A) (F0 m 0 ls []) := by
  obtain ⟨hx, hb, hml, hown, hts⟩ := E.1
  intro h0 x1 M H locs ls h w hl
  unfold B_X5_keepAlarm_0 at h
  refine r_aload_n (x := (some h0)) hx hb dX5_keepAlarm_0 rfl (lh_at hl 0 rfl) ?_
  obtain ⟨ho1, h⟩ := h
  refine r_getI E w rfl ho1 cl_X5 10 rfl fl_X5_174 dX5_keepAlarm_1 ?_
  refine lv_sipush (v := (300 : Int32)) hx hb dX5_keepAlarm_4 (by decide) ?_
  refine lv_icmp_ge (tgt := 20) hx hb dX5_keepAlarm_7 (by decide) (fun c2 => ?_) (fun c2 => ?_)
  · have h := h.1 c2
    exact k_X5_keepAlarm_20 E hr hlk  _ _ _ _ _ h w (lh_sub hl [0] rfl)
  · have h := h.2 c2
    refine r_aload_n (x := (some h0)) hx hb dX5_keepAlarm_10 rfl (lh_at hl 0 rfl) ?_
    refine r_getR E w rfl ho1 cl_X5 2 rfl fl_X5_19 dX5_keepAlarm_11 ?_
    refine r_aload_n (x := (some h0)) hx hb dX5_keepAlarm_14 rfl (lh_at hl 0 rfl) ?_
    refine r_getI E w rfl ho1 cl_X5 10 rfl fl_X5_174 dX5_keepAlarm_15 ?_
    refine lv_iload_n (x := x1) hx hb dX5_keepAlarm_18 rfl (lh_at hl 1 rfl) ?_
    obtain ⟨a3, ea3, h⟩ := h
    obtain ⟨ha4, h⟩ := h
    refine r_iast (v := x1) E w ea3 ha4 dX5_keepAlarm_19 (fun H locs w => ?_)
    obtain ⟨M5, eM5⟩ : ∃ z, z = pI M a3 (Int32.toNatClampNeg (gI M h0 10)) x1 := ⟨_, rfl⟩
    rw [← eM5] at w
    have h := h M5 eM5
    exact k_X5_keepAlarm_20 E hr hlk  _ _ _ _ _ h w (lh_sub hl [0] rfl)
theorem K_X5_keepAlarm {l : Launch} {Q : Mm → Prop} {h0 : Nat} {x1 : Int32} {M : Mm} (h : B_X5_keepAlarm_0 Q h0 x1 M) : KV l yX5_keepAlarm cdX5_keepAlarm (rmm 0 0 0) [rv (some h0), iv x1] M Q :=
  KV_of (by decide) rfl (Nat.le_of_ble_eq_true rfl) (fun p e s m args below meth c D cy A ls E hr hlk hn w hl => k_X5_keepAlarm_0 E hr hlk _ _ _ _ _ _ h w hl)
