def B_X3_stepSize_0 (Q : Int32 → Mm → Prop)  (h0 : Nat) (x1 : Int32) (M : Mm) : Prop := (ok M h0 3 ∧ (∃ a2, (gR M h0 11) = some a2 ∧ (ar M a2 7 (x1 + (1 : Int32)) ∧ (ar M a2 7 x1 ∧ Q ((gI M a2 (Int32.toNatClampNeg (x1 + (1 : Int32)))) - (gI M a2 (Int32.toNatClampNeg x1))) M))))
set_option maxHeartbeats 4000000 in
set_option maxRecDepth 100000 in
theorem k_X3_stepSize_0 {p : Program} {l : Launch} {e : Env} {s : State} {m : MethodId} {args : Array Value} {below : List Frame} {meth : Method} {c : Code} {D : va_G} {cy : Nat → ClassId} {A : Nat → Prop} {Q : Int32 → Mm → Prop} (E : Ex p m c cX3_stepSize 2 s args RX3 D cy A) (hr : meth.sig.returnType = (some .int)) (hlk : meth.locks = false) : ∀ (h0 : Nat) (x1 : Int32) (M : Mm) (H : Heap) (locs : List Loc) (ls : Array Slot), B_X3_stepSize_0 Q  h0 x1 M → Wd D cy A s M H locs → lh ls 2 [(0, rv (some h0)), (1, iv x1)] → W p l e (rmm 0 0 0) s m args below meth c H locs 0 0 (MQ below (va_Qi Q (Po D cy A) A) args s 0 0 A) (F0 m 0 ls []) := by
  obtain ⟨hx, hb, hml, hown, hts⟩ := E.1
  intro h0 x1 M H locs ls h w hl
  unfold B_X3_stepSize_0 at h
  refine r_aload_n (x := (some h0)) hx hb dX3_stepSize_0 rfl (lh_at hl 0 rfl) ?_
  obtain ⟨ho1, h⟩ := h
  refine r_getR E w rfl ho1 cl_X3 11 rfl fl_X3_28 dX3_stepSize_1 ?_
  refine lv_iload_n (x := x1) hx hb dX3_stepSize_4 rfl (lh_at hl 1 rfl) ?_
  refine lv_iconst (v := (1 : Int32)) hx hb dX3_stepSize_5 (by decide) ?_
  refine lv_iadd hx hb dX3_stepSize_6 ?_
  obtain ⟨a2, ea2, h⟩ := h
  obtain ⟨ha3, h⟩ := h
  refine r_iald E w ea2 ha3 dX3_stepSize_7 ?_
  refine r_aload_n (x := (some h0)) hx hb dX3_stepSize_8 rfl (lh_at hl 0 rfl) ?_
  refine r_getR E w rfl ho1 cl_X3 11 rfl fl_X3_28 dX3_stepSize_9 ?_
  refine lv_iload_n (x := x1) hx hb dX3_stepSize_12 rfl (lh_at hl 1 rfl) ?_
  obtain ⟨ha4, h⟩ := h
  refine r_iald E w ea2 ha4 dX3_stepSize_13 ?_
  refine lv_isub hx hb dX3_stepSize_14 ?_
  exact r_iret E w hr hlk h (Nat.le_refl 0) (Nat.le_refl 0) dX3_stepSize_15
theorem K_X3_stepSize {l : Launch} {Q : Int32 → Mm → Prop} {h0 : Nat} {x1 : Int32} {M : Mm} (h : B_X3_stepSize_0 Q h0 x1 M) : KI l yX3_stepSize cdX3_stepSize (rmm 0 0 0) [rv (some h0), iv x1] M Q :=
  KI_of (by decide) rfl (Nat.le_of_ble_eq_true rfl) (fun p e s m args below meth c D cy A ls E hr hlk hn w hl => k_X3_stepSize_0 E hr hlk _ _ _ _ _ _ h w hl)
def B_X3_rankOf_8 (Q : Int32 → Mm → Prop)  : Nat → Nat → Int32 → Int32 → Int32 → Int32 → Int32 → Mm → Prop
  | 0, _, _, _, _, _, _, _ => False
  | n + 1, h0, x1, x2, x3, x4, x5, M => ((x2 ≤ x5 → Q (((2 : Int32) * x3) + x4) M) ∧ (¬ x2 ≤ x5 → (ok M h0 3 ∧ (∃ a3, (gR M h0 0) = some a3 ∧ (ar M a3 7 x5 ∧ ((¬ (gI M a3 (Int32.toNatClampNeg x5)) = x1 → (((gI M a3 (Int32.toNatClampNeg x5)) = (-9 : Int32) → B_X3_rankOf_8 Q  n h0 x1 x2 x3 x4 (x5 + 1) M) ∧ (¬ (gI M a3 (Int32.toNatClampNeg x5)) = (-9 : Int32) → ((x1 ≤ (gI M a3 (Int32.toNatClampNeg x5)) → B_X3_rankOf_8 Q  n h0 x1 x2 x3 x4 (x5 + 1) M) ∧ (¬ x1 ≤ (gI M a3 (Int32.toNatClampNeg x5)) → B_X3_rankOf_8 Q  n h0 x1 x2 (x3 + 1) x4 (x5 + 1) M))))) ∧ ((gI M a3 (Int32.toNatClampNeg x5)) = x1 → B_X3_rankOf_8 Q  n h0 x1 x2 x3 (x4 + 1) (x5 + 1) M)))))))
set_option maxHeartbeats 4000000 in
set_option maxRecDepth 100000 in
theorem k_X3_rankOf_8 {p : Program} {l : Launch} {e : Env} {s : State} {m : MethodId} {args : Array Value} {below : List Frame} {meth : Method} {c : Code} {D : va_G} {cy : Nat → ClassId} {A : Nat → Prop} {Q : Int32 → Mm → Prop} (E : Ex p m c cX3_rankOf 7 s args RX3 D cy A) (hr : meth.sig.returnType = (some .int)) (hlk : meth.locks = false) : ∀ (n : Nat), ∀ (h0 : Nat) (x1 : Int32) (x2 : Int32) (x3 : Int32) (x4 : Int32) (x5 : Int32) (M : Mm) (H : Heap) (locs : List Loc) (ls : Array Slot), B_X3_rankOf_8 Q  n h0 x1 x2 x3 x4 x5 M → Wd D cy A s M H locs → lh ls 7 [(0, rv (some h0)), (1, iv x1), (2, iv x2), (3, iv x3), (4, iv x4), (5, iv x5)] → W p l e (rmm 0 0 0) s m args below meth c H locs 0 0 (MQ below (va_Qi Q (Po D cy A) A) args s 0 0 A) (F0 m 8 ls []) := by
  obtain ⟨hx, hb, hml, hown, hts⟩ := E.1
  intro n
  induction n with
  | zero => intro h0 x1 x2 x3 x4 x5 M H locs ls h; exact False.elim h
  | succ n ih =>
    intro h0 x1 x2 x3 x4 x5 M H locs ls h w hl
    unfold B_X3_rankOf_8 at h
    refine lv_iload (x := x5) hx hb dX3_rankOf_8 (lh_at hl 5 rfl) ?_
    refine lv_iload_n (x := x2) hx hb dX3_rankOf_10 rfl (lh_at hl 2 rfl) ?_
    refine lv_icmp_ge (tgt := 57) hx hb dX3_rankOf_11 (by decide) (fun c1 => ?_) (fun c1 => ?_)
    · have h := h.1 c1
      refine lv_iconst (v := (2 : Int32)) hx hb dX3_rankOf_57 (by decide) ?_
      refine lv_iload_n (x := x3) hx hb dX3_rankOf_58 rfl (lh_at hl 3 rfl) ?_
      refine lv_imul hx hb dX3_rankOf_59 ?_
      refine lv_iload (x := x4) hx hb dX3_rankOf_60 (lh_at hl 4 rfl) ?_
      refine lv_iadd hx hb dX3_rankOf_62 ?_
      exact r_iret E w hr hlk h (Nat.le_refl 0) (Nat.le_refl 0) dX3_rankOf_63
    · have h := h.2 c1
      refine r_aload_n (x := (some h0)) hx hb dX3_rankOf_14 rfl (lh_at hl 0 rfl) ?_
      obtain ⟨ho2, h⟩ := h
      refine r_getR E w rfl ho2 cl_X3 0 rfl fl_X3_9 dX3_rankOf_15 ?_
      refine lv_iload (x := x5) hx hb dX3_rankOf_18 (lh_at hl 5 rfl) ?_
      obtain ⟨a3, ea3, h⟩ := h
      obtain ⟨ha4, h⟩ := h
      refine r_iald E w ea3 ha4 dX3_rankOf_20 ?_
      refine r_istore (lv' := [(6, iv (gI M a3 (Int32.toNatClampNeg x5))), (0, rv (some h0)), (1, iv x1), (2, iv x2), (3, iv x3), (4, iv x4), (5, iv x5)]) hx hb dX3_rankOf_21 hl (by decide) rfl (fun ls hl => ?_)
      refine lv_iload (x := (gI M a3 (Int32.toNatClampNeg x5))) hx hb dX3_rankOf_23 (lh_at hl 0 rfl) ?_
      refine lv_iload_n (x := x1) hx hb dX3_rankOf_25 rfl (lh_at hl 2 rfl) ?_
      refine lv_icmp_ne (tgt := 35) hx hb dX3_rankOf_26 (by decide) (fun c5 => ?_) (fun c5 => ?_)
      · have h := h.1 c5
        refine lv_iload (x := (gI M a3 (Int32.toNatClampNeg x5))) hx hb dX3_rankOf_35 (lh_at hl 0 rfl) ?_
        refine lv_bipush (v := (-9 : Int32)) hx hb dX3_rankOf_37 (by decide) ?_
        refine lv_icmp_eq (tgt := 51) hx hb dX3_rankOf_39 (by decide) (fun c6 => ?_) (fun c6 => ?_)
        · have h := h.1 c6
          refine r_iinc (k := 6) (x := x5) (v := (x5 + 1)) (lv' := [(5, iv (x5 + 1)), (6, iv (gI M a3 (Int32.toNatClampNeg x5))), (0, rv (some h0)), (1, iv x1), (2, iv x2), (3, iv x3), (4, iv x4)]) hx hb dX3_rankOf_51 hl rfl rfl (by decide) rfl (fun ls hl => ?_)
          refine lv_goto (tgt := 8) hx hb dX3_rankOf_54 (by decide) ?_
          exact ih _ _ _ _ _ _ _ _ _ _ h w (lh_sub hl [2, 3, 4, 5, 6, 0] rfl)
        · have h := h.2 c6
          refine lv_iload (x := (gI M a3 (Int32.toNatClampNeg x5))) hx hb dX3_rankOf_42 (lh_at hl 0 rfl) ?_
          refine lv_iload_n (x := x1) hx hb dX3_rankOf_44 rfl (lh_at hl 2 rfl) ?_
          refine lv_icmp_ge (tgt := 51) hx hb dX3_rankOf_45 (by decide) (fun c7 => ?_) (fun c7 => ?_)
          · have h := h.1 c7
            refine r_iinc (k := 6) (x := x5) (v := (x5 + 1)) (lv' := [(5, iv (x5 + 1)), (6, iv (gI M a3 (Int32.toNatClampNeg x5))), (0, rv (some h0)), (1, iv x1), (2, iv x2), (3, iv x3), (4, iv x4)]) hx hb dX3_rankOf_51 hl rfl rfl (by decide) rfl (fun ls hl => ?_)
            refine lv_goto (tgt := 8) hx hb dX3_rankOf_54 (by decide) ?_
            exact ih _ _ _ _ _ _ _ _ _ _ h w (lh_sub hl [2, 3, 4, 5, 6, 0] rfl)
          · have h := h.2 c7
            refine r_iinc (k := 4) (x := x3) (v := (x3 + 1)) (lv' := [(3, iv (x3 + 1)), (6, iv (gI M a3 (Int32.toNatClampNeg x5))), (0, rv (some h0)), (1, iv x1), (2, iv x2), (4, iv x4), (5, iv x5)]) hx hb dX3_rankOf_48 hl rfl rfl (by decide) rfl (fun ls hl => ?_)
            refine r_iinc (k := 6) (x := x5) (v := (x5 + 1)) (lv' := [(5, iv (x5 + 1)), (3, iv (x3 + 1)), (6, iv (gI M a3 (Int32.toNatClampNeg x5))), (0, rv (some h0)), (1, iv x1), (2, iv x2), (4, iv x4)]) hx hb dX3_rankOf_51 hl rfl rfl (by decide) rfl (fun ls hl => ?_)
            refine lv_goto (tgt := 8) hx hb dX3_rankOf_54 (by decide) ?_
            exact ih _ _ _ _ _ _ _ _ _ _ h w (lh_sub hl [3, 4, 5, 1, 6, 0] rfl)
      · have h := h.2 c5
        refine r_iinc (k := 5) (x := x4) (v := (x4 + 1)) (lv' := [(4, iv (x4 + 1)), (6, iv (gI M a3 (Int32.toNatClampNeg x5))), (0, rv (some h0)), (1, iv x1), (2, iv x2), (3, iv x3), (5, iv x5)]) hx hb dX3_rankOf_29 hl rfl rfl (by decide) rfl (fun ls hl => ?_)
        refine lv_goto (tgt := 51) hx hb dX3_rankOf_32 (by decide) ?_
        refine r_iinc (k := 6) (x := x5) (v := (x5 + 1)) (lv' := [(5, iv (x5 + 1)), (4, iv (x4 + 1)), (6, iv (gI M a3 (Int32.toNatClampNeg x5))), (0, rv (some h0)), (1, iv x1), (2, iv x2), (3, iv x3)]) hx hb dX3_rankOf_51 hl rfl rfl (by decide) rfl (fun ls hl => ?_)
        refine lv_goto (tgt := 8) hx hb dX3_rankOf_54 (by decide) ?_
        exact ih _ _ _ _ _ _ _ _ _ _ h w (lh_sub hl [3, 4, 5, 6, 1, 0] rfl)
def B_X3_rankOf_0 (Q : Int32 → Mm → Prop)  (h0 : Nat) (x1 : Int32) (x2 : Int32) (M : Mm) : Prop := (∃ n1, B_X3_rankOf_8 Q  n1 h0 x1 x2 (0 : Int32) (0 : Int32) (0 : Int32) M)
set_option maxHeartbeats 4000000 in
set_option maxRecDepth 100000 in
theorem k_X3_rankOf_0 {p : Program} {l : Launch} {e : Env} {s : State} {m : MethodId} {args : Array Value} {below : List Frame} {meth : Method} {c : Code} {D : va_G} {cy : Nat → ClassId} {A : Nat → Prop} {Q : Int32 → Mm → Prop} (E : Ex p m c cX3_rankOf 7 s args RX3 D cy A) (hr : meth.sig.returnType = (some .int)) (hlk : meth.locks = false) : ∀ (h0 : Nat) (x1 : Int32) (x2 : Int32) (M : Mm) (H : Heap) (locs : List Loc) (ls : Array Slot), B_X3_rankOf_0 Q  h0 x1 x2 M → Wd D cy A s M H locs → lh ls 7 [(0, rv (some h0)), (1, iv x1), (2, iv x2)] → W p l e (rmm 0 0 0) s m args below meth c H locs 0 0 (MQ below (va_Qi Q (Po D cy A) A) args s 0 0 A) (F0 m 0 ls []) := by
  obtain ⟨hx, hb, hml, hown, hts⟩ := E.1
  intro h0 x1 x2 M H locs ls h w hl
  unfold B_X3_rankOf_0 at h
  refine lv_iconst (v := (0 : Int32)) hx hb dX3_rankOf_0 (by decide) ?_
  refine r_istore_n (lv' := [(3, iv (0 : Int32)), (0, rv (some h0)), (1, iv x1), (2, iv x2)]) hx hb dX3_rankOf_1 rfl hl (by decide) rfl (fun ls hl => ?_)
  refine lv_iconst (v := (0 : Int32)) hx hb dX3_rankOf_2 (by decide) ?_
  refine r_istore (lv' := [(4, iv (0 : Int32)), (3, iv (0 : Int32)), (0, rv (some h0)), (1, iv x1), (2, iv x2)]) hx hb dX3_rankOf_3 hl (by decide) rfl (fun ls hl => ?_)
  refine lv_iconst (v := (0 : Int32)) hx hb dX3_rankOf_5 (by decide) ?_
  refine r_istore (lv' := [(5, iv (0 : Int32)), (4, iv (0 : Int32)), (3, iv (0 : Int32)), (0, rv (some h0)), (1, iv x1), (2, iv x2)]) hx hb dX3_rankOf_6 hl (by decide) rfl (fun ls hl => ?_)
  obtain ⟨n1, h⟩ := h
  exact k_X3_rankOf_8 E hr hlk  n1 _ _ _ _ _ _ _ _ _ _ h w (lh_sub hl [3, 4, 5, 2, 1, 0] rfl)
theorem K_X3_rankOf {l : Launch} {Q : Int32 → Mm → Prop} {h0 : Nat} {x1 : Int32} {x2 : Int32} {M : Mm} (h : B_X3_rankOf_0 Q h0 x1 x2 M) : KI l yX3_rankOf cdX3_rankOf (rmm 0 0 0) [rv (some h0), iv x1, iv x2] M Q :=
  KI_of (by decide) rfl (Nat.le_of_ble_eq_true rfl) (fun p e s m args below meth c D cy A ls E hr hlk hn w hl => k_X3_rankOf_0 E hr hlk _ _ _ _ _ _ _ h w hl)
def B_X3_gatherMeasured_7 (Q : Mm → Prop)  : Nat → Nat → Int32 → Int32 → Mm → Prop
  | 0, _, _, _, _ => False
  | n + 1, h0, x1, x2, M => ((x1 ≤ x2 → Q M) ∧ (¬ x1 ≤ x2 → (ok M h0 3 ∧ (∃ a3, (gR M h0 0) = some a3 ∧ (ar M a3 7 x2 ∧ (((gI M a3 (Int32.toNatClampNeg x2)) = (-9 : Int32) → B_X3_gatherMeasured_7 Q  n h0 x1 (x2 + 1) M) ∧ (¬ (gI M a3 (Int32.toNatClampNeg x2)) = (-9 : Int32) → (∃ a6, (gR M h0 7) = some a6 ∧ (ar M a6 7 (gI M h0 6) ∧ (∀ M8, M8 = pI M a6 (Int32.toNatClampNeg (gI M h0 6)) x2 → (∃ a9, (gR M8 h0 0) = some a9 ∧ (ar M8 a9 7 x2 ∧ (B_X3_rankOf_0 (fun r12 M11 => (∃ a13, (gR M8 h0 8) = some a13 ∧ (ar M11 a13 7 (gI M8 h0 6) ∧ (∀ M15, M15 = pI M11 a13 (Int32.toNatClampNeg (gI M8 h0 6)) r12 → (ok M15 h0 3 ∧ (∀ M17, M17 = pI M15 h0 6 ((gI M15 h0 6) + (1 : Int32)) → B_X3_gatherMeasured_7 Q  n h0 x1 (x2 + 1) M17)))))) h0 (gI M8 a9 (Int32.toNatClampNeg x2)) x1 M8)))))))))))))
set_option maxHeartbeats 4000000 in
set_option maxRecDepth 100000 in
theorem k_X3_gatherMeasured_7 {p : Program} {l : Launch} {e : Env} {s : State} {m : MethodId} {args : Array Value} {below : List Frame} {meth : Method} {c : Code} {D : va_G} {cy : Nat → ClassId} {A : Nat → Prop} {Q : Mm → Prop} (E : Ex p m c cX3_gatherMeasured 3 s args RX3 D cy A) (hr : meth.sig.returnType = none) (hlk : meth.locks = false) : ∀ (n : Nat), ∀ (h0 : Nat) (x1 : Int32) (x2 : Int32) (M : Mm) (H : Heap) (locs : List Loc) (ls : Array Slot), B_X3_gatherMeasured_7 Q  n h0 x1 x2 M → Wd D cy A s M H locs → lh ls 3 [(0, rv (some h0)), (1, iv x1), (2, iv x2)] → W p l e (rmm 1 0 0) s m args below meth c H locs 0 0 (MQ below (va_Qv Q (Po D cy A) A) args s 0 0 A) (F0 m 7 ls []) := by
  obtain ⟨hx, hb, hml, hown, hts⟩ := E.1
  intro n
  induction n with
  | zero => intro h0 x1 x2 M H locs ls h; exact False.elim h
  | succ n ih =>
    intro h0 x1 x2 M H locs ls h w hl
    unfold B_X3_gatherMeasured_7 at h
    refine lv_iload_n (x := x2) hx hb dX3_gatherMeasured_7 rfl (lh_at hl 2 rfl) ?_
    refine lv_iload_n (x := x1) hx hb dX3_gatherMeasured_8 rfl (lh_at hl 1 rfl) ?_
    refine lv_icmp_ge (tgt := 69) hx hb dX3_gatherMeasured_9 (by decide) (fun c1 => ?_) (fun c1 => ?_)
    · have h := h.1 c1
      exact r_vret E w hr hlk h (Nat.le_refl 0) (Nat.le_refl 0) dX3_gatherMeasured_69
    · have h := h.2 c1
      refine r_aload_n (x := (some h0)) hx hb dX3_gatherMeasured_12 rfl (lh_at hl 0 rfl) ?_
      obtain ⟨ho2, h⟩ := h
      refine r_getR E w rfl ho2 cl_X3 0 rfl fl_X3_9 dX3_gatherMeasured_13 ?_
      refine lv_iload_n (x := x2) hx hb dX3_gatherMeasured_16 rfl (lh_at hl 2 rfl) ?_
      obtain ⟨a3, ea3, h⟩ := h
      obtain ⟨ha4, h⟩ := h
      refine r_iald E w ea3 ha4 dX3_gatherMeasured_17 ?_
      refine lv_bipush (v := (-9 : Int32)) hx hb dX3_gatherMeasured_18 (by decide) ?_
      refine lv_icmp_eq (tgt := 63) hx hb dX3_gatherMeasured_20 (by decide) (fun c5 => ?_) (fun c5 => ?_)
      · have h := h.1 c5
        refine r_iinc (k := 2) (x := x2) (v := (x2 + 1)) (lv' := [(2, iv (x2 + 1)), (0, rv (some h0)), (1, iv x1)]) hx hb dX3_gatherMeasured_63 hl rfl rfl (by decide) rfl (fun ls hl => ?_)
        refine lv_goto (tgt := 7) hx hb dX3_gatherMeasured_66 (by decide) ?_
        exact ih _ _ _ _ _ _ _ h w (lh_sub hl [1, 2, 0] rfl)
      · have h := h.2 c5
        refine r_aload_n (x := (some h0)) hx hb dX3_gatherMeasured_23 rfl (lh_at hl 0 rfl) ?_
        refine r_getR E w rfl ho2 cl_X3 7 rfl fl_X3_19 dX3_gatherMeasured_24 ?_
        refine r_aload_n (x := (some h0)) hx hb dX3_gatherMeasured_27 rfl (lh_at hl 0 rfl) ?_
        refine r_getI E w rfl ho2 cl_X3 6 rfl fl_X3_65 dX3_gatherMeasured_28 ?_
        refine lv_iload_n (x := x2) hx hb dX3_gatherMeasured_31 rfl (lh_at hl 2 rfl) ?_
        obtain ⟨a6, ea6, h⟩ := h
        obtain ⟨ha7, h⟩ := h
        refine r_iast (v := x2) E w ea6 ha7 dX3_gatherMeasured_32 (fun H locs w => ?_)
        obtain ⟨M8, eM8⟩ : ∃ z, z = pI M a6 (Int32.toNatClampNeg (gI M h0 6)) x2 := ⟨_, rfl⟩
        rw [← eM8] at w
        have h := h M8 eM8
        refine r_aload_n (x := (some h0)) hx hb dX3_gatherMeasured_33 rfl (lh_at hl 0 rfl) ?_
        have ho2 : ok M8 h0 3 := by rw [eM8]; exact ho2
        refine r_getR E w rfl ho2 cl_X3 8 rfl fl_X3_22 dX3_gatherMeasured_34 ?_
        refine r_aload_n (x := (some h0)) hx hb dX3_gatherMeasured_37 rfl (lh_at hl 0 rfl) ?_
        refine r_getI E w rfl ho2 cl_X3 6 rfl fl_X3_65 dX3_gatherMeasured_38 ?_
        refine r_aload_n (x := (some h0)) hx hb dX3_gatherMeasured_41 rfl (lh_at hl 0 rfl) ?_
        refine r_aload_n (x := (some h0)) hx hb dX3_gatherMeasured_42 rfl (lh_at hl 0 rfl) ?_
        refine r_getR E w rfl ho2 cl_X3 0 rfl fl_X3_9 dX3_gatherMeasured_43 ?_
        refine lv_iload_n (x := x2) hx hb dX3_gatherMeasured_46 rfl (lh_at hl 2 rfl) ?_
        obtain ⟨a9, ea9, h⟩ := h
        obtain ⟨ha10, h⟩ := h
        refine r_iald E w ea9 ha10 dX3_gatherMeasured_47 ?_
        refine lv_iload_n (x := x1) hx hb dX3_gatherMeasured_48 rfl (lh_at hl 1 rfl) ?_
        refine z_callVi E w rfl ho2 cl_X3 yk_X3_rankOf ⟨Nat.le_of_ble_eq_true rfl, Nat.le_of_ble_eq_true rfl⟩ ⟨(Nat.zero_le _), (Nat.zero_le _)⟩ rfl ml_X3_77 im_X3_rankOf sl_X3_rankOf [iv (gI M8 a9 (Int32.toNatClampNeg x2)), iv x1] rfl rfl hl [iv (gI M8 h0 6), rv (gR M8 h0 8)] rfl (Nat.le_of_ble_eq_true rfl) (K_X3_rankOf h) dX3_gatherMeasured_49 (fun r12 M11 H locs h w => ?_)
        obtain ⟨a13, ea13, h⟩ := h
        obtain ⟨ha14, h⟩ := h
        refine r_iast (v := r12) E w ea13 ha14 dX3_gatherMeasured_52 (fun H locs w => ?_)
        obtain ⟨M15, eM15⟩ : ∃ z, z = pI M11 a13 (Int32.toNatClampNeg (gI M8 h0 6)) r12 := ⟨_, rfl⟩
        rw [← eM15] at w
        have h := h M15 eM15
        refine r_aload_n (x := (some h0)) hx hb dX3_gatherMeasured_53 rfl (lh_at hl 0 rfl) ?_
        refine r_dupr hx hb dX3_gatherMeasured_54 ?_
        obtain ⟨ho16, h⟩ := h
        refine r_getI E w rfl ho16 cl_X3 6 rfl fl_X3_65 dX3_gatherMeasured_55 ?_
        refine lv_iconst (v := (1 : Int32)) hx hb dX3_gatherMeasured_58 (by decide) ?_
        refine lv_iadd hx hb dX3_gatherMeasured_59 ?_
        refine r_putI (v := ((gI M15 h0 6) + (1 : Int32))) E w rfl ho16 cl_X3 6 rfl fl_X3_65 (Or.inl rfl) (Or.inl rfl) dX3_gatherMeasured_60 (fun H locs w => ?_)
        obtain ⟨M17, eM17⟩ : ∃ z, z = pI M15 h0 6 ((gI M15 h0 6) + (1 : Int32)) := ⟨_, rfl⟩
        rw [← eM17] at w
        have h := h M17 eM17
        refine r_iinc (k := 2) (x := x2) (v := (x2 + 1)) (lv' := [(2, iv (x2 + 1)), (0, rv (some h0)), (1, iv x1)]) hx hb dX3_gatherMeasured_63 hl rfl rfl (by decide) rfl (fun ls hl => ?_)
        refine lv_goto (tgt := 7) hx hb dX3_gatherMeasured_66 (by decide) ?_
        exact ih _ _ _ _ _ _ _ h w (lh_sub hl [1, 2, 0] rfl)
def B_X3_gatherMeasured_0 (Q : Mm → Prop)  (h0 : Nat) (x1 : Int32) (M : Mm) : Prop := (ok M h0 3 ∧ (∀ M2, M2 = pI M h0 6 (0 : Int32) → (∃ n3, B_X3_gatherMeasured_7 Q  n3 h0 x1 (0 : Int32) M2)))
set_option maxHeartbeats 4000000 in
set_option maxRecDepth 100000 in
theorem k_X3_gatherMeasured_0 {p : Program} {l : Launch} {e : Env} {s : State} {m : MethodId} {args : Array Value} {below : List Frame} {meth : Method} {c : Code} {D : va_G} {cy : Nat → ClassId} {A : Nat → Prop} {Q : Mm → Prop} (E : Ex p m c cX3_gatherMeasured 3 s args RX3 D cy A) (hr : meth.sig.returnType = none) (hlk : meth.locks = false) : ∀ (h0 : Nat) (x1 : Int32) (M : Mm) (H : Heap) (locs : List Loc) (ls : Array Slot), B_X3_gatherMeasured_0 Q  h0 x1 M → Wd D cy A s M H locs → lh ls 3 [(0, rv (some h0)), (1, iv x1)] → W p l e (rmm 1 0 0) s m args below meth c H locs 0 0 (MQ below (va_Qv Q (Po D cy A) A) args s 0 0 A) (F0 m 0 ls []) := by
  obtain ⟨hx, hb, hml, hown, hts⟩ := E.1
  intro h0 x1 M H locs ls h w hl
  unfold B_X3_gatherMeasured_0 at h
  refine r_aload_n (x := (some h0)) hx hb dX3_gatherMeasured_0 rfl (lh_at hl 0 rfl) ?_
  refine lv_iconst (v := (0 : Int32)) hx hb dX3_gatherMeasured_1 (by decide) ?_
  obtain ⟨ho1, h⟩ := h
  refine r_putI (v := (0 : Int32)) E w rfl ho1 cl_X3 6 rfl fl_X3_65 (Or.inl rfl) (Or.inl rfl) dX3_gatherMeasured_2 (fun H locs w => ?_)
  obtain ⟨M2, eM2⟩ : ∃ z, z = pI M h0 6 (0 : Int32) := ⟨_, rfl⟩
  rw [← eM2] at w
  have h := h M2 eM2
  refine lv_iconst (v := (0 : Int32)) hx hb dX3_gatherMeasured_5 (by decide) ?_
  refine r_istore_n (lv' := [(2, iv (0 : Int32)), (0, rv (some h0)), (1, iv x1)]) hx hb dX3_gatherMeasured_6 rfl hl (by decide) rfl (fun ls hl => ?_)
  obtain ⟨n3, h⟩ := h
  exact k_X3_gatherMeasured_7 E hr hlk  n3 _ _ _ _ _ _ _ h w (lh_sub hl [1, 2, 0] rfl)
theorem K_X3_gatherMeasured {l : Launch} {Q : Mm → Prop} {h0 : Nat} {x1 : Int32} {M : Mm} (h : B_X3_gatherMeasured_0 Q h0 x1 M) : KV l yX3_gatherMeasured cdX3_gatherMeasured (rmm 1 0 0) [rv (some h0), iv x1] M Q :=
  KV_of (by decide) rfl (Nat.le_of_ble_eq_true rfl) (fun p e s m args below meth c D cy A ls E hr hlk hn w hl => k_X3_gatherMeasured_0 E hr hlk _ _ _ _ _ _ h w hl)
def B_X3_cutCount_0 (Q : Int32 → Mm → Prop)  (h0 : Nat) (M : Mm) : Prop := (ok M h0 3 ∧ (((gI M h0 9) ≤ 0 → Q (0 : Int32) M) ∧ (¬ (gI M h0 9) ≤ 0 → Q ((gI M h0 9) - (1 : Int32)) M)))
set_option maxHeartbeats 4000000 in
set_option maxRecDepth 100000 in
theorem k_X3_cutCount_0 {p : Program} {l : Launch} {e : Env} {s : State} {m : MethodId} {args : Array Value} {below : List Frame} {meth : Method} {c : Code} {D : va_G} {cy : Nat → ClassId} {A : Nat → Prop} {Q : Int32 → Mm → Prop} (E : Ex p m c cX3_cutCount 1 s args RX3 D cy A) (hr : meth.sig.returnType = (some .int)) (hlk : meth.locks = false) : ∀ (h0 : Nat) (M : Mm) (H : Heap) (locs : List Loc) (ls : Array Slot), B_X3_cutCount_0 Q  h0 M → Wd D cy A s M H locs → lh ls 1 [(0, rv (some h0))] → W p l e (rmm 0 0 0) s m args below meth c H locs 0 0 (MQ below (va_Qi Q (Po D cy A) A) args s 0 0 A) (F0 m 0 ls []) := by
  obtain ⟨hx, hb, hml, hown, hts⟩ := E.1
  intro h0 M H locs ls h w hl
  unfold B_X3_cutCount_0 at h
  refine r_aload_n (x := (some h0)) hx hb dX3_cutCount_0 rfl (lh_at hl 0 rfl) ?_
  obtain ⟨ho1, h⟩ := h
  refine r_getI E w rfl ho1 cl_X3 9 rfl fl_X3_40 dX3_cutCount_1 ?_
  refine lv_if_le (tgt := 16) hx hb dX3_cutCount_4 (by decide) (fun c2 => ?_) (fun c2 => ?_)
  · have h := h.1 c2
    refine lv_iconst (v := (0 : Int32)) hx hb dX3_cutCount_16 (by decide) ?_
    exact r_iret E w hr hlk h (Nat.le_refl 0) (Nat.le_refl 0) dX3_cutCount_17
  · have h := h.2 c2
    refine r_aload_n (x := (some h0)) hx hb dX3_cutCount_7 rfl (lh_at hl 0 rfl) ?_
    refine r_getI E w rfl ho1 cl_X3 9 rfl fl_X3_40 dX3_cutCount_8 ?_
    refine lv_iconst (v := (1 : Int32)) hx hb dX3_cutCount_11 (by decide) ?_
    refine lv_isub hx hb dX3_cutCount_12 ?_
    refine lv_goto (tgt := 17) hx hb dX3_cutCount_13 (by decide) ?_
    exact r_iret E w hr hlk h (Nat.le_refl 0) (Nat.le_refl 0) dX3_cutCount_17
theorem K_X3_cutCount {l : Launch} {Q : Int32 → Mm → Prop} {h0 : Nat} {M : Mm} (h : B_X3_cutCount_0 Q h0 M) : KI l yX3_cutCount cdX3_cutCount (rmm 0 0 0) [rv (some h0)] M Q :=
  KI_of (by decide) rfl (Nat.le_of_ble_eq_true rfl) (fun p e s m args below meth c D cy A ls E hr hlk hn w hl => k_X3_cutCount_0 E hr hlk _ _ _ _ _ h w hl)
def B_X3_pairStep_45 (Q : Mm → Prop) (K10 : Nat → Int32 → Int32 → Int32 → Mm → Prop) (h0 : Nat) (x1 : Int32) (x2 : Int32) (x3 : Int32) (x4 : Int32) (s0 : Int32) (M : Mm) : Prop := ((x4 ≤ 0 → K10 h0 x1 x2 (x3 + 1) M) ∧ (¬ x4 ≤ 0 → (ok M h0 3 ∧ (∃ a3, (gR M h0 12) = some a3 ∧ (ar M a3 7 x3 ∧ ((¬ (gI M a3 (Int32.toNatClampNeg x3)) = (-9 : Int32) → K10 h0 x1 x2 (x3 + 1) M) ∧ ((gI M a3 (Int32.toNatClampNeg x3)) = (-9 : Int32) → ((s0 = 0 → K10 h0 x1 x2 (x3 + 1) M) ∧ (¬ s0 = 0 → (ar M a3 7 x1 ∧ (∀ M8, M8 = pI M a3 (Int32.toNatClampNeg x1) x3 → (∃ a9, (gR M8 h0 12) = some a9 ∧ (ar M8 a9 7 x3 ∧ (∀ M11, M11 = pI M8 a9 (Int32.toNatClampNeg x3) x1 → Q M11))))))))))))))
set_option maxHeartbeats 4000000 in
set_option maxRecDepth 100000 in
theorem k_X3_pairStep_45 {p : Program} {l : Launch} {e : Env} {s : State} {m : MethodId} {args : Array Value} {below : List Frame} {meth : Method} {c : Code} {D : va_G} {cy : Nat → ClassId} {A : Nat → Prop} {Q : Mm → Prop} (E : Ex p m c cX3_pairStep 6 s args RX3 D cy A) (hr : meth.sig.returnType = none) (hlk : meth.locks = false) {K10 : Nat → Int32 → Int32 → Int32 → Mm → Prop} (hK10 : ∀ (h0 : Nat) (x1 : Int32) (x2 : Int32) (x3 : Int32) (M : Mm) (H : Heap) (locs : List Loc) (ls : Array Slot), K10 h0 x1 x2 x3 M → Wd D cy A s M H locs → lh ls 6 [(0, rv (some h0)), (1, iv x1), (2, iv x2), (3, iv x3)] → W p l e (rmm 1 0 0) s m args below meth c H locs 0 0 (MQ below (va_Qv Q (Po D cy A) A) args s 0 0 A) (F0 m 10 ls [])) : ∀ (h0 : Nat) (x1 : Int32) (x2 : Int32) (x3 : Int32) (x4 : Int32) (s0 : Int32) (M : Mm) (H : Heap) (locs : List Loc) (ls : Array Slot), B_X3_pairStep_45 Q K10 h0 x1 x2 x3 x4 s0 M → Wd D cy A s M H locs → lh ls 6 [(0, rv (some h0)), (1, iv x1), (2, iv x2), (3, iv x3), (4, iv x4)] → W p l e (rmm 1 0 0) s m args below meth c H locs 0 0 (MQ below (va_Qv Q (Po D cy A) A) args s 0 0 A) (F0 m 45 ls [.int s0]) := by
  obtain ⟨hx, hb, hml, hown, hts⟩ := E.1
  intro h0 x1 x2 x3 x4 s0 M H locs ls h w hl
  unfold B_X3_pairStep_45 at h
  refine r_istore (lv' := [(5, iv s0), (0, rv (some h0)), (1, iv x1), (2, iv x2), (3, iv x3), (4, iv x4)]) hx hb dX3_pairStep_45 hl (by decide) rfl (fun ls hl => ?_)
  refine lv_iload (x := x4) hx hb dX3_pairStep_47 (lh_at hl 5 rfl) ?_
  refine lv_if_le (tgt := 83) hx hb dX3_pairStep_49 (by decide) (fun c1 => ?_) (fun c1 => ?_)
  · have h := h.1 c1
    refine r_iinc (k := 4) (x := x3) (v := (x3 + 1)) (lv' := [(3, iv (x3 + 1)), (5, iv s0), (0, rv (some h0)), (1, iv x1), (2, iv x2), (4, iv x4)]) hx hb dX3_pairStep_83 hl rfl rfl (by decide) rfl (fun ls hl => ?_)
    refine lv_goto (tgt := 10) hx hb dX3_pairStep_86 (by decide) ?_
    exact hK10 _ _ _ _ _ _ _ _ h w (lh_sub hl [2, 3, 4, 0] rfl)
  · have h := h.2 c1
    refine r_aload_n (x := (some h0)) hx hb dX3_pairStep_52 rfl (lh_at hl 1 rfl) ?_
    obtain ⟨ho2, h⟩ := h
    refine r_getR E w rfl ho2 cl_X3 12 rfl fl_X3_31 dX3_pairStep_53 ?_
    refine lv_iload_n (x := x3) hx hb dX3_pairStep_56 rfl (lh_at hl 4 rfl) ?_
    obtain ⟨a3, ea3, h⟩ := h
    obtain ⟨ha4, h⟩ := h
    refine r_iald E w ea3 ha4 dX3_pairStep_57 ?_
    refine lv_bipush (v := (-9 : Int32)) hx hb dX3_pairStep_58 (by decide) ?_
    refine lv_icmp_ne (tgt := 83) hx hb dX3_pairStep_60 (by decide) (fun c5 => ?_) (fun c5 => ?_)
    · have h := h.1 c5
      refine r_iinc (k := 4) (x := x3) (v := (x3 + 1)) (lv' := [(3, iv (x3 + 1)), (5, iv s0), (0, rv (some h0)), (1, iv x1), (2, iv x2), (4, iv x4)]) hx hb dX3_pairStep_83 hl rfl rfl (by decide) rfl (fun ls hl => ?_)
      refine lv_goto (tgt := 10) hx hb dX3_pairStep_86 (by decide) ?_
      exact hK10 _ _ _ _ _ _ _ _ h w (lh_sub hl [2, 3, 4, 0] rfl)
    · have h := h.2 c5
      refine lv_iload (x := s0) hx hb dX3_pairStep_63 (lh_at hl 0 rfl) ?_
      refine lv_if_eq (tgt := 83) hx hb dX3_pairStep_65 (by decide) (fun c6 => ?_) (fun c6 => ?_)
      · have h := h.1 c6
        refine r_iinc (k := 4) (x := x3) (v := (x3 + 1)) (lv' := [(3, iv (x3 + 1)), (5, iv s0), (0, rv (some h0)), (1, iv x1), (2, iv x2), (4, iv x4)]) hx hb dX3_pairStep_83 hl rfl rfl (by decide) rfl (fun ls hl => ?_)
        refine lv_goto (tgt := 10) hx hb dX3_pairStep_86 (by decide) ?_
        exact hK10 _ _ _ _ _ _ _ _ h w (lh_sub hl [2, 3, 4, 0] rfl)
      · have h := h.2 c6
        refine r_aload_n (x := (some h0)) hx hb dX3_pairStep_68 rfl (lh_at hl 1 rfl) ?_
        refine r_getR E w rfl ho2 cl_X3 12 rfl fl_X3_31 dX3_pairStep_69 ?_
        refine lv_iload_n (x := x1) hx hb dX3_pairStep_72 rfl (lh_at hl 2 rfl) ?_
        refine lv_iload_n (x := x3) hx hb dX3_pairStep_73 rfl (lh_at hl 4 rfl) ?_
        obtain ⟨ha7, h⟩ := h
        refine r_iast (v := x3) E w ea3 ha7 dX3_pairStep_74 (fun H locs w => ?_)
        obtain ⟨M8, eM8⟩ : ∃ z, z = pI M a3 (Int32.toNatClampNeg x1) x3 := ⟨_, rfl⟩
        rw [← eM8] at w
        have h := h M8 eM8
        refine r_aload_n (x := (some h0)) hx hb dX3_pairStep_75 rfl (lh_at hl 1 rfl) ?_
        have ho2 : ok M8 h0 3 := by rw [eM8]; exact ho2
        refine r_getR E w rfl ho2 cl_X3 12 rfl fl_X3_31 dX3_pairStep_76 ?_
        refine lv_iload_n (x := x3) hx hb dX3_pairStep_79 rfl (lh_at hl 4 rfl) ?_
        refine lv_iload_n (x := x1) hx hb dX3_pairStep_80 rfl (lh_at hl 2 rfl) ?_
        obtain ⟨a9, ea9, h⟩ := h
        obtain ⟨ha10, h⟩ := h
        refine r_iast (v := x1) E w ea9 ha10 dX3_pairStep_81 (fun H locs w => ?_)
        obtain ⟨M11, eM11⟩ : ∃ z, z = pI M8 a9 (Int32.toNatClampNeg x3) x1 := ⟨_, rfl⟩
        rw [← eM11] at w
        have h := h M11 eM11
        exact r_vret E w hr hlk h (Nat.le_refl 0) (Nat.le_refl 0) dX3_pairStep_82
def B_X3_pairStep_10 (Q : Mm → Prop)  : Nat → Nat → Int32 → Int32 → Int32 → Mm → Prop
  | 0, _, _, _, _, _ => False
  | n + 1, h0, x1, x2, x3, M => (ok M h0 3 ∧ (B_X3_cutCount_0 (fun r3 M2 => ((r3 ≤ x3 → Q M2) ∧ (¬ r3 ≤ x3 → (ok M2 h0 3 ∧ (B_X3_stepSize_0 (fun r7 M6 => ((x2 < ((10 : Int32) * (if 0 ≤ (x2 - (-r7)) then (x2 - (-r7)) else 0 - (x2 - (-r7)))) → B_X3_pairStep_45 Q (fun y0 y1 y2 y3 My => B_X3_pairStep_10 Q n y0 y1 y2 y3 My) h0 x1 x2 x3 (-r7) (0 : Int32) M6) ∧ (¬ x2 < ((10 : Int32) * (if 0 ≤ (x2 - (-r7)) then (x2 - (-r7)) else 0 - (x2 - (-r7)))) → B_X3_pairStep_45 Q (fun y0 y1 y2 y3 My => B_X3_pairStep_10 Q n y0 y1 y2 y3 My) h0 x1 x2 x3 (-r7) (1 : Int32) M6))) h0 x3 M2))))) h0  M))
set_option maxHeartbeats 4000000 in
set_option maxRecDepth 100000 in
theorem k_X3_pairStep_10 {p : Program} {l : Launch} {e : Env} {s : State} {m : MethodId} {args : Array Value} {below : List Frame} {meth : Method} {c : Code} {D : va_G} {cy : Nat → ClassId} {A : Nat → Prop} {Q : Mm → Prop} (E : Ex p m c cX3_pairStep 6 s args RX3 D cy A) (hr : meth.sig.returnType = none) (hlk : meth.locks = false) : ∀ (n : Nat), ∀ (h0 : Nat) (x1 : Int32) (x2 : Int32) (x3 : Int32) (M : Mm) (H : Heap) (locs : List Loc) (ls : Array Slot), B_X3_pairStep_10 Q  n h0 x1 x2 x3 M → Wd D cy A s M H locs → lh ls 6 [(0, rv (some h0)), (1, iv x1), (2, iv x2), (3, iv x3)] → W p l e (rmm 1 0 0) s m args below meth c H locs 0 0 (MQ below (va_Qv Q (Po D cy A) A) args s 0 0 A) (F0 m 10 ls []) := by
  obtain ⟨hx, hb, hml, hown, hts⟩ := E.1
  intro n
  induction n with
  | zero => intro h0 x1 x2 x3 M H locs ls h; exact False.elim h
  | succ n ih =>
    intro h0 x1 x2 x3 M H locs ls h w hl
    unfold B_X3_pairStep_10 at h
    refine lv_iload_n (x := x3) hx hb dX3_pairStep_10 rfl (lh_at hl 3 rfl) ?_
    refine r_aload_n (x := (some h0)) hx hb dX3_pairStep_11 rfl (lh_at hl 0 rfl) ?_
    obtain ⟨ho1, h⟩ := h
    refine z_callVi E w rfl ho1 cl_X3 yk_X3_cutCount ⟨Nat.le_of_ble_eq_true rfl, Nat.le_of_ble_eq_true rfl⟩ ⟨(Nat.zero_le _), (Nat.zero_le _)⟩ rfl ml_X3_44 im_X3_cutCount sl_X3_cutCount [] rfl rfl hl [iv x3] rfl (Nat.le_of_ble_eq_true rfl) (K_X3_cutCount h) dX3_pairStep_12 (fun r3 M2 H locs h w => ?_)
    refine lv_icmp_ge (tgt := 89) hx hb dX3_pairStep_15 (by decide) (fun c4 => ?_) (fun c4 => ?_)
    · have h := h.1 c4
      exact r_vret E w hr hlk h (Nat.le_refl 0) (Nat.le_refl 0) dX3_pairStep_89
    · have h := h.2 c4
      refine r_aload_n (x := (some h0)) hx hb dX3_pairStep_18 rfl (lh_at hl 0 rfl) ?_
      refine lv_iload_n (x := x3) hx hb dX3_pairStep_19 rfl (lh_at hl 3 rfl) ?_
      obtain ⟨ho5, h⟩ := h
      refine z_callVi E w rfl ho5 cl_X3 yk_X3_stepSize ⟨Nat.le_of_ble_eq_true rfl, Nat.le_of_ble_eq_true rfl⟩ ⟨(Nat.zero_le _), (Nat.zero_le _)⟩ rfl ml_X3_48 im_X3_stepSize sl_X3_stepSize [iv x3] rfl rfl hl [] rfl (Nat.le_of_ble_eq_true rfl) (K_X3_stepSize h) dX3_pairStep_20 (fun r7 M6 H locs h w => ?_)
      refine lv_ineg hx hb dX3_pairStep_23 ?_
      refine r_istore (lv' := [(4, iv (-r7)), (0, rv (some h0)), (1, iv x1), (2, iv x2), (3, iv x3)]) hx hb dX3_pairStep_24 hl (by decide) rfl (fun ls hl => ?_)
      refine lv_bipush (v := (10 : Int32)) hx hb dX3_pairStep_26 (by decide) ?_
      refine lv_iload_n (x := x2) hx hb dX3_pairStep_28 rfl (lh_at hl 3 rfl) ?_
      refine lv_iload (x := (-r7)) hx hb dX3_pairStep_29 (lh_at hl 0 rfl) ?_
      refine lv_isub hx hb dX3_pairStep_31 ?_
      refine va_mabs hx hb (by rw [hml]; exact hl.1.symm) hown (hts _ ml_X3_60) (hts _ st_math_abs) (hts _ ini_J9) (hts _ cd_math_abs) (Nat.le_of_ble_eq_true rfl) (math_room [iv (10 : Int32)] (Nat.le_of_ble_eq_true rfl)) (Nat.zero_le _) (Nat.zero_le _) dX3_pairStep_32 ?_
      refine lv_imul hx hb dX3_pairStep_35 ?_
      refine lv_iload_n (x := x2) hx hb dX3_pairStep_36 rfl (lh_at hl 3 rfl) ?_
      refine lv_icmp_gt (tgt := 44) hx hb dX3_pairStep_37 (by decide) (fun c8 => ?_) (fun c8 => ?_)
      · have h := h.1 c8
        refine lv_iconst (v := (0 : Int32)) hx hb dX3_pairStep_44 (by decide) ?_
        exact k_X3_pairStep_45 E hr hlk ih _ _ _ _ _ _ _ _ _ _ h w (lh_sub hl [1, 2, 3, 4, 0] rfl)
      · have h := h.2 c8
        refine lv_iconst (v := (1 : Int32)) hx hb dX3_pairStep_40 (by decide) ?_
        refine lv_goto (tgt := 45) hx hb dX3_pairStep_41 (by decide) ?_
        exact k_X3_pairStep_45 E hr hlk ih _ _ _ _ _ _ _ _ _ _ h w (lh_sub hl [1, 2, 3, 4, 0] rfl)
def B_X3_pairStep_0 (Q : Mm → Prop)  (h0 : Nat) (x1 : Int32) (M : Mm) : Prop := (ok M h0 3 ∧ (B_X3_stepSize_0 (fun r3 M2 => (∃ n4, B_X3_pairStep_10 Q  n4 h0 x1 r3 (x1 + (1 : Int32)) M2)) h0 x1 M))
set_option maxHeartbeats 4000000 in
set_option maxRecDepth 100000 in
theorem k_X3_pairStep_0 {p : Program} {l : Launch} {e : Env} {s : State} {m : MethodId} {args : Array Value} {below : List Frame} {meth : Method} {c : Code} {D : va_G} {cy : Nat → ClassId} {A : Nat → Prop} {Q : Mm → Prop} (E : Ex p m c cX3_pairStep 6 s args RX3 D cy A) (hr : meth.sig.returnType = none) (hlk : meth.locks = false) : ∀ (h0 : Nat) (x1 : Int32) (M : Mm) (H : Heap) (locs : List Loc) (ls : Array Slot), B_X3_pairStep_0 Q  h0 x1 M → Wd D cy A s M H locs → lh ls 6 [(0, rv (some h0)), (1, iv x1)] → W p l e (rmm 1 0 0) s m args below meth c H locs 0 0 (MQ below (va_Qv Q (Po D cy A) A) args s 0 0 A) (F0 m 0 ls []) := by
  obtain ⟨hx, hb, hml, hown, hts⟩ := E.1
  intro h0 x1 M H locs ls h w hl
  unfold B_X3_pairStep_0 at h
  refine r_aload_n (x := (some h0)) hx hb dX3_pairStep_0 rfl (lh_at hl 0 rfl) ?_
  refine lv_iload_n (x := x1) hx hb dX3_pairStep_1 rfl (lh_at hl 1 rfl) ?_
  obtain ⟨ho1, h⟩ := h
  refine z_callVi E w rfl ho1 cl_X3 yk_X3_stepSize ⟨Nat.le_of_ble_eq_true rfl, Nat.le_of_ble_eq_true rfl⟩ ⟨(Nat.zero_le _), (Nat.zero_le _)⟩ rfl ml_X3_48 im_X3_stepSize sl_X3_stepSize [iv x1] rfl rfl hl [] rfl (Nat.le_of_ble_eq_true rfl) (K_X3_stepSize h) dX3_pairStep_2 (fun r3 M2 H locs h w => ?_)
  refine r_istore_n (lv' := [(2, iv r3), (0, rv (some h0)), (1, iv x1)]) hx hb dX3_pairStep_5 rfl hl (by decide) rfl (fun ls hl => ?_)
  refine lv_iload_n (x := x1) hx hb dX3_pairStep_6 rfl (lh_at hl 2 rfl) ?_
  refine lv_iconst (v := (1 : Int32)) hx hb dX3_pairStep_7 (by decide) ?_
  refine lv_iadd hx hb dX3_pairStep_8 ?_
  refine r_istore_n (lv' := [(3, iv (x1 + (1 : Int32))), (2, iv r3), (0, rv (some h0)), (1, iv x1)]) hx hb dX3_pairStep_9 rfl hl (by decide) rfl (fun ls hl => ?_)
  obtain ⟨n4, h⟩ := h
  exact k_X3_pairStep_10 E hr hlk  n4 _ _ _ _ _ _ _ _ h w (lh_sub hl [2, 3, 1, 0] rfl)
theorem K_X3_pairStep {l : Launch} {Q : Mm → Prop} {h0 : Nat} {x1 : Int32} {M : Mm} (h : B_X3_pairStep_0 Q h0 x1 M) : KV l yX3_pairStep cdX3_pairStep (rmm 1 0 0) [rv (some h0), iv x1] M Q :=
  KV_of (by decide) rfl (Nat.le_of_ble_eq_true rfl) (fun p e s m args below meth c D cy A ls E hr hlk hn w hl => k_X3_pairStep_0 E hr hlk _ _ _ _ _ _ h w hl)
def B_X3_pairSteps_11 (Q : Mm → Prop)  : Nat → Nat → Int32 → Mm → Prop
  | 0, _, _, _ => False
  | n + 1, h0, x1, M => (ok M h0 3 ∧ (B_X3_cutCount_0 (fun r3 M2 => ((r3 ≤ x1 → Q M2) ∧ (¬ r3 ≤ x1 → (ok M2 h0 3 ∧ (B_X3_stepSize_0 (fun r7 M6 => ((r7 ≤ 0 → B_X3_pairSteps_11 Q  n h0 (x1 + 1) M6) ∧ (¬ r7 ≤ 0 → (ok M6 h0 3 ∧ (B_X3_pairStep_0 (fun  M10 => B_X3_pairSteps_11 Q  n h0 (x1 + 1) M10) h0 x1 M6))))) h0 x1 M2))))) h0  M))
set_option maxHeartbeats 4000000 in
set_option maxRecDepth 100000 in
theorem k_X3_pairSteps_11 {p : Program} {l : Launch} {e : Env} {s : State} {m : MethodId} {args : Array Value} {below : List Frame} {meth : Method} {c : Code} {D : va_G} {cy : Nat → ClassId} {A : Nat → Prop} {Q : Mm → Prop} (E : Ex p m c cX3_pairSteps 2 s args RX3 D cy A) (hr : meth.sig.returnType = none) (hlk : meth.locks = false) : ∀ (n : Nat), ∀ (h0 : Nat) (x1 : Int32) (M : Mm) (H : Heap) (locs : List Loc) (ls : Array Slot), B_X3_pairSteps_11 Q  n h0 x1 M → Wd D cy A s M H locs → lh ls 2 [(0, rv (some h0)), (1, iv x1)] → W p l e (rmm 2 0 0) s m args below meth c H locs 0 0 (MQ below (va_Qv Q (Po D cy A) A) args s 0 0 A) (F0 m 11 ls []) := by
  obtain ⟨hx, hb, hml, hown, hts⟩ := E.1
  intro n
  induction n with
  | zero => intro h0 x1 M H locs ls h; exact False.elim h
  | succ n ih =>
    intro h0 x1 M H locs ls h w hl
    unfold B_X3_pairSteps_11 at h
    refine lv_iload_n (x := x1) hx hb dX3_pairSteps_11 rfl (lh_at hl 1 rfl) ?_
    refine r_aload_n (x := (some h0)) hx hb dX3_pairSteps_12 rfl (lh_at hl 0 rfl) ?_
    obtain ⟨ho1, h⟩ := h
    refine z_callVi E w rfl ho1 cl_X3 yk_X3_cutCount ⟨Nat.le_of_ble_eq_true rfl, Nat.le_of_ble_eq_true rfl⟩ ⟨(Nat.zero_le _), (Nat.zero_le _)⟩ rfl ml_X3_44 im_X3_cutCount sl_X3_cutCount [] rfl rfl hl [iv x1] rfl (Nat.le_of_ble_eq_true rfl) (K_X3_cutCount h) dX3_pairSteps_13 (fun r3 M2 H locs h w => ?_)
    refine lv_icmp_ge (tgt := 38) hx hb dX3_pairSteps_16 (by decide) (fun c4 => ?_) (fun c4 => ?_)
    · have h := h.1 c4
      exact r_vret E w hr hlk h (Nat.le_refl 0) (Nat.le_refl 0) dX3_pairSteps_38
    · have h := h.2 c4
      refine r_aload_n (x := (some h0)) hx hb dX3_pairSteps_19 rfl (lh_at hl 0 rfl) ?_
      refine lv_iload_n (x := x1) hx hb dX3_pairSteps_20 rfl (lh_at hl 1 rfl) ?_
      obtain ⟨ho5, h⟩ := h
      refine z_callVi E w rfl ho5 cl_X3 yk_X3_stepSize ⟨Nat.le_of_ble_eq_true rfl, Nat.le_of_ble_eq_true rfl⟩ ⟨(Nat.zero_le _), (Nat.zero_le _)⟩ rfl ml_X3_48 im_X3_stepSize sl_X3_stepSize [iv x1] rfl rfl hl [] rfl (Nat.le_of_ble_eq_true rfl) (K_X3_stepSize h) dX3_pairSteps_21 (fun r7 M6 H locs h w => ?_)
      refine lv_if_le (tgt := 32) hx hb dX3_pairSteps_24 (by decide) (fun c8 => ?_) (fun c8 => ?_)
      · have h := h.1 c8
        refine r_iinc (k := 1) (x := x1) (v := (x1 + 1)) (lv' := [(1, iv (x1 + 1)), (0, rv (some h0))]) hx hb dX3_pairSteps_32 hl rfl rfl (by decide) rfl (fun ls hl => ?_)
        refine lv_goto (tgt := 11) hx hb dX3_pairSteps_35 (by decide) ?_
        exact ih _ _ _ _ _ _ h w (lh_sub hl [1, 0] rfl)
      · have h := h.2 c8
        refine r_aload_n (x := (some h0)) hx hb dX3_pairSteps_27 rfl (lh_at hl 0 rfl) ?_
        refine lv_iload_n (x := x1) hx hb dX3_pairSteps_28 rfl (lh_at hl 1 rfl) ?_
        obtain ⟨ho9, h⟩ := h
        refine z_callVv E w rfl ho9 cl_X3 yk_X3_pairStep ⟨Nat.le_of_ble_eq_true rfl, Nat.le_of_ble_eq_true rfl⟩ ⟨(Nat.zero_le _), (Nat.zero_le _)⟩ rfl ml_X3_81 im_X3_pairStep sl_X3_pairStep [iv x1] rfl rfl hl [] rfl (Nat.le_of_ble_eq_true rfl) (K_X3_pairStep h) dX3_pairSteps_29 (fun  M10 H locs h w => ?_)
        refine r_iinc (k := 1) (x := x1) (v := (x1 + 1)) (lv' := [(1, iv (x1 + 1)), (0, rv (some h0))]) hx hb dX3_pairSteps_32 hl rfl rfl (by decide) rfl (fun ls hl => ?_)
        refine lv_goto (tgt := 11) hx hb dX3_pairSteps_35 (by decide) ?_
        exact ih _ _ _ _ _ _ h w (lh_sub hl [1, 0] rfl)
def B_X3_pairSteps_0 (Q : Mm → Prop)  (h0 : Nat) (M : Mm) : Prop := (ok M h0 3 ∧ (B_J7_fill_53178_0 (fun  M2 => (∃ n3, B_X3_pairSteps_11 Q  n3 h0 (0 : Int32) M2)) (gR M h0 12) (-9 : Int32) M))
set_option maxHeartbeats 4000000 in
set_option maxRecDepth 100000 in
theorem k_X3_pairSteps_0 {p : Program} {l : Launch} {e : Env} {s : State} {m : MethodId} {args : Array Value} {below : List Frame} {meth : Method} {c : Code} {D : va_G} {cy : Nat → ClassId} {A : Nat → Prop} {Q : Mm → Prop} (E : Ex p m c cX3_pairSteps 2 s args RX3 D cy A) (hr : meth.sig.returnType = none) (hlk : meth.locks = false) : ∀ (h0 : Nat) (M : Mm) (H : Heap) (locs : List Loc) (ls : Array Slot), B_X3_pairSteps_0 Q  h0 M → Wd D cy A s M H locs → lh ls 2 [(0, rv (some h0))] → W p l e (rmm 2 0 0) s m args below meth c H locs 0 0 (MQ below (va_Qv Q (Po D cy A) A) args s 0 0 A) (F0 m 0 ls []) := by
  obtain ⟨hx, hb, hml, hown, hts⟩ := E.1
  intro h0 M H locs ls h w hl
  unfold B_X3_pairSteps_0 at h
  refine r_aload_n (x := (some h0)) hx hb dX3_pairSteps_0 rfl (lh_at hl 0 rfl) ?_
  obtain ⟨ho1, h⟩ := h
  refine r_getR E w rfl ho1 cl_X3 12 rfl fl_X3_31 dX3_pairSteps_1 ?_
  refine lv_bipush (v := (-9 : Int32)) hx hb dX3_pairSteps_4 (by decide) ?_
  refine z_callTv E w yk_J7_fill_53178 ⟨Nat.le_of_ble_eq_true rfl, Nat.le_of_ble_eq_true rfl⟩ ⟨(Nat.zero_le _), (Nat.zero_le _)⟩ ml_X3_34 st_J7_fill_53178 [rv (gR M h0 12), iv (-9 : Int32)] rfl rfl hl [] rfl (Nat.le_of_ble_eq_true rfl) (K_J7_fill_53178 h) dX3_pairSteps_6 (fun  M2 H locs h w => ?_)
  refine lv_iconst (v := (0 : Int32)) hx hb dX3_pairSteps_9 (by decide) ?_
  refine r_istore_n (lv' := [(1, iv (0 : Int32)), (0, rv (some h0))]) hx hb dX3_pairSteps_10 rfl hl (by decide) rfl (fun ls hl => ?_)
  obtain ⟨n3, h⟩ := h
  exact k_X3_pairSteps_11 E hr hlk  n3 _ _ _ _ _ _ h w (lh_sub hl [1, 0] rfl)
theorem K_X3_pairSteps {l : Launch} {Q : Mm → Prop} {h0 : Nat} {M : Mm} (h : B_X3_pairSteps_0 Q h0 M) : KV l yX3_pairSteps cdX3_pairSteps (rmm 2 0 0) [rv (some h0)] M Q :=
  KV_of (by decide) rfl (Nat.le_of_ble_eq_true rfl) (fun p e s m args below meth c D cy A ls E hr hlk hn w hl => k_X3_pairSteps_0 E hr hlk _ _ _ _ _ h w hl)
def B_X3_init_0 (Q : Mm → Prop)  (h0 : Nat) (gc : Nat) (gs : Nat) (M : Mm) : Prop := (1 ≤ gc ∧ 40 ≤ gs ∧ (∀ q2, q2 ∉ gL M → (∀ M3, M3 = nC M q2 7 40 → (ok M3 h0 3 ∧ (∀ M5, M5 = pR M3 h0 0 (some q2) → (∀ M6, M6 = pI M5 h0 3 (1 : Int32) → (1 ≤ (gc - 1) ∧ 40 ≤ (gs - 40) ∧ (∀ q8, q8 ∉ gL M6 → (∀ M9, M9 = nC M6 q8 7 40 → (ok M9 h0 3 ∧ (∀ M11, M11 = pR M9 h0 7 (some q8) → (1 ≤ ((gc - 1) - 1) ∧ 40 ≤ ((gs - 40) - 40) ∧ (∀ q13, q13 ∉ gL M11 → (∀ M14, M14 = nC M11 q13 7 40 → (ok M14 h0 3 ∧ (∀ M16, M16 = pR M14 h0 8 (some q13) → (1 ≤ (((gc - 1) - 1) - 1) ∧ 41 ≤ (((gs - 40) - 40) - 40) ∧ (∀ q18, q18 ∉ gL M16 → (∀ M19, M19 = nC M16 q18 7 41 → (ok M19 h0 3 ∧ (∀ M21, M21 = pR M19 h0 10 (some q18) → (1 ≤ ((((gc - 1) - 1) - 1) - 1) ∧ 40 ≤ ((((gs - 40) - 40) - 40) - 41) ∧ (∀ q23, q23 ∉ gL M21 → (∀ M24, M24 = nC M21 q23 7 40 → (ok M24 h0 3 ∧ (∀ M26, M26 = pR M24 h0 11 (some q23) → (1 ≤ (((((gc - 1) - 1) - 1) - 1) - 1) ∧ 40 ≤ (((((gs - 40) - 40) - 40) - 41) - 40) ∧ (∀ q28, q28 ∉ gL M26 → (∀ M29, M29 = nC M26 q28 7 40 → (ok M29 h0 3 ∧ (∀ M31, M31 = pR M29 h0 12 (some q28) → (B_J7_fill_53178_0 (fun  M32 => Q M32) (gR M31 h0 0) (-9 : Int32) M31))))))))))))))))))))))))))))))))
set_option maxHeartbeats 4000000 in
set_option maxRecDepth 100000 in
theorem k_X3_init_0 {p : Program} {l : Launch} {e : Env} {s : State} {m : MethodId} {args : Array Value} {below : List Frame} {meth : Method} {c : Code} {D : va_G} {cy : Nat → ClassId} {A : Nat → Prop} {mc ms : Nat} {Q : Mm → Prop} (E : Ex p m c cX3_init 1 s args RX3 D cy A) (hr : meth.sig.returnType = none) (hlk : meth.locks = false) (hin : meth.name = "<init>") : ∀ (h0 : Nat) (gc : Nat) (gs : Nat) (M : Mm) (H : Heap) (locs : List Loc) (ls : Array Slot) (cells slots : Nat), B_X3_init_0 Q  h0 gc gs M → Wd D cy A s M H locs → lh ls 1 [(0, rv (some h0))] → cells + gc ≤ mc ∧ slots + gs ≤ ms → W p l e (rmm 1 mc ms) s m args below meth c H locs cells slots (MQ below (va_Qv Q (Po D cy A) A) args s mc ms A) (F0 m 0 ls []) := by
  obtain ⟨hx, hb, hml, hown, hts⟩ := E.1
  intro h0 gc gs M H locs ls cells slots h w hl hg
  unfold B_X3_init_0 at h
  refine r_aload_n (x := (some h0)) hx hb dX3_init_0 rfl (lh_at hl 0 rfl) ?_
  refine W.objInit hx hb hown (hts _ ml_X3_3) (hts _ im_object) (hts _ cd_object) rfl (by rw [hml]; exact hl.1) rfl dX3_init_1 (Nat.le_of_ble_eq_true rfl) (Nat.le_of_ble_eq_true rfl) ?_
  refine W.eq (g2 := F0 m 4 ls []) rfl ?_
  refine r_aload_n (x := (some h0)) hx hb dX3_init_4 rfl (lh_at hl 0 rfl) ?_
  refine lv_bipush (v := (40 : Int32)) hx hb dX3_init_5 (by decide) ?_
  obtain ⟨g1a, g1b, h⟩ := h
  refine r_newa7 (N := 40) E w acl_int (by decide) (by decide) (by decide) (show cells + 1 ≤ mc by omega) (show slots + 40 ≤ ms by omega) dX3_init_7 (fun q2 H hq2 w => ?_)
  have h := h q2 hq2
  obtain ⟨M3, eM3⟩ : ∃ z, z = nC M q2 7 40 := ⟨_, rfl⟩
  rw [← eM3] at w
  have h := h M3 eM3
  have hg : (cells + 1) + (gc - 1) ≤ mc ∧ (slots + 40) + (gs - 40) ≤ ms := ⟨by omega, by omega⟩
  obtain ⟨ho4, h⟩ := h
  refine r_putR (v := (some q2)) E w rfl ho4 cl_X3 0 rfl fl_X3_9 (Or.inr ⟨rfl, hin, rfl⟩) (Or.inr ⟨_, rfl⟩) dX3_init_9 (fun H locs w => ?_)
  obtain ⟨M5, eM5⟩ : ∃ z, z = pR M3 h0 0 (some q2) := ⟨_, rfl⟩
  rw [← eM5] at w
  have h := h M5 eM5
  refine r_aload_n (x := (some h0)) hx hb dX3_init_12 rfl (lh_at hl 0 rfl) ?_
  refine lv_iconst (v := (1 : Int32)) hx hb dX3_init_13 (by decide) ?_
  have ho4 : ok M5 h0 3 := by rw [eM5]; exact ho4
  refine r_putI (v := (1 : Int32)) E w rfl ho4 cl_X3 3 rfl fl_X3_15 (Or.inl rfl) (Or.inr ⟨rfl, Or.inr rfl⟩) dX3_init_14 (fun H locs w => ?_)
  obtain ⟨M6, eM6⟩ : ∃ z, z = pI M5 h0 3 (1 : Int32) := ⟨_, rfl⟩
  rw [← eM6] at w
  have h := h M6 eM6
  refine r_aload_n (x := (some h0)) hx hb dX3_init_17 rfl (lh_at hl 0 rfl) ?_
  refine lv_bipush (v := (40 : Int32)) hx hb dX3_init_18 (by decide) ?_
  obtain ⟨g7a, g7b, h⟩ := h
  refine r_newa7 (N := 40) E w acl_int (by decide) (by decide) (by decide) (show (cells + 1) + 1 ≤ mc by omega) (show (slots + 40) + 40 ≤ ms by omega) dX3_init_20 (fun q8 H hq8 w => ?_)
  have h := h q8 hq8
  obtain ⟨M9, eM9⟩ : ∃ z, z = nC M6 q8 7 40 := ⟨_, rfl⟩
  rw [← eM9] at w
  have h := h M9 eM9
  have hg : ((cells + 1) + 1) + ((gc - 1) - 1) ≤ mc ∧ ((slots + 40) + 40) + ((gs - 40) - 40) ≤ ms := ⟨by omega, by omega⟩
  obtain ⟨ho10, h⟩ := h
  refine r_putR (v := (some q8)) E w rfl ho10 cl_X3 7 rfl fl_X3_19 (Or.inr ⟨rfl, hin, rfl⟩) (Or.inr ⟨_, rfl⟩) dX3_init_22 (fun H locs w => ?_)
  obtain ⟨M11, eM11⟩ : ∃ z, z = pR M9 h0 7 (some q8) := ⟨_, rfl⟩
  rw [← eM11] at w
  have h := h M11 eM11
  refine r_aload_n (x := (some h0)) hx hb dX3_init_25 rfl (lh_at hl 0 rfl) ?_
  refine lv_bipush (v := (40 : Int32)) hx hb dX3_init_26 (by decide) ?_
  obtain ⟨g12a, g12b, h⟩ := h
  refine r_newa7 (N := 40) E w acl_int (by decide) (by decide) (by decide) (show ((cells + 1) + 1) + 1 ≤ mc by omega) (show ((slots + 40) + 40) + 40 ≤ ms by omega) dX3_init_28 (fun q13 H hq13 w => ?_)
  have h := h q13 hq13
  obtain ⟨M14, eM14⟩ : ∃ z, z = nC M11 q13 7 40 := ⟨_, rfl⟩
  rw [← eM14] at w
  have h := h M14 eM14
  have hg : (((cells + 1) + 1) + 1) + (((gc - 1) - 1) - 1) ≤ mc ∧ (((slots + 40) + 40) + 40) + (((gs - 40) - 40) - 40) ≤ ms := ⟨by omega, by omega⟩
  obtain ⟨ho15, h⟩ := h
  refine r_putR (v := (some q13)) E w rfl ho15 cl_X3 8 rfl fl_X3_22 (Or.inr ⟨rfl, hin, rfl⟩) (Or.inr ⟨_, rfl⟩) dX3_init_30 (fun H locs w => ?_)
  obtain ⟨M16, eM16⟩ : ∃ z, z = pR M14 h0 8 (some q13) := ⟨_, rfl⟩
  rw [← eM16] at w
  have h := h M16 eM16
  refine r_aload_n (x := (some h0)) hx hb dX3_init_33 rfl (lh_at hl 0 rfl) ?_
  refine lv_bipush (v := (41 : Int32)) hx hb dX3_init_34 (by decide) ?_
  obtain ⟨g17a, g17b, h⟩ := h
  refine r_newa7 (N := 41) E w acl_int (by decide) (by decide) (by decide) (show (((cells + 1) + 1) + 1) + 1 ≤ mc by omega) (show (((slots + 40) + 40) + 40) + 41 ≤ ms by omega) dX3_init_36 (fun q18 H hq18 w => ?_)
  have h := h q18 hq18
  obtain ⟨M19, eM19⟩ : ∃ z, z = nC M16 q18 7 41 := ⟨_, rfl⟩
  rw [← eM19] at w
  have h := h M19 eM19
  have hg : ((((cells + 1) + 1) + 1) + 1) + ((((gc - 1) - 1) - 1) - 1) ≤ mc ∧ ((((slots + 40) + 40) + 40) + 41) + ((((gs - 40) - 40) - 40) - 41) ≤ ms := ⟨by omega, by omega⟩
  obtain ⟨ho20, h⟩ := h
  refine r_putR (v := (some q18)) E w rfl ho20 cl_X3 10 rfl fl_X3_25 (Or.inr ⟨rfl, hin, rfl⟩) (Or.inr ⟨_, rfl⟩) dX3_init_38 (fun H locs w => ?_)
  obtain ⟨M21, eM21⟩ : ∃ z, z = pR M19 h0 10 (some q18) := ⟨_, rfl⟩
  rw [← eM21] at w
  have h := h M21 eM21
  refine r_aload_n (x := (some h0)) hx hb dX3_init_41 rfl (lh_at hl 0 rfl) ?_
  refine lv_bipush (v := (40 : Int32)) hx hb dX3_init_42 (by decide) ?_
  obtain ⟨g22a, g22b, h⟩ := h
  refine r_newa7 (N := 40) E w acl_int (by decide) (by decide) (by decide) (show ((((cells + 1) + 1) + 1) + 1) + 1 ≤ mc by omega) (show ((((slots + 40) + 40) + 40) + 41) + 40 ≤ ms by omega) dX3_init_44 (fun q23 H hq23 w => ?_)
  have h := h q23 hq23
  obtain ⟨M24, eM24⟩ : ∃ z, z = nC M21 q23 7 40 := ⟨_, rfl⟩
  rw [← eM24] at w
  have h := h M24 eM24
  have hg : (((((cells + 1) + 1) + 1) + 1) + 1) + (((((gc - 1) - 1) - 1) - 1) - 1) ≤ mc ∧ (((((slots + 40) + 40) + 40) + 41) + 40) + (((((gs - 40) - 40) - 40) - 41) - 40) ≤ ms := ⟨by omega, by omega⟩
  obtain ⟨ho25, h⟩ := h
  refine r_putR (v := (some q23)) E w rfl ho25 cl_X3 11 rfl fl_X3_28 (Or.inr ⟨rfl, hin, rfl⟩) (Or.inr ⟨_, rfl⟩) dX3_init_46 (fun H locs w => ?_)
  obtain ⟨M26, eM26⟩ : ∃ z, z = pR M24 h0 11 (some q23) := ⟨_, rfl⟩
  rw [← eM26] at w
  have h := h M26 eM26
  refine r_aload_n (x := (some h0)) hx hb dX3_init_49 rfl (lh_at hl 0 rfl) ?_
  refine lv_bipush (v := (40 : Int32)) hx hb dX3_init_50 (by decide) ?_
  obtain ⟨g27a, g27b, h⟩ := h
  refine r_newa7 (N := 40) E w acl_int (by decide) (by decide) (by decide) (show (((((cells + 1) + 1) + 1) + 1) + 1) + 1 ≤ mc by omega) (show (((((slots + 40) + 40) + 40) + 41) + 40) + 40 ≤ ms by omega) dX3_init_52 (fun q28 H hq28 w => ?_)
  have h := h q28 hq28
  obtain ⟨M29, eM29⟩ : ∃ z, z = nC M26 q28 7 40 := ⟨_, rfl⟩
  rw [← eM29] at w
  have h := h M29 eM29
  have hg : ((((((cells + 1) + 1) + 1) + 1) + 1) + 1) + ((((((gc - 1) - 1) - 1) - 1) - 1) - 1) ≤ mc ∧ ((((((slots + 40) + 40) + 40) + 41) + 40) + 40) + ((((((gs - 40) - 40) - 40) - 41) - 40) - 40) ≤ ms := ⟨by omega, by omega⟩
  obtain ⟨ho30, h⟩ := h
  refine r_putR (v := (some q28)) E w rfl ho30 cl_X3 12 rfl fl_X3_31 (Or.inr ⟨rfl, hin, rfl⟩) (Or.inr ⟨_, rfl⟩) dX3_init_54 (fun H locs w => ?_)
  obtain ⟨M31, eM31⟩ : ∃ z, z = pR M29 h0 12 (some q28) := ⟨_, rfl⟩
  rw [← eM31] at w
  have h := h M31 eM31
  refine r_aload_n (x := (some h0)) hx hb dX3_init_57 rfl (lh_at hl 0 rfl) ?_
  have ho30 : ok M31 h0 3 := by rw [eM31]; exact ho30
  refine r_getR E w rfl ho30 cl_X3 0 rfl fl_X3_9 dX3_init_58 ?_
  refine lv_bipush (v := (-9 : Int32)) hx hb dX3_init_61 (by decide) ?_
  refine z_callTv E w yk_J7_fill_53178 ⟨Nat.le_of_ble_eq_true rfl, Nat.le_of_ble_eq_true rfl⟩ ⟨(show ((((((cells + 1) + 1) + 1) + 1) + 1) + 1) ≤ mc by omega), (show ((((((slots + 40) + 40) + 40) + 41) + 40) + 40) ≤ ms by omega)⟩ ml_X3_34 st_J7_fill_53178 [rv (gR M31 h0 0), iv (-9 : Int32)] rfl rfl hl [] rfl (Nat.le_of_ble_eq_true rfl) (K_J7_fill_53178 h) dX3_init_63 (fun  M32 H locs h w => ?_)
  exact r_vret E w hr hlk h (show ((((((cells + 1) + 1) + 1) + 1) + 1) + 1) ≤ mc by omega) (show ((((((slots + 40) + 40) + 40) + 41) + 40) + 40) ≤ ms by omega) dX3_init_66
theorem K_X3_init {l : Launch} {Q : Mm → Prop} {h0 : Nat} {gc gs : Nat} {M : Mm} (h : B_X3_init_0 Q h0 gc gs M) : KV l yX3_init cdX3_init (rmm 1 gc gs) [rv (some h0)] M Q :=
  KV_of (by decide) rfl (Nat.le_of_ble_eq_true rfl) (fun p e s m args below meth c D cy A ls E hr hlk hn w hl => k_X3_init_0 E hr hlk hn _ _ _ _ _ _ _ _ _ h w hl ⟨Nat.le_of_eq (Nat.zero_add _), Nat.le_of_eq (Nat.zero_add _)⟩)
def B_X3_empty_0 (Q : Mm → Prop)  (h0 : Nat) (M : Mm) : Prop := (ok M h0 3 ∧ (B_J7_fill_53178_0 (fun  M2 => (ok M2 h0 3 ∧ (∀ M4, M4 = pI M2 h0 3 (1 : Int32) → Q M4))) (gR M h0 0) (-9 : Int32) M))
set_option maxHeartbeats 4000000 in
set_option maxRecDepth 100000 in
theorem k_X3_empty_0 {p : Program} {l : Launch} {e : Env} {s : State} {m : MethodId} {args : Array Value} {below : List Frame} {meth : Method} {c : Code} {D : va_G} {cy : Nat → ClassId} {A : Nat → Prop} {Q : Mm → Prop} (E : Ex p m c cX3_empty 1 s args RX3 D cy A) (hr : meth.sig.returnType = none) (hlk : meth.locks = false) : ∀ (h0 : Nat) (M : Mm) (H : Heap) (locs : List Loc) (ls : Array Slot), B_X3_empty_0 Q  h0 M → Wd D cy A s M H locs → lh ls 1 [(0, rv (some h0))] → W p l e (rmm 1 0 0) s m args below meth c H locs 0 0 (MQ below (va_Qv Q (Po D cy A) A) args s 0 0 A) (F0 m 0 ls []) := by
  obtain ⟨hx, hb, hml, hown, hts⟩ := E.1
  intro h0 M H locs ls h w hl
  unfold B_X3_empty_0 at h
  refine r_aload_n (x := (some h0)) hx hb dX3_empty_0 rfl (lh_at hl 0 rfl) ?_
  obtain ⟨ho1, h⟩ := h
  refine r_getR E w rfl ho1 cl_X3 0 rfl fl_X3_9 dX3_empty_1 ?_
  refine lv_bipush (v := (-9 : Int32)) hx hb dX3_empty_4 (by decide) ?_
  refine z_callTv E w yk_J7_fill_53178 ⟨Nat.le_of_ble_eq_true rfl, Nat.le_of_ble_eq_true rfl⟩ ⟨(Nat.zero_le _), (Nat.zero_le _)⟩ ml_X3_34 st_J7_fill_53178 [rv (gR M h0 0), iv (-9 : Int32)] rfl rfl hl [] rfl (Nat.le_of_ble_eq_true rfl) (K_J7_fill_53178 h) dX3_empty_6 (fun  M2 H locs h w => ?_)
  refine r_aload_n (x := (some h0)) hx hb dX3_empty_9 rfl (lh_at hl 0 rfl) ?_
  refine lv_iconst (v := (1 : Int32)) hx hb dX3_empty_10 (by decide) ?_
  obtain ⟨ho3, h⟩ := h
  refine r_putI (v := (1 : Int32)) E w rfl ho3 cl_X3 3 rfl fl_X3_15 (Or.inl rfl) (Or.inr ⟨rfl, Or.inr rfl⟩) dX3_empty_11 (fun H locs w => ?_)
  obtain ⟨M4, eM4⟩ : ∃ z, z = pI M2 h0 3 (1 : Int32) := ⟨_, rfl⟩
  rw [← eM4] at w
  have h := h M4 eM4
  exact r_vret E w hr hlk h (Nat.le_refl 0) (Nat.le_refl 0) dX3_empty_14
theorem K_X3_empty {l : Launch} {Q : Mm → Prop} {h0 : Nat} {M : Mm} (h : B_X3_empty_0 Q h0 M) : KV l yX3_empty cdX3_empty (rmm 1 0 0) [rv (some h0)] M Q :=
  KV_of (by decide) rfl (Nat.le_of_ble_eq_true rfl) (fun p e s m args below meth c D cy A ls E hr hlk hn w hl => k_X3_empty_0 E hr hlk _ _ _ _ _ h w hl)
def B_X3_hasCut_0 (Q : Int32 → Mm → Prop)  (h0 : Nat) (x1 : Int32) (M : Mm) : Prop := ((x1 < 0 → Q (0 : Int32) M) ∧ (¬ x1 < 0 → (ok M h0 3 ∧ (B_X3_cutCount_0 (fun r4 M3 => ((r4 ≤ x1 → Q (0 : Int32) M3) ∧ (¬ r4 ≤ x1 → Q (1 : Int32) M3))) h0  M))))
set_option maxHeartbeats 4000000 in
set_option maxRecDepth 100000 in
theorem k_X3_hasCut_0 {p : Program} {l : Launch} {e : Env} {s : State} {m : MethodId} {args : Array Value} {below : List Frame} {meth : Method} {c : Code} {D : va_G} {cy : Nat → ClassId} {A : Nat → Prop} {Q : Int32 → Mm → Prop} (E : Ex p m c cX3_hasCut 2 s args RX3 D cy A) (hr : meth.sig.returnType = (some .boolean)) (hlk : meth.locks = false) : ∀ (h0 : Nat) (x1 : Int32) (M : Mm) (H : Heap) (locs : List Loc) (ls : Array Slot), B_X3_hasCut_0 Q  h0 x1 M → Wd D cy A s M H locs → lh ls 2 [(0, rv (some h0)), (1, iv x1)] → W p l e (rmm 1 0 0) s m args below meth c H locs 0 0 (MQ below (va_Qi Q (Po D cy A) A) args s 0 0 A) (F0 m 0 ls []) := by
  obtain ⟨hx, hb, hml, hown, hts⟩ := E.1
  intro h0 x1 M H locs ls h w hl
  unfold B_X3_hasCut_0 at h
  refine lv_iload_n (x := x1) hx hb dX3_hasCut_0 rfl (lh_at hl 1 rfl) ?_
  refine lv_if_lt (tgt := 16) hx hb dX3_hasCut_1 (by decide) (fun c1 => ?_) (fun c1 => ?_)
  · have h := h.1 c1
    refine lv_iconst (v := (0 : Int32)) hx hb dX3_hasCut_16 (by decide) ?_
    exact r_zret E w hr hlk ⟨Or.inl rfl, h⟩ (Nat.le_refl 0) (Nat.le_refl 0) dX3_hasCut_17
  · have h := h.2 c1
    refine lv_iload_n (x := x1) hx hb dX3_hasCut_4 rfl (lh_at hl 1 rfl) ?_
    refine r_aload_n (x := (some h0)) hx hb dX3_hasCut_5 rfl (lh_at hl 0 rfl) ?_
    obtain ⟨ho2, h⟩ := h
    refine z_callVi E w rfl ho2 cl_X3 yk_X3_cutCount ⟨Nat.le_of_ble_eq_true rfl, Nat.le_of_ble_eq_true rfl⟩ ⟨(Nat.zero_le _), (Nat.zero_le _)⟩ rfl ml_X3_44 im_X3_cutCount sl_X3_cutCount [] rfl rfl hl [iv x1] rfl (Nat.le_of_ble_eq_true rfl) (K_X3_cutCount h) dX3_hasCut_6 (fun r4 M3 H locs h w => ?_)
    refine lv_icmp_ge (tgt := 16) hx hb dX3_hasCut_9 (by decide) (fun c5 => ?_) (fun c5 => ?_)
    · have h := h.1 c5
      refine lv_iconst (v := (0 : Int32)) hx hb dX3_hasCut_16 (by decide) ?_
      exact r_zret E w hr hlk ⟨Or.inl rfl, h⟩ (Nat.le_refl 0) (Nat.le_refl 0) dX3_hasCut_17
    · have h := h.2 c5
      refine lv_iconst (v := (1 : Int32)) hx hb dX3_hasCut_12 (by decide) ?_
      refine lv_goto (tgt := 17) hx hb dX3_hasCut_13 (by decide) ?_
      exact r_zret E w hr hlk ⟨Or.inr rfl, h⟩ (Nat.le_refl 0) (Nat.le_refl 0) dX3_hasCut_17
theorem K_X3_hasCut {l : Launch} {Q : Int32 → Mm → Prop} {h0 : Nat} {x1 : Int32} {M : Mm} (h : B_X3_hasCut_0 Q h0 x1 M) : KI l yX3_hasCut cdX3_hasCut (rmm 1 0 0) [rv (some h0), iv x1] M Q :=
  KI_of (by decide) rfl (Nat.le_of_ble_eq_true rfl) (fun p e s m args below meth c D cy A ls E hr hlk hn w hl => k_X3_hasCut_0 E hr hlk _ _ _ _ _ _ h w hl)
def B_X3_cutBuild_0 (Q : Int32 → Mm → Prop)  (h0 : Nat) (x1 : Int32) (M : Mm) : Prop := (ok M h0 3 ∧ (∃ a2, (gR M h0 10) = some a2 ∧ (ar M a2 7 (x1 + (1 : Int32)) ∧ (∃ a4, (gR M h0 7) = some a4 ∧ (ar M a4 7 (gI M a2 (Int32.toNatClampNeg (x1 + (1 : Int32)))) ∧ Q (gI M a4 (Int32.toNatClampNeg (gI M a2 (Int32.toNatClampNeg (x1 + (1 : Int32)))))) M)))))
set_option maxHeartbeats 4000000 in
set_option maxRecDepth 100000 in
theorem k_X3_cutBuild_0 {p : Program} {l : Launch} {e : Env} {s : State} {m : MethodId} {args : Array Value} {below : List Frame} {meth : Method} {c : Code} {D : va_G} {cy : Nat → ClassId} {A : Nat → Prop} {Q : Int32 → Mm → Prop} (E : Ex p m c cX3_cutBuild 2 s args RX3 D cy A) (hr : meth.sig.returnType = (some .int)) (hlk : meth.locks = false) : ∀ (h0 : Nat) (x1 : Int32) (M : Mm) (H : Heap) (locs : List Loc) (ls : Array Slot), B_X3_cutBuild_0 Q  h0 x1 M → Wd D cy A s M H locs → lh ls 2 [(0, rv (some h0)), (1, iv x1)] → W p l e (rmm 0 0 0) s m args below meth c H locs 0 0 (MQ below (va_Qi Q (Po D cy A) A) args s 0 0 A) (F0 m 0 ls []) := by
  obtain ⟨hx, hb, hml, hown, hts⟩ := E.1
  intro h0 x1 M H locs ls h w hl
  unfold B_X3_cutBuild_0 at h
  refine r_aload_n (x := (some h0)) hx hb dX3_cutBuild_0 rfl (lh_at hl 0 rfl) ?_
  obtain ⟨ho1, h⟩ := h
  refine r_getR E w rfl ho1 cl_X3 7 rfl fl_X3_19 dX3_cutBuild_1 ?_
  refine r_aload_n (x := (some h0)) hx hb dX3_cutBuild_4 rfl (lh_at hl 0 rfl) ?_
  refine r_getR E w rfl ho1 cl_X3 10 rfl fl_X3_25 dX3_cutBuild_5 ?_
  refine lv_iload_n (x := x1) hx hb dX3_cutBuild_8 rfl (lh_at hl 1 rfl) ?_
  refine lv_iconst (v := (1 : Int32)) hx hb dX3_cutBuild_9 (by decide) ?_
  refine lv_iadd hx hb dX3_cutBuild_10 ?_
  obtain ⟨a2, ea2, h⟩ := h
  obtain ⟨ha3, h⟩ := h
  refine r_iald E w ea2 ha3 dX3_cutBuild_11 ?_
  obtain ⟨a4, ea4, h⟩ := h
  obtain ⟨ha5, h⟩ := h
  refine r_iald E w ea4 ha5 dX3_cutBuild_12 ?_
  exact r_iret E w hr hlk h (Nat.le_refl 0) (Nat.le_refl 0) dX3_cutBuild_13
theorem K_X3_cutBuild {l : Launch} {Q : Int32 → Mm → Prop} {h0 : Nat} {x1 : Int32} {M : Mm} (h : B_X3_cutBuild_0 Q h0 x1 M) : KI l yX3_cutBuild cdX3_cutBuild (rmm 0 0 0) [rv (some h0), iv x1] M Q :=
  KI_of (by decide) rfl (Nat.le_of_ble_eq_true rfl) (fun p e s m args below meth c D cy A ls E hr hlk hn w hl => k_X3_cutBuild_0 E hr hlk _ _ _ _ _ _ h w hl)
def B_X3_undoingOf_0 (Q : Int32 → Mm → Prop)  (h0 : Nat) (x1 : Int32) (M : Mm) : Prop := (ok M h0 3 ∧ (B_X3_stepSize_0 (fun r3 M2 => ((r3 ≤ 0 → Q (-9 : Int32) M2) ∧ (¬ r3 ≤ 0 → (ok M2 h0 3 ∧ (∃ a6, (gR M2 h0 12) = some a6 ∧ (ar M2 a6 7 x1 ∧ Q (gI M2 a6 (Int32.toNatClampNeg x1)) M2)))))) h0 x1 M))
set_option maxHeartbeats 4000000 in
set_option maxRecDepth 100000 in
theorem k_X3_undoingOf_0 {p : Program} {l : Launch} {e : Env} {s : State} {m : MethodId} {args : Array Value} {below : List Frame} {meth : Method} {c : Code} {D : va_G} {cy : Nat → ClassId} {A : Nat → Prop} {Q : Int32 → Mm → Prop} (E : Ex p m c cX3_undoingOf 2 s args RX3 D cy A) (hr : meth.sig.returnType = (some .int)) (hlk : meth.locks = false) : ∀ (h0 : Nat) (x1 : Int32) (M : Mm) (H : Heap) (locs : List Loc) (ls : Array Slot), B_X3_undoingOf_0 Q  h0 x1 M → Wd D cy A s M H locs → lh ls 2 [(0, rv (some h0)), (1, iv x1)] → W p l e (rmm 1 0 0) s m args below meth c H locs 0 0 (MQ below (va_Qi Q (Po D cy A) A) args s 0 0 A) (F0 m 0 ls []) := by
  obtain ⟨hx, hb, hml, hown, hts⟩ := E.1
  intro h0 x1 M H locs ls h w hl
  unfold B_X3_undoingOf_0 at h
  refine r_aload_n (x := (some h0)) hx hb dX3_undoingOf_0 rfl (lh_at hl 0 rfl) ?_
  refine lv_iload_n (x := x1) hx hb dX3_undoingOf_1 rfl (lh_at hl 1 rfl) ?_
  obtain ⟨ho1, h⟩ := h
  refine z_callVi E w rfl ho1 cl_X3 yk_X3_stepSize ⟨Nat.le_of_ble_eq_true rfl, Nat.le_of_ble_eq_true rfl⟩ ⟨(Nat.zero_le _), (Nat.zero_le _)⟩ rfl ml_X3_48 im_X3_stepSize sl_X3_stepSize [iv x1] rfl rfl hl [] rfl (Nat.le_of_ble_eq_true rfl) (K_X3_stepSize h) dX3_undoingOf_2 (fun r3 M2 H locs h w => ?_)
  refine lv_if_le (tgt := 17) hx hb dX3_undoingOf_5 (by decide) (fun c4 => ?_) (fun c4 => ?_)
  · have h := h.1 c4
    refine lv_bipush (v := (-9 : Int32)) hx hb dX3_undoingOf_17 (by decide) ?_
    exact r_iret E w hr hlk h (Nat.le_refl 0) (Nat.le_refl 0) dX3_undoingOf_19
  · have h := h.2 c4
    refine r_aload_n (x := (some h0)) hx hb dX3_undoingOf_8 rfl (lh_at hl 0 rfl) ?_
    obtain ⟨ho5, h⟩ := h
    refine r_getR E w rfl ho5 cl_X3 12 rfl fl_X3_31 dX3_undoingOf_9 ?_
    refine lv_iload_n (x := x1) hx hb dX3_undoingOf_12 rfl (lh_at hl 1 rfl) ?_
    obtain ⟨a6, ea6, h⟩ := h
    obtain ⟨ha7, h⟩ := h
    refine r_iald E w ea6 ha7 dX3_undoingOf_13 ?_
    refine lv_goto (tgt := 19) hx hb dX3_undoingOf_14 (by decide) ?_
    exact r_iret E w hr hlk h (Nat.le_refl 0) (Nat.le_refl 0) dX3_undoingOf_19
theorem K_X3_undoingOf {l : Launch} {Q : Int32 → Mm → Prop} {h0 : Nat} {x1 : Int32} {M : Mm} (h : B_X3_undoingOf_0 Q h0 x1 M) : KI l yX3_undoingOf cdX3_undoingOf (rmm 1 0 0) [rv (some h0), iv x1] M Q :=
  KI_of (by decide) rfl (Nat.le_of_ble_eq_true rfl) (fun p e s m args below meth c D cy A ls E hr hlk hn w hl => k_X3_undoingOf_0 E hr hlk _ _ _ _ _ _ h w hl)
def B_X3_stepsNear_34 (Q : Int32 → Mm → Prop) (K3 : Nat → Int32 → Int32 → Int32 → Int32 → Mm → Prop) (h0 : Nat) (x1 : Int32) (x2 : Int32) (x3 : Int32) (x4 : Int32) (s0 : Int32) (M : Mm) : Prop := ((s0 = 0 → K3 h0 x1 x2 x3 (x4 + 1) M) ∧ (¬ s0 = 0 → (ok M h0 3 ∧ (B_X3_cutBuild_0 (fun r4 M3 => ((x2 < (if 0 ≤ (r4 - x1) then (r4 - x1) else 0 - (r4 - x1)) → K3 h0 x1 x2 x3 (x4 + 1) M3) ∧ (¬ x2 < (if 0 ≤ (r4 - x1) then (r4 - x1) else 0 - (r4 - x1)) → Q (1 : Int32) M3))) h0 x4 M))))
set_option maxHeartbeats 4000000 in
set_option maxRecDepth 100000 in
theorem k_X3_stepsNear_34 {p : Program} {l : Launch} {e : Env} {s : State} {m : MethodId} {args : Array Value} {below : List Frame} {meth : Method} {c : Code} {D : va_G} {cy : Nat → ClassId} {A : Nat → Prop} {Q : Int32 → Mm → Prop} (E : Ex p m c cX3_stepsNear 6 s args RX3 D cy A) (hr : meth.sig.returnType = (some .boolean)) (hlk : meth.locks = false) {K3 : Nat → Int32 → Int32 → Int32 → Int32 → Mm → Prop} (hK3 : ∀ (h0 : Nat) (x1 : Int32) (x2 : Int32) (x3 : Int32) (x4 : Int32) (M : Mm) (H : Heap) (locs : List Loc) (ls : Array Slot), K3 h0 x1 x2 x3 x4 M → Wd D cy A s M H locs → lh ls 6 [(0, rv (some h0)), (1, iv x1), (2, iv x2), (3, iv x3), (4, iv x4)] → W p l e (rmm 1 0 0) s m args below meth c H locs 0 0 (MQ below (va_Qi Q (Po D cy A) A) args s 0 0 A) (F0 m 3 ls [])) : ∀ (h0 : Nat) (x1 : Int32) (x2 : Int32) (x3 : Int32) (x4 : Int32) (s0 : Int32) (M : Mm) (H : Heap) (locs : List Loc) (ls : Array Slot), B_X3_stepsNear_34 Q K3 h0 x1 x2 x3 x4 s0 M → Wd D cy A s M H locs → lh ls 6 [(0, rv (some h0)), (1, iv x1), (2, iv x2), (3, iv x3), (4, iv x4)] → W p l e (rmm 1 0 0) s m args below meth c H locs 0 0 (MQ below (va_Qi Q (Po D cy A) A) args s 0 0 A) (F0 m 34 ls [.int s0]) := by
  obtain ⟨hx, hb, hml, hown, hts⟩ := E.1
  intro h0 x1 x2 x3 x4 s0 M H locs ls h w hl
  unfold B_X3_stepsNear_34 at h
  refine r_istore (lv' := [(5, iv s0), (0, rv (some h0)), (1, iv x1), (2, iv x2), (3, iv x3), (4, iv x4)]) hx hb dX3_stepsNear_34 hl (by decide) rfl (fun ls hl => ?_)
  refine lv_iload (x := s0) hx hb dX3_stepsNear_36 (lh_at hl 0 rfl) ?_
  refine lv_if_eq (tgt := 58) hx hb dX3_stepsNear_38 (by decide) (fun c1 => ?_) (fun c1 => ?_)
  · have h := h.1 c1
    refine r_iinc (k := 5) (x := x4) (v := (x4 + 1)) (lv' := [(4, iv (x4 + 1)), (5, iv s0), (0, rv (some h0)), (1, iv x1), (2, iv x2), (3, iv x3)]) hx hb dX3_stepsNear_58 hl rfl rfl (by decide) rfl (fun ls hl => ?_)
    refine lv_goto (tgt := 3) hx hb dX3_stepsNear_61 (by decide) ?_
    exact hK3 _ _ _ _ _ _ _ _ _ h w (lh_sub hl [2, 3, 4, 5, 0] rfl)
  · have h := h.2 c1
    refine r_aload_n (x := (some h0)) hx hb dX3_stepsNear_41 rfl (lh_at hl 1 rfl) ?_
    refine lv_iload (x := x4) hx hb dX3_stepsNear_42 (lh_at hl 5 rfl) ?_
    obtain ⟨ho2, h⟩ := h
    refine z_callVi E w rfl ho2 cl_X3 yk_X3_cutBuild ⟨Nat.le_of_ble_eq_true rfl, Nat.le_of_ble_eq_true rfl⟩ ⟨(Nat.zero_le _), (Nat.zero_le _)⟩ rfl ml_X3_57 im_X3_cutBuild sl_X3_cutBuild [iv x4] rfl rfl hl [] rfl (Nat.le_of_ble_eq_true rfl) (K_X3_cutBuild h) dX3_stepsNear_44 (fun r4 M3 H locs h w => ?_)
    refine lv_iload_n (x := x1) hx hb dX3_stepsNear_47 rfl (lh_at hl 2 rfl) ?_
    refine lv_isub hx hb dX3_stepsNear_48 ?_
    refine va_mabs hx hb (by rw [hml]; exact hl.1.symm) hown (hts _ ml_X3_60) (hts _ st_math_abs) (hts _ ini_J9) (hts _ cd_math_abs) (Nat.le_of_ble_eq_true rfl) (math_room [] (Nat.le_of_ble_eq_true rfl)) (Nat.zero_le _) (Nat.zero_le _) dX3_stepsNear_49 ?_
    refine lv_iload_n (x := x2) hx hb dX3_stepsNear_52 rfl (lh_at hl 3 rfl) ?_
    refine lv_icmp_gt (tgt := 58) hx hb dX3_stepsNear_53 (by decide) (fun c5 => ?_) (fun c5 => ?_)
    · have h := h.1 c5
      refine r_iinc (k := 5) (x := x4) (v := (x4 + 1)) (lv' := [(4, iv (x4 + 1)), (5, iv s0), (0, rv (some h0)), (1, iv x1), (2, iv x2), (3, iv x3)]) hx hb dX3_stepsNear_58 hl rfl rfl (by decide) rfl (fun ls hl => ?_)
      refine lv_goto (tgt := 3) hx hb dX3_stepsNear_61 (by decide) ?_
      exact hK3 _ _ _ _ _ _ _ _ _ h w (lh_sub hl [2, 3, 4, 5, 0] rfl)
    · have h := h.2 c5
      refine lv_iconst (v := (1 : Int32)) hx hb dX3_stepsNear_56 (by decide) ?_
      exact r_zret E w hr hlk ⟨Or.inr rfl, h⟩ (Nat.le_refl 0) (Nat.le_refl 0) dX3_stepsNear_57
def B_X3_stepsNear_33 (Q : Int32 → Mm → Prop) (K3 : Nat → Int32 → Int32 → Int32 → Int32 → Mm → Prop) (h0 : Nat) (x1 : Int32) (x2 : Int32) (x3 : Int32) (x4 : Int32) (M : Mm) : Prop := B_X3_stepsNear_34 Q K3 h0 x1 x2 x3 x4 (0 : Int32) M
set_option maxHeartbeats 4000000 in
set_option maxRecDepth 100000 in
theorem k_X3_stepsNear_33 {p : Program} {l : Launch} {e : Env} {s : State} {m : MethodId} {args : Array Value} {below : List Frame} {meth : Method} {c : Code} {D : va_G} {cy : Nat → ClassId} {A : Nat → Prop} {Q : Int32 → Mm → Prop} (E : Ex p m c cX3_stepsNear 6 s args RX3 D cy A) (hr : meth.sig.returnType = (some .boolean)) (hlk : meth.locks = false) {K3 : Nat → Int32 → Int32 → Int32 → Int32 → Mm → Prop} (hK3 : ∀ (h0 : Nat) (x1 : Int32) (x2 : Int32) (x3 : Int32) (x4 : Int32) (M : Mm) (H : Heap) (locs : List Loc) (ls : Array Slot), K3 h0 x1 x2 x3 x4 M → Wd D cy A s M H locs → lh ls 6 [(0, rv (some h0)), (1, iv x1), (2, iv x2), (3, iv x3), (4, iv x4)] → W p l e (rmm 1 0 0) s m args below meth c H locs 0 0 (MQ below (va_Qi Q (Po D cy A) A) args s 0 0 A) (F0 m 3 ls [])) : ∀ (h0 : Nat) (x1 : Int32) (x2 : Int32) (x3 : Int32) (x4 : Int32) (M : Mm) (H : Heap) (locs : List Loc) (ls : Array Slot), B_X3_stepsNear_33 Q K3 h0 x1 x2 x3 x4 M → Wd D cy A s M H locs → lh ls 6 [(0, rv (some h0)), (1, iv x1), (2, iv x2), (3, iv x3), (4, iv x4)] → W p l e (rmm 1 0 0) s m args below meth c H locs 0 0 (MQ below (va_Qi Q (Po D cy A) A) args s 0 0 A) (F0 m 33 ls []) := by
  obtain ⟨hx, hb, hml, hown, hts⟩ := E.1
  intro h0 x1 x2 x3 x4 M H locs ls h w hl
  unfold B_X3_stepsNear_33 at h
  refine lv_iconst (v := (0 : Int32)) hx hb dX3_stepsNear_33 (by decide) ?_
  exact k_X3_stepsNear_34 E hr hlk hK3 _ _ _ _ _ _ _ _ _ _ h w (lh_sub hl [0, 1, 2, 3, 4] rfl)
def B_X3_stepsNear_3 (Q : Int32 → Mm → Prop)  : Nat → Nat → Int32 → Int32 → Int32 → Int32 → Mm → Prop
  | 0, _, _, _, _, _, _ => False
  | n + 1, h0, x1, x2, x3, x4, M => (ok M h0 3 ∧ (B_X3_cutCount_0 (fun r3 M2 => ((r3 ≤ x4 → Q (0 : Int32) M2) ∧ (¬ r3 ≤ x4 → ((x3 = 0 → B_X3_stepsNear_33 Q (fun y0 y1 y2 y3 y4 My => B_X3_stepsNear_3 Q n y0 y1 y2 y3 y4 My) h0 x1 x2 x3 x4 M2) ∧ (¬ x3 = 0 → (ok M2 h0 3 ∧ (B_X3_stepSize_0 (fun r8 M7 => (B_J6_signum_0f7a4_0 (fun r10 M9 => ((¬ r10 = x3 → B_X3_stepsNear_33 Q (fun y0 y1 y2 y3 y4 My => B_X3_stepsNear_3 Q n y0 y1 y2 y3 y4 My) h0 x1 x2 x3 x4 M9) ∧ (r10 = x3 → B_X3_stepsNear_34 Q (fun y0 y1 y2 y3 y4 My => B_X3_stepsNear_3 Q n y0 y1 y2 y3 y4 My) h0 x1 x2 x3 x4 (1 : Int32) M9))) r8 M7)) h0 x4 M2))))))) h0  M))
set_option maxHeartbeats 4000000 in
set_option maxRecDepth 100000 in
theorem k_X3_stepsNear_3 {p : Program} {l : Launch} {e : Env} {s : State} {m : MethodId} {args : Array Value} {below : List Frame} {meth : Method} {c : Code} {D : va_G} {cy : Nat → ClassId} {A : Nat → Prop} {Q : Int32 → Mm → Prop} (E : Ex p m c cX3_stepsNear 6 s args RX3 D cy A) (hr : meth.sig.returnType = (some .boolean)) (hlk : meth.locks = false) : ∀ (n : Nat), ∀ (h0 : Nat) (x1 : Int32) (x2 : Int32) (x3 : Int32) (x4 : Int32) (M : Mm) (H : Heap) (locs : List Loc) (ls : Array Slot), B_X3_stepsNear_3 Q  n h0 x1 x2 x3 x4 M → Wd D cy A s M H locs → lh ls 6 [(0, rv (some h0)), (1, iv x1), (2, iv x2), (3, iv x3), (4, iv x4)] → W p l e (rmm 1 0 0) s m args below meth c H locs 0 0 (MQ below (va_Qi Q (Po D cy A) A) args s 0 0 A) (F0 m 3 ls []) := by
  obtain ⟨hx, hb, hml, hown, hts⟩ := E.1
  intro n
  induction n with
  | zero => intro h0 x1 x2 x3 x4 M H locs ls h; exact False.elim h
  | succ n ih =>
    intro h0 x1 x2 x3 x4 M H locs ls h w hl
    unfold B_X3_stepsNear_3 at h
    refine lv_iload (x := x4) hx hb dX3_stepsNear_3 (lh_at hl 4 rfl) ?_
    refine r_aload_n (x := (some h0)) hx hb dX3_stepsNear_5 rfl (lh_at hl 0 rfl) ?_
    obtain ⟨ho1, h⟩ := h
    refine z_callVi E w rfl ho1 cl_X3 yk_X3_cutCount ⟨Nat.le_of_ble_eq_true rfl, Nat.le_of_ble_eq_true rfl⟩ ⟨(Nat.zero_le _), (Nat.zero_le _)⟩ rfl ml_X3_44 im_X3_cutCount sl_X3_cutCount [] rfl rfl hl [iv x4] rfl (Nat.le_of_ble_eq_true rfl) (K_X3_cutCount h) dX3_stepsNear_6 (fun r3 M2 H locs h w => ?_)
    refine lv_icmp_ge (tgt := 64) hx hb dX3_stepsNear_9 (by decide) (fun c4 => ?_) (fun c4 => ?_)
    · have h := h.1 c4
      refine lv_iconst (v := (0 : Int32)) hx hb dX3_stepsNear_64 (by decide) ?_
      exact r_zret E w hr hlk ⟨Or.inl rfl, h⟩ (Nat.le_refl 0) (Nat.le_refl 0) dX3_stepsNear_65
    · have h := h.2 c4
      refine lv_iload_n (x := x3) hx hb dX3_stepsNear_12 rfl (lh_at hl 3 rfl) ?_
      refine lv_if_eq (tgt := 33) hx hb dX3_stepsNear_13 (by decide) (fun c5 => ?_) (fun c5 => ?_)
      · have h := h.1 c5
        exact k_X3_stepsNear_33 E hr hlk ih _ _ _ _ _ _ _ _ _ h w (lh_sub hl [0, 1, 2, 3, 4] rfl)
      · have h := h.2 c5
        refine r_aload_n (x := (some h0)) hx hb dX3_stepsNear_16 rfl (lh_at hl 0 rfl) ?_
        refine lv_iload (x := x4) hx hb dX3_stepsNear_17 (lh_at hl 4 rfl) ?_
        obtain ⟨ho6, h⟩ := h
        refine z_callVi E w rfl ho6 cl_X3 yk_X3_stepSize ⟨Nat.le_of_ble_eq_true rfl, Nat.le_of_ble_eq_true rfl⟩ ⟨(Nat.zero_le _), (Nat.zero_le _)⟩ rfl ml_X3_48 im_X3_stepSize sl_X3_stepSize [iv x4] rfl rfl hl [] rfl (Nat.le_of_ble_eq_true rfl) (K_X3_stepSize h) dX3_stepsNear_19 (fun r8 M7 H locs h w => ?_)
        refine z_callTi E w yk_J6_signum_0f7a4 ⟨Nat.le_of_ble_eq_true rfl, Nat.le_of_ble_eq_true rfl⟩ ⟨(Nat.zero_le _), (Nat.zero_le _)⟩ ml_X3_52 st_J6_signum_0f7a4 [iv r8] rfl rfl hl [] rfl (Nat.le_of_ble_eq_true rfl) (K_J6_signum_0f7a4 h) dX3_stepsNear_22 (fun r10 M9 H locs h w => ?_)
        refine lv_iload_n (x := x3) hx hb dX3_stepsNear_25 rfl (lh_at hl 3 rfl) ?_
        refine lv_icmp_ne (tgt := 33) hx hb dX3_stepsNear_26 (by decide) (fun c11 => ?_) (fun c11 => ?_)
        · have h := h.1 c11
          exact k_X3_stepsNear_33 E hr hlk ih _ _ _ _ _ _ _ _ _ h w (lh_sub hl [0, 1, 2, 3, 4] rfl)
        · have h := h.2 c11
          refine lv_iconst (v := (1 : Int32)) hx hb dX3_stepsNear_29 (by decide) ?_
          refine lv_goto (tgt := 34) hx hb dX3_stepsNear_30 (by decide) ?_
          exact k_X3_stepsNear_34 E hr hlk ih _ _ _ _ _ _ _ _ _ _ h w (lh_sub hl [0, 1, 2, 3, 4] rfl)
def B_X3_stepsNear_0 (Q : Int32 → Mm → Prop)  (h0 : Nat) (x1 : Int32) (x2 : Int32) (x3 : Int32) (M : Mm) : Prop := (∃ n1, B_X3_stepsNear_3 Q  n1 h0 x1 x2 x3 (0 : Int32) M)
set_option maxHeartbeats 4000000 in
set_option maxRecDepth 100000 in
theorem k_X3_stepsNear_0 {p : Program} {l : Launch} {e : Env} {s : State} {m : MethodId} {args : Array Value} {below : List Frame} {meth : Method} {c : Code} {D : va_G} {cy : Nat → ClassId} {A : Nat → Prop} {Q : Int32 → Mm → Prop} (E : Ex p m c cX3_stepsNear 6 s args RX3 D cy A) (hr : meth.sig.returnType = (some .boolean)) (hlk : meth.locks = false) : ∀ (h0 : Nat) (x1 : Int32) (x2 : Int32) (x3 : Int32) (M : Mm) (H : Heap) (locs : List Loc) (ls : Array Slot), B_X3_stepsNear_0 Q  h0 x1 x2 x3 M → Wd D cy A s M H locs → lh ls 6 [(0, rv (some h0)), (1, iv x1), (2, iv x2), (3, iv x3)] → W p l e (rmm 1 0 0) s m args below meth c H locs 0 0 (MQ below (va_Qi Q (Po D cy A) A) args s 0 0 A) (F0 m 0 ls []) := by
  obtain ⟨hx, hb, hml, hown, hts⟩ := E.1
  intro h0 x1 x2 x3 M H locs ls h w hl
  unfold B_X3_stepsNear_0 at h
  refine lv_iconst (v := (0 : Int32)) hx hb dX3_stepsNear_0 (by decide) ?_
  refine r_istore (lv' := [(4, iv (0 : Int32)), (0, rv (some h0)), (1, iv x1), (2, iv x2), (3, iv x3)]) hx hb dX3_stepsNear_1 hl (by decide) rfl (fun ls hl => ?_)
  obtain ⟨n1, h⟩ := h
  exact k_X3_stepsNear_3 E hr hlk  n1 _ _ _ _ _ _ _ _ _ h w (lh_sub hl [1, 2, 3, 4, 0] rfl)
theorem K_X3_stepsNear {l : Launch} {Q : Int32 → Mm → Prop} {h0 : Nat} {x1 : Int32} {x2 : Int32} {x3 : Int32} {M : Mm} (h : B_X3_stepsNear_0 Q h0 x1 x2 x3 M) : KI l yX3_stepsNear cdX3_stepsNear (rmm 1 0 0) [rv (some h0), iv x1, iv x2, iv x3] M Q :=
  KI_of (by decide) rfl (Nat.le_of_ble_eq_true rfl) (fun p e s m args below meth c D cy A ls E hr hlk hn w hl => k_X3_stepsNear_0 E hr hlk _ _ _ _ _ _ _ _ h w hl)
def B_X3_isMeasuredAround_0 (Q : Int32 → Mm → Prop)  (h0 : Nat) (x1 : Int32) (M : Mm) : Prop := (ok M h0 3 ∧ (((gI M h0 6) ≤ 0 → Q (0 : Int32) M) ∧ (¬ (gI M h0 6) ≤ 0 → (∃ a3, (gR M h0 7) = some a3 ∧ (ar M a3 7 (0 : Int32) ∧ ((x1 ≤ (gI M a3 (Int32.toNatClampNeg (0 : Int32))) → Q (0 : Int32) M) ∧ (¬ x1 ≤ (gI M a3 (Int32.toNatClampNeg (0 : Int32))) → (ar M a3 7 ((gI M h0 6) - (1 : Int32)) ∧ (((gI M a3 (Int32.toNatClampNeg ((gI M h0 6) - (1 : Int32)))) < x1 → Q (0 : Int32) M) ∧ (¬ (gI M a3 (Int32.toNatClampNeg ((gI M h0 6) - (1 : Int32)))) < x1 → Q (1 : Int32) M))))))))))
set_option maxHeartbeats 4000000 in
set_option maxRecDepth 100000 in
theorem k_X3_isMeasuredAround_0 {p : Program} {l : Launch} {e : Env} {s : State} {m : MethodId} {args : Array Value} {below : List Frame} {meth : Method} {c : Code} {D : va_G} {cy : Nat → ClassId} {A : Nat → Prop} {Q : Int32 → Mm → Prop} (E : Ex p m c cX3_isMeasuredAround 2 s args RX3 D cy A) (hr : meth.sig.returnType = (some .boolean)) (hlk : meth.locks = false) : ∀ (h0 : Nat) (x1 : Int32) (M : Mm) (H : Heap) (locs : List Loc) (ls : Array Slot), B_X3_isMeasuredAround_0 Q  h0 x1 M → Wd D cy A s M H locs → lh ls 2 [(0, rv (some h0)), (1, iv x1)] → W p l e (rmm 0 0 0) s m args below meth c H locs 0 0 (MQ below (va_Qi Q (Po D cy A) A) args s 0 0 A) (F0 m 0 ls []) := by
  obtain ⟨hx, hb, hml, hown, hts⟩ := E.1
  intro h0 x1 M H locs ls h w hl
  unfold B_X3_isMeasuredAround_0 at h
  refine r_aload_n (x := (some h0)) hx hb dX3_isMeasuredAround_0 rfl (lh_at hl 0 rfl) ?_
  obtain ⟨ho1, h⟩ := h
  refine r_getI E w rfl ho1 cl_X3 6 rfl fl_X3_65 dX3_isMeasuredAround_1 ?_
  refine lv_if_le (tgt := 36) hx hb dX3_isMeasuredAround_4 (by decide) (fun c2 => ?_) (fun c2 => ?_)
  · have h := h.1 c2
    refine lv_iconst (v := (0 : Int32)) hx hb dX3_isMeasuredAround_36 (by decide) ?_
    exact r_zret E w hr hlk ⟨Or.inl rfl, h⟩ (Nat.le_refl 0) (Nat.le_refl 0) dX3_isMeasuredAround_37
  · have h := h.2 c2
    refine r_aload_n (x := (some h0)) hx hb dX3_isMeasuredAround_7 rfl (lh_at hl 0 rfl) ?_
    refine r_getR E w rfl ho1 cl_X3 7 rfl fl_X3_19 dX3_isMeasuredAround_8 ?_
    refine lv_iconst (v := (0 : Int32)) hx hb dX3_isMeasuredAround_11 (by decide) ?_
    obtain ⟨a3, ea3, h⟩ := h
    obtain ⟨ha4, h⟩ := h
    refine r_iald E w ea3 ha4 dX3_isMeasuredAround_12 ?_
    refine lv_iload_n (x := x1) hx hb dX3_isMeasuredAround_13 rfl (lh_at hl 1 rfl) ?_
    refine lv_icmp_ge (tgt := 36) hx hb dX3_isMeasuredAround_14 (by decide) (fun c5 => ?_) (fun c5 => ?_)
    · have h := h.1 c5
      refine lv_iconst (v := (0 : Int32)) hx hb dX3_isMeasuredAround_36 (by decide) ?_
      exact r_zret E w hr hlk ⟨Or.inl rfl, h⟩ (Nat.le_refl 0) (Nat.le_refl 0) dX3_isMeasuredAround_37
    · have h := h.2 c5
      refine r_aload_n (x := (some h0)) hx hb dX3_isMeasuredAround_17 rfl (lh_at hl 0 rfl) ?_
      refine r_getR E w rfl ho1 cl_X3 7 rfl fl_X3_19 dX3_isMeasuredAround_18 ?_
      refine r_aload_n (x := (some h0)) hx hb dX3_isMeasuredAround_21 rfl (lh_at hl 0 rfl) ?_
      refine r_getI E w rfl ho1 cl_X3 6 rfl fl_X3_65 dX3_isMeasuredAround_22 ?_
      refine lv_iconst (v := (1 : Int32)) hx hb dX3_isMeasuredAround_25 (by decide) ?_
      refine lv_isub hx hb dX3_isMeasuredAround_26 ?_
      obtain ⟨ha6, h⟩ := h
      refine r_iald E w ea3 ha6 dX3_isMeasuredAround_27 ?_
      refine lv_iload_n (x := x1) hx hb dX3_isMeasuredAround_28 rfl (lh_at hl 1 rfl) ?_
      refine lv_icmp_lt (tgt := 36) hx hb dX3_isMeasuredAround_29 (by decide) (fun c7 => ?_) (fun c7 => ?_)
      · have h := h.1 c7
        refine lv_iconst (v := (0 : Int32)) hx hb dX3_isMeasuredAround_36 (by decide) ?_
        exact r_zret E w hr hlk ⟨Or.inl rfl, h⟩ (Nat.le_refl 0) (Nat.le_refl 0) dX3_isMeasuredAround_37
      · have h := h.2 c7
        refine lv_iconst (v := (1 : Int32)) hx hb dX3_isMeasuredAround_32 (by decide) ?_
        refine lv_goto (tgt := 37) hx hb dX3_isMeasuredAround_33 (by decide) ?_
        exact r_zret E w hr hlk ⟨Or.inr rfl, h⟩ (Nat.le_refl 0) (Nat.le_refl 0) dX3_isMeasuredAround_37
theorem K_X3_isMeasuredAround {l : Launch} {Q : Int32 → Mm → Prop} {h0 : Nat} {x1 : Int32} {M : Mm} (h : B_X3_isMeasuredAround_0 Q h0 x1 M) : KI l yX3_isMeasuredAround cdX3_isMeasuredAround (rmm 0 0 0) [rv (some h0), iv x1] M Q :=
  KI_of (by decide) rfl (Nat.le_of_ble_eq_true rfl) (fun p e s m args below meth c D cy A ls E hr hlk hn w hl => k_X3_isMeasuredAround_0 E hr hlk _ _ _ _ _ _ h w hl)
def B_X3_rememberAlarm_0 (Q : Mm → Prop)  (h0 : Nat) (x1 : Int32) (M : Mm) : Prop := (ok M h0 3 ∧ (B_X3_cutBuild_0 (fun r3 M2 => (ok M2 h0 3 ∧ (∀ M5, M5 = pJ M2 h0 2 ((gJ M h0 2) ||| ((1 : Int64) <<< (Int32.toInt64 r3 &&& 63))) → Q M5))) h0 x1 M))
set_option maxHeartbeats 4000000 in
set_option maxRecDepth 100000 in
theorem k_X3_rememberAlarm_0 {p : Program} {l : Launch} {e : Env} {s : State} {m : MethodId} {args : Array Value} {below : List Frame} {meth : Method} {c : Code} {D : va_G} {cy : Nat → ClassId} {A : Nat → Prop} {Q : Mm → Prop} (E : Ex p m c cX3_rememberAlarm 2 s args RX3 D cy A) (hr : meth.sig.returnType = none) (hlk : meth.locks = false) : ∀ (h0 : Nat) (x1 : Int32) (M : Mm) (H : Heap) (locs : List Loc) (ls : Array Slot), B_X3_rememberAlarm_0 Q  h0 x1 M → Wd D cy A s M H locs → lh ls 2 [(0, rv (some h0)), (1, iv x1)] → W p l e (rmm 1 0 0) s m args below meth c H locs 0 0 (MQ below (va_Qv Q (Po D cy A) A) args s 0 0 A) (F0 m 0 ls []) := by
  obtain ⟨hx, hb, hml, hown, hts⟩ := E.1
  intro h0 x1 M H locs ls h w hl
  unfold B_X3_rememberAlarm_0 at h
  refine r_aload_n (x := (some h0)) hx hb dX3_rememberAlarm_0 rfl (lh_at hl 0 rfl) ?_
  refine r_dupr hx hb dX3_rememberAlarm_1 ?_
  obtain ⟨ho1, h⟩ := h
  refine r_getJ E w rfl ho1 cl_X3 2 rfl fl_X3_68 dX3_rememberAlarm_2 ?_
  refine lv_lconst (v := (1 : Int64)) hx hb dX3_rememberAlarm_5 (by decide) ?_
  refine r_aload_n (x := (some h0)) hx hb dX3_rememberAlarm_6 rfl (lh_at hl 0 rfl) ?_
  refine lv_iload_n (x := x1) hx hb dX3_rememberAlarm_7 rfl (lh_at hl 1 rfl) ?_
  refine z_callVi E w rfl ho1 cl_X3 yk_X3_cutBuild ⟨Nat.le_of_ble_eq_true rfl, Nat.le_of_ble_eq_true rfl⟩ ⟨(Nat.zero_le _), (Nat.zero_le _)⟩ rfl ml_X3_57 im_X3_cutBuild sl_X3_cutBuild [iv x1] rfl rfl hl [jv (1 : Int64), jv (gJ M h0 2), rv (some h0)] rfl (Nat.le_of_ble_eq_true rfl) (K_X3_cutBuild h) dX3_rememberAlarm_8 (fun r3 M2 H locs h w => ?_)
  refine lv_lshl hx hb dX3_rememberAlarm_11 rfl ?_
  refine lv_lor hx hb dX3_rememberAlarm_12 ?_
  obtain ⟨ho4, h⟩ := h
  refine r_putJ (v := ((gJ M h0 2) ||| ((1 : Int64) <<< (Int32.toInt64 r3 &&& 63)))) E w rfl ho4 cl_X3 2 rfl fl_X3_68 (Or.inl rfl) rfl dX3_rememberAlarm_13 (fun H locs w => ?_)
  obtain ⟨M5, eM5⟩ : ∃ z, z = pJ M2 h0 2 ((gJ M h0 2) ||| ((1 : Int64) <<< (Int32.toInt64 r3 &&& 63))) := ⟨_, rfl⟩
  rw [← eM5] at w
  have h := h M5 eM5
  exact r_vret E w hr hlk h (Nat.le_refl 0) (Nat.le_refl 0) dX3_rememberAlarm_16
theorem K_X3_rememberAlarm {l : Launch} {Q : Mm → Prop} {h0 : Nat} {x1 : Int32} {M : Mm} (h : B_X3_rememberAlarm_0 Q h0 x1 M) : KV l yX3_rememberAlarm cdX3_rememberAlarm (rmm 1 0 0) [rv (some h0), iv x1] M Q :=
  KV_of (by decide) rfl (Nat.le_of_ble_eq_true rfl) (fun p e s m args below meth c D cy A ls E hr hlk hn w hl => k_X3_rememberAlarm_0 E hr hlk _ _ _ _ _ _ h w hl)
def B_X3_wasAlarmed_0 (Q : Int32 → Mm → Prop)  (h0 : Nat) (x1 : Int32) (M : Mm) : Prop := (ok M h0 3 ∧ (B_X3_cutBuild_0 (fun r3 M2 => (((lg_cmp (((gJ M h0 2) >>> (Int32.toInt64 r3 &&& 63)) &&& (1 : Int64)) (0 : Int64)) = 0 → Q (0 : Int32) M2) ∧ (¬ (lg_cmp (((gJ M h0 2) >>> (Int32.toInt64 r3 &&& 63)) &&& (1 : Int64)) (0 : Int64)) = 0 → Q (1 : Int32) M2))) h0 x1 M))
set_option maxHeartbeats 4000000 in
set_option maxRecDepth 100000 in
theorem k_X3_wasAlarmed_0 {p : Program} {l : Launch} {e : Env} {s : State} {m : MethodId} {args : Array Value} {below : List Frame} {meth : Method} {c : Code} {D : va_G} {cy : Nat → ClassId} {A : Nat → Prop} {Q : Int32 → Mm → Prop} (E : Ex p m c cX3_wasAlarmed 2 s args RX3 D cy A) (hr : meth.sig.returnType = (some .boolean)) (hlk : meth.locks = false) : ∀ (h0 : Nat) (x1 : Int32) (M : Mm) (H : Heap) (locs : List Loc) (ls : Array Slot), B_X3_wasAlarmed_0 Q  h0 x1 M → Wd D cy A s M H locs → lh ls 2 [(0, rv (some h0)), (1, iv x1)] → W p l e (rmm 1 0 0) s m args below meth c H locs 0 0 (MQ below (va_Qi Q (Po D cy A) A) args s 0 0 A) (F0 m 0 ls []) := by
  obtain ⟨hx, hb, hml, hown, hts⟩ := E.1
  intro h0 x1 M H locs ls h w hl
  unfold B_X3_wasAlarmed_0 at h
  refine r_aload_n (x := (some h0)) hx hb dX3_wasAlarmed_0 rfl (lh_at hl 0 rfl) ?_
  obtain ⟨ho1, h⟩ := h
  refine r_getJ E w rfl ho1 cl_X3 2 rfl fl_X3_68 dX3_wasAlarmed_1 ?_
  refine r_aload_n (x := (some h0)) hx hb dX3_wasAlarmed_4 rfl (lh_at hl 0 rfl) ?_
  refine lv_iload_n (x := x1) hx hb dX3_wasAlarmed_5 rfl (lh_at hl 1 rfl) ?_
  refine z_callVi E w rfl ho1 cl_X3 yk_X3_cutBuild ⟨Nat.le_of_ble_eq_true rfl, Nat.le_of_ble_eq_true rfl⟩ ⟨(Nat.zero_le _), (Nat.zero_le _)⟩ rfl ml_X3_57 im_X3_cutBuild sl_X3_cutBuild [iv x1] rfl rfl hl [jv (gJ M h0 2)] rfl (Nat.le_of_ble_eq_true rfl) (K_X3_cutBuild h) dX3_wasAlarmed_6 (fun r3 M2 H locs h w => ?_)
  refine lv_lshr hx hb dX3_wasAlarmed_9 rfl ?_
  refine lv_lconst (v := (1 : Int64)) hx hb dX3_wasAlarmed_10 (by decide) ?_
  refine lv_land hx hb dX3_wasAlarmed_11 ?_
  refine lv_lconst (v := (0 : Int64)) hx hb dX3_wasAlarmed_12 (by decide) ?_
  refine W.lcmp hx hb dX3_wasAlarmed_13 ?_
  refine lv_if_eq (tgt := 21) hx hb dX3_wasAlarmed_14 (by decide) (fun c4 => ?_) (fun c4 => ?_)
  · have h := h.1 c4
    refine lv_iconst (v := (0 : Int32)) hx hb dX3_wasAlarmed_21 (by decide) ?_
    exact r_zret E w hr hlk ⟨Or.inl rfl, h⟩ (Nat.le_refl 0) (Nat.le_refl 0) dX3_wasAlarmed_22
  · have h := h.2 c4
    refine lv_iconst (v := (1 : Int32)) hx hb dX3_wasAlarmed_17 (by decide) ?_
    refine lv_goto (tgt := 22) hx hb dX3_wasAlarmed_18 (by decide) ?_
    exact r_zret E w hr hlk ⟨Or.inr rfl, h⟩ (Nat.le_refl 0) (Nat.le_refl 0) dX3_wasAlarmed_22
theorem K_X3_wasAlarmed {l : Launch} {Q : Int32 → Mm → Prop} {h0 : Nat} {x1 : Int32} {M : Mm} (h : B_X3_wasAlarmed_0 Q h0 x1 M) : KI l yX3_wasAlarmed cdX3_wasAlarmed (rmm 1 0 0) [rv (some h0), iv x1] M Q :=
  KI_of (by decide) rfl (Nat.le_of_ble_eq_true rfl) (fun p e s m args below meth c D cy A ls E hr hlk hn w hl => k_X3_wasAlarmed_0 E hr hlk _ _ _ _ _ _ h w hl)
def B_X3_digestOnto_20 (Q : Int64 → Mm → Prop)  : Nat → Nat → Int64 → Int32 → Mm → Prop
  | 0, _, _, _, _ => False
  | n + 1, h0, x3, x5, M => (((40 : Int32) ≤ x5 → Q x3 M) ∧ (¬ (40 : Int32) ≤ x5 → (ok M h0 3 ∧ (∃ a3, (gR M h0 0) = some a3 ∧ (ar M a3 7 x5 ∧ B_X3_digestOnto_20 Q  n h0 (((31 : Int64) * x3) + (Int32.toInt64 (gI M a3 (Int32.toNatClampNeg x5)))) (x5 + 1) M)))))
set_option maxHeartbeats 4000000 in
set_option maxRecDepth 100000 in
theorem k_X3_digestOnto_20 {p : Program} {l : Launch} {e : Env} {s : State} {m : MethodId} {args : Array Value} {below : List Frame} {meth : Method} {c : Code} {D : va_G} {cy : Nat → ClassId} {A : Nat → Prop} {Q : Int64 → Mm → Prop} (E : Ex p m c cX3_digestOnto 6 s args RX3 D cy A) (hr : meth.sig.returnType = (some .long)) (hlk : meth.locks = false) : ∀ (n : Nat), ∀ (h0 : Nat) (x3 : Int64) (x5 : Int32) (M : Mm) (H : Heap) (locs : List Loc) (ls : Array Slot), B_X3_digestOnto_20 Q  n h0 x3 x5 M → Wd D cy A s M H locs → lh ls 6 [(0, rv (some h0)), (3, jv x3), (5, iv x5)] → W p l e (rmm 0 0 0) s m args below meth c H locs 0 0 (MQ below (va_Ql Q (Po D cy A) A) args s 0 0 A) (F0 m 20 ls []) := by
  obtain ⟨hx, hb, hml, hown, hts⟩ := E.1
  intro n
  induction n with
  | zero => intro h0 x3 x5 M H locs ls h; exact False.elim h
  | succ n ih =>
    intro h0 x3 x5 M H locs ls h w hl
    unfold B_X3_digestOnto_20 at h
    refine lv_iload (x := x5) hx hb dX3_digestOnto_20 (lh_at hl 2 rfl) ?_
    refine lv_bipush (v := (40 : Int32)) hx hb dX3_digestOnto_22 (by decide) ?_
    refine lv_icmp_ge (tgt := 48) hx hb dX3_digestOnto_24 (by decide) (fun c1 => ?_) (fun c1 => ?_)
    · have h := h.1 c1
      refine lv_lload_n (x := x3) hx hb dX3_digestOnto_48 rfl (lh_at hl 1 rfl) ?_
      exact r_lret E w hr hlk h (Nat.le_refl 0) (Nat.le_refl 0) dX3_digestOnto_49
    · have h := h.2 c1
      refine lv_ldc2 (v := (31 : Int64)) hx hb hown (hts _ kc_X3_75) dX3_digestOnto_27 ?_
      refine lv_lload_n (x := x3) hx hb dX3_digestOnto_30 rfl (lh_at hl 1 rfl) ?_
      refine lv_lmul hx hb dX3_digestOnto_31 ?_
      refine r_aload_n (x := (some h0)) hx hb dX3_digestOnto_32 rfl (lh_at hl 0 rfl) ?_
      obtain ⟨ho2, h⟩ := h
      refine r_getR E w rfl ho2 cl_X3 0 rfl fl_X3_9 dX3_digestOnto_33 ?_
      refine lv_iload (x := x5) hx hb dX3_digestOnto_36 (lh_at hl 2 rfl) ?_
      obtain ⟨a3, ea3, h⟩ := h
      obtain ⟨ha4, h⟩ := h
      refine r_iald E w ea3 ha4 dX3_digestOnto_38 ?_
      refine lv_i2l hx hb dX3_digestOnto_39 rfl ?_
      refine lv_ladd hx hb dX3_digestOnto_40 ?_
      refine r_lstore_n (lv' := [(3, jv (((31 : Int64) * x3) + (Int32.toInt64 (gI M a3 (Int32.toNatClampNeg x5))))), (0, rv (some h0)), (5, iv x5)]) hx hb dX3_digestOnto_41 rfl hl (by decide) rfl (fun ls hl => ?_)
      refine r_iinc (k := 2) (x := x5) (v := (x5 + 1)) (lv' := [(5, iv (x5 + 1)), (3, jv (((31 : Int64) * x3) + (Int32.toInt64 (gI M a3 (Int32.toNatClampNeg x5))))), (0, rv (some h0))]) hx hb dX3_digestOnto_42 hl rfl rfl (by decide) rfl (fun ls hl => ?_)
      refine lv_goto (tgt := 20) hx hb dX3_digestOnto_45 (by decide) ?_
      exact ih _ _ _ _ _ _ _ h w (lh_sub hl [2, 1, 0] rfl)
def B_X3_digestOnto_0 (Q : Int64 → Mm → Prop)  (h0 : Nat) (x1 : Int64) (M : Mm) : Prop := (ok M h0 3 ∧ ((¬ (gI M h0 1) = 0 → (∃ n3, B_X3_digestOnto_20 Q  n3 h0 x1 (0 : Int32) M)) ∧ ((gI M h0 1) = 0 → Q (((31 : Int64) * x1) - (1 : Int64)) M)))
set_option maxHeartbeats 4000000 in
set_option maxRecDepth 100000 in
theorem k_X3_digestOnto_0 {p : Program} {l : Launch} {e : Env} {s : State} {m : MethodId} {args : Array Value} {below : List Frame} {meth : Method} {c : Code} {D : va_G} {cy : Nat → ClassId} {A : Nat → Prop} {Q : Int64 → Mm → Prop} (E : Ex p m c cX3_digestOnto 6 s args RX3 D cy A) (hr : meth.sig.returnType = (some .long)) (hlk : meth.locks = false) : ∀ (h0 : Nat) (x1 : Int64) (M : Mm) (H : Heap) (locs : List Loc) (ls : Array Slot), B_X3_digestOnto_0 Q  h0 x1 M → Wd D cy A s M H locs → lh ls 6 [(0, rv (some h0)), (1, jv x1)] → W p l e (rmm 0 0 0) s m args below meth c H locs 0 0 (MQ below (va_Ql Q (Po D cy A) A) args s 0 0 A) (F0 m 0 ls []) := by
  obtain ⟨hx, hb, hml, hown, hts⟩ := E.1
  intro h0 x1 M H locs ls h w hl
  unfold B_X3_digestOnto_0 at h
  refine r_aload_n (x := (some h0)) hx hb dX3_digestOnto_0 rfl (lh_at hl 0 rfl) ?_
  obtain ⟨ho1, h⟩ := h
  refine r_getI E w rfl ho1 cl_X3 1 rfl fl_X3_72 dX3_digestOnto_1 ?_
  refine lv_if_ne (tgt := 15) hx hb dX3_digestOnto_4 (by decide) (fun c2 => ?_) (fun c2 => ?_)
  · have h := h.1 c2
    refine lv_lload_n (x := x1) hx hb dX3_digestOnto_15 rfl (lh_at hl 1 rfl) ?_
    refine r_lstore_n (lv' := [(3, jv x1), (0, rv (some h0)), (1, jv x1)]) hx hb dX3_digestOnto_16 rfl hl (by decide) rfl (fun ls hl => ?_)
    refine lv_iconst (v := (0 : Int32)) hx hb dX3_digestOnto_17 (by decide) ?_
    refine r_istore (lv' := [(5, iv (0 : Int32)), (3, jv x1), (0, rv (some h0)), (1, jv x1)]) hx hb dX3_digestOnto_18 hl (by decide) rfl (fun ls hl => ?_)
    obtain ⟨n3, h⟩ := h
    exact k_X3_digestOnto_20 E hr hlk  n3 _ _ _ _ _ _ _ h w (lh_sub hl [2, 1, 0] rfl)
  · have h := h.2 c2
    refine lv_ldc2 (v := (31 : Int64)) hx hb hown (hts _ kc_X3_75) dX3_digestOnto_7 ?_
    refine lv_lload_n (x := x1) hx hb dX3_digestOnto_10 rfl (lh_at hl 1 rfl) ?_
    refine lv_lmul hx hb dX3_digestOnto_11 ?_
    refine lv_lconst (v := (1 : Int64)) hx hb dX3_digestOnto_12 (by decide) ?_
    refine lv_lsub hx hb dX3_digestOnto_13 ?_
    exact r_lret E w hr hlk h (Nat.le_refl 0) (Nat.le_refl 0) dX3_digestOnto_14
theorem K_X3_digestOnto {l : Launch} {Q : Int64 → Mm → Prop} {h0 : Nat} {x1 : Int64} {M : Mm} (h : B_X3_digestOnto_0 Q h0 x1 M) : KL l yX3_digestOnto cdX3_digestOnto (rmm 0 0 0) [rv (some h0), jv x1] M Q :=
  KL_of (by decide) rfl (Nat.le_of_ble_eq_true rfl) (fun p e s m args below meth c D cy A ls E hr hlk hn w hl => k_X3_digestOnto_0 E hr hlk _ _ _ _ _ _ h w hl)
