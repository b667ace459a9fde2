def B_X0_init_0 (Q : Mm → Prop)  (h0 : Nat) (gc : Nat) (gs : Nat) (M : Mm) : Prop := (1 ≤ gc ∧ 8591 ≤ gs ∧ (∀ q2, q2 ∉ gL M → (∀ M3, M3 = nC M q2 7 8591 → (ok M3 h0 0 ∧ (∀ M5, M5 = pR M3 h0 0 (some q2) → (∀ M6, M6 = pI M5 h0 2 (1 : Int32) → Q M6))))))
set_option maxHeartbeats 4000000 in
set_option maxRecDepth 100000 in
theorem k_X0_init_0 {p : Program} {l : Launch} {e : Env} {s : State} {m : MethodId} {args : Array Value} {below : List Frame} {meth : Method} {c : Code} {D : va_G} {cy : Nat → ClassId} {A : Nat → Prop} {mc ms : Nat} {Q : Mm → Prop} (E : Ex p m c cX0_init 1 s args RX0 D cy A) (hr : meth.sig.returnType = none) (hlk : meth.locks = false) (hin : meth.name = "<init>") : ∀ (h0 : Nat) (gc : Nat) (gs : Nat) (M : Mm) (H : Heap) (locs : List Loc) (ls : Array Slot) (cells slots : Nat), B_X0_init_0 Q  h0 gc gs M → Wd D cy A s M H locs → lh ls 1 [(0, rv (some h0))] → cells + gc ≤ mc ∧ slots + gs ≤ ms → W p l e (rmm 1 mc ms) s m args below meth c H locs cells slots (MQ below (va_Qv Q (Po D cy A) A) args s mc ms A) (F0 m 0 ls []) := by
  obtain ⟨hx, hb, hml, hown, hts⟩ := E.1
  intro h0 gc gs M H locs ls cells slots h w hl hg
  unfold B_X0_init_0 at h
  refine r_aload_n (x := (some h0)) hx hb dX0_init_0 rfl (lh_at hl 0 rfl) ?_
  refine W.objInit hx hb hown (hts _ ml_X0_3) (hts _ im_object) (hts _ cd_object) rfl (by rw [hml]; exact hl.1) rfl dX0_init_1 (Nat.le_of_ble_eq_true rfl) (Nat.le_of_ble_eq_true rfl) ?_
  refine W.eq (g2 := F0 m 4 ls []) rfl ?_
  refine r_aload_n (x := (some h0)) hx hb dX0_init_4 rfl (lh_at hl 0 rfl) ?_
  refine lv_sipush (v := (8591 : Int32)) hx hb dX0_init_5 (by decide) ?_
  obtain ⟨g1a, g1b, h⟩ := h
  refine r_newa7 (N := 8591) E w acl_int (by decide) (by decide) (by decide) (show cells + 1 ≤ mc by omega) (show slots + 8591 ≤ ms by omega) dX0_init_8 (fun q2 H hq2 w => ?_)
  have h := h q2 hq2
  obtain ⟨M3, eM3⟩ : ∃ z, z = nC M q2 7 8591 := ⟨_, rfl⟩
  rw [← eM3] at w
  have h := h M3 eM3
  have hg : (cells + 1) + (gc - 1) ≤ mc ∧ (slots + 8591) + (gs - 8591) ≤ ms := ⟨by omega, by omega⟩
  obtain ⟨ho4, h⟩ := h
  refine r_putR (v := (some q2)) E w rfl ho4 cl_X0 0 rfl fl_X0_9 (Or.inr ⟨rfl, hin, rfl⟩) (Or.inr ⟨_, rfl⟩) dX0_init_10 (fun H locs w => ?_)
  obtain ⟨M5, eM5⟩ : ∃ z, z = pR M3 h0 0 (some q2) := ⟨_, rfl⟩
  rw [← eM5] at w
  have h := h M5 eM5
  refine r_aload_n (x := (some h0)) hx hb dX0_init_13 rfl (lh_at hl 0 rfl) ?_
  refine lv_iconst (v := (1 : Int32)) hx hb dX0_init_14 (by decide) ?_
  have ho4 : ok M5 h0 0 := by rw [eM5]; exact ho4
  refine r_putI (v := (1 : Int32)) E w rfl ho4 cl_X0 2 rfl fl_X0_13 (Or.inl rfl) (Or.inl rfl) dX0_init_15 (fun H locs w => ?_)
  obtain ⟨M6, eM6⟩ : ∃ z, z = pI M5 h0 2 (1 : Int32) := ⟨_, rfl⟩
  rw [← eM6] at w
  have h := h M6 eM6
  exact r_vret E w hr hlk h (show (cells + 1) ≤ mc by omega) (show (slots + 8591) ≤ ms by omega) dX0_init_18
theorem K_X0_init {l : Launch} {Q : Mm → Prop} {h0 : Nat} {gc gs : Nat} {M : Mm} (h : B_X0_init_0 Q h0 gc gs M) : KV l yX0_init cdX0_init (rmm 1 gc gs) [rv (some h0)] M Q :=
  KV_of (by decide) rfl (Nat.le_of_ble_eq_true rfl) (fun p e s m args below meth c D cy A ls E hr hlk hn w hl => k_X0_init_0 E hr hlk hn _ _ _ _ _ _ _ _ _ h w hl ⟨Nat.le_of_eq (Nat.zero_add _), Nat.le_of_eq (Nat.zero_add _)⟩)
def B_X0_outermost_10 (Q : Int32 → Mm → Prop)  : Nat → Option Nat → Int32 → Int32 → Int32 → Int32 → Mm → Prop
  | 0, _, _, _, _, _, _ => False
  | n + 1, x0, x2, x3, x4, x5, M => ((x2 ≤ x5 → Q x4 M) ∧ (¬ x2 ≤ x5 → ((x3 = 0 → (∃ a3, x0 = some a3 ∧ (ar M a3 7 x5 ∧ B_X0_outermost_10 Q  n x0 x2 x3 (if (gI M a3 (Int32.toNatClampNeg x5)) < x4 then (gI M a3 (Int32.toNatClampNeg x5)) else x4) (x5 + 1) M))) ∧ (¬ x3 = 0 → (∃ a5, x0 = some a5 ∧ (ar M a5 7 x5 ∧ B_X0_outermost_10 Q  n x0 x2 x3 (if x4 < (gI M a5 (Int32.toNatClampNeg x5)) then (gI M a5 (Int32.toNatClampNeg x5)) else x4) (x5 + 1) M))))))
set_option maxHeartbeats 4000000 in
set_option maxRecDepth 100000 in
theorem k_X0_outermost_10 {p : Program} {l : Launch} {e : Env} {s : State} {m : MethodId} {args : Array Value} {below : List Frame} {meth : Method} {c : Code} {D : va_G} {cy : Nat → ClassId} {A : Nat → Prop} {Q : Int32 → Mm → Prop} (E : Ex p m c cX0_outermost 6 s args RX0 D cy A) (hr : meth.sig.returnType = (some .int)) (hlk : meth.locks = false) : ∀ (n : Nat), ∀ (x0 : Option Nat) (x2 : Int32) (x3 : Int32) (x4 : Int32) (x5 : Int32) (M : Mm) (H : Heap) (locs : List Loc) (ls : Array Slot), B_X0_outermost_10 Q  n x0 x2 x3 x4 x5 M → Wd D cy A s M H locs → lh ls 6 [(0, rv x0), (2, iv x2), (3, iv x3), (4, iv x4), (5, iv x5)] → W p l e (rmm 1 0 0) s m args below meth c H locs 0 0 (MQ below (va_Qi Q (Po D cy A) A) args s 0 0 A) (F0 m 10 ls []) := by
  obtain ⟨hx, hb, hml, hown, hts⟩ := E.1
  intro n
  induction n with
  | zero => intro x0 x2 x3 x4 x5 M H locs ls h; exact False.elim h
  | succ n ih =>
    intro x0 x2 x3 x4 x5 M H locs ls h w hl
    unfold B_X0_outermost_10 at h
    refine lv_iload (x := x5) hx hb dX0_outermost_10 (lh_at hl 4 rfl) ?_
    refine lv_iload_n (x := x2) hx hb dX0_outermost_12 rfl (lh_at hl 1 rfl) ?_
    refine lv_icmp_ge (tgt := 49) hx hb dX0_outermost_13 (by decide) (fun c1 => ?_) (fun c1 => ?_)
    · have h := h.1 c1
      refine lv_iload (x := x4) hx hb dX0_outermost_49 (lh_at hl 3 rfl) ?_
      exact r_iret E w hr hlk h (Nat.le_refl 0) (Nat.le_refl 0) dX0_outermost_51
    · have h := h.2 c1
      refine lv_iload_n (x := x3) hx hb dX0_outermost_16 rfl (lh_at hl 2 rfl) ?_
      refine lv_if_eq (tgt := 32) hx hb dX0_outermost_17 (by decide) (fun c2 => ?_) (fun c2 => ?_)
      · have h := h.1 c2
        refine lv_iload (x := x4) hx hb dX0_outermost_32 (lh_at hl 3 rfl) ?_
        refine r_aload_n (x := x0) hx hb dX0_outermost_34 rfl (lh_at hl 0 rfl) ?_
        refine lv_iload (x := x5) hx hb dX0_outermost_35 (lh_at hl 4 rfl) ?_
        obtain ⟨a3, ea3, h⟩ := h
        obtain ⟨ha4, h⟩ := h
        refine r_iald E w ea3 ha4 dX0_outermost_37 ?_
        refine va_mmin hx hb (by rw [hml]; exact hl.1.symm) hown (hts _ ml_X0_55) (hts _ st_math_min) (hts _ ini_J9) (hts _ cd_math_min) (Nat.le_of_ble_eq_true rfl) (math_room [] (Nat.le_of_ble_eq_true rfl)) (Nat.zero_le _) (Nat.zero_le _) dX0_outermost_38 ?_
        refine r_istore (lv' := [(4, iv (if (gI M a3 (Int32.toNatClampNeg x5)) < x4 then (gI M a3 (Int32.toNatClampNeg x5)) else x4)), (0, rv x0), (2, iv x2), (3, iv x3), (5, iv x5)]) hx hb dX0_outermost_41 hl (by decide) rfl (fun ls hl => ?_)
        refine r_iinc (k := 4) (x := x5) (v := (x5 + 1)) (lv' := [(5, iv (x5 + 1)), (4, iv (if (gI M a3 (Int32.toNatClampNeg x5)) < x4 then (gI M a3 (Int32.toNatClampNeg x5)) else x4)), (0, rv x0), (2, iv x2), (3, iv x3)]) hx hb dX0_outermost_43 hl rfl rfl (by decide) rfl (fun ls hl => ?_)
        refine lv_goto (tgt := 10) hx hb dX0_outermost_46 (by decide) ?_
        exact ih _ _ _ _ _ _ _ _ _ h w (lh_sub hl [2, 3, 4, 1, 0] rfl)
      · have h := h.2 c2
        refine lv_iload (x := x4) hx hb dX0_outermost_20 (lh_at hl 3 rfl) ?_
        refine r_aload_n (x := x0) hx hb dX0_outermost_22 rfl (lh_at hl 0 rfl) ?_
        refine lv_iload (x := x5) hx hb dX0_outermost_23 (lh_at hl 4 rfl) ?_
        obtain ⟨a5, ea5, h⟩ := h
        obtain ⟨ha6, h⟩ := h
        refine r_iald E w ea5 ha6 dX0_outermost_25 ?_
        refine va_mmax hx hb (by rw [hml]; exact hl.1.symm) hown (hts _ ml_X0_52) (hts _ st_math_max) (hts _ ini_J9) (hts _ cd_math_max) (Nat.le_of_ble_eq_true rfl) (math_room [] (Nat.le_of_ble_eq_true rfl)) (Nat.zero_le _) (Nat.zero_le _) dX0_outermost_26 ?_
        refine lv_goto (tgt := 41) hx hb dX0_outermost_29 (by decide) ?_
        refine r_istore (lv' := [(4, iv (if x4 < (gI M a5 (Int32.toNatClampNeg x5)) then (gI M a5 (Int32.toNatClampNeg x5)) else x4)), (0, rv x0), (2, iv x2), (3, iv x3), (5, iv x5)]) hx hb dX0_outermost_41 hl (by decide) rfl (fun ls hl => ?_)
        refine r_iinc (k := 4) (x := x5) (v := (x5 + 1)) (lv' := [(5, iv (x5 + 1)), (4, iv (if x4 < (gI M a5 (Int32.toNatClampNeg x5)) then (gI M a5 (Int32.toNatClampNeg x5)) else x4)), (0, rv x0), (2, iv x2), (3, iv x3)]) hx hb dX0_outermost_43 hl rfl rfl (by decide) rfl (fun ls hl => ?_)
        refine lv_goto (tgt := 10) hx hb dX0_outermost_46 (by decide) ?_
        exact ih _ _ _ _ _ _ _ _ _ h w (lh_sub hl [2, 3, 4, 1, 0] rfl)
def B_X0_outermost_0 (Q : Int32 → Mm → Prop)  (x0 : Option Nat) (x1 : Int32) (x2 : Int32) (x3 : Int32) (M : Mm) : Prop := (∃ a1, x0 = some a1 ∧ (ar M a1 7 x1 ∧ (∃ n3, B_X0_outermost_10 Q  n3 x0 x2 x3 (gI M a1 (Int32.toNatClampNeg x1)) (x1 + (1 : Int32)) M)))
set_option maxHeartbeats 4000000 in
set_option maxRecDepth 100000 in
theorem k_X0_outermost_0 {p : Program} {l : Launch} {e : Env} {s : State} {m : MethodId} {args : Array Value} {below : List Frame} {meth : Method} {c : Code} {D : va_G} {cy : Nat → ClassId} {A : Nat → Prop} {Q : Int32 → Mm → Prop} (E : Ex p m c cX0_outermost 6 s args RX0 D cy A) (hr : meth.sig.returnType = (some .int)) (hlk : meth.locks = false) : ∀ (x0 : Option Nat) (x1 : Int32) (x2 : Int32) (x3 : Int32) (M : Mm) (H : Heap) (locs : List Loc) (ls : Array Slot), B_X0_outermost_0 Q  x0 x1 x2 x3 M → Wd D cy A s M H locs → lh ls 6 [(0, rv x0), (1, iv x1), (2, iv x2), (3, iv x3)] → W p l e (rmm 1 0 0) s m args below meth c H locs 0 0 (MQ below (va_Qi Q (Po D cy A) A) args s 0 0 A) (F0 m 0 ls []) := by
  obtain ⟨hx, hb, hml, hown, hts⟩ := E.1
  intro x0 x1 x2 x3 M H locs ls h w hl
  unfold B_X0_outermost_0 at h
  refine r_aload_n (x := x0) hx hb dX0_outermost_0 rfl (lh_at hl 0 rfl) ?_
  refine lv_iload_n (x := x1) hx hb dX0_outermost_1 rfl (lh_at hl 1 rfl) ?_
  obtain ⟨a1, ea1, h⟩ := h
  obtain ⟨ha2, h⟩ := h
  refine r_iald E w ea1 ha2 dX0_outermost_2 ?_
  refine r_istore (lv' := [(4, iv (gI M a1 (Int32.toNatClampNeg x1))), (0, rv x0), (1, iv x1), (2, iv x2), (3, iv x3)]) hx hb dX0_outermost_3 hl (by decide) rfl (fun ls hl => ?_)
  refine lv_iload_n (x := x1) hx hb dX0_outermost_5 rfl (lh_at hl 2 rfl) ?_
  refine lv_iconst (v := (1 : Int32)) hx hb dX0_outermost_6 (by decide) ?_
  refine lv_iadd hx hb dX0_outermost_7 ?_
  refine r_istore (lv' := [(5, iv (x1 + (1 : Int32))), (4, iv (gI M a1 (Int32.toNatClampNeg x1))), (0, rv x0), (1, iv x1), (2, iv x2), (3, iv x3)]) hx hb dX0_outermost_8 hl (by decide) rfl (fun ls hl => ?_)
  obtain ⟨n3, h⟩ := h
  exact k_X0_outermost_10 E hr hlk  n3 _ _ _ _ _ _ _ _ _ h w (lh_sub hl [2, 4, 5, 1, 0] rfl)
theorem K_X0_outermost {l : Launch} {Q : Int32 → Mm → Prop} {x0 : Option Nat} {x1 : Int32} {x2 : Int32} {x3 : Int32} {M : Mm} (h : B_X0_outermost_0 Q x0 x1 x2 x3 M) : KI l yX0_outermost cdX0_outermost (rmm 1 0 0) [rv x0, iv x1, iv x2, iv x3] M Q :=
  KI_of (by decide) rfl (Nat.le_of_ble_eq_true rfl) (fun p e s m args below meth c D cy A ls E hr hlk hn w hl => k_X0_outermost_0 E hr hlk _ _ _ _ _ _ _ _ h w hl)
def B_X0_clear_10 (Q : Mm → Prop) (K2 : Nat → Int32 → Int32 → Int32 → Mm → Prop) : Nat → Nat → Int32 → Int32 → Int32 → Int32 → Mm → Prop
  | 0, _, _, _, _, _, _ => False
  | n + 1, h0, x1, x2, x3, x4, M => ((x2 < x4 → K2 h0 x1 x2 (x3 + 1) M) ∧ (¬ x2 < x4 → (ok M h0 0 ∧ (∃ a3, (gR M h0 0) = some a3 ∧ (ar M a3 7 ((x3 * (781 : Int32)) + x4) ∧ (∀ M5, M5 = pI M a3 (Int32.toNatClampNeg ((x3 * (781 : Int32)) + x4)) (0 : Int32) → B_X0_clear_10 Q K2 n h0 x1 x2 x3 (x4 + 1) M5))))))
set_option maxHeartbeats 4000000 in
set_option maxRecDepth 100000 in
theorem k_X0_clear_10 {p : Program} {l : Launch} {e : Env} {s : State} {m : MethodId} {args : Array Value} {below : List Frame} {meth : Method} {c : Code} {D : va_G} {cy : Nat → ClassId} {A : Nat → Prop} {Q : Mm → Prop} (E : Ex p m c cX0_clear 5 s args RX0 D cy A) (hr : meth.sig.returnType = none) (hlk : meth.locks = false) {K2 : Nat → Int32 → Int32 → Int32 → Mm → Prop} (hK2 : ∀ (h0 : Nat) (x1 : Int32) (x2 : Int32) (x3 : Int32) (M : Mm) (H : Heap) (locs : List Loc) (ls : Array Slot), K2 h0 x1 x2 x3 M → Wd D cy A s M H locs → lh ls 5 [(0, rv (some h0)), (1, iv x1), (2, iv x2), (3, iv x3)] → W p l e (rmm 0 0 0) s m args below meth c H locs 0 0 (MQ below (va_Qv Q (Po D cy A) A) args s 0 0 A) (F0 m 2 ls [])) : ∀ (n : Nat), ∀ (h0 : Nat) (x1 : Int32) (x2 : Int32) (x3 : Int32) (x4 : Int32) (M : Mm) (H : Heap) (locs : List Loc) (ls : Array Slot), B_X0_clear_10 Q K2 n h0 x1 x2 x3 x4 M → Wd D cy A s M H locs → lh ls 5 [(0, rv (some h0)), (1, iv x1), (2, iv x2), (3, iv x3), (4, iv x4)] → W p l e (rmm 0 0 0) s m args below meth c H locs 0 0 (MQ below (va_Qv Q (Po D cy A) A) args s 0 0 A) (F0 m 10 ls []) := by
  obtain ⟨hx, hb, hml, hown, hts⟩ := E.1
  intro n
  induction n with
  | zero => intro h0 x1 x2 x3 x4 M H locs ls h; exact False.elim h
  | succ n ih =>
    intro h0 x1 x2 x3 x4 M H locs ls h w hl
    unfold B_X0_clear_10 at h
    refine lv_iload (x := x4) hx hb dX0_clear_10 (lh_at hl 4 rfl) ?_
    refine lv_iload_n (x := x2) hx hb dX0_clear_12 rfl (lh_at hl 2 rfl) ?_
    refine lv_icmp_gt (tgt := 36) hx hb dX0_clear_13 (by decide) (fun c1 => ?_) (fun c1 => ?_)
    · have h := h.1 c1
      refine r_iinc (k := 3) (x := x3) (v := (x3 + 1)) (lv' := [(3, iv (x3 + 1)), (0, rv (some h0)), (1, iv x1), (2, iv x2), (4, iv x4)]) hx hb dX0_clear_36 hl rfl rfl (by decide) rfl (fun ls hl => ?_)
      refine lv_goto (tgt := 2) hx hb dX0_clear_39 (by decide) ?_
      exact hK2 _ _ _ _ _ _ _ _ h w (lh_sub hl [1, 2, 3, 0] rfl)
    · have h := h.2 c1
      refine r_aload_n (x := (some h0)) hx hb dX0_clear_16 rfl (lh_at hl 0 rfl) ?_
      obtain ⟨ho2, h⟩ := h
      refine r_getR E w rfl ho2 cl_X0 0 rfl fl_X0_9 dX0_clear_17 ?_
      refine lv_iload_n (x := x3) hx hb dX0_clear_20 rfl (lh_at hl 3 rfl) ?_
      refine lv_sipush (v := (781 : Int32)) hx hb dX0_clear_21 (by decide) ?_
      refine lv_imul hx hb dX0_clear_24 ?_
      refine lv_iload (x := x4) hx hb dX0_clear_25 (lh_at hl 4 rfl) ?_
      refine lv_iadd hx hb dX0_clear_27 ?_
      refine lv_iconst (v := (0 : Int32)) hx hb dX0_clear_28 (by decide) ?_
      obtain ⟨a3, ea3, h⟩ := h
      obtain ⟨ha4, h⟩ := h
      refine r_iast (v := (0 : Int32)) E w ea3 ha4 dX0_clear_29 (fun H locs w => ?_)
      obtain ⟨M5, eM5⟩ : ∃ z, z = pI M a3 (Int32.toNatClampNeg ((x3 * (781 : Int32)) + x4)) (0 : Int32) := ⟨_, rfl⟩
      rw [← eM5] at w
      have h := h M5 eM5
      refine r_iinc (k := 4) (x := x4) (v := (x4 + 1)) (lv' := [(4, iv (x4 + 1)), (0, rv (some h0)), (1, iv x1), (2, iv x2), (3, iv x3)]) hx hb dX0_clear_30 hl rfl rfl (by decide) rfl (fun ls hl => ?_)
      refine lv_goto (tgt := 10) hx hb dX0_clear_33 (by decide) ?_
      exact ih _ _ _ _ _ _ _ _ _ h w (lh_sub hl [1, 2, 3, 4, 0] rfl)
def B_X0_clear_2 (Q : Mm → Prop)  : Nat → Nat → Int32 → Int32 → Int32 → Mm → Prop
  | 0, _, _, _, _, _ => False
  | n + 1, h0, x1, x2, x3, M => ((x1 < x3 → (ok M h0 0 ∧ (∃ a3, (gR M h0 0) = some a3 ∧ (ar M a3 7 (0 : Int32) ∧ (∀ M5, M5 = pI M a3 (Int32.toNatClampNeg (0 : Int32)) (1 : Int32) → Q M5))))) ∧ (¬ x1 < x3 → (∃ n6, B_X0_clear_10 Q (fun y0 y1 y2 y3 My => B_X0_clear_2 Q n y0 y1 y2 y3 My) n6 h0 x1 x2 x3 (0 : Int32) M)))
set_option maxHeartbeats 4000000 in
set_option maxRecDepth 100000 in
theorem k_X0_clear_2 {p : Program} {l : Launch} {e : Env} {s : State} {m : MethodId} {args : Array Value} {below : List Frame} {meth : Method} {c : Code} {D : va_G} {cy : Nat → ClassId} {A : Nat → Prop} {Q : Mm → Prop} (E : Ex p m c cX0_clear 5 s args RX0 D cy A) (hr : meth.sig.returnType = none) (hlk : meth.locks = false) : ∀ (n : Nat), ∀ (h0 : Nat) (x1 : Int32) (x2 : Int32) (x3 : Int32) (M : Mm) (H : Heap) (locs : List Loc) (ls : Array Slot), B_X0_clear_2 Q  n h0 x1 x2 x3 M → Wd D cy A s M H locs → lh ls 5 [(0, rv (some h0)), (1, iv x1), (2, iv x2), (3, iv x3)] → W p l e (rmm 0 0 0) s m args below meth c H locs 0 0 (MQ below (va_Qv Q (Po D cy A) A) args s 0 0 A) (F0 m 2 ls []) := by
  obtain ⟨hx, hb, hml, hown, hts⟩ := E.1
  intro n
  induction n with
  | zero => intro h0 x1 x2 x3 M H locs ls h; exact False.elim h
  | succ n ih =>
    intro h0 x1 x2 x3 M H locs ls h w hl
    unfold B_X0_clear_2 at h
    refine lv_iload_n (x := x3) hx hb dX0_clear_2 rfl (lh_at hl 3 rfl) ?_
    refine lv_iload_n (x := x1) hx hb dX0_clear_3 rfl (lh_at hl 1 rfl) ?_
    refine lv_icmp_gt (tgt := 42) hx hb dX0_clear_4 (by decide) (fun c1 => ?_) (fun c1 => ?_)
    · have h := h.1 c1
      refine r_aload_n (x := (some h0)) hx hb dX0_clear_42 rfl (lh_at hl 0 rfl) ?_
      obtain ⟨ho2, h⟩ := h
      refine r_getR E w rfl ho2 cl_X0 0 rfl fl_X0_9 dX0_clear_43 ?_
      refine lv_iconst (v := (0 : Int32)) hx hb dX0_clear_46 (by decide) ?_
      refine lv_iconst (v := (1 : Int32)) hx hb dX0_clear_47 (by decide) ?_
      obtain ⟨a3, ea3, h⟩ := h
      obtain ⟨ha4, h⟩ := h
      refine r_iast (v := (1 : Int32)) E w ea3 ha4 dX0_clear_48 (fun H locs w => ?_)
      obtain ⟨M5, eM5⟩ : ∃ z, z = pI M a3 (Int32.toNatClampNeg (0 : Int32)) (1 : Int32) := ⟨_, rfl⟩
      rw [← eM5] at w
      have h := h M5 eM5
      exact r_vret E w hr hlk h (Nat.le_refl 0) (Nat.le_refl 0) dX0_clear_49
    · have h := h.2 c1
      refine lv_iconst (v := (0 : Int32)) hx hb dX0_clear_7 (by decide) ?_
      refine r_istore (lv' := [(4, iv (0 : Int32)), (0, rv (some h0)), (1, iv x1), (2, iv x2), (3, iv x3)]) hx hb dX0_clear_8 hl (by decide) rfl (fun ls hl => ?_)
      obtain ⟨n6, h⟩ := h
      exact k_X0_clear_10 E hr hlk ih n6 _ _ _ _ _ _ _ _ _ h w (lh_sub hl [1, 2, 3, 4, 0] rfl)
def B_X0_clear_0 (Q : Mm → Prop)  (h0 : Nat) (x1 : Int32) (x2 : Int32) (M : Mm) : Prop := (∃ n1, B_X0_clear_2 Q  n1 h0 x1 x2 (0 : Int32) M)
set_option maxHeartbeats 4000000 in
set_option maxRecDepth 100000 in
theorem k_X0_clear_0 {p : Program} {l : Launch} {e : Env} {s : State} {m : MethodId} {args : Array Value} {below : List Frame} {meth : Method} {c : Code} {D : va_G} {cy : Nat → ClassId} {A : Nat → Prop} {Q : Mm → Prop} (E : Ex p m c cX0_clear 5 s args RX0 D cy A) (hr : meth.sig.returnType = none) (hlk : meth.locks = false) : ∀ (h0 : Nat) (x1 : Int32) (x2 : Int32) (M : Mm) (H : Heap) (locs : List Loc) (ls : Array Slot), B_X0_clear_0 Q  h0 x1 x2 M → Wd D cy A s M H locs → lh ls 5 [(0, rv (some h0)), (1, iv x1), (2, iv x2)] → W p l e (rmm 0 0 0) s m args below meth c H locs 0 0 (MQ below (va_Qv Q (Po D cy A) A) args s 0 0 A) (F0 m 0 ls []) := by
  obtain ⟨hx, hb, hml, hown, hts⟩ := E.1
  intro h0 x1 x2 M H locs ls h w hl
  unfold B_X0_clear_0 at h
  refine lv_iconst (v := (0 : Int32)) hx hb dX0_clear_0 (by decide) ?_
  refine r_istore_n (lv' := [(3, iv (0 : Int32)), (0, rv (some h0)), (1, iv x1), (2, iv x2)]) hx hb dX0_clear_1 rfl hl (by decide) rfl (fun ls hl => ?_)
  obtain ⟨n1, h⟩ := h
  exact k_X0_clear_2 E hr hlk  n1 _ _ _ _ _ _ _ _ h w (lh_sub hl [1, 2, 3, 0] rfl)
theorem K_X0_clear {l : Launch} {Q : Mm → Prop} {h0 : Nat} {x1 : Int32} {x2 : Int32} {M : Mm} (h : B_X0_clear_0 Q h0 x1 x2 M) : KV l yX0_clear cdX0_clear (rmm 0 0 0) [rv (some h0), iv x1, iv x2] M Q :=
  KV_of (by decide) rfl (Nat.le_of_ble_eq_true rfl) (fun p e s m args below meth c D cy A ls E hr hlk hn w hl => k_X0_clear_0 E hr hlk _ _ _ _ _ _ _ h w hl)
def B_X0_addOne_29 (Q : Mm → Prop) (K3 : Nat → Int32 → Int32 → Int32 → Mm → Prop) : Nat → Nat → Int32 → Int32 → Int32 → Int32 → Int32 → Int32 → Mm → Prop
  | 0, _, _, _, _, _, _, _, _ => False
  | n + 1, h0, x1, x3, x4, x5, x6, x7, M => ((x3 < x7 → K3 h0 x1 x3 (x4 + (-1)) M) ∧ (¬ x3 < x7 → (ok M h0 0 ∧ (∃ a3, (gR M h0 0) = some a3 ∧ (ar M a3 7 (x5 + x7) ∧ (ar M a3 7 (x6 + x7) ∧ (ar M a3 7 (x5 + x7) ∧ (∀ M7, M7 = pI M a3 (Int32.toNatClampNeg (x5 + x7)) ((gI M a3 (Int32.toNatClampNeg (x5 + x7))) + (gI M a3 (Int32.toNatClampNeg (x6 + x7)))) → B_X0_addOne_29 Q K3 n h0 x1 x3 x4 x5 x6 (x7 + 1) M7))))))))
set_option maxHeartbeats 4000000 in
set_option maxRecDepth 100000 in
theorem k_X0_addOne_29 {p : Program} {l : Launch} {e : Env} {s : State} {m : MethodId} {args : Array Value} {below : List Frame} {meth : Method} {c : Code} {D : va_G} {cy : Nat → ClassId} {A : Nat → Prop} {Q : Mm → Prop} (E : Ex p m c cX0_addOne 8 s args RX0 D cy A) (hr : meth.sig.returnType = none) (hlk : meth.locks = false) {K3 : Nat → Int32 → Int32 → Int32 → Mm → Prop} (hK3 : ∀ (h0 : Nat) (x1 : Int32) (x3 : Int32) (x4 : Int32) (M : Mm) (H : Heap) (locs : List Loc) (ls : Array Slot), K3 h0 x1 x3 x4 M → Wd D cy A s M H locs → lh ls 8 [(0, rv (some h0)), (1, iv x1), (3, iv x3), (4, iv x4)] → W p l e (rmm 0 0 0) s m args below meth c H locs 0 0 (MQ below (va_Qv Q (Po D cy A) A) args s 0 0 A) (F0 m 3 ls [])) : ∀ (n : Nat), ∀ (h0 : Nat) (x1 : Int32) (x3 : Int32) (x4 : Int32) (x5 : Int32) (x6 : Int32) (x7 : Int32) (M : Mm) (H : Heap) (locs : List Loc) (ls : Array Slot), B_X0_addOne_29 Q K3 n h0 x1 x3 x4 x5 x6 x7 M → Wd D cy A s M H locs → lh ls 8 [(0, rv (some h0)), (1, iv x1), (3, iv x3), (4, iv x4), (5, iv x5), (6, iv x6), (7, iv x7)] → W p l e (rmm 0 0 0) s m args below meth c H locs 0 0 (MQ below (va_Qv Q (Po D cy A) A) args s 0 0 A) (F0 m 29 ls []) := by
  obtain ⟨hx, hb, hml, hown, hts⟩ := E.1
  intro n
  induction n with
  | zero => intro h0 x1 x3 x4 x5 x6 x7 M H locs ls h; exact False.elim h
  | succ n ih =>
    intro h0 x1 x3 x4 x5 x6 x7 M H locs ls h w hl
    unfold B_X0_addOne_29 at h
    refine lv_iload (x := x7) hx hb dX0_addOne_29 (lh_at hl 6 rfl) ?_
    refine lv_iload_n (x := x3) hx hb dX0_addOne_31 rfl (lh_at hl 2 rfl) ?_
    refine lv_icmp_gt (tgt := 64) hx hb dX0_addOne_32 (by decide) (fun c1 => ?_) (fun c1 => ?_)
    · have h := h.1 c1
      refine r_iinc (k := 3) (x := x4) (v := (x4 + (-1))) (lv' := [(4, iv (x4 + (-1))), (0, rv (some h0)), (1, iv x1), (3, iv x3), (5, iv x5), (6, iv x6), (7, iv x7)]) hx hb dX0_addOne_64 hl rfl rfl (by decide) rfl (fun ls hl => ?_)
      refine lv_goto (tgt := 3) hx hb dX0_addOne_67 (by decide) ?_
      exact hK3 _ _ _ _ _ _ _ _ h w (lh_sub hl [1, 2, 3, 0] rfl)
    · have h := h.2 c1
      refine r_aload_n (x := (some h0)) hx hb dX0_addOne_35 rfl (lh_at hl 0 rfl) ?_
      obtain ⟨ho2, h⟩ := h
      refine r_getR E w rfl ho2 cl_X0 0 rfl fl_X0_9 dX0_addOne_36 ?_
      refine lv_iload (x := x5) hx hb dX0_addOne_39 (lh_at hl 4 rfl) ?_
      refine lv_iload (x := x7) hx hb dX0_addOne_41 (lh_at hl 6 rfl) ?_
      refine lv_iadd hx hb dX0_addOne_43 ?_
      refine r_dup2r hx hb dX0_addOne_44 ?_
      obtain ⟨a3, ea3, h⟩ := h
      obtain ⟨ha4, h⟩ := h
      refine r_iald E w ea3 ha4 dX0_addOne_45 ?_
      refine r_aload_n (x := (some h0)) hx hb dX0_addOne_46 rfl (lh_at hl 0 rfl) ?_
      refine r_getR E w rfl ho2 cl_X0 0 rfl fl_X0_9 dX0_addOne_47 ?_
      refine lv_iload (x := x6) hx hb dX0_addOne_50 (lh_at hl 5 rfl) ?_
      refine lv_iload (x := x7) hx hb dX0_addOne_52 (lh_at hl 6 rfl) ?_
      refine lv_iadd hx hb dX0_addOne_54 ?_
      obtain ⟨ha5, h⟩ := h
      refine r_iald E w ea3 ha5 dX0_addOne_55 ?_
      refine lv_iadd hx hb dX0_addOne_56 ?_
      obtain ⟨ha6, h⟩ := h
      refine r_iast (v := ((gI M a3 (Int32.toNatClampNeg (x5 + x7))) + (gI M a3 (Int32.toNatClampNeg (x6 + x7))))) E w ea3 ha6 dX0_addOne_57 (fun H locs w => ?_)
      obtain ⟨M7, eM7⟩ : ∃ z, z = pI M a3 (Int32.toNatClampNeg (x5 + x7)) ((gI M a3 (Int32.toNatClampNeg (x5 + x7))) + (gI M a3 (Int32.toNatClampNeg (x6 + x7)))) := ⟨_, rfl⟩
      rw [← eM7] at w
      have h := h M7 eM7
      refine r_iinc (k := 6) (x := x7) (v := (x7 + 1)) (lv' := [(7, iv (x7 + 1)), (0, rv (some h0)), (1, iv x1), (3, iv x3), (4, iv x4), (5, iv x5), (6, iv x6)]) hx hb dX0_addOne_58 hl rfl rfl (by decide) rfl (fun ls hl => ?_)
      refine lv_goto (tgt := 29) hx hb dX0_addOne_61 (by decide) ?_
      exact ih _ _ _ _ _ _ _ _ _ _ _ h w (lh_sub hl [1, 2, 3, 4, 5, 6, 0] rfl)
def B_X0_addOne_3 (Q : Mm → Prop)  : Nat → Nat → Int32 → Int32 → Int32 → Mm → Prop
  | 0, _, _, _, _, _ => False
  | n + 1, h0, x1, x3, x4, M => ((x4 ≤ 0 → Q M) ∧ (¬ x4 ≤ 0 → (∃ n2, B_X0_addOne_29 Q (fun y0 y1 y2 y3 My => B_X0_addOne_3 Q n y0 y1 y2 y3 My) n2 h0 x1 x3 x4 (x4 * (781 : Int32)) (((x4 * (781 : Int32)) - (781 : Int32)) - x1) x1 M)))
set_option maxHeartbeats 4000000 in
set_option maxRecDepth 100000 in
theorem k_X0_addOne_3 {p : Program} {l : Launch} {e : Env} {s : State} {m : MethodId} {args : Array Value} {below : List Frame} {meth : Method} {c : Code} {D : va_G} {cy : Nat → ClassId} {A : Nat → Prop} {Q : Mm → Prop} (E : Ex p m c cX0_addOne 8 s args RX0 D cy A) (hr : meth.sig.returnType = none) (hlk : meth.locks = false) : ∀ (n : Nat), ∀ (h0 : Nat) (x1 : Int32) (x3 : Int32) (x4 : Int32) (M : Mm) (H : Heap) (locs : List Loc) (ls : Array Slot), B_X0_addOne_3 Q  n h0 x1 x3 x4 M → Wd D cy A s M H locs → lh ls 8 [(0, rv (some h0)), (1, iv x1), (3, iv x3), (4, iv x4)] → W p l e (rmm 0 0 0) s m args below meth c H locs 0 0 (MQ below (va_Qv Q (Po D cy A) A) args s 0 0 A) (F0 m 3 ls []) := by
  obtain ⟨hx, hb, hml, hown, hts⟩ := E.1
  intro n
  induction n with
  | zero => intro h0 x1 x3 x4 M H locs ls h; exact False.elim h
  | succ n ih =>
    intro h0 x1 x3 x4 M H locs ls h w hl
    unfold B_X0_addOne_3 at h
    refine lv_iload (x := x4) hx hb dX0_addOne_3 (lh_at hl 3 rfl) ?_
    refine lv_if_le (tgt := 70) hx hb dX0_addOne_5 (by decide) (fun c1 => ?_) (fun c1 => ?_)
    · have h := h.1 c1
      exact r_vret E w hr hlk h (Nat.le_refl 0) (Nat.le_refl 0) dX0_addOne_70
    · have h := h.2 c1
      refine lv_iload (x := x4) hx hb dX0_addOne_8 (lh_at hl 3 rfl) ?_
      refine lv_sipush (v := (781 : Int32)) hx hb dX0_addOne_10 (by decide) ?_
      refine lv_imul hx hb dX0_addOne_13 ?_
      refine r_istore (lv' := [(5, iv (x4 * (781 : Int32))), (0, rv (some h0)), (1, iv x1), (3, iv x3), (4, iv x4)]) hx hb dX0_addOne_14 hl (by decide) rfl (fun ls hl => ?_)
      refine lv_iload (x := (x4 * (781 : Int32))) hx hb dX0_addOne_16 (lh_at hl 0 rfl) ?_
      refine lv_sipush (v := (781 : Int32)) hx hb dX0_addOne_18 (by decide) ?_
      refine lv_isub hx hb dX0_addOne_21 ?_
      refine lv_iload_n (x := x1) hx hb dX0_addOne_22 rfl (lh_at hl 2 rfl) ?_
      refine lv_isub hx hb dX0_addOne_23 ?_
      refine r_istore (lv' := [(6, iv (((x4 * (781 : Int32)) - (781 : Int32)) - x1)), (5, iv (x4 * (781 : Int32))), (0, rv (some h0)), (1, iv x1), (3, iv x3), (4, iv x4)]) hx hb dX0_addOne_24 hl (by decide) rfl (fun ls hl => ?_)
      refine lv_iload_n (x := x1) hx hb dX0_addOne_26 rfl (lh_at hl 3 rfl) ?_
      refine r_istore (lv' := [(7, iv x1), (6, iv (((x4 * (781 : Int32)) - (781 : Int32)) - x1)), (5, iv (x4 * (781 : Int32))), (0, rv (some h0)), (1, iv x1), (3, iv x3), (4, iv x4)]) hx hb dX0_addOne_27 hl (by decide) rfl (fun ls hl => ?_)
      obtain ⟨n2, h⟩ := h
      exact k_X0_addOne_29 E hr hlk ih n2 _ _ _ _ _ _ _ _ _ _ _ h w (lh_sub hl [3, 4, 5, 6, 2, 1, 0] rfl)
def B_X0_addOne_0 (Q : Mm → Prop)  (h0 : Nat) (x1 : Int32) (x2 : Int32) (x3 : Int32) (M : Mm) : Prop := (∃ n1, B_X0_addOne_3 Q  n1 h0 x1 x3 x2 M)
set_option maxHeartbeats 4000000 in
set_option maxRecDepth 100000 in
theorem k_X0_addOne_0 {p : Program} {l : Launch} {e : Env} {s : State} {m : MethodId} {args : Array Value} {below : List Frame} {meth : Method} {c : Code} {D : va_G} {cy : Nat → ClassId} {A : Nat → Prop} {Q : Mm → Prop} (E : Ex p m c cX0_addOne 8 s args RX0 D cy A) (hr : meth.sig.returnType = none) (hlk : meth.locks = false) : ∀ (h0 : Nat) (x1 : Int32) (x2 : Int32) (x3 : Int32) (M : Mm) (H : Heap) (locs : List Loc) (ls : Array Slot), B_X0_addOne_0 Q  h0 x1 x2 x3 M → Wd D cy A s M H locs → lh ls 8 [(0, rv (some h0)), (1, iv x1), (2, iv x2), (3, iv x3)] → W p l e (rmm 0 0 0) s m args below meth c H locs 0 0 (MQ below (va_Qv Q (Po D cy A) A) args s 0 0 A) (F0 m 0 ls []) := by
  obtain ⟨hx, hb, hml, hown, hts⟩ := E.1
  intro h0 x1 x2 x3 M H locs ls h w hl
  unfold B_X0_addOne_0 at h
  refine lv_iload_n (x := x2) hx hb dX0_addOne_0 rfl (lh_at hl 2 rfl) ?_
  refine r_istore (lv' := [(4, iv x2), (0, rv (some h0)), (1, iv x1), (2, iv x2), (3, iv x3)]) hx hb dX0_addOne_1 hl (by decide) rfl (fun ls hl => ?_)
  obtain ⟨n1, h⟩ := h
  exact k_X0_addOne_3 E hr hlk  n1 _ _ _ _ _ _ _ _ h w (lh_sub hl [1, 2, 4, 0] rfl)
theorem K_X0_addOne {l : Launch} {Q : Mm → Prop} {h0 : Nat} {x1 : Int32} {x2 : Int32} {x3 : Int32} {M : Mm} (h : B_X0_addOne_0 Q h0 x1 x2 x3 M) : KV l yX0_addOne cdX0_addOne (rmm 0 0 0) [rv (some h0), iv x1, iv x2, iv x3] M Q :=
  KV_of (by decide) rfl (Nat.le_of_ble_eq_true rfl) (fun p e s m args below meth c D cy A ls E hr hlk hn w hl => k_X0_addOne_0 E hr hlk _ _ _ _ _ _ _ _ h w hl)
def B_X0_countUpTo_56 (Q : Int32 → Mm → Prop)  : Nat → Nat → Int32 → Int32 → Int32 → Int32 → Mm → Prop
  | 0, _, _, _, _, _, _ => False
  | n + 1, h0, x5, x6, x7, x8, M => ((x6 < x8 → Q x7 M) ∧ (¬ x6 < x8 → (ok M h0 0 ∧ (∃ a3, (gR M h0 0) = some a3 ∧ (ar M a3 7 ((x5 * (781 : Int32)) + x8) ∧ B_X0_countUpTo_56 Q  n h0 x5 x6 (x7 + (gI M a3 (Int32.toNatClampNeg ((x5 * (781 : Int32)) + x8)))) (x8 + 1) M)))))
set_option maxHeartbeats 4000000 in
set_option maxRecDepth 100000 in
theorem k_X0_countUpTo_56 {p : Program} {l : Launch} {e : Env} {s : State} {m : MethodId} {args : Array Value} {below : List Frame} {meth : Method} {c : Code} {D : va_G} {cy : Nat → ClassId} {A : Nat → Prop} {Q : Int32 → Mm → Prop} (E : Ex p m c cX0_countUpTo 9 s args RX0 D cy A) (hr : meth.sig.returnType = (some .int)) (hlk : meth.locks = false) : ∀ (n : Nat), ∀ (h0 : Nat) (x5 : Int32) (x6 : Int32) (x7 : Int32) (x8 : Int32) (M : Mm) (H : Heap) (locs : List Loc) (ls : Array Slot), B_X0_countUpTo_56 Q  n h0 x5 x6 x7 x8 M → Wd D cy A s M H locs → lh ls 9 [(0, rv (some h0)), (5, iv x5), (6, iv x6), (7, iv x7), (8, iv x8)] → W p l e (rmm 1 0 0) s m args below meth c H locs 0 0 (MQ below (va_Qi Q (Po D cy A) A) args s 0 0 A) (F0 m 56 ls []) := by
  obtain ⟨hx, hb, hml, hown, hts⟩ := E.1
  intro n
  induction n with
  | zero => intro h0 x5 x6 x7 x8 M H locs ls h; exact False.elim h
  | succ n ih =>
    intro h0 x5 x6 x7 x8 M H locs ls h w hl
    unfold B_X0_countUpTo_56 at h
    refine lv_iload (x := x8) hx hb dX0_countUpTo_56 (lh_at hl 4 rfl) ?_
    refine lv_iload (x := x6) hx hb dX0_countUpTo_58 (lh_at hl 2 rfl) ?_
    refine lv_icmp_gt (tgt := 88) hx hb dX0_countUpTo_60 (by decide) (fun c1 => ?_) (fun c1 => ?_)
    · have h := h.1 c1
      refine lv_iload (x := x7) hx hb dX0_countUpTo_88 (lh_at hl 3 rfl) ?_
      exact r_iret E w hr hlk h (Nat.le_refl 0) (Nat.le_refl 0) dX0_countUpTo_90
    · have h := h.2 c1
      refine lv_iload (x := x7) hx hb dX0_countUpTo_63 (lh_at hl 3 rfl) ?_
      refine r_aload_n (x := (some h0)) hx hb dX0_countUpTo_65 rfl (lh_at hl 0 rfl) ?_
      obtain ⟨ho2, h⟩ := h
      refine r_getR E w rfl ho2 cl_X0 0 rfl fl_X0_9 dX0_countUpTo_66 ?_
      refine lv_iload (x := x5) hx hb dX0_countUpTo_69 (lh_at hl 1 rfl) ?_
      refine lv_sipush (v := (781 : Int32)) hx hb dX0_countUpTo_71 (by decide) ?_
      refine lv_imul hx hb dX0_countUpTo_74 ?_
      refine lv_iload (x := x8) hx hb dX0_countUpTo_75 (lh_at hl 4 rfl) ?_
      refine lv_iadd hx hb dX0_countUpTo_77 ?_
      obtain ⟨a3, ea3, h⟩ := h
      obtain ⟨ha4, h⟩ := h
      refine r_iald E w ea3 ha4 dX0_countUpTo_78 ?_
      refine lv_iadd hx hb dX0_countUpTo_79 ?_
      refine r_istore (lv' := [(7, iv (x7 + (gI M a3 (Int32.toNatClampNeg ((x5 * (781 : Int32)) + x8))))), (0, rv (some h0)), (5, iv x5), (6, iv x6), (8, iv x8)]) hx hb dX0_countUpTo_80 hl (by decide) rfl (fun ls hl => ?_)
      refine r_iinc (k := 4) (x := x8) (v := (x8 + 1)) (lv' := [(8, iv (x8 + 1)), (7, iv (x7 + (gI M a3 (Int32.toNatClampNeg ((x5 * (781 : Int32)) + x8))))), (0, rv (some h0)), (5, iv x5), (6, iv x6)]) hx hb dX0_countUpTo_82 hl rfl rfl (by decide) rfl (fun ls hl => ?_)
      refine lv_goto (tgt := 56) hx hb dX0_countUpTo_85 (by decide) ?_
      exact ih _ _ _ _ _ _ _ _ _ h w (lh_sub hl [2, 3, 4, 1, 0] rfl)
def B_X0_countUpTo_11 (Q : Int32 → Mm → Prop)  : Nat → Nat → Option Nat → Int32 → Int32 → Int32 → Int32 → Int32 → Int32 → Mm → Prop
  | 0, _, _, _, _, _, _, _, _, _ => False
  | n + 1, h0, x1, x2, x3, x4, x5, x6, x7, M => ((x3 ≤ x7 → (∃ n2, B_X0_countUpTo_56 Q  n2 h0 x5 x6 (0 : Int32) (0 : Int32) M)) ∧ (¬ x3 ≤ x7 → (∃ a3, x1 = some a3 ∧ (ar M a3 7 x7 ∧ (ok M h0 0 ∧ (B_X0_addOne_0 (fun  M6 => B_X0_countUpTo_11 Q  n h0 x1 x2 x3 x4 x5 x6 (x7 + 1) M6) h0 (if 0 ≤ (x4 - (gI M a3 (Int32.toNatClampNeg x7))) then (x4 - (gI M a3 (Int32.toNatClampNeg x7))) else 0 - (x4 - (gI M a3 (Int32.toNatClampNeg x7)))) (if ((x7 - x2) + (1 : Int32)) < x5 then ((x7 - x2) + (1 : Int32)) else x5) x6 M))))))
set_option maxHeartbeats 4000000 in
set_option maxRecDepth 100000 in
theorem k_X0_countUpTo_11 {p : Program} {l : Launch} {e : Env} {s : State} {m : MethodId} {args : Array Value} {below : List Frame} {meth : Method} {c : Code} {D : va_G} {cy : Nat → ClassId} {A : Nat → Prop} {Q : Int32 → Mm → Prop} (E : Ex p m c cX0_countUpTo 9 s args RX0 D cy A) (hr : meth.sig.returnType = (some .int)) (hlk : meth.locks = false) : ∀ (n : Nat), ∀ (h0 : Nat) (x1 : Option Nat) (x2 : Int32) (x3 : Int32) (x4 : Int32) (x5 : Int32) (x6 : Int32) (x7 : Int32) (M : Mm) (H : Heap) (locs : List Loc) (ls : Array Slot), B_X0_countUpTo_11 Q  n h0 x1 x2 x3 x4 x5 x6 x7 M → Wd D cy A s M H locs → lh ls 9 [(0, rv (some h0)), (1, rv x1), (2, iv x2), (3, iv x3), (4, iv x4), (5, iv x5), (6, iv x6), (7, iv x7)] → W p l e (rmm 1 0 0) s m args below meth c H locs 0 0 (MQ below (va_Qi Q (Po D cy A) A) args s 0 0 A) (F0 m 11 ls []) := by
  obtain ⟨hx, hb, hml, hown, hts⟩ := E.1
  intro n
  induction n with
  | zero => intro h0 x1 x2 x3 x4 x5 x6 x7 M H locs ls h; exact False.elim h
  | succ n ih =>
    intro h0 x1 x2 x3 x4 x5 x6 x7 M H locs ls h w hl
    unfold B_X0_countUpTo_11 at h
    refine lv_iload (x := x7) hx hb dX0_countUpTo_11 (lh_at hl 7 rfl) ?_
    refine lv_iload_n (x := x3) hx hb dX0_countUpTo_13 rfl (lh_at hl 3 rfl) ?_
    refine lv_icmp_ge (tgt := 50) hx hb dX0_countUpTo_14 (by decide) (fun c1 => ?_) (fun c1 => ?_)
    · have h := h.1 c1
      refine lv_iconst (v := (0 : Int32)) hx hb dX0_countUpTo_50 (by decide) ?_
      refine r_istore (lv' := [(7, iv (0 : Int32)), (0, rv (some h0)), (1, rv x1), (2, iv x2), (3, iv x3), (4, iv x4), (5, iv x5), (6, iv x6)]) hx hb dX0_countUpTo_51 hl (by decide) rfl (fun ls hl => ?_)
      refine lv_iconst (v := (0 : Int32)) hx hb dX0_countUpTo_53 (by decide) ?_
      refine r_istore (lv' := [(8, iv (0 : Int32)), (7, iv (0 : Int32)), (0, rv (some h0)), (1, rv x1), (2, iv x2), (3, iv x3), (4, iv x4), (5, iv x5), (6, iv x6)]) hx hb dX0_countUpTo_54 hl (by decide) rfl (fun ls hl => ?_)
      obtain ⟨n2, h⟩ := h
      exact k_X0_countUpTo_56 E hr hlk  n2 _ _ _ _ _ _ _ _ _ h w (lh_sub hl [2, 7, 8, 1, 0] rfl)
    · have h := h.2 c1
      refine r_aload_n (x := (some h0)) hx hb dX0_countUpTo_17 rfl (lh_at hl 0 rfl) ?_
      refine lv_iload (x := x4) hx hb dX0_countUpTo_18 (lh_at hl 4 rfl) ?_
      refine r_aload_n (x := x1) hx hb dX0_countUpTo_20 rfl (lh_at hl 1 rfl) ?_
      refine lv_iload (x := x7) hx hb dX0_countUpTo_21 (lh_at hl 7 rfl) ?_
      obtain ⟨a3, ea3, h⟩ := h
      obtain ⟨ha4, h⟩ := h
      refine r_iald E w ea3 ha4 dX0_countUpTo_23 ?_
      refine lv_isub hx hb dX0_countUpTo_24 ?_
      refine va_mabs hx hb (by rw [hml]; exact hl.1.symm) hown (hts _ ml_X0_33) (hts _ st_math_abs) (hts _ ini_J9) (hts _ cd_math_abs) (Nat.le_of_ble_eq_true rfl) (math_room [rv (some h0)] (Nat.le_of_ble_eq_true rfl)) (Nat.zero_le _) (Nat.zero_le _) dX0_countUpTo_25 ?_
      refine lv_iload (x := x5) hx hb dX0_countUpTo_28 (lh_at hl 5 rfl) ?_
      refine lv_iload (x := x7) hx hb dX0_countUpTo_30 (lh_at hl 7 rfl) ?_
      refine lv_iload_n (x := x2) hx hb dX0_countUpTo_32 rfl (lh_at hl 2 rfl) ?_
      refine lv_isub hx hb dX0_countUpTo_33 ?_
      refine lv_iconst (v := (1 : Int32)) hx hb dX0_countUpTo_34 (by decide) ?_
      refine lv_iadd hx hb dX0_countUpTo_35 ?_
      refine va_mmin hx hb (by rw [hml]; exact hl.1.symm) hown (hts _ ml_X0_55) (hts _ st_math_min) (hts _ ini_J9) (hts _ cd_math_min) (Nat.le_of_ble_eq_true rfl) (math_room [iv (if 0 ≤ (x4 - (gI M a3 (Int32.toNatClampNeg x7))) then (x4 - (gI M a3 (Int32.toNatClampNeg x7))) else 0 - (x4 - (gI M a3 (Int32.toNatClampNeg x7)))), rv (some h0)] (Nat.le_of_ble_eq_true rfl)) (Nat.zero_le _) (Nat.zero_le _) dX0_countUpTo_36 ?_
      refine lv_iload (x := x6) hx hb dX0_countUpTo_39 (lh_at hl 6 rfl) ?_
      obtain ⟨ho5, h⟩ := h
      refine z_callVv E w rfl ho5 cl_X0 yk_X0_addOne ⟨Nat.le_of_ble_eq_true rfl, Nat.le_of_ble_eq_true rfl⟩ ⟨(Nat.zero_le _), (Nat.zero_le _)⟩ rfl ml_X0_62 im_X0_addOne sl_X0_addOne [iv (if 0 ≤ (x4 - (gI M a3 (Int32.toNatClampNeg x7))) then (x4 - (gI M a3 (Int32.toNatClampNeg x7))) else 0 - (x4 - (gI M a3 (Int32.toNatClampNeg x7)))), iv (if ((x7 - x2) + (1 : Int32)) < x5 then ((x7 - x2) + (1 : Int32)) else x5), iv x6] rfl rfl hl [] rfl (Nat.le_of_ble_eq_true rfl) (K_X0_addOne h) dX0_countUpTo_41 (fun  M6 H locs h w => ?_)
      refine r_iinc (k := 7) (x := x7) (v := (x7 + 1)) (lv' := [(7, iv (x7 + 1)), (0, rv (some h0)), (1, rv x1), (2, iv x2), (3, iv x3), (4, iv x4), (5, iv x5), (6, iv x6)]) hx hb dX0_countUpTo_44 hl rfl rfl (by decide) rfl (fun ls hl => ?_)
      refine lv_goto (tgt := 11) hx hb dX0_countUpTo_47 (by decide) ?_
      exact ih _ _ _ _ _ _ _ _ _ _ _ _ h w (lh_sub hl [1, 2, 3, 4, 5, 6, 7, 0] rfl)
def B_X0_countUpTo_0 (Q : Int32 → Mm → Prop)  (h0 : Nat) (x1 : Option Nat) (x2 : Int32) (x3 : Int32) (x4 : Int32) (x5 : Int32) (x6 : Int32) (M : Mm) : Prop := (ok M h0 0 ∧ (B_X0_clear_0 (fun  M2 => (∃ n3, B_X0_countUpTo_11 Q  n3 h0 x1 x2 x3 x4 x5 x6 x2 M2)) h0 x5 x6 M))
set_option maxHeartbeats 4000000 in
set_option maxRecDepth 100000 in
theorem k_X0_countUpTo_0 {p : Program} {l : Launch} {e : Env} {s : State} {m : MethodId} {args : Array Value} {below : List Frame} {meth : Method} {c : Code} {D : va_G} {cy : Nat → ClassId} {A : Nat → Prop} {Q : Int32 → Mm → Prop} (E : Ex p m c cX0_countUpTo 9 s args RX0 D cy A) (hr : meth.sig.returnType = (some .int)) (hlk : meth.locks = false) : ∀ (h0 : Nat) (x1 : Option Nat) (x2 : Int32) (x3 : Int32) (x4 : Int32) (x5 : Int32) (x6 : Int32) (M : Mm) (H : Heap) (locs : List Loc) (ls : Array Slot), B_X0_countUpTo_0 Q  h0 x1 x2 x3 x4 x5 x6 M → Wd D cy A s M H locs → lh ls 9 [(0, rv (some h0)), (1, rv x1), (2, iv x2), (3, iv x3), (4, iv x4), (5, iv x5), (6, iv x6)] → W p l e (rmm 1 0 0) s m args below meth c H locs 0 0 (MQ below (va_Qi Q (Po D cy A) A) args s 0 0 A) (F0 m 0 ls []) := by
  obtain ⟨hx, hb, hml, hown, hts⟩ := E.1
  intro h0 x1 x2 x3 x4 x5 x6 M H locs ls h w hl
  unfold B_X0_countUpTo_0 at h
  refine r_aload_n (x := (some h0)) hx hb dX0_countUpTo_0 rfl (lh_at hl 0 rfl) ?_
  refine lv_iload (x := x5) hx hb dX0_countUpTo_1 (lh_at hl 5 rfl) ?_
  refine lv_iload (x := x6) hx hb dX0_countUpTo_3 (lh_at hl 6 rfl) ?_
  obtain ⟨ho1, h⟩ := h
  refine z_callVv E w rfl ho1 cl_X0 yk_X0_clear ⟨Nat.le_of_ble_eq_true rfl, Nat.le_of_ble_eq_true rfl⟩ ⟨(Nat.zero_le _), (Nat.zero_le _)⟩ rfl ml_X0_58 im_X0_clear sl_X0_clear [iv x5, iv x6] rfl rfl hl [] rfl (Nat.le_of_ble_eq_true rfl) (K_X0_clear h) dX0_countUpTo_5 (fun  M2 H locs h w => ?_)
  refine lv_iload_n (x := x2) hx hb dX0_countUpTo_8 rfl (lh_at hl 2 rfl) ?_
  refine r_istore (lv' := [(7, iv x2), (0, rv (some h0)), (1, rv x1), (2, iv x2), (3, iv x3), (4, iv x4), (5, iv x5), (6, iv x6)]) hx hb dX0_countUpTo_9 hl (by decide) rfl (fun ls hl => ?_)
  obtain ⟨n3, h⟩ := h
  exact k_X0_countUpTo_11 E hr hlk  n3 _ _ _ _ _ _ _ _ _ _ _ _ h w (lh_sub hl [1, 2, 3, 4, 5, 6, 7, 0] rfl)
theorem K_X0_countUpTo {l : Launch} {Q : Int32 → Mm → Prop} {h0 : Nat} {x1 : Option Nat} {x2 : Int32} {x3 : Int32} {x4 : Int32} {x5 : Int32} {x6 : Int32} {M : Mm} (h : B_X0_countUpTo_0 Q h0 x1 x2 x3 x4 x5 x6 M) : KI l yX0_countUpTo cdX0_countUpTo (rmm 1 0 0) [rv (some h0), rv x1, iv x2, iv x3, iv x4, iv x5, iv x6] M Q :=
  KI_of (by decide) rfl (Nat.le_of_ble_eq_true rfl) (fun p e s m args below meth c D cy A ls E hr hlk hn w hl => k_X0_countUpTo_0 E hr hlk _ _ _ _ _ _ _ _ _ _ _ h w hl)
def B_X0_choose_4 (Q : Int32 → Mm → Prop)  : Nat → Int32 → Int32 → Int32 → Int32 → Mm → Prop
  | 0, _, _, _, _, _ => False
  | n + 1, x0, x1, x2, x3, M => ((x1 < x3 → Q x2 M) ∧ (¬ x1 < x3 → (¬ x3 = 0 ∧ B_X0_choose_4 Q  n x0 x1 ((x2 * ((x0 - x1) + x3)) / x3) (x3 + 1) M)))
set_option maxHeartbeats 4000000 in
set_option maxRecDepth 100000 in
theorem k_X0_choose_4 {p : Program} {l : Launch} {e : Env} {s : State} {m : MethodId} {args : Array Value} {below : List Frame} {meth : Method} {c : Code} {D : va_G} {cy : Nat → ClassId} {A : Nat → Prop} {Q : Int32 → Mm → Prop} (E : Ex p m c cX0_choose 4 s args RX0 D cy A) (hr : meth.sig.returnType = (some .int)) (hlk : meth.locks = false) : ∀ (n : Nat), ∀ (x0 : Int32) (x1 : Int32) (x2 : Int32) (x3 : Int32) (M : Mm) (H : Heap) (locs : List Loc) (ls : Array Slot), B_X0_choose_4 Q  n x0 x1 x2 x3 M → Wd D cy A s M H locs → lh ls 4 [(0, iv x0), (1, iv x1), (2, iv x2), (3, iv x3)] → W p l e (rmm 0 0 0) s m args below meth c H locs 0 0 (MQ below (va_Qi Q (Po D cy A) A) args s 0 0 A) (F0 m 4 ls []) := by
  obtain ⟨hx, hb, hml, hown, hts⟩ := E.1
  intro n
  induction n with
  | zero => intro x0 x1 x2 x3 M H locs ls h; exact False.elim h
  | succ n ih =>
    intro x0 x1 x2 x3 M H locs ls h w hl
    unfold B_X0_choose_4 at h
    refine lv_iload_n (x := x3) hx hb dX0_choose_4 rfl (lh_at hl 3 rfl) ?_
    refine lv_iload_n (x := x1) hx hb dX0_choose_5 rfl (lh_at hl 1 rfl) ?_
    refine lv_icmp_gt (tgt := 25) hx hb dX0_choose_6 (by decide) (fun c1 => ?_) (fun c1 => ?_)
    · have h := h.1 c1
      refine lv_iload_n (x := x2) hx hb dX0_choose_25 rfl (lh_at hl 2 rfl) ?_
      exact r_iret E w hr hlk h (Nat.le_refl 0) (Nat.le_refl 0) dX0_choose_26
    · have h := h.2 c1
      refine lv_iload_n (x := x2) hx hb dX0_choose_9 rfl (lh_at hl 2 rfl) ?_
      refine lv_iload_n (x := x0) hx hb dX0_choose_10 rfl (lh_at hl 0 rfl) ?_
      refine lv_iload_n (x := x1) hx hb dX0_choose_11 rfl (lh_at hl 1 rfl) ?_
      refine lv_isub hx hb dX0_choose_12 ?_
      refine lv_iload_n (x := x3) hx hb dX0_choose_13 rfl (lh_at hl 3 rfl) ?_
      refine lv_iadd hx hb dX0_choose_14 ?_
      refine lv_imul hx hb dX0_choose_15 ?_
      refine lv_iload_n (x := x3) hx hb dX0_choose_16 rfl (lh_at hl 3 rfl) ?_
      obtain ⟨hz2, h⟩ := h
      refine lv_idiv hx hb dX0_choose_17 hz2 ?_
      refine r_istore_n (lv' := [(2, iv ((x2 * ((x0 - x1) + x3)) / x3)), (0, iv x0), (1, iv x1), (3, iv x3)]) hx hb dX0_choose_18 rfl hl (by decide) rfl (fun ls hl => ?_)
      refine r_iinc (k := 3) (x := x3) (v := (x3 + 1)) (lv' := [(3, iv (x3 + 1)), (2, iv ((x2 * ((x0 - x1) + x3)) / x3)), (0, iv x0), (1, iv x1)]) hx hb dX0_choose_19 hl rfl rfl (by decide) rfl (fun ls hl => ?_)
      refine lv_goto (tgt := 4) hx hb dX0_choose_22 (by decide) ?_
      exact ih _ _ _ _ _ _ _ _ h w (lh_sub hl [2, 3, 1, 0] rfl)
def B_X0_choose_0 (Q : Int32 → Mm → Prop)  (x0 : Int32) (x1 : Int32) (M : Mm) : Prop := (∃ n1, B_X0_choose_4 Q  n1 x0 x1 (1 : Int32) (1 : Int32) M)
set_option maxHeartbeats 4000000 in
set_option maxRecDepth 100000 in
theorem k_X0_choose_0 {p : Program} {l : Launch} {e : Env} {s : State} {m : MethodId} {args : Array Value} {below : List Frame} {meth : Method} {c : Code} {D : va_G} {cy : Nat → ClassId} {A : Nat → Prop} {Q : Int32 → Mm → Prop} (E : Ex p m c cX0_choose 4 s args RX0 D cy A) (hr : meth.sig.returnType = (some .int)) (hlk : meth.locks = false) : ∀ (x0 : Int32) (x1 : Int32) (M : Mm) (H : Heap) (locs : List Loc) (ls : Array Slot), B_X0_choose_0 Q  x0 x1 M → Wd D cy A s M H locs → lh ls 4 [(0, iv x0), (1, iv x1)] → W p l e (rmm 0 0 0) s m args below meth c H locs 0 0 (MQ below (va_Qi Q (Po D cy A) A) args s 0 0 A) (F0 m 0 ls []) := by
  obtain ⟨hx, hb, hml, hown, hts⟩ := E.1
  intro x0 x1 M H locs ls h w hl
  unfold B_X0_choose_0 at h
  refine lv_iconst (v := (1 : Int32)) hx hb dX0_choose_0 (by decide) ?_
  refine r_istore_n (lv' := [(2, iv (1 : Int32)), (0, iv x0), (1, iv x1)]) hx hb dX0_choose_1 rfl hl (by decide) rfl (fun ls hl => ?_)
  refine lv_iconst (v := (1 : Int32)) hx hb dX0_choose_2 (by decide) ?_
  refine r_istore_n (lv' := [(3, iv (1 : Int32)), (2, iv (1 : Int32)), (0, iv x0), (1, iv x1)]) hx hb dX0_choose_3 rfl hl (by decide) rfl (fun ls hl => ?_)
  obtain ⟨n1, h⟩ := h
  exact k_X0_choose_4 E hr hlk  n1 _ _ _ _ _ _ _ _ h w (lh_sub hl [2, 3, 1, 0] rfl)
theorem K_X0_choose {l : Launch} {Q : Int32 → Mm → Prop} {x0 : Int32} {x1 : Int32} {M : Mm} (h : B_X0_choose_0 Q x0 x1 M) : KI l yX0_choose cdX0_choose (rmm 0 0 0) [iv x0, iv x1] M Q :=
  KI_of (by decide) rfl (Nat.le_of_ble_eq_true rfl) (fun p e s m args below meth c D cy A ls E hr hlk hn w hl => k_X0_choose_0 E hr hlk _ _ _ _ _ _ h w hl)
def B_X0_commonDivisor_7 (Q : Int32 → Mm → Prop)  : Nat → Int32 → Int32 → Int32 → Mm → Prop
  | 0, _, _, _, _ => False
  | n + 1, x2, x3, x4, M => (((64 : Int32) ≤ x4 → Q x2 M) ∧ (¬ (64 : Int32) ≤ x4 → ((x3 = 0 → Q x2 M) ∧ (¬ x3 = 0 → (¬ x3 = 0 ∧ B_X0_commonDivisor_7 Q  n x3 (x2 - x2 / x3 * x3) (x4 + 1) M)))))
set_option maxHeartbeats 4000000 in
set_option maxRecDepth 100000 in
theorem k_X0_commonDivisor_7 {p : Program} {l : Launch} {e : Env} {s : State} {m : MethodId} {args : Array Value} {below : List Frame} {meth : Method} {c : Code} {D : va_G} {cy : Nat → ClassId} {A : Nat → Prop} {Q : Int32 → Mm → Prop} (E : Ex p m c cX0_commonDivisor 6 s args RX0 D cy A) (hr : meth.sig.returnType = (some .int)) (hlk : meth.locks = false) : ∀ (n : Nat), ∀ (x2 : Int32) (x3 : Int32) (x4 : Int32) (M : Mm) (H : Heap) (locs : List Loc) (ls : Array Slot), B_X0_commonDivisor_7 Q  n x2 x3 x4 M → Wd D cy A s M H locs → lh ls 6 [(2, iv x2), (3, iv x3), (4, iv x4)] → W p l e (rmm 0 0 0) s m args below meth c H locs 0 0 (MQ below (va_Qi Q (Po D cy A) A) args s 0 0 A) (F0 m 7 ls []) := by
  obtain ⟨hx, hb, hml, hown, hts⟩ := E.1
  intro n
  induction n with
  | zero => intro x2 x3 x4 M H locs ls h; exact False.elim h
  | succ n ih =>
    intro x2 x3 x4 M H locs ls h w hl
    unfold B_X0_commonDivisor_7 at h
    refine lv_iload (x := x4) hx hb dX0_commonDivisor_7 (lh_at hl 2 rfl) ?_
    refine lv_bipush (v := (64 : Int32)) hx hb dX0_commonDivisor_9 (by decide) ?_
    refine lv_icmp_ge (tgt := 34) hx hb dX0_commonDivisor_11 (by decide) (fun c1 => ?_) (fun c1 => ?_)
    · have h := h.1 c1
      refine lv_iload_n (x := x2) hx hb dX0_commonDivisor_34 rfl (lh_at hl 0 rfl) ?_
      exact r_iret E w hr hlk h (Nat.le_refl 0) (Nat.le_refl 0) dX0_commonDivisor_35
    · have h := h.2 c1
      refine lv_iload_n (x := x3) hx hb dX0_commonDivisor_14 rfl (lh_at hl 1 rfl) ?_
      refine lv_if_eq (tgt := 34) hx hb dX0_commonDivisor_15 (by decide) (fun c2 => ?_) (fun c2 => ?_)
      · have h := h.1 c2
        refine lv_iload_n (x := x2) hx hb dX0_commonDivisor_34 rfl (lh_at hl 0 rfl) ?_
        exact r_iret E w hr hlk h (Nat.le_refl 0) (Nat.le_refl 0) dX0_commonDivisor_35
      · have h := h.2 c2
        refine lv_iload_n (x := x2) hx hb dX0_commonDivisor_18 rfl (lh_at hl 0 rfl) ?_
        refine lv_iload_n (x := x3) hx hb dX0_commonDivisor_19 rfl (lh_at hl 1 rfl) ?_
        obtain ⟨hz3, h⟩ := h
        refine lv_irem hx hb dX0_commonDivisor_20 hz3 ?_
        refine r_istore (lv' := [(5, iv (x2 - x2 / x3 * x3)), (2, iv x2), (3, iv x3), (4, iv x4)]) hx hb dX0_commonDivisor_21 hl (by decide) rfl (fun ls hl => ?_)
        refine lv_iload_n (x := x3) hx hb dX0_commonDivisor_23 rfl (lh_at hl 2 rfl) ?_
        refine r_istore_n (lv' := [(2, iv x3), (5, iv (x2 - x2 / x3 * x3)), (3, iv x3), (4, iv x4)]) hx hb dX0_commonDivisor_24 rfl hl (by decide) rfl (fun ls hl => ?_)
        refine lv_iload (x := (x2 - x2 / x3 * x3)) hx hb dX0_commonDivisor_25 (lh_at hl 1 rfl) ?_
        refine r_istore_n (lv' := [(3, iv (x2 - x2 / x3 * x3)), (2, iv x3), (5, iv (x2 - x2 / x3 * x3)), (4, iv x4)]) hx hb dX0_commonDivisor_27 rfl hl (by decide) rfl (fun ls hl => ?_)
        refine r_iinc (k := 3) (x := x4) (v := (x4 + 1)) (lv' := [(4, iv (x4 + 1)), (3, iv (x2 - x2 / x3 * x3)), (2, iv x3), (5, iv (x2 - x2 / x3 * x3))]) hx hb dX0_commonDivisor_28 hl rfl rfl (by decide) rfl (fun ls hl => ?_)
        refine lv_goto (tgt := 7) hx hb dX0_commonDivisor_31 (by decide) ?_
        exact ih _ _ _ _ _ _ _ h w (lh_sub hl [2, 1, 0] rfl)
def B_X0_commonDivisor_0 (Q : Int32 → Mm → Prop)  (x0 : Int32) (x1 : Int32) (M : Mm) : Prop := (∃ n1, B_X0_commonDivisor_7 Q  n1 x0 x1 (0 : Int32) M)
set_option maxHeartbeats 4000000 in
set_option maxRecDepth 100000 in
theorem k_X0_commonDivisor_0 {p : Program} {l : Launch} {e : Env} {s : State} {m : MethodId} {args : Array Value} {below : List Frame} {meth : Method} {c : Code} {D : va_G} {cy : Nat → ClassId} {A : Nat → Prop} {Q : Int32 → Mm → Prop} (E : Ex p m c cX0_commonDivisor 6 s args RX0 D cy A) (hr : meth.sig.returnType = (some .int)) (hlk : meth.locks = false) : ∀ (x0 : Int32) (x1 : Int32) (M : Mm) (H : Heap) (locs : List Loc) (ls : Array Slot), B_X0_commonDivisor_0 Q  x0 x1 M → Wd D cy A s M H locs → lh ls 6 [(0, iv x0), (1, iv x1)] → W p l e (rmm 0 0 0) s m args below meth c H locs 0 0 (MQ below (va_Qi Q (Po D cy A) A) args s 0 0 A) (F0 m 0 ls []) := by
  obtain ⟨hx, hb, hml, hown, hts⟩ := E.1
  intro x0 x1 M H locs ls h w hl
  unfold B_X0_commonDivisor_0 at h
  refine lv_iload_n (x := x0) hx hb dX0_commonDivisor_0 rfl (lh_at hl 0 rfl) ?_
  refine r_istore_n (lv' := [(2, iv x0), (0, iv x0), (1, iv x1)]) hx hb dX0_commonDivisor_1 rfl hl (by decide) rfl (fun ls hl => ?_)
  refine lv_iload_n (x := x1) hx hb dX0_commonDivisor_2 rfl (lh_at hl 2 rfl) ?_
  refine r_istore_n (lv' := [(3, iv x1), (2, iv x0), (0, iv x0), (1, iv x1)]) hx hb dX0_commonDivisor_3 rfl hl (by decide) rfl (fun ls hl => ?_)
  refine lv_iconst (v := (0 : Int32)) hx hb dX0_commonDivisor_4 (by decide) ?_
  refine r_istore (lv' := [(4, iv (0 : Int32)), (3, iv x1), (2, iv x0), (0, iv x0), (1, iv x1)]) hx hb dX0_commonDivisor_5 hl (by decide) rfl (fun ls hl => ?_)
  obtain ⟨n1, h⟩ := h
  exact k_X0_commonDivisor_7 E hr hlk  n1 _ _ _ _ _ _ _ h w (lh_sub hl [2, 1, 0] rfl)
theorem K_X0_commonDivisor {l : Launch} {Q : Int32 → Mm → Prop} {x0 : Int32} {x1 : Int32} {M : Mm} (h : B_X0_commonDivisor_0 Q x0 x1 M) : KI l yX0_commonDivisor cdX0_commonDivisor (rmm 0 0 0) [iv x0, iv x1] M Q :=
  KI_of (by decide) rfl (Nat.le_of_ble_eq_true rfl) (fun p e s m args below meth c D cy A ls E hr hlk hn w hl => k_X0_commonDivisor_0 E hr hlk _ _ _ _ _ _ h w hl)
def B_X0_reckon_139 (Q : Int32 → Mm → Prop)  : Nat → Nat → Option Nat → Int32 → Int32 → Int32 → Int32 → Int32 → Int32 → Int32 → Int32 → Mm → Prop
  | 0, _, _, _, _, _, _, _, _, _, _, _ => False
  | n + 1, h0, x1, x3, x5, x6, x8, x9, x11, x12, x13, M => (((x8 + x9) ≤ x13 → (∃ a2, x1 = some a2 ∧ (ok M a2 3 ∧ (ok M h0 0 ∧ (B_X0_countUpTo_0 (fun r6 M5 => (ok M5 h0 0 ∧ (∀ M8, M8 = pI M5 h0 1 r6 → (B_X0_choose_0 (fun r10 M9 => (ok M9 h0 0 ∧ (∀ M12, M12 = pI M9 h0 2 r10 → (B_X0_commonDivisor_0 (fun r14 M13 => ((r14 ≤ (1 : Int32) → Q (1 : Int32) M13) ∧ (¬ r14 ≤ (1 : Int32) → (ok M13 h0 0 ∧ (¬ r14 = 0 ∧ (∀ M18, M18 = pI M13 h0 1 ((gI M13 h0 1) / r14) → (¬ r14 = 0 ∧ (∀ M20, M20 = pI M18 h0 2 ((gI M18 h0 2) / r14) → Q (1 : Int32) M20)))))))) (gI M12 h0 2) (gI M12 h0 1) M12)))) x6 x9 M8)))) h0 (gR M a2 8) x3 x5 x11 x9 x12 M))))) ∧ (¬ (x8 + x9) ≤ x13 → (∃ a21, x1 = some a21 ∧ (ok M a21 3 ∧ (∃ a23, (gR M a21 8) = some a23 ∧ (ar M a23 7 x13 ∧ B_X0_reckon_139 Q  n h0 x1 x3 x5 x6 x8 x9 x11 (x12 + (if 0 ≤ (x11 - (gI M a23 (Int32.toNatClampNeg x13))) then (x11 - (gI M a23 (Int32.toNatClampNeg x13))) else 0 - (x11 - (gI M a23 (Int32.toNatClampNeg x13))))) (x13 + 1) M))))))
set_option maxHeartbeats 4000000 in
set_option maxRecDepth 100000 in
theorem k_X0_reckon_139 {p : Program} {l : Launch} {e : Env} {s : State} {m : MethodId} {args : Array Value} {below : List Frame} {meth : Method} {c : Code} {D : va_G} {cy : Nat → ClassId} {A : Nat → Prop} {Q : Int32 → Mm → Prop} (E : Ex p m c cX0_reckon 14 s args RX0 D cy A) (hr : meth.sig.returnType = (some .boolean)) (hlk : meth.locks = false) : ∀ (n : Nat), ∀ (h0 : Nat) (x1 : Option Nat) (x3 : Int32) (x5 : Int32) (x6 : Int32) (x8 : Int32) (x9 : Int32) (x11 : Int32) (x12 : Int32) (x13 : Int32) (M : Mm) (H : Heap) (locs : List Loc) (ls : Array Slot), B_X0_reckon_139 Q  n h0 x1 x3 x5 x6 x8 x9 x11 x12 x13 M → Wd D cy A s M H locs → lh ls 14 [(0, rv (some h0)), (1, rv x1), (3, iv x3), (5, iv x5), (6, iv x6), (8, iv x8), (9, iv x9), (11, iv x11), (12, iv x12), (13, iv x13)] → W p l e (rmm 2 0 0) s m args below meth c H locs 0 0 (MQ below (va_Qi Q (Po D cy A) A) args s 0 0 A) (F0 m 139 ls []) := by
  obtain ⟨hx, hb, hml, hown, hts⟩ := E.1
  intro n
  induction n with
  | zero => intro h0 x1 x3 x5 x6 x8 x9 x11 x12 x13 M H locs ls h; exact False.elim h
  | succ n ih =>
    intro h0 x1 x3 x5 x6 x8 x9 x11 x12 x13 M H locs ls h w hl
    unfold B_X0_reckon_139 at h
    refine lv_iload (x := x13) hx hb dX0_reckon_139 (lh_at hl 9 rfl) ?_
    refine lv_iload (x := x8) hx hb dX0_reckon_141 (lh_at hl 5 rfl) ?_
    refine lv_iload (x := x9) hx hb dX0_reckon_143 (lh_at hl 6 rfl) ?_
    refine lv_iadd hx hb dX0_reckon_145 ?_
    refine lv_icmp_ge (tgt := 173) hx hb dX0_reckon_146 (by decide) (fun c1 => ?_) (fun c1 => ?_)
    · have h := h.1 c1
      refine r_aload_n (x := (some h0)) hx hb dX0_reckon_173 rfl (lh_at hl 0 rfl) ?_
      refine r_aload_n (x := (some h0)) hx hb dX0_reckon_174 rfl (lh_at hl 0 rfl) ?_
      refine r_aload_n (x := x1) hx hb dX0_reckon_175 rfl (lh_at hl 1 rfl) ?_
      obtain ⟨a2, ea2, h⟩ := h
      obtain ⟨ho3, h⟩ := h
      refine r_getR E w ea2 ho3 cl_X3 8 rfl fl_X0_26 dX0_reckon_176 ?_
      refine lv_iload_n (x := x3) hx hb dX0_reckon_179 rfl (lh_at hl 2 rfl) ?_
      refine lv_iload (x := x5) hx hb dX0_reckon_180 (lh_at hl 3 rfl) ?_
      refine lv_iload (x := x11) hx hb dX0_reckon_182 (lh_at hl 7 rfl) ?_
      refine lv_iload (x := x9) hx hb dX0_reckon_184 (lh_at hl 6 rfl) ?_
      refine lv_iload (x := x12) hx hb dX0_reckon_186 (lh_at hl 8 rfl) ?_
      obtain ⟨ho4, h⟩ := h
      refine z_callVi E w rfl ho4 cl_X0 yk_X0_countUpTo ⟨Nat.le_of_ble_eq_true rfl, Nat.le_of_ble_eq_true rfl⟩ ⟨(Nat.zero_le _), (Nat.zero_le _)⟩ rfl ml_X0_38 im_X0_countUpTo sl_X0_countUpTo [rv (gR M a2 8), iv x3, iv x5, iv x11, iv x9, iv x12] rfl rfl hl [rv (some h0)] rfl (Nat.le_of_ble_eq_true rfl) (K_X0_countUpTo h) dX0_reckon_188 (fun r6 M5 H locs h w => ?_)
      obtain ⟨ho7, h⟩ := h
      refine r_putI (v := r6) E w rfl ho7 cl_X0 1 rfl fl_X0_42 (Or.inl rfl) (Or.inl rfl) dX0_reckon_191 (fun H locs w => ?_)
      obtain ⟨M8, eM8⟩ : ∃ z, z = pI M5 h0 1 r6 := ⟨_, rfl⟩
      rw [← eM8] at w
      have h := h M8 eM8
      refine r_aload_n (x := (some h0)) hx hb dX0_reckon_194 rfl (lh_at hl 0 rfl) ?_
      refine lv_iload (x := x6) hx hb dX0_reckon_195 (lh_at hl 4 rfl) ?_
      refine lv_iload (x := x9) hx hb dX0_reckon_197 (lh_at hl 6 rfl) ?_
      refine z_callSi E w yk_X0_choose ⟨Nat.le_of_ble_eq_true rfl, Nat.le_of_ble_eq_true rfl⟩ ⟨(Nat.zero_le _), (Nat.zero_le _)⟩ rfl ml_X0_45 st_X0_choose [iv x6, iv x9] rfl rfl hl [rv (some h0)] rfl (Nat.le_of_ble_eq_true rfl) (K_X0_choose h) dX0_reckon_199 (fun r10 M9 H locs h w => ?_)
      obtain ⟨ho11, h⟩ := h
      refine r_putI (v := r10) E w rfl ho11 cl_X0 2 rfl fl_X0_13 (Or.inl rfl) (Or.inl rfl) dX0_reckon_202 (fun H locs w => ?_)
      obtain ⟨M12, eM12⟩ : ∃ z, z = pI M9 h0 2 r10 := ⟨_, rfl⟩
      rw [← eM12] at w
      have h := h M12 eM12
      refine r_aload_n (x := (some h0)) hx hb dX0_reckon_205 rfl (lh_at hl 0 rfl) ?_
      have ho11 : ok M12 h0 0 := by rw [eM12]; exact ho11
      refine r_getI E w rfl ho11 cl_X0 2 rfl fl_X0_13 dX0_reckon_206 ?_
      refine r_aload_n (x := (some h0)) hx hb dX0_reckon_209 rfl (lh_at hl 0 rfl) ?_
      refine r_getI E w rfl ho11 cl_X0 1 rfl fl_X0_42 dX0_reckon_210 ?_
      refine z_callSi E w yk_X0_commonDivisor ⟨Nat.le_of_ble_eq_true rfl, Nat.le_of_ble_eq_true rfl⟩ ⟨(Nat.zero_le _), (Nat.zero_le _)⟩ rfl ml_X0_49 st_X0_commonDivisor [iv (gI M12 h0 2), iv (gI M12 h0 1)] rfl rfl hl [] rfl (Nat.le_of_ble_eq_true rfl) (K_X0_commonDivisor h) dX0_reckon_213 (fun r14 M13 H locs h w => ?_)
      refine r_istore (lv' := [(13, iv r14), (0, rv (some h0)), (1, rv x1), (3, iv x3), (5, iv x5), (6, iv x6), (8, iv x8), (9, iv x9), (11, iv x11), (12, iv x12)]) hx hb dX0_reckon_216 hl (by decide) rfl (fun ls hl => ?_)
      refine lv_iload (x := r14) hx hb dX0_reckon_218 (lh_at hl 0 rfl) ?_
      refine lv_iconst (v := (1 : Int32)) hx hb dX0_reckon_220 (by decide) ?_
      refine lv_icmp_le (tgt := 246) hx hb dX0_reckon_221 (by decide) (fun c15 => ?_) (fun c15 => ?_)
      · have h := h.1 c15
        refine lv_iconst (v := (1 : Int32)) hx hb dX0_reckon_246 (by decide) ?_
        exact r_zret E w hr hlk ⟨Or.inr rfl, h⟩ (Nat.le_refl 0) (Nat.le_refl 0) dX0_reckon_247
      · have h := h.2 c15
        refine r_aload_n (x := (some h0)) hx hb dX0_reckon_224 rfl (lh_at hl 1 rfl) ?_
        refine r_dupr hx hb dX0_reckon_225 ?_
        obtain ⟨ho16, h⟩ := h
        refine r_getI E w rfl ho16 cl_X0 1 rfl fl_X0_42 dX0_reckon_226 ?_
        refine lv_iload (x := r14) hx hb dX0_reckon_229 (lh_at hl 0 rfl) ?_
        obtain ⟨hz17, h⟩ := h
        refine lv_idiv hx hb dX0_reckon_231 hz17 ?_
        refine r_putI (v := ((gI M13 h0 1) / r14)) E w rfl ho16 cl_X0 1 rfl fl_X0_42 (Or.inl rfl) (Or.inl rfl) dX0_reckon_232 (fun H locs w => ?_)
        obtain ⟨M18, eM18⟩ : ∃ z, z = pI M13 h0 1 ((gI M13 h0 1) / r14) := ⟨_, rfl⟩
        rw [← eM18] at w
        have h := h M18 eM18
        refine r_aload_n (x := (some h0)) hx hb dX0_reckon_235 rfl (lh_at hl 1 rfl) ?_
        refine r_dupr hx hb dX0_reckon_236 ?_
        have ho16 : ok M18 h0 0 := by rw [eM18]; exact ho16
        refine r_getI E w rfl ho16 cl_X0 2 rfl fl_X0_13 dX0_reckon_237 ?_
        refine lv_iload (x := r14) hx hb dX0_reckon_240 (lh_at hl 0 rfl) ?_
        obtain ⟨hz19, h⟩ := h
        refine lv_idiv hx hb dX0_reckon_242 hz19 ?_
        refine r_putI (v := ((gI M18 h0 2) / r14)) E w rfl ho16 cl_X0 2 rfl fl_X0_13 (Or.inl rfl) (Or.inl rfl) dX0_reckon_243 (fun H locs w => ?_)
        obtain ⟨M20, eM20⟩ : ∃ z, z = pI M18 h0 2 ((gI M18 h0 2) / r14) := ⟨_, rfl⟩
        rw [← eM20] at w
        have h := h M20 eM20
        refine lv_iconst (v := (1 : Int32)) hx hb dX0_reckon_246 (by decide) ?_
        exact r_zret E w hr hlk ⟨Or.inr rfl, h⟩ (Nat.le_refl 0) (Nat.le_refl 0) dX0_reckon_247
    · have h := h.2 c1
      refine lv_iload (x := x12) hx hb dX0_reckon_149 (lh_at hl 8 rfl) ?_
      refine lv_iload (x := x11) hx hb dX0_reckon_151 (lh_at hl 7 rfl) ?_
      refine r_aload_n (x := x1) hx hb dX0_reckon_153 rfl (lh_at hl 1 rfl) ?_
      obtain ⟨a21, ea21, h⟩ := h
      obtain ⟨ho22, h⟩ := h
      refine r_getR E w ea21 ho22 cl_X3 8 rfl fl_X0_26 dX0_reckon_154 ?_
      refine lv_iload (x := x13) hx hb dX0_reckon_157 (lh_at hl 9 rfl) ?_
      obtain ⟨a23, ea23, h⟩ := h
      obtain ⟨ha24, h⟩ := h
      refine r_iald E w ea23 ha24 dX0_reckon_159 ?_
      refine lv_isub hx hb dX0_reckon_160 ?_
      refine va_mabs hx hb (by rw [hml]; exact hl.1.symm) hown (hts _ ml_X0_33) (hts _ st_math_abs) (hts _ ini_J9) (hts _ cd_math_abs) (Nat.le_of_ble_eq_true rfl) (math_room [iv x12] (Nat.le_of_ble_eq_true rfl)) (Nat.zero_le _) (Nat.zero_le _) dX0_reckon_161 ?_
      refine lv_iadd hx hb dX0_reckon_164 ?_
      refine r_istore (lv' := [(12, iv (x12 + (if 0 ≤ (x11 - (gI M a23 (Int32.toNatClampNeg x13))) then (x11 - (gI M a23 (Int32.toNatClampNeg x13))) else 0 - (x11 - (gI M a23 (Int32.toNatClampNeg x13)))))), (0, rv (some h0)), (1, rv x1), (3, iv x3), (5, iv x5), (6, iv x6), (8, iv x8), (9, iv x9), (11, iv x11), (13, iv x13)]) hx hb dX0_reckon_165 hl (by decide) rfl (fun ls hl => ?_)
      refine r_iinc (k := 9) (x := x13) (v := (x13 + 1)) (lv' := [(13, iv (x13 + 1)), (12, iv (x12 + (if 0 ≤ (x11 - (gI M a23 (Int32.toNatClampNeg x13))) then (x11 - (gI M a23 (Int32.toNatClampNeg x13))) else 0 - (x11 - (gI M a23 (Int32.toNatClampNeg x13)))))), (0, rv (some h0)), (1, rv x1), (3, iv x3), (5, iv x5), (6, iv x6), (8, iv x8), (9, iv x9), (11, iv x11)]) hx hb dX0_reckon_167 hl rfl rfl (by decide) rfl (fun ls hl => ?_)
      refine lv_goto (tgt := 139) hx hb dX0_reckon_170 (by decide) ?_
      exact ih _ _ _ _ _ _ _ _ _ _ _ _ _ _ h w (lh_sub hl [2, 3, 4, 5, 6, 7, 8, 9, 1, 0] rfl)
def B_X0_reckon_116 (Q : Int32 → Mm → Prop)  (h0 : Nat) (x1 : Option Nat) (x3 : Int32) (x5 : Int32) (x6 : Int32) (x8 : Int32) (x9 : Int32) (s0 : Int32) (M : Mm) : Prop := (∃ a1, x1 = some a1 ∧ (ok M a1 3 ∧ (B_X0_outermost_0 (fun r4 M3 => (∃ n5, B_X0_reckon_139 Q  n5 h0 x1 x3 x5 x6 x8 x9 r4 (0 : Int32) x8 M3)) (gR M a1 8) x3 x5 s0 M)))
set_option maxHeartbeats 4000000 in
set_option maxRecDepth 100000 in
theorem k_X0_reckon_116 {p : Program} {l : Launch} {e : Env} {s : State} {m : MethodId} {args : Array Value} {below : List Frame} {meth : Method} {c : Code} {D : va_G} {cy : Nat → ClassId} {A : Nat → Prop} {Q : Int32 → Mm → Prop} (E : Ex p m c cX0_reckon 14 s args RX0 D cy A) (hr : meth.sig.returnType = (some .boolean)) (hlk : meth.locks = false) : ∀ (h0 : Nat) (x1 : Option Nat) (x3 : Int32) (x5 : Int32) (x6 : Int32) (x8 : Int32) (x9 : Int32) (s0 : Int32) (M : Mm) (H : Heap) (locs : List Loc) (ls : Array Slot), B_X0_reckon_116 Q  h0 x1 x3 x5 x6 x8 x9 s0 M → Wd D cy A s M H locs → lh ls 14 [(0, rv (some h0)), (1, rv x1), (3, iv x3), (5, iv x5), (6, iv x6), (8, iv x8), (9, iv x9)] → W p l e (rmm 2 0 0) s m args below meth c H locs 0 0 (MQ below (va_Qi Q (Po D cy A) A) args s 0 0 A) (F0 m 116 ls [.int s0]) := by
  obtain ⟨hx, hb, hml, hown, hts⟩ := E.1
  intro h0 x1 x3 x5 x6 x8 x9 s0 M H locs ls h w hl
  unfold B_X0_reckon_116 at h
  refine r_istore (lv' := [(10, iv s0), (0, rv (some h0)), (1, rv x1), (3, iv x3), (5, iv x5), (6, iv x6), (8, iv x8), (9, iv x9)]) hx hb dX0_reckon_116 hl (by decide) rfl (fun ls hl => ?_)
  refine r_aload_n (x := x1) hx hb dX0_reckon_118 rfl (lh_at hl 2 rfl) ?_
  obtain ⟨a1, ea1, h⟩ := h
  obtain ⟨ho2, h⟩ := h
  refine r_getR E w ea1 ho2 cl_X3 8 rfl fl_X0_26 dX0_reckon_119 ?_
  refine lv_iload_n (x := x3) hx hb dX0_reckon_122 rfl (lh_at hl 3 rfl) ?_
  refine lv_iload (x := x5) hx hb dX0_reckon_123 (lh_at hl 4 rfl) ?_
  refine lv_iload (x := s0) hx hb dX0_reckon_125 (lh_at hl 0 rfl) ?_
  refine z_callSi E w yk_X0_outermost ⟨Nat.le_of_ble_eq_true rfl, Nat.le_of_ble_eq_true rfl⟩ ⟨(Nat.zero_le _), (Nat.zero_le _)⟩ rfl ml_X0_29 st_X0_outermost [rv (gR M a1 8), iv x3, iv x5, iv s0] rfl rfl hl [] rfl (Nat.le_of_ble_eq_true rfl) (K_X0_outermost h) dX0_reckon_127 (fun r4 M3 H locs h w => ?_)
  refine r_istore (lv' := [(11, iv r4), (10, iv s0), (0, rv (some h0)), (1, rv x1), (3, iv x3), (5, iv x5), (6, iv x6), (8, iv x8), (9, iv x9)]) hx hb dX0_reckon_130 hl (by decide) rfl (fun ls hl => ?_)
  refine lv_iconst (v := (0 : Int32)) hx hb dX0_reckon_132 (by decide) ?_
  refine r_istore (lv' := [(12, iv (0 : Int32)), (11, iv r4), (10, iv s0), (0, rv (some h0)), (1, rv x1), (3, iv x3), (5, iv x5), (6, iv x6), (8, iv x8), (9, iv x9)]) hx hb dX0_reckon_133 hl (by decide) rfl (fun ls hl => ?_)
  refine lv_iload (x := x8) hx hb dX0_reckon_135 (lh_at hl 8 rfl) ?_
  refine r_istore (lv' := [(13, iv x8), (12, iv (0 : Int32)), (11, iv r4), (10, iv s0), (0, rv (some h0)), (1, rv x1), (3, iv x3), (5, iv x5), (6, iv x6), (8, iv x8), (9, iv x9)]) hx hb dX0_reckon_137 hl (by decide) rfl (fun ls hl => ?_)
  obtain ⟨n5, h⟩ := h
  exact k_X0_reckon_139 E hr hlk  n5 _ _ _ _ _ _ _ _ _ _ _ _ _ _ h w (lh_sub hl [4, 5, 6, 7, 8, 9, 10, 2, 1, 0] rfl)
def B_X0_reckon_106 (Q : Int32 → Mm → Prop)  (h0 : Nat) (x1 : Option Nat) (x3 : Int32) (x5 : Int32) (x6 : Int32) (x7 : Int32) (x8 : Int32) (x9 : Int32) (s0 : Int32) (M : Mm) : Prop := ((¬ s0 = x7 → B_X0_reckon_116 Q  h0 x1 x3 x5 x6 x8 x9 (0 : Int32) M) ∧ (s0 = x7 → B_X0_reckon_116 Q  h0 x1 x3 x5 x6 x8 x9 (1 : Int32) M))
set_option maxHeartbeats 4000000 in
set_option maxRecDepth 100000 in
theorem k_X0_reckon_106 {p : Program} {l : Launch} {e : Env} {s : State} {m : MethodId} {args : Array Value} {below : List Frame} {meth : Method} {c : Code} {D : va_G} {cy : Nat → ClassId} {A : Nat → Prop} {Q : Int32 → Mm → Prop} (E : Ex p m c cX0_reckon 14 s args RX0 D cy A) (hr : meth.sig.returnType = (some .boolean)) (hlk : meth.locks = false) : ∀ (h0 : Nat) (x1 : Option Nat) (x3 : Int32) (x5 : Int32) (x6 : Int32) (x7 : Int32) (x8 : Int32) (x9 : Int32) (s0 : Int32) (M : Mm) (H : Heap) (locs : List Loc) (ls : Array Slot), B_X0_reckon_106 Q  h0 x1 x3 x5 x6 x7 x8 x9 s0 M → Wd D cy A s M H locs → lh ls 14 [(0, rv (some h0)), (1, rv x1), (3, iv x3), (5, iv x5), (6, iv x6), (7, iv x7), (8, iv x8), (9, iv x9)] → W p l e (rmm 2 0 0) s m args below meth c H locs 0 0 (MQ below (va_Qi Q (Po D cy A) A) args s 0 0 A) (F0 m 106 ls [.int s0]) := by
  obtain ⟨hx, hb, hml, hown, hts⟩ := E.1
  intro h0 x1 x3 x5 x6 x7 x8 x9 s0 M H locs ls h w hl
  unfold B_X0_reckon_106 at h
  refine lv_iload (x := x7) hx hb dX0_reckon_106 (lh_at hl 5 rfl) ?_
  refine lv_icmp_ne (tgt := 115) hx hb dX0_reckon_108 (by decide) (fun c1 => ?_) (fun c1 => ?_)
  · have h := h.1 c1
    refine lv_iconst (v := (0 : Int32)) hx hb dX0_reckon_115 (by decide) ?_
    exact k_X0_reckon_116 E hr hlk  _ _ _ _ _ _ _ _ _ _ _ _ h w (lh_sub hl [0, 1, 2, 3, 4, 6, 7] rfl)
  · have h := h.2 c1
    refine lv_iconst (v := (1 : Int32)) hx hb dX0_reckon_111 (by decide) ?_
    refine lv_goto (tgt := 116) hx hb dX0_reckon_112 (by decide) ?_
    exact k_X0_reckon_116 E hr hlk  _ _ _ _ _ _ _ _ _ _ _ _ h w (lh_sub hl [0, 1, 2, 3, 4, 6, 7] rfl)
def B_X0_reckon_91 (Q : Int32 → Mm → Prop)  (h0 : Nat) (x1 : Option Nat) (x2 : Int32) (x3 : Int32) (x5 : Int32) (x6 : Int32) (x7 : Int32) (x8 : Int32) (s0 : Int32) (M : Mm) : Prop := (∃ a1, x1 = some a1 ∧ (ok M a1 3 ∧ (B_X3_stepSize_0 (fun r4 M3 => ((r4 ≤ 0 → B_X0_reckon_106 Q  h0 x1 x3 x5 x6 x7 x8 s0 (0 : Int32) M3) ∧ (¬ r4 ≤ 0 → B_X0_reckon_106 Q  h0 x1 x3 x5 x6 x7 x8 s0 (1 : Int32) M3))) a1 x2 M)))
set_option maxHeartbeats 4000000 in
set_option maxRecDepth 100000 in
theorem k_X0_reckon_91 {p : Program} {l : Launch} {e : Env} {s : State} {m : MethodId} {args : Array Value} {below : List Frame} {meth : Method} {c : Code} {D : va_G} {cy : Nat → ClassId} {A : Nat → Prop} {Q : Int32 → Mm → Prop} (E : Ex p m c cX0_reckon 14 s args RX0 D cy A) (hr : meth.sig.returnType = (some .boolean)) (hlk : meth.locks = false) : ∀ (h0 : Nat) (x1 : Option Nat) (x2 : Int32) (x3 : Int32) (x5 : Int32) (x6 : Int32) (x7 : Int32) (x8 : Int32) (s0 : Int32) (M : Mm) (H : Heap) (locs : List Loc) (ls : Array Slot), B_X0_reckon_91 Q  h0 x1 x2 x3 x5 x6 x7 x8 s0 M → Wd D cy A s M H locs → lh ls 14 [(0, rv (some h0)), (1, rv x1), (2, iv x2), (3, iv x3), (5, iv x5), (6, iv x6), (7, iv x7), (8, iv x8)] → W p l e (rmm 2 0 0) s m args below meth c H locs 0 0 (MQ below (va_Qi Q (Po D cy A) A) args s 0 0 A) (F0 m 91 ls [.int s0]) := by
  obtain ⟨hx, hb, hml, hown, hts⟩ := E.1
  intro h0 x1 x2 x3 x5 x6 x7 x8 s0 M H locs ls h w hl
  unfold B_X0_reckon_91 at h
  refine r_istore (lv' := [(9, iv s0), (0, rv (some h0)), (1, rv x1), (2, iv x2), (3, iv x3), (5, iv x5), (6, iv x6), (7, iv x7), (8, iv x8)]) hx hb dX0_reckon_91 hl (by decide) rfl (fun ls hl => ?_)
  refine r_aload_n (x := x1) hx hb dX0_reckon_93 rfl (lh_at hl 2 rfl) ?_
  refine lv_iload_n (x := x2) hx hb dX0_reckon_94 rfl (lh_at hl 3 rfl) ?_
  obtain ⟨a1, ea1, h⟩ := h
  obtain ⟨ho2, h⟩ := h
  refine z_callVi E w ea1 ho2 cl_X3 yk_X3_stepSize ⟨Nat.le_of_ble_eq_true rfl, Nat.le_of_ble_eq_true rfl⟩ ⟨(Nat.zero_le _), (Nat.zero_le _)⟩ rfl ml_X0_22 im_X3_stepSize sl_X3_stepSize [iv x2] rfl rfl hl [] rfl (Nat.le_of_ble_eq_true rfl) (K_X3_stepSize h) dX0_reckon_95 (fun r4 M3 H locs h w => ?_)
  refine lv_if_le (tgt := 105) hx hb dX0_reckon_98 (by decide) (fun c5 => ?_) (fun c5 => ?_)
  · have h := h.1 c5
    refine lv_iconst (v := (0 : Int32)) hx hb dX0_reckon_105 (by decide) ?_
    exact k_X0_reckon_106 E hr hlk  _ _ _ _ _ _ _ _ _ _ _ _ _ h w (lh_sub hl [1, 2, 4, 5, 6, 7, 8, 0] rfl)
  · have h := h.2 c5
    refine lv_iconst (v := (1 : Int32)) hx hb dX0_reckon_101 (by decide) ?_
    refine lv_goto (tgt := 106) hx hb dX0_reckon_102 (by decide) ?_
    exact k_X0_reckon_106 E hr hlk  _ _ _ _ _ _ _ _ _ _ _ _ _ h w (lh_sub hl [1, 2, 4, 5, 6, 7, 8, 0] rfl)
def B_X0_reckon_72 (Q : Int32 → Mm → Prop)  (h0 : Nat) (x1 : Option Nat) (x2 : Int32) (x3 : Int32) (x4 : Int32) (x5 : Int32) (x6 : Int32) (x7 : Int32) (s0 : Int32) (M : Mm) : Prop := ((x7 = 0 → B_X0_reckon_91 Q  h0 x1 x2 x3 x5 x6 x7 s0 (x4 - x3) M) ∧ (¬ x7 = 0 → B_X0_reckon_91 Q  h0 x1 x2 x3 x5 x6 x7 s0 (x5 - x4) M))
set_option maxHeartbeats 4000000 in
set_option maxRecDepth 100000 in
theorem k_X0_reckon_72 {p : Program} {l : Launch} {e : Env} {s : State} {m : MethodId} {args : Array Value} {below : List Frame} {meth : Method} {c : Code} {D : va_G} {cy : Nat → ClassId} {A : Nat → Prop} {Q : Int32 → Mm → Prop} (E : Ex p m c cX0_reckon 14 s args RX0 D cy A) (hr : meth.sig.returnType = (some .boolean)) (hlk : meth.locks = false) : ∀ (h0 : Nat) (x1 : Option Nat) (x2 : Int32) (x3 : Int32) (x4 : Int32) (x5 : Int32) (x6 : Int32) (x7 : Int32) (s0 : Int32) (M : Mm) (H : Heap) (locs : List Loc) (ls : Array Slot), B_X0_reckon_72 Q  h0 x1 x2 x3 x4 x5 x6 x7 s0 M → Wd D cy A s M H locs → lh ls 14 [(0, rv (some h0)), (1, rv x1), (2, iv x2), (3, iv x3), (4, iv x4), (5, iv x5), (6, iv x6), (7, iv x7)] → W p l e (rmm 2 0 0) s m args below meth c H locs 0 0 (MQ below (va_Qi Q (Po D cy A) A) args s 0 0 A) (F0 m 72 ls [.int s0]) := by
  obtain ⟨hx, hb, hml, hown, hts⟩ := E.1
  intro h0 x1 x2 x3 x4 x5 x6 x7 s0 M H locs ls h w hl
  unfold B_X0_reckon_72 at h
  refine r_istore (lv' := [(8, iv s0), (0, rv (some h0)), (1, rv x1), (2, iv x2), (3, iv x3), (4, iv x4), (5, iv x5), (6, iv x6), (7, iv x7)]) hx hb dX0_reckon_72 hl (by decide) rfl (fun ls hl => ?_)
  refine lv_iload (x := x7) hx hb dX0_reckon_74 (lh_at hl 8 rfl) ?_
  refine lv_if_eq (tgt := 87) hx hb dX0_reckon_76 (by decide) (fun c1 => ?_) (fun c1 => ?_)
  · have h := h.1 c1
    refine lv_iload (x := x4) hx hb dX0_reckon_87 (lh_at hl 5 rfl) ?_
    refine lv_iload_n (x := x3) hx hb dX0_reckon_89 rfl (lh_at hl 4 rfl) ?_
    refine lv_isub hx hb dX0_reckon_90 ?_
    exact k_X0_reckon_91 E hr hlk  _ _ _ _ _ _ _ _ _ _ _ _ _ h w (lh_sub hl [1, 2, 3, 4, 6, 7, 8, 0] rfl)
  · have h := h.2 c1
    refine lv_iload (x := x5) hx hb dX0_reckon_79 (lh_at hl 6 rfl) ?_
    refine lv_iload (x := x4) hx hb dX0_reckon_81 (lh_at hl 5 rfl) ?_
    refine lv_isub hx hb dX0_reckon_83 ?_
    refine lv_goto (tgt := 91) hx hb dX0_reckon_84 (by decide) ?_
    exact k_X0_reckon_91 E hr hlk  _ _ _ _ _ _ _ _ _ _ _ _ _ h w (lh_sub hl [1, 2, 3, 4, 6, 7, 8, 0] rfl)
def B_X0_reckon_59 (Q : Int32 → Mm → Prop)  (h0 : Nat) (x1 : Option Nat) (x2 : Int32) (x3 : Int32) (x4 : Int32) (x5 : Int32) (x6 : Int32) (s0 : Int32) (M : Mm) : Prop := ((s0 = 0 → B_X0_reckon_72 Q  h0 x1 x2 x3 x4 x5 x6 s0 x3 M) ∧ (¬ s0 = 0 → B_X0_reckon_72 Q  h0 x1 x2 x3 x4 x5 x6 s0 x4 M))
set_option maxHeartbeats 4000000 in
set_option maxRecDepth 100000 in
theorem k_X0_reckon_59 {p : Program} {l : Launch} {e : Env} {s : State} {m : MethodId} {args : Array Value} {below : List Frame} {meth : Method} {c : Code} {D : va_G} {cy : Nat → ClassId} {A : Nat → Prop} {Q : Int32 → Mm → Prop} (E : Ex p m c cX0_reckon 14 s args RX0 D cy A) (hr : meth.sig.returnType = (some .boolean)) (hlk : meth.locks = false) : ∀ (h0 : Nat) (x1 : Option Nat) (x2 : Int32) (x3 : Int32) (x4 : Int32) (x5 : Int32) (x6 : Int32) (s0 : Int32) (M : Mm) (H : Heap) (locs : List Loc) (ls : Array Slot), B_X0_reckon_59 Q  h0 x1 x2 x3 x4 x5 x6 s0 M → Wd D cy A s M H locs → lh ls 14 [(0, rv (some h0)), (1, rv x1), (2, iv x2), (3, iv x3), (4, iv x4), (5, iv x5), (6, iv x6)] → W p l e (rmm 2 0 0) s m args below meth c H locs 0 0 (MQ below (va_Qi Q (Po D cy A) A) args s 0 0 A) (F0 m 59 ls [.int s0]) := by
  obtain ⟨hx, hb, hml, hown, hts⟩ := E.1
  intro h0 x1 x2 x3 x4 x5 x6 s0 M H locs ls h w hl
  unfold B_X0_reckon_59 at h
  refine r_istore (lv' := [(7, iv s0), (0, rv (some h0)), (1, rv x1), (2, iv x2), (3, iv x3), (4, iv x4), (5, iv x5), (6, iv x6)]) hx hb dX0_reckon_59 hl (by decide) rfl (fun ls hl => ?_)
  refine lv_iload (x := s0) hx hb dX0_reckon_61 (lh_at hl 0 rfl) ?_
  refine lv_if_eq (tgt := 71) hx hb dX0_reckon_63 (by decide) (fun c1 => ?_) (fun c1 => ?_)
  · have h := h.1 c1
    refine lv_iload_n (x := x3) hx hb dX0_reckon_71 rfl (lh_at hl 4 rfl) ?_
    exact k_X0_reckon_72 E hr hlk  _ _ _ _ _ _ _ _ _ _ _ _ _ h w (lh_sub hl [1, 2, 3, 4, 5, 6, 7, 0] rfl)
  · have h := h.2 c1
    refine lv_iload (x := x4) hx hb dX0_reckon_66 (lh_at hl 5 rfl) ?_
    refine lv_goto (tgt := 72) hx hb dX0_reckon_68 (by decide) ?_
    exact k_X0_reckon_72 E hr hlk  _ _ _ _ _ _ _ _ _ _ _ _ _ h w (lh_sub hl [1, 2, 3, 4, 5, 6, 7, 0] rfl)
def B_X0_reckon_0 (Q : Int32 → Mm → Prop)  (h0 : Nat) (x1 : Option Nat) (x2 : Int32) (M : Mm) : Prop := (∃ a1, x1 = some a1 ∧ (ok M a1 3 ∧ (∃ a3, (gR M a1 10) = some a3 ∧ (ar M a3 7 x2 ∧ (ar M a3 7 (x2 + (1 : Int32)) ∧ (ar M a3 7 (x2 + (2 : Int32)) ∧ ((((gI M a3 (Int32.toNatClampNeg (x2 + (2 : Int32)))) - (gI M a3 (Int32.toNatClampNeg x2))) ≤ (20 : Int32) → ((((gI M a3 (Int32.toNatClampNeg (x2 + (1 : Int32)))) - (gI M a3 (Int32.toNatClampNeg x2))) < ((gI M a3 (Int32.toNatClampNeg (x2 + (2 : Int32)))) - (gI M a3 (Int32.toNatClampNeg (x2 + (1 : Int32))))) → B_X0_reckon_59 Q  h0 x1 x2 (gI M a3 (Int32.toNatClampNeg x2)) (gI M a3 (Int32.toNatClampNeg (x2 + (1 : Int32)))) (gI M a3 (Int32.toNatClampNeg (x2 + (2 : Int32)))) ((gI M a3 (Int32.toNatClampNeg (x2 + (2 : Int32)))) - (gI M a3 (Int32.toNatClampNeg x2))) (0 : Int32) M) ∧ (¬ ((gI M a3 (Int32.toNatClampNeg (x2 + (1 : Int32)))) - (gI M a3 (Int32.toNatClampNeg x2))) < ((gI M a3 (Int32.toNatClampNeg (x2 + (2 : Int32)))) - (gI M a3 (Int32.toNatClampNeg (x2 + (1 : Int32))))) → B_X0_reckon_59 Q  h0 x1 x2 (gI M a3 (Int32.toNatClampNeg x2)) (gI M a3 (Int32.toNatClampNeg (x2 + (1 : Int32)))) (gI M a3 (Int32.toNatClampNeg (x2 + (2 : Int32)))) ((gI M a3 (Int32.toNatClampNeg (x2 + (2 : Int32)))) - (gI M a3 (Int32.toNatClampNeg x2))) (1 : Int32) M))) ∧ (¬ ((gI M a3 (Int32.toNatClampNeg (x2 + (2 : Int32)))) - (gI M a3 (Int32.toNatClampNeg x2))) ≤ (20 : Int32) → Q (0 : Int32) M))))))))
set_option maxHeartbeats 4000000 in
set_option maxRecDepth 100000 in
theorem k_X0_reckon_0 {p : Program} {l : Launch} {e : Env} {s : State} {m : MethodId} {args : Array Value} {below : List Frame} {meth : Method} {c : Code} {D : va_G} {cy : Nat → ClassId} {A : Nat → Prop} {Q : Int32 → Mm → Prop} (E : Ex p m c cX0_reckon 14 s args RX0 D cy A) (hr : meth.sig.returnType = (some .boolean)) (hlk : meth.locks = false) : ∀ (h0 : Nat) (x1 : Option Nat) (x2 : Int32) (M : Mm) (H : Heap) (locs : List Loc) (ls : Array Slot), B_X0_reckon_0 Q  h0 x1 x2 M → Wd D cy A s M H locs → lh ls 14 [(0, rv (some h0)), (1, rv x1), (2, iv x2)] → W p l e (rmm 2 0 0) s m args below meth c H locs 0 0 (MQ below (va_Qi Q (Po D cy A) A) args s 0 0 A) (F0 m 0 ls []) := by
  obtain ⟨hx, hb, hml, hown, hts⟩ := E.1
  intro h0 x1 x2 M H locs ls h w hl
  unfold B_X0_reckon_0 at h
  refine r_aload_n (x := x1) hx hb dX0_reckon_0 rfl (lh_at hl 1 rfl) ?_
  obtain ⟨a1, ea1, h⟩ := h
  obtain ⟨ho2, h⟩ := h
  refine r_getR E w ea1 ho2 cl_X3 10 rfl fl_X0_17 dX0_reckon_1 ?_
  refine lv_iload_n (x := x2) hx hb dX0_reckon_4 rfl (lh_at hl 2 rfl) ?_
  obtain ⟨a3, ea3, h⟩ := h
  obtain ⟨ha4, h⟩ := h
  refine r_iald E w ea3 ha4 dX0_reckon_5 ?_
  refine r_istore_n (lv' := [(3, iv (gI M a3 (Int32.toNatClampNeg x2))), (0, rv (some h0)), (1, rv x1), (2, iv x2)]) hx hb dX0_reckon_6 rfl hl (by decide) rfl (fun ls hl => ?_)
  refine r_aload_n (x := x1) hx hb dX0_reckon_7 rfl (lh_at hl 2 rfl) ?_
  refine r_getR E w ea1 ho2 cl_X3 10 rfl fl_X0_17 dX0_reckon_8 ?_
  refine lv_iload_n (x := x2) hx hb dX0_reckon_11 rfl (lh_at hl 3 rfl) ?_
  refine lv_iconst (v := (1 : Int32)) hx hb dX0_reckon_12 (by decide) ?_
  refine lv_iadd hx hb dX0_reckon_13 ?_
  obtain ⟨ha5, h⟩ := h
  refine r_iald E w ea3 ha5 dX0_reckon_14 ?_
  refine r_istore (lv' := [(4, iv (gI M a3 (Int32.toNatClampNeg (x2 + (1 : Int32))))), (3, iv (gI M a3 (Int32.toNatClampNeg x2))), (0, rv (some h0)), (1, rv x1), (2, iv x2)]) hx hb dX0_reckon_15 hl (by decide) rfl (fun ls hl => ?_)
  refine r_aload_n (x := x1) hx hb dX0_reckon_17 rfl (lh_at hl 3 rfl) ?_
  refine r_getR E w ea1 ho2 cl_X3 10 rfl fl_X0_17 dX0_reckon_18 ?_
  refine lv_iload_n (x := x2) hx hb dX0_reckon_21 rfl (lh_at hl 4 rfl) ?_
  refine lv_iconst (v := (2 : Int32)) hx hb dX0_reckon_22 (by decide) ?_
  refine lv_iadd hx hb dX0_reckon_23 ?_
  obtain ⟨ha6, h⟩ := h
  refine r_iald E w ea3 ha6 dX0_reckon_24 ?_
  refine r_istore (lv' := [(5, iv (gI M a3 (Int32.toNatClampNeg (x2 + (2 : Int32))))), (4, iv (gI M a3 (Int32.toNatClampNeg (x2 + (1 : Int32))))), (3, iv (gI M a3 (Int32.toNatClampNeg x2))), (0, rv (some h0)), (1, rv x1), (2, iv x2)]) hx hb dX0_reckon_25 hl (by decide) rfl (fun ls hl => ?_)
  refine lv_iload (x := (gI M a3 (Int32.toNatClampNeg (x2 + (2 : Int32))))) hx hb dX0_reckon_27 (lh_at hl 0 rfl) ?_
  refine lv_iload_n (x := (gI M a3 (Int32.toNatClampNeg x2))) hx hb dX0_reckon_29 rfl (lh_at hl 2 rfl) ?_
  refine lv_isub hx hb dX0_reckon_30 ?_
  refine r_istore (lv' := [(6, iv ((gI M a3 (Int32.toNatClampNeg (x2 + (2 : Int32)))) - (gI M a3 (Int32.toNatClampNeg x2)))), (5, iv (gI M a3 (Int32.toNatClampNeg (x2 + (2 : Int32))))), (4, iv (gI M a3 (Int32.toNatClampNeg (x2 + (1 : Int32))))), (3, iv (gI M a3 (Int32.toNatClampNeg x2))), (0, rv (some h0)), (1, rv x1), (2, iv x2)]) hx hb dX0_reckon_31 hl (by decide) rfl (fun ls hl => ?_)
  refine lv_iload (x := ((gI M a3 (Int32.toNatClampNeg (x2 + (2 : Int32)))) - (gI M a3 (Int32.toNatClampNeg x2)))) hx hb dX0_reckon_33 (lh_at hl 0 rfl) ?_
  refine lv_bipush (v := (20 : Int32)) hx hb dX0_reckon_35 (by decide) ?_
  refine lv_icmp_le (tgt := 42) hx hb dX0_reckon_37 (by decide) (fun c7 => ?_) (fun c7 => ?_)
  · have h := h.1 c7
    refine lv_iload (x := (gI M a3 (Int32.toNatClampNeg (x2 + (2 : Int32))))) hx hb dX0_reckon_42 (lh_at hl 1 rfl) ?_
    refine lv_iload (x := (gI M a3 (Int32.toNatClampNeg (x2 + (1 : Int32))))) hx hb dX0_reckon_44 (lh_at hl 2 rfl) ?_
    refine lv_isub hx hb dX0_reckon_46 ?_
    refine lv_iload (x := (gI M a3 (Int32.toNatClampNeg (x2 + (1 : Int32))))) hx hb dX0_reckon_47 (lh_at hl 2 rfl) ?_
    refine lv_iload_n (x := (gI M a3 (Int32.toNatClampNeg x2))) hx hb dX0_reckon_49 rfl (lh_at hl 3 rfl) ?_
    refine lv_isub hx hb dX0_reckon_50 ?_
    refine lv_icmp_gt (tgt := 58) hx hb dX0_reckon_51 (by decide) (fun c8 => ?_) (fun c8 => ?_)
    · have h := h.1 c8
      refine lv_iconst (v := (0 : Int32)) hx hb dX0_reckon_58 (by decide) ?_
      exact k_X0_reckon_59 E hr hlk  _ _ _ _ _ _ _ _ _ _ _ _ h w (lh_sub hl [4, 5, 6, 3, 2, 1, 0] rfl)
    · have h := h.2 c8
      refine lv_iconst (v := (1 : Int32)) hx hb dX0_reckon_54 (by decide) ?_
      refine lv_goto (tgt := 59) hx hb dX0_reckon_55 (by decide) ?_
      exact k_X0_reckon_59 E hr hlk  _ _ _ _ _ _ _ _ _ _ _ _ h w (lh_sub hl [4, 5, 6, 3, 2, 1, 0] rfl)
  · have h := h.2 c7
    refine lv_iconst (v := (0 : Int32)) hx hb dX0_reckon_40 (by decide) ?_
    exact r_zret E w hr hlk ⟨Or.inl rfl, h⟩ (Nat.le_refl 0) (Nat.le_refl 0) dX0_reckon_41
theorem K_X0_reckon {l : Launch} {Q : Int32 → Mm → Prop} {h0 : Nat} {x1 : Option Nat} {x2 : Int32} {M : Mm} (h : B_X0_reckon_0 Q h0 x1 x2 M) : KI l yX0_reckon cdX0_reckon (rmm 2 0 0) [rv (some h0), rv x1, iv x2] M Q :=
  KI_of (by decide) rfl (Nat.le_of_ble_eq_true rfl) (fun p e s m args below meth c D cy A ls E hr hlk hn w hl => k_X0_reckon_0 E hr hlk _ _ _ _ _ _ _ h w hl)
