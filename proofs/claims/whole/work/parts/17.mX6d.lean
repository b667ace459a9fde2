def B_X6_gcd_6 (Q : Int64 → Mm → Prop)  : Nat → Int64 → Int64 → Mm → Prop
  | 0, _, _, _ => False
  | n + 1, x4, x6, M => (((lg_cmp x6 (0 : Int64)) = 0 → Q x4 M) ∧ (¬ (lg_cmp x6 (0 : Int64)) = 0 → (¬ x6 = 0 ∧ B_X6_gcd_6 Q  n x6 (x4 - x4 / x6 * x6) M)))
set_option maxHeartbeats 4000000 in
set_option maxRecDepth 100000 in
theorem k_X6_gcd_6 {p : Program} {l : Launch} {e : Env} {s : State} {m : MethodId} {args : Array Value} {below : List Frame} {meth : Method} {c : Code} {D : va_G} {cy : Nat → ClassId} {A : Nat → Prop} {Q : Int64 → Mm → Prop} (E : Ex p m c cX6_gcd 10 s args RX6 D cy A) (hr : meth.sig.returnType = (some .long)) (hlk : meth.locks = false) : ∀ (n : Nat), ∀ (x4 : Int64) (x6 : Int64) (M : Mm) (H : Heap) (locs : List Loc) (ls : Array Slot), B_X6_gcd_6 Q  n x4 x6 M → Wd D cy A s M H locs → lh ls 10 [(4, jv x4), (6, jv x6)] → W p l e (rmm 0 0 0) s m args below meth c H locs 0 0 (MQ below (va_Ql Q (Po D cy A) A) args s 0 0 A) (F0 m 6 ls []) := by
  obtain ⟨hx, hb, hml, hown, hts⟩ := E.1
  intro n
  induction n with
  | zero => intro x4 x6 M H locs ls h; exact False.elim h
  | succ n ih =>
    intro x4 x6 M H locs ls h w hl
    unfold B_X6_gcd_6 at h
    refine lv_lload (x := x6) hx hb dX6_gcd_6 (lh_at hl 1 rfl) ?_
    refine lv_lconst (v := (0 : Int64)) hx hb dX6_gcd_8 (by decide) ?_
    refine W.lcmp hx hb dX6_gcd_9 ?_
    refine lv_if_eq (tgt := 31) hx hb dX6_gcd_10 (by decide) (fun c1 => ?_) (fun c1 => ?_)
    · have h := h.1 c1
      refine lv_lload (x := x4) hx hb dX6_gcd_31 (lh_at hl 0 rfl) ?_
      exact r_lret E w hr hlk h (Nat.le_refl 0) (Nat.le_refl 0) dX6_gcd_33
    · have h := h.2 c1
      refine lv_lload (x := x4) hx hb dX6_gcd_13 (lh_at hl 0 rfl) ?_
      refine lv_lload (x := x6) hx hb dX6_gcd_15 (lh_at hl 1 rfl) ?_
      obtain ⟨hz2, h⟩ := h
      refine lv_lrem hx hb dX6_gcd_17 hz2 ?_
      refine r_lstore (lv' := [(8, jv (x4 - x4 / x6 * x6)), (4, jv x4), (6, jv x6)]) hx hb dX6_gcd_18 hl (by decide) rfl (fun ls hl => ?_)
      refine lv_lload (x := x6) hx hb dX6_gcd_20 (lh_at hl 2 rfl) ?_
      refine r_lstore (lv' := [(4, jv x6), (8, jv (x4 - x4 / x6 * x6)), (6, jv x6)]) hx hb dX6_gcd_22 hl (by decide) rfl (fun ls hl => ?_)
      refine lv_lload (x := (x4 - x4 / x6 * x6)) hx hb dX6_gcd_24 (lh_at hl 1 rfl) ?_
      refine r_lstore (lv' := [(6, jv (x4 - x4 / x6 * x6)), (4, jv x6), (8, jv (x4 - x4 / x6 * x6))]) hx hb dX6_gcd_26 hl (by decide) rfl (fun ls hl => ?_)
      refine lv_goto (tgt := 6) hx hb dX6_gcd_28 (by decide) ?_
      exact ih _ _ _ _ _ _ h w (lh_sub hl [1, 0] rfl)
def B_X6_gcd_0 (Q : Int64 → Mm → Prop)  (x0 : Int64) (x2 : Int64) (M : Mm) : Prop := (∃ n1, B_X6_gcd_6 Q  n1 x0 x2 M)
set_option maxHeartbeats 4000000 in
set_option maxRecDepth 100000 in
theorem k_X6_gcd_0 {p : Program} {l : Launch} {e : Env} {s : State} {m : MethodId} {args : Array Value} {below : List Frame} {meth : Method} {c : Code} {D : va_G} {cy : Nat → ClassId} {A : Nat → Prop} {Q : Int64 → Mm → Prop} (E : Ex p m c cX6_gcd 10 s args RX6 D cy A) (hr : meth.sig.returnType = (some .long)) (hlk : meth.locks = false) : ∀ (x0 : Int64) (x2 : Int64) (M : Mm) (H : Heap) (locs : List Loc) (ls : Array Slot), B_X6_gcd_0 Q  x0 x2 M → Wd D cy A s M H locs → lh ls 10 [(0, jv x0), (2, jv x2)] → W p l e (rmm 0 0 0) s m args below meth c H locs 0 0 (MQ below (va_Ql Q (Po D cy A) A) args s 0 0 A) (F0 m 0 ls []) := by
  obtain ⟨hx, hb, hml, hown, hts⟩ := E.1
  intro x0 x2 M H locs ls h w hl
  unfold B_X6_gcd_0 at h
  refine lv_lload_n (x := x0) hx hb dX6_gcd_0 rfl (lh_at hl 0 rfl) ?_
  refine r_lstore (lv' := [(4, jv x0), (0, jv x0), (2, jv x2)]) hx hb dX6_gcd_1 hl (by decide) rfl (fun ls hl => ?_)
  refine lv_lload_n (x := x2) hx hb dX6_gcd_3 rfl (lh_at hl 2 rfl) ?_
  refine r_lstore (lv' := [(6, jv x2), (4, jv x0), (0, jv x0), (2, jv x2)]) hx hb dX6_gcd_4 hl (by decide) rfl (fun ls hl => ?_)
  obtain ⟨n1, h⟩ := h
  exact k_X6_gcd_6 E hr hlk  n1 _ _ _ _ _ _ h w (lh_sub hl [1, 0] rfl)
theorem K_X6_gcd {l : Launch} {Q : Int64 → Mm → Prop} {x0 : Int64} {x2 : Int64} {M : Mm} (h : B_X6_gcd_0 Q x0 x2 M) : KL l yX6_gcd cdX6_gcd (rmm 0 0 0) [jv x0, jv x2] M Q :=
  KL_of (by decide) rfl (Nat.le_of_ble_eq_true rfl) (fun p e s m args below meth c D cy A ls E hr hlk hn w hl => k_X6_gcd_0 E hr hlk _ _ _ _ _ _ h w hl)
def B_X6_odds_0 (Q : Int32 → Mm → Prop)  (h0 : Nat) (x1 : Int32) (x2 : Int32) (x3 : Int32) (M : Mm) : Prop := (ok M h0 6 ∧ (B_X6_need_0 (fun r3 M2 => ((0 ≤ r3 → (ok M2 h0 6 ∧ (B_X6_isCut_0 (fun r7 M6 => ((¬ r7 = 0 → (ok M6 h0 6 ∧ (B_X6_layOdds_0 (fun r11 M10 => ((¬ r11 = 0 → (ok M10 h0 6 ∧ (B_X6_gcd_0 (fun r15 M14 => (ok M14 h0 6 ∧ (¬ r15 = 0 ∧ (∀ M18, M18 = pJ M14 h0 27 ((gJ M14 h0 25) / r15) → (¬ r15 = 0 ∧ (∀ M20, M20 = pJ M18 h0 28 ((gJ M18 h0 26) / r15) → Q (1 : Int32) M20)))))) (gJ M10 h0 25) (gJ M10 h0 26) M10))) ∧ (r11 = 0 → Q (0 : Int32) M10))) h0 x3 M6))) ∧ (r7 = 0 → Q (-9 : Int32) M6))) h0 x3 M2))) ∧ (¬ 0 ≤ r3 → Q r3 M2))) h0 x1 x2 M))
set_option maxHeartbeats 4000000 in
set_option maxRecDepth 100000 in
theorem k_X6_odds_0 {p : Program} {l : Launch} {e : Env} {s : State} {m : MethodId} {args : Array Value} {below : List Frame} {meth : Method} {c : Code} {D : va_G} {cy : Nat → ClassId} {A : Nat → Prop} {Q : Int32 → Mm → Prop} (E : Ex p m c cX6_odds 7 s args RX6 D cy A) (hr : meth.sig.returnType = (some .int)) (hlk : meth.locks = false) : ∀ (h0 : Nat) (x1 : Int32) (x2 : Int32) (x3 : Int32) (M : Mm) (H : Heap) (locs : List Loc) (ls : Array Slot), B_X6_odds_0 Q  h0 x1 x2 x3 M → Wd D cy A s M H locs → lh ls 7 [(0, rv (some h0)), (1, iv x1), (2, iv x2), (3, iv x3)] → W p l e (rmm 4 0 0) s m args below meth c H locs 0 0 (MQ below (va_Qi Q (Po D cy A) A) args s 0 0 A) (F0 m 0 ls []) := by
  obtain ⟨hx, hb, hml, hown, hts⟩ := E.1
  intro h0 x1 x2 x3 M H locs ls h w hl
  unfold B_X6_odds_0 at h
  refine r_aload_n (x := (some h0)) hx hb dX6_odds_0 rfl (lh_at hl 0 rfl) ?_
  refine lv_iload_n (x := x1) hx hb dX6_odds_1 rfl (lh_at hl 1 rfl) ?_
  refine lv_iload_n (x := x2) hx hb dX6_odds_2 rfl (lh_at hl 2 rfl) ?_
  obtain ⟨ho1, h⟩ := h
  refine z_callVi E w rfl ho1 cl_X6 yk_X6_need ⟨Nat.le_of_ble_eq_true rfl, Nat.le_of_ble_eq_true rfl⟩ ⟨(Nat.zero_le _), (Nat.zero_le _)⟩ rfl ml_X6_119 im_X6_need sl_X6_need [iv x1, iv x2] rfl rfl hl [] rfl (Nat.le_of_ble_eq_true rfl) (K_X6_need h) dX6_odds_3 (fun r3 M2 H locs h w => ?_)
  refine r_istore (lv' := [(4, iv r3), (0, rv (some h0)), (1, iv x1), (2, iv x2), (3, iv x3)]) hx hb dX6_odds_6 hl (by decide) rfl (fun ls hl => ?_)
  refine lv_iload (x := r3) hx hb dX6_odds_8 (lh_at hl 0 rfl) ?_
  refine lv_if_ge (tgt := 16) hx hb dX6_odds_10 (by decide) (fun c4 => ?_) (fun c4 => ?_)
  · have h := h.1 c4
    refine r_aload_n (x := (some h0)) hx hb dX6_odds_16 rfl (lh_at hl 1 rfl) ?_
    refine lv_iload_n (x := x3) hx hb dX6_odds_17 rfl (lh_at hl 4 rfl) ?_
    obtain ⟨ho5, h⟩ := h
    refine z_callVi E w rfl ho5 cl_X6 yk_X6_isCut ⟨Nat.le_of_ble_eq_true rfl, Nat.le_of_ble_eq_true rfl⟩ ⟨(Nat.zero_le _), (Nat.zero_le _)⟩ rfl ml_X6_135 im_X6_isCut sl_X6_isCut [iv x3] rfl rfl hl [] rfl (Nat.le_of_ble_eq_true rfl) (K_X6_isCut h) dX6_odds_18 (fun r7 M6 H locs h w => ?_)
    refine lv_if_ne (tgt := 27) hx hb dX6_odds_21 (by decide) (fun c8 => ?_) (fun c8 => ?_)
    · have h := h.1 c8
      refine r_aload_n (x := (some h0)) hx hb dX6_odds_27 rfl (lh_at hl 1 rfl) ?_
      refine lv_iload_n (x := x3) hx hb dX6_odds_28 rfl (lh_at hl 4 rfl) ?_
      obtain ⟨ho9, h⟩ := h
      refine z_callVi E w rfl ho9 cl_X6 yk_X6_layOdds ⟨Nat.le_of_ble_eq_true rfl, Nat.le_of_ble_eq_true rfl⟩ ⟨(Nat.zero_le _), (Nat.zero_le _)⟩ rfl ml_X6_164 im_X6_layOdds sl_X6_layOdds [iv x3] rfl rfl hl [] rfl (Nat.le_of_ble_eq_true rfl) (K_X6_layOdds h) dX6_odds_29 (fun r11 M10 H locs h w => ?_)
      refine lv_if_ne (tgt := 37) hx hb dX6_odds_32 (by decide) (fun c12 => ?_) (fun c12 => ?_)
      · have h := h.1 c12
        refine r_aload_n (x := (some h0)) hx hb dX6_odds_37 rfl (lh_at hl 1 rfl) ?_
        obtain ⟨ho13, h⟩ := h
        refine r_getJ E w rfl ho13 cl_X6 25 rfl fl_X6_158 dX6_odds_38 ?_
        refine r_aload_n (x := (some h0)) hx hb dX6_odds_41 rfl (lh_at hl 1 rfl) ?_
        refine r_getJ E w rfl ho13 cl_X6 26 rfl fl_X6_161 dX6_odds_42 ?_
        refine z_callSl E w yk_X6_gcd ⟨Nat.le_of_ble_eq_true rfl, Nat.le_of_ble_eq_true rfl⟩ ⟨(Nat.zero_le _), (Nat.zero_le _)⟩ rfl ml_X6_167 st_X6_gcd [jv (gJ M10 h0 25), jv (gJ M10 h0 26)] rfl rfl hl [] rfl (Nat.le_of_ble_eq_true rfl) (K_X6_gcd h) dX6_odds_45 (fun r15 M14 H locs h w => ?_)
        refine r_lstore (lv' := [(5, jv r15), (4, iv r3), (0, rv (some h0)), (1, iv x1), (2, iv x2), (3, iv x3)]) hx hb dX6_odds_48 hl (by decide) rfl (fun ls hl => ?_)
        refine r_aload_n (x := (some h0)) hx hb dX6_odds_50 rfl (lh_at hl 2 rfl) ?_
        refine r_aload_n (x := (some h0)) hx hb dX6_odds_51 rfl (lh_at hl 2 rfl) ?_
        obtain ⟨ho16, h⟩ := h
        refine r_getJ E w rfl ho16 cl_X6 25 rfl fl_X6_158 dX6_odds_52 ?_
        refine lv_lload (x := r15) hx hb dX6_odds_55 (lh_at hl 0 rfl) ?_
        obtain ⟨hz17, h⟩ := h
        refine lv_ldiv hx hb dX6_odds_57 hz17 ?_
        refine r_putJ (v := ((gJ M14 h0 25) / r15)) E w rfl ho16 cl_X6 27 rfl fl_X6_171 (Or.inl rfl) rfl dX6_odds_58 (fun H locs w => ?_)
        obtain ⟨M18, eM18⟩ : ∃ z, z = pJ M14 h0 27 ((gJ M14 h0 25) / r15) := ⟨_, rfl⟩
        rw [← eM18] at w
        have h := h M18 eM18
        refine r_aload_n (x := (some h0)) hx hb dX6_odds_61 rfl (lh_at hl 2 rfl) ?_
        refine r_aload_n (x := (some h0)) hx hb dX6_odds_62 rfl (lh_at hl 2 rfl) ?_
        have ho16 : ok M18 h0 6 := by rw [eM18]; exact ho16
        refine r_getJ E w rfl ho16 cl_X6 26 rfl fl_X6_161 dX6_odds_63 ?_
        refine lv_lload (x := r15) hx hb dX6_odds_66 (lh_at hl 0 rfl) ?_
        obtain ⟨hz19, h⟩ := h
        refine lv_ldiv hx hb dX6_odds_68 hz19 ?_
        refine r_putJ (v := ((gJ M18 h0 26) / r15)) E w rfl ho16 cl_X6 28 rfl fl_X6_77 (Or.inl rfl) rfl dX6_odds_69 (fun H locs w => ?_)
        obtain ⟨M20, eM20⟩ : ∃ z, z = pJ M18 h0 28 ((gJ M18 h0 26) / r15) := ⟨_, rfl⟩
        rw [← eM20] at w
        have h := h M20 eM20
        refine lv_iconst (v := (1 : Int32)) hx hb dX6_odds_72 (by decide) ?_
        exact r_iret E w hr hlk h (Nat.le_refl 0) (Nat.le_refl 0) dX6_odds_73
      · have h := h.2 c12
        refine lv_iconst (v := (0 : Int32)) hx hb dX6_odds_35 (by decide) ?_
        exact r_iret E w hr hlk h (Nat.le_refl 0) (Nat.le_refl 0) dX6_odds_36
    · have h := h.2 c8
      refine lv_bipush (v := (-9 : Int32)) hx hb dX6_odds_24 (by decide) ?_
      exact r_iret E w hr hlk h (Nat.le_refl 0) (Nat.le_refl 0) dX6_odds_26
  · have h := h.2 c4
    refine lv_iload (x := r3) hx hb dX6_odds_13 (lh_at hl 0 rfl) ?_
    exact r_iret E w hr hlk h (Nat.le_refl 0) (Nat.le_refl 0) dX6_odds_15
theorem K_X6_odds {l : Launch} {Q : Int32 → Mm → Prop} {h0 : Nat} {x1 : Int32} {x2 : Int32} {x3 : Int32} {M : Mm} (h : B_X6_odds_0 Q h0 x1 x2 x3 M) : KI l yX6_odds cdX6_odds (rmm 4 0 0) [rv (some h0), iv x1, iv x2, iv x3] M Q :=
  KI_of (by decide) rfl (Nat.le_of_ble_eq_true rfl) (fun p e s m args below meth c D cy A ls E hr hlk hn w hl => k_X6_odds_0 E hr hlk _ _ _ _ _ _ _ _ h w hl)
def B_X6_upper_0 (Q : Int64 → Mm → Prop)  (h0 : Nat) (M : Mm) : Prop := (ok M h0 6 ∧ Q (gJ M h0 27) M)
set_option maxHeartbeats 4000000 in
set_option maxRecDepth 100000 in
theorem k_X6_upper_0 {p : Program} {l : Launch} {e : Env} {s : State} {m : MethodId} {args : Array Value} {below : List Frame} {meth : Method} {c : Code} {D : va_G} {cy : Nat → ClassId} {A : Nat → Prop} {Q : Int64 → Mm → Prop} (E : Ex p m c cX6_upper 1 s args RX6 D cy A) (hr : meth.sig.returnType = (some .long)) (hlk : meth.locks = false) : ∀ (h0 : Nat) (M : Mm) (H : Heap) (locs : List Loc) (ls : Array Slot), B_X6_upper_0 Q  h0 M → Wd D cy A s M H locs → lh ls 1 [(0, rv (some h0))] → W p l e (rmm 0 0 0) s m args below meth c H locs 0 0 (MQ below (va_Ql Q (Po D cy A) A) args s 0 0 A) (F0 m 0 ls []) := by
  obtain ⟨hx, hb, hml, hown, hts⟩ := E.1
  intro h0 M H locs ls h w hl
  unfold B_X6_upper_0 at h
  refine r_aload_n (x := (some h0)) hx hb dX6_upper_0 rfl (lh_at hl 0 rfl) ?_
  obtain ⟨ho1, h⟩ := h
  refine r_getJ E w rfl ho1 cl_X6 27 rfl fl_X6_171 dX6_upper_1 ?_
  exact r_lret E w hr hlk h (Nat.le_refl 0) (Nat.le_refl 0) dX6_upper_4
theorem K_X6_upper {l : Launch} {Q : Int64 → Mm → Prop} {h0 : Nat} {M : Mm} (h : B_X6_upper_0 Q h0 M) : KL l yX6_upper cdX6_upper (rmm 0 0 0) [rv (some h0)] M Q :=
  KL_of (by decide) rfl (Nat.le_of_ble_eq_true rfl) (fun p e s m args below meth c D cy A ls E hr hlk hn w hl => k_X6_upper_0 E hr hlk _ _ _ _ _ h w hl)
def B_X6_lower_0 (Q : Int64 → Mm → Prop)  (h0 : Nat) (M : Mm) : Prop := (ok M h0 6 ∧ Q (gJ M h0 28) M)
set_option maxHeartbeats 4000000 in
set_option maxRecDepth 100000 in
theorem k_X6_lower_0 {p : Program} {l : Launch} {e : Env} {s : State} {m : MethodId} {args : Array Value} {below : List Frame} {meth : Method} {c : Code} {D : va_G} {cy : Nat → ClassId} {A : Nat → Prop} {Q : Int64 → Mm → Prop} (E : Ex p m c cX6_lower 1 s args RX6 D cy A) (hr : meth.sig.returnType = (some .long)) (hlk : meth.locks = false) : ∀ (h0 : Nat) (M : Mm) (H : Heap) (locs : List Loc) (ls : Array Slot), B_X6_lower_0 Q  h0 M → Wd D cy A s M H locs → lh ls 1 [(0, rv (some h0))] → W p l e (rmm 0 0 0) s m args below meth c H locs 0 0 (MQ below (va_Ql Q (Po D cy A) A) args s 0 0 A) (F0 m 0 ls []) := by
  obtain ⟨hx, hb, hml, hown, hts⟩ := E.1
  intro h0 M H locs ls h w hl
  unfold B_X6_lower_0 at h
  refine r_aload_n (x := (some h0)) hx hb dX6_lower_0 rfl (lh_at hl 0 rfl) ?_
  obtain ⟨ho1, h⟩ := h
  refine r_getJ E w rfl ho1 cl_X6 28 rfl fl_X6_77 dX6_lower_1 ?_
  exact r_lret E w hr hlk h (Nat.le_refl 0) (Nat.le_refl 0) dX6_lower_4
theorem K_X6_lower {l : Launch} {Q : Int64 → Mm → Prop} {h0 : Nat} {M : Mm} (h : B_X6_lower_0 Q h0 M) : KL l yX6_lower cdX6_lower (rmm 0 0 0) [rv (some h0)] M Q :=
  KL_of (by decide) rfl (Nat.le_of_ble_eq_true rfl) (fun p e s m args below meth c D cy A ls E hr hlk hn w hl => k_X6_lower_0 E hr hlk _ _ _ _ _ h w hl)
def B_X6_isLoud_47 (Q : Int32 → Mm → Prop)  (h0 : Nat) (x3 : Int32) (x5 : Int32) (x6 : Int32) (M : Mm) : Prop := (ok M h0 6 ∧ (B_X6_layOdds_0 (fun r3 M2 => ((r3 = 0 → Q (1 : Int32) M2) ∧ (¬ r3 = 0 → (ok M2 h0 6 ∧ ((0 < (lg_cmp ((gJ M2 h0 25) * (Int32.toInt64 x6)) ((gJ M2 h0 26) * (Int32.toInt64 x5))) → Q (0 : Int32) M2) ∧ (¬ 0 < (lg_cmp ((gJ M2 h0 25) * (Int32.toInt64 x6)) ((gJ M2 h0 26) * (Int32.toInt64 x5))) → Q (1 : Int32) M2)))))) h0 x3 M))
set_option maxHeartbeats 4000000 in
set_option maxRecDepth 100000 in
theorem k_X6_isLoud_47 {p : Program} {l : Launch} {e : Env} {s : State} {m : MethodId} {args : Array Value} {below : List Frame} {meth : Method} {c : Code} {D : va_G} {cy : Nat → ClassId} {A : Nat → Prop} {Q : Int32 → Mm → Prop} (E : Ex p m c cX6_isLoud 7 s args RX6 D cy A) (hr : meth.sig.returnType = (some .boolean)) (hlk : meth.locks = false) : ∀ (h0 : Nat) (x3 : Int32) (x5 : Int32) (x6 : Int32) (M : Mm) (H : Heap) (locs : List Loc) (ls : Array Slot), B_X6_isLoud_47 Q  h0 x3 x5 x6 M → Wd D cy A s M H locs → lh ls 7 [(0, rv (some h0)), (3, iv x3), (5, iv x5), (6, iv x6)] → W p l e (rmm 2 0 0) s m args below meth c H locs 0 0 (MQ below (va_Qi Q (Po D cy A) A) args s 0 0 A) (F0 m 47 ls []) := by
  obtain ⟨hx, hb, hml, hown, hts⟩ := E.1
  intro h0 x3 x5 x6 M H locs ls h w hl
  unfold B_X6_isLoud_47 at h
  refine r_aload_n (x := (some h0)) hx hb dX6_isLoud_47 rfl (lh_at hl 0 rfl) ?_
  refine lv_iload_n (x := x3) hx hb dX6_isLoud_48 rfl (lh_at hl 1 rfl) ?_
  obtain ⟨ho1, h⟩ := h
  refine z_callVi E w rfl ho1 cl_X6 yk_X6_layOdds ⟨Nat.le_of_ble_eq_true rfl, Nat.le_of_ble_eq_true rfl⟩ ⟨(Nat.zero_le _), (Nat.zero_le _)⟩ rfl ml_X6_164 im_X6_layOdds sl_X6_layOdds [iv x3] rfl rfl hl [] rfl (Nat.le_of_ble_eq_true rfl) (K_X6_layOdds h) dX6_isLoud_49 (fun r3 M2 H locs h w => ?_)
  refine lv_if_eq (tgt := 75) hx hb dX6_isLoud_52 (by decide) (fun c4 => ?_) (fun c4 => ?_)
  · have h := h.1 c4
    refine lv_iconst (v := (1 : Int32)) hx hb dX6_isLoud_75 (by decide) ?_
    refine lv_goto (tgt := 80) hx hb dX6_isLoud_76 (by decide) ?_
    exact r_zret E w hr hlk ⟨Or.inr rfl, h⟩ (Nat.le_refl 0) (Nat.le_refl 0) dX6_isLoud_80
  · have h := h.2 c4
    refine r_aload_n (x := (some h0)) hx hb dX6_isLoud_55 rfl (lh_at hl 0 rfl) ?_
    obtain ⟨ho5, h⟩ := h
    refine r_getJ E w rfl ho5 cl_X6 25 rfl fl_X6_158 dX6_isLoud_56 ?_
    refine lv_iload (x := x6) hx hb dX6_isLoud_59 (lh_at hl 3 rfl) ?_
    refine lv_i2l hx hb dX6_isLoud_61 rfl ?_
    refine lv_lmul hx hb dX6_isLoud_62 ?_
    refine r_aload_n (x := (some h0)) hx hb dX6_isLoud_63 rfl (lh_at hl 0 rfl) ?_
    refine r_getJ E w rfl ho5 cl_X6 26 rfl fl_X6_161 dX6_isLoud_64 ?_
    refine lv_iload (x := x5) hx hb dX6_isLoud_67 (lh_at hl 2 rfl) ?_
    refine lv_i2l hx hb dX6_isLoud_69 rfl ?_
    refine lv_lmul hx hb dX6_isLoud_70 ?_
    refine W.lcmp hx hb dX6_isLoud_71 ?_
    refine lv_if_gt (tgt := 79) hx hb dX6_isLoud_72 (by decide) (fun c6 => ?_) (fun c6 => ?_)
    · have h := h.1 c6
      refine lv_iconst (v := (0 : Int32)) hx hb dX6_isLoud_79 (by decide) ?_
      exact r_zret E w hr hlk ⟨Or.inl rfl, h⟩ (Nat.le_refl 0) (Nat.le_refl 0) dX6_isLoud_80
    · have h := h.2 c6
      refine lv_iconst (v := (1 : Int32)) hx hb dX6_isLoud_75 (by decide) ?_
      refine lv_goto (tgt := 80) hx hb dX6_isLoud_76 (by decide) ?_
      exact r_zret E w hr hlk ⟨Or.inr rfl, h⟩ (Nat.le_refl 0) (Nat.le_refl 0) dX6_isLoud_80
def B_X6_isLoud_0 (Q : Int32 → Mm → Prop)  (h0 : Nat) (x1 : Int32) (x2 : Int32) (x3 : Int32) (x4 : Int32) (x5 : Int32) (x6 : Int32) (M : Mm) : Prop := (ok M h0 6 ∧ (B_X6_sizeOf_0 (fun r3 M2 => ((r3 ≤ 0 → Q (0 : Int32) M2) ∧ (¬ r3 ≤ 0 → (ok M2 h0 6 ∧ (B_X6_sizeOf_0 (fun r7 M6 => ((x4 ≤ r7 → (ok M6 h0 6 ∧ (B_X6_layPairs_0 (fun  M10 => (ok M10 h0 6 ∧ (∃ a12, (gR M10 h0 5) = some a12 ∧ (ar M10 a12 7 x1 ∧ ((¬ (gI M10 a12 (Int32.toNatClampNeg x1)) = (1 : Int32) → B_X6_isLoud_47 Q  h0 x3 x5 x6 M10) ∧ ((gI M10 a12 (Int32.toNatClampNeg x1)) = (1 : Int32) → (∃ a15, (gR M10 h0 23) = some a15 ∧ (ar M10 a15 7 x3 ∧ (((gI M10 a15 (Int32.toNatClampNeg x3)) = (-9 : Int32) → B_X6_isLoud_47 Q  h0 x3 x5 x6 M10) ∧ (¬ (gI M10 a15 (Int32.toNatClampNeg x3)) = (-9 : Int32) → Q (0 : Int32) M10)))))))))) h0  M6))) ∧ (¬ x4 ≤ r7 → Q (0 : Int32) M6))) h0 x3 M2))))) h0 x3 M))
set_option maxHeartbeats 4000000 in
set_option maxRecDepth 100000 in
theorem k_X6_isLoud_0 {p : Program} {l : Launch} {e : Env} {s : State} {m : MethodId} {args : Array Value} {below : List Frame} {meth : Method} {c : Code} {D : va_G} {cy : Nat → ClassId} {A : Nat → Prop} {Q : Int32 → Mm → Prop} (E : Ex p m c cX6_isLoud 7 s args RX6 D cy A) (hr : meth.sig.returnType = (some .boolean)) (hlk : meth.locks = false) : ∀ (h0 : Nat) (x1 : Int32) (x2 : Int32) (x3 : Int32) (x4 : Int32) (x5 : Int32) (x6 : Int32) (M : Mm) (H : Heap) (locs : List Loc) (ls : Array Slot), B_X6_isLoud_0 Q  h0 x1 x2 x3 x4 x5 x6 M → Wd D cy A s M H locs → lh ls 7 [(0, rv (some h0)), (1, iv x1), (2, iv x2), (3, iv x3), (4, iv x4), (5, iv x5), (6, iv x6)] → W p l e (rmm 2 0 0) s m args below meth c H locs 0 0 (MQ below (va_Qi Q (Po D cy A) A) args s 0 0 A) (F0 m 0 ls []) := by
  obtain ⟨hx, hb, hml, hown, hts⟩ := E.1
  intro h0 x1 x2 x3 x4 x5 x6 M H locs ls h w hl
  unfold B_X6_isLoud_0 at h
  refine r_aload_n (x := (some h0)) hx hb dX6_isLoud_0 rfl (lh_at hl 0 rfl) ?_
  refine lv_iload_n (x := x3) hx hb dX6_isLoud_1 rfl (lh_at hl 3 rfl) ?_
  obtain ⟨ho1, h⟩ := h
  refine z_callVi E w rfl ho1 cl_X6 yk_X6_sizeOf ⟨Nat.le_of_ble_eq_true rfl, Nat.le_of_ble_eq_true rfl⟩ ⟨(Nat.zero_le _), (Nat.zero_le _)⟩ rfl ml_X6_141 im_X6_sizeOf sl_X6_sizeOf [iv x3] rfl rfl hl [] rfl (Nat.le_of_ble_eq_true rfl) (K_X6_sizeOf h) dX6_isLoud_2 (fun r3 M2 H locs h w => ?_)
  refine lv_if_le (tgt := 18) hx hb dX6_isLoud_5 (by decide) (fun c4 => ?_) (fun c4 => ?_)
  · have h := h.1 c4
    refine lv_iconst (v := (0 : Int32)) hx hb dX6_isLoud_18 (by decide) ?_
    exact r_zret E w hr hlk ⟨Or.inl rfl, h⟩ (Nat.le_refl 0) (Nat.le_refl 0) dX6_isLoud_19
  · have h := h.2 c4
    refine r_aload_n (x := (some h0)) hx hb dX6_isLoud_8 rfl (lh_at hl 0 rfl) ?_
    refine lv_iload_n (x := x3) hx hb dX6_isLoud_9 rfl (lh_at hl 3 rfl) ?_
    obtain ⟨ho5, h⟩ := h
    refine z_callVi E w rfl ho5 cl_X6 yk_X6_sizeOf ⟨Nat.le_of_ble_eq_true rfl, Nat.le_of_ble_eq_true rfl⟩ ⟨(Nat.zero_le _), (Nat.zero_le _)⟩ rfl ml_X6_141 im_X6_sizeOf sl_X6_sizeOf [iv x3] rfl rfl hl [] rfl (Nat.le_of_ble_eq_true rfl) (K_X6_sizeOf h) dX6_isLoud_10 (fun r7 M6 H locs h w => ?_)
    refine lv_iload (x := x4) hx hb dX6_isLoud_13 (lh_at hl 4 rfl) ?_
    refine lv_icmp_ge (tgt := 20) hx hb dX6_isLoud_15 (by decide) (fun c8 => ?_) (fun c8 => ?_)
    · have h := h.1 c8
      refine r_aload_n (x := (some h0)) hx hb dX6_isLoud_20 rfl (lh_at hl 0 rfl) ?_
      obtain ⟨ho9, h⟩ := h
      refine z_callVv E w rfl ho9 cl_X6 yk_X6_layPairs ⟨Nat.le_of_ble_eq_true rfl, Nat.le_of_ble_eq_true rfl⟩ ⟨(Nat.zero_le _), (Nat.zero_le _)⟩ rfl ml_X6_155 im_X6_layPairs sl_X6_layPairs [] rfl rfl hl [] rfl (Nat.le_of_ble_eq_true rfl) (K_X6_layPairs h) dX6_isLoud_21 (fun  M10 H locs h w => ?_)
      refine r_aload_n (x := (some h0)) hx hb dX6_isLoud_24 rfl (lh_at hl 0 rfl) ?_
      obtain ⟨ho11, h⟩ := h
      refine r_getR E w rfl ho11 cl_X6 5 rfl fl_X6_13 dX6_isLoud_25 ?_
      refine lv_iload_n (x := x1) hx hb dX6_isLoud_28 rfl (lh_at hl 1 rfl) ?_
      obtain ⟨a12, ea12, h⟩ := h
      obtain ⟨ha13, h⟩ := h
      refine r_iald E w ea12 ha13 dX6_isLoud_29 ?_
      refine lv_iconst (v := (1 : Int32)) hx hb dX6_isLoud_30 (by decide) ?_
      refine lv_icmp_ne (tgt := 47) hx hb dX6_isLoud_31 (by decide) (fun c14 => ?_) (fun c14 => ?_)
      · have h := h.1 c14
        exact k_X6_isLoud_47 E hr hlk  _ _ _ _ _ _ _ _ h w (lh_sub hl [0, 3, 5, 6] rfl)
      · have h := h.2 c14
        refine r_aload_n (x := (some h0)) hx hb dX6_isLoud_34 rfl (lh_at hl 0 rfl) ?_
        refine r_getR E w rfl ho11 cl_X6 23 rfl fl_X6_53 dX6_isLoud_35 ?_
        refine lv_iload_n (x := x3) hx hb dX6_isLoud_38 rfl (lh_at hl 3 rfl) ?_
        obtain ⟨a15, ea15, h⟩ := h
        obtain ⟨ha16, h⟩ := h
        refine r_iald E w ea15 ha16 dX6_isLoud_39 ?_
        refine lv_bipush (v := (-9 : Int32)) hx hb dX6_isLoud_40 (by decide) ?_
        refine lv_icmp_eq (tgt := 47) hx hb dX6_isLoud_42 (by decide) (fun c17 => ?_) (fun c17 => ?_)
        · have h := h.1 c17
          exact k_X6_isLoud_47 E hr hlk  _ _ _ _ _ _ _ _ h w (lh_sub hl [0, 3, 5, 6] rfl)
        · have h := h.2 c17
          refine lv_iconst (v := (0 : Int32)) hx hb dX6_isLoud_45 (by decide) ?_
          exact r_zret E w hr hlk ⟨Or.inl rfl, h⟩ (Nat.le_refl 0) (Nat.le_refl 0) dX6_isLoud_46
    · have h := h.2 c8
      refine lv_iconst (v := (0 : Int32)) hx hb dX6_isLoud_18 (by decide) ?_
      exact r_zret E w hr hlk ⟨Or.inl rfl, h⟩ (Nat.le_refl 0) (Nat.le_refl 0) dX6_isLoud_19
theorem K_X6_isLoud {l : Launch} {Q : Int32 → Mm → Prop} {h0 : Nat} {x1 : Int32} {x2 : Int32} {x3 : Int32} {x4 : Int32} {x5 : Int32} {x6 : Int32} {M : Mm} (h : B_X6_isLoud_0 Q h0 x1 x2 x3 x4 x5 x6 M) : KI l yX6_isLoud cdX6_isLoud (rmm 2 0 0) [rv (some h0), iv x1, iv x2, iv x3, iv x4, iv x5, iv x6] M Q :=
  KI_of (by decide) rfl (Nat.le_of_ble_eq_true rfl) (fun p e s m args below meth c D cy A ls E hr hlk hn w hl => k_X6_isLoud_0 E hr hlk _ _ _ _ _ _ _ _ _ _ _ h w hl)
def B_X6_cryOf_137 (Q : Int32 → Mm → Prop) (K27 : Nat → Int32 → Int32 → Int32 → Int32 → Int32 → Int32 → Int32 → Int32 → Int32 → Mm → Prop) (h0 : Nat) (x1 : Int32) (x2 : Int32) (x3 : Int32) (x4 : Int32) (x5 : Int32) (x6 : Int32) (x7 : Int32) (x8 : Int32) (x9 : Int32) (x10 : Int32) (M : Mm) : Prop := (ok M h0 6 ∧ (∀ M2, M2 = pI M h0 30 ((gI M h0 30) + (1 : Int32)) → ((¬ (gI M2 h0 33) = (-9 : Int32) → (∀ M4, M4 = pI M2 h0 33 (gI M2 h0 33) → K27 h0 x1 x2 x3 x4 x5 x6 (x7 + 1) x8 (x9 + 1) M4)) ∧ ((gI M2 h0 33) = (-9 : Int32) → (∀ M5, M5 = pI M2 h0 33 ((((1000 : Int32) * x1) + ((100 : Int32) * x2)) + x10) → K27 h0 x1 x2 x3 x4 x5 x6 (x7 + 1) x8 (x9 + 1) M5)))))
set_option maxHeartbeats 4000000 in
set_option maxRecDepth 100000 in
theorem k_X6_cryOf_137 {p : Program} {l : Launch} {e : Env} {s : State} {m : MethodId} {args : Array Value} {below : List Frame} {meth : Method} {c : Code} {D : va_G} {cy : Nat → ClassId} {A : Nat → Prop} {Q : Int32 → Mm → Prop} (E : Ex p m c cX6_cryOf 11 s args RX6 D cy A) (hr : meth.sig.returnType = (some .int)) (hlk : meth.locks = false) {K27 : Nat → Int32 → Int32 → Int32 → Int32 → Int32 → Int32 → Int32 → Int32 → Int32 → Mm → Prop} (hK27 : ∀ (h0 : Nat) (x1 : Int32) (x2 : Int32) (x3 : Int32) (x4 : Int32) (x5 : Int32) (x6 : Int32) (x7 : Int32) (x8 : Int32) (x9 : Int32) (M : Mm) (H : Heap) (locs : List Loc) (ls : Array Slot), K27 h0 x1 x2 x3 x4 x5 x6 x7 x8 x9 M → Wd D cy A s M H locs → lh ls 11 [(0, rv (some h0)), (1, iv x1), (2, iv x2), (3, iv x3), (4, iv x4), (5, iv x5), (6, iv x6), (7, iv x7), (8, iv x8), (9, iv x9)] → W p l e (rmm 3 0 0) s m args below meth c H locs 0 0 (MQ below (va_Qi Q (Po D cy A) A) args s 0 0 A) (F0 m 27 ls [])) : ∀ (h0 : Nat) (x1 : Int32) (x2 : Int32) (x3 : Int32) (x4 : Int32) (x5 : Int32) (x6 : Int32) (x7 : Int32) (x8 : Int32) (x9 : Int32) (x10 : Int32) (M : Mm) (H : Heap) (locs : List Loc) (ls : Array Slot), B_X6_cryOf_137 Q K27 h0 x1 x2 x3 x4 x5 x6 x7 x8 x9 x10 M → Wd D cy A s M H locs → lh ls 11 [(0, rv (some h0)), (1, iv x1), (2, iv x2), (3, iv x3), (4, iv x4), (5, iv x5), (6, iv x6), (7, iv x7), (8, iv x8), (9, iv x9), (10, iv x10)] → W p l e (rmm 3 0 0) s m args below meth c H locs 0 0 (MQ below (va_Qi Q (Po D cy A) A) args s 0 0 A) (F0 m 137 ls []) := by
  obtain ⟨hx, hb, hml, hown, hts⟩ := E.1
  intro h0 x1 x2 x3 x4 x5 x6 x7 x8 x9 x10 M H locs ls h w hl
  unfold B_X6_cryOf_137 at h
  refine r_aload_n (x := (some h0)) hx hb dX6_cryOf_137 rfl (lh_at hl 0 rfl) ?_
  refine r_dupr hx hb dX6_cryOf_138 ?_
  obtain ⟨ho1, h⟩ := h
  refine r_getI E w rfl ho1 cl_X6 30 rfl fl_X6_178 dX6_cryOf_139 ?_
  refine lv_iconst (v := (1 : Int32)) hx hb dX6_cryOf_142 (by decide) ?_
  refine lv_iadd hx hb dX6_cryOf_143 ?_
  refine r_putI (v := ((gI M h0 30) + (1 : Int32))) E w rfl ho1 cl_X6 30 rfl fl_X6_178 (Or.inl rfl) (Or.inl rfl) dX6_cryOf_144 (fun H locs w => ?_)
  obtain ⟨M2, eM2⟩ : ∃ z, z = pI M h0 30 ((gI M h0 30) + (1 : Int32)) := ⟨_, rfl⟩
  rw [← eM2] at w
  have h := h M2 eM2
  refine r_aload_n (x := (some h0)) hx hb dX6_cryOf_147 rfl (lh_at hl 0 rfl) ?_
  refine r_aload_n (x := (some h0)) hx hb dX6_cryOf_148 rfl (lh_at hl 0 rfl) ?_
  have ho1 : ok M2 h0 6 := by rw [eM2]; exact ho1
  refine r_getI E w rfl ho1 cl_X6 33 rfl fl_X6_181 dX6_cryOf_149 ?_
  refine lv_bipush (v := (-9 : Int32)) hx hb dX6_cryOf_152 (by decide) ?_
  refine lv_icmp_ne (tgt := 173) hx hb dX6_cryOf_154 (by decide) (fun c3 => ?_) (fun c3 => ?_)
  · have h := h.1 c3
    refine r_aload_n (x := (some h0)) hx hb dX6_cryOf_173 rfl (lh_at hl 0 rfl) ?_
    refine r_getI E w rfl ho1 cl_X6 33 rfl fl_X6_181 dX6_cryOf_174 ?_
    refine r_putI (v := (gI M2 h0 33)) E w rfl ho1 cl_X6 33 rfl fl_X6_181 (Or.inl rfl) (Or.inl rfl) dX6_cryOf_177 (fun H locs w => ?_)
    obtain ⟨M4, eM4⟩ : ∃ z, z = pI M2 h0 33 (gI M2 h0 33) := ⟨_, rfl⟩
    rw [← eM4] at w
    have h := h M4 eM4
    refine r_iinc (k := 7) (x := x7) (v := (x7 + 1)) (lv' := [(7, iv (x7 + 1)), (0, rv (some h0)), (1, iv x1), (2, iv x2), (3, iv x3), (4, iv x4), (5, iv x5), (6, iv x6), (8, iv x8), (9, iv x9), (10, iv x10)]) hx hb dX6_cryOf_180 hl rfl rfl (by decide) rfl (fun ls hl => ?_)
    refine r_iinc (k := 9) (x := x9) (v := (x9 + 1)) (lv' := [(9, iv (x9 + 1)), (7, iv (x7 + 1)), (0, rv (some h0)), (1, iv x1), (2, iv x2), (3, iv x3), (4, iv x4), (5, iv x5), (6, iv x6), (8, iv x8), (10, iv x10)]) hx hb dX6_cryOf_183 hl rfl rfl (by decide) rfl (fun ls hl => ?_)
    refine lv_goto (tgt := 27) hx hb dX6_cryOf_186 (by decide) ?_
    exact hK27 _ _ _ _ _ _ _ _ _ _ _ _ _ _ h w (lh_sub hl [2, 3, 4, 5, 6, 7, 8, 1, 9, 0] rfl)
  · have h := h.2 c3
    refine lv_sipush (v := (1000 : Int32)) hx hb dX6_cryOf_157 (by decide) ?_
    refine lv_iload_n (x := x1) hx hb dX6_cryOf_160 rfl (lh_at hl 1 rfl) ?_
    refine lv_imul hx hb dX6_cryOf_161 ?_
    refine lv_bipush (v := (100 : Int32)) hx hb dX6_cryOf_162 (by decide) ?_
    refine lv_iload_n (x := x2) hx hb dX6_cryOf_164 rfl (lh_at hl 2 rfl) ?_
    refine lv_imul hx hb dX6_cryOf_165 ?_
    refine lv_iadd hx hb dX6_cryOf_166 ?_
    refine lv_iload (x := x10) hx hb dX6_cryOf_167 (lh_at hl 10 rfl) ?_
    refine lv_iadd hx hb dX6_cryOf_169 ?_
    refine lv_goto (tgt := 177) hx hb dX6_cryOf_170 (by decide) ?_
    refine r_putI (v := ((((1000 : Int32) * x1) + ((100 : Int32) * x2)) + x10)) E w rfl ho1 cl_X6 33 rfl fl_X6_181 (Or.inl rfl) (Or.inl rfl) dX6_cryOf_177 (fun H locs w => ?_)
    obtain ⟨M5, eM5⟩ : ∃ z, z = pI M2 h0 33 ((((1000 : Int32) * x1) + ((100 : Int32) * x2)) + x10) := ⟨_, rfl⟩
    rw [← eM5] at w
    have h := h M5 eM5
    refine r_iinc (k := 7) (x := x7) (v := (x7 + 1)) (lv' := [(7, iv (x7 + 1)), (0, rv (some h0)), (1, iv x1), (2, iv x2), (3, iv x3), (4, iv x4), (5, iv x5), (6, iv x6), (8, iv x8), (9, iv x9), (10, iv x10)]) hx hb dX6_cryOf_180 hl rfl rfl (by decide) rfl (fun ls hl => ?_)
    refine r_iinc (k := 9) (x := x9) (v := (x9 + 1)) (lv' := [(9, iv (x9 + 1)), (7, iv (x7 + 1)), (0, rv (some h0)), (1, iv x1), (2, iv x2), (3, iv x3), (4, iv x4), (5, iv x5), (6, iv x6), (8, iv x8), (10, iv x10)]) hx hb dX6_cryOf_183 hl rfl rfl (by decide) rfl (fun ls hl => ?_)
    refine lv_goto (tgt := 27) hx hb dX6_cryOf_186 (by decide) ?_
    exact hK27 _ _ _ _ _ _ _ _ _ _ _ _ _ _ h w (lh_sub hl [2, 3, 4, 5, 6, 7, 8, 1, 9, 0] rfl)
def B_X6_cryOf_27 (Q : Int32 → Mm → Prop)  : Nat → Nat → Int32 → Int32 → Int32 → Int32 → Int32 → Int32 → Int32 → Int32 → Int32 → Mm → Prop
  | 0, _, _, _, _, _, _, _, _, _, _, _ => False
  | n + 1, h0, x1, x2, x3, x4, x5, x6, x7, x8, x9, M => ((x8 ≤ x9 → Q x7 M) ∧ (¬ x8 ≤ x9 → (ok M h0 6 ∧ (B_X6_layCuts_0 (fun  M3 => (ok M3 h0 6 ∧ (B_X6_buildOfCut_0 (fun r6 M5 => (ok M5 h0 6 ∧ (B_X6_isLoud_0 (fun r9 M8 => ((r9 = 0 → B_X6_cryOf_27 Q  n h0 x1 x2 x3 x4 x5 x6 x7 x8 (x9 + 1) M8) ∧ (¬ r9 = 0 → (ok M8 h0 6 ∧ (B_X6_isOwn_0 (fun r13 M12 => ((¬ r13 = 0 → B_X6_cryOf_27 Q  n h0 x1 x2 x3 x4 x5 x6 x7 x8 (x9 + 1) M12) ∧ (r13 = 0 → (ok M12 h0 6 ∧ (∃ a16, (gR M12 h0 32) = some a16 ∧ (ar M12 a16 9 (((40 : Int32) * x6) + r6) ∧ ((¬ (gI M12 a16 (Int32.toNatClampNeg (((40 : Int32) * x6) + r6))) = 0 → B_X6_cryOf_27 Q  n h0 x1 x2 x3 x4 x5 x6 x7 x8 (x9 + 1) M12) ∧ ((gI M12 a16 (Int32.toNatClampNeg (((40 : Int32) * x6) + r6))) = 0 → (ar M12 a16 9 (((40 : Int32) * x6) + r6) ∧ (∀ M20, M20 = pI M12 a16 (Int32.toNatClampNeg (((40 : Int32) * x6) + r6)) (1 : Int32) → (((300 : Int32) ≤ (gI M20 h0 30) → B_X6_cryOf_137 Q (fun y0 y1 y2 y3 y4 y5 y6 y7 y8 y9 My => B_X6_cryOf_27 Q n y0 y1 y2 y3 y4 y5 y6 y7 y8 y9 My) h0 x1 x2 x3 x4 x5 x6 x7 x8 x9 r6 M20) ∧ (¬ (300 : Int32) ≤ (gI M20 h0 30) → (∃ a22, (gR M20 h0 31) = some a22 ∧ (ar M20 a22 7 (gI M20 h0 30) ∧ (∀ M24, M24 = pI M20 a22 (Int32.toNatClampNeg (gI M20 h0 30)) ((((1000 : Int32) * x1) + ((100 : Int32) * x2)) + r6) → B_X6_cryOf_137 Q (fun y0 y1 y2 y3 y4 y5 y6 y7 y8 y9 My => B_X6_cryOf_27 Q n y0 y1 y2 y3 y4 y5 y6 y7 y8 y9 My) h0 x1 x2 x3 x4 x5 x6 x7 x8 x9 r6 M24))))))))))))))) h0 x1 x2 x9 M8))))) h0 x1 x2 x9 x3 x4 x5 M5))) h0 x9 M3))) h0 x6 M))))
set_option maxHeartbeats 4000000 in
set_option maxRecDepth 100000 in
theorem k_X6_cryOf_27 {p : Program} {l : Launch} {e : Env} {s : State} {m : MethodId} {args : Array Value} {below : List Frame} {meth : Method} {c : Code} {D : va_G} {cy : Nat → ClassId} {A : Nat → Prop} {Q : Int32 → Mm → Prop} (E : Ex p m c cX6_cryOf 11 s args RX6 D cy A) (hr : meth.sig.returnType = (some .int)) (hlk : meth.locks = false) : ∀ (n : Nat), ∀ (h0 : Nat) (x1 : Int32) (x2 : Int32) (x3 : Int32) (x4 : Int32) (x5 : Int32) (x6 : Int32) (x7 : Int32) (x8 : Int32) (x9 : Int32) (M : Mm) (H : Heap) (locs : List Loc) (ls : Array Slot), B_X6_cryOf_27 Q  n h0 x1 x2 x3 x4 x5 x6 x7 x8 x9 M → Wd D cy A s M H locs → lh ls 11 [(0, rv (some h0)), (1, iv x1), (2, iv x2), (3, iv x3), (4, iv x4), (5, iv x5), (6, iv x6), (7, iv x7), (8, iv x8), (9, iv x9)] → W p l e (rmm 3 0 0) s m args below meth c H locs 0 0 (MQ below (va_Qi Q (Po D cy A) A) args s 0 0 A) (F0 m 27 ls []) := by
  obtain ⟨hx, hb, hml, hown, hts⟩ := E.1
  intro n
  induction n with
  | zero => intro h0 x1 x2 x3 x4 x5 x6 x7 x8 x9 M H locs ls h; exact False.elim h
  | succ n ih =>
    intro h0 x1 x2 x3 x4 x5 x6 x7 x8 x9 M H locs ls h w hl
    unfold B_X6_cryOf_27 at h
    refine lv_iload (x := x9) hx hb dX6_cryOf_27 (lh_at hl 9 rfl) ?_
    refine lv_iload (x := x8) hx hb dX6_cryOf_29 (lh_at hl 8 rfl) ?_
    refine lv_icmp_ge (tgt := 189) hx hb dX6_cryOf_31 (by decide) (fun c1 => ?_) (fun c1 => ?_)
    · have h := h.1 c1
      refine lv_iload (x := x7) hx hb dX6_cryOf_189 (lh_at hl 7 rfl) ?_
      exact r_iret E w hr hlk h (Nat.le_refl 0) (Nat.le_refl 0) dX6_cryOf_191
    · have h := h.2 c1
      refine r_aload_n (x := (some h0)) hx hb dX6_cryOf_34 rfl (lh_at hl 0 rfl) ?_
      refine lv_iload (x := x6) hx hb dX6_cryOf_35 (lh_at hl 6 rfl) ?_
      obtain ⟨ho2, h⟩ := h
      refine z_callVv E w rfl ho2 cl_X6 yk_X6_layCuts ⟨Nat.le_of_ble_eq_true rfl, Nat.le_of_ble_eq_true rfl⟩ ⟨(Nat.zero_le _), (Nat.zero_le _)⟩ rfl ml_X6_115 im_X6_layCuts sl_X6_layCuts [iv x6] rfl rfl hl [] rfl (Nat.le_of_ble_eq_true rfl) (K_X6_layCuts h) dX6_cryOf_37 (fun  M3 H locs h w => ?_)
      refine r_aload_n (x := (some h0)) hx hb dX6_cryOf_40 rfl (lh_at hl 0 rfl) ?_
      refine lv_iload (x := x9) hx hb dX6_cryOf_41 (lh_at hl 9 rfl) ?_
      obtain ⟨ho4, h⟩ := h
      refine z_callVi E w rfl ho4 cl_X6 yk_X6_buildOfCut ⟨Nat.le_of_ble_eq_true rfl, Nat.le_of_ble_eq_true rfl⟩ ⟨(Nat.zero_le _), (Nat.zero_le _)⟩ rfl ml_X6_138 im_X6_buildOfCut sl_X6_buildOfCut [iv x9] rfl rfl hl [] rfl (Nat.le_of_ble_eq_true rfl) (K_X6_buildOfCut h) dX6_cryOf_43 (fun r6 M5 H locs h w => ?_)
      refine r_istore (lv' := [(10, iv r6), (0, rv (some h0)), (1, iv x1), (2, iv x2), (3, iv x3), (4, iv x4), (5, iv x5), (6, iv x6), (7, iv x7), (8, iv x8), (9, iv x9)]) hx hb dX6_cryOf_46 hl (by decide) rfl (fun ls hl => ?_)
      refine r_aload_n (x := (some h0)) hx hb dX6_cryOf_48 rfl (lh_at hl 1 rfl) ?_
      refine lv_iload_n (x := x1) hx hb dX6_cryOf_49 rfl (lh_at hl 2 rfl) ?_
      refine lv_iload_n (x := x2) hx hb dX6_cryOf_50 rfl (lh_at hl 3 rfl) ?_
      refine lv_iload (x := x9) hx hb dX6_cryOf_51 (lh_at hl 10 rfl) ?_
      refine lv_iload_n (x := x3) hx hb dX6_cryOf_53 rfl (lh_at hl 4 rfl) ?_
      refine lv_iload (x := x4) hx hb dX6_cryOf_54 (lh_at hl 5 rfl) ?_
      refine lv_iload (x := x5) hx hb dX6_cryOf_56 (lh_at hl 6 rfl) ?_
      obtain ⟨ho7, h⟩ := h
      refine z_callVi E w rfl ho7 cl_X6 yk_X6_isLoud ⟨Nat.le_of_ble_eq_true rfl, Nat.le_of_ble_eq_true rfl⟩ ⟨(Nat.zero_le _), (Nat.zero_le _)⟩ rfl ml_X6_174 im_X6_isLoud sl_X6_isLoud [iv x1, iv x2, iv x9, iv x3, iv x4, iv x5] rfl rfl hl [] rfl (Nat.le_of_ble_eq_true rfl) (K_X6_isLoud h) dX6_cryOf_58 (fun r9 M8 H locs h w => ?_)
      refine lv_if_eq (tgt := 183) hx hb dX6_cryOf_61 (by decide) (fun c10 => ?_) (fun c10 => ?_)
      · have h := h.1 c10
        refine r_iinc (k := 10) (x := x9) (v := (x9 + 1)) (lv' := [(9, iv (x9 + 1)), (10, iv r6), (0, rv (some h0)), (1, iv x1), (2, iv x2), (3, iv x3), (4, iv x4), (5, iv x5), (6, iv x6), (7, iv x7), (8, iv x8)]) hx hb dX6_cryOf_183 hl rfl rfl (by decide) rfl (fun ls hl => ?_)
        refine lv_goto (tgt := 27) hx hb dX6_cryOf_186 (by decide) ?_
        exact ih _ _ _ _ _ _ _ _ _ _ _ _ _ _ h w (lh_sub hl [2, 3, 4, 5, 6, 7, 8, 9, 10, 0] rfl)
      · have h := h.2 c10
        refine r_aload_n (x := (some h0)) hx hb dX6_cryOf_64 rfl (lh_at hl 1 rfl) ?_
        refine lv_iload_n (x := x1) hx hb dX6_cryOf_65 rfl (lh_at hl 2 rfl) ?_
        refine lv_iload_n (x := x2) hx hb dX6_cryOf_66 rfl (lh_at hl 3 rfl) ?_
        refine lv_iload (x := x9) hx hb dX6_cryOf_67 (lh_at hl 10 rfl) ?_
        obtain ⟨ho11, h⟩ := h
        refine z_callVi E w rfl ho11 cl_X6 yk_X6_isOwn ⟨Nat.le_of_ble_eq_true rfl, Nat.le_of_ble_eq_true rfl⟩ ⟨(Nat.zero_le _), (Nat.zero_le _)⟩ rfl ml_X6_150 im_X6_isOwn sl_X6_isOwn [iv x1, iv x2, iv x9] rfl rfl hl [] rfl (Nat.le_of_ble_eq_true rfl) (K_X6_isOwn h) dX6_cryOf_69 (fun r13 M12 H locs h w => ?_)
        refine lv_if_ne (tgt := 183) hx hb dX6_cryOf_72 (by decide) (fun c14 => ?_) (fun c14 => ?_)
        · have h := h.1 c14
          refine r_iinc (k := 10) (x := x9) (v := (x9 + 1)) (lv' := [(9, iv (x9 + 1)), (10, iv r6), (0, rv (some h0)), (1, iv x1), (2, iv x2), (3, iv x3), (4, iv x4), (5, iv x5), (6, iv x6), (7, iv x7), (8, iv x8)]) hx hb dX6_cryOf_183 hl rfl rfl (by decide) rfl (fun ls hl => ?_)
          refine lv_goto (tgt := 27) hx hb dX6_cryOf_186 (by decide) ?_
          exact ih _ _ _ _ _ _ _ _ _ _ _ _ _ _ h w (lh_sub hl [2, 3, 4, 5, 6, 7, 8, 9, 10, 0] rfl)
        · have h := h.2 c14
          refine r_aload_n (x := (some h0)) hx hb dX6_cryOf_75 rfl (lh_at hl 1 rfl) ?_
          obtain ⟨ho15, h⟩ := h
          refine r_getR E w rfl ho15 cl_X6 32 rfl fl_X6_67 dX6_cryOf_76 ?_
          refine lv_bipush (v := (40 : Int32)) hx hb dX6_cryOf_79 (by decide) ?_
          refine lv_iload (x := x6) hx hb dX6_cryOf_81 (lh_at hl 7 rfl) ?_
          refine lv_imul hx hb dX6_cryOf_83 ?_
          refine lv_iload (x := r6) hx hb dX6_cryOf_84 (lh_at hl 0 rfl) ?_
          refine lv_iadd hx hb dX6_cryOf_86 ?_
          obtain ⟨a16, ea16, h⟩ := h
          obtain ⟨ha17, h⟩ := h
          refine r_zald E w ea16 ha17 dX6_cryOf_87 ?_
          refine lv_if_ne (tgt := 183) hx hb dX6_cryOf_88 (by decide) (fun c18 => ?_) (fun c18 => ?_)
          · have h := h.1 c18
            refine r_iinc (k := 10) (x := x9) (v := (x9 + 1)) (lv' := [(9, iv (x9 + 1)), (10, iv r6), (0, rv (some h0)), (1, iv x1), (2, iv x2), (3, iv x3), (4, iv x4), (5, iv x5), (6, iv x6), (7, iv x7), (8, iv x8)]) hx hb dX6_cryOf_183 hl rfl rfl (by decide) rfl (fun ls hl => ?_)
            refine lv_goto (tgt := 27) hx hb dX6_cryOf_186 (by decide) ?_
            exact ih _ _ _ _ _ _ _ _ _ _ _ _ _ _ h w (lh_sub hl [2, 3, 4, 5, 6, 7, 8, 9, 10, 0] rfl)
          · have h := h.2 c18
            refine r_aload_n (x := (some h0)) hx hb dX6_cryOf_91 rfl (lh_at hl 1 rfl) ?_
            refine r_getR E w rfl ho15 cl_X6 32 rfl fl_X6_67 dX6_cryOf_92 ?_
            refine lv_bipush (v := (40 : Int32)) hx hb dX6_cryOf_95 (by decide) ?_
            refine lv_iload (x := x6) hx hb dX6_cryOf_97 (lh_at hl 7 rfl) ?_
            refine lv_imul hx hb dX6_cryOf_99 ?_
            refine lv_iload (x := r6) hx hb dX6_cryOf_100 (lh_at hl 0 rfl) ?_
            refine lv_iadd hx hb dX6_cryOf_102 ?_
            refine lv_iconst (v := (1 : Int32)) hx hb dX6_cryOf_103 (by decide) ?_
            obtain ⟨ha19, h⟩ := h
            refine r_zast (v := (1 : Int32)) E w ea16 ha19 (Or.inr rfl) dX6_cryOf_104 (fun H locs w => ?_)
            obtain ⟨M20, eM20⟩ : ∃ z, z = pI M12 a16 (Int32.toNatClampNeg (((40 : Int32) * x6) + r6)) (1 : Int32) := ⟨_, rfl⟩
            rw [← eM20] at w
            have h := h M20 eM20
            refine r_aload_n (x := (some h0)) hx hb dX6_cryOf_105 rfl (lh_at hl 1 rfl) ?_
            have ho15 : ok M20 h0 6 := by rw [eM20]; exact ho15
            refine r_getI E w rfl ho15 cl_X6 30 rfl fl_X6_178 dX6_cryOf_106 ?_
            refine lv_sipush (v := (300 : Int32)) hx hb dX6_cryOf_109 (by decide) ?_
            refine lv_icmp_ge (tgt := 137) hx hb dX6_cryOf_112 (by decide) (fun c21 => ?_) (fun c21 => ?_)
            · have h := h.1 c21
              exact k_X6_cryOf_137 E hr hlk ih _ _ _ _ _ _ _ _ _ _ _ _ _ _ _ h w (lh_sub hl [1, 2, 3, 4, 5, 6, 7, 8, 9, 10, 0] rfl)
            · have h := h.2 c21
              refine r_aload_n (x := (some h0)) hx hb dX6_cryOf_115 rfl (lh_at hl 1 rfl) ?_
              refine r_getR E w rfl ho15 cl_X6 31 rfl fl_X6_64 dX6_cryOf_116 ?_
              refine r_aload_n (x := (some h0)) hx hb dX6_cryOf_119 rfl (lh_at hl 1 rfl) ?_
              refine r_getI E w rfl ho15 cl_X6 30 rfl fl_X6_178 dX6_cryOf_120 ?_
              refine lv_sipush (v := (1000 : Int32)) hx hb dX6_cryOf_123 (by decide) ?_
              refine lv_iload_n (x := x1) hx hb dX6_cryOf_126 rfl (lh_at hl 2 rfl) ?_
              refine lv_imul hx hb dX6_cryOf_127 ?_
              refine lv_bipush (v := (100 : Int32)) hx hb dX6_cryOf_128 (by decide) ?_
              refine lv_iload_n (x := x2) hx hb dX6_cryOf_130 rfl (lh_at hl 3 rfl) ?_
              refine lv_imul hx hb dX6_cryOf_131 ?_
              refine lv_iadd hx hb dX6_cryOf_132 ?_
              refine lv_iload (x := r6) hx hb dX6_cryOf_133 (lh_at hl 0 rfl) ?_
              refine lv_iadd hx hb dX6_cryOf_135 ?_
              obtain ⟨a22, ea22, h⟩ := h
              obtain ⟨ha23, h⟩ := h
              refine r_iast (v := ((((1000 : Int32) * x1) + ((100 : Int32) * x2)) + r6)) E w ea22 ha23 dX6_cryOf_136 (fun H locs w => ?_)
              obtain ⟨M24, eM24⟩ : ∃ z, z = pI M20 a22 (Int32.toNatClampNeg (gI M20 h0 30)) ((((1000 : Int32) * x1) + ((100 : Int32) * x2)) + r6) := ⟨_, rfl⟩
              rw [← eM24] at w
              have h := h M24 eM24
              exact k_X6_cryOf_137 E hr hlk ih _ _ _ _ _ _ _ _ _ _ _ _ _ _ _ h w (lh_sub hl [1, 2, 3, 4, 5, 6, 7, 8, 9, 10, 0] rfl)
def B_X6_cryOf_0 (Q : Int32 → Mm → Prop)  (h0 : Nat) (x1 : Int32) (x2 : Int32) (x3 : Int32) (x4 : Int32) (x5 : Int32) (M : Mm) : Prop := (ok M h0 6 ∧ (B_X6_layCuts_0 (fun  M2 => (ok M2 h0 6 ∧ (∃ n4, B_X6_cryOf_27 Q  n4 h0 x1 x2 x3 x4 x5 (((4 : Int32) * x1) + x2) (0 : Int32) ((gI M2 h0 18) - (1 : Int32)) (0 : Int32) M2))) h0 (((4 : Int32) * x1) + x2) M))
set_option maxHeartbeats 4000000 in
set_option maxRecDepth 100000 in
theorem k_X6_cryOf_0 {p : Program} {l : Launch} {e : Env} {s : State} {m : MethodId} {args : Array Value} {below : List Frame} {meth : Method} {c : Code} {D : va_G} {cy : Nat → ClassId} {A : Nat → Prop} {Q : Int32 → Mm → Prop} (E : Ex p m c cX6_cryOf 11 s args RX6 D cy A) (hr : meth.sig.returnType = (some .int)) (hlk : meth.locks = false) : ∀ (h0 : Nat) (x1 : Int32) (x2 : Int32) (x3 : Int32) (x4 : Int32) (x5 : Int32) (M : Mm) (H : Heap) (locs : List Loc) (ls : Array Slot), B_X6_cryOf_0 Q  h0 x1 x2 x3 x4 x5 M → Wd D cy A s M H locs → lh ls 11 [(0, rv (some h0)), (1, iv x1), (2, iv x2), (3, iv x3), (4, iv x4), (5, iv x5)] → W p l e (rmm 3 0 0) s m args below meth c H locs 0 0 (MQ below (va_Qi Q (Po D cy A) A) args s 0 0 A) (F0 m 0 ls []) := by
  obtain ⟨hx, hb, hml, hown, hts⟩ := E.1
  intro h0 x1 x2 x3 x4 x5 M H locs ls h w hl
  unfold B_X6_cryOf_0 at h
  refine lv_iconst (v := (4 : Int32)) hx hb dX6_cryOf_0 (by decide) ?_
  refine lv_iload_n (x := x1) hx hb dX6_cryOf_1 rfl (lh_at hl 1 rfl) ?_
  refine lv_imul hx hb dX6_cryOf_2 ?_
  refine lv_iload_n (x := x2) hx hb dX6_cryOf_3 rfl (lh_at hl 2 rfl) ?_
  refine lv_iadd hx hb dX6_cryOf_4 ?_
  refine r_istore (lv' := [(6, iv (((4 : Int32) * x1) + x2)), (0, rv (some h0)), (1, iv x1), (2, iv x2), (3, iv x3), (4, iv x4), (5, iv x5)]) hx hb dX6_cryOf_5 hl (by decide) rfl (fun ls hl => ?_)
  refine lv_iconst (v := (0 : Int32)) hx hb dX6_cryOf_7 (by decide) ?_
  refine r_istore (lv' := [(7, iv (0 : Int32)), (6, iv (((4 : Int32) * x1) + x2)), (0, rv (some h0)), (1, iv x1), (2, iv x2), (3, iv x3), (4, iv x4), (5, iv x5)]) hx hb dX6_cryOf_8 hl (by decide) rfl (fun ls hl => ?_)
  refine r_aload_n (x := (some h0)) hx hb dX6_cryOf_10 rfl (lh_at hl 2 rfl) ?_
  refine lv_iload (x := (((4 : Int32) * x1) + x2)) hx hb dX6_cryOf_11 (lh_at hl 1 rfl) ?_
  obtain ⟨ho1, h⟩ := h
  refine z_callVv E w rfl ho1 cl_X6 yk_X6_layCuts ⟨Nat.le_of_ble_eq_true rfl, Nat.le_of_ble_eq_true rfl⟩ ⟨(Nat.zero_le _), (Nat.zero_le _)⟩ rfl ml_X6_115 im_X6_layCuts sl_X6_layCuts [iv (((4 : Int32) * x1) + x2)] rfl rfl hl [] rfl (Nat.le_of_ble_eq_true rfl) (K_X6_layCuts h) dX6_cryOf_13 (fun  M2 H locs h w => ?_)
  refine r_aload_n (x := (some h0)) hx hb dX6_cryOf_16 rfl (lh_at hl 2 rfl) ?_
  obtain ⟨ho3, h⟩ := h
  refine r_getI E w rfl ho3 cl_X6 18 rfl fl_X6_132 dX6_cryOf_17 ?_
  refine lv_iconst (v := (1 : Int32)) hx hb dX6_cryOf_20 (by decide) ?_
  refine lv_isub hx hb dX6_cryOf_21 ?_
  refine r_istore (lv' := [(8, iv ((gI M2 h0 18) - (1 : Int32))), (7, iv (0 : Int32)), (6, iv (((4 : Int32) * x1) + x2)), (0, rv (some h0)), (1, iv x1), (2, iv x2), (3, iv x3), (4, iv x4), (5, iv x5)]) hx hb dX6_cryOf_22 hl (by decide) rfl (fun ls hl => ?_)
  refine lv_iconst (v := (0 : Int32)) hx hb dX6_cryOf_24 (by decide) ?_
  refine r_istore (lv' := [(9, iv (0 : Int32)), (8, iv ((gI M2 h0 18) - (1 : Int32))), (7, iv (0 : Int32)), (6, iv (((4 : Int32) * x1) + x2)), (0, rv (some h0)), (1, iv x1), (2, iv x2), (3, iv x3), (4, iv x4), (5, iv x5)]) hx hb dX6_cryOf_25 hl (by decide) rfl (fun ls hl => ?_)
  obtain ⟨n4, h⟩ := h
  exact k_X6_cryOf_27 E hr hlk  n4 _ _ _ _ _ _ _ _ _ _ _ _ _ _ h w (lh_sub hl [4, 5, 6, 7, 8, 9, 3, 2, 1, 0] rfl)
theorem K_X6_cryOf {l : Launch} {Q : Int32 → Mm → Prop} {h0 : Nat} {x1 : Int32} {x2 : Int32} {x3 : Int32} {x4 : Int32} {x5 : Int32} {M : Mm} (h : B_X6_cryOf_0 Q h0 x1 x2 x3 x4 x5 M) : KI l yX6_cryOf cdX6_cryOf (rmm 3 0 0) [rv (some h0), iv x1, iv x2, iv x3, iv x4, iv x5] M Q :=
  KI_of (by decide) rfl (Nat.le_of_ble_eq_true rfl) (fun p e s m args below meth c D cy A ls E hr hlk hn w hl => k_X6_cryOf_0 E hr hlk _ _ _ _ _ _ _ _ _ _ h w hl)
def B_X6_cry_56 (Q : Int32 → Mm → Prop) (K44 : Nat → Int32 → Int32 → Int32 → Int32 → Int32 → Mm → Prop) : Nat → Nat → Int32 → Int32 → Int32 → Int32 → Int32 → Int32 → Mm → Prop
  | 0, _, _, _, _, _, _, _, _ => False
  | n + 1, h0, x1, x2, x3, x4, x5, x6, M => (((4 : Int32) ≤ x6 → K44 h0 x1 x2 x3 x4 (x5 + 1) M) ∧ (¬ (4 : Int32) ≤ x6 → (ok M h0 6 ∧ (∃ a3, (gR M h0 5) = some a3 ∧ (ar M a3 7 x5 ∧ (((gI M a3 (Int32.toNatClampNeg x5)) = (2 : Int32) → K44 h0 x1 x2 x3 x4 (x5 + 1) M) ∧ (¬ (gI M a3 (Int32.toNatClampNeg x5)) = (2 : Int32) → (∃ a6, (gR M h0 6) = some a6 ∧ (ar M a6 9 (((4 : Int32) * x5) + x6) ∧ (((gI M a6 (Int32.toNatClampNeg (((4 : Int32) * x5) + x6))) = 0 → B_X6_cry_56 Q K44 n h0 x1 x2 x3 (x4 + (0 : Int32)) x5 (x6 + 1) M) ∧ (¬ (gI M a6 (Int32.toNatClampNeg (((4 : Int32) * x5) + x6))) = 0 → (B_X6_cryOf_0 (fun r10 M9 => B_X6_cry_56 Q K44 n h0 x1 x2 x3 (x4 + r10) x5 (x6 + 1) M9) h0 x5 x6 x1 x2 x3 M))))))))))))
set_option maxHeartbeats 4000000 in
set_option maxRecDepth 100000 in
theorem k_X6_cry_56 {p : Program} {l : Launch} {e : Env} {s : State} {m : MethodId} {args : Array Value} {below : List Frame} {meth : Method} {c : Code} {D : va_G} {cy : Nat → ClassId} {A : Nat → Prop} {Q : Int32 → Mm → Prop} (E : Ex p m c cX6_cry 7 s args RX6 D cy A) (hr : meth.sig.returnType = (some .int)) (hlk : meth.locks = false) {K44 : Nat → Int32 → Int32 → Int32 → Int32 → Int32 → Mm → Prop} (hK44 : ∀ (h0 : Nat) (x1 : Int32) (x2 : Int32) (x3 : Int32) (x4 : Int32) (x5 : Int32) (M : Mm) (H : Heap) (locs : List Loc) (ls : Array Slot), K44 h0 x1 x2 x3 x4 x5 M → Wd D cy A s M H locs → lh ls 7 [(0, rv (some h0)), (1, iv x1), (2, iv x2), (3, iv x3), (4, iv x4), (5, iv x5)] → W p l e (rmm 4 0 0) s m args below meth c H locs 0 0 (MQ below (va_Qi Q (Po D cy A) A) args s 0 0 A) (F0 m 44 ls [])) : ∀ (n : Nat), ∀ (h0 : Nat) (x1 : Int32) (x2 : Int32) (x3 : Int32) (x4 : Int32) (x5 : Int32) (x6 : Int32) (M : Mm) (H : Heap) (locs : List Loc) (ls : Array Slot), B_X6_cry_56 Q K44 n h0 x1 x2 x3 x4 x5 x6 M → Wd D cy A s M H locs → lh ls 7 [(0, rv (some h0)), (1, iv x1), (2, iv x2), (3, iv x3), (4, iv x4), (5, iv x5), (6, iv x6)] → W p l e (rmm 4 0 0) s m args below meth c H locs 0 0 (MQ below (va_Qi Q (Po D cy A) A) args s 0 0 A) (F0 m 56 ls []) := by
  obtain ⟨hx, hb, hml, hown, hts⟩ := E.1
  intro n
  induction n with
  | zero => intro h0 x1 x2 x3 x4 x5 x6 M H locs ls h; exact False.elim h
  | succ n ih =>
    intro h0 x1 x2 x3 x4 x5 x6 M H locs ls h w hl
    unfold B_X6_cry_56 at h
    refine lv_iload (x := x6) hx hb dX6_cry_56 (lh_at hl 6 rfl) ?_
    refine lv_iconst (v := (4 : Int32)) hx hb dX6_cry_58 (by decide) ?_
    refine lv_icmp_ge (tgt := 114) hx hb dX6_cry_59 (by decide) (fun c1 => ?_) (fun c1 => ?_)
    · have h := h.1 c1
      refine r_iinc (k := 5) (x := x5) (v := (x5 + 1)) (lv' := [(5, iv (x5 + 1)), (0, rv (some h0)), (1, iv x1), (2, iv x2), (3, iv x3), (4, iv x4), (6, iv x6)]) hx hb dX6_cry_114 hl rfl rfl (by decide) rfl (fun ls hl => ?_)
      refine lv_goto (tgt := 44) hx hb dX6_cry_117 (by decide) ?_
      exact hK44 _ _ _ _ _ _ _ _ _ _ h w (lh_sub hl [1, 2, 3, 4, 5, 0] rfl)
    · have h := h.2 c1
      refine r_aload_n (x := (some h0)) hx hb dX6_cry_62 rfl (lh_at hl 0 rfl) ?_
      obtain ⟨ho2, h⟩ := h
      refine r_getR E w rfl ho2 cl_X6 5 rfl fl_X6_13 dX6_cry_63 ?_
      refine lv_iload (x := x5) hx hb dX6_cry_66 (lh_at hl 5 rfl) ?_
      obtain ⟨a3, ea3, h⟩ := h
      obtain ⟨ha4, h⟩ := h
      refine r_iald E w ea3 ha4 dX6_cry_68 ?_
      refine lv_iconst (v := (2 : Int32)) hx hb dX6_cry_69 (by decide) ?_
      refine lv_icmp_eq (tgt := 114) hx hb dX6_cry_70 (by decide) (fun c5 => ?_) (fun c5 => ?_)
      · have h := h.1 c5
        refine r_iinc (k := 5) (x := x5) (v := (x5 + 1)) (lv' := [(5, iv (x5 + 1)), (0, rv (some h0)), (1, iv x1), (2, iv x2), (3, iv x3), (4, iv x4), (6, iv x6)]) hx hb dX6_cry_114 hl rfl rfl (by decide) rfl (fun ls hl => ?_)
        refine lv_goto (tgt := 44) hx hb dX6_cry_117 (by decide) ?_
        exact hK44 _ _ _ _ _ _ _ _ _ _ h w (lh_sub hl [1, 2, 3, 4, 5, 0] rfl)
      · have h := h.2 c5
        refine lv_iload (x := x4) hx hb dX6_cry_73 (lh_at hl 4 rfl) ?_
        refine r_aload_n (x := (some h0)) hx hb dX6_cry_75 rfl (lh_at hl 0 rfl) ?_
        refine r_getR E w rfl ho2 cl_X6 6 rfl fl_X6_16 dX6_cry_76 ?_
        refine lv_iconst (v := (4 : Int32)) hx hb dX6_cry_79 (by decide) ?_
        refine lv_iload (x := x5) hx hb dX6_cry_80 (lh_at hl 5 rfl) ?_
        refine lv_imul hx hb dX6_cry_82 ?_
        refine lv_iload (x := x6) hx hb dX6_cry_83 (lh_at hl 6 rfl) ?_
        refine lv_iadd hx hb dX6_cry_85 ?_
        obtain ⟨a6, ea6, h⟩ := h
        obtain ⟨ha7, h⟩ := h
        refine r_zald E w ea6 ha7 dX6_cry_86 ?_
        refine lv_if_eq (tgt := 104) hx hb dX6_cry_87 (by decide) (fun c8 => ?_) (fun c8 => ?_)
        · have h := h.1 c8
          refine lv_iconst (v := (0 : Int32)) hx hb dX6_cry_104 (by decide) ?_
          refine lv_iadd hx hb dX6_cry_105 ?_
          refine r_istore (lv' := [(4, iv (x4 + (0 : Int32))), (0, rv (some h0)), (1, iv x1), (2, iv x2), (3, iv x3), (5, iv x5), (6, iv x6)]) hx hb dX6_cry_106 hl (by decide) rfl (fun ls hl => ?_)
          refine r_iinc (k := 6) (x := x6) (v := (x6 + 1)) (lv' := [(6, iv (x6 + 1)), (4, iv (x4 + (0 : Int32))), (0, rv (some h0)), (1, iv x1), (2, iv x2), (3, iv x3), (5, iv x5)]) hx hb dX6_cry_108 hl rfl rfl (by decide) rfl (fun ls hl => ?_)
          refine lv_goto (tgt := 56) hx hb dX6_cry_111 (by decide) ?_
          exact ih _ _ _ _ _ _ _ _ _ _ _ h w (lh_sub hl [2, 3, 4, 5, 1, 6, 0] rfl)
        · have h := h.2 c8
          refine r_aload_n (x := (some h0)) hx hb dX6_cry_90 rfl (lh_at hl 0 rfl) ?_
          refine lv_iload (x := x5) hx hb dX6_cry_91 (lh_at hl 5 rfl) ?_
          refine lv_iload (x := x6) hx hb dX6_cry_93 (lh_at hl 6 rfl) ?_
          refine lv_iload_n (x := x1) hx hb dX6_cry_95 rfl (lh_at hl 1 rfl) ?_
          refine lv_iload_n (x := x2) hx hb dX6_cry_96 rfl (lh_at hl 2 rfl) ?_
          refine lv_iload_n (x := x3) hx hb dX6_cry_97 rfl (lh_at hl 3 rfl) ?_
          refine z_callVi E w rfl ho2 cl_X6 yk_X6_cryOf ⟨Nat.le_of_ble_eq_true rfl, Nat.le_of_ble_eq_true rfl⟩ ⟨(Nat.zero_le _), (Nat.zero_le _)⟩ rfl ml_X6_184 im_X6_cryOf sl_X6_cryOf [iv x5, iv x6, iv x1, iv x2, iv x3] rfl rfl hl [iv x4] rfl (Nat.le_of_ble_eq_true rfl) (K_X6_cryOf h) dX6_cry_98 (fun r10 M9 H locs h w => ?_)
          refine lv_goto (tgt := 105) hx hb dX6_cry_101 (by decide) ?_
          refine lv_iadd hx hb dX6_cry_105 ?_
          refine r_istore (lv' := [(4, iv (x4 + r10)), (0, rv (some h0)), (1, iv x1), (2, iv x2), (3, iv x3), (5, iv x5), (6, iv x6)]) hx hb dX6_cry_106 hl (by decide) rfl (fun ls hl => ?_)
          refine r_iinc (k := 6) (x := x6) (v := (x6 + 1)) (lv' := [(6, iv (x6 + 1)), (4, iv (x4 + r10)), (0, rv (some h0)), (1, iv x1), (2, iv x2), (3, iv x3), (5, iv x5)]) hx hb dX6_cry_108 hl rfl rfl (by decide) rfl (fun ls hl => ?_)
          refine lv_goto (tgt := 56) hx hb dX6_cry_111 (by decide) ?_
          exact ih _ _ _ _ _ _ _ _ _ _ _ h w (lh_sub hl [2, 3, 4, 5, 1, 6, 0] rfl)
def B_X6_cry_44 (Q : Int32 → Mm → Prop)  : Nat → Nat → Int32 → Int32 → Int32 → Int32 → Int32 → Mm → Prop
  | 0, _, _, _, _, _, _, _ => False
  | n + 1, h0, x1, x2, x3, x4, x5, M => (ok M h0 6 ∧ (((gI M h0 4) ≤ x5 → ((¬ x4 = 0 → (∀ M4, M4 = pJ M h0 2 (Int32.toInt64 (gI M h0 33)) → Q x4 M4)) ∧ (x4 = 0 → (∀ M5, M5 = pJ M h0 2 (gJ M h0 2) → Q x4 M5)))) ∧ (¬ (gI M h0 4) ≤ x5 → (∃ n6, B_X6_cry_56 Q (fun y0 y1 y2 y3 y4 y5 My => B_X6_cry_44 Q n y0 y1 y2 y3 y4 y5 My) n6 h0 x1 x2 x3 x4 x5 (0 : Int32) M))))
set_option maxHeartbeats 4000000 in
set_option maxRecDepth 100000 in
theorem k_X6_cry_44 {p : Program} {l : Launch} {e : Env} {s : State} {m : MethodId} {args : Array Value} {below : List Frame} {meth : Method} {c : Code} {D : va_G} {cy : Nat → ClassId} {A : Nat → Prop} {Q : Int32 → Mm → Prop} (E : Ex p m c cX6_cry 7 s args RX6 D cy A) (hr : meth.sig.returnType = (some .int)) (hlk : meth.locks = false) : ∀ (n : Nat), ∀ (h0 : Nat) (x1 : Int32) (x2 : Int32) (x3 : Int32) (x4 : Int32) (x5 : Int32) (M : Mm) (H : Heap) (locs : List Loc) (ls : Array Slot), B_X6_cry_44 Q  n h0 x1 x2 x3 x4 x5 M → Wd D cy A s M H locs → lh ls 7 [(0, rv (some h0)), (1, iv x1), (2, iv x2), (3, iv x3), (4, iv x4), (5, iv x5)] → W p l e (rmm 4 0 0) s m args below meth c H locs 0 0 (MQ below (va_Qi Q (Po D cy A) A) args s 0 0 A) (F0 m 44 ls []) := by
  obtain ⟨hx, hb, hml, hown, hts⟩ := E.1
  intro n
  induction n with
  | zero => intro h0 x1 x2 x3 x4 x5 M H locs ls h; exact False.elim h
  | succ n ih =>
    intro h0 x1 x2 x3 x4 x5 M H locs ls h w hl
    unfold B_X6_cry_44 at h
    refine lv_iload (x := x5) hx hb dX6_cry_44 (lh_at hl 5 rfl) ?_
    refine r_aload_n (x := (some h0)) hx hb dX6_cry_46 rfl (lh_at hl 0 rfl) ?_
    obtain ⟨ho1, h⟩ := h
    refine r_getI E w rfl ho1 cl_X6 4 rfl fl_X6_94 dX6_cry_47 ?_
    refine lv_icmp_ge (tgt := 120) hx hb dX6_cry_50 (by decide) (fun c2 => ?_) (fun c2 => ?_)
    · have h := h.1 c2
      refine r_aload_n (x := (some h0)) hx hb dX6_cry_120 rfl (lh_at hl 0 rfl) ?_
      refine lv_iload (x := x4) hx hb dX6_cry_121 (lh_at hl 4 rfl) ?_
      refine lv_if_ne (tgt := 133) hx hb dX6_cry_123 (by decide) (fun c3 => ?_) (fun c3 => ?_)
      · have h := h.1 c3
        refine r_aload_n (x := (some h0)) hx hb dX6_cry_133 rfl (lh_at hl 0 rfl) ?_
        refine r_getI E w rfl ho1 cl_X6 33 rfl fl_X6_181 dX6_cry_134 ?_
        refine lv_i2l hx hb dX6_cry_137 rfl ?_
        refine r_putJ (v := (Int32.toInt64 (gI M h0 33))) E w rfl ho1 cl_X6 2 rfl fl_X6_88 (Or.inl rfl) rfl dX6_cry_138 (fun H locs w => ?_)
        obtain ⟨M4, eM4⟩ : ∃ z, z = pJ M h0 2 (Int32.toInt64 (gI M h0 33)) := ⟨_, rfl⟩
        rw [← eM4] at w
        have h := h M4 eM4
        refine lv_iload (x := x4) hx hb dX6_cry_141 (lh_at hl 4 rfl) ?_
        exact r_iret E w hr hlk h (Nat.le_refl 0) (Nat.le_refl 0) dX6_cry_143
      · have h := h.2 c3
        refine r_aload_n (x := (some h0)) hx hb dX6_cry_126 rfl (lh_at hl 0 rfl) ?_
        refine r_getJ E w rfl ho1 cl_X6 2 rfl fl_X6_88 dX6_cry_127 ?_
        refine lv_goto (tgt := 138) hx hb dX6_cry_130 (by decide) ?_
        refine r_putJ (v := (gJ M h0 2)) E w rfl ho1 cl_X6 2 rfl fl_X6_88 (Or.inl rfl) rfl dX6_cry_138 (fun H locs w => ?_)
        obtain ⟨M5, eM5⟩ : ∃ z, z = pJ M h0 2 (gJ M h0 2) := ⟨_, rfl⟩
        rw [← eM5] at w
        have h := h M5 eM5
        refine lv_iload (x := x4) hx hb dX6_cry_141 (lh_at hl 4 rfl) ?_
        exact r_iret E w hr hlk h (Nat.le_refl 0) (Nat.le_refl 0) dX6_cry_143
    · have h := h.2 c2
      refine lv_iconst (v := (0 : Int32)) hx hb dX6_cry_53 (by decide) ?_
      refine r_istore (lv' := [(6, iv (0 : Int32)), (0, rv (some h0)), (1, iv x1), (2, iv x2), (3, iv x3), (4, iv x4), (5, iv x5)]) hx hb dX6_cry_54 hl (by decide) rfl (fun ls hl => ?_)
      obtain ⟨n6, h⟩ := h
      exact k_X6_cry_56 E hr hlk ih n6 _ _ _ _ _ _ _ _ _ _ _ h w (lh_sub hl [1, 2, 3, 4, 5, 6, 0] rfl)
def B_X6_cry_0 (Q : Int32 → Mm → Prop)  (h0 : Nat) (x1 : Int32) (x2 : Int32) (x3 : Int32) (M : Mm) : Prop := (B_X6_in_0 (fun r2 M1 => ((r2 = 0 → Q (-1 : Int32) M1) ∧ (¬ r2 = 0 → (B_X6_in_0 (fun r5 M4 => ((r5 = 0 → Q (-1 : Int32) M4) ∧ (¬ r5 = 0 → (B_X6_in_0 (fun r8 M7 => ((¬ r8 = 0 → (ok M7 h0 6 ∧ (∀ M11, M11 = pI M7 h0 33 (-9 : Int32) → (∃ n12, B_X6_cry_44 Q  n12 h0 x1 x2 x3 (0 : Int32) (0 : Int32) M11)))) ∧ (r8 = 0 → Q (-1 : Int32) M7))) x3 (1 : Int32) (1000000 : Int32) M4)))) x2 (0 : Int32) (1000000 : Int32) M1)))) x1 (0 : Int32) (1000000 : Int32) M)
set_option maxHeartbeats 4000000 in
set_option maxRecDepth 100000 in
theorem k_X6_cry_0 {p : Program} {l : Launch} {e : Env} {s : State} {m : MethodId} {args : Array Value} {below : List Frame} {meth : Method} {c : Code} {D : va_G} {cy : Nat → ClassId} {A : Nat → Prop} {Q : Int32 → Mm → Prop} (E : Ex p m c cX6_cry 7 s args RX6 D cy A) (hr : meth.sig.returnType = (some .int)) (hlk : meth.locks = false) : ∀ (h0 : Nat) (x1 : Int32) (x2 : Int32) (x3 : Int32) (M : Mm) (H : Heap) (locs : List Loc) (ls : Array Slot), B_X6_cry_0 Q  h0 x1 x2 x3 M → Wd D cy A s M H locs → lh ls 7 [(0, rv (some h0)), (1, iv x1), (2, iv x2), (3, iv x3)] → W p l e (rmm 4 0 0) s m args below meth c H locs 0 0 (MQ below (va_Qi Q (Po D cy A) A) args s 0 0 A) (F0 m 0 ls []) := by
  obtain ⟨hx, hb, hml, hown, hts⟩ := E.1
  intro h0 x1 x2 x3 M H locs ls h w hl
  unfold B_X6_cry_0 at h
  refine lv_iload_n (x := x1) hx hb dX6_cry_0 rfl (lh_at hl 1 rfl) ?_
  refine lv_iconst (v := (0 : Int32)) hx hb dX6_cry_1 (by decide) ?_
  refine lv_ldc (v := (1000000 : Int32)) hx hb hown (hts _ kc_X6_105) dX6_cry_2 ?_
  refine z_callSi E w yk_X6_in ⟨Nat.le_of_ble_eq_true rfl, Nat.le_of_ble_eq_true rfl⟩ ⟨(Nat.zero_le _), (Nat.zero_le _)⟩ rfl ml_X6_84 st_X6_in [iv x1, iv (0 : Int32), iv (1000000 : Int32)] rfl rfl hl [] rfl (Nat.le_of_ble_eq_true rfl) (K_X6_in h) dX6_cry_4 (fun r2 M1 H locs h w => ?_)
  refine lv_if_eq (tgt := 30) hx hb dX6_cry_7 (by decide) (fun c3 => ?_) (fun c3 => ?_)
  · have h := h.1 c3
    refine lv_iconst (v := (-1 : Int32)) hx hb dX6_cry_30 (by decide) ?_
    exact r_iret E w hr hlk h (Nat.le_refl 0) (Nat.le_refl 0) dX6_cry_31
  · have h := h.2 c3
    refine lv_iload_n (x := x2) hx hb dX6_cry_10 rfl (lh_at hl 2 rfl) ?_
    refine lv_iconst (v := (0 : Int32)) hx hb dX6_cry_11 (by decide) ?_
    refine lv_ldc (v := (1000000 : Int32)) hx hb hown (hts _ kc_X6_105) dX6_cry_12 ?_
    refine z_callSi E w yk_X6_in ⟨Nat.le_of_ble_eq_true rfl, Nat.le_of_ble_eq_true rfl⟩ ⟨(Nat.zero_le _), (Nat.zero_le _)⟩ rfl ml_X6_84 st_X6_in [iv x2, iv (0 : Int32), iv (1000000 : Int32)] rfl rfl hl [] rfl (Nat.le_of_ble_eq_true rfl) (K_X6_in h) dX6_cry_14 (fun r5 M4 H locs h w => ?_)
    refine lv_if_eq (tgt := 30) hx hb dX6_cry_17 (by decide) (fun c6 => ?_) (fun c6 => ?_)
    · have h := h.1 c6
      refine lv_iconst (v := (-1 : Int32)) hx hb dX6_cry_30 (by decide) ?_
      exact r_iret E w hr hlk h (Nat.le_refl 0) (Nat.le_refl 0) dX6_cry_31
    · have h := h.2 c6
      refine lv_iload_n (x := x3) hx hb dX6_cry_20 rfl (lh_at hl 3 rfl) ?_
      refine lv_iconst (v := (1 : Int32)) hx hb dX6_cry_21 (by decide) ?_
      refine lv_ldc (v := (1000000 : Int32)) hx hb hown (hts _ kc_X6_105) dX6_cry_22 ?_
      refine z_callSi E w yk_X6_in ⟨Nat.le_of_ble_eq_true rfl, Nat.le_of_ble_eq_true rfl⟩ ⟨(Nat.zero_le _), (Nat.zero_le _)⟩ rfl ml_X6_84 st_X6_in [iv x3, iv (1 : Int32), iv (1000000 : Int32)] rfl rfl hl [] rfl (Nat.le_of_ble_eq_true rfl) (K_X6_in h) dX6_cry_24 (fun r8 M7 H locs h w => ?_)
      refine lv_if_ne (tgt := 32) hx hb dX6_cry_27 (by decide) (fun c9 => ?_) (fun c9 => ?_)
      · have h := h.1 c9
        refine lv_iconst (v := (0 : Int32)) hx hb dX6_cry_32 (by decide) ?_
        refine r_istore (lv' := [(4, iv (0 : Int32)), (0, rv (some h0)), (1, iv x1), (2, iv x2), (3, iv x3)]) hx hb dX6_cry_33 hl (by decide) rfl (fun ls hl => ?_)
        refine r_aload_n (x := (some h0)) hx hb dX6_cry_35 rfl (lh_at hl 1 rfl) ?_
        refine lv_bipush (v := (-9 : Int32)) hx hb dX6_cry_36 (by decide) ?_
        obtain ⟨ho10, h⟩ := h
        refine r_putI (v := (-9 : Int32)) E w rfl ho10 cl_X6 33 rfl fl_X6_181 (Or.inl rfl) (Or.inl rfl) dX6_cry_38 (fun H locs w => ?_)
        obtain ⟨M11, eM11⟩ : ∃ z, z = pI M7 h0 33 (-9 : Int32) := ⟨_, rfl⟩
        rw [← eM11] at w
        have h := h M11 eM11
        refine lv_iconst (v := (0 : Int32)) hx hb dX6_cry_41 (by decide) ?_
        refine r_istore (lv' := [(5, iv (0 : Int32)), (4, iv (0 : Int32)), (0, rv (some h0)), (1, iv x1), (2, iv x2), (3, iv x3)]) hx hb dX6_cry_42 hl (by decide) rfl (fun ls hl => ?_)
        obtain ⟨n12, h⟩ := h
        exact k_X6_cry_44 E hr hlk  n12 _ _ _ _ _ _ _ _ _ _ h w (lh_sub hl [2, 3, 4, 5, 1, 0] rfl)
      · have h := h.2 c9
        refine lv_iconst (v := (-1 : Int32)) hx hb dX6_cry_30 (by decide) ?_
        exact r_iret E w hr hlk h (Nat.le_refl 0) (Nat.le_refl 0) dX6_cry_31
theorem K_X6_cry {l : Launch} {Q : Int32 → Mm → Prop} {h0 : Nat} {x1 : Int32} {x2 : Int32} {x3 : Int32} {M : Mm} (h : B_X6_cry_0 Q h0 x1 x2 x3 M) : KI l yX6_cry cdX6_cry (rmm 4 0 0) [rv (some h0), iv x1, iv x2, iv x3] M Q :=
  KI_of (by decide) rfl (Nat.le_of_ble_eq_true rfl) (fun p e s m args below meth c D cy A ls E hr hlk hn w hl => k_X6_cry_0 E hr hlk _ _ _ _ _ _ _ _ h w hl)
def B_X6_cried_22 (Q : Int32 → Mm → Prop)  (h0 : Nat) (x1 : Int32) (s0 : Int32) (s1 : Int32) (s2 : Int32) (M : Mm) : Prop := (B_X6_in_0 (fun r2 M1 => ((r2 = 0 → Q (-9 : Int32) M1) ∧ (¬ r2 = 0 → (ok M1 h0 6 ∧ (∃ a5, (gR M1 h0 31) = some a5 ∧ (ar M1 a5 7 x1 ∧ Q (gI M1 a5 (Int32.toNatClampNeg x1)) M1)))))) s0 s1 (s2 - (1 : Int32)) M)
set_option maxHeartbeats 4000000 in
set_option maxRecDepth 100000 in
theorem k_X6_cried_22 {p : Program} {l : Launch} {e : Env} {s : State} {m : MethodId} {args : Array Value} {below : List Frame} {meth : Method} {c : Code} {D : va_G} {cy : Nat → ClassId} {A : Nat → Prop} {Q : Int32 → Mm → Prop} (E : Ex p m c cX6_cried 2 s args RX6 D cy A) (hr : meth.sig.returnType = (some .int)) (hlk : meth.locks = false) : ∀ (h0 : Nat) (x1 : Int32) (s0 : Int32) (s1 : Int32) (s2 : Int32) (M : Mm) (H : Heap) (locs : List Loc) (ls : Array Slot), B_X6_cried_22 Q  h0 x1 s0 s1 s2 M → Wd D cy A s M H locs → lh ls 2 [(0, rv (some h0)), (1, iv x1)] → W p l e (rmm 1 0 0) s m args below meth c H locs 0 0 (MQ below (va_Qi Q (Po D cy A) A) args s 0 0 A) (F0 m 22 ls [.int s2, .int s1, .int s0]) := by
  obtain ⟨hx, hb, hml, hown, hts⟩ := E.1
  intro h0 x1 s0 s1 s2 M H locs ls h w hl
  unfold B_X6_cried_22 at h
  refine lv_iconst (v := (1 : Int32)) hx hb dX6_cried_22 (by decide) ?_
  refine lv_isub hx hb dX6_cried_23 ?_
  refine z_callSi E w yk_X6_in ⟨Nat.le_of_ble_eq_true rfl, Nat.le_of_ble_eq_true rfl⟩ ⟨(Nat.zero_le _), (Nat.zero_le _)⟩ rfl ml_X6_84 st_X6_in [iv s0, iv s1, iv (s2 - (1 : Int32))] rfl rfl hl [] rfl (Nat.le_of_ble_eq_true rfl) (K_X6_in h) dX6_cried_24 (fun r2 M1 H locs h w => ?_)
  refine lv_if_eq (tgt := 39) hx hb dX6_cried_27 (by decide) (fun c3 => ?_) (fun c3 => ?_)
  · have h := h.1 c3
    refine lv_bipush (v := (-9 : Int32)) hx hb dX6_cried_39 (by decide) ?_
    exact r_iret E w hr hlk h (Nat.le_refl 0) (Nat.le_refl 0) dX6_cried_41
  · have h := h.2 c3
    refine r_aload_n (x := (some h0)) hx hb dX6_cried_30 rfl (lh_at hl 0 rfl) ?_
    obtain ⟨ho4, h⟩ := h
    refine r_getR E w rfl ho4 cl_X6 31 rfl fl_X6_64 dX6_cried_31 ?_
    refine lv_iload_n (x := x1) hx hb dX6_cried_34 rfl (lh_at hl 1 rfl) ?_
    obtain ⟨a5, ea5, h⟩ := h
    obtain ⟨ha6, h⟩ := h
    refine r_iald E w ea5 ha6 dX6_cried_35 ?_
    refine lv_goto (tgt := 41) hx hb dX6_cried_36 (by decide) ?_
    exact r_iret E w hr hlk h (Nat.le_refl 0) (Nat.le_refl 0) dX6_cried_41
def B_X6_cried_0 (Q : Int32 → Mm → Prop)  (h0 : Nat) (x1 : Int32) (M : Mm) : Prop := (ok M h0 6 ∧ (((300 : Int32) ≤ (gI M h0 30) → B_X6_cried_22 Q  h0 x1 x1 (0 : Int32) (300 : Int32) M) ∧ (¬ (300 : Int32) ≤ (gI M h0 30) → B_X6_cried_22 Q  h0 x1 x1 (0 : Int32) (gI M h0 30) M)))
set_option maxHeartbeats 4000000 in
set_option maxRecDepth 100000 in
theorem k_X6_cried_0 {p : Program} {l : Launch} {e : Env} {s : State} {m : MethodId} {args : Array Value} {below : List Frame} {meth : Method} {c : Code} {D : va_G} {cy : Nat → ClassId} {A : Nat → Prop} {Q : Int32 → Mm → Prop} (E : Ex p m c cX6_cried 2 s args RX6 D cy A) (hr : meth.sig.returnType = (some .int)) (hlk : meth.locks = false) : ∀ (h0 : Nat) (x1 : Int32) (M : Mm) (H : Heap) (locs : List Loc) (ls : Array Slot), B_X6_cried_0 Q  h0 x1 M → Wd D cy A s M H locs → lh ls 2 [(0, rv (some h0)), (1, iv x1)] → W p l e (rmm 1 0 0) s m args below meth c H locs 0 0 (MQ below (va_Qi Q (Po D cy A) A) args s 0 0 A) (F0 m 0 ls []) := by
  obtain ⟨hx, hb, hml, hown, hts⟩ := E.1
  intro h0 x1 M H locs ls h w hl
  unfold B_X6_cried_0 at h
  refine lv_iload_n (x := x1) hx hb dX6_cried_0 rfl (lh_at hl 1 rfl) ?_
  refine lv_iconst (v := (0 : Int32)) hx hb dX6_cried_1 (by decide) ?_
  refine r_aload_n (x := (some h0)) hx hb dX6_cried_2 rfl (lh_at hl 0 rfl) ?_
  obtain ⟨ho1, h⟩ := h
  refine r_getI E w rfl ho1 cl_X6 30 rfl fl_X6_178 dX6_cried_3 ?_
  refine lv_sipush (v := (300 : Int32)) hx hb dX6_cried_6 (by decide) ?_
  refine lv_icmp_ge (tgt := 19) hx hb dX6_cried_9 (by decide) (fun c2 => ?_) (fun c2 => ?_)
  · have h := h.1 c2
    refine lv_sipush (v := (300 : Int32)) hx hb dX6_cried_19 (by decide) ?_
    exact k_X6_cried_22 E hr hlk  _ _ _ _ _ _ _ _ _ h w (lh_sub hl [0, 1] rfl)
  · have h := h.2 c2
    refine r_aload_n (x := (some h0)) hx hb dX6_cried_12 rfl (lh_at hl 0 rfl) ?_
    refine r_getI E w rfl ho1 cl_X6 30 rfl fl_X6_178 dX6_cried_13 ?_
    refine lv_goto (tgt := 22) hx hb dX6_cried_16 (by decide) ?_
    exact k_X6_cried_22 E hr hlk  _ _ _ _ _ _ _ _ _ h w (lh_sub hl [0, 1] rfl)
theorem K_X6_cried {l : Launch} {Q : Int32 → Mm → Prop} {h0 : Nat} {x1 : Int32} {M : Mm} (h : B_X6_cried_0 Q h0 x1 M) : KI l yX6_cried cdX6_cried (rmm 1 0 0) [rv (some h0), iv x1] M Q :=
  KI_of (by decide) rfl (Nat.le_of_ble_eq_true rfl) (fun p e s m args below meth c D cy A ls E hr hlk hn w hl => k_X6_cried_0 E hr hlk _ _ _ _ _ _ h w hl)
def B_X6_middleBuild_0 (Q : Int32 → Mm → Prop)  (h0 : Nat) (M : Mm) : Prop := (ok M h0 6 ∧ Q ((gI M h0 35) + (((gI M h0 36) - (gI M h0 35)) / (2 : Int32))) M)
set_option maxHeartbeats 4000000 in
set_option maxRecDepth 100000 in
theorem k_X6_middleBuild_0 {p : Program} {l : Launch} {e : Env} {s : State} {m : MethodId} {args : Array Value} {below : List Frame} {meth : Method} {c : Code} {D : va_G} {cy : Nat → ClassId} {A : Nat → Prop} {Q : Int32 → Mm → Prop} (E : Ex p m c cX6_middleBuild 1 s args RX6 D cy A) (hr : meth.sig.returnType = (some .int)) (hlk : meth.locks = false) : ∀ (h0 : Nat) (M : Mm) (H : Heap) (locs : List Loc) (ls : Array Slot), B_X6_middleBuild_0 Q  h0 M → Wd D cy A s M H locs → lh ls 1 [(0, rv (some h0))] → W p l e (rmm 0 0 0) s m args below meth c H locs 0 0 (MQ below (va_Qi Q (Po D cy A) A) args s 0 0 A) (F0 m 0 ls []) := by
  obtain ⟨hx, hb, hml, hown, hts⟩ := E.1
  intro h0 M H locs ls h w hl
  unfold B_X6_middleBuild_0 at h
  refine r_aload_n (x := (some h0)) hx hb dX6_middleBuild_0 rfl (lh_at hl 0 rfl) ?_
  obtain ⟨ho1, h⟩ := h
  refine r_getI E w rfl ho1 cl_X6 35 rfl fl_X6_188 dX6_middleBuild_1 ?_
  refine r_aload_n (x := (some h0)) hx hb dX6_middleBuild_4 rfl (lh_at hl 0 rfl) ?_
  refine r_getI E w rfl ho1 cl_X6 36 rfl fl_X6_191 dX6_middleBuild_5 ?_
  refine r_aload_n (x := (some h0)) hx hb dX6_middleBuild_8 rfl (lh_at hl 0 rfl) ?_
  refine r_getI E w rfl ho1 cl_X6 35 rfl fl_X6_188 dX6_middleBuild_9 ?_
  refine lv_isub hx hb dX6_middleBuild_12 ?_
  refine lv_iconst (v := (2 : Int32)) hx hb dX6_middleBuild_13 (by decide) ?_
  refine lv_idiv hx hb dX6_middleBuild_14 (by decide) ?_
  refine lv_iadd hx hb dX6_middleBuild_15 ?_
  exact r_iret E w hr hlk h (Nat.le_refl 0) (Nat.le_refl 0) dX6_middleBuild_16
theorem K_X6_middleBuild {l : Launch} {Q : Int32 → Mm → Prop} {h0 : Nat} {M : Mm} (h : B_X6_middleBuild_0 Q h0 M) : KI l yX6_middleBuild cdX6_middleBuild (rmm 0 0 0) [rv (some h0)] M Q :=
  KI_of (by decide) rfl (Nat.le_of_ble_eq_true rfl) (fun p e s m args below meth c D cy A ls E hr hlk hn w hl => k_X6_middleBuild_0 E hr hlk _ _ _ _ _ h w hl)
def B_X6_halve_77 (Q : Int32 → Mm → Prop)  : Nat → Int32 → Int32 → Int32 → Mm → Prop
  | 0, _, _, _, _ => False
  | n + 1, x3, x4, x5, M => ((x5 ≤ (1 : Int32) → Q (x4 * x3) M) ∧ (¬ x5 ≤ (1 : Int32) → B_X6_halve_77 Q  n x3 (x4 + 1) (x5 - (x5 / (2 : Int32))) M))
set_option maxHeartbeats 4000000 in
set_option maxRecDepth 100000 in
theorem k_X6_halve_77 {p : Program} {l : Launch} {e : Env} {s : State} {m : MethodId} {args : Array Value} {below : List Frame} {meth : Method} {c : Code} {D : va_G} {cy : Nat → ClassId} {A : Nat → Prop} {Q : Int32 → Mm → Prop} (E : Ex p m c cX6_halve 6 s args RX6 D cy A) (hr : meth.sig.returnType = (some .int)) (hlk : meth.locks = false) : ∀ (n : Nat), ∀ (x3 : Int32) (x4 : Int32) (x5 : Int32) (M : Mm) (H : Heap) (locs : List Loc) (ls : Array Slot), B_X6_halve_77 Q  n x3 x4 x5 M → Wd D cy A s M H locs → lh ls 6 [(3, iv x3), (4, iv x4), (5, iv x5)] → W p l e (rmm 0 0 0) s m args below meth c H locs 0 0 (MQ below (va_Qi Q (Po D cy A) A) args s 0 0 A) (F0 m 77 ls []) := by
  obtain ⟨hx, hb, hml, hown, hts⟩ := E.1
  intro n
  induction n with
  | zero => intro x3 x4 x5 M H locs ls h; exact False.elim h
  | succ n ih =>
    intro x3 x4 x5 M H locs ls h w hl
    unfold B_X6_halve_77 at h
    refine lv_iload (x := x5) hx hb dX6_halve_77 (lh_at hl 2 rfl) ?_
    refine lv_iconst (v := (1 : Int32)) hx hb dX6_halve_79 (by decide) ?_
    refine lv_icmp_le (tgt := 98) hx hb dX6_halve_80 (by decide) (fun c1 => ?_) (fun c1 => ?_)
    · have h := h.1 c1
      refine lv_iload (x := x4) hx hb dX6_halve_98 (lh_at hl 1 rfl) ?_
      refine lv_iload_n (x := x3) hx hb dX6_halve_100 rfl (lh_at hl 0 rfl) ?_
      refine lv_imul hx hb dX6_halve_101 ?_
      exact r_iret E w hr hlk h (Nat.le_refl 0) (Nat.le_refl 0) dX6_halve_102
    · have h := h.2 c1
      refine r_iinc (k := 1) (x := x4) (v := (x4 + 1)) (lv' := [(4, iv (x4 + 1)), (3, iv x3), (5, iv x5)]) hx hb dX6_halve_83 hl rfl rfl (by decide) rfl (fun ls hl => ?_)
      refine lv_iload (x := x5) hx hb dX6_halve_86 (lh_at hl 2 rfl) ?_
      refine lv_iload (x := x5) hx hb dX6_halve_88 (lh_at hl 2 rfl) ?_
      refine lv_iconst (v := (2 : Int32)) hx hb dX6_halve_90 (by decide) ?_
      refine lv_idiv hx hb dX6_halve_91 (by decide) ?_
      refine lv_isub hx hb dX6_halve_92 ?_
      refine r_istore (lv' := [(5, iv (x5 - (x5 / (2 : Int32)))), (4, iv (x4 + 1)), (3, iv x3)]) hx hb dX6_halve_93 hl (by decide) rfl (fun ls hl => ?_)
      refine lv_goto (tgt := 77) hx hb dX6_halve_95 (by decide) ?_
      exact ih _ _ _ _ _ _ _ h w (lh_sub hl [2, 1, 0] rfl)
def B_X6_halve_34 (Q : Int32 → Mm → Prop)  (h0 : Nat) (x1 : Int32) (x2 : Int32) (x3 : Int32) (M : Mm) : Prop := (ok M h0 6 ∧ (∀ M2, M2 = pI M h0 34 (1 : Int32) → (∀ M3, M3 = pI M2 h0 35 x1 → (∀ M4, M4 = pI M3 h0 36 x2 → (∀ M5, M5 = pI M4 h0 37 x3 → (∀ M6, M6 = pI M5 h0 38 (0 : Int32) → (∀ M7, M7 = pI M6 h0 39 (0 : Int32) → (∀ M8, M8 = pI M7 h0 40 (0 : Int32) → (∃ n9, B_X6_halve_77 Q  n9 x3 (0 : Int32) (x2 - x1) M8)))))))))
set_option maxHeartbeats 4000000 in
set_option maxRecDepth 100000 in
theorem k_X6_halve_34 {p : Program} {l : Launch} {e : Env} {s : State} {m : MethodId} {args : Array Value} {below : List Frame} {meth : Method} {c : Code} {D : va_G} {cy : Nat → ClassId} {A : Nat → Prop} {Q : Int32 → Mm → Prop} (E : Ex p m c cX6_halve 6 s args RX6 D cy A) (hr : meth.sig.returnType = (some .int)) (hlk : meth.locks = false) : ∀ (h0 : Nat) (x1 : Int32) (x2 : Int32) (x3 : Int32) (M : Mm) (H : Heap) (locs : List Loc) (ls : Array Slot), B_X6_halve_34 Q  h0 x1 x2 x3 M → Wd D cy A s M H locs → lh ls 6 [(0, rv (some h0)), (1, iv x1), (2, iv x2), (3, iv x3)] → W p l e (rmm 0 0 0) s m args below meth c H locs 0 0 (MQ below (va_Qi Q (Po D cy A) A) args s 0 0 A) (F0 m 34 ls []) := by
  obtain ⟨hx, hb, hml, hown, hts⟩ := E.1
  intro h0 x1 x2 x3 M H locs ls h w hl
  unfold B_X6_halve_34 at h
  refine r_aload_n (x := (some h0)) hx hb dX6_halve_34 rfl (lh_at hl 0 rfl) ?_
  refine lv_iconst (v := (1 : Int32)) hx hb dX6_halve_35 (by decide) ?_
  obtain ⟨ho1, h⟩ := h
  refine r_putI (v := (1 : Int32)) E w rfl ho1 cl_X6 34 rfl fl_X6_194 (Or.inl rfl) (Or.inr ⟨rfl, Or.inr rfl⟩) dX6_halve_36 (fun H locs w => ?_)
  obtain ⟨M2, eM2⟩ : ∃ z, z = pI M h0 34 (1 : Int32) := ⟨_, rfl⟩
  rw [← eM2] at w
  have h := h M2 eM2
  refine r_aload_n (x := (some h0)) hx hb dX6_halve_39 rfl (lh_at hl 0 rfl) ?_
  refine lv_iload_n (x := x1) hx hb dX6_halve_40 rfl (lh_at hl 1 rfl) ?_
  have ho1 : ok M2 h0 6 := by rw [eM2]; exact ho1
  refine r_putI (v := x1) E w rfl ho1 cl_X6 35 rfl fl_X6_188 (Or.inl rfl) (Or.inl rfl) dX6_halve_41 (fun H locs w => ?_)
  obtain ⟨M3, eM3⟩ : ∃ z, z = pI M2 h0 35 x1 := ⟨_, rfl⟩
  rw [← eM3] at w
  have h := h M3 eM3
  refine r_aload_n (x := (some h0)) hx hb dX6_halve_44 rfl (lh_at hl 0 rfl) ?_
  refine lv_iload_n (x := x2) hx hb dX6_halve_45 rfl (lh_at hl 2 rfl) ?_
  have ho1 : ok M3 h0 6 := by rw [eM3]; exact ho1
  refine r_putI (v := x2) E w rfl ho1 cl_X6 36 rfl fl_X6_191 (Or.inl rfl) (Or.inl rfl) dX6_halve_46 (fun H locs w => ?_)
  obtain ⟨M4, eM4⟩ : ∃ z, z = pI M3 h0 36 x2 := ⟨_, rfl⟩
  rw [← eM4] at w
  have h := h M4 eM4
  refine r_aload_n (x := (some h0)) hx hb dX6_halve_49 rfl (lh_at hl 0 rfl) ?_
  refine lv_iload_n (x := x3) hx hb dX6_halve_50 rfl (lh_at hl 3 rfl) ?_
  have ho1 : ok M4 h0 6 := by rw [eM4]; exact ho1
  refine r_putI (v := x3) E w rfl ho1 cl_X6 37 rfl fl_X6_198 (Or.inl rfl) (Or.inl rfl) dX6_halve_51 (fun H locs w => ?_)
  obtain ⟨M5, eM5⟩ : ∃ z, z = pI M4 h0 37 x3 := ⟨_, rfl⟩
  rw [← eM5] at w
  have h := h M5 eM5
  refine r_aload_n (x := (some h0)) hx hb dX6_halve_54 rfl (lh_at hl 0 rfl) ?_
  refine lv_iconst (v := (0 : Int32)) hx hb dX6_halve_55 (by decide) ?_
  have ho1 : ok M5 h0 6 := by rw [eM5]; exact ho1
  refine r_putI (v := (0 : Int32)) E w rfl ho1 cl_X6 38 rfl fl_X6_201 (Or.inl rfl) (Or.inl rfl) dX6_halve_56 (fun H locs w => ?_)
  obtain ⟨M6, eM6⟩ : ∃ z, z = pI M5 h0 38 (0 : Int32) := ⟨_, rfl⟩
  rw [← eM6] at w
  have h := h M6 eM6
  refine r_aload_n (x := (some h0)) hx hb dX6_halve_59 rfl (lh_at hl 0 rfl) ?_
  refine lv_iconst (v := (0 : Int32)) hx hb dX6_halve_60 (by decide) ?_
  have ho1 : ok M6 h0 6 := by rw [eM6]; exact ho1
  refine r_putI (v := (0 : Int32)) E w rfl ho1 cl_X6 39 rfl fl_X6_204 (Or.inl rfl) (Or.inl rfl) dX6_halve_61 (fun H locs w => ?_)
  obtain ⟨M7, eM7⟩ : ∃ z, z = pI M6 h0 39 (0 : Int32) := ⟨_, rfl⟩
  rw [← eM7] at w
  have h := h M7 eM7
  refine r_aload_n (x := (some h0)) hx hb dX6_halve_64 rfl (lh_at hl 0 rfl) ?_
  refine lv_iconst (v := (0 : Int32)) hx hb dX6_halve_65 (by decide) ?_
  have ho1 : ok M7 h0 6 := by rw [eM7]; exact ho1
  refine r_putI (v := (0 : Int32)) E w rfl ho1 cl_X6 40 rfl fl_X6_207 (Or.inl rfl) (Or.inl rfl) dX6_halve_66 (fun H locs w => ?_)
  obtain ⟨M8, eM8⟩ : ∃ z, z = pI M7 h0 40 (0 : Int32) := ⟨_, rfl⟩
  rw [← eM8] at w
  have h := h M8 eM8
  refine lv_iconst (v := (0 : Int32)) hx hb dX6_halve_69 (by decide) ?_
  refine r_istore (lv' := [(4, iv (0 : Int32)), (0, rv (some h0)), (1, iv x1), (2, iv x2), (3, iv x3)]) hx hb dX6_halve_70 hl (by decide) rfl (fun ls hl => ?_)
  refine lv_iload_n (x := x2) hx hb dX6_halve_72 rfl (lh_at hl 3 rfl) ?_
  refine lv_iload_n (x := x1) hx hb dX6_halve_73 rfl (lh_at hl 2 rfl) ?_
  refine lv_isub hx hb dX6_halve_74 ?_
  refine r_istore (lv' := [(5, iv (x2 - x1)), (4, iv (0 : Int32)), (0, rv (some h0)), (1, iv x1), (2, iv x2), (3, iv x3)]) hx hb dX6_halve_75 hl (by decide) rfl (fun ls hl => ?_)
  obtain ⟨n9, h⟩ := h
  exact k_X6_halve_77 E hr hlk  n9 _ _ _ _ _ _ _ h w (lh_sub hl [5, 1, 0] rfl)
def B_X6_halve_0 (Q : Int32 → Mm → Prop)  (h0 : Nat) (x1 : Int32) (x2 : Int32) (x3 : Int32) (M : Mm) : Prop := ((x1 < 0 → Q (-1 : Int32) M) ∧ (¬ x1 < 0 → ((x2 ≤ x1 → Q (-1 : Int32) M) ∧ (¬ x2 ≤ x1 → (ok M h0 6 ∧ (((gI M h0 3) ≤ x2 → Q (-1 : Int32) M) ∧ (¬ (gI M h0 3) ≤ x2 → ((x3 = (1 : Int32) → B_X6_halve_34 Q  h0 x1 x2 x3 M) ∧ (¬ x3 = (1 : Int32) → ((x3 = (3 : Int32) → B_X6_halve_34 Q  h0 x1 x2 x3 M) ∧ (¬ x3 = (3 : Int32) → ((x3 = (5 : Int32) → B_X6_halve_34 Q  h0 x1 x2 x3 M) ∧ (¬ x3 = (5 : Int32) → Q (-1 : Int32) M)))))))))))))
set_option maxHeartbeats 4000000 in
set_option maxRecDepth 100000 in
theorem k_X6_halve_0 {p : Program} {l : Launch} {e : Env} {s : State} {m : MethodId} {args : Array Value} {below : List Frame} {meth : Method} {c : Code} {D : va_G} {cy : Nat → ClassId} {A : Nat → Prop} {Q : Int32 → Mm → Prop} (E : Ex p m c cX6_halve 6 s args RX6 D cy A) (hr : meth.sig.returnType = (some .int)) (hlk : meth.locks = false) : ∀ (h0 : Nat) (x1 : Int32) (x2 : Int32) (x3 : Int32) (M : Mm) (H : Heap) (locs : List Loc) (ls : Array Slot), B_X6_halve_0 Q  h0 x1 x2 x3 M → Wd D cy A s M H locs → lh ls 6 [(0, rv (some h0)), (1, iv x1), (2, iv x2), (3, iv x3)] → W p l e (rmm 0 0 0) s m args below meth c H locs 0 0 (MQ below (va_Qi Q (Po D cy A) A) args s 0 0 A) (F0 m 0 ls []) := by
  obtain ⟨hx, hb, hml, hown, hts⟩ := E.1
  intro h0 x1 x2 x3 M H locs ls h w hl
  unfold B_X6_halve_0 at h
  refine lv_iload_n (x := x1) hx hb dX6_halve_0 rfl (lh_at hl 1 rfl) ?_
  refine lv_if_lt (tgt := 32) hx hb dX6_halve_1 (by decide) (fun c1 => ?_) (fun c1 => ?_)
  · have h := h.1 c1
    refine lv_iconst (v := (-1 : Int32)) hx hb dX6_halve_32 (by decide) ?_
    exact r_iret E w hr hlk h (Nat.le_refl 0) (Nat.le_refl 0) dX6_halve_33
  · have h := h.2 c1
    refine lv_iload_n (x := x1) hx hb dX6_halve_4 rfl (lh_at hl 1 rfl) ?_
    refine lv_iload_n (x := x2) hx hb dX6_halve_5 rfl (lh_at hl 2 rfl) ?_
    refine lv_icmp_ge (tgt := 32) hx hb dX6_halve_6 (by decide) (fun c2 => ?_) (fun c2 => ?_)
    · have h := h.1 c2
      refine lv_iconst (v := (-1 : Int32)) hx hb dX6_halve_32 (by decide) ?_
      exact r_iret E w hr hlk h (Nat.le_refl 0) (Nat.le_refl 0) dX6_halve_33
    · have h := h.2 c2
      refine lv_iload_n (x := x2) hx hb dX6_halve_9 rfl (lh_at hl 2 rfl) ?_
      refine r_aload_n (x := (some h0)) hx hb dX6_halve_10 rfl (lh_at hl 0 rfl) ?_
      obtain ⟨ho3, h⟩ := h
      refine r_getI E w rfl ho3 cl_X6 3 rfl fl_X6_91 dX6_halve_11 ?_
      refine lv_icmp_ge (tgt := 32) hx hb dX6_halve_14 (by decide) (fun c4 => ?_) (fun c4 => ?_)
      · have h := h.1 c4
        refine lv_iconst (v := (-1 : Int32)) hx hb dX6_halve_32 (by decide) ?_
        exact r_iret E w hr hlk h (Nat.le_refl 0) (Nat.le_refl 0) dX6_halve_33
      · have h := h.2 c4
        refine lv_iload_n (x := x3) hx hb dX6_halve_17 rfl (lh_at hl 3 rfl) ?_
        refine lv_iconst (v := (1 : Int32)) hx hb dX6_halve_18 (by decide) ?_
        refine lv_icmp_eq (tgt := 34) hx hb dX6_halve_19 (by decide) (fun c5 => ?_) (fun c5 => ?_)
        · have h := h.1 c5
          exact k_X6_halve_34 E hr hlk  _ _ _ _ _ _ _ _ h w (lh_sub hl [0, 1, 2, 3] rfl)
        · have h := h.2 c5
          refine lv_iload_n (x := x3) hx hb dX6_halve_22 rfl (lh_at hl 3 rfl) ?_
          refine lv_iconst (v := (3 : Int32)) hx hb dX6_halve_23 (by decide) ?_
          refine lv_icmp_eq (tgt := 34) hx hb dX6_halve_24 (by decide) (fun c6 => ?_) (fun c6 => ?_)
          · have h := h.1 c6
            exact k_X6_halve_34 E hr hlk  _ _ _ _ _ _ _ _ h w (lh_sub hl [0, 1, 2, 3] rfl)
          · have h := h.2 c6
            refine lv_iload_n (x := x3) hx hb dX6_halve_27 rfl (lh_at hl 3 rfl) ?_
            refine lv_iconst (v := (5 : Int32)) hx hb dX6_halve_28 (by decide) ?_
            refine lv_icmp_eq (tgt := 34) hx hb dX6_halve_29 (by decide) (fun c7 => ?_) (fun c7 => ?_)
            · have h := h.1 c7
              exact k_X6_halve_34 E hr hlk  _ _ _ _ _ _ _ _ h w (lh_sub hl [0, 1, 2, 3] rfl)
            · have h := h.2 c7
              refine lv_iconst (v := (-1 : Int32)) hx hb dX6_halve_32 (by decide) ?_
              exact r_iret E w hr hlk h (Nat.le_refl 0) (Nat.le_refl 0) dX6_halve_33
theorem K_X6_halve {l : Launch} {Q : Int32 → Mm → Prop} {h0 : Nat} {x1 : Int32} {x2 : Int32} {x3 : Int32} {M : Mm} (h : B_X6_halve_0 Q h0 x1 x2 x3 M) : KI l yX6_halve cdX6_halve (rmm 0 0 0) [rv (some h0), iv x1, iv x2, iv x3] M Q :=
  KI_of (by decide) rfl (Nat.le_of_ble_eq_true rfl) (fun p e s m args below meth c D cy A ls E hr hlk hn w hl => k_X6_halve_0 E hr hlk _ _ _ _ _ _ _ _ h w hl)
def B_X6_hasEnded_0 (Q : Int32 → Mm → Prop)  (h0 : Nat) (M : Mm) : Prop := (ok M h0 6 ∧ ((¬ (gI M h0 36) = ((gI M h0 35) + (1 : Int32)) → Q (0 : Int32) M) ∧ ((gI M h0 36) = ((gI M h0 35) + (1 : Int32)) → Q (1 : Int32) M)))
set_option maxHeartbeats 4000000 in
set_option maxRecDepth 100000 in
theorem k_X6_hasEnded_0 {p : Program} {l : Launch} {e : Env} {s : State} {m : MethodId} {args : Array Value} {below : List Frame} {meth : Method} {c : Code} {D : va_G} {cy : Nat → ClassId} {A : Nat → Prop} {Q : Int32 → Mm → Prop} (E : Ex p m c cX6_hasEnded 1 s args RX6 D cy A) (hr : meth.sig.returnType = (some .boolean)) (hlk : meth.locks = false) : ∀ (h0 : Nat) (M : Mm) (H : Heap) (locs : List Loc) (ls : Array Slot), B_X6_hasEnded_0 Q  h0 M → Wd D cy A s M H locs → lh ls 1 [(0, rv (some h0))] → W p l e (rmm 0 0 0) s m args below meth c H locs 0 0 (MQ below (va_Qi Q (Po D cy A) A) args s 0 0 A) (F0 m 0 ls []) := by
  obtain ⟨hx, hb, hml, hown, hts⟩ := E.1
  intro h0 M H locs ls h w hl
  unfold B_X6_hasEnded_0 at h
  refine r_aload_n (x := (some h0)) hx hb dX6_hasEnded_0 rfl (lh_at hl 0 rfl) ?_
  obtain ⟨ho1, h⟩ := h
  refine r_getI E w rfl ho1 cl_X6 36 rfl fl_X6_191 dX6_hasEnded_1 ?_
  refine r_aload_n (x := (some h0)) hx hb dX6_hasEnded_4 rfl (lh_at hl 0 rfl) ?_
  refine r_getI E w rfl ho1 cl_X6 35 rfl fl_X6_188 dX6_hasEnded_5 ?_
  refine lv_iconst (v := (1 : Int32)) hx hb dX6_hasEnded_8 (by decide) ?_
  refine lv_iadd hx hb dX6_hasEnded_9 ?_
  refine lv_icmp_ne (tgt := 17) hx hb dX6_hasEnded_10 (by decide) (fun c2 => ?_) (fun c2 => ?_)
  · have h := h.1 c2
    refine lv_iconst (v := (0 : Int32)) hx hb dX6_hasEnded_17 (by decide) ?_
    exact r_zret E w hr hlk ⟨Or.inl rfl, h⟩ (Nat.le_refl 0) (Nat.le_refl 0) dX6_hasEnded_18
  · have h := h.2 c2
    refine lv_iconst (v := (1 : Int32)) hx hb dX6_hasEnded_13 (by decide) ?_
    refine lv_goto (tgt := 18) hx hb dX6_hasEnded_14 (by decide) ?_
    exact r_zret E w hr hlk ⟨Or.inr rfl, h⟩ (Nat.le_refl 0) (Nat.le_refl 0) dX6_hasEnded_18
theorem K_X6_hasEnded {l : Launch} {Q : Int32 → Mm → Prop} {h0 : Nat} {M : Mm} (h : B_X6_hasEnded_0 Q h0 M) : KI l yX6_hasEnded cdX6_hasEnded (rmm 0 0 0) [rv (some h0)] M Q :=
  KI_of (by decide) rfl (Nat.le_of_ble_eq_true rfl) (fun p e s m args below meth c D cy A ls E hr hlk hn w hl => k_X6_hasEnded_0 E hr hlk _ _ _ _ _ h w hl)
def B_X6_asks_0 (Q : Int32 → Mm → Prop)  (h0 : Nat) (M : Mm) : Prop := (ok M h0 6 ∧ ((¬ (gI M h0 34) = 0 → (B_X6_hasEnded_0 (fun r4 M3 => ((r4 = 0 → (ok M3 h0 6 ∧ (B_X6_middleBuild_0 (fun r8 M7 => Q r8 M7) h0  M3))) ∧ (¬ r4 = 0 → Q (-9 : Int32) M3))) h0  M)) ∧ ((gI M h0 34) = 0 → Q (-4 : Int32) M)))
set_option maxHeartbeats 4000000 in
set_option maxRecDepth 100000 in
theorem k_X6_asks_0 {p : Program} {l : Launch} {e : Env} {s : State} {m : MethodId} {args : Array Value} {below : List Frame} {meth : Method} {c : Code} {D : va_G} {cy : Nat → ClassId} {A : Nat → Prop} {Q : Int32 → Mm → Prop} (E : Ex p m c cX6_asks 1 s args RX6 D cy A) (hr : meth.sig.returnType = (some .int)) (hlk : meth.locks = false) : ∀ (h0 : Nat) (M : Mm) (H : Heap) (locs : List Loc) (ls : Array Slot), B_X6_asks_0 Q  h0 M → Wd D cy A s M H locs → lh ls 1 [(0, rv (some h0))] → W p l e (rmm 1 0 0) s m args below meth c H locs 0 0 (MQ below (va_Qi Q (Po D cy A) A) args s 0 0 A) (F0 m 0 ls []) := by
  obtain ⟨hx, hb, hml, hown, hts⟩ := E.1
  intro h0 M H locs ls h w hl
  unfold B_X6_asks_0 at h
  refine r_aload_n (x := (some h0)) hx hb dX6_asks_0 rfl (lh_at hl 0 rfl) ?_
  obtain ⟨ho1, h⟩ := h
  refine r_getI E w rfl ho1 cl_X6 34 rfl fl_X6_194 dX6_asks_1 ?_
  refine lv_if_ne (tgt := 12) hx hb dX6_asks_4 (by decide) (fun c2 => ?_) (fun c2 => ?_)
  · have h := h.1 c2
    refine r_aload_n (x := (some h0)) hx hb dX6_asks_12 rfl (lh_at hl 0 rfl) ?_
    refine z_callVi E w rfl ho1 cl_X6 yk_X6_hasEnded ⟨Nat.le_of_ble_eq_true rfl, Nat.le_of_ble_eq_true rfl⟩ ⟨(Nat.zero_le _), (Nat.zero_le _)⟩ rfl ml_X6_210 im_X6_hasEnded sl_X6_hasEnded [] rfl rfl hl [] rfl (Nat.le_of_ble_eq_true rfl) (K_X6_hasEnded h) dX6_asks_13 (fun r4 M3 H locs h w => ?_)
    refine lv_if_eq (tgt := 24) hx hb dX6_asks_16 (by decide) (fun c5 => ?_) (fun c5 => ?_)
    · have h := h.1 c5
      refine r_aload_n (x := (some h0)) hx hb dX6_asks_24 rfl (lh_at hl 0 rfl) ?_
      obtain ⟨ho6, h⟩ := h
      refine z_callVi E w rfl ho6 cl_X6 yk_X6_middleBuild ⟨Nat.le_of_ble_eq_true rfl, Nat.le_of_ble_eq_true rfl⟩ ⟨(Nat.zero_le _), (Nat.zero_le _)⟩ rfl ml_X6_214 im_X6_middleBuild sl_X6_middleBuild [] rfl rfl hl [] rfl (Nat.le_of_ble_eq_true rfl) (K_X6_middleBuild h) dX6_asks_25 (fun r8 M7 H locs h w => ?_)
      exact r_iret E w hr hlk h (Nat.le_refl 0) (Nat.le_refl 0) dX6_asks_28
    · have h := h.2 c5
      refine lv_bipush (v := (-9 : Int32)) hx hb dX6_asks_19 (by decide) ?_
      refine lv_goto (tgt := 28) hx hb dX6_asks_21 (by decide) ?_
      exact r_iret E w hr hlk h (Nat.le_refl 0) (Nat.le_refl 0) dX6_asks_28
  · have h := h.2 c2
    refine lv_bipush (v := (-4 : Int32)) hx hb dX6_asks_7 (by decide) ?_
    refine lv_goto (tgt := 28) hx hb dX6_asks_9 (by decide) ?_
    exact r_iret E w hr hlk h (Nat.le_refl 0) (Nat.le_refl 0) dX6_asks_28
theorem K_X6_asks {l : Launch} {Q : Int32 → Mm → Prop} {h0 : Nat} {M : Mm} (h : B_X6_asks_0 Q h0 M) : KI l yX6_asks cdX6_asks (rmm 1 0 0) [rv (some h0)] M Q :=
  KI_of (by decide) rfl (Nat.le_of_ble_eq_true rfl) (fun p e s m args below meth c D cy A ls E hr hlk hn w hl => k_X6_asks_0 E hr hlk _ _ _ _ _ h w hl)
def B_X6_rerun_108 (Q : Int32 → Mm → Prop)  (h0 : Nat) (M : Mm) : Prop := (ok M h0 6 ∧ (∀ M2, M2 = pI M h0 39 (0 : Int32) → (∀ M3, M3 = pI M2 h0 38 (0 : Int32) → Q (0 : Int32) M3)))
set_option maxHeartbeats 4000000 in
set_option maxRecDepth 100000 in
theorem k_X6_rerun_108 {p : Program} {l : Launch} {e : Env} {s : State} {m : MethodId} {args : Array Value} {below : List Frame} {meth : Method} {c : Code} {D : va_G} {cy : Nat → ClassId} {A : Nat → Prop} {Q : Int32 → Mm → Prop} (E : Ex p m c cX6_rerun 2 s args RX6 D cy A) (hr : meth.sig.returnType = (some .int)) (hlk : meth.locks = false) : ∀ (h0 : Nat) (M : Mm) (H : Heap) (locs : List Loc) (ls : Array Slot), B_X6_rerun_108 Q  h0 M → Wd D cy A s M H locs → lh ls 2 [(0, rv (some h0))] → W p l e (rmm 1 0 0) s m args below meth c H locs 0 0 (MQ below (va_Qi Q (Po D cy A) A) args s 0 0 A) (F0 m 108 ls []) := by
  obtain ⟨hx, hb, hml, hown, hts⟩ := E.1
  intro h0 M H locs ls h w hl
  unfold B_X6_rerun_108 at h
  refine r_aload_n (x := (some h0)) hx hb dX6_rerun_108 rfl (lh_at hl 0 rfl) ?_
  refine lv_iconst (v := (0 : Int32)) hx hb dX6_rerun_109 (by decide) ?_
  obtain ⟨ho1, h⟩ := h
  refine r_putI (v := (0 : Int32)) E w rfl ho1 cl_X6 39 rfl fl_X6_204 (Or.inl rfl) (Or.inl rfl) dX6_rerun_110 (fun H locs w => ?_)
  obtain ⟨M2, eM2⟩ : ∃ z, z = pI M h0 39 (0 : Int32) := ⟨_, rfl⟩
  rw [← eM2] at w
  have h := h M2 eM2
  refine r_aload_n (x := (some h0)) hx hb dX6_rerun_113 rfl (lh_at hl 0 rfl) ?_
  refine lv_iconst (v := (0 : Int32)) hx hb dX6_rerun_114 (by decide) ?_
  have ho1 : ok M2 h0 6 := by rw [eM2]; exact ho1
  refine r_putI (v := (0 : Int32)) E w rfl ho1 cl_X6 38 rfl fl_X6_201 (Or.inl rfl) (Or.inl rfl) dX6_rerun_115 (fun H locs w => ?_)
  obtain ⟨M3, eM3⟩ : ∃ z, z = pI M2 h0 38 (0 : Int32) := ⟨_, rfl⟩
  rw [← eM3] at w
  have h := h M3 eM3
  refine lv_iconst (v := (0 : Int32)) hx hb dX6_rerun_118 (by decide) ?_
  exact r_iret E w hr hlk h (Nat.le_refl 0) (Nat.le_refl 0) dX6_rerun_119
def B_X6_rerun_51 (Q : Int32 → Mm → Prop)  (h0 : Nat) (s0 : Nat) (s1 : Int32) (s2 : Int32) (M : Mm) : Prop := (ok M s0 6 ∧ (∀ M2, M2 = pI M s0 38 (s1 + s2) → (ok M2 h0 6 ∧ (((gI M2 h0 37) ≤ (gI M2 h0 39) → ((((2 : Int32) * (gI M2 h0 38)) ≤ (gI M2 h0 37) → (B_X6_middleBuild_0 (fun r7 M6 => (ok M6 h0 6 ∧ (∀ M9, M9 = pI M6 h0 35 r7 → B_X6_rerun_108 Q  h0 M9))) h0  M2)) ∧ (¬ ((2 : Int32) * (gI M2 h0 38)) ≤ (gI M2 h0 37) → (B_X6_middleBuild_0 (fun r11 M10 => (ok M10 h0 6 ∧ (∀ M13, M13 = pI M10 h0 36 r11 → B_X6_rerun_108 Q  h0 M13))) h0  M2)))) ∧ (¬ (gI M2 h0 37) ≤ (gI M2 h0 39) → Q ((gI M2 h0 37) - (gI M2 h0 39)) M2)))))
set_option maxHeartbeats 4000000 in
set_option maxRecDepth 100000 in
theorem k_X6_rerun_51 {p : Program} {l : Launch} {e : Env} {s : State} {m : MethodId} {args : Array Value} {below : List Frame} {meth : Method} {c : Code} {D : va_G} {cy : Nat → ClassId} {A : Nat → Prop} {Q : Int32 → Mm → Prop} (E : Ex p m c cX6_rerun 2 s args RX6 D cy A) (hr : meth.sig.returnType = (some .int)) (hlk : meth.locks = false) : ∀ (h0 : Nat) (s0 : Nat) (s1 : Int32) (s2 : Int32) (M : Mm) (H : Heap) (locs : List Loc) (ls : Array Slot), B_X6_rerun_51 Q  h0 s0 s1 s2 M → Wd D cy A s M H locs → lh ls 2 [(0, rv (some h0))] → W p l e (rmm 1 0 0) s m args below meth c H locs 0 0 (MQ below (va_Qi Q (Po D cy A) A) args s 0 0 A) (F0 m 51 ls [.int s2, .int s1, va_rf (some s0)]) := by
  obtain ⟨hx, hb, hml, hown, hts⟩ := E.1
  intro h0 s0 s1 s2 M H locs ls h w hl
  unfold B_X6_rerun_51 at h
  refine lv_iadd hx hb dX6_rerun_51 ?_
  obtain ⟨ho1, h⟩ := h
  refine r_putI (v := (s1 + s2)) E w rfl ho1 cl_X6 38 rfl fl_X6_201 (Or.inl rfl) (Or.inl rfl) dX6_rerun_52 (fun H locs w => ?_)
  obtain ⟨M2, eM2⟩ : ∃ z, z = pI M s0 38 (s1 + s2) := ⟨_, rfl⟩
  rw [← eM2] at w
  have h := h M2 eM2
  refine r_aload_n (x := (some h0)) hx hb dX6_rerun_55 rfl (lh_at hl 0 rfl) ?_
  obtain ⟨ho3, h⟩ := h
  refine r_getI E w rfl ho3 cl_X6 39 rfl fl_X6_204 dX6_rerun_56 ?_
  refine r_aload_n (x := (some h0)) hx hb dX6_rerun_59 rfl (lh_at hl 0 rfl) ?_
  refine r_getI E w rfl ho3 cl_X6 37 rfl fl_X6_198 dX6_rerun_60 ?_
  refine lv_icmp_ge (tgt := 76) hx hb dX6_rerun_63 (by decide) (fun c4 => ?_) (fun c4 => ?_)
  · have h := h.1 c4
    refine lv_iconst (v := (2 : Int32)) hx hb dX6_rerun_76 (by decide) ?_
    refine r_aload_n (x := (some h0)) hx hb dX6_rerun_77 rfl (lh_at hl 0 rfl) ?_
    refine r_getI E w rfl ho3 cl_X6 38 rfl fl_X6_201 dX6_rerun_78 ?_
    refine lv_imul hx hb dX6_rerun_81 ?_
    refine r_aload_n (x := (some h0)) hx hb dX6_rerun_82 rfl (lh_at hl 0 rfl) ?_
    refine r_getI E w rfl ho3 cl_X6 37 rfl fl_X6_198 dX6_rerun_83 ?_
    refine lv_icmp_le (tgt := 100) hx hb dX6_rerun_86 (by decide) (fun c5 => ?_) (fun c5 => ?_)
    · have h := h.1 c5
      refine r_aload_n (x := (some h0)) hx hb dX6_rerun_100 rfl (lh_at hl 0 rfl) ?_
      refine r_aload_n (x := (some h0)) hx hb dX6_rerun_101 rfl (lh_at hl 0 rfl) ?_
      refine z_callVi E w rfl ho3 cl_X6 yk_X6_middleBuild ⟨Nat.le_of_ble_eq_true rfl, Nat.le_of_ble_eq_true rfl⟩ ⟨(Nat.zero_le _), (Nat.zero_le _)⟩ rfl ml_X6_214 im_X6_middleBuild sl_X6_middleBuild [] rfl rfl hl [rv (some h0)] rfl (Nat.le_of_ble_eq_true rfl) (K_X6_middleBuild h) dX6_rerun_102 (fun r7 M6 H locs h w => ?_)
      obtain ⟨ho8, h⟩ := h
      refine r_putI (v := r7) E w rfl ho8 cl_X6 35 rfl fl_X6_188 (Or.inl rfl) (Or.inl rfl) dX6_rerun_105 (fun H locs w => ?_)
      obtain ⟨M9, eM9⟩ : ∃ z, z = pI M6 h0 35 r7 := ⟨_, rfl⟩
      rw [← eM9] at w
      have h := h M9 eM9
      exact k_X6_rerun_108 E hr hlk  _ _ _ _ _ h w (lh_sub hl [0] rfl)
    · have h := h.2 c5
      refine r_aload_n (x := (some h0)) hx hb dX6_rerun_89 rfl (lh_at hl 0 rfl) ?_
      refine r_aload_n (x := (some h0)) hx hb dX6_rerun_90 rfl (lh_at hl 0 rfl) ?_
      refine z_callVi E w rfl ho3 cl_X6 yk_X6_middleBuild ⟨Nat.le_of_ble_eq_true rfl, Nat.le_of_ble_eq_true rfl⟩ ⟨(Nat.zero_le _), (Nat.zero_le _)⟩ rfl ml_X6_214 im_X6_middleBuild sl_X6_middleBuild [] rfl rfl hl [rv (some h0)] rfl (Nat.le_of_ble_eq_true rfl) (K_X6_middleBuild h) dX6_rerun_91 (fun r11 M10 H locs h w => ?_)
      obtain ⟨ho12, h⟩ := h
      refine r_putI (v := r11) E w rfl ho12 cl_X6 36 rfl fl_X6_191 (Or.inl rfl) (Or.inl rfl) dX6_rerun_94 (fun H locs w => ?_)
      obtain ⟨M13, eM13⟩ : ∃ z, z = pI M10 h0 36 r11 := ⟨_, rfl⟩
      rw [← eM13] at w
      have h := h M13 eM13
      refine lv_goto (tgt := 108) hx hb dX6_rerun_97 (by decide) ?_
      exact k_X6_rerun_108 E hr hlk  _ _ _ _ _ h w (lh_sub hl [0] rfl)
  · have h := h.2 c4
    refine r_aload_n (x := (some h0)) hx hb dX6_rerun_66 rfl (lh_at hl 0 rfl) ?_
    refine r_getI E w rfl ho3 cl_X6 37 rfl fl_X6_198 dX6_rerun_67 ?_
    refine r_aload_n (x := (some h0)) hx hb dX6_rerun_70 rfl (lh_at hl 0 rfl) ?_
    refine r_getI E w rfl ho3 cl_X6 39 rfl fl_X6_204 dX6_rerun_71 ?_
    refine lv_isub hx hb dX6_rerun_74 ?_
    exact r_iret E w hr hlk h (Nat.le_refl 0) (Nat.le_refl 0) dX6_rerun_75
def B_X6_rerun_0 (Q : Int32 → Mm → Prop)  (h0 : Nat) (x1 : Int32) (M : Mm) : Prop := (ok M h0 6 ∧ (((gI M h0 34) = 0 → Q (-4 : Int32) M) ∧ (¬ (gI M h0 34) = 0 → (B_X6_hasEnded_0 (fun r4 M3 => ((r4 = 0 → (ok M3 h0 6 ∧ (∀ M7, M7 = pI M3 h0 39 ((gI M3 h0 39) + (1 : Int32)) → (∀ M8, M8 = pI M7 h0 40 ((gI M7 h0 40) + (1 : Int32)) → ((x1 = 0 → B_X6_rerun_51 Q  h0 h0 (gI M8 h0 38) (0 : Int32) M8) ∧ (¬ x1 = 0 → B_X6_rerun_51 Q  h0 h0 (gI M8 h0 38) (1 : Int32) M8)))))) ∧ (¬ r4 = 0 → Q (-4 : Int32) M3))) h0  M))))
set_option maxHeartbeats 4000000 in
set_option maxRecDepth 100000 in
theorem k_X6_rerun_0 {p : Program} {l : Launch} {e : Env} {s : State} {m : MethodId} {args : Array Value} {below : List Frame} {meth : Method} {c : Code} {D : va_G} {cy : Nat → ClassId} {A : Nat → Prop} {Q : Int32 → Mm → Prop} (E : Ex p m c cX6_rerun 2 s args RX6 D cy A) (hr : meth.sig.returnType = (some .int)) (hlk : meth.locks = false) : ∀ (h0 : Nat) (x1 : Int32) (M : Mm) (H : Heap) (locs : List Loc) (ls : Array Slot), B_X6_rerun_0 Q  h0 x1 M → Wd D cy A s M H locs → lh ls 2 [(0, rv (some h0)), (1, iv x1)] → W p l e (rmm 1 0 0) s m args below meth c H locs 0 0 (MQ below (va_Qi Q (Po D cy A) A) args s 0 0 A) (F0 m 0 ls []) := by
  obtain ⟨hx, hb, hml, hown, hts⟩ := E.1
  intro h0 x1 M H locs ls h w hl
  unfold B_X6_rerun_0 at h
  refine r_aload_n (x := (some h0)) hx hb dX6_rerun_0 rfl (lh_at hl 0 rfl) ?_
  obtain ⟨ho1, h⟩ := h
  refine r_getI E w rfl ho1 cl_X6 34 rfl fl_X6_194 dX6_rerun_1 ?_
  refine lv_if_eq (tgt := 14) hx hb dX6_rerun_4 (by decide) (fun c2 => ?_) (fun c2 => ?_)
  · have h := h.1 c2
    refine lv_bipush (v := (-4 : Int32)) hx hb dX6_rerun_14 (by decide) ?_
    exact r_iret E w hr hlk h (Nat.le_refl 0) (Nat.le_refl 0) dX6_rerun_16
  · have h := h.2 c2
    refine r_aload_n (x := (some h0)) hx hb dX6_rerun_7 rfl (lh_at hl 0 rfl) ?_
    refine z_callVi E w rfl ho1 cl_X6 yk_X6_hasEnded ⟨Nat.le_of_ble_eq_true rfl, Nat.le_of_ble_eq_true rfl⟩ ⟨(Nat.zero_le _), (Nat.zero_le _)⟩ rfl ml_X6_210 im_X6_hasEnded sl_X6_hasEnded [] rfl rfl hl [] rfl (Nat.le_of_ble_eq_true rfl) (K_X6_hasEnded h) dX6_rerun_8 (fun r4 M3 H locs h w => ?_)
    refine lv_if_eq (tgt := 17) hx hb dX6_rerun_11 (by decide) (fun c5 => ?_) (fun c5 => ?_)
    · have h := h.1 c5
      refine r_aload_n (x := (some h0)) hx hb dX6_rerun_17 rfl (lh_at hl 0 rfl) ?_
      refine r_dupr hx hb dX6_rerun_18 ?_
      obtain ⟨ho6, h⟩ := h
      refine r_getI E w rfl ho6 cl_X6 39 rfl fl_X6_204 dX6_rerun_19 ?_
      refine lv_iconst (v := (1 : Int32)) hx hb dX6_rerun_22 (by decide) ?_
      refine lv_iadd hx hb dX6_rerun_23 ?_
      refine r_putI (v := ((gI M3 h0 39) + (1 : Int32))) E w rfl ho6 cl_X6 39 rfl fl_X6_204 (Or.inl rfl) (Or.inl rfl) dX6_rerun_24 (fun H locs w => ?_)
      obtain ⟨M7, eM7⟩ : ∃ z, z = pI M3 h0 39 ((gI M3 h0 39) + (1 : Int32)) := ⟨_, rfl⟩
      rw [← eM7] at w
      have h := h M7 eM7
      refine r_aload_n (x := (some h0)) hx hb dX6_rerun_27 rfl (lh_at hl 0 rfl) ?_
      refine r_dupr hx hb dX6_rerun_28 ?_
      have ho6 : ok M7 h0 6 := by rw [eM7]; exact ho6
      refine r_getI E w rfl ho6 cl_X6 40 rfl fl_X6_207 dX6_rerun_29 ?_
      refine lv_iconst (v := (1 : Int32)) hx hb dX6_rerun_32 (by decide) ?_
      refine lv_iadd hx hb dX6_rerun_33 ?_
      refine r_putI (v := ((gI M7 h0 40) + (1 : Int32))) E w rfl ho6 cl_X6 40 rfl fl_X6_207 (Or.inl rfl) (Or.inl rfl) dX6_rerun_34 (fun H locs w => ?_)
      obtain ⟨M8, eM8⟩ : ∃ z, z = pI M7 h0 40 ((gI M7 h0 40) + (1 : Int32)) := ⟨_, rfl⟩
      rw [← eM8] at w
      have h := h M8 eM8
      refine r_aload_n (x := (some h0)) hx hb dX6_rerun_37 rfl (lh_at hl 0 rfl) ?_
      refine r_dupr hx hb dX6_rerun_38 ?_
      have ho6 : ok M8 h0 6 := by rw [eM8]; exact ho6
      refine r_getI E w rfl ho6 cl_X6 38 rfl fl_X6_201 dX6_rerun_39 ?_
      refine lv_iload_n (x := x1) hx hb dX6_rerun_42 rfl (lh_at hl 1 rfl) ?_
      refine lv_if_eq (tgt := 50) hx hb dX6_rerun_43 (by decide) (fun c9 => ?_) (fun c9 => ?_)
      · have h := h.1 c9
        refine lv_iconst (v := (0 : Int32)) hx hb dX6_rerun_50 (by decide) ?_
        exact k_X6_rerun_51 E hr hlk  _ _ _ _ _ _ _ _ h w (lh_sub hl [0] rfl)
      · have h := h.2 c9
        refine lv_iconst (v := (1 : Int32)) hx hb dX6_rerun_46 (by decide) ?_
        refine lv_goto (tgt := 51) hx hb dX6_rerun_47 (by decide) ?_
        exact k_X6_rerun_51 E hr hlk  _ _ _ _ _ _ _ _ h w (lh_sub hl [0] rfl)
    · have h := h.2 c5
      refine lv_bipush (v := (-4 : Int32)) hx hb dX6_rerun_14 (by decide) ?_
      exact r_iret E w hr hlk h (Nat.le_refl 0) (Nat.le_refl 0) dX6_rerun_16
theorem K_X6_rerun {l : Launch} {Q : Int32 → Mm → Prop} {h0 : Nat} {x1 : Int32} {M : Mm} (h : B_X6_rerun_0 Q h0 x1 M) : KI l yX6_rerun cdX6_rerun (rmm 1 0 0) [rv (some h0), iv x1] M Q :=
  KI_of (by decide) rfl (Nat.le_of_ble_eq_true rfl) (fun p e s m args below meth c D cy A ls E hr hlk hn w hl => k_X6_rerun_0 E hr hlk _ _ _ _ _ _ h w hl)
