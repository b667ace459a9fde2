def B_X5_cryRow_113 (Q : Int32 → Mm → Prop) (K29 : Nat → Int32 → Int32 → Int32 → Int32 → Int32 → Option Nat → Int32 → Int32 → Nat → Nat → Mm → Prop) (h0 : Nat) (x1 : Int32) (x2 : Int32) (x3 : Int32) (x4 : Int32) (x5 : Int32) (x6 : Option Nat) (x8 : Int32) (x9 : Int32) (s0 : Int32) (gc : Nat) (gs : Nat) (M : Mm) : Prop := (∃ a1, x6 = some a1 ∧ (ok M a1 3 ∧ (B_X3_rememberAlarm_0 (fun  M3 => (ok M3 h0 5 ∧ (B_X5_keepAlarm_0 (fun  M5 => K29 h0 x1 x2 x3 x4 x5 x6 s0 (x8 + 1) gc gs M5) h0 x9 M3))) a1 x8 M)))
set_option maxHeartbeats 4000000 in
set_option maxRecDepth 100000 in
theorem k_X5_cryRow_113 {p : Program} {l : Launch} {e : Env} {s : State} {m : MethodId} {args : Array Value} {below : List Frame} {meth : Method} {c : Code} {D : va_G} {cy : Nat → ClassId} {A : Nat → Prop} {mc ms : Nat} {Q : Int32 → Mm → Prop} (E : Ex p m c cX5_cryRow 10 s args RX5 D cy A) (hr : meth.sig.returnType = (some .int)) (hlk : meth.locks = false) {K29 : Nat → Int32 → Int32 → Int32 → Int32 → Int32 → Option Nat → Int32 → Int32 → Nat → Nat → Mm → Prop} (hK29 : ∀ (h0 : Nat) (x1 : Int32) (x2 : Int32) (x3 : Int32) (x4 : Int32) (x5 : Int32) (x6 : Option Nat) (x7 : Int32) (x8 : Int32) (gc : Nat) (gs : Nat) (M : Mm) (H : Heap) (locs : List Loc) (ls : Array Slot) (cells slots : Nat), K29 h0 x1 x2 x3 x4 x5 x6 x7 x8 gc gs M → Wd D cy A s M H locs → lh ls 10 [(0, rv (some h0)), (1, iv x1), (2, iv x2), (3, iv x3), (4, iv x4), (5, iv x5), (6, rv x6), (7, iv x7), (8, iv x8)] → cells + gc ≤ mc ∧ slots + gs ≤ ms → W p l e (rmm 4 mc ms) s m args below meth c H locs cells slots (MQ below (va_Qi Q (Po D cy A) A) args s mc ms A) (F0 m 29 ls [])) : ∀ (h0 : Nat) (x1 : Int32) (x2 : Int32) (x3 : Int32) (x4 : Int32) (x5 : Int32) (x6 : Option Nat) (x8 : Int32) (x9 : Int32) (s0 : Int32) (gc : Nat) (gs : Nat) (M : Mm) (H : Heap) (locs : List Loc) (ls : Array Slot) (cells slots : Nat), B_X5_cryRow_113 Q K29 h0 x1 x2 x3 x4 x5 x6 x8 x9 s0 gc gs M → Wd D cy A s M H locs → lh ls 10 [(0, rv (some h0)), (1, iv x1), (2, iv x2), (3, iv x3), (4, iv x4), (5, iv x5), (6, rv x6), (8, iv x8), (9, iv x9)] → cells + gc ≤ mc ∧ slots + gs ≤ ms → W p l e (rmm 4 mc ms) s m args below meth c H locs cells slots (MQ below (va_Qi Q (Po D cy A) A) args s mc ms A) (F0 m 113 ls [.int s0]) := by
  obtain ⟨hx, hb, hml, hown, hts⟩ := E.1
  intro h0 x1 x2 x3 x4 x5 x6 x8 x9 s0 gc gs M H locs ls cells slots h w hl hg
  unfold B_X5_cryRow_113 at h
  refine r_istore (lv' := [(7, iv s0), (0, rv (some h0)), (1, iv x1), (2, iv x2), (3, iv x3), (4, iv x4), (5, iv x5), (6, rv x6), (8, iv x8), (9, iv x9)]) hx hb dX5_cryRow_113 hl (by decide) rfl (fun ls hl => ?_)
  refine r_aload (x := x6) hx hb dX5_cryRow_115 (lh_at hl 7 rfl) ?_
  refine lv_iload (x := x8) hx hb dX5_cryRow_117 (lh_at hl 8 rfl) ?_
  obtain ⟨a1, ea1, h⟩ := h
  obtain ⟨ho2, h⟩ := h
  refine z_callVv E w ea1 ho2 cl_X3 yk_X3_rememberAlarm ⟨Nat.le_of_ble_eq_true rfl, Nat.le_of_ble_eq_true rfl⟩ ⟨(show cells ≤ mc by omega), (show slots ≤ ms by omega)⟩ rfl ml_X5_267 im_X3_rememberAlarm sl_X3_rememberAlarm [iv x8] rfl rfl hl [] rfl (Nat.le_of_ble_eq_true rfl) (K_X3_rememberAlarm h) dX5_cryRow_119 (fun  M3 H locs h w => ?_)
  refine r_aload_n (x := (some h0)) hx hb dX5_cryRow_122 rfl (lh_at hl 1 rfl) ?_
  refine lv_iload (x := x9) hx hb dX5_cryRow_123 (lh_at hl 9 rfl) ?_
  obtain ⟨ho4, h⟩ := h
  refine z_callVv E w rfl ho4 cl_X5 yk_X5_keepAlarm ⟨Nat.le_of_ble_eq_true rfl, Nat.le_of_ble_eq_true rfl⟩ ⟨(show cells ≤ mc by omega), (show slots ≤ ms by omega)⟩ rfl ml_X5_270 im_X5_keepAlarm sl_X5_keepAlarm [iv x9] rfl rfl hl [] rfl (Nat.le_of_ble_eq_true rfl) (K_X5_keepAlarm h) dX5_cryRow_125 (fun  M5 H locs h w => ?_)
  refine r_iinc (k := 8) (x := x8) (v := (x8 + 1)) (lv' := [(8, iv (x8 + 1)), (7, iv s0), (0, rv (some h0)), (1, iv x1), (2, iv x2), (3, iv x3), (4, iv x4), (5, iv x5), (6, rv x6), (9, iv x9)]) hx hb dX5_cryRow_128 hl rfl rfl (by decide) rfl (fun ls hl => ?_)
  refine lv_goto (tgt := 29) hx hb dX5_cryRow_131 (by decide) ?_
  exact hK29 _ _ _ _ _ _ _ _ _ _ _ _ _ _ _ _ _ h w (lh_sub hl [2, 3, 4, 5, 6, 7, 8, 1, 0] rfl) hg
def B_X5_cryRow_29 (Q : Int32 → Mm → Prop)  : Nat → Nat → Int32 → Int32 → Int32 → Int32 → Int32 → Option Nat → Int32 → Int32 → Nat → Nat → Mm → Prop
  | 0, _, _, _, _, _, _, _, _, _, _, _, _ => False
  | n + 1, h0, x1, x2, x3, x4, x5, x6, x7, x8, gc, gs, M => (∃ a1, x6 = some a1 ∧ (ok M a1 3 ∧ (B_X3_cutCount_0 (fun r4 M3 => ((r4 ≤ x8 → Q x7 M3) ∧ (¬ r4 ≤ x8 → (ok M3 a1 3 ∧ (B_X3_stepSize_0 (fun r8 M7 => ((r8 < x3 → B_X5_cryRow_29 Q  n h0 x1 x2 x3 x4 x5 x6 x7 (x8 + 1) gc gs M7) ∧ (¬ r8 < x3 → (ok M7 h0 5 ∧ (∃ a11, (gR M7 h0 0) = some a11 ∧ (ar M7 a11 11 x1 ∧ (B_X5_isAlarming_0 (fun r14 M13 => ((r14 = 0 → B_X5_cryRow_29 Q  n h0 x1 x2 x3 x4 x5 x6 x7 (x8 + 1) gc gs M13) ∧ (¬ r14 = 0 → (ok M13 h0 5 ∧ (∃ b19 b19s : Nat, b19 ≤ gc ∧ b19s ≤ gs ∧ (B_X5_isRare_0 (fun r18 M17 => ((r18 = 0 → B_X5_cryRow_29 Q  n h0 x1 x2 x3 x4 x5 x6 x7 (x8 + 1) (gc - b19) (gs - b19s) M17) ∧ (¬ r18 = 0 → (ok M17 a1 3 ∧ (B_X3_cutBuild_0 (fun r23 M22 => ((¬ x7 = 0 → B_X5_cryRow_113 Q (fun y0 y1 y2 y3 y4 y5 y6 y7 y8 y9 y10 My => B_X5_cryRow_29 Q n y0 y1 y2 y3 y4 y5 y6 y7 y8 y9 y10 My) h0 x1 x2 x3 x4 x5 x6 x8 ((((1000 : Int32) * x1) + ((100 : Int32) * x2)) + r23) x7 (gc - b19) (gs - b19s) M22) ∧ (x7 = 0 → B_X5_cryRow_113 Q (fun y0 y1 y2 y3 y4 y5 y6 y7 y8 y9 y10 My => B_X5_cryRow_29 Q n y0 y1 y2 y3 y4 y5 y6 y7 y8 y9 y10 My) h0 x1 x2 x3 x4 x5 x6 x8 ((((1000 : Int32) * x1) + ((100 : Int32) * x2)) + r23) ((((1000 : Int32) * x1) + ((100 : Int32) * x2)) + r23) (gc - b19) (gs - b19s) M22))) a1 x8 M17))))) h0 x6 x8 x4 x5 b19 b19s M13)))))) h0 (gR M7 a11 (Int32.toNatClampNeg x1)) x2 x8 M7))))))) a1 x8 M3))))) a1  M)))
set_option maxHeartbeats 4000000 in
set_option maxRecDepth 100000 in
theorem k_X5_cryRow_29 {p : Program} {l : Launch} {e : Env} {s : State} {m : MethodId} {args : Array Value} {below : List Frame} {meth : Method} {c : Code} {D : va_G} {cy : Nat → ClassId} {A : Nat → Prop} {mc ms : Nat} {Q : Int32 → Mm → Prop} (E : Ex p m c cX5_cryRow 10 s args RX5 D cy A) (hr : meth.sig.returnType = (some .int)) (hlk : meth.locks = false) : ∀ (n : Nat), ∀ (h0 : Nat) (x1 : Int32) (x2 : Int32) (x3 : Int32) (x4 : Int32) (x5 : Int32) (x6 : Option Nat) (x7 : Int32) (x8 : Int32) (gc : Nat) (gs : Nat) (M : Mm) (H : Heap) (locs : List Loc) (ls : Array Slot) (cells slots : Nat), B_X5_cryRow_29 Q  n h0 x1 x2 x3 x4 x5 x6 x7 x8 gc gs M → Wd D cy A s M H locs → lh ls 10 [(0, rv (some h0)), (1, iv x1), (2, iv x2), (3, iv x3), (4, iv x4), (5, iv x5), (6, rv x6), (7, iv x7), (8, iv x8)] → cells + gc ≤ mc ∧ slots + gs ≤ ms → W p l e (rmm 4 mc ms) s m args below meth c H locs cells slots (MQ below (va_Qi Q (Po D cy A) A) args s mc ms A) (F0 m 29 ls []) := by
  obtain ⟨hx, hb, hml, hown, hts⟩ := E.1
  intro n
  induction n with
  | zero => intro h0 x1 x2 x3 x4 x5 x6 x7 x8 gc gs M H locs ls cells slots h; exact False.elim h
  | succ n ih =>
    intro h0 x1 x2 x3 x4 x5 x6 x7 x8 gc gs M H locs ls cells slots h w hl hg
    unfold B_X5_cryRow_29 at h
    refine lv_iload (x := x8) hx hb dX5_cryRow_29 (lh_at hl 8 rfl) ?_
    refine r_aload (x := x6) hx hb dX5_cryRow_31 (lh_at hl 6 rfl) ?_
    obtain ⟨a1, ea1, h⟩ := h
    obtain ⟨ho2, h⟩ := h
    refine z_callVi E w ea1 ho2 cl_X3 yk_X3_cutCount ⟨Nat.le_of_ble_eq_true rfl, Nat.le_of_ble_eq_true rfl⟩ ⟨(show cells ≤ mc by omega), (show slots ≤ ms by omega)⟩ rfl ml_X5_125 im_X3_cutCount sl_X3_cutCount [] rfl rfl hl [iv x8] rfl (Nat.le_of_ble_eq_true rfl) (K_X3_cutCount h) dX5_cryRow_33 (fun r4 M3 H locs h w => ?_)
    refine lv_icmp_ge (tgt := 134) hx hb dX5_cryRow_36 (by decide) (fun c5 => ?_) (fun c5 => ?_)
    · have h := h.1 c5
      refine lv_iload (x := x7) hx hb dX5_cryRow_134 (lh_at hl 7 rfl) ?_
      exact r_iret E w hr hlk h (show cells ≤ mc by omega) (show slots ≤ ms by omega) dX5_cryRow_136
    · have h := h.2 c5
      refine r_aload (x := x6) hx hb dX5_cryRow_39 (lh_at hl 6 rfl) ?_
      refine lv_iload (x := x8) hx hb dX5_cryRow_41 (lh_at hl 8 rfl) ?_
      obtain ⟨ho6, h⟩ := h
      refine z_callVi E w ea1 ho6 cl_X3 yk_X3_stepSize ⟨Nat.le_of_ble_eq_true rfl, Nat.le_of_ble_eq_true rfl⟩ ⟨(show cells ≤ mc by omega), (show slots ≤ ms by omega)⟩ rfl ml_X5_141 im_X3_stepSize sl_X3_stepSize [iv x8] rfl rfl hl [] rfl (Nat.le_of_ble_eq_true rfl) (K_X3_stepSize h) dX5_cryRow_43 (fun r8 M7 H locs h w => ?_)
      refine lv_iload_n (x := x3) hx hb dX5_cryRow_46 rfl (lh_at hl 3 rfl) ?_
      refine lv_icmp_lt (tgt := 128) hx hb dX5_cryRow_47 (by decide) (fun c9 => ?_) (fun c9 => ?_)
      · have h := h.1 c9
        refine r_iinc (k := 8) (x := x8) (v := (x8 + 1)) (lv' := [(8, iv (x8 + 1)), (0, rv (some h0)), (1, iv x1), (2, iv x2), (3, iv x3), (4, iv x4), (5, iv x5), (6, rv x6), (7, iv x7)]) hx hb dX5_cryRow_128 hl rfl rfl (by decide) rfl (fun ls hl => ?_)
        refine lv_goto (tgt := 29) hx hb dX5_cryRow_131 (by decide) ?_
        exact ih _ _ _ _ _ _ _ _ _ _ _ _ _ _ _ _ _ h w (lh_sub hl [1, 2, 3, 4, 5, 6, 7, 8, 0] rfl) hg
      · have h := h.2 c9
        refine r_aload_n (x := (some h0)) hx hb dX5_cryRow_50 rfl (lh_at hl 0 rfl) ?_
        refine r_aload_n (x := (some h0)) hx hb dX5_cryRow_51 rfl (lh_at hl 0 rfl) ?_
        obtain ⟨ho10, h⟩ := h
        refine r_getR E w rfl ho10 cl_X5 0 rfl fl_X5_11 dX5_cryRow_52 ?_
        refine lv_iload_n (x := x1) hx hb dX5_cryRow_55 rfl (lh_at hl 1 rfl) ?_
        obtain ⟨a11, ea11, h⟩ := h
        obtain ⟨ha12, h⟩ := h
        refine r_aald11 E w ea11 ha12 dX5_cryRow_56 ?_
        refine lv_iload_n (x := x2) hx hb dX5_cryRow_57 rfl (lh_at hl 2 rfl) ?_
        refine lv_iload (x := x8) hx hb dX5_cryRow_58 (lh_at hl 8 rfl) ?_
        refine z_callVi E w rfl ho10 cl_X5 yk_X5_isAlarming ⟨Nat.le_of_ble_eq_true rfl, Nat.le_of_ble_eq_true rfl⟩ ⟨(show cells ≤ mc by omega), (show slots ≤ ms by omega)⟩ rfl ml_X5_260 im_X5_isAlarming sl_X5_isAlarming [rv (gR M7 a11 (Int32.toNatClampNeg x1)), iv x2, iv x8] rfl rfl hl [] rfl (Nat.le_of_ble_eq_true rfl) (K_X5_isAlarming h) dX5_cryRow_60 (fun r14 M13 H locs h w => ?_)
        refine lv_if_eq (tgt := 128) hx hb dX5_cryRow_63 (by decide) (fun c15 => ?_) (fun c15 => ?_)
        · have h := h.1 c15
          refine r_iinc (k := 8) (x := x8) (v := (x8 + 1)) (lv' := [(8, iv (x8 + 1)), (0, rv (some h0)), (1, iv x1), (2, iv x2), (3, iv x3), (4, iv x4), (5, iv x5), (6, rv x6), (7, iv x7)]) hx hb dX5_cryRow_128 hl rfl rfl (by decide) rfl (fun ls hl => ?_)
          refine lv_goto (tgt := 29) hx hb dX5_cryRow_131 (by decide) ?_
          exact ih _ _ _ _ _ _ _ _ _ _ _ _ _ _ _ _ _ h w (lh_sub hl [1, 2, 3, 4, 5, 6, 7, 8, 0] rfl) hg
        · have h := h.2 c15
          refine r_aload_n (x := (some h0)) hx hb dX5_cryRow_66 rfl (lh_at hl 0 rfl) ?_
          refine r_aload (x := x6) hx hb dX5_cryRow_67 (lh_at hl 6 rfl) ?_
          refine lv_iload (x := x8) hx hb dX5_cryRow_69 (lh_at hl 8 rfl) ?_
          refine lv_iload (x := x4) hx hb dX5_cryRow_71 (lh_at hl 4 rfl) ?_
          refine lv_iload (x := x5) hx hb dX5_cryRow_73 (lh_at hl 5 rfl) ?_
          obtain ⟨ho16, h⟩ := h
          obtain ⟨b19, b19s, b19c, b19d, h⟩ := h
          refine r_callVi (rm := rmm 3 b19 b19s) E w rfl ho16 cl_X5 yk_X5_isRare ⟨Nat.le_of_ble_eq_true rfl, Nat.le_of_ble_eq_true rfl⟩ ⟨show cells + b19 ≤ mc by omega, show slots + b19s ≤ ms by omega⟩ rfl ml_X5_263 im_X5_isRare sl_X5_isRare [rv x6, iv x8, iv x4, iv x5] rfl rfl hl [] rfl (Nat.le_of_ble_eq_true rfl) (K_X5_isRare h) dX5_cryRow_75 (fun r18 M17 H locs h w => ?_)
          have hg : (cells + b19) + (gc - b19) ≤ mc ∧ (slots + b19s) + (gs - b19s) ≤ ms := ⟨by omega, by omega⟩
          refine lv_if_eq (tgt := 128) hx hb dX5_cryRow_78 (by decide) (fun c20 => ?_) (fun c20 => ?_)
          · have h := h.1 c20
            refine r_iinc (k := 8) (x := x8) (v := (x8 + 1)) (lv' := [(8, iv (x8 + 1)), (0, rv (some h0)), (1, iv x1), (2, iv x2), (3, iv x3), (4, iv x4), (5, iv x5), (6, rv x6), (7, iv x7)]) hx hb dX5_cryRow_128 hl rfl rfl (by decide) rfl (fun ls hl => ?_)
            refine lv_goto (tgt := 29) hx hb dX5_cryRow_131 (by decide) ?_
            exact ih _ _ _ _ _ _ _ _ _ _ _ _ _ _ _ _ _ h w (lh_sub hl [1, 2, 3, 4, 5, 6, 7, 8, 0] rfl) hg
          · have h := h.2 c20
            refine lv_sipush (v := (1000 : Int32)) hx hb dX5_cryRow_81 (by decide) ?_
            refine lv_iload_n (x := x1) hx hb dX5_cryRow_84 rfl (lh_at hl 1 rfl) ?_
            refine lv_imul hx hb dX5_cryRow_85 ?_
            refine lv_bipush (v := (100 : Int32)) hx hb dX5_cryRow_86 (by decide) ?_
            refine lv_iload_n (x := x2) hx hb dX5_cryRow_88 rfl (lh_at hl 2 rfl) ?_
            refine lv_imul hx hb dX5_cryRow_89 ?_
            refine lv_iadd hx hb dX5_cryRow_90 ?_
            refine r_aload (x := x6) hx hb dX5_cryRow_91 (lh_at hl 6 rfl) ?_
            refine lv_iload (x := x8) hx hb dX5_cryRow_93 (lh_at hl 8 rfl) ?_
            obtain ⟨ho21, h⟩ := h
            refine z_callVi E w ea1 ho21 cl_X3 yk_X3_cutBuild ⟨Nat.le_of_ble_eq_true rfl, Nat.le_of_ble_eq_true rfl⟩ ⟨(show (cells + b19) ≤ mc by omega), (show (slots + b19s) ≤ ms by omega)⟩ rfl ml_X5_132 im_X3_cutBuild sl_X3_cutBuild [iv x8] rfl rfl hl [iv (((1000 : Int32) * x1) + ((100 : Int32) * x2))] rfl (Nat.le_of_ble_eq_true rfl) (K_X3_cutBuild h) dX5_cryRow_95 (fun r23 M22 H locs h w => ?_)
            refine lv_iadd hx hb dX5_cryRow_98 ?_
            refine r_istore (lv' := [(9, iv ((((1000 : Int32) * x1) + ((100 : Int32) * x2)) + r23)), (0, rv (some h0)), (1, iv x1), (2, iv x2), (3, iv x3), (4, iv x4), (5, iv x5), (6, rv x6), (7, iv x7), (8, iv x8)]) hx hb dX5_cryRow_99 hl (by decide) rfl (fun ls hl => ?_)
            refine lv_iload (x := x7) hx hb dX5_cryRow_101 (lh_at hl 8 rfl) ?_
            refine lv_if_ne (tgt := 111) hx hb dX5_cryRow_103 (by decide) (fun c24 => ?_) (fun c24 => ?_)
            · have h := h.1 c24
              refine lv_iload (x := x7) hx hb dX5_cryRow_111 (lh_at hl 8 rfl) ?_
              exact k_X5_cryRow_113 E hr hlk ih _ _ _ _ _ _ _ _ _ _ _ _ _ _ _ _ _ _ h w (lh_sub hl [1, 2, 3, 4, 5, 6, 7, 9, 0] rfl) hg
            · have h := h.2 c24
              refine lv_iload (x := ((((1000 : Int32) * x1) + ((100 : Int32) * x2)) + r23)) hx hb dX5_cryRow_106 (lh_at hl 0 rfl) ?_
              refine lv_goto (tgt := 113) hx hb dX5_cryRow_108 (by decide) ?_
              exact k_X5_cryRow_113 E hr hlk ih _ _ _ _ _ _ _ _ _ _ _ _ _ _ _ _ _ _ h w (lh_sub hl [1, 2, 3, 4, 5, 6, 7, 9, 0] rfl) hg
def B_X5_cryRow_0 (Q : Int32 → Mm → Prop)  (h0 : Nat) (x1 : Int32) (x2 : Int32) (x3 : Int32) (x4 : Int32) (x5 : Int32) (gc : Nat) (gs : Nat) (M : Mm) : Prop := (ok M h0 5 ∧ (∃ a2, (gR M h0 0) = some a2 ∧ (ar M a2 11 x1 ∧ (∃ a4, (gR M a2 (Int32.toNatClampNeg x1)) = some a4 ∧ (ok M a4 4 ∧ (∃ a6, (gR M a4 1) = some a6 ∧ (ar M a6 10 x2 ∧ (∃ a8, (gR M a6 (Int32.toNatClampNeg x2)) = some a8 ∧ (ok M a8 3 ∧ ((¬ (gI M a8 1) = 0 → (∃ n11, B_X5_cryRow_29 Q  n11 h0 x1 x2 x3 x4 x5 (gR M a6 (Int32.toNatClampNeg x2)) (0 : Int32) (0 : Int32) gc gs M)) ∧ ((gI M a8 1) = 0 → Q (0 : Int32) M)))))))))))
set_option maxHeartbeats 4000000 in
set_option maxRecDepth 100000 in
theorem k_X5_cryRow_0 {p : Program} {l : Launch} {e : Env} {s : State} {m : MethodId} {args : Array Value} {below : List Frame} {meth : Method} {c : Code} {D : va_G} {cy : Nat → ClassId} {A : Nat → Prop} {mc ms : Nat} {Q : Int32 → Mm → Prop} (E : Ex p m c cX5_cryRow 10 s args RX5 D cy A) (hr : meth.sig.returnType = (some .int)) (hlk : meth.locks = false) : ∀ (h0 : Nat) (x1 : Int32) (x2 : Int32) (x3 : Int32) (x4 : Int32) (x5 : Int32) (gc : Nat) (gs : Nat) (M : Mm) (H : Heap) (locs : List Loc) (ls : Array Slot) (cells slots : Nat), B_X5_cryRow_0 Q  h0 x1 x2 x3 x4 x5 gc gs M → Wd D cy A s M H locs → lh ls 10 [(0, rv (some h0)), (1, iv x1), (2, iv x2), (3, iv x3), (4, iv x4), (5, iv x5)] → cells + gc ≤ mc ∧ slots + gs ≤ ms → W p l e (rmm 4 mc ms) s m args below meth c H locs cells slots (MQ below (va_Qi Q (Po D cy A) A) args s mc ms A) (F0 m 0 ls []) := by
  obtain ⟨hx, hb, hml, hown, hts⟩ := E.1
  intro h0 x1 x2 x3 x4 x5 gc gs M H locs ls cells slots h w hl hg
  unfold B_X5_cryRow_0 at h
  refine r_aload_n (x := (some h0)) hx hb dX5_cryRow_0 rfl (lh_at hl 0 rfl) ?_
  obtain ⟨ho1, h⟩ := h
  refine r_getR E w rfl ho1 cl_X5 0 rfl fl_X5_11 dX5_cryRow_1 ?_
  refine lv_iload_n (x := x1) hx hb dX5_cryRow_4 rfl (lh_at hl 1 rfl) ?_
  obtain ⟨a2, ea2, h⟩ := h
  obtain ⟨ha3, h⟩ := h
  refine r_aald11 E w ea2 ha3 dX5_cryRow_5 ?_
  obtain ⟨a4, ea4, h⟩ := h
  obtain ⟨ho5, h⟩ := h
  refine r_getR E w ea4 ho5 cl_X4 1 rfl fl_X5_218 dX5_cryRow_6 ?_
  refine lv_iload_n (x := x2) hx hb dX5_cryRow_9 rfl (lh_at hl 2 rfl) ?_
  obtain ⟨a6, ea6, h⟩ := h
  obtain ⟨ha7, h⟩ := h
  refine r_aald10 E w ea6 ha7 dX5_cryRow_10 ?_
  refine r_astore (lv' := [(6, rv (gR M a6 (Int32.toNatClampNeg x2))), (0, rv (some h0)), (1, iv x1), (2, iv x2), (3, iv x3), (4, iv x4), (5, iv x5)]) hx hb dX5_cryRow_11 hl (by decide) rfl (fun ls hl => ?_)
  refine r_aload (x := (gR M a6 (Int32.toNatClampNeg x2))) hx hb dX5_cryRow_13 (lh_at hl 0 rfl) ?_
  obtain ⟨a8, ea8, h⟩ := h
  obtain ⟨ho9, h⟩ := h
  refine r_getI E w ea8 ho9 cl_X3 1 rfl fl_X5_71 dX5_cryRow_15 ?_
  refine lv_if_ne (tgt := 23) hx hb dX5_cryRow_18 (by decide) (fun c10 => ?_) (fun c10 => ?_)
  · have h := h.1 c10
    refine lv_iconst (v := (0 : Int32)) hx hb dX5_cryRow_23 (by decide) ?_
    refine r_istore (lv' := [(7, iv (0 : Int32)), (6, rv (gR M a6 (Int32.toNatClampNeg x2))), (0, rv (some h0)), (1, iv x1), (2, iv x2), (3, iv x3), (4, iv x4), (5, iv x5)]) hx hb dX5_cryRow_24 hl (by decide) rfl (fun ls hl => ?_)
    refine lv_iconst (v := (0 : Int32)) hx hb dX5_cryRow_26 (by decide) ?_
    refine r_istore (lv' := [(8, iv (0 : Int32)), (7, iv (0 : Int32)), (6, rv (gR M a6 (Int32.toNatClampNeg x2))), (0, rv (some h0)), (1, iv x1), (2, iv x2), (3, iv x3), (4, iv x4), (5, iv x5)]) hx hb dX5_cryRow_27 hl (by decide) rfl (fun ls hl => ?_)
    obtain ⟨n11, h⟩ := h
    exact k_X5_cryRow_29 E hr hlk  n11 _ _ _ _ _ _ _ _ _ _ _ _ _ _ _ _ _ h w (lh_sub hl [3, 4, 5, 6, 7, 8, 2, 1, 0] rfl) hg
  · have h := h.2 c10
    refine lv_iconst (v := (0 : Int32)) hx hb dX5_cryRow_21 (by decide) ?_
    exact r_iret E w hr hlk h (show cells ≤ mc by omega) (show slots ≤ ms by omega) dX5_cryRow_22
theorem K_X5_cryRow {l : Launch} {Q : Int32 → Mm → Prop} {h0 : Nat} {x1 : Int32} {x2 : Int32} {x3 : Int32} {x4 : Int32} {x5 : Int32} {gc gs : Nat} {M : Mm} (h : B_X5_cryRow_0 Q h0 x1 x2 x3 x4 x5 gc gs M) : KI l yX5_cryRow cdX5_cryRow (rmm 4 gc gs) [rv (some h0), iv x1, iv x2, iv x3, iv x4, iv x5] M Q :=
  KI_of (by decide) rfl (Nat.le_of_ble_eq_true rfl) (fun p e s m args below meth c D cy A ls E hr hlk hn w hl => k_X5_cryRow_0 E hr hlk _ _ _ _ _ _ _ _ _ _ _ _ _ _ h w hl ⟨Nat.le_of_eq (Nat.zero_add _), Nat.le_of_eq (Nat.zero_add _)⟩)
def B_X5_cry_83 (Q : Int32 → Mm → Prop) (K43 : Nat → Int32 → Int32 → Int32 → Int32 → Int32 → Int32 → Nat → Nat → Mm → Prop) : Nat → Nat → Int32 → Int32 → Int32 → Int32 → Int32 → Int32 → Int32 → Nat → Nat → Mm → Prop
  | 0, _, _, _, _, _, _, _, _, _, _, _ => False
  | n + 1, h0, x1, x2, x3, x4, x5, x6, x7, gc, gs, M => (((4 : Int32) ≤ x7 → K43 h0 x1 x2 x3 x4 x5 (x6 + 1) gc gs M) ∧ (¬ (4 : Int32) ≤ x7 → (ok M h0 5 ∧ (∃ b5 b5s : Nat, b5 ≤ gc ∧ b5s ≤ gs ∧ (B_X5_cryRow_0 (fun r4 M3 => ((¬ x5 = 0 → B_X5_cry_83 Q K43 n h0 x1 x2 x3 x4 x5 x6 (x7 + 1) (gc - b5) (gs - b5s) M3) ∧ (x5 = 0 → B_X5_cry_83 Q K43 n h0 x1 x2 x3 x4 r4 x6 (x7 + 1) (gc - b5) (gs - b5s) M3))) h0 x6 x7 x1 x2 x3 b5 b5s M)))))
set_option maxHeartbeats 4000000 in
set_option maxRecDepth 100000 in
theorem k_X5_cry_83 {p : Program} {l : Launch} {e : Env} {s : State} {m : MethodId} {args : Array Value} {below : List Frame} {meth : Method} {c : Code} {D : va_G} {cy : Nat → ClassId} {A : Nat → Prop} {mc ms : Nat} {Q : Int32 → Mm → Prop} (E : Ex p m c cX5_cry 9 s args RX5 D cy A) (hr : meth.sig.returnType = (some .int)) (hlk : meth.locks = false) {K43 : Nat → Int32 → Int32 → Int32 → Int32 → Int32 → Int32 → Nat → Nat → Mm → Prop} (hK43 : ∀ (h0 : Nat) (x1 : Int32) (x2 : Int32) (x3 : Int32) (x4 : Int32) (x5 : Int32) (x6 : Int32) (gc : Nat) (gs : Nat) (M : Mm) (H : Heap) (locs : List Loc) (ls : Array Slot) (cells slots : Nat), K43 h0 x1 x2 x3 x4 x5 x6 gc gs M → Wd D cy A s M H locs → lh ls 9 [(0, rv (some h0)), (1, iv x1), (2, iv x2), (3, iv x3), (4, iv x4), (5, iv x5), (6, iv x6)] → cells + gc ≤ mc ∧ slots + gs ≤ ms → W p l e (rmm 6 mc ms) s m args below meth c H locs cells slots (MQ below (va_Qi Q (Po D cy A) A) args s mc ms A) (F0 m 43 ls [])) : ∀ (n : Nat), ∀ (h0 : Nat) (x1 : Int32) (x2 : Int32) (x3 : Int32) (x4 : Int32) (x5 : Int32) (x6 : Int32) (x7 : Int32) (gc : Nat) (gs : Nat) (M : Mm) (H : Heap) (locs : List Loc) (ls : Array Slot) (cells slots : Nat), B_X5_cry_83 Q K43 n h0 x1 x2 x3 x4 x5 x6 x7 gc gs M → Wd D cy A s M H locs → lh ls 9 [(0, rv (some h0)), (1, iv x1), (2, iv x2), (3, iv x3), (4, iv x4), (5, iv x5), (6, iv x6), (7, iv x7)] → cells + gc ≤ mc ∧ slots + gs ≤ ms → W p l e (rmm 6 mc ms) s m args below meth c H locs cells slots (MQ below (va_Qi Q (Po D cy A) A) args s mc ms A) (F0 m 83 ls []) := by
  obtain ⟨hx, hb, hml, hown, hts⟩ := E.1
  intro n
  induction n with
  | zero => intro h0 x1 x2 x3 x4 x5 x6 x7 gc gs M H locs ls cells slots h; exact False.elim h
  | succ n ih =>
    intro h0 x1 x2 x3 x4 x5 x6 x7 gc gs M H locs ls cells slots h w hl hg
    unfold B_X5_cry_83 at h
    refine lv_iload (x := x7) hx hb dX5_cry_83 (lh_at hl 7 rfl) ?_
    refine lv_iconst (v := (4 : Int32)) hx hb dX5_cry_85 (by decide) ?_
    refine lv_icmp_ge (tgt := 122) hx hb dX5_cry_86 (by decide) (fun c1 => ?_) (fun c1 => ?_)
    · have h := h.1 c1
      refine r_iinc (k := 6) (x := x6) (v := (x6 + 1)) (lv' := [(6, iv (x6 + 1)), (0, rv (some h0)), (1, iv x1), (2, iv x2), (3, iv x3), (4, iv x4), (5, iv x5), (7, iv x7)]) hx hb dX5_cry_122 hl rfl rfl (by decide) rfl (fun ls hl => ?_)
      refine lv_goto (tgt := 43) hx hb dX5_cry_125 (by decide) ?_
      exact hK43 _ _ _ _ _ _ _ _ _ _ _ _ _ _ _ h w (lh_sub hl [1, 2, 3, 4, 5, 6, 0] rfl) hg
    · have h := h.2 c1
      refine r_aload_n (x := (some h0)) hx hb dX5_cry_89 rfl (lh_at hl 0 rfl) ?_
      refine lv_iload (x := x6) hx hb dX5_cry_90 (lh_at hl 6 rfl) ?_
      refine lv_iload (x := x7) hx hb dX5_cry_92 (lh_at hl 7 rfl) ?_
      refine lv_iload_n (x := x1) hx hb dX5_cry_94 rfl (lh_at hl 1 rfl) ?_
      refine lv_iload_n (x := x2) hx hb dX5_cry_95 rfl (lh_at hl 2 rfl) ?_
      refine lv_iload_n (x := x3) hx hb dX5_cry_96 rfl (lh_at hl 3 rfl) ?_
      obtain ⟨ho2, h⟩ := h
      obtain ⟨b5, b5s, b5c, b5d, h⟩ := h
      refine r_callVi (rm := rmm 4 b5 b5s) E w rfl ho2 cl_X5 yk_X5_cryRow ⟨Nat.le_of_ble_eq_true rfl, Nat.le_of_ble_eq_true rfl⟩ ⟨show cells + b5 ≤ mc by omega, show slots + b5s ≤ ms by omega⟩ rfl ml_X5_177 im_X5_cryRow sl_X5_cryRow [iv x6, iv x7, iv x1, iv x2, iv x3] rfl rfl hl [] rfl (Nat.le_of_ble_eq_true rfl) (K_X5_cryRow h) dX5_cry_97 (fun r4 M3 H locs h w => ?_)
      have hg : (cells + b5) + (gc - b5) ≤ mc ∧ (slots + b5s) + (gs - b5s) ≤ ms := ⟨by omega, by omega⟩
      refine r_istore (lv' := [(8, iv r4), (0, rv (some h0)), (1, iv x1), (2, iv x2), (3, iv x3), (4, iv x4), (5, iv x5), (6, iv x6), (7, iv x7)]) hx hb dX5_cry_100 hl (by decide) rfl (fun ls hl => ?_)
      refine lv_iload (x := x5) hx hb dX5_cry_102 (lh_at hl 6 rfl) ?_
      refine lv_if_ne (tgt := 112) hx hb dX5_cry_104 (by decide) (fun c6 => ?_) (fun c6 => ?_)
      · have h := h.1 c6
        refine lv_iload (x := x5) hx hb dX5_cry_112 (lh_at hl 6 rfl) ?_
        refine r_istore (lv' := [(5, iv x5), (8, iv r4), (0, rv (some h0)), (1, iv x1), (2, iv x2), (3, iv x3), (4, iv x4), (6, iv x6), (7, iv x7)]) hx hb dX5_cry_114 hl (by decide) rfl (fun ls hl => ?_)
        refine r_iinc (k := 8) (x := x7) (v := (x7 + 1)) (lv' := [(7, iv (x7 + 1)), (5, iv x5), (8, iv r4), (0, rv (some h0)), (1, iv x1), (2, iv x2), (3, iv x3), (4, iv x4), (6, iv x6)]) hx hb dX5_cry_116 hl rfl rfl (by decide) rfl (fun ls hl => ?_)
        refine lv_goto (tgt := 83) hx hb dX5_cry_119 (by decide) ?_
        exact ih _ _ _ _ _ _ _ _ _ _ _ _ _ _ _ _ h w (lh_sub hl [3, 4, 5, 6, 7, 1, 8, 0] rfl) hg
      · have h := h.2 c6
        refine lv_iload (x := r4) hx hb dX5_cry_107 (lh_at hl 0 rfl) ?_
        refine lv_goto (tgt := 114) hx hb dX5_cry_109 (by decide) ?_
        refine r_istore (lv' := [(5, iv r4), (8, iv r4), (0, rv (some h0)), (1, iv x1), (2, iv x2), (3, iv x3), (4, iv x4), (6, iv x6), (7, iv x7)]) hx hb dX5_cry_114 hl (by decide) rfl (fun ls hl => ?_)
        refine r_iinc (k := 8) (x := x7) (v := (x7 + 1)) (lv' := [(7, iv (x7 + 1)), (5, iv r4), (8, iv r4), (0, rv (some h0)), (1, iv x1), (2, iv x2), (3, iv x3), (4, iv x4), (6, iv x6)]) hx hb dX5_cry_116 hl rfl rfl (by decide) rfl (fun ls hl => ?_)
        refine lv_goto (tgt := 83) hx hb dX5_cry_119 (by decide) ?_
        exact ih _ _ _ _ _ _ _ _ _ _ _ _ _ _ _ _ h w (lh_sub hl [3, 4, 5, 6, 7, 1, 8, 0] rfl) hg
def B_X5_cry_43 (Q : Int32 → Mm → Prop)  : Nat → Nat → Int32 → Int32 → Int32 → Int32 → Int32 → Int32 → Nat → Nat → Mm → Prop
  | 0, _, _, _, _, _, _, _, _, _, _ => False
  | n + 1, h0, x1, x2, x3, x4, x5, x6, gc, gs, M => (ok M h0 5 ∧ (((gI M h0 7) ≤ x6 → ((x5 = 0 → Q ((gI M h0 10) - x4) M) ∧ (¬ x5 = 0 → (∀ M4, M4 = pJ M h0 14 (Int32.toInt64 x5) → Q ((gI M4 h0 10) - x4) M4)))) ∧ (¬ (gI M h0 7) ≤ x6 → (∃ a5, (gR M h0 0) = some a5 ∧ (ar M a5 11 x6 ∧ (∃ a7, (gR M a5 (Int32.toNatClampNeg x6)) = some a7 ∧ (ok M a7 4 ∧ ((¬ (gI M a7 0) = (2 : Int32) → (ar M a5 11 x6 ∧ (B_X5_bringRowsUpToDate_0 (fun  M11 => (∃ n12, B_X5_cry_83 Q (fun y0 y1 y2 y3 y4 y5 y6 y7 y8 My => B_X5_cry_43 Q n y0 y1 y2 y3 y4 y5 y6 y7 y8 My) n12 h0 x1 x2 x3 x4 x5 x6 (0 : Int32) gc gs M11)) h0 (gR M a5 (Int32.toNatClampNeg x6)) M))) ∧ ((gI M a7 0) = (2 : Int32) → B_X5_cry_43 Q  n h0 x1 x2 x3 x4 x5 (x6 + 1) gc gs M)))))))))
set_option maxHeartbeats 4000000 in
set_option maxRecDepth 100000 in
theorem k_X5_cry_43 {p : Program} {l : Launch} {e : Env} {s : State} {m : MethodId} {args : Array Value} {below : List Frame} {meth : Method} {c : Code} {D : va_G} {cy : Nat → ClassId} {A : Nat → Prop} {mc ms : Nat} {Q : Int32 → Mm → Prop} (E : Ex p m c cX5_cry 9 s args RX5 D cy A) (hr : meth.sig.returnType = (some .int)) (hlk : meth.locks = false) : ∀ (n : Nat), ∀ (h0 : Nat) (x1 : Int32) (x2 : Int32) (x3 : Int32) (x4 : Int32) (x5 : Int32) (x6 : Int32) (gc : Nat) (gs : Nat) (M : Mm) (H : Heap) (locs : List Loc) (ls : Array Slot) (cells slots : Nat), B_X5_cry_43 Q  n h0 x1 x2 x3 x4 x5 x6 gc gs M → Wd D cy A s M H locs → lh ls 9 [(0, rv (some h0)), (1, iv x1), (2, iv x2), (3, iv x3), (4, iv x4), (5, iv x5), (6, iv x6)] → cells + gc ≤ mc ∧ slots + gs ≤ ms → W p l e (rmm 6 mc ms) s m args below meth c H locs cells slots (MQ below (va_Qi Q (Po D cy A) A) args s mc ms A) (F0 m 43 ls []) := by
  obtain ⟨hx, hb, hml, hown, hts⟩ := E.1
  intro n
  induction n with
  | zero => intro h0 x1 x2 x3 x4 x5 x6 gc gs M H locs ls cells slots h; exact False.elim h
  | succ n ih =>
    intro h0 x1 x2 x3 x4 x5 x6 gc gs M H locs ls cells slots h w hl hg
    unfold B_X5_cry_43 at h
    refine lv_iload (x := x6) hx hb dX5_cry_43 (lh_at hl 6 rfl) ?_
    refine r_aload_n (x := (some h0)) hx hb dX5_cry_45 rfl (lh_at hl 0 rfl) ?_
    obtain ⟨ho1, h⟩ := h
    refine r_getI E w rfl ho1 cl_X5 7 rfl fl_X5_54 dX5_cry_46 ?_
    refine lv_icmp_ge (tgt := 128) hx hb dX5_cry_49 (by decide) (fun c2 => ?_) (fun c2 => ?_)
    · have h := h.1 c2
      refine lv_iload (x := x5) hx hb dX5_cry_128 (lh_at hl 5 rfl) ?_
      refine lv_if_eq (tgt := 140) hx hb dX5_cry_130 (by decide) (fun c3 => ?_) (fun c3 => ?_)
      · have h := h.1 c3
        refine r_aload_n (x := (some h0)) hx hb dX5_cry_140 rfl (lh_at hl 0 rfl) ?_
        refine r_getI E w rfl ho1 cl_X5 10 rfl fl_X5_174 dX5_cry_141 ?_
        refine lv_iload (x := x4) hx hb dX5_cry_144 (lh_at hl 4 rfl) ?_
        refine lv_isub hx hb dX5_cry_146 ?_
        exact r_iret E w hr hlk h (show cells ≤ mc by omega) (show slots ≤ ms by omega) dX5_cry_147
      · have h := h.2 c3
        refine r_aload_n (x := (some h0)) hx hb dX5_cry_133 rfl (lh_at hl 0 rfl) ?_
        refine lv_iload (x := x5) hx hb dX5_cry_134 (lh_at hl 5 rfl) ?_
        refine lv_i2l hx hb dX5_cry_136 rfl ?_
        refine r_putJ (v := (Int32.toInt64 x5)) E w rfl ho1 cl_X5 14 rfl fl_X5_122 (Or.inl rfl) rfl dX5_cry_137 (fun H locs w => ?_)
        obtain ⟨M4, eM4⟩ : ∃ z, z = pJ M h0 14 (Int32.toInt64 x5) := ⟨_, rfl⟩
        rw [← eM4] at w
        have h := h M4 eM4
        refine r_aload_n (x := (some h0)) hx hb dX5_cry_140 rfl (lh_at hl 0 rfl) ?_
        have ho1 : ok M4 h0 5 := by rw [eM4]; exact ho1
        refine r_getI E w rfl ho1 cl_X5 10 rfl fl_X5_174 dX5_cry_141 ?_
        refine lv_iload (x := x4) hx hb dX5_cry_144 (lh_at hl 4 rfl) ?_
        refine lv_isub hx hb dX5_cry_146 ?_
        exact r_iret E w hr hlk h (show cells ≤ mc by omega) (show slots ≤ ms by omega) dX5_cry_147
    · have h := h.2 c2
      refine r_aload_n (x := (some h0)) hx hb dX5_cry_52 rfl (lh_at hl 0 rfl) ?_
      refine r_getR E w rfl ho1 cl_X5 0 rfl fl_X5_11 dX5_cry_53 ?_
      refine lv_iload (x := x6) hx hb dX5_cry_56 (lh_at hl 6 rfl) ?_
      obtain ⟨a5, ea5, h⟩ := h
      obtain ⟨ha6, h⟩ := h
      refine r_aald11 E w ea5 ha6 dX5_cry_58 ?_
      obtain ⟨a7, ea7, h⟩ := h
      obtain ⟨ho8, h⟩ := h
      refine r_getI E w ea7 ho8 cl_X4 0 rfl fl_X5_64 dX5_cry_59 ?_
      refine lv_iconst (v := (2 : Int32)) hx hb dX5_cry_62 (by decide) ?_
      refine lv_icmp_ne (tgt := 69) hx hb dX5_cry_63 (by decide) (fun c9 => ?_) (fun c9 => ?_)
      · have h := h.1 c9
        refine r_aload_n (x := (some h0)) hx hb dX5_cry_69 rfl (lh_at hl 0 rfl) ?_
        refine r_aload_n (x := (some h0)) hx hb dX5_cry_70 rfl (lh_at hl 0 rfl) ?_
        refine r_getR E w rfl ho1 cl_X5 0 rfl fl_X5_11 dX5_cry_71 ?_
        refine lv_iload (x := x6) hx hb dX5_cry_74 (lh_at hl 6 rfl) ?_
        obtain ⟨ha10, h⟩ := h
        refine r_aald11 E w ea5 ha10 dX5_cry_76 ?_
        refine z_callVv E w rfl ho1 cl_X5 yk_X5_bringRowsUpToDate ⟨Nat.le_of_ble_eq_true rfl, Nat.le_of_ble_eq_true rfl⟩ ⟨(show cells ≤ mc by omega), (show slots ≤ ms by omega)⟩ rfl ml_X5_144 im_X5_bringRowsUpToDate sl_X5_bringRowsUpToDate [rv (gR M a5 (Int32.toNatClampNeg x6))] rfl rfl hl [] rfl (Nat.le_of_ble_eq_true rfl) (K_X5_bringRowsUpToDate h) dX5_cry_77 (fun  M11 H locs h w => ?_)
        refine lv_iconst (v := (0 : Int32)) hx hb dX5_cry_80 (by decide) ?_
        refine r_istore (lv' := [(7, iv (0 : Int32)), (0, rv (some h0)), (1, iv x1), (2, iv x2), (3, iv x3), (4, iv x4), (5, iv x5), (6, iv x6)]) hx hb dX5_cry_81 hl (by decide) rfl (fun ls hl => ?_)
        obtain ⟨n12, h⟩ := h
        exact k_X5_cry_83 E hr hlk ih n12 _ _ _ _ _ _ _ _ _ _ _ _ _ _ _ _ h w (lh_sub hl [1, 2, 3, 4, 5, 6, 7, 0] rfl) hg
      · have h := h.2 c9
        refine lv_goto (tgt := 122) hx hb dX5_cry_66 (by decide) ?_
        refine r_iinc (k := 6) (x := x6) (v := (x6 + 1)) (lv' := [(6, iv (x6 + 1)), (0, rv (some h0)), (1, iv x1), (2, iv x2), (3, iv x3), (4, iv x4), (5, iv x5)]) hx hb dX5_cry_122 hl rfl rfl (by decide) rfl (fun ls hl => ?_)
        refine lv_goto (tgt := 43) hx hb dX5_cry_125 (by decide) ?_
        exact ih _ _ _ _ _ _ _ _ _ _ _ _ _ _ _ h w (lh_sub hl [1, 2, 3, 4, 5, 6, 0] rfl) hg
def B_X5_cry_0 (Q : Int32 → Mm → Prop)  (h0 : Nat) (x1 : Int32) (x2 : Int32) (x3 : Int32) (gc : Nat) (gs : Nat) (M : Mm) : Prop := (B_X5_isWithin_0 (fun r2 M1 => ((r2 = 0 → Q (-1 : Int32) M1) ∧ (¬ r2 = 0 → (B_X5_isWithin_0 (fun r5 M4 => ((r5 = 0 → Q (-1 : Int32) M4) ∧ (¬ r5 = 0 → ((x3 < (1 : Int32) → Q (-1 : Int32) M4) ∧ (¬ x3 < (1 : Int32) → ((x3 ≤ (1000000 : Int32) → (ok M4 h0 5 ∧ (∃ n10, B_X5_cry_43 Q  n10 h0 x1 x2 x3 (gI M4 h0 10) (0 : Int32) (0 : Int32) gc gs M4))) ∧ (¬ x3 ≤ (1000000 : Int32) → Q (-1 : Int32) M4))))))) x2 (1000000 : Int32) M1)))) x1 (1000000 : Int32) M)
set_option maxHeartbeats 4000000 in
set_option maxRecDepth 100000 in
theorem k_X5_cry_0 {p : Program} {l : Launch} {e : Env} {s : State} {m : MethodId} {args : Array Value} {below : List Frame} {meth : Method} {c : Code} {D : va_G} {cy : Nat → ClassId} {A : Nat → Prop} {mc ms : Nat} {Q : Int32 → Mm → Prop} (E : Ex p m c cX5_cry 9 s args RX5 D cy A) (hr : meth.sig.returnType = (some .int)) (hlk : meth.locks = false) : ∀ (h0 : Nat) (x1 : Int32) (x2 : Int32) (x3 : Int32) (gc : Nat) (gs : Nat) (M : Mm) (H : Heap) (locs : List Loc) (ls : Array Slot) (cells slots : Nat), B_X5_cry_0 Q  h0 x1 x2 x3 gc gs M → Wd D cy A s M H locs → lh ls 9 [(0, rv (some h0)), (1, iv x1), (2, iv x2), (3, iv x3)] → cells + gc ≤ mc ∧ slots + gs ≤ ms → W p l e (rmm 6 mc ms) s m args below meth c H locs cells slots (MQ below (va_Qi Q (Po D cy A) A) args s mc ms A) (F0 m 0 ls []) := by
  obtain ⟨hx, hb, hml, hown, hts⟩ := E.1
  intro h0 x1 x2 x3 gc gs M H locs ls cells slots h w hl hg
  unfold B_X5_cry_0 at h
  refine lv_iload_n (x := x1) hx hb dX5_cry_0 rfl (lh_at hl 1 rfl) ?_
  refine lv_ldc (v := (1000000 : Int32)) hx hb hown (hts _ kc_X5_80) dX5_cry_1 ?_
  refine z_callSi E w yk_X5_isWithin ⟨Nat.le_of_ble_eq_true rfl, Nat.le_of_ble_eq_true rfl⟩ ⟨(show cells ≤ mc by omega), (show slots ≤ ms by omega)⟩ rfl ml_X5_81 st_X5_isWithin [iv x1, iv (1000000 : Int32)] rfl rfl hl [] rfl (Nat.le_of_ble_eq_true rfl) (K_X5_isWithin h) dX5_cry_3 (fun r2 M1 H locs h w => ?_)
  refine lv_if_eq (tgt := 29) hx hb dX5_cry_6 (by decide) (fun c3 => ?_) (fun c3 => ?_)
  · have h := h.1 c3
    refine lv_iconst (v := (-1 : Int32)) hx hb dX5_cry_29 (by decide) ?_
    exact r_iret E w hr hlk h (show cells ≤ mc by omega) (show slots ≤ ms by omega) dX5_cry_30
  · have h := h.2 c3
    refine lv_iload_n (x := x2) hx hb dX5_cry_9 rfl (lh_at hl 2 rfl) ?_
    refine lv_ldc (v := (1000000 : Int32)) hx hb hown (hts _ kc_X5_80) dX5_cry_10 ?_
    refine z_callSi E w yk_X5_isWithin ⟨Nat.le_of_ble_eq_true rfl, Nat.le_of_ble_eq_true rfl⟩ ⟨(show cells ≤ mc by omega), (show slots ≤ ms by omega)⟩ rfl ml_X5_81 st_X5_isWithin [iv x2, iv (1000000 : Int32)] rfl rfl hl [] rfl (Nat.le_of_ble_eq_true rfl) (K_X5_isWithin h) dX5_cry_12 (fun r5 M4 H locs h w => ?_)
    refine lv_if_eq (tgt := 29) hx hb dX5_cry_15 (by decide) (fun c6 => ?_) (fun c6 => ?_)
    · have h := h.1 c6
      refine lv_iconst (v := (-1 : Int32)) hx hb dX5_cry_29 (by decide) ?_
      exact r_iret E w hr hlk h (show cells ≤ mc by omega) (show slots ≤ ms by omega) dX5_cry_30
    · have h := h.2 c6
      refine lv_iload_n (x := x3) hx hb dX5_cry_18 rfl (lh_at hl 3 rfl) ?_
      refine lv_iconst (v := (1 : Int32)) hx hb dX5_cry_19 (by decide) ?_
      refine lv_icmp_lt (tgt := 29) hx hb dX5_cry_20 (by decide) (fun c7 => ?_) (fun c7 => ?_)
      · have h := h.1 c7
        refine lv_iconst (v := (-1 : Int32)) hx hb dX5_cry_29 (by decide) ?_
        exact r_iret E w hr hlk h (show cells ≤ mc by omega) (show slots ≤ ms by omega) dX5_cry_30
      · have h := h.2 c7
        refine lv_iload_n (x := x3) hx hb dX5_cry_23 rfl (lh_at hl 3 rfl) ?_
        refine lv_ldc (v := (1000000 : Int32)) hx hb hown (hts _ kc_X5_80) dX5_cry_24 ?_
        refine lv_icmp_le (tgt := 31) hx hb dX5_cry_26 (by decide) (fun c8 => ?_) (fun c8 => ?_)
        · have h := h.1 c8
          refine r_aload_n (x := (some h0)) hx hb dX5_cry_31 rfl (lh_at hl 0 rfl) ?_
          obtain ⟨ho9, h⟩ := h
          refine r_getI E w rfl ho9 cl_X5 10 rfl fl_X5_174 dX5_cry_32 ?_
          refine r_istore (lv' := [(4, iv (gI M4 h0 10)), (0, rv (some h0)), (1, iv x1), (2, iv x2), (3, iv x3)]) hx hb dX5_cry_35 hl (by decide) rfl (fun ls hl => ?_)
          refine lv_iconst (v := (0 : Int32)) hx hb dX5_cry_37 (by decide) ?_
          refine r_istore (lv' := [(5, iv (0 : Int32)), (4, iv (gI M4 h0 10)), (0, rv (some h0)), (1, iv x1), (2, iv x2), (3, iv x3)]) hx hb dX5_cry_38 hl (by decide) rfl (fun ls hl => ?_)
          refine lv_iconst (v := (0 : Int32)) hx hb dX5_cry_40 (by decide) ?_
          refine r_istore (lv' := [(6, iv (0 : Int32)), (5, iv (0 : Int32)), (4, iv (gI M4 h0 10)), (0, rv (some h0)), (1, iv x1), (2, iv x2), (3, iv x3)]) hx hb dX5_cry_41 hl (by decide) rfl (fun ls hl => ?_)
          obtain ⟨n10, h⟩ := h
          exact k_X5_cry_43 E hr hlk  n10 _ _ _ _ _ _ _ _ _ _ _ _ _ _ _ h w (lh_sub hl [3, 4, 5, 6, 2, 1, 0] rfl) hg
        · have h := h.2 c8
          refine lv_iconst (v := (-1 : Int32)) hx hb dX5_cry_29 (by decide) ?_
          exact r_iret E w hr hlk h (show cells ≤ mc by omega) (show slots ≤ ms by omega) dX5_cry_30
theorem K_X5_cry {l : Launch} {Q : Int32 → Mm → Prop} {h0 : Nat} {x1 : Int32} {x2 : Int32} {x3 : Int32} {gc gs : Nat} {M : Mm} (h : B_X5_cry_0 Q h0 x1 x2 x3 gc gs M) : KI l yX5_cry cdX5_cry (rmm 6 gc gs) [rv (some h0), iv x1, iv x2, iv x3] M Q :=
  KI_of (by decide) rfl (Nat.le_of_ble_eq_true rfl) (fun p e s m args below meth c D cy A ls E hr hlk hn w hl => k_X5_cry_0 E hr hlk _ _ _ _ _ _ _ _ _ _ _ _ h w hl ⟨Nat.le_of_eq (Nat.zero_add _), Nat.le_of_eq (Nat.zero_add _)⟩)
def B_X5_cried_0 (Q : Int32 → Mm → Prop)  (h0 : Nat) (x1 : Int32) (M : Mm) : Prop := ((x1 < 0 → Q (-9 : Int32) M) ∧ (¬ x1 < 0 → (ok M h0 5 ∧ (((gI M h0 10) ≤ x1 → Q (-9 : Int32) M) ∧ (¬ (gI M h0 10) ≤ x1 → (((300 : Int32) ≤ x1 → Q (-9 : Int32) M) ∧ (¬ (300 : Int32) ≤ x1 → (∃ a5, (gR M h0 2) = some a5 ∧ (ar M a5 7 x1 ∧ Q (gI M a5 (Int32.toNatClampNeg x1)) M)))))))))
set_option maxHeartbeats 4000000 in
set_option maxRecDepth 100000 in
theorem k_X5_cried_0 {p : Program} {l : Launch} {e : Env} {s : State} {m : MethodId} {args : Array Value} {below : List Frame} {meth : Method} {c : Code} {D : va_G} {cy : Nat → ClassId} {A : Nat → Prop} {Q : Int32 → Mm → Prop} (E : Ex p m c cX5_cried 2 s args RX5 D cy A) (hr : meth.sig.returnType = (some .int)) (hlk : meth.locks = false) : ∀ (h0 : Nat) (x1 : Int32) (M : Mm) (H : Heap) (locs : List Loc) (ls : Array Slot), B_X5_cried_0 Q  h0 x1 M → Wd D cy A s M H locs → lh ls 2 [(0, rv (some h0)), (1, iv x1)] → W p l e (rmm 0 0 0) s m args below meth c H locs 0 0 (MQ below (va_Qi Q (Po D cy A) A) args s 0 0 A) (F0 m 0 ls []) := by
  obtain ⟨hx, hb, hml, hown, hts⟩ := E.1
  intro h0 x1 M H locs ls h w hl
  unfold B_X5_cried_0 at h
  refine lv_iload_n (x := x1) hx hb dX5_cried_0 rfl (lh_at hl 1 rfl) ?_
  refine lv_if_lt (tgt := 28) hx hb dX5_cried_1 (by decide) (fun c1 => ?_) (fun c1 => ?_)
  · have h := h.1 c1
    refine lv_bipush (v := (-9 : Int32)) hx hb dX5_cried_28 (by decide) ?_
    exact r_iret E w hr hlk h (Nat.le_refl 0) (Nat.le_refl 0) dX5_cried_30
  · have h := h.2 c1
    refine lv_iload_n (x := x1) hx hb dX5_cried_4 rfl (lh_at hl 1 rfl) ?_
    refine r_aload_n (x := (some h0)) hx hb dX5_cried_5 rfl (lh_at hl 0 rfl) ?_
    obtain ⟨ho2, h⟩ := h
    refine r_getI E w rfl ho2 cl_X5 10 rfl fl_X5_174 dX5_cried_6 ?_
    refine lv_icmp_ge (tgt := 28) hx hb dX5_cried_9 (by decide) (fun c3 => ?_) (fun c3 => ?_)
    · have h := h.1 c3
      refine lv_bipush (v := (-9 : Int32)) hx hb dX5_cried_28 (by decide) ?_
      exact r_iret E w hr hlk h (Nat.le_refl 0) (Nat.le_refl 0) dX5_cried_30
    · have h := h.2 c3
      refine lv_iload_n (x := x1) hx hb dX5_cried_12 rfl (lh_at hl 1 rfl) ?_
      refine lv_sipush (v := (300 : Int32)) hx hb dX5_cried_13 (by decide) ?_
      refine lv_icmp_ge (tgt := 28) hx hb dX5_cried_16 (by decide) (fun c4 => ?_) (fun c4 => ?_)
      · have h := h.1 c4
        refine lv_bipush (v := (-9 : Int32)) hx hb dX5_cried_28 (by decide) ?_
        exact r_iret E w hr hlk h (Nat.le_refl 0) (Nat.le_refl 0) dX5_cried_30
      · have h := h.2 c4
        refine r_aload_n (x := (some h0)) hx hb dX5_cried_19 rfl (lh_at hl 0 rfl) ?_
        refine r_getR E w rfl ho2 cl_X5 2 rfl fl_X5_19 dX5_cried_20 ?_
        refine lv_iload_n (x := x1) hx hb dX5_cried_23 rfl (lh_at hl 1 rfl) ?_
        obtain ⟨a5, ea5, h⟩ := h
        obtain ⟨ha6, h⟩ := h
        refine r_iald E w ea5 ha6 dX5_cried_24 ?_
        refine lv_goto (tgt := 30) hx hb dX5_cried_25 (by decide) ?_
        exact r_iret E w hr hlk h (Nat.le_refl 0) (Nat.le_refl 0) dX5_cried_30
theorem K_X5_cried {l : Launch} {Q : Int32 → Mm → Prop} {h0 : Nat} {x1 : Int32} {M : Mm} (h : B_X5_cried_0 Q h0 x1 M) : KI l yX5_cried cdX5_cried (rmm 0 0 0) [rv (some h0), iv x1] M Q :=
  KI_of (by decide) rfl (Nat.le_of_ble_eq_true rfl) (fun p e s m args below meth c D cy A ls E hr hlk hn w hl => k_X5_cried_0 E hr hlk _ _ _ _ _ _ h w hl)
def B_X5_halve_36 (Q : Int32 → Mm → Prop)  (h0 : Nat) (x1 : Int32) (x2 : Int32) (x3 : Int32) (M : Mm) : Prop := (ok M h0 5 ∧ (∃ a2, (gR M h0 4) = some a2 ∧ (ok M a2 2 ∧ (B_X2_begin_0 (fun  M4 => (ok M4 h0 5 ∧ (∃ a6, (gR M4 h0 4) = some a6 ∧ (ok M4 a6 2 ∧ (B_X2_mostReruns_0 (fun r9 M8 => Q r9 M8) a6  M4))))) a2 x1 x2 x3 M))))
set_option maxHeartbeats 4000000 in
set_option maxRecDepth 100000 in
theorem k_X5_halve_36 {p : Program} {l : Launch} {e : Env} {s : State} {m : MethodId} {args : Array Value} {below : List Frame} {meth : Method} {c : Code} {D : va_G} {cy : Nat → ClassId} {A : Nat → Prop} {Q : Int32 → Mm → Prop} (E : Ex p m c cX5_halve 4 s args RX5 D cy A) (hr : meth.sig.returnType = (some .int)) (hlk : meth.locks = false) : ∀ (h0 : Nat) (x1 : Int32) (x2 : Int32) (x3 : Int32) (M : Mm) (H : Heap) (locs : List Loc) (ls : Array Slot), B_X5_halve_36 Q  h0 x1 x2 x3 M → Wd D cy A s M H locs → lh ls 4 [(0, rv (some h0)), (1, iv x1), (2, iv x2), (3, iv x3)] → W p l e (rmm 1 0 0) s m args below meth c H locs 0 0 (MQ below (va_Qi Q (Po D cy A) A) args s 0 0 A) (F0 m 36 ls []) := by
  obtain ⟨hx, hb, hml, hown, hts⟩ := E.1
  intro h0 x1 x2 x3 M H locs ls h w hl
  unfold B_X5_halve_36 at h
  refine r_aload_n (x := (some h0)) hx hb dX5_halve_36 rfl (lh_at hl 0 rfl) ?_
  obtain ⟨ho1, h⟩ := h
  refine r_getR E w rfl ho1 cl_X5 4 rfl fl_X5_32 dX5_halve_37 ?_
  refine lv_iload_n (x := x1) hx hb dX5_halve_40 rfl (lh_at hl 1 rfl) ?_
  refine lv_iload_n (x := x2) hx hb dX5_halve_41 rfl (lh_at hl 2 rfl) ?_
  refine lv_iload_n (x := x3) hx hb dX5_halve_42 rfl (lh_at hl 3 rfl) ?_
  obtain ⟨a2, ea2, h⟩ := h
  obtain ⟨ho3, h⟩ := h
  refine z_callVv E w ea2 ho3 cl_X2 yk_X2_begin ⟨Nat.le_of_ble_eq_true rfl, Nat.le_of_ble_eq_true rfl⟩ ⟨(Nat.zero_le _), (Nat.zero_le _)⟩ rfl ml_X5_181 im_X2_begin sl_X2_begin [iv x1, iv x2, iv x3] rfl rfl hl [] rfl (Nat.le_of_ble_eq_true rfl) (K_X2_begin h) dX5_halve_43 (fun  M4 H locs h w => ?_)
  refine r_aload_n (x := (some h0)) hx hb dX5_halve_46 rfl (lh_at hl 0 rfl) ?_
  obtain ⟨ho5, h⟩ := h
  refine r_getR E w rfl ho5 cl_X5 4 rfl fl_X5_32 dX5_halve_47 ?_
  obtain ⟨a6, ea6, h⟩ := h
  obtain ⟨ho7, h⟩ := h
  refine z_callVi E w ea6 ho7 cl_X2 yk_X2_mostReruns ⟨Nat.le_of_ble_eq_true rfl, Nat.le_of_ble_eq_true rfl⟩ ⟨(Nat.zero_le _), (Nat.zero_le _)⟩ rfl ml_X5_185 im_X2_mostReruns sl_X2_mostReruns [] rfl rfl hl [] rfl (Nat.le_of_ble_eq_true rfl) (K_X2_mostReruns h) dX5_halve_50 (fun r9 M8 H locs h w => ?_)
  exact r_iret E w hr hlk h (Nat.le_refl 0) (Nat.le_refl 0) dX5_halve_53
def B_X5_halve_0 (Q : Int32 → Mm → Prop)  (h0 : Nat) (x1 : Int32) (x2 : Int32) (x3 : Int32) (M : Mm) : Prop := ((x1 < 0 → Q (-1 : Int32) M) ∧ (¬ x1 < 0 → ((x2 ≤ x1 → Q (-1 : Int32) M) ∧ (¬ x2 ≤ x1 → (ok M h0 5 ∧ ((x2 < (gI M h0 6) → ((x3 = (1 : Int32) → B_X5_halve_36 Q  h0 x1 x2 x3 M) ∧ (¬ x3 = (1 : Int32) → ((x3 = (3 : Int32) → B_X5_halve_36 Q  h0 x1 x2 x3 M) ∧ (¬ x3 = (3 : Int32) → ((x3 = (5 : Int32) → B_X5_halve_36 Q  h0 x1 x2 x3 M) ∧ (¬ x3 = (5 : Int32) → Q (-1 : Int32) M))))))) ∧ (¬ x2 < (gI M h0 6) → Q (-1 : Int32) M)))))))
set_option maxHeartbeats 4000000 in
set_option maxRecDepth 100000 in
theorem k_X5_halve_0 {p : Program} {l : Launch} {e : Env} {s : State} {m : MethodId} {args : Array Value} {below : List Frame} {meth : Method} {c : Code} {D : va_G} {cy : Nat → ClassId} {A : Nat → Prop} {Q : Int32 → Mm → Prop} (E : Ex p m c cX5_halve 4 s args RX5 D cy A) (hr : meth.sig.returnType = (some .int)) (hlk : meth.locks = false) : ∀ (h0 : Nat) (x1 : Int32) (x2 : Int32) (x3 : Int32) (M : Mm) (H : Heap) (locs : List Loc) (ls : Array Slot), B_X5_halve_0 Q  h0 x1 x2 x3 M → Wd D cy A s M H locs → lh ls 4 [(0, rv (some h0)), (1, iv x1), (2, iv x2), (3, iv x3)] → W p l e (rmm 1 0 0) s m args below meth c H locs 0 0 (MQ below (va_Qi Q (Po D cy A) A) args s 0 0 A) (F0 m 0 ls []) := by
  obtain ⟨hx, hb, hml, hown, hts⟩ := E.1
  intro h0 x1 x2 x3 M H locs ls h w hl
  unfold B_X5_halve_0 at h
  refine lv_iload_n (x := x1) hx hb dX5_halve_0 rfl (lh_at hl 1 rfl) ?_
  refine lv_if_lt (tgt := 17) hx hb dX5_halve_1 (by decide) (fun c1 => ?_) (fun c1 => ?_)
  · have h := h.1 c1
    refine lv_iconst (v := (-1 : Int32)) hx hb dX5_halve_17 (by decide) ?_
    exact r_iret E w hr hlk h (Nat.le_refl 0) (Nat.le_refl 0) dX5_halve_18
  · have h := h.2 c1
    refine lv_iload_n (x := x1) hx hb dX5_halve_4 rfl (lh_at hl 1 rfl) ?_
    refine lv_iload_n (x := x2) hx hb dX5_halve_5 rfl (lh_at hl 2 rfl) ?_
    refine lv_icmp_ge (tgt := 17) hx hb dX5_halve_6 (by decide) (fun c2 => ?_) (fun c2 => ?_)
    · have h := h.1 c2
      refine lv_iconst (v := (-1 : Int32)) hx hb dX5_halve_17 (by decide) ?_
      exact r_iret E w hr hlk h (Nat.le_refl 0) (Nat.le_refl 0) dX5_halve_18
    · have h := h.2 c2
      refine lv_iload_n (x := x2) hx hb dX5_halve_9 rfl (lh_at hl 2 rfl) ?_
      refine r_aload_n (x := (some h0)) hx hb dX5_halve_10 rfl (lh_at hl 0 rfl) ?_
      obtain ⟨ho3, h⟩ := h
      refine r_getI E w rfl ho3 cl_X5 6 rfl fl_X5_47 dX5_halve_11 ?_
      refine lv_icmp_lt (tgt := 19) hx hb dX5_halve_14 (by decide) (fun c4 => ?_) (fun c4 => ?_)
      · have h := h.1 c4
        refine lv_iload_n (x := x3) hx hb dX5_halve_19 rfl (lh_at hl 3 rfl) ?_
        refine lv_iconst (v := (1 : Int32)) hx hb dX5_halve_20 (by decide) ?_
        refine lv_icmp_eq (tgt := 36) hx hb dX5_halve_21 (by decide) (fun c5 => ?_) (fun c5 => ?_)
        · have h := h.1 c5
          exact k_X5_halve_36 E hr hlk  _ _ _ _ _ _ _ _ h w (lh_sub hl [0, 1, 2, 3] rfl)
        · have h := h.2 c5
          refine lv_iload_n (x := x3) hx hb dX5_halve_24 rfl (lh_at hl 3 rfl) ?_
          refine lv_iconst (v := (3 : Int32)) hx hb dX5_halve_25 (by decide) ?_
          refine lv_icmp_eq (tgt := 36) hx hb dX5_halve_26 (by decide) (fun c6 => ?_) (fun c6 => ?_)
          · have h := h.1 c6
            exact k_X5_halve_36 E hr hlk  _ _ _ _ _ _ _ _ h w (lh_sub hl [0, 1, 2, 3] rfl)
          · have h := h.2 c6
            refine lv_iload_n (x := x3) hx hb dX5_halve_29 rfl (lh_at hl 3 rfl) ?_
            refine lv_iconst (v := (5 : Int32)) hx hb dX5_halve_30 (by decide) ?_
            refine lv_icmp_eq (tgt := 36) hx hb dX5_halve_31 (by decide) (fun c7 => ?_) (fun c7 => ?_)
            · have h := h.1 c7
              exact k_X5_halve_36 E hr hlk  _ _ _ _ _ _ _ _ h w (lh_sub hl [0, 1, 2, 3] rfl)
            · have h := h.2 c7
              refine lv_iconst (v := (-1 : Int32)) hx hb dX5_halve_34 (by decide) ?_
              exact r_iret E w hr hlk h (Nat.le_refl 0) (Nat.le_refl 0) dX5_halve_35
      · have h := h.2 c4
        refine lv_iconst (v := (-1 : Int32)) hx hb dX5_halve_17 (by decide) ?_
        exact r_iret E w hr hlk h (Nat.le_refl 0) (Nat.le_refl 0) dX5_halve_18
theorem K_X5_halve {l : Launch} {Q : Int32 → Mm → Prop} {h0 : Nat} {x1 : Int32} {x2 : Int32} {x3 : Int32} {M : Mm} (h : B_X5_halve_0 Q h0 x1 x2 x3 M) : KI l yX5_halve cdX5_halve (rmm 1 0 0) [rv (some h0), iv x1, iv x2, iv x3] M Q :=
  KI_of (by decide) rfl (Nat.le_of_ble_eq_true rfl) (fun p e s m args below meth c D cy A ls E hr hlk hn w hl => k_X5_halve_0 E hr hlk _ _ _ _ _ _ _ _ h w hl)
def B_X5_asks_0 (Q : Int32 → Mm → Prop)  (h0 : Nat) (M : Mm) : Prop := (ok M h0 5 ∧ (∃ a2, (gR M h0 4) = some a2 ∧ (ok M a2 2 ∧ ((¬ (gI M a2 0) = 0 → (B_X2_hasEnded_0 (fun r6 M5 => ((r6 = 0 → (ok M5 h0 5 ∧ (∃ a9, (gR M5 h0 4) = some a9 ∧ (ok M5 a9 2 ∧ (B_X2_middleBuild_0 (fun r12 M11 => Q r12 M11) a9  M5))))) ∧ (¬ r6 = 0 → Q (-9 : Int32) M5))) a2  M)) ∧ ((gI M a2 0) = 0 → Q (-4 : Int32) M)))))
set_option maxHeartbeats 4000000 in
set_option maxRecDepth 100000 in
theorem k_X5_asks_0 {p : Program} {l : Launch} {e : Env} {s : State} {m : MethodId} {args : Array Value} {below : List Frame} {meth : Method} {c : Code} {D : va_G} {cy : Nat → ClassId} {A : Nat → Prop} {Q : Int32 → Mm → Prop} (E : Ex p m c cX5_asks 1 s args RX5 D cy A) (hr : meth.sig.returnType = (some .int)) (hlk : meth.locks = false) : ∀ (h0 : Nat) (M : Mm) (H : Heap) (locs : List Loc) (ls : Array Slot), B_X5_asks_0 Q  h0 M → Wd D cy A s M H locs → lh ls 1 [(0, rv (some h0))] → W p l e (rmm 1 0 0) s m args below meth c H locs 0 0 (MQ below (va_Qi Q (Po D cy A) A) args s 0 0 A) (F0 m 0 ls []) := by
  obtain ⟨hx, hb, hml, hown, hts⟩ := E.1
  intro h0 M H locs ls h w hl
  unfold B_X5_asks_0 at h
  refine r_aload_n (x := (some h0)) hx hb dX5_asks_0 rfl (lh_at hl 0 rfl) ?_
  obtain ⟨ho1, h⟩ := h
  refine r_getR E w rfl ho1 cl_X5 4 rfl fl_X5_32 dX5_asks_1 ?_
  obtain ⟨a2, ea2, h⟩ := h
  obtain ⟨ho3, h⟩ := h
  refine r_getI E w ea2 ho3 cl_X2 0 rfl fl_X5_188 dX5_asks_4 ?_
  refine lv_if_ne (tgt := 13) hx hb dX5_asks_7 (by decide) (fun c4 => ?_) (fun c4 => ?_)
  · have h := h.1 c4
    refine r_aload_n (x := (some h0)) hx hb dX5_asks_13 rfl (lh_at hl 0 rfl) ?_
    refine r_getR E w rfl ho1 cl_X5 4 rfl fl_X5_32 dX5_asks_14 ?_
    refine z_callVi E w ea2 ho3 cl_X2 yk_X2_hasEnded ⟨Nat.le_of_ble_eq_true rfl, Nat.le_of_ble_eq_true rfl⟩ ⟨(Nat.zero_le _), (Nat.zero_le _)⟩ rfl ml_X5_191 im_X2_hasEnded sl_X2_hasEnded [] rfl rfl hl [] rfl (Nat.le_of_ble_eq_true rfl) (K_X2_hasEnded h) dX5_asks_17 (fun r6 M5 H locs h w => ?_)
    refine lv_if_eq (tgt := 28) hx hb dX5_asks_20 (by decide) (fun c7 => ?_) (fun c7 => ?_)
    · have h := h.1 c7
      refine r_aload_n (x := (some h0)) hx hb dX5_asks_28 rfl (lh_at hl 0 rfl) ?_
      obtain ⟨ho8, h⟩ := h
      refine r_getR E w rfl ho8 cl_X5 4 rfl fl_X5_32 dX5_asks_29 ?_
      obtain ⟨a9, ea9, h⟩ := h
      obtain ⟨ho10, h⟩ := h
      refine z_callVi E w ea9 ho10 cl_X2 yk_X2_middleBuild ⟨Nat.le_of_ble_eq_true rfl, Nat.le_of_ble_eq_true rfl⟩ ⟨(Nat.zero_le _), (Nat.zero_le _)⟩ rfl ml_X5_195 im_X2_middleBuild sl_X2_middleBuild [] rfl rfl hl [] rfl (Nat.le_of_ble_eq_true rfl) (K_X2_middleBuild h) dX5_asks_32 (fun r12 M11 H locs h w => ?_)
      exact r_iret E w hr hlk h (Nat.le_refl 0) (Nat.le_refl 0) dX5_asks_35
    · have h := h.2 c7
      refine lv_bipush (v := (-9 : Int32)) hx hb dX5_asks_23 (by decide) ?_
      refine lv_goto (tgt := 35) hx hb dX5_asks_25 (by decide) ?_
      exact r_iret E w hr hlk h (Nat.le_refl 0) (Nat.le_refl 0) dX5_asks_35
  · have h := h.2 c4
    refine lv_bipush (v := (-4 : Int32)) hx hb dX5_asks_10 (by decide) ?_
    exact r_iret E w hr hlk h (Nat.le_refl 0) (Nat.le_refl 0) dX5_asks_12
theorem K_X5_asks {l : Launch} {Q : Int32 → Mm → Prop} {h0 : Nat} {M : Mm} (h : B_X5_asks_0 Q h0 M) : KI l yX5_asks cdX5_asks (rmm 1 0 0) [rv (some h0)] M Q :=
  KI_of (by decide) rfl (Nat.le_of_ble_eq_true rfl) (fun p e s m args below meth c D cy A ls E hr hlk hn w hl => k_X5_asks_0 E hr hlk _ _ _ _ _ h w hl)
def B_X5_rerun_0 (Q : Int32 → Mm → Prop)  (h0 : Nat) (x1 : Int32) (M : Mm) : Prop := (ok M h0 5 ∧ (∃ a2, (gR M h0 4) = some a2 ∧ (ok M a2 2 ∧ (((gI M a2 0) = 0 → Q (-4 : Int32) M) ∧ (¬ (gI M a2 0) = 0 → (B_X2_hasEnded_0 (fun r6 M5 => ((r6 = 0 → (ok M5 h0 5 ∧ (∃ a9, (gR M5 h0 4) = some a9 ∧ (ok M5 a9 2 ∧ (B_X2_take_0 (fun r12 M11 => Q r12 M11) a9 x1 M5))))) ∧ (¬ r6 = 0 → Q (-4 : Int32) M5))) a2  M))))))
set_option maxHeartbeats 4000000 in
set_option maxRecDepth 100000 in
theorem k_X5_rerun_0 {p : Program} {l : Launch} {e : Env} {s : State} {m : MethodId} {args : Array Value} {below : List Frame} {meth : Method} {c : Code} {D : va_G} {cy : Nat → ClassId} {A : Nat → Prop} {Q : Int32 → Mm → Prop} (E : Ex p m c cX5_rerun 2 s args RX5 D cy A) (hr : meth.sig.returnType = (some .int)) (hlk : meth.locks = false) : ∀ (h0 : Nat) (x1 : Int32) (M : Mm) (H : Heap) (locs : List Loc) (ls : Array Slot), B_X5_rerun_0 Q  h0 x1 M → Wd D cy A s M H locs → lh ls 2 [(0, rv (some h0)), (1, iv x1)] → W p l e (rmm 3 0 0) s m args below meth c H locs 0 0 (MQ below (va_Qi Q (Po D cy A) A) args s 0 0 A) (F0 m 0 ls []) := by
  obtain ⟨hx, hb, hml, hown, hts⟩ := E.1
  intro h0 x1 M H locs ls h w hl
  unfold B_X5_rerun_0 at h
  refine r_aload_n (x := (some h0)) hx hb dX5_rerun_0 rfl (lh_at hl 0 rfl) ?_
  obtain ⟨ho1, h⟩ := h
  refine r_getR E w rfl ho1 cl_X5 4 rfl fl_X5_32 dX5_rerun_1 ?_
  obtain ⟨a2, ea2, h⟩ := h
  obtain ⟨ho3, h⟩ := h
  refine r_getI E w ea2 ho3 cl_X2 0 rfl fl_X5_188 dX5_rerun_4 ?_
  refine lv_if_eq (tgt := 20) hx hb dX5_rerun_7 (by decide) (fun c4 => ?_) (fun c4 => ?_)
  · have h := h.1 c4
    refine lv_bipush (v := (-4 : Int32)) hx hb dX5_rerun_20 (by decide) ?_
    exact r_iret E w hr hlk h (Nat.le_refl 0) (Nat.le_refl 0) dX5_rerun_22
  · have h := h.2 c4
    refine r_aload_n (x := (some h0)) hx hb dX5_rerun_10 rfl (lh_at hl 0 rfl) ?_
    refine r_getR E w rfl ho1 cl_X5 4 rfl fl_X5_32 dX5_rerun_11 ?_
    refine z_callVi E w ea2 ho3 cl_X2 yk_X2_hasEnded ⟨Nat.le_of_ble_eq_true rfl, Nat.le_of_ble_eq_true rfl⟩ ⟨(Nat.zero_le _), (Nat.zero_le _)⟩ rfl ml_X5_191 im_X2_hasEnded sl_X2_hasEnded [] rfl rfl hl [] rfl (Nat.le_of_ble_eq_true rfl) (K_X2_hasEnded h) dX5_rerun_14 (fun r6 M5 H locs h w => ?_)
    refine lv_if_eq (tgt := 23) hx hb dX5_rerun_17 (by decide) (fun c7 => ?_) (fun c7 => ?_)
    · have h := h.1 c7
      refine r_aload_n (x := (some h0)) hx hb dX5_rerun_23 rfl (lh_at hl 0 rfl) ?_
      obtain ⟨ho8, h⟩ := h
      refine r_getR E w rfl ho8 cl_X5 4 rfl fl_X5_32 dX5_rerun_24 ?_
      refine lv_iload_n (x := x1) hx hb dX5_rerun_27 rfl (lh_at hl 1 rfl) ?_
      obtain ⟨a9, ea9, h⟩ := h
      obtain ⟨ho10, h⟩ := h
      refine z_callVi E w ea9 ho10 cl_X2 yk_X2_take ⟨Nat.le_of_ble_eq_true rfl, Nat.le_of_ble_eq_true rfl⟩ ⟨(Nat.zero_le _), (Nat.zero_le _)⟩ rfl ml_X5_198 im_X2_take sl_X2_take [iv x1] rfl rfl hl [] rfl (Nat.le_of_ble_eq_true rfl) (K_X2_take h) dX5_rerun_28 (fun r12 M11 H locs h w => ?_)
      exact r_iret E w hr hlk h (Nat.le_refl 0) (Nat.le_refl 0) dX5_rerun_31
    · have h := h.2 c7
      refine lv_bipush (v := (-4 : Int32)) hx hb dX5_rerun_20 (by decide) ?_
      exact r_iret E w hr hlk h (Nat.le_refl 0) (Nat.le_refl 0) dX5_rerun_22
theorem K_X5_rerun {l : Launch} {Q : Int32 → Mm → Prop} {h0 : Nat} {x1 : Int32} {M : Mm} (h : B_X5_rerun_0 Q h0 x1 M) : KI l yX5_rerun cdX5_rerun (rmm 3 0 0) [rv (some h0), iv x1] M Q :=
  KI_of (by decide) rfl (Nat.le_of_ble_eq_true rfl) (fun p e s m args below meth c D cy A ls E hr hlk hn w hl => k_X5_rerun_0 E hr hlk _ _ _ _ _ _ h w hl)
def B_X5_found_0 (Q : Int32 → Mm → Prop)  (h0 : Nat) (M : Mm) : Prop := (ok M h0 5 ∧ (∃ a2, (gR M h0 4) = some a2 ∧ (ok M a2 2 ∧ ((¬ (gI M a2 0) = 0 → (B_X2_hasEnded_0 (fun r6 M5 => ((r6 = 0 → Q (-9 : Int32) M5) ∧ (¬ r6 = 0 → (ok M5 h0 5 ∧ (∃ a9, (gR M5 h0 4) = some a9 ∧ (ok M5 a9 2 ∧ Q (gI M5 a9 2) M5)))))) a2  M)) ∧ ((gI M a2 0) = 0 → Q (-4 : Int32) M)))))
set_option maxHeartbeats 4000000 in
set_option maxRecDepth 100000 in
theorem k_X5_found_0 {p : Program} {l : Launch} {e : Env} {s : State} {m : MethodId} {args : Array Value} {below : List Frame} {meth : Method} {c : Code} {D : va_G} {cy : Nat → ClassId} {A : Nat → Prop} {Q : Int32 → Mm → Prop} (E : Ex p m c cX5_found 1 s args RX5 D cy A) (hr : meth.sig.returnType = (some .int)) (hlk : meth.locks = false) : ∀ (h0 : Nat) (M : Mm) (H : Heap) (locs : List Loc) (ls : Array Slot), B_X5_found_0 Q  h0 M → Wd D cy A s M H locs → lh ls 1 [(0, rv (some h0))] → W p l e (rmm 1 0 0) s m args below meth c H locs 0 0 (MQ below (va_Qi Q (Po D cy A) A) args s 0 0 A) (F0 m 0 ls []) := by
  obtain ⟨hx, hb, hml, hown, hts⟩ := E.1
  intro h0 M H locs ls h w hl
  unfold B_X5_found_0 at h
  refine r_aload_n (x := (some h0)) hx hb dX5_found_0 rfl (lh_at hl 0 rfl) ?_
  obtain ⟨ho1, h⟩ := h
  refine r_getR E w rfl ho1 cl_X5 4 rfl fl_X5_32 dX5_found_1 ?_
  obtain ⟨a2, ea2, h⟩ := h
  obtain ⟨ho3, h⟩ := h
  refine r_getI E w ea2 ho3 cl_X2 0 rfl fl_X5_188 dX5_found_4 ?_
  refine lv_if_ne (tgt := 13) hx hb dX5_found_7 (by decide) (fun c4 => ?_) (fun c4 => ?_)
  · have h := h.1 c4
    refine r_aload_n (x := (some h0)) hx hb dX5_found_13 rfl (lh_at hl 0 rfl) ?_
    refine r_getR E w rfl ho1 cl_X5 4 rfl fl_X5_32 dX5_found_14 ?_
    refine z_callVi E w ea2 ho3 cl_X2 yk_X2_hasEnded ⟨Nat.le_of_ble_eq_true rfl, Nat.le_of_ble_eq_true rfl⟩ ⟨(Nat.zero_le _), (Nat.zero_le _)⟩ rfl ml_X5_191 im_X2_hasEnded sl_X2_hasEnded [] rfl rfl hl [] rfl (Nat.le_of_ble_eq_true rfl) (K_X2_hasEnded h) dX5_found_17 (fun r6 M5 H locs h w => ?_)
    refine lv_if_eq (tgt := 33) hx hb dX5_found_20 (by decide) (fun c7 => ?_) (fun c7 => ?_)
    · have h := h.1 c7
      refine lv_bipush (v := (-9 : Int32)) hx hb dX5_found_33 (by decide) ?_
      exact r_iret E w hr hlk h (Nat.le_refl 0) (Nat.le_refl 0) dX5_found_35
    · have h := h.2 c7
      refine r_aload_n (x := (some h0)) hx hb dX5_found_23 rfl (lh_at hl 0 rfl) ?_
      obtain ⟨ho8, h⟩ := h
      refine r_getR E w rfl ho8 cl_X5 4 rfl fl_X5_32 dX5_found_24 ?_
      obtain ⟨a9, ea9, h⟩ := h
      obtain ⟨ho10, h⟩ := h
      refine r_getI E w ea9 ho10 cl_X2 2 rfl fl_X5_202 dX5_found_27 ?_
      refine lv_goto (tgt := 35) hx hb dX5_found_30 (by decide) ?_
      exact r_iret E w hr hlk h (Nat.le_refl 0) (Nat.le_refl 0) dX5_found_35
  · have h := h.2 c4
    refine lv_bipush (v := (-4 : Int32)) hx hb dX5_found_10 (by decide) ?_
    exact r_iret E w hr hlk h (Nat.le_refl 0) (Nat.le_refl 0) dX5_found_12
theorem K_X5_found {l : Launch} {Q : Int32 → Mm → Prop} {h0 : Nat} {M : Mm} (h : B_X5_found_0 Q h0 M) : KI l yX5_found cdX5_found (rmm 1 0 0) [rv (some h0)] M Q :=
  KI_of (by decide) rfl (Nat.le_of_ble_eq_true rfl) (fun p e s m args below meth c D cy A ls E hr hlk hn w hl => k_X5_found_0 E hr hlk _ _ _ _ _ h w hl)
def B_X5_reruns_0 (Q : Int32 → Mm → Prop)  (h0 : Nat) (M : Mm) : Prop := (ok M h0 5 ∧ (∃ a2, (gR M h0 4) = some a2 ∧ (ok M a2 2 ∧ Q (gI M a2 4) M)))
set_option maxHeartbeats 4000000 in
set_option maxRecDepth 100000 in
theorem k_X5_reruns_0 {p : Program} {l : Launch} {e : Env} {s : State} {m : MethodId} {args : Array Value} {below : List Frame} {meth : Method} {c : Code} {D : va_G} {cy : Nat → ClassId} {A : Nat → Prop} {Q : Int32 → Mm → Prop} (E : Ex p m c cX5_reruns 1 s args RX5 D cy A) (hr : meth.sig.returnType = (some .int)) (hlk : meth.locks = false) : ∀ (h0 : Nat) (M : Mm) (H : Heap) (locs : List Loc) (ls : Array Slot), B_X5_reruns_0 Q  h0 M → Wd D cy A s M H locs → lh ls 1 [(0, rv (some h0))] → W p l e (rmm 0 0 0) s m args below meth c H locs 0 0 (MQ below (va_Qi Q (Po D cy A) A) args s 0 0 A) (F0 m 0 ls []) := by
  obtain ⟨hx, hb, hml, hown, hts⟩ := E.1
  intro h0 M H locs ls h w hl
  unfold B_X5_reruns_0 at h
  refine r_aload_n (x := (some h0)) hx hb dX5_reruns_0 rfl (lh_at hl 0 rfl) ?_
  obtain ⟨ho1, h⟩ := h
  refine r_getR E w rfl ho1 cl_X5 4 rfl fl_X5_32 dX5_reruns_1 ?_
  obtain ⟨a2, ea2, h⟩ := h
  obtain ⟨ho3, h⟩ := h
  refine r_getI E w ea2 ho3 cl_X2 4 rfl fl_X5_205 dX5_reruns_4 ?_
  exact r_iret E w hr hlk h (Nat.le_refl 0) (Nat.le_refl 0) dX5_reruns_7
theorem K_X5_reruns {l : Launch} {Q : Int32 → Mm → Prop} {h0 : Nat} {M : Mm} (h : B_X5_reruns_0 Q h0 M) : KI l yX5_reruns cdX5_reruns (rmm 0 0 0) [rv (some h0)] M Q :=
  KI_of (by decide) rfl (Nat.le_of_ble_eq_true rfl) (fun p e s m args below meth c D cy A ls E hr hlk hn w hl => k_X5_reruns_0 E hr hlk _ _ _ _ _ h w hl)
def B_X5_upper_0 (Q : Int64 → Mm → Prop)  (h0 : Nat) (M : Mm) : Prop := (ok M h0 5 ∧ Q (gJ M h0 12) M)
set_option maxHeartbeats 4000000 in
set_option maxRecDepth 100000 in
theorem k_X5_upper_0 {p : Program} {l : Launch} {e : Env} {s : State} {m : MethodId} {args : Array Value} {below : List Frame} {meth : Method} {c : Code} {D : va_G} {cy : Nat → ClassId} {A : Nat → Prop} {Q : Int64 → Mm → Prop} (E : Ex p m c cX5_upper 1 s args RX5 D cy A) (hr : meth.sig.returnType = (some .long)) (hlk : meth.locks = false) : ∀ (h0 : Nat) (M : Mm) (H : Heap) (locs : List Loc) (ls : Array Slot), B_X5_upper_0 Q  h0 M → Wd D cy A s M H locs → lh ls 1 [(0, rv (some h0))] → W p l e (rmm 0 0 0) s m args below meth c H locs 0 0 (MQ below (va_Ql Q (Po D cy A) A) args s 0 0 A) (F0 m 0 ls []) := by
  obtain ⟨hx, hb, hml, hown, hts⟩ := E.1
  intro h0 M H locs ls h w hl
  unfold B_X5_upper_0 at h
  refine r_aload_n (x := (some h0)) hx hb dX5_upper_0 rfl (lh_at hl 0 rfl) ?_
  obtain ⟨ho1, h⟩ := h
  refine r_getJ E w rfl ho1 cl_X5 12 rfl fl_X5_168 dX5_upper_1 ?_
  exact r_lret E w hr hlk h (Nat.le_refl 0) (Nat.le_refl 0) dX5_upper_4
theorem K_X5_upper {l : Launch} {Q : Int64 → Mm → Prop} {h0 : Nat} {M : Mm} (h : B_X5_upper_0 Q h0 M) : KL l yX5_upper cdX5_upper (rmm 0 0 0) [rv (some h0)] M Q :=
  KL_of (by decide) rfl (Nat.le_of_ble_eq_true rfl) (fun p e s m args below meth c D cy A ls E hr hlk hn w hl => k_X5_upper_0 E hr hlk _ _ _ _ _ h w hl)
def B_X5_lower_0 (Q : Int64 → Mm → Prop)  (h0 : Nat) (M : Mm) : Prop := (ok M h0 5 ∧ Q (gJ M h0 13) M)
set_option maxHeartbeats 4000000 in
set_option maxRecDepth 100000 in
theorem k_X5_lower_0 {p : Program} {l : Launch} {e : Env} {s : State} {m : MethodId} {args : Array Value} {below : List Frame} {meth : Method} {c : Code} {D : va_G} {cy : Nat → ClassId} {A : Nat → Prop} {Q : Int64 → Mm → Prop} (E : Ex p m c cX5_lower 1 s args RX5 D cy A) (hr : meth.sig.returnType = (some .long)) (hlk : meth.locks = false) : ∀ (h0 : Nat) (M : Mm) (H : Heap) (locs : List Loc) (ls : Array Slot), B_X5_lower_0 Q  h0 M → Wd D cy A s M H locs → lh ls 1 [(0, rv (some h0))] → W p l e (rmm 0 0 0) s m args below meth c H locs 0 0 (MQ below (va_Ql Q (Po D cy A) A) args s 0 0 A) (F0 m 0 ls []) := by
  obtain ⟨hx, hb, hml, hown, hts⟩ := E.1
  intro h0 M H locs ls h w hl
  unfold B_X5_lower_0 at h
  refine r_aload_n (x := (some h0)) hx hb dX5_lower_0 rfl (lh_at hl 0 rfl) ?_
  obtain ⟨ho1, h⟩ := h
  refine r_getJ E w rfl ho1 cl_X5 13 rfl fl_X5_43 dX5_lower_1 ?_
  exact r_lret E w hr hlk h (Nat.le_refl 0) (Nat.le_refl 0) dX5_lower_4
theorem K_X5_lower {l : Launch} {Q : Int64 → Mm → Prop} {h0 : Nat} {M : Mm} (h : B_X5_lower_0 Q h0 M) : KL l yX5_lower cdX5_lower (rmm 0 0 0) [rv (some h0)] M Q :=
  KL_of (by decide) rfl (Nat.le_of_ble_eq_true rfl) (fun p e s m args below meth c D cy A ls E hr hlk hn w hl => k_X5_lower_0 E hr hlk _ _ _ _ _ h w hl)
def B_X5_asked_0 (Q : Int64 → Mm → Prop)  (h0 : Nat) (M : Mm) : Prop := (ok M h0 5 ∧ Q (gJ M h0 14) M)
set_option maxHeartbeats 4000000 in
set_option maxRecDepth 100000 in
theorem k_X5_asked_0 {p : Program} {l : Launch} {e : Env} {s : State} {m : MethodId} {args : Array Value} {below : List Frame} {meth : Method} {c : Code} {D : va_G} {cy : Nat → ClassId} {A : Nat → Prop} {Q : Int64 → Mm → Prop} (E : Ex p m c cX5_asked 1 s args RX5 D cy A) (hr : meth.sig.returnType = (some .long)) (hlk : meth.locks = false) : ∀ (h0 : Nat) (M : Mm) (H : Heap) (locs : List Loc) (ls : Array Slot), B_X5_asked_0 Q  h0 M → Wd D cy A s M H locs → lh ls 1 [(0, rv (some h0))] → W p l e (rmm 0 0 0) s m args below meth c H locs 0 0 (MQ below (va_Ql Q (Po D cy A) A) args s 0 0 A) (F0 m 0 ls []) := by
  obtain ⟨hx, hb, hml, hown, hts⟩ := E.1
  intro h0 M H locs ls h w hl
  unfold B_X5_asked_0 at h
  refine r_aload_n (x := (some h0)) hx hb dX5_asked_0 rfl (lh_at hl 0 rfl) ?_
  obtain ⟨ho1, h⟩ := h
  refine r_getJ E w rfl ho1 cl_X5 14 rfl fl_X5_122 dX5_asked_1 ?_
  exact r_lret E w hr hlk h (Nat.le_refl 0) (Nat.le_refl 0) dX5_asked_4
theorem K_X5_asked {l : Launch} {Q : Int64 → Mm → Prop} {h0 : Nat} {M : Mm} (h : B_X5_asked_0 Q h0 M) : KL l yX5_asked cdX5_asked (rmm 0 0 0) [rv (some h0)] M Q :=
  KL_of (by decide) rfl (Nat.le_of_ble_eq_true rfl) (fun p e s m args below meth c D cy A ls E hr hlk hn w hl => k_X5_asked_0 E hr hlk _ _ _ _ _ h w hl)
def B_X5_countRows_14 (Q : Int32 → Mm → Prop) (K4 : Nat → Int32 → Int32 → Mm → Prop) : Nat → Nat → Int32 → Int32 → Int32 → Mm → Prop
  | 0, _, _, _, _, _ => False
  | n + 1, h0, x1, x2, x3, M => (((4 : Int32) ≤ x3 → K4 h0 x1 (x2 + 1) M) ∧ (¬ (4 : Int32) ≤ x3 → (ok M h0 5 ∧ (∃ a3, (gR M h0 0) = some a3 ∧ (ar M a3 11 x2 ∧ (∃ a5, (gR M a3 (Int32.toNatClampNeg x2)) = some a5 ∧ (ok M a5 4 ∧ (∃ a7, (gR M a5 1) = some a7 ∧ (ar M a7 10 x3 ∧ (∃ a9, (gR M a7 (Int32.toNatClampNeg x3)) = some a9 ∧ (ok M a9 3 ∧ (((gI M a9 1) = 0 → B_X5_countRows_14 Q K4 n h0 x1 x2 (x3 + 1) M) ∧ (¬ (gI M a9 1) = 0 → B_X5_countRows_14 Q K4 n h0 (x1 + 1) x2 (x3 + 1) M)))))))))))))
set_option maxHeartbeats 4000000 in
set_option maxRecDepth 100000 in
theorem k_X5_countRows_14 {p : Program} {l : Launch} {e : Env} {s : State} {m : MethodId} {args : Array Value} {below : List Frame} {meth : Method} {c : Code} {D : va_G} {cy : Nat → ClassId} {A : Nat → Prop} {Q : Int32 → Mm → Prop} (E : Ex p m c cX5_countRows 4 s args RX5 D cy A) (hr : meth.sig.returnType = (some .int)) (hlk : meth.locks = false) {K4 : Nat → Int32 → Int32 → Mm → Prop} (hK4 : ∀ (h0 : Nat) (x1 : Int32) (x2 : Int32) (M : Mm) (H : Heap) (locs : List Loc) (ls : Array Slot), K4 h0 x1 x2 M → Wd D cy A s M H locs → lh ls 4 [(0, rv (some h0)), (1, iv x1), (2, iv x2)] → W p l e (rmm 0 0 0) s m args below meth c H locs 0 0 (MQ below (va_Qi Q (Po D cy A) A) args s 0 0 A) (F0 m 4 ls [])) : ∀ (n : Nat), ∀ (h0 : Nat) (x1 : Int32) (x2 : Int32) (x3 : Int32) (M : Mm) (H : Heap) (locs : List Loc) (ls : Array Slot), B_X5_countRows_14 Q K4 n h0 x1 x2 x3 M → Wd D cy A s M H locs → lh ls 4 [(0, rv (some h0)), (1, iv x1), (2, iv x2), (3, iv x3)] → W p l e (rmm 0 0 0) s m args below meth c H locs 0 0 (MQ below (va_Qi Q (Po D cy A) A) args s 0 0 A) (F0 m 14 ls []) := by
  obtain ⟨hx, hb, hml, hown, hts⟩ := E.1
  intro n
  induction n with
  | zero => intro h0 x1 x2 x3 M H locs ls h; exact False.elim h
  | succ n ih =>
    intro h0 x1 x2 x3 M H locs ls h w hl
    unfold B_X5_countRows_14 at h
    refine lv_iload_n (x := x3) hx hb dX5_countRows_14 rfl (lh_at hl 3 rfl) ?_
    refine lv_iconst (v := (4 : Int32)) hx hb dX5_countRows_15 (by decide) ?_
    refine lv_icmp_ge (tgt := 45) hx hb dX5_countRows_16 (by decide) (fun c1 => ?_) (fun c1 => ?_)
    · have h := h.1 c1
      refine r_iinc (k := 2) (x := x2) (v := (x2 + 1)) (lv' := [(2, iv (x2 + 1)), (0, rv (some h0)), (1, iv x1), (3, iv x3)]) hx hb dX5_countRows_45 hl rfl rfl (by decide) rfl (fun ls hl => ?_)
      refine lv_goto (tgt := 4) hx hb dX5_countRows_48 (by decide) ?_
      exact hK4 _ _ _ _ _ _ _ h w (lh_sub hl [1, 2, 0] rfl)
    · have h := h.2 c1
      refine r_aload_n (x := (some h0)) hx hb dX5_countRows_19 rfl (lh_at hl 0 rfl) ?_
      obtain ⟨ho2, h⟩ := h
      refine r_getR E w rfl ho2 cl_X5 0 rfl fl_X5_11 dX5_countRows_20 ?_
      refine lv_iload_n (x := x2) hx hb dX5_countRows_23 rfl (lh_at hl 2 rfl) ?_
      obtain ⟨a3, ea3, h⟩ := h
      obtain ⟨ha4, h⟩ := h
      refine r_aald11 E w ea3 ha4 dX5_countRows_24 ?_
      obtain ⟨a5, ea5, h⟩ := h
      obtain ⟨ho6, h⟩ := h
      refine r_getR E w ea5 ho6 cl_X4 1 rfl fl_X5_218 dX5_countRows_25 ?_
      refine lv_iload_n (x := x3) hx hb dX5_countRows_28 rfl (lh_at hl 3 rfl) ?_
      obtain ⟨a7, ea7, h⟩ := h
      obtain ⟨ha8, h⟩ := h
      refine r_aald10 E w ea7 ha8 dX5_countRows_29 ?_
      obtain ⟨a9, ea9, h⟩ := h
      obtain ⟨ho10, h⟩ := h
      refine r_getI E w ea9 ho10 cl_X3 1 rfl fl_X5_71 dX5_countRows_30 ?_
      refine lv_if_eq (tgt := 39) hx hb dX5_countRows_33 (by decide) (fun c11 => ?_) (fun c11 => ?_)
      · have h := h.1 c11
        refine r_iinc (k := 3) (x := x3) (v := (x3 + 1)) (lv' := [(3, iv (x3 + 1)), (0, rv (some h0)), (1, iv x1), (2, iv x2)]) hx hb dX5_countRows_39 hl rfl rfl (by decide) rfl (fun ls hl => ?_)
        refine lv_goto (tgt := 14) hx hb dX5_countRows_42 (by decide) ?_
        exact ih _ _ _ _ _ _ _ _ h w (lh_sub hl [1, 2, 3, 0] rfl)
      · have h := h.2 c11
        refine r_iinc (k := 1) (x := x1) (v := (x1 + 1)) (lv' := [(1, iv (x1 + 1)), (0, rv (some h0)), (2, iv x2), (3, iv x3)]) hx hb dX5_countRows_36 hl rfl rfl (by decide) rfl (fun ls hl => ?_)
        refine r_iinc (k := 3) (x := x3) (v := (x3 + 1)) (lv' := [(3, iv (x3 + 1)), (1, iv (x1 + 1)), (0, rv (some h0)), (2, iv x2)]) hx hb dX5_countRows_39 hl rfl rfl (by decide) rfl (fun ls hl => ?_)
        refine lv_goto (tgt := 14) hx hb dX5_countRows_42 (by decide) ?_
        exact ih _ _ _ _ _ _ _ _ h w (lh_sub hl [2, 1, 3, 0] rfl)
def B_X5_countRows_4 (Q : Int32 → Mm → Prop)  : Nat → Nat → Int32 → Int32 → Mm → Prop
  | 0, _, _, _, _ => False
  | n + 1, h0, x1, x2, M => (ok M h0 5 ∧ (((gI M h0 7) ≤ x2 → Q x1 M) ∧ (¬ (gI M h0 7) ≤ x2 → (∃ n3, B_X5_countRows_14 Q (fun y0 y1 y2 My => B_X5_countRows_4 Q n y0 y1 y2 My) n3 h0 x1 x2 (0 : Int32) M))))
set_option maxHeartbeats 4000000 in
set_option maxRecDepth 100000 in
theorem k_X5_countRows_4 {p : Program} {l : Launch} {e : Env} {s : State} {m : MethodId} {args : Array Value} {below : List Frame} {meth : Method} {c : Code} {D : va_G} {cy : Nat → ClassId} {A : Nat → Prop} {Q : Int32 → Mm → Prop} (E : Ex p m c cX5_countRows 4 s args RX5 D cy A) (hr : meth.sig.returnType = (some .int)) (hlk : meth.locks = false) : ∀ (n : Nat), ∀ (h0 : Nat) (x1 : Int32) (x2 : Int32) (M : Mm) (H : Heap) (locs : List Loc) (ls : Array Slot), B_X5_countRows_4 Q  n h0 x1 x2 M → Wd D cy A s M H locs → lh ls 4 [(0, rv (some h0)), (1, iv x1), (2, iv x2)] → W p l e (rmm 0 0 0) s m args below meth c H locs 0 0 (MQ below (va_Qi Q (Po D cy A) A) args s 0 0 A) (F0 m 4 ls []) := by
  obtain ⟨hx, hb, hml, hown, hts⟩ := E.1
  intro n
  induction n with
  | zero => intro h0 x1 x2 M H locs ls h; exact False.elim h
  | succ n ih =>
    intro h0 x1 x2 M H locs ls h w hl
    unfold B_X5_countRows_4 at h
    refine lv_iload_n (x := x2) hx hb dX5_countRows_4 rfl (lh_at hl 2 rfl) ?_
    refine r_aload_n (x := (some h0)) hx hb dX5_countRows_5 rfl (lh_at hl 0 rfl) ?_
    obtain ⟨ho1, h⟩ := h
    refine r_getI E w rfl ho1 cl_X5 7 rfl fl_X5_54 dX5_countRows_6 ?_
    refine lv_icmp_ge (tgt := 51) hx hb dX5_countRows_9 (by decide) (fun c2 => ?_) (fun c2 => ?_)
    · have h := h.1 c2
      refine lv_iload_n (x := x1) hx hb dX5_countRows_51 rfl (lh_at hl 1 rfl) ?_
      exact r_iret E w hr hlk h (Nat.le_refl 0) (Nat.le_refl 0) dX5_countRows_52
    · have h := h.2 c2
      refine lv_iconst (v := (0 : Int32)) hx hb dX5_countRows_12 (by decide) ?_
      refine r_istore_n (lv' := [(3, iv (0 : Int32)), (0, rv (some h0)), (1, iv x1), (2, iv x2)]) hx hb dX5_countRows_13 rfl hl (by decide) rfl (fun ls hl => ?_)
      obtain ⟨n3, h⟩ := h
      exact k_X5_countRows_14 E hr hlk ih n3 _ _ _ _ _ _ _ _ h w (lh_sub hl [1, 2, 3, 0] rfl)
def B_X5_countRows_0 (Q : Int32 → Mm → Prop)  (h0 : Nat) (M : Mm) : Prop := (∃ n1, B_X5_countRows_4 Q  n1 h0 (0 : Int32) (0 : Int32) M)
set_option maxHeartbeats 4000000 in
set_option maxRecDepth 100000 in
theorem k_X5_countRows_0 {p : Program} {l : Launch} {e : Env} {s : State} {m : MethodId} {args : Array Value} {below : List Frame} {meth : Method} {c : Code} {D : va_G} {cy : Nat → ClassId} {A : Nat → Prop} {Q : Int32 → Mm → Prop} (E : Ex p m c cX5_countRows 4 s args RX5 D cy A) (hr : meth.sig.returnType = (some .int)) (hlk : meth.locks = false) : ∀ (h0 : Nat) (M : Mm) (H : Heap) (locs : List Loc) (ls : Array Slot), B_X5_countRows_0 Q  h0 M → Wd D cy A s M H locs → lh ls 4 [(0, rv (some h0))] → W p l e (rmm 0 0 0) s m args below meth c H locs 0 0 (MQ below (va_Qi Q (Po D cy A) A) args s 0 0 A) (F0 m 0 ls []) := by
  obtain ⟨hx, hb, hml, hown, hts⟩ := E.1
  intro h0 M H locs ls h w hl
  unfold B_X5_countRows_0 at h
  refine lv_iconst (v := (0 : Int32)) hx hb dX5_countRows_0 (by decide) ?_
  refine r_istore_n (lv' := [(1, iv (0 : Int32)), (0, rv (some h0))]) hx hb dX5_countRows_1 rfl hl (by decide) rfl (fun ls hl => ?_)
  refine lv_iconst (v := (0 : Int32)) hx hb dX5_countRows_2 (by decide) ?_
  refine r_istore_n (lv' := [(2, iv (0 : Int32)), (1, iv (0 : Int32)), (0, rv (some h0))]) hx hb dX5_countRows_3 rfl hl (by decide) rfl (fun ls hl => ?_)
  obtain ⟨n1, h⟩ := h
  exact k_X5_countRows_4 E hr hlk  n1 _ _ _ _ _ _ _ h w (lh_sub hl [2, 1, 0] rfl)
theorem K_X5_countRows {l : Launch} {Q : Int32 → Mm → Prop} {h0 : Nat} {M : Mm} (h : B_X5_countRows_0 Q h0 M) : KI l yX5_countRows cdX5_countRows (rmm 0 0 0) [rv (some h0)] M Q :=
  KI_of (by decide) rfl (Nat.le_of_ble_eq_true rfl) (fun p e s m args below meth c D cy A ls E hr hlk hn w hl => k_X5_countRows_0 E hr hlk _ _ _ _ _ h w hl)
def B_X5_count_0 (Q : Int32 → Mm → Prop)  (h0 : Nat) (x1 : Int32) (M : Mm) : Prop := ((Int32.toInt x1 < 0 ∨ 3 < Int32.toInt x1 → Q (-1 : Int32) M) ∧ ((x1 = nI 0 → (ok M h0 5 ∧ Q (gI M h0 6) M)) ∧ (x1 = nI 1 → (ok M h0 5 ∧ Q (gI M h0 7) M)) ∧ (x1 = nI 2 → (ok M h0 5 ∧ (B_X5_countRows_0 (fun r5 M4 => Q r5 M4) h0  M))) ∧ (x1 = nI 3 → (ok M h0 5 ∧ Q (gI M h0 10) M))))
set_option maxHeartbeats 4000000 in
set_option maxRecDepth 100000 in
theorem k_X5_count_0 {p : Program} {l : Launch} {e : Env} {s : State} {m : MethodId} {args : Array Value} {below : List Frame} {meth : Method} {c : Code} {D : va_G} {cy : Nat → ClassId} {A : Nat → Prop} {Q : Int32 → Mm → Prop} (E : Ex p m c cX5_count 2 s args RX5 D cy A) (hr : meth.sig.returnType = (some .int)) (hlk : meth.locks = false) : ∀ (h0 : Nat) (x1 : Int32) (M : Mm) (H : Heap) (locs : List Loc) (ls : Array Slot), B_X5_count_0 Q  h0 x1 M → Wd D cy A s M H locs → lh ls 2 [(0, rv (some h0)), (1, iv x1)] → W p l e (rmm 1 0 0) s m args below meth c H locs 0 0 (MQ below (va_Qi Q (Po D cy A) A) args s 0 0 A) (F0 m 0 ls []) := by
  obtain ⟨hx, hb, hml, hown, hts⟩ := E.1
  intro h0 x1 M H locs ls h w hl
  unfold B_X5_count_0 at h
  refine lv_iload_n (x := x1) hx hb dX5_count_0 rfl (lh_at hl 1 rfl) ?_
  by_cases cd : Int32.toInt x1 < 0 ∨ 3 < Int32.toInt x1
  · have h := h.1 cd
    refine lv_tableOut (tgt := 52) hx hb dX5_count_1 cd (by decide) ?_
    refine lv_iconst (v := (-1 : Int32)) hx hb dX5_count_52 (by decide) ?_
    exact r_iret E w hr hlk h (Nat.le_refl 0) (Nat.le_refl 0) dX5_count_53
  · have hj : ∃ j : Nat, j < 4 ∧ x1 = nI j := sw_in 3 (by decide) cd
    obtain ⟨j, hj, ej⟩ := hj
    have h := h.2
    rcases (show j = 0 ∨ j = 1 ∨ j = 2 ∨ j = 3 by omega) with rfl | rfl | rfl | rfl
    · have h := h.1 ej
      refine lv_tableIn (off := 31) (tgt := 32) hx hb dX5_count_1 (by rw [ej]; decide) (by rw [ej]; decide) (by rw [ej]; decide) (by decide) ?_
      refine r_aload_n (x := (some h0)) hx hb dX5_count_32 rfl (lh_at hl 0 rfl) ?_
      obtain ⟨ho1, h⟩ := h
      refine r_getI E w rfl ho1 cl_X5 6 rfl fl_X5_47 dX5_count_33 ?_
      exact r_iret E w hr hlk h (Nat.le_refl 0) (Nat.le_refl 0) dX5_count_36
    · have h := h.2.1 ej
      refine lv_tableIn (off := 36) (tgt := 37) hx hb dX5_count_1 (by rw [ej]; decide) (by rw [ej]; decide) (by rw [ej]; decide) (by decide) ?_
      refine r_aload_n (x := (some h0)) hx hb dX5_count_37 rfl (lh_at hl 0 rfl) ?_
      obtain ⟨ho2, h⟩ := h
      refine r_getI E w rfl ho2 cl_X5 7 rfl fl_X5_54 dX5_count_38 ?_
      exact r_iret E w hr hlk h (Nat.le_refl 0) (Nat.le_refl 0) dX5_count_41
    · have h := h.2.2.1 ej
      refine lv_tableIn (off := 41) (tgt := 42) hx hb dX5_count_1 (by rw [ej]; decide) (by rw [ej]; decide) (by rw [ej]; decide) (by decide) ?_
      refine r_aload_n (x := (some h0)) hx hb dX5_count_42 rfl (lh_at hl 0 rfl) ?_
      obtain ⟨ho3, h⟩ := h
      refine z_callVi E w rfl ho3 cl_X5 yk_X5_countRows ⟨Nat.le_of_ble_eq_true rfl, Nat.le_of_ble_eq_true rfl⟩ ⟨(Nat.zero_le _), (Nat.zero_le _)⟩ rfl ml_X5_208 im_X5_countRows sl_X5_countRows [] rfl rfl hl [] rfl (Nat.le_of_ble_eq_true rfl) (K_X5_countRows h) dX5_count_43 (fun r5 M4 H locs h w => ?_)
      exact r_iret E w hr hlk h (Nat.le_refl 0) (Nat.le_refl 0) dX5_count_46
    · have h := h.2.2.2 ej
      refine lv_tableIn (off := 46) (tgt := 47) hx hb dX5_count_1 (by rw [ej]; decide) (by rw [ej]; decide) (by rw [ej]; decide) (by decide) ?_
      refine r_aload_n (x := (some h0)) hx hb dX5_count_47 rfl (lh_at hl 0 rfl) ?_
      obtain ⟨ho6, h⟩ := h
      refine r_getI E w rfl ho6 cl_X5 10 rfl fl_X5_174 dX5_count_48 ?_
      exact r_iret E w hr hlk h (Nat.le_refl 0) (Nat.le_refl 0) dX5_count_51
theorem K_X5_count {l : Launch} {Q : Int32 → Mm → Prop} {h0 : Nat} {x1 : Int32} {M : Mm} (h : B_X5_count_0 Q h0 x1 M) : KI l yX5_count cdX5_count (rmm 1 0 0) [rv (some h0), iv x1] M Q :=
  KI_of (by decide) rfl (Nat.le_of_ble_eq_true rfl) (fun p e s m args below meth c D cy A ls E hr hlk hn w hl => k_X5_count_0 E hr hlk _ _ _ _ _ _ h w hl)
def B_X5_finding_0 (Q : Int32 → Mm → Prop)  (h0 : Nat) (M : Mm) : Prop := (ok M h0 5 ∧ Q (gI M h0 11) M)
set_option maxHeartbeats 4000000 in
set_option maxRecDepth 100000 in
theorem k_X5_finding_0 {p : Program} {l : Launch} {e : Env} {s : State} {m : MethodId} {args : Array Value} {below : List Frame} {meth : Method} {c : Code} {D : va_G} {cy : Nat → ClassId} {A : Nat → Prop} {Q : Int32 → Mm → Prop} (E : Ex p m c cX5_finding 1 s args RX5 D cy A) (hr : meth.sig.returnType = (some .int)) (hlk : meth.locks = false) : ∀ (h0 : Nat) (M : Mm) (H : Heap) (locs : List Loc) (ls : Array Slot), B_X5_finding_0 Q  h0 M → Wd D cy A s M H locs → lh ls 1 [(0, rv (some h0))] → W p l e (rmm 0 0 0) s m args below meth c H locs 0 0 (MQ below (va_Qi Q (Po D cy A) A) args s 0 0 A) (F0 m 0 ls []) := by
  obtain ⟨hx, hb, hml, hown, hts⟩ := E.1
  intro h0 M H locs ls h w hl
  unfold B_X5_finding_0 at h
  refine r_aload_n (x := (some h0)) hx hb dX5_finding_0 rfl (lh_at hl 0 rfl) ?_
  obtain ⟨ho1, h⟩ := h
  refine r_getI E w rfl ho1 cl_X5 11 rfl fl_X5_211 dX5_finding_1 ?_
  exact r_iret E w hr hlk h (Nat.le_refl 0) (Nat.le_refl 0) dX5_finding_4
theorem K_X5_finding {l : Launch} {Q : Int32 → Mm → Prop} {h0 : Nat} {M : Mm} (h : B_X5_finding_0 Q h0 M) : KI l yX5_finding cdX5_finding (rmm 0 0 0) [rv (some h0)] M Q :=
  KI_of (by decide) rfl (Nat.le_of_ble_eq_true rfl) (fun p e s m args below meth c D cy A ls E hr hlk hn w hl => k_X5_finding_0 E hr hlk _ _ _ _ _ h w hl)
def B_X5_findings_0 (Q : Int32 → Mm → Prop)  (h0 : Nat) (x1 : Int32) (M : Mm) : Prop := ((x1 < (1 : Int32) → Q (-1 : Int32) M) ∧ (¬ x1 < (1 : Int32) → (((5 : Int32) < x1 → Q (-1 : Int32) M) ∧ (¬ (5 : Int32) < x1 → (ok M h0 5 ∧ (∃ a4, (gR M h0 1) = some a4 ∧ (ar M a4 7 x1 ∧ Q (gI M a4 (Int32.toNatClampNeg x1)) M)))))))
set_option maxHeartbeats 4000000 in
set_option maxRecDepth 100000 in
theorem k_X5_findings_0 {p : Program} {l : Launch} {e : Env} {s : State} {m : MethodId} {args : Array Value} {below : List Frame} {meth : Method} {c : Code} {D : va_G} {cy : Nat → ClassId} {A : Nat → Prop} {Q : Int32 → Mm → Prop} (E : Ex p m c cX5_findings 2 s args RX5 D cy A) (hr : meth.sig.returnType = (some .int)) (hlk : meth.locks = false) : ∀ (h0 : Nat) (x1 : Int32) (M : Mm) (H : Heap) (locs : List Loc) (ls : Array Slot), B_X5_findings_0 Q  h0 x1 M → Wd D cy A s M H locs → lh ls 2 [(0, rv (some h0)), (1, iv x1)] → W p l e (rmm 0 0 0) s m args below meth c H locs 0 0 (MQ below (va_Qi Q (Po D cy A) A) args s 0 0 A) (F0 m 0 ls []) := by
  obtain ⟨hx, hb, hml, hown, hts⟩ := E.1
  intro h0 x1 M H locs ls h w hl
  unfold B_X5_findings_0 at h
  refine lv_iload_n (x := x1) hx hb dX5_findings_0 rfl (lh_at hl 1 rfl) ?_
  refine lv_iconst (v := (1 : Int32)) hx hb dX5_findings_1 (by decide) ?_
  refine lv_icmp_lt (tgt := 19) hx hb dX5_findings_2 (by decide) (fun c1 => ?_) (fun c1 => ?_)
  · have h := h.1 c1
    refine lv_iconst (v := (-1 : Int32)) hx hb dX5_findings_19 (by decide) ?_
    exact r_iret E w hr hlk h (Nat.le_refl 0) (Nat.le_refl 0) dX5_findings_20
  · have h := h.2 c1
    refine lv_iload_n (x := x1) hx hb dX5_findings_5 rfl (lh_at hl 1 rfl) ?_
    refine lv_iconst (v := (5 : Int32)) hx hb dX5_findings_6 (by decide) ?_
    refine lv_icmp_gt (tgt := 19) hx hb dX5_findings_7 (by decide) (fun c2 => ?_) (fun c2 => ?_)
    · have h := h.1 c2
      refine lv_iconst (v := (-1 : Int32)) hx hb dX5_findings_19 (by decide) ?_
      exact r_iret E w hr hlk h (Nat.le_refl 0) (Nat.le_refl 0) dX5_findings_20
    · have h := h.2 c2
      refine r_aload_n (x := (some h0)) hx hb dX5_findings_10 rfl (lh_at hl 0 rfl) ?_
      obtain ⟨ho3, h⟩ := h
      refine r_getR E w rfl ho3 cl_X5 1 rfl fl_X5_15 dX5_findings_11 ?_
      refine lv_iload_n (x := x1) hx hb dX5_findings_14 rfl (lh_at hl 1 rfl) ?_
      obtain ⟨a4, ea4, h⟩ := h
      obtain ⟨ha5, h⟩ := h
      refine r_iald E w ea4 ha5 dX5_findings_15 ?_
      refine lv_goto (tgt := 20) hx hb dX5_findings_16 (by decide) ?_
      exact r_iret E w hr hlk h (Nat.le_refl 0) (Nat.le_refl 0) dX5_findings_20
theorem K_X5_findings {l : Launch} {Q : Int32 → Mm → Prop} {h0 : Nat} {x1 : Int32} {M : Mm} (h : B_X5_findings_0 Q h0 x1 M) : KI l yX5_findings cdX5_findings (rmm 0 0 0) [rv (some h0), iv x1] M Q :=
  KI_of (by decide) rfl (Nat.le_of_ble_eq_true rfl) (fun p e s m args below meth c D cy A ls E hr hlk hn w hl => k_X5_findings_0 E hr hlk _ _ _ _ _ _ h w hl)
def B_X5_digest_70 (Q : Int64 → Mm → Prop) (K42 : Nat → Int64 → Int32 → Mm → Prop) : Nat → Nat → Int64 → Int32 → Int32 → Mm → Prop
  | 0, _, _, _, _, _ => False
  | n + 1, h0, x1, x3, x4, M => (((4 : Int32) ≤ x4 → K42 h0 x1 (x3 + 1) M) ∧ (¬ (4 : Int32) ≤ x4 → (ok M h0 5 ∧ (∃ a3, (gR M h0 0) = some a3 ∧ (ar M a3 11 x3 ∧ (∃ a5, (gR M a3 (Int32.toNatClampNeg x3)) = some a5 ∧ (ok M a5 4 ∧ (∃ a7, (gR M a5 1) = some a7 ∧ (ar M a7 10 x4 ∧ (∃ a9, (gR M a7 (Int32.toNatClampNeg x4)) = some a9 ∧ (ok M a9 3 ∧ (B_X3_digestOnto_0 (fun r12 M11 => B_X5_digest_70 Q K42 n h0 r12 x3 (x4 + 1) M11) a9 x1 M))))))))))))
set_option maxHeartbeats 4000000 in
set_option maxRecDepth 100000 in
theorem k_X5_digest_70 {p : Program} {l : Launch} {e : Env} {s : State} {m : MethodId} {args : Array Value} {below : List Frame} {meth : Method} {c : Code} {D : va_G} {cy : Nat → ClassId} {A : Nat → Prop} {Q : Int64 → Mm → Prop} (E : Ex p m c cX5_digest 5 s args RX5 D cy A) (hr : meth.sig.returnType = (some .long)) (hlk : meth.locks = false) {K42 : Nat → Int64 → Int32 → Mm → Prop} (hK42 : ∀ (h0 : Nat) (x1 : Int64) (x3 : Int32) (M : Mm) (H : Heap) (locs : List Loc) (ls : Array Slot), K42 h0 x1 x3 M → Wd D cy A s M H locs → lh ls 5 [(0, rv (some h0)), (1, jv x1), (3, iv x3)] → W p l e (rmm 2 0 0) s m args below meth c H locs 0 0 (MQ below (va_Ql Q (Po D cy A) A) args s 0 0 A) (F0 m 42 ls [])) : ∀ (n : Nat), ∀ (h0 : Nat) (x1 : Int64) (x3 : Int32) (x4 : Int32) (M : Mm) (H : Heap) (locs : List Loc) (ls : Array Slot), B_X5_digest_70 Q K42 n h0 x1 x3 x4 M → Wd D cy A s M H locs → lh ls 5 [(0, rv (some h0)), (1, jv x1), (3, iv x3), (4, iv x4)] → W p l e (rmm 2 0 0) s m args below meth c H locs 0 0 (MQ below (va_Ql Q (Po D cy A) A) args s 0 0 A) (F0 m 70 ls []) := by
  obtain ⟨hx, hb, hml, hown, hts⟩ := E.1
  intro n
  induction n with
  | zero => intro h0 x1 x3 x4 M H locs ls h; exact False.elim h
  | succ n ih =>
    intro h0 x1 x3 x4 M H locs ls h w hl
    unfold B_X5_digest_70 at h
    refine lv_iload (x := x4) hx hb dX5_digest_70 (lh_at hl 3 rfl) ?_
    refine lv_iconst (v := (4 : Int32)) hx hb dX5_digest_72 (by decide) ?_
    refine lv_icmp_ge (tgt := 99) hx hb dX5_digest_73 (by decide) (fun c1 => ?_) (fun c1 => ?_)
    · have h := h.1 c1
      refine r_iinc (k := 2) (x := x3) (v := (x3 + 1)) (lv' := [(3, iv (x3 + 1)), (0, rv (some h0)), (1, jv x1), (4, iv x4)]) hx hb dX5_digest_99 hl rfl rfl (by decide) rfl (fun ls hl => ?_)
      refine lv_goto (tgt := 42) hx hb dX5_digest_102 (by decide) ?_
      exact hK42 _ _ _ _ _ _ _ h w (lh_sub hl [1, 2, 0] rfl)
    · have h := h.2 c1
      refine r_aload_n (x := (some h0)) hx hb dX5_digest_76 rfl (lh_at hl 0 rfl) ?_
      obtain ⟨ho2, h⟩ := h
      refine r_getR E w rfl ho2 cl_X5 0 rfl fl_X5_11 dX5_digest_77 ?_
      refine lv_iload_n (x := x3) hx hb dX5_digest_80 rfl (lh_at hl 2 rfl) ?_
      obtain ⟨a3, ea3, h⟩ := h
      obtain ⟨ha4, h⟩ := h
      refine r_aald11 E w ea3 ha4 dX5_digest_81 ?_
      obtain ⟨a5, ea5, h⟩ := h
      obtain ⟨ho6, h⟩ := h
      refine r_getR E w ea5 ho6 cl_X4 1 rfl fl_X5_218 dX5_digest_82 ?_
      refine lv_iload (x := x4) hx hb dX5_digest_85 (lh_at hl 3 rfl) ?_
      obtain ⟨a7, ea7, h⟩ := h
      obtain ⟨ha8, h⟩ := h
      refine r_aald10 E w ea7 ha8 dX5_digest_87 ?_
      refine lv_lload_n (x := x1) hx hb dX5_digest_88 rfl (lh_at hl 1 rfl) ?_
      obtain ⟨a9, ea9, h⟩ := h
      obtain ⟨ho10, h⟩ := h
      refine z_callVl E w ea9 ho10 cl_X3 yk_X3_digestOnto ⟨Nat.le_of_ble_eq_true rfl, Nat.le_of_ble_eq_true rfl⟩ ⟨(Nat.zero_le _), (Nat.zero_le _)⟩ rfl ml_X5_222 im_X3_digestOnto sl_X3_digestOnto [jv x1] rfl rfl hl [] rfl (Nat.le_of_ble_eq_true rfl) (K_X3_digestOnto h) dX5_digest_89 (fun r12 M11 H locs h w => ?_)
      refine r_lstore_n (lv' := [(1, jv r12), (0, rv (some h0)), (3, iv x3), (4, iv x4)]) hx hb dX5_digest_92 rfl hl (by decide) rfl (fun ls hl => ?_)
      refine r_iinc (k := 3) (x := x4) (v := (x4 + 1)) (lv' := [(4, iv (x4 + 1)), (1, jv r12), (0, rv (some h0)), (3, iv x3)]) hx hb dX5_digest_93 hl rfl rfl (by decide) rfl (fun ls hl => ?_)
      refine lv_goto (tgt := 70) hx hb dX5_digest_96 (by decide) ?_
      exact ih _ _ _ _ _ _ _ _ h w (lh_sub hl [2, 1, 3, 0] rfl)
def B_X5_digest_42 (Q : Int64 → Mm → Prop)  : Nat → Nat → Int64 → Int32 → Mm → Prop
  | 0, _, _, _, _ => False
  | n + 1, h0, x1, x3, M => (ok M h0 5 ∧ (((gI M h0 7) ≤ x3 → (B_X5_asks_0 (fun r4 M3 => (ok M3 h0 5 ∧ (B_X5_found_0 (fun r7 M6 => (ok M6 h0 5 ∧ (B_X5_reruns_0 (fun r10 M9 => Q (((31 : Int64) * (((31 : Int64) * (((31 : Int64) * (((31 : Int64) * x1) + (Int32.toInt64 (gI M h0 10)))) + (Int32.toInt64 r4))) + (Int32.toInt64 r7))) + (Int32.toInt64 r10)) M9) h0  M6))) h0  M3))) h0  M)) ∧ (¬ (gI M h0 7) ≤ x3 → (∃ a11, (gR M h0 0) = some a11 ∧ (ar M a11 11 x3 ∧ (∃ a13, (gR M a11 (Int32.toNatClampNeg x3)) = some a13 ∧ (ok M a13 4 ∧ (∃ n15, B_X5_digest_70 Q (fun y0 y1 y2 My => B_X5_digest_42 Q n y0 y1 y2 My) n15 h0 (((31 : Int64) * x1) + (Int32.toInt64 (gI M a13 0))) x3 (0 : Int32) M))))))))
set_option maxHeartbeats 4000000 in
set_option maxRecDepth 100000 in
theorem k_X5_digest_42 {p : Program} {l : Launch} {e : Env} {s : State} {m : MethodId} {args : Array Value} {below : List Frame} {meth : Method} {c : Code} {D : va_G} {cy : Nat → ClassId} {A : Nat → Prop} {Q : Int64 → Mm → Prop} (E : Ex p m c cX5_digest 5 s args RX5 D cy A) (hr : meth.sig.returnType = (some .long)) (hlk : meth.locks = false) : ∀ (n : Nat), ∀ (h0 : Nat) (x1 : Int64) (x3 : Int32) (M : Mm) (H : Heap) (locs : List Loc) (ls : Array Slot), B_X5_digest_42 Q  n h0 x1 x3 M → Wd D cy A s M H locs → lh ls 5 [(0, rv (some h0)), (1, jv x1), (3, iv x3)] → W p l e (rmm 2 0 0) s m args below meth c H locs 0 0 (MQ below (va_Ql Q (Po D cy A) A) args s 0 0 A) (F0 m 42 ls []) := by
  obtain ⟨hx, hb, hml, hown, hts⟩ := E.1
  intro n
  induction n with
  | zero => intro h0 x1 x3 M H locs ls h; exact False.elim h
  | succ n ih =>
    intro h0 x1 x3 M H locs ls h w hl
    unfold B_X5_digest_42 at h
    refine lv_iload_n (x := x3) hx hb dX5_digest_42 rfl (lh_at hl 2 rfl) ?_
    refine r_aload_n (x := (some h0)) hx hb dX5_digest_43 rfl (lh_at hl 0 rfl) ?_
    obtain ⟨ho1, h⟩ := h
    refine r_getI E w rfl ho1 cl_X5 7 rfl fl_X5_54 dX5_digest_44 ?_
    refine lv_icmp_ge (tgt := 105) hx hb dX5_digest_47 (by decide) (fun c2 => ?_) (fun c2 => ?_)
    · have h := h.1 c2
      refine lv_ldc2 (v := (31 : Int64)) hx hb hown (hts _ kc_X5_216) dX5_digest_105 ?_
      refine lv_lload_n (x := x1) hx hb dX5_digest_108 rfl (lh_at hl 1 rfl) ?_
      refine lv_lmul hx hb dX5_digest_109 ?_
      refine r_aload_n (x := (some h0)) hx hb dX5_digest_110 rfl (lh_at hl 0 rfl) ?_
      refine r_getI E w rfl ho1 cl_X5 10 rfl fl_X5_174 dX5_digest_111 ?_
      refine lv_i2l hx hb dX5_digest_114 rfl ?_
      refine lv_ladd hx hb dX5_digest_115 ?_
      refine r_lstore_n (lv' := [(1, jv (((31 : Int64) * x1) + (Int32.toInt64 (gI M h0 10)))), (0, rv (some h0)), (3, iv x3)]) hx hb dX5_digest_116 rfl hl (by decide) rfl (fun ls hl => ?_)
      refine lv_ldc2 (v := (31 : Int64)) hx hb hown (hts _ kc_X5_216) dX5_digest_117 ?_
      refine lv_lload_n (x := (((31 : Int64) * x1) + (Int32.toInt64 (gI M h0 10)))) hx hb dX5_digest_120 rfl (lh_at hl 0 rfl) ?_
      refine lv_lmul hx hb dX5_digest_121 ?_
      refine r_aload_n (x := (some h0)) hx hb dX5_digest_122 rfl (lh_at hl 1 rfl) ?_
      refine z_callVi E w rfl ho1 cl_X5 yk_X5_asks ⟨Nat.le_of_ble_eq_true rfl, Nat.le_of_ble_eq_true rfl⟩ ⟨(Nat.zero_le _), (Nat.zero_le _)⟩ rfl ml_X5_226 im_X5_asks sl_X5_asks [] rfl rfl hl [jv ((31 : Int64) * (((31 : Int64) * x1) + (Int32.toInt64 (gI M h0 10))))] rfl (Nat.le_of_ble_eq_true rfl) (K_X5_asks h) dX5_digest_123 (fun r4 M3 H locs h w => ?_)
      refine lv_i2l hx hb dX5_digest_126 rfl ?_
      refine lv_ladd hx hb dX5_digest_127 ?_
      refine r_lstore_n (lv' := [(1, jv (((31 : Int64) * (((31 : Int64) * x1) + (Int32.toInt64 (gI M h0 10)))) + (Int32.toInt64 r4))), (0, rv (some h0)), (3, iv x3)]) hx hb dX5_digest_128 rfl hl (by decide) rfl (fun ls hl => ?_)
      refine lv_ldc2 (v := (31 : Int64)) hx hb hown (hts _ kc_X5_216) dX5_digest_129 ?_
      refine lv_lload_n (x := (((31 : Int64) * (((31 : Int64) * x1) + (Int32.toInt64 (gI M h0 10)))) + (Int32.toInt64 r4))) hx hb dX5_digest_132 rfl (lh_at hl 0 rfl) ?_
      refine lv_lmul hx hb dX5_digest_133 ?_
      refine r_aload_n (x := (some h0)) hx hb dX5_digest_134 rfl (lh_at hl 1 rfl) ?_
      obtain ⟨ho5, h⟩ := h
      refine z_callVi E w rfl ho5 cl_X5 yk_X5_found ⟨Nat.le_of_ble_eq_true rfl, Nat.le_of_ble_eq_true rfl⟩ ⟨(Nat.zero_le _), (Nat.zero_le _)⟩ rfl ml_X5_229 im_X5_found sl_X5_found [] rfl rfl hl [jv ((31 : Int64) * (((31 : Int64) * (((31 : Int64) * x1) + (Int32.toInt64 (gI M h0 10)))) + (Int32.toInt64 r4)))] rfl (Nat.le_of_ble_eq_true rfl) (K_X5_found h) dX5_digest_135 (fun r7 M6 H locs h w => ?_)
      refine lv_i2l hx hb dX5_digest_138 rfl ?_
      refine lv_ladd hx hb dX5_digest_139 ?_
      refine r_lstore_n (lv' := [(1, jv (((31 : Int64) * (((31 : Int64) * (((31 : Int64) * x1) + (Int32.toInt64 (gI M h0 10)))) + (Int32.toInt64 r4))) + (Int32.toInt64 r7))), (0, rv (some h0)), (3, iv x3)]) hx hb dX5_digest_140 rfl hl (by decide) rfl (fun ls hl => ?_)
      refine lv_ldc2 (v := (31 : Int64)) hx hb hown (hts _ kc_X5_216) dX5_digest_141 ?_
      refine lv_lload_n (x := (((31 : Int64) * (((31 : Int64) * (((31 : Int64) * x1) + (Int32.toInt64 (gI M h0 10)))) + (Int32.toInt64 r4))) + (Int32.toInt64 r7))) hx hb dX5_digest_144 rfl (lh_at hl 0 rfl) ?_
      refine lv_lmul hx hb dX5_digest_145 ?_
      refine r_aload_n (x := (some h0)) hx hb dX5_digest_146 rfl (lh_at hl 1 rfl) ?_
      obtain ⟨ho8, h⟩ := h
      refine z_callVi E w rfl ho8 cl_X5 yk_X5_reruns ⟨Nat.le_of_ble_eq_true rfl, Nat.le_of_ble_eq_true rfl⟩ ⟨(Nat.zero_le _), (Nat.zero_le _)⟩ rfl ml_X5_232 im_X5_reruns sl_X5_reruns [] rfl rfl hl [jv ((31 : Int64) * (((31 : Int64) * (((31 : Int64) * (((31 : Int64) * x1) + (Int32.toInt64 (gI M h0 10)))) + (Int32.toInt64 r4))) + (Int32.toInt64 r7)))] rfl (Nat.le_of_ble_eq_true rfl) (K_X5_reruns h) dX5_digest_147 (fun r10 M9 H locs h w => ?_)
      refine lv_i2l hx hb dX5_digest_150 rfl ?_
      refine lv_ladd hx hb dX5_digest_151 ?_
      exact r_lret E w hr hlk h (Nat.le_refl 0) (Nat.le_refl 0) dX5_digest_152
    · have h := h.2 c2
      refine lv_ldc2 (v := (31 : Int64)) hx hb hown (hts _ kc_X5_216) dX5_digest_50 ?_
      refine lv_lload_n (x := x1) hx hb dX5_digest_53 rfl (lh_at hl 1 rfl) ?_
      refine lv_lmul hx hb dX5_digest_54 ?_
      refine r_aload_n (x := (some h0)) hx hb dX5_digest_55 rfl (lh_at hl 0 rfl) ?_
      refine r_getR E w rfl ho1 cl_X5 0 rfl fl_X5_11 dX5_digest_56 ?_
      refine lv_iload_n (x := x3) hx hb dX5_digest_59 rfl (lh_at hl 2 rfl) ?_
      obtain ⟨a11, ea11, h⟩ := h
      obtain ⟨ha12, h⟩ := h
      refine r_aald11 E w ea11 ha12 dX5_digest_60 ?_
      obtain ⟨a13, ea13, h⟩ := h
      obtain ⟨ho14, h⟩ := h
      refine r_getI E w ea13 ho14 cl_X4 0 rfl fl_X5_64 dX5_digest_61 ?_
      refine lv_i2l hx hb dX5_digest_64 rfl ?_
      refine lv_ladd hx hb dX5_digest_65 ?_
      refine r_lstore_n (lv' := [(1, jv (((31 : Int64) * x1) + (Int32.toInt64 (gI M a13 0)))), (0, rv (some h0)), (3, iv x3)]) hx hb dX5_digest_66 rfl hl (by decide) rfl (fun ls hl => ?_)
      refine lv_iconst (v := (0 : Int32)) hx hb dX5_digest_67 (by decide) ?_
      refine r_istore (lv' := [(4, iv (0 : Int32)), (1, jv (((31 : Int64) * x1) + (Int32.toInt64 (gI M a13 0)))), (0, rv (some h0)), (3, iv x3)]) hx hb dX5_digest_68 hl (by decide) rfl (fun ls hl => ?_)
      obtain ⟨n15, h⟩ := h
      exact k_X5_digest_70 E hr hlk ih n15 _ _ _ _ _ _ _ _ h w (lh_sub hl [2, 1, 3, 0] rfl)
def B_X5_digest_0 (Q : Int64 → Mm → Prop)  (h0 : Nat) (M : Mm) : Prop := (ok M h0 5 ∧ (∃ n2, B_X5_digest_42 Q  n2 h0 (((31 : Int64) * (((31 : Int64) * (((31 : Int64) * (17 : Int64)) + (Int32.toInt64 (gI M h0 6)))) + (Int32.toInt64 (gI M h0 8)))) + (Int32.toInt64 (gI M h0 9))) (0 : Int32) M))
set_option maxHeartbeats 4000000 in
set_option maxRecDepth 100000 in
theorem k_X5_digest_0 {p : Program} {l : Launch} {e : Env} {s : State} {m : MethodId} {args : Array Value} {below : List Frame} {meth : Method} {c : Code} {D : va_G} {cy : Nat → ClassId} {A : Nat → Prop} {Q : Int64 → Mm → Prop} (E : Ex p m c cX5_digest 5 s args RX5 D cy A) (hr : meth.sig.returnType = (some .long)) (hlk : meth.locks = false) : ∀ (h0 : Nat) (M : Mm) (H : Heap) (locs : List Loc) (ls : Array Slot), B_X5_digest_0 Q  h0 M → Wd D cy A s M H locs → lh ls 5 [(0, rv (some h0))] → W p l e (rmm 2 0 0) s m args below meth c H locs 0 0 (MQ below (va_Ql Q (Po D cy A) A) args s 0 0 A) (F0 m 0 ls []) := by
  obtain ⟨hx, hb, hml, hown, hts⟩ := E.1
  intro h0 M H locs ls h w hl
  unfold B_X5_digest_0 at h
  refine lv_ldc2 (v := (17 : Int64)) hx hb hown (hts _ kc_X5_214) dX5_digest_0 ?_
  refine r_lstore_n (lv' := [(1, jv (17 : Int64)), (0, rv (some h0))]) hx hb dX5_digest_3 rfl hl (by decide) rfl (fun ls hl => ?_)
  refine lv_ldc2 (v := (31 : Int64)) hx hb hown (hts _ kc_X5_216) dX5_digest_4 ?_
  refine lv_lload_n (x := (17 : Int64)) hx hb dX5_digest_7 rfl (lh_at hl 0 rfl) ?_
  refine lv_lmul hx hb dX5_digest_8 ?_
  refine r_aload_n (x := (some h0)) hx hb dX5_digest_9 rfl (lh_at hl 1 rfl) ?_
  obtain ⟨ho1, h⟩ := h
  refine r_getI E w rfl ho1 cl_X5 6 rfl fl_X5_47 dX5_digest_10 ?_
  refine lv_i2l hx hb dX5_digest_13 rfl ?_
  refine lv_ladd hx hb dX5_digest_14 ?_
  refine r_lstore_n (lv' := [(1, jv (((31 : Int64) * (17 : Int64)) + (Int32.toInt64 (gI M h0 6)))), (0, rv (some h0))]) hx hb dX5_digest_15 rfl hl (by decide) rfl (fun ls hl => ?_)
  refine lv_ldc2 (v := (31 : Int64)) hx hb hown (hts _ kc_X5_216) dX5_digest_16 ?_
  refine lv_lload_n (x := (((31 : Int64) * (17 : Int64)) + (Int32.toInt64 (gI M h0 6)))) hx hb dX5_digest_19 rfl (lh_at hl 0 rfl) ?_
  refine lv_lmul hx hb dX5_digest_20 ?_
  refine r_aload_n (x := (some h0)) hx hb dX5_digest_21 rfl (lh_at hl 1 rfl) ?_
  refine r_getI E w rfl ho1 cl_X5 8 rfl fl_X5_36 dX5_digest_22 ?_
  refine lv_i2l hx hb dX5_digest_25 rfl ?_
  refine lv_ladd hx hb dX5_digest_26 ?_
  refine r_lstore_n (lv' := [(1, jv (((31 : Int64) * (((31 : Int64) * (17 : Int64)) + (Int32.toInt64 (gI M h0 6)))) + (Int32.toInt64 (gI M h0 8)))), (0, rv (some h0))]) hx hb dX5_digest_27 rfl hl (by decide) rfl (fun ls hl => ?_)
  refine lv_ldc2 (v := (31 : Int64)) hx hb hown (hts _ kc_X5_216) dX5_digest_28 ?_
  refine lv_lload_n (x := (((31 : Int64) * (((31 : Int64) * (17 : Int64)) + (Int32.toInt64 (gI M h0 6)))) + (Int32.toInt64 (gI M h0 8)))) hx hb dX5_digest_31 rfl (lh_at hl 0 rfl) ?_
  refine lv_lmul hx hb dX5_digest_32 ?_
  refine r_aload_n (x := (some h0)) hx hb dX5_digest_33 rfl (lh_at hl 1 rfl) ?_
  refine r_getI E w rfl ho1 cl_X5 9 rfl fl_X5_40 dX5_digest_34 ?_
  refine lv_i2l hx hb dX5_digest_37 rfl ?_
  refine lv_ladd hx hb dX5_digest_38 ?_
  refine r_lstore_n (lv' := [(1, jv (((31 : Int64) * (((31 : Int64) * (((31 : Int64) * (17 : Int64)) + (Int32.toInt64 (gI M h0 6)))) + (Int32.toInt64 (gI M h0 8)))) + (Int32.toInt64 (gI M h0 9)))), (0, rv (some h0))]) hx hb dX5_digest_39 rfl hl (by decide) rfl (fun ls hl => ?_)
  refine lv_iconst (v := (0 : Int32)) hx hb dX5_digest_40 (by decide) ?_
  refine r_istore_n (lv' := [(3, iv (0 : Int32)), (1, jv (((31 : Int64) * (((31 : Int64) * (((31 : Int64) * (17 : Int64)) + (Int32.toInt64 (gI M h0 6)))) + (Int32.toInt64 (gI M h0 8)))) + (Int32.toInt64 (gI M h0 9)))), (0, rv (some h0))]) hx hb dX5_digest_41 rfl hl (by decide) rfl (fun ls hl => ?_)
  obtain ⟨n2, h⟩ := h
  exact k_X5_digest_42 E hr hlk  n2 _ _ _ _ _ _ _ h w (lh_sub hl [2, 1, 0] rfl)
theorem K_X5_digest {l : Launch} {Q : Int64 → Mm → Prop} {h0 : Nat} {M : Mm} (h : B_X5_digest_0 Q h0 M) : KL l yX5_digest cdX5_digest (rmm 2 0 0) [rv (some h0)] M Q :=
  KL_of (by decide) rfl (Nat.le_of_ble_eq_true rfl) (fun p e s m args below meth c D cy A ls E hr hlk hn w hl => k_X5_digest_0 E hr hlk _ _ _ _ _ h w hl)
