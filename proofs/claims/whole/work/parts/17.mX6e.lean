def B_X6_found_0 (Q : Int32 → Mm → Prop)  (h0 : Nat) (M : Mm) : Prop := (ok M h0 6 ∧ ((¬ (gI M h0 34) = 0 → (B_X6_hasEnded_0 (fun r4 M3 => ((r4 = 0 → Q (-9 : Int32) M3) ∧ (¬ r4 = 0 → (ok M3 h0 6 ∧ Q (gI M3 h0 36) M3)))) h0  M)) ∧ ((gI M h0 34) = 0 → Q (-4 : Int32) M)))
set_option maxHeartbeats 4000000 in
set_option maxRecDepth 100000 in
theorem k_X6_found_0 {p : Program} {l : Launch} {e : Env} {s : State} {m : MethodId} {args : Array Value} {below : List Frame} {meth : Method} {c : Code} {D : va_G} {cy : Nat → ClassId} {A : Nat → Prop} {Q : Int32 → Mm → Prop} (E : Ex p m c cX6_found 1 s args RX6 D cy A) (hr : meth.sig.returnType = (some .int)) (hlk : meth.locks = false) : ∀ (h0 : Nat) (M : Mm) (H : Heap) (locs : List Loc) (ls : Array Slot), B_X6_found_0 Q  h0 M → Wd D cy A s M H locs → lh ls 1 [(0, rv (some h0))] → W p l e (rmm 1 0 0) s m args below meth c H locs 0 0 (MQ below (va_Qi Q (Po D cy A) A) args s 0 0 A) (F0 m 0 ls []) := by
  obtain ⟨hx, hb, hml, hown, hts⟩ := E.1
  intro h0 M H locs ls h w hl
  unfold B_X6_found_0 at h
  refine r_aload_n (x := (some h0)) hx hb dX6_found_0 rfl (lh_at hl 0 rfl) ?_
  obtain ⟨ho1, h⟩ := h
  refine r_getI E w rfl ho1 cl_X6 34 rfl fl_X6_194 dX6_found_1 ?_
  refine lv_if_ne (tgt := 12) hx hb dX6_found_4 (by decide) (fun c2 => ?_) (fun c2 => ?_)
  · have h := h.1 c2
    refine r_aload_n (x := (some h0)) hx hb dX6_found_12 rfl (lh_at hl 0 rfl) ?_
    refine z_callVi E w rfl ho1 cl_X6 yk_X6_hasEnded ⟨Nat.le_of_ble_eq_true rfl, Nat.le_of_ble_eq_true rfl⟩ ⟨(Nat.zero_le _), (Nat.zero_le _)⟩ rfl ml_X6_210 im_X6_hasEnded sl_X6_hasEnded [] rfl rfl hl [] rfl (Nat.le_of_ble_eq_true rfl) (K_X6_hasEnded h) dX6_found_13 (fun r4 M3 H locs h w => ?_)
    refine lv_if_eq (tgt := 26) hx hb dX6_found_16 (by decide) (fun c5 => ?_) (fun c5 => ?_)
    · have h := h.1 c5
      refine lv_bipush (v := (-9 : Int32)) hx hb dX6_found_26 (by decide) ?_
      exact r_iret E w hr hlk h (Nat.le_refl 0) (Nat.le_refl 0) dX6_found_28
    · have h := h.2 c5
      refine r_aload_n (x := (some h0)) hx hb dX6_found_19 rfl (lh_at hl 0 rfl) ?_
      obtain ⟨ho6, h⟩ := h
      refine r_getI E w rfl ho6 cl_X6 36 rfl fl_X6_191 dX6_found_20 ?_
      refine lv_goto (tgt := 28) hx hb dX6_found_23 (by decide) ?_
      exact r_iret E w hr hlk h (Nat.le_refl 0) (Nat.le_refl 0) dX6_found_28
  · have h := h.2 c2
    refine lv_bipush (v := (-4 : Int32)) hx hb dX6_found_7 (by decide) ?_
    refine lv_goto (tgt := 28) hx hb dX6_found_9 (by decide) ?_
    exact r_iret E w hr hlk h (Nat.le_refl 0) (Nat.le_refl 0) dX6_found_28
theorem K_X6_found {l : Launch} {Q : Int32 → Mm → Prop} {h0 : Nat} {M : Mm} (h : B_X6_found_0 Q h0 M) : KI l yX6_found cdX6_found (rmm 1 0 0) [rv (some h0)] M Q :=
  KI_of (by decide) rfl (Nat.le_of_ble_eq_true rfl) (fun p e s m args below meth c D cy A ls E hr hlk hn w hl => k_X6_found_0 E hr hlk _ _ _ _ _ h w hl)
def B_X6_reruns_0 (Q : Int32 → Mm → Prop)  (h0 : Nat) (M : Mm) : Prop := (ok M h0 6 ∧ Q (gI M h0 40) M)
set_option maxHeartbeats 4000000 in
set_option maxRecDepth 100000 in
theorem k_X6_reruns_0 {p : Program} {l : Launch} {e : Env} {s : State} {m : MethodId} {args : Array Value} {below : List Frame} {meth : Method} {c : Code} {D : va_G} {cy : Nat → ClassId} {A : Nat → Prop} {Q : Int32 → Mm → Prop} (E : Ex p m c cX6_reruns 1 s args RX6 D cy A) (hr : meth.sig.returnType = (some .int)) (hlk : meth.locks = false) : ∀ (h0 : Nat) (M : Mm) (H : Heap) (locs : List Loc) (ls : Array Slot), B_X6_reruns_0 Q  h0 M → Wd D cy A s M H locs → lh ls 1 [(0, rv (some h0))] → W p l e (rmm 0 0 0) s m args below meth c H locs 0 0 (MQ below (va_Qi Q (Po D cy A) A) args s 0 0 A) (F0 m 0 ls []) := by
  obtain ⟨hx, hb, hml, hown, hts⟩ := E.1
  intro h0 M H locs ls h w hl
  unfold B_X6_reruns_0 at h
  refine r_aload_n (x := (some h0)) hx hb dX6_reruns_0 rfl (lh_at hl 0 rfl) ?_
  obtain ⟨ho1, h⟩ := h
  refine r_getI E w rfl ho1 cl_X6 40 rfl fl_X6_207 dX6_reruns_1 ?_
  exact r_iret E w hr hlk h (Nat.le_refl 0) (Nat.le_refl 0) dX6_reruns_4
theorem K_X6_reruns {l : Launch} {Q : Int32 → Mm → Prop} {h0 : Nat} {M : Mm} (h : B_X6_reruns_0 Q h0 M) : KI l yX6_reruns cdX6_reruns (rmm 0 0 0) [rv (some h0)] M Q :=
  KI_of (by decide) rfl (Nat.le_of_ble_eq_true rfl) (fun p e s m args below meth c D cy A ls E hr hlk hn w hl => k_X6_reruns_0 E hr hlk _ _ _ _ _ h w hl)
def B_X6_count_4 (Q : Int32 → Mm → Prop)  : Nat → Nat → Int32 → Int32 → Int32 → Mm → Prop
  | 0, _, _, _, _, _ => False
  | n + 1, h0, x1, x2, x3, M => (((32 : Int32) ≤ x3 → ((¬ x1 = 0 → ((¬ x1 = (1 : Int32) → ((¬ x1 = (2 : Int32) → ((¬ x1 = (3 : Int32) → Q (-1 : Int32) M) ∧ (x1 = (3 : Int32) → (ok M h0 6 ∧ Q (gI M h0 30) M)))) ∧ (x1 = (2 : Int32) → Q x2 M))) ∧ (x1 = (1 : Int32) → (ok M h0 6 ∧ Q (gI M h0 4) M)))) ∧ (x1 = 0 → (ok M h0 6 ∧ Q (gI M h0 3) M)))) ∧ (¬ (32 : Int32) ≤ x3 → (ok M h0 6 ∧ (∃ a10, (gR M h0 6) = some a10 ∧ (ar M a10 9 x3 ∧ (((gI M a10 (Int32.toNatClampNeg x3)) = 0 → B_X6_count_4 Q  n h0 x1 (x2 + (0 : Int32)) (x3 + 1) M) ∧ (¬ (gI M a10 (Int32.toNatClampNeg x3)) = 0 → B_X6_count_4 Q  n h0 x1 (x2 + (1 : Int32)) (x3 + 1) M)))))))
set_option maxHeartbeats 4000000 in
set_option maxRecDepth 100000 in
theorem k_X6_count_4 {p : Program} {l : Launch} {e : Env} {s : State} {m : MethodId} {args : Array Value} {below : List Frame} {meth : Method} {c : Code} {D : va_G} {cy : Nat → ClassId} {A : Nat → Prop} {Q : Int32 → Mm → Prop} (E : Ex p m c cX6_count 4 s args RX6 D cy A) (hr : meth.sig.returnType = (some .int)) (hlk : meth.locks = false) : ∀ (n : Nat), ∀ (h0 : Nat) (x1 : Int32) (x2 : Int32) (x3 : Int32) (M : Mm) (H : Heap) (locs : List Loc) (ls : Array Slot), B_X6_count_4 Q  n h0 x1 x2 x3 M → Wd D cy A s M H locs → lh ls 4 [(0, rv (some h0)), (1, iv x1), (2, iv x2), (3, iv x3)] → W p l e (rmm 0 0 0) s m args below meth c H locs 0 0 (MQ below (va_Qi Q (Po D cy A) A) args s 0 0 A) (F0 m 4 ls []) := by
  obtain ⟨hx, hb, hml, hown, hts⟩ := E.1
  intro n
  induction n with
  | zero => intro h0 x1 x2 x3 M H locs ls h; exact False.elim h
  | succ n ih =>
    intro h0 x1 x2 x3 M H locs ls h w hl
    unfold B_X6_count_4 at h
    refine lv_iload_n (x := x3) hx hb dX6_count_4 rfl (lh_at hl 3 rfl) ?_
    refine lv_bipush (v := (32 : Int32)) hx hb dX6_count_5 (by decide) ?_
    refine lv_icmp_ge (tgt := 33) hx hb dX6_count_7 (by decide) (fun c1 => ?_) (fun c1 => ?_)
    · have h := h.1 c1
      refine lv_iload_n (x := x1) hx hb dX6_count_33 rfl (lh_at hl 1 rfl) ?_
      refine lv_if_ne (tgt := 44) hx hb dX6_count_34 (by decide) (fun c2 => ?_) (fun c2 => ?_)
      · have h := h.1 c2
        refine lv_iload_n (x := x1) hx hb dX6_count_44 rfl (lh_at hl 1 rfl) ?_
        refine lv_iconst (v := (1 : Int32)) hx hb dX6_count_45 (by decide) ?_
        refine lv_icmp_ne (tgt := 56) hx hb dX6_count_46 (by decide) (fun c3 => ?_) (fun c3 => ?_)
        · have h := h.1 c3
          refine lv_iload_n (x := x1) hx hb dX6_count_56 rfl (lh_at hl 1 rfl) ?_
          refine lv_iconst (v := (2 : Int32)) hx hb dX6_count_57 (by decide) ?_
          refine lv_icmp_ne (tgt := 65) hx hb dX6_count_58 (by decide) (fun c4 => ?_) (fun c4 => ?_)
          · have h := h.1 c4
            refine lv_iload_n (x := x1) hx hb dX6_count_65 rfl (lh_at hl 1 rfl) ?_
            refine lv_iconst (v := (3 : Int32)) hx hb dX6_count_66 (by decide) ?_
            refine lv_icmp_ne (tgt := 77) hx hb dX6_count_67 (by decide) (fun c5 => ?_) (fun c5 => ?_)
            · have h := h.1 c5
              refine lv_iconst (v := (-1 : Int32)) hx hb dX6_count_77 (by decide) ?_
              exact r_iret E w hr hlk h (Nat.le_refl 0) (Nat.le_refl 0) dX6_count_78
            · have h := h.2 c5
              refine r_aload_n (x := (some h0)) hx hb dX6_count_70 rfl (lh_at hl 0 rfl) ?_
              obtain ⟨ho6, h⟩ := h
              refine r_getI E w rfl ho6 cl_X6 30 rfl fl_X6_178 dX6_count_71 ?_
              refine lv_goto (tgt := 78) hx hb dX6_count_74 (by decide) ?_
              exact r_iret E w hr hlk h (Nat.le_refl 0) (Nat.le_refl 0) dX6_count_78
          · have h := h.2 c4
            refine lv_iload_n (x := x2) hx hb dX6_count_61 rfl (lh_at hl 2 rfl) ?_
            refine lv_goto (tgt := 78) hx hb dX6_count_62 (by decide) ?_
            exact r_iret E w hr hlk h (Nat.le_refl 0) (Nat.le_refl 0) dX6_count_78
        · have h := h.2 c3
          refine r_aload_n (x := (some h0)) hx hb dX6_count_49 rfl (lh_at hl 0 rfl) ?_
          obtain ⟨ho7, h⟩ := h
          refine r_getI E w rfl ho7 cl_X6 4 rfl fl_X6_94 dX6_count_50 ?_
          refine lv_goto (tgt := 78) hx hb dX6_count_53 (by decide) ?_
          exact r_iret E w hr hlk h (Nat.le_refl 0) (Nat.le_refl 0) dX6_count_78
      · have h := h.2 c2
        refine r_aload_n (x := (some h0)) hx hb dX6_count_37 rfl (lh_at hl 0 rfl) ?_
        obtain ⟨ho8, h⟩ := h
        refine r_getI E w rfl ho8 cl_X6 3 rfl fl_X6_91 dX6_count_38 ?_
        refine lv_goto (tgt := 78) hx hb dX6_count_41 (by decide) ?_
        exact r_iret E w hr hlk h (Nat.le_refl 0) (Nat.le_refl 0) dX6_count_78
    · have h := h.2 c1
      refine lv_iload_n (x := x2) hx hb dX6_count_10 rfl (lh_at hl 2 rfl) ?_
      refine r_aload_n (x := (some h0)) hx hb dX6_count_11 rfl (lh_at hl 0 rfl) ?_
      obtain ⟨ho9, h⟩ := h
      refine r_getR E w rfl ho9 cl_X6 6 rfl fl_X6_16 dX6_count_12 ?_
      refine lv_iload_n (x := x3) hx hb dX6_count_15 rfl (lh_at hl 3 rfl) ?_
      obtain ⟨a10, ea10, h⟩ := h
      obtain ⟨ha11, h⟩ := h
      refine r_zald E w ea10 ha11 dX6_count_16 ?_
      refine lv_if_eq (tgt := 24) hx hb dX6_count_17 (by decide) (fun c12 => ?_) (fun c12 => ?_)
      · have h := h.1 c12
        refine lv_iconst (v := (0 : Int32)) hx hb dX6_count_24 (by decide) ?_
        refine lv_iadd hx hb dX6_count_25 ?_
        refine r_istore_n (lv' := [(2, iv (x2 + (0 : Int32))), (0, rv (some h0)), (1, iv x1), (3, iv x3)]) hx hb dX6_count_26 rfl hl (by decide) rfl (fun ls hl => ?_)
        refine r_iinc (k := 3) (x := x3) (v := (x3 + 1)) (lv' := [(3, iv (x3 + 1)), (2, iv (x2 + (0 : Int32))), (0, rv (some h0)), (1, iv x1)]) hx hb dX6_count_27 hl rfl rfl (by decide) rfl (fun ls hl => ?_)
        refine lv_goto (tgt := 4) hx hb dX6_count_30 (by decide) ?_
        exact ih _ _ _ _ _ _ _ _ h w (lh_sub hl [2, 3, 1, 0] rfl)
      · have h := h.2 c12
        refine lv_iconst (v := (1 : Int32)) hx hb dX6_count_20 (by decide) ?_
        refine lv_goto (tgt := 25) hx hb dX6_count_21 (by decide) ?_
        refine lv_iadd hx hb dX6_count_25 ?_
        refine r_istore_n (lv' := [(2, iv (x2 + (1 : Int32))), (0, rv (some h0)), (1, iv x1), (3, iv x3)]) hx hb dX6_count_26 rfl hl (by decide) rfl (fun ls hl => ?_)
        refine r_iinc (k := 3) (x := x3) (v := (x3 + 1)) (lv' := [(3, iv (x3 + 1)), (2, iv (x2 + (1 : Int32))), (0, rv (some h0)), (1, iv x1)]) hx hb dX6_count_27 hl rfl rfl (by decide) rfl (fun ls hl => ?_)
        refine lv_goto (tgt := 4) hx hb dX6_count_30 (by decide) ?_
        exact ih _ _ _ _ _ _ _ _ h w (lh_sub hl [2, 3, 1, 0] rfl)
def B_X6_count_0 (Q : Int32 → Mm → Prop)  (h0 : Nat) (x1 : Int32) (M : Mm) : Prop := (∃ n1, B_X6_count_4 Q  n1 h0 x1 (0 : Int32) (0 : Int32) M)
set_option maxHeartbeats 4000000 in
set_option maxRecDepth 100000 in
theorem k_X6_count_0 {p : Program} {l : Launch} {e : Env} {s : State} {m : MethodId} {args : Array Value} {below : List Frame} {meth : Method} {c : Code} {D : va_G} {cy : Nat → ClassId} {A : Nat → Prop} {Q : Int32 → Mm → Prop} (E : Ex p m c cX6_count 4 s args RX6 D cy A) (hr : meth.sig.returnType = (some .int)) (hlk : meth.locks = false) : ∀ (h0 : Nat) (x1 : Int32) (M : Mm) (H : Heap) (locs : List Loc) (ls : Array Slot), B_X6_count_0 Q  h0 x1 M → Wd D cy A s M H locs → lh ls 4 [(0, rv (some h0)), (1, iv x1)] → W p l e (rmm 0 0 0) s m args below meth c H locs 0 0 (MQ below (va_Qi Q (Po D cy A) A) args s 0 0 A) (F0 m 0 ls []) := by
  obtain ⟨hx, hb, hml, hown, hts⟩ := E.1
  intro h0 x1 M H locs ls h w hl
  unfold B_X6_count_0 at h
  refine lv_iconst (v := (0 : Int32)) hx hb dX6_count_0 (by decide) ?_
  refine r_istore_n (lv' := [(2, iv (0 : Int32)), (0, rv (some h0)), (1, iv x1)]) hx hb dX6_count_1 rfl hl (by decide) rfl (fun ls hl => ?_)
  refine lv_iconst (v := (0 : Int32)) hx hb dX6_count_2 (by decide) ?_
  refine r_istore_n (lv' := [(3, iv (0 : Int32)), (2, iv (0 : Int32)), (0, rv (some h0)), (1, iv x1)]) hx hb dX6_count_3 rfl hl (by decide) rfl (fun ls hl => ?_)
  obtain ⟨n1, h⟩ := h
  exact k_X6_count_4 E hr hlk  n1 _ _ _ _ _ _ _ _ h w (lh_sub hl [2, 3, 1, 0] rfl)
theorem K_X6_count {l : Launch} {Q : Int32 → Mm → Prop} {h0 : Nat} {x1 : Int32} {M : Mm} (h : B_X6_count_0 Q h0 x1 M) : KI l yX6_count cdX6_count (rmm 0 0 0) [rv (some h0), iv x1] M Q :=
  KI_of (by decide) rfl (Nat.le_of_ble_eq_true rfl) (fun p e s m args below meth c D cy A ls E hr hlk hn w hl => k_X6_count_0 E hr hlk _ _ _ _ _ _ h w hl)
def B_X6_digest_92 (Q : Int64 → Mm → Prop) (K32 : Nat → Int64 → Int32 → Mm → Prop) (K57 : Nat → Int64 → Int32 → Int32 → Mm → Prop) : Nat → Nat → Int64 → Int32 → Int32 → Int32 → Int32 → Mm → Prop
  | 0, _, _, _, _, _, _, _ => False
  | n + 1, h0, x1, x3, x4, x5, x6, M => (((40 : Int32) ≤ x6 → K57 h0 x1 x3 (x4 + 1) M) ∧ (¬ (40 : Int32) ≤ x6 → (ok M h0 6 ∧ (∃ a3, (gR M h0 6) = some a3 ∧ (ar M a3 9 x5 ∧ (((gI M a3 (Int32.toNatClampNeg x5)) = 0 → K57 h0 x1 x3 (x4 + 1) M) ∧ (¬ (gI M a3 (Int32.toNatClampNeg x5)) = 0 → (∃ a6, (gR M h0 7) = some a6 ∧ (ar M a6 7 (((40 : Int32) * x5) + x6) ∧ B_X6_digest_92 Q K32 K57 n h0 (((31 : Int64) * x1) + (Int32.toInt64 (gI M a6 (Int32.toNatClampNeg (((40 : Int32) * x5) + x6))))) x3 x4 x5 (x6 + 1) M)))))))))
set_option maxHeartbeats 4000000 in
set_option maxRecDepth 100000 in
theorem k_X6_digest_92 {p : Program} {l : Launch} {e : Env} {s : State} {m : MethodId} {args : Array Value} {below : List Frame} {meth : Method} {c : Code} {D : va_G} {cy : Nat → ClassId} {A : Nat → Prop} {Q : Int64 → Mm → Prop} (E : Ex p m c cX6_digest 7 s args RX6 D cy A) (hr : meth.sig.returnType = (some .long)) (hlk : meth.locks = false) {K32 : Nat → Int64 → Int32 → Mm → Prop} (hK32 : ∀ (h0 : Nat) (x1 : Int64) (x3 : Int32) (M : Mm) (H : Heap) (locs : List Loc) (ls : Array Slot), K32 h0 x1 x3 M → Wd D cy A s M H locs → lh ls 7 [(0, rv (some h0)), (1, jv x1), (3, iv x3)] → W p l e (rmm 2 0 0) s m args below meth c H locs 0 0 (MQ below (va_Ql Q (Po D cy A) A) args s 0 0 A) (F0 m 32 ls [])) {K57 : Nat → Int64 → Int32 → Int32 → Mm → Prop} (hK57 : ∀ (h0 : Nat) (x1 : Int64) (x3 : Int32) (x4 : Int32) (M : Mm) (H : Heap) (locs : List Loc) (ls : Array Slot), K57 h0 x1 x3 x4 M → Wd D cy A s M H locs → lh ls 7 [(0, rv (some h0)), (1, jv x1), (3, iv x3), (4, iv x4)] → W p l e (rmm 2 0 0) s m args below meth c H locs 0 0 (MQ below (va_Ql Q (Po D cy A) A) args s 0 0 A) (F0 m 57 ls [])) : ∀ (n : Nat), ∀ (h0 : Nat) (x1 : Int64) (x3 : Int32) (x4 : Int32) (x5 : Int32) (x6 : Int32) (M : Mm) (H : Heap) (locs : List Loc) (ls : Array Slot), B_X6_digest_92 Q K32 K57 n h0 x1 x3 x4 x5 x6 M → Wd D cy A s M H locs → lh ls 7 [(0, rv (some h0)), (1, jv x1), (3, iv x3), (4, iv x4), (5, iv x5), (6, iv x6)] → W p l e (rmm 2 0 0) s m args below meth c H locs 0 0 (MQ below (va_Ql Q (Po D cy A) A) args s 0 0 A) (F0 m 92 ls []) := by
  obtain ⟨hx, hb, hml, hown, hts⟩ := E.1
  intro n
  induction n with
  | zero => intro h0 x1 x3 x4 x5 x6 M H locs ls h; exact False.elim h
  | succ n ih =>
    intro h0 x1 x3 x4 x5 x6 M H locs ls h w hl
    unfold B_X6_digest_92 at h
    refine lv_iload (x := x6) hx hb dX6_digest_92 (lh_at hl 5 rfl) ?_
    refine lv_bipush (v := (40 : Int32)) hx hb dX6_digest_94 (by decide) ?_
    refine lv_icmp_ge (tgt := 136) hx hb dX6_digest_96 (by decide) (fun c1 => ?_) (fun c1 => ?_)
    · have h := h.1 c1
      refine r_iinc (k := 3) (x := x4) (v := (x4 + 1)) (lv' := [(4, iv (x4 + 1)), (0, rv (some h0)), (1, jv x1), (3, iv x3), (5, iv x5), (6, iv x6)]) hx hb dX6_digest_136 hl rfl rfl (by decide) rfl (fun ls hl => ?_)
      refine lv_goto (tgt := 57) hx hb dX6_digest_139 (by decide) ?_
      exact hK57 _ _ _ _ _ _ _ _ h w (lh_sub hl [1, 2, 3, 0] rfl)
    · have h := h.2 c1
      refine r_aload_n (x := (some h0)) hx hb dX6_digest_99 rfl (lh_at hl 0 rfl) ?_
      obtain ⟨ho2, h⟩ := h
      refine r_getR E w rfl ho2 cl_X6 6 rfl fl_X6_16 dX6_digest_100 ?_
      refine lv_iload (x := x5) hx hb dX6_digest_103 (lh_at hl 4 rfl) ?_
      obtain ⟨a3, ea3, h⟩ := h
      obtain ⟨ha4, h⟩ := h
      refine r_zald E w ea3 ha4 dX6_digest_105 ?_
      refine lv_if_eq (tgt := 136) hx hb dX6_digest_106 (by decide) (fun c5 => ?_) (fun c5 => ?_)
      · have h := h.1 c5
        refine r_iinc (k := 3) (x := x4) (v := (x4 + 1)) (lv' := [(4, iv (x4 + 1)), (0, rv (some h0)), (1, jv x1), (3, iv x3), (5, iv x5), (6, iv x6)]) hx hb dX6_digest_136 hl rfl rfl (by decide) rfl (fun ls hl => ?_)
        refine lv_goto (tgt := 57) hx hb dX6_digest_139 (by decide) ?_
        exact hK57 _ _ _ _ _ _ _ _ h w (lh_sub hl [1, 2, 3, 0] rfl)
      · have h := h.2 c5
        refine lv_ldc2 (v := (31 : Int64)) hx hb hown (hts _ kc_X6_218) dX6_digest_109 ?_
        refine lv_lload_n (x := x1) hx hb dX6_digest_112 rfl (lh_at hl 1 rfl) ?_
        refine lv_lmul hx hb dX6_digest_113 ?_
        refine r_aload_n (x := (some h0)) hx hb dX6_digest_114 rfl (lh_at hl 0 rfl) ?_
        refine r_getR E w rfl ho2 cl_X6 7 rfl fl_X6_20 dX6_digest_115 ?_
        refine lv_bipush (v := (40 : Int32)) hx hb dX6_digest_118 (by decide) ?_
        refine lv_iload (x := x5) hx hb dX6_digest_120 (lh_at hl 4 rfl) ?_
        refine lv_imul hx hb dX6_digest_122 ?_
        refine lv_iload (x := x6) hx hb dX6_digest_123 (lh_at hl 5 rfl) ?_
        refine lv_iadd hx hb dX6_digest_125 ?_
        obtain ⟨a6, ea6, h⟩ := h
        obtain ⟨ha7, h⟩ := h
        refine r_iald E w ea6 ha7 dX6_digest_126 ?_
        refine lv_i2l hx hb dX6_digest_127 rfl ?_
        refine lv_ladd hx hb dX6_digest_128 ?_
        refine r_lstore_n (lv' := [(1, jv (((31 : Int64) * x1) + (Int32.toInt64 (gI M a6 (Int32.toNatClampNeg (((40 : Int32) * x5) + x6)))))), (0, rv (some h0)), (3, iv x3), (4, iv x4), (5, iv x5), (6, iv x6)]) hx hb dX6_digest_129 rfl hl (by decide) rfl (fun ls hl => ?_)
        refine r_iinc (k := 5) (x := x6) (v := (x6 + 1)) (lv' := [(6, iv (x6 + 1)), (1, jv (((31 : Int64) * x1) + (Int32.toInt64 (gI M a6 (Int32.toNatClampNeg (((40 : Int32) * x5) + x6)))))), (0, rv (some h0)), (3, iv x3), (4, iv x4), (5, iv x5)]) hx hb dX6_digest_130 hl rfl rfl (by decide) rfl (fun ls hl => ?_)
        refine lv_goto (tgt := 92) hx hb dX6_digest_133 (by decide) ?_
        exact ih _ _ _ _ _ _ _ _ _ _ h w (lh_sub hl [2, 1, 3, 4, 5, 0] rfl)
def B_X6_digest_57 (Q : Int64 → Mm → Prop) (K32 : Nat → Int64 → Int32 → Mm → Prop) : Nat → Nat → Int64 → Int32 → Int32 → Mm → Prop
  | 0, _, _, _, _, _ => False
  | n + 1, h0, x1, x3, x4, M => (((4 : Int32) ≤ x4 → K32 h0 x1 (x3 + 1) M) ∧ (¬ (4 : Int32) ≤ x4 → (ok M h0 6 ∧ (∃ a3, (gR M h0 6) = some a3 ∧ (ar M a3 9 (((4 : Int32) * x3) + x4) ∧ ((¬ (gI M a3 (Int32.toNatClampNeg (((4 : Int32) * x3) + x4))) = 0 → (∃ n6, B_X6_digest_92 Q K32 (fun y0 y1 y2 y3 My => B_X6_digest_57 Q K32 n y0 y1 y2 y3 My) n6 h0 x1 x3 x4 (((4 : Int32) * x3) + x4) (0 : Int32) M)) ∧ ((gI M a3 (Int32.toNatClampNeg (((4 : Int32) * x3) + x4))) = 0 → (∃ n7, B_X6_digest_92 Q K32 (fun y0 y1 y2 y3 My => B_X6_digest_57 Q K32 n y0 y1 y2 y3 My) n7 h0 (((31 : Int64) * x1) - (1 : Int64)) x3 x4 (((4 : Int32) * x3) + x4) (0 : Int32) M))))))))
set_option maxHeartbeats 4000000 in
set_option maxRecDepth 100000 in
theorem k_X6_digest_57 {p : Program} {l : Launch} {e : Env} {s : State} {m : MethodId} {args : Array Value} {below : List Frame} {meth : Method} {c : Code} {D : va_G} {cy : Nat → ClassId} {A : Nat → Prop} {Q : Int64 → Mm → Prop} (E : Ex p m c cX6_digest 7 s args RX6 D cy A) (hr : meth.sig.returnType = (some .long)) (hlk : meth.locks = false) {K32 : Nat → Int64 → Int32 → Mm → Prop} (hK32 : ∀ (h0 : Nat) (x1 : Int64) (x3 : Int32) (M : Mm) (H : Heap) (locs : List Loc) (ls : Array Slot), K32 h0 x1 x3 M → Wd D cy A s M H locs → lh ls 7 [(0, rv (some h0)), (1, jv x1), (3, iv x3)] → W p l e (rmm 2 0 0) s m args below meth c H locs 0 0 (MQ below (va_Ql Q (Po D cy A) A) args s 0 0 A) (F0 m 32 ls [])) : ∀ (n : Nat), ∀ (h0 : Nat) (x1 : Int64) (x3 : Int32) (x4 : Int32) (M : Mm) (H : Heap) (locs : List Loc) (ls : Array Slot), B_X6_digest_57 Q K32 n h0 x1 x3 x4 M → Wd D cy A s M H locs → lh ls 7 [(0, rv (some h0)), (1, jv x1), (3, iv x3), (4, iv x4)] → W p l e (rmm 2 0 0) s m args below meth c H locs 0 0 (MQ below (va_Ql Q (Po D cy A) A) args s 0 0 A) (F0 m 57 ls []) := by
  obtain ⟨hx, hb, hml, hown, hts⟩ := E.1
  intro n
  induction n with
  | zero => intro h0 x1 x3 x4 M H locs ls h; exact False.elim h
  | succ n ih =>
    intro h0 x1 x3 x4 M H locs ls h w hl
    unfold B_X6_digest_57 at h
    refine lv_iload (x := x4) hx hb dX6_digest_57 (lh_at hl 3 rfl) ?_
    refine lv_iconst (v := (4 : Int32)) hx hb dX6_digest_59 (by decide) ?_
    refine lv_icmp_ge (tgt := 142) hx hb dX6_digest_60 (by decide) (fun c1 => ?_) (fun c1 => ?_)
    · have h := h.1 c1
      refine r_iinc (k := 2) (x := x3) (v := (x3 + 1)) (lv' := [(3, iv (x3 + 1)), (0, rv (some h0)), (1, jv x1), (4, iv x4)]) hx hb dX6_digest_142 hl rfl rfl (by decide) rfl (fun ls hl => ?_)
      refine lv_goto (tgt := 32) hx hb dX6_digest_145 (by decide) ?_
      exact hK32 _ _ _ _ _ _ _ h w (lh_sub hl [1, 2, 0] rfl)
    · have h := h.2 c1
      refine lv_iconst (v := (4 : Int32)) hx hb dX6_digest_63 (by decide) ?_
      refine lv_iload_n (x := x3) hx hb dX6_digest_64 rfl (lh_at hl 2 rfl) ?_
      refine lv_imul hx hb dX6_digest_65 ?_
      refine lv_iload (x := x4) hx hb dX6_digest_66 (lh_at hl 3 rfl) ?_
      refine lv_iadd hx hb dX6_digest_68 ?_
      refine r_istore (lv' := [(5, iv (((4 : Int32) * x3) + x4)), (0, rv (some h0)), (1, jv x1), (3, iv x3), (4, iv x4)]) hx hb dX6_digest_69 hl (by decide) rfl (fun ls hl => ?_)
      refine r_aload_n (x := (some h0)) hx hb dX6_digest_71 rfl (lh_at hl 1 rfl) ?_
      obtain ⟨ho2, h⟩ := h
      refine r_getR E w rfl ho2 cl_X6 6 rfl fl_X6_16 dX6_digest_72 ?_
      refine lv_iload (x := (((4 : Int32) * x3) + x4)) hx hb dX6_digest_75 (lh_at hl 0 rfl) ?_
      obtain ⟨a3, ea3, h⟩ := h
      obtain ⟨ha4, h⟩ := h
      refine r_zald E w ea3 ha4 dX6_digest_77 ?_
      refine lv_if_ne (tgt := 89) hx hb dX6_digest_78 (by decide) (fun c5 => ?_) (fun c5 => ?_)
      · have h := h.1 c5
        refine lv_iconst (v := (0 : Int32)) hx hb dX6_digest_89 (by decide) ?_
        refine r_istore (lv' := [(6, iv (0 : Int32)), (5, iv (((4 : Int32) * x3) + x4)), (0, rv (some h0)), (1, jv x1), (3, iv x3), (4, iv x4)]) hx hb dX6_digest_90 hl (by decide) rfl (fun ls hl => ?_)
        obtain ⟨n6, h⟩ := h
        exact k_X6_digest_92 E hr hlk hK32 ih n6 _ _ _ _ _ _ _ _ _ _ h w (lh_sub hl [2, 3, 4, 5, 1, 0] rfl)
      · have h := h.2 c5
        refine lv_ldc2 (v := (31 : Int64)) hx hb hown (hts _ kc_X6_218) dX6_digest_81 ?_
        refine lv_lload_n (x := x1) hx hb dX6_digest_84 rfl (lh_at hl 2 rfl) ?_
        refine lv_lmul hx hb dX6_digest_85 ?_
        refine lv_lconst (v := (1 : Int64)) hx hb dX6_digest_86 (by decide) ?_
        refine lv_lsub hx hb dX6_digest_87 ?_
        refine r_lstore_n (lv' := [(1, jv (((31 : Int64) * x1) - (1 : Int64))), (5, iv (((4 : Int32) * x3) + x4)), (0, rv (some h0)), (3, iv x3), (4, iv x4)]) hx hb dX6_digest_88 rfl hl (by decide) rfl (fun ls hl => ?_)
        refine lv_iconst (v := (0 : Int32)) hx hb dX6_digest_89 (by decide) ?_
        refine r_istore (lv' := [(6, iv (0 : Int32)), (1, jv (((31 : Int64) * x1) - (1 : Int64))), (5, iv (((4 : Int32) * x3) + x4)), (0, rv (some h0)), (3, iv x3), (4, iv x4)]) hx hb dX6_digest_90 hl (by decide) rfl (fun ls hl => ?_)
        obtain ⟨n7, h⟩ := h
        exact k_X6_digest_92 E hr hlk hK32 ih n7 _ _ _ _ _ _ _ _ _ _ h w (lh_sub hl [3, 1, 4, 5, 2, 0] rfl)
def B_X6_digest_32 (Q : Int64 → Mm → Prop)  : Nat → Nat → Int64 → Int32 → Mm → Prop
  | 0, _, _, _, _ => False
  | n + 1, h0, x1, x3, M => (ok M h0 6 ∧ (((gI M h0 4) ≤ x3 → (B_X6_asks_0 (fun r4 M3 => (ok M3 h0 6 ∧ (B_X6_found_0 (fun r7 M6 => (ok M6 h0 6 ∧ Q (((31 : Int64) * (((31 : Int64) * (((31 : Int64) * (((31 : Int64) * x1) + (Int32.toInt64 (gI M h0 30)))) + (Int32.toInt64 r4))) + (Int32.toInt64 r7))) + (Int32.toInt64 (gI M6 h0 40))) M6)) h0  M3))) h0  M)) ∧ (¬ (gI M h0 4) ≤ x3 → (∃ a9, (gR M h0 5) = some a9 ∧ (ar M a9 7 x3 ∧ (∃ n11, B_X6_digest_57 Q (fun y0 y1 y2 My => B_X6_digest_32 Q n y0 y1 y2 My) n11 h0 (((31 : Int64) * x1) + (Int32.toInt64 (gI M a9 (Int32.toNatClampNeg x3)))) x3 (0 : Int32) M))))))
set_option maxHeartbeats 4000000 in
set_option maxRecDepth 100000 in
theorem k_X6_digest_32 {p : Program} {l : Launch} {e : Env} {s : State} {m : MethodId} {args : Array Value} {below : List Frame} {meth : Method} {c : Code} {D : va_G} {cy : Nat → ClassId} {A : Nat → Prop} {Q : Int64 → Mm → Prop} (E : Ex p m c cX6_digest 7 s args RX6 D cy A) (hr : meth.sig.returnType = (some .long)) (hlk : meth.locks = false) : ∀ (n : Nat), ∀ (h0 : Nat) (x1 : Int64) (x3 : Int32) (M : Mm) (H : Heap) (locs : List Loc) (ls : Array Slot), B_X6_digest_32 Q  n h0 x1 x3 M → Wd D cy A s M H locs → lh ls 7 [(0, rv (some h0)), (1, jv x1), (3, iv x3)] → W p l e (rmm 2 0 0) s m args below meth c H locs 0 0 (MQ below (va_Ql Q (Po D cy A) A) args s 0 0 A) (F0 m 32 ls []) := by
  obtain ⟨hx, hb, hml, hown, hts⟩ := E.1
  intro n
  induction n with
  | zero => intro h0 x1 x3 M H locs ls h; exact False.elim h
  | succ n ih =>
    intro h0 x1 x3 M H locs ls h w hl
    unfold B_X6_digest_32 at h
    refine lv_iload_n (x := x3) hx hb dX6_digest_32 rfl (lh_at hl 2 rfl) ?_
    refine r_aload_n (x := (some h0)) hx hb dX6_digest_33 rfl (lh_at hl 0 rfl) ?_
    obtain ⟨ho1, h⟩ := h
    refine r_getI E w rfl ho1 cl_X6 4 rfl fl_X6_94 dX6_digest_34 ?_
    refine lv_icmp_ge (tgt := 148) hx hb dX6_digest_37 (by decide) (fun c2 => ?_) (fun c2 => ?_)
    · have h := h.1 c2
      refine lv_ldc2 (v := (31 : Int64)) hx hb hown (hts _ kc_X6_218) dX6_digest_148 ?_
      refine lv_ldc2 (v := (31 : Int64)) hx hb hown (hts _ kc_X6_218) dX6_digest_151 ?_
      refine lv_ldc2 (v := (31 : Int64)) hx hb hown (hts _ kc_X6_218) dX6_digest_154 ?_
      refine lv_ldc2 (v := (31 : Int64)) hx hb hown (hts _ kc_X6_218) dX6_digest_157 ?_
      refine lv_lload_n (x := x1) hx hb dX6_digest_160 rfl (lh_at hl 1 rfl) ?_
      refine lv_lmul hx hb dX6_digest_161 ?_
      refine r_aload_n (x := (some h0)) hx hb dX6_digest_162 rfl (lh_at hl 0 rfl) ?_
      refine r_getI E w rfl ho1 cl_X6 30 rfl fl_X6_178 dX6_digest_163 ?_
      refine lv_i2l hx hb dX6_digest_166 rfl ?_
      refine lv_ladd hx hb dX6_digest_167 ?_
      refine lv_lmul hx hb dX6_digest_168 ?_
      refine r_aload_n (x := (some h0)) hx hb dX6_digest_169 rfl (lh_at hl 0 rfl) ?_
      refine z_callVi E w rfl ho1 cl_X6 yk_X6_asks ⟨Nat.le_of_ble_eq_true rfl, Nat.le_of_ble_eq_true rfl⟩ ⟨(Nat.zero_le _), (Nat.zero_le _)⟩ rfl ml_X6_222 im_X6_asks sl_X6_asks [] rfl rfl hl [jv ((31 : Int64) * (((31 : Int64) * x1) + (Int32.toInt64 (gI M h0 30)))), jv (31 : Int64), jv (31 : Int64)] rfl (Nat.le_of_ble_eq_true rfl) (K_X6_asks h) dX6_digest_170 (fun r4 M3 H locs h w => ?_)
      refine lv_i2l hx hb dX6_digest_173 rfl ?_
      refine lv_ladd hx hb dX6_digest_174 ?_
      refine lv_lmul hx hb dX6_digest_175 ?_
      refine r_aload_n (x := (some h0)) hx hb dX6_digest_176 rfl (lh_at hl 0 rfl) ?_
      obtain ⟨ho5, h⟩ := h
      refine z_callVi E w rfl ho5 cl_X6 yk_X6_found ⟨Nat.le_of_ble_eq_true rfl, Nat.le_of_ble_eq_true rfl⟩ ⟨(Nat.zero_le _), (Nat.zero_le _)⟩ rfl ml_X6_225 im_X6_found sl_X6_found [] rfl rfl hl [jv ((31 : Int64) * (((31 : Int64) * (((31 : Int64) * x1) + (Int32.toInt64 (gI M h0 30)))) + (Int32.toInt64 r4))), jv (31 : Int64)] rfl (Nat.le_of_ble_eq_true rfl) (K_X6_found h) dX6_digest_177 (fun r7 M6 H locs h w => ?_)
      refine lv_i2l hx hb dX6_digest_180 rfl ?_
      refine lv_ladd hx hb dX6_digest_181 ?_
      refine lv_lmul hx hb dX6_digest_182 ?_
      refine r_aload_n (x := (some h0)) hx hb dX6_digest_183 rfl (lh_at hl 0 rfl) ?_
      obtain ⟨ho8, h⟩ := h
      refine r_getI E w rfl ho8 cl_X6 40 rfl fl_X6_207 dX6_digest_184 ?_
      refine lv_i2l hx hb dX6_digest_187 rfl ?_
      refine lv_ladd hx hb dX6_digest_188 ?_
      exact r_lret E w hr hlk h (Nat.le_refl 0) (Nat.le_refl 0) dX6_digest_189
    · have h := h.2 c2
      refine lv_ldc2 (v := (31 : Int64)) hx hb hown (hts _ kc_X6_218) dX6_digest_40 ?_
      refine lv_lload_n (x := x1) hx hb dX6_digest_43 rfl (lh_at hl 1 rfl) ?_
      refine lv_lmul hx hb dX6_digest_44 ?_
      refine r_aload_n (x := (some h0)) hx hb dX6_digest_45 rfl (lh_at hl 0 rfl) ?_
      refine r_getR E w rfl ho1 cl_X6 5 rfl fl_X6_13 dX6_digest_46 ?_
      refine lv_iload_n (x := x3) hx hb dX6_digest_49 rfl (lh_at hl 2 rfl) ?_
      obtain ⟨a9, ea9, h⟩ := h
      obtain ⟨ha10, h⟩ := h
      refine r_iald E w ea9 ha10 dX6_digest_50 ?_
      refine lv_i2l hx hb dX6_digest_51 rfl ?_
      refine lv_ladd hx hb dX6_digest_52 ?_
      refine r_lstore_n (lv' := [(1, jv (((31 : Int64) * x1) + (Int32.toInt64 (gI M a9 (Int32.toNatClampNeg x3))))), (0, rv (some h0)), (3, iv x3)]) hx hb dX6_digest_53 rfl hl (by decide) rfl (fun ls hl => ?_)
      refine lv_iconst (v := (0 : Int32)) hx hb dX6_digest_54 (by decide) ?_
      refine r_istore (lv' := [(4, iv (0 : Int32)), (1, jv (((31 : Int64) * x1) + (Int32.toInt64 (gI M a9 (Int32.toNatClampNeg x3))))), (0, rv (some h0)), (3, iv x3)]) hx hb dX6_digest_55 hl (by decide) rfl (fun ls hl => ?_)
      obtain ⟨n11, h⟩ := h
      exact k_X6_digest_57 E hr hlk ih n11 _ _ _ _ _ _ _ _ h w (lh_sub hl [2, 1, 3, 0] rfl)
def B_X6_digest_0 (Q : Int64 → Mm → Prop)  (h0 : Nat) (M : Mm) : Prop := (ok M h0 6 ∧ (∃ n2, B_X6_digest_32 Q  n2 h0 (((31 : Int64) * (((31 : Int64) * ((527 : Int64) + (Int32.toInt64 (gI M h0 3)))) + (Int32.toInt64 (gI M h0 13)))) + (Int32.toInt64 (gI M h0 14))) (0 : Int32) M))
set_option maxHeartbeats 4000000 in
set_option maxRecDepth 100000 in
theorem k_X6_digest_0 {p : Program} {l : Launch} {e : Env} {s : State} {m : MethodId} {args : Array Value} {below : List Frame} {meth : Method} {c : Code} {D : va_G} {cy : Nat → ClassId} {A : Nat → Prop} {Q : Int64 → Mm → Prop} (E : Ex p m c cX6_digest 7 s args RX6 D cy A) (hr : meth.sig.returnType = (some .long)) (hlk : meth.locks = false) : ∀ (h0 : Nat) (M : Mm) (H : Heap) (locs : List Loc) (ls : Array Slot), B_X6_digest_0 Q  h0 M → Wd D cy A s M H locs → lh ls 7 [(0, rv (some h0))] → W p l e (rmm 2 0 0) s m args below meth c H locs 0 0 (MQ below (va_Ql Q (Po D cy A) A) args s 0 0 A) (F0 m 0 ls []) := by
  obtain ⟨hx, hb, hml, hown, hts⟩ := E.1
  intro h0 M H locs ls h w hl
  unfold B_X6_digest_0 at h
  refine lv_ldc2 (v := (31 : Int64)) hx hb hown (hts _ kc_X6_218) dX6_digest_0 ?_
  refine lv_ldc2 (v := (31 : Int64)) hx hb hown (hts _ kc_X6_218) dX6_digest_3 ?_
  refine lv_ldc2 (v := (527 : Int64)) hx hb hown (hts _ kc_X6_220) dX6_digest_6 ?_
  refine r_aload_n (x := (some h0)) hx hb dX6_digest_9 rfl (lh_at hl 0 rfl) ?_
  obtain ⟨ho1, h⟩ := h
  refine r_getI E w rfl ho1 cl_X6 3 rfl fl_X6_91 dX6_digest_10 ?_
  refine lv_i2l hx hb dX6_digest_13 rfl ?_
  refine lv_ladd hx hb dX6_digest_14 ?_
  refine lv_lmul hx hb dX6_digest_15 ?_
  refine r_aload_n (x := (some h0)) hx hb dX6_digest_16 rfl (lh_at hl 0 rfl) ?_
  refine r_getI E w rfl ho1 cl_X6 13 rfl fl_X6_70 dX6_digest_17 ?_
  refine lv_i2l hx hb dX6_digest_20 rfl ?_
  refine lv_ladd hx hb dX6_digest_21 ?_
  refine lv_lmul hx hb dX6_digest_22 ?_
  refine r_aload_n (x := (some h0)) hx hb dX6_digest_23 rfl (lh_at hl 0 rfl) ?_
  refine r_getI E w rfl ho1 cl_X6 14 rfl fl_X6_74 dX6_digest_24 ?_
  refine lv_i2l hx hb dX6_digest_27 rfl ?_
  refine lv_ladd hx hb dX6_digest_28 ?_
  refine r_lstore_n (lv' := [(1, jv (((31 : Int64) * (((31 : Int64) * ((527 : Int64) + (Int32.toInt64 (gI M h0 3)))) + (Int32.toInt64 (gI M h0 13)))) + (Int32.toInt64 (gI M h0 14)))), (0, rv (some h0))]) hx hb dX6_digest_29 rfl hl (by decide) rfl (fun ls hl => ?_)
  refine lv_iconst (v := (0 : Int32)) hx hb dX6_digest_30 (by decide) ?_
  refine r_istore_n (lv' := [(3, iv (0 : Int32)), (1, jv (((31 : Int64) * (((31 : Int64) * ((527 : Int64) + (Int32.toInt64 (gI M h0 3)))) + (Int32.toInt64 (gI M h0 13)))) + (Int32.toInt64 (gI M h0 14)))), (0, rv (some h0))]) hx hb dX6_digest_31 rfl hl (by decide) rfl (fun ls hl => ?_)
  obtain ⟨n2, h⟩ := h
  exact k_X6_digest_32 E hr hlk  n2 _ _ _ _ _ _ _ h w (lh_sub hl [2, 1, 0] rfl)
theorem K_X6_digest {l : Launch} {Q : Int64 → Mm → Prop} {h0 : Nat} {M : Mm} (h : B_X6_digest_0 Q h0 M) : KL l yX6_digest cdX6_digest (rmm 2 0 0) [rv (some h0)] M Q :=
  KL_of (by decide) rfl (Nat.le_of_ble_eq_true rfl) (fun p e s m args below meth c D cy A ls E hr hlk hn w hl => k_X6_digest_0 E hr hlk _ _ _ _ _ h w hl)
