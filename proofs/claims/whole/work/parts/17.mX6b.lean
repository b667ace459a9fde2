def B_X6_layRow_96 (Q : Mm → Prop) (K79 : Nat → Int32 → Mm → Prop) : Nat → Nat → Int32 → Int32 → Mm → Prop
  | 0, _, _, _, _ => False
  | n + 1, h0, x2, x3, M => (ok M h0 6 ∧ (((gI M h0 9) ≤ x3 → K79 h0 (x2 + 1) M) ∧ (¬ (gI M h0 9) ≤ x3 → (∃ a3, (gR M h0 12) = some a3 ∧ (ar M a3 7 x2 ∧ (∃ a5, (gR M h0 11) = some a5 ∧ (ar M a5 7 x3 ∧ (ar M a5 7 x2 ∧ (((gI M a5 (Int32.toNatClampNeg x2)) ≤ (gI M a5 (Int32.toNatClampNeg x3)) → (ar M a5 7 x3 ∧ (ar M a5 7 x2 ∧ ((¬ (gI M a5 (Int32.toNatClampNeg x3)) = (gI M a5 (Int32.toNatClampNeg x2)) → (ar M a3 7 x2 ∧ (∀ M13, M13 = pI M a3 (Int32.toNatClampNeg x2) ((gI M a3 (Int32.toNatClampNeg x2)) + (0 : Int32)) → B_X6_layRow_96 Q K79 n h0 x2 (x3 + 1) M13))) ∧ ((gI M a5 (Int32.toNatClampNeg x3)) = (gI M a5 (Int32.toNatClampNeg x2)) → (ar M a3 7 x2 ∧ (∀ M15, M15 = pI M a3 (Int32.toNatClampNeg x2) ((gI M a3 (Int32.toNatClampNeg x2)) + (1 : Int32)) → B_X6_layRow_96 Q K79 n h0 x2 (x3 + 1) M15))))))) ∧ (¬ (gI M a5 (Int32.toNatClampNeg x2)) ≤ (gI M a5 (Int32.toNatClampNeg x3)) → (ar M a3 7 x2 ∧ (∀ M17, M17 = pI M a3 (Int32.toNatClampNeg x2) ((gI M a3 (Int32.toNatClampNeg x2)) + (2 : Int32)) → B_X6_layRow_96 Q K79 n h0 x2 (x3 + 1) M17))))))))))))
set_option maxHeartbeats 4000000 in
set_option maxRecDepth 100000 in
theorem k_X6_layRow_96 {p : Program} {l : Launch} {e : Env} {s : State} {m : MethodId} {args : Array Value} {below : List Frame} {meth : Method} {c : Code} {D : va_G} {cy : Nat → ClassId} {A : Nat → Prop} {Q : Mm → Prop} (E : Ex p m c cX6_layRow 4 s args RX6 D cy A) (hr : meth.sig.returnType = none) (hlk : meth.locks = false) {K79 : Nat → Int32 → Mm → Prop} (hK79 : ∀ (h0 : Nat) (x2 : Int32) (M : Mm) (H : Heap) (locs : List Loc) (ls : Array Slot), K79 h0 x2 M → Wd D cy A s M H locs → lh ls 4 [(0, rv (some h0)), (2, iv x2)] → W p l e (rmm 0 0 0) s m args below meth c H locs 0 0 (MQ below (va_Qv Q (Po D cy A) A) args s 0 0 A) (F0 m 79 ls [])) : ∀ (n : Nat), ∀ (h0 : Nat) (x2 : Int32) (x3 : Int32) (M : Mm) (H : Heap) (locs : List Loc) (ls : Array Slot), B_X6_layRow_96 Q K79 n h0 x2 x3 M → Wd D cy A s M H locs → lh ls 4 [(0, rv (some h0)), (2, iv x2), (3, iv x3)] → W p l e (rmm 0 0 0) s m args below meth c H locs 0 0 (MQ below (va_Qv Q (Po D cy A) A) args s 0 0 A) (F0 m 96 ls []) := by
  obtain ⟨hx, hb, hml, hown, hts⟩ := E.1
  intro n
  induction n with
  | zero => intro h0 x2 x3 M H locs ls h; exact False.elim h
  | succ n ih =>
    intro h0 x2 x3 M H locs ls h w hl
    unfold B_X6_layRow_96 at h
    refine lv_iload_n (x := x3) hx hb dX6_layRow_96 rfl (lh_at hl 2 rfl) ?_
    refine r_aload_n (x := (some h0)) hx hb dX6_layRow_97 rfl (lh_at hl 0 rfl) ?_
    obtain ⟨ho1, h⟩ := h
    refine r_getI E w rfl ho1 cl_X6 9 rfl fl_X6_112 dX6_layRow_98 ?_
    refine lv_icmp_ge (tgt := 158) hx hb dX6_layRow_101 (by decide) (fun c2 => ?_) (fun c2 => ?_)
    · have h := h.1 c2
      refine r_iinc (k := 1) (x := x2) (v := (x2 + 1)) (lv' := [(2, iv (x2 + 1)), (0, rv (some h0)), (3, iv x3)]) hx hb dX6_layRow_158 hl rfl rfl (by decide) rfl (fun ls hl => ?_)
      refine lv_goto (tgt := 79) hx hb dX6_layRow_161 (by decide) ?_
      exact hK79 _ _ _ _ _ _ h w (lh_sub hl [1, 0] rfl)
    · have h := h.2 c2
      refine r_aload_n (x := (some h0)) hx hb dX6_layRow_104 rfl (lh_at hl 0 rfl) ?_
      refine r_getR E w rfl ho1 cl_X6 12 rfl fl_X6_32 dX6_layRow_105 ?_
      refine lv_iload_n (x := x2) hx hb dX6_layRow_108 rfl (lh_at hl 1 rfl) ?_
      refine r_dup2r hx hb dX6_layRow_109 ?_
      obtain ⟨a3, ea3, h⟩ := h
      obtain ⟨ha4, h⟩ := h
      refine r_iald E w ea3 ha4 dX6_layRow_110 ?_
      refine r_aload_n (x := (some h0)) hx hb dX6_layRow_111 rfl (lh_at hl 0 rfl) ?_
      refine r_getR E w rfl ho1 cl_X6 11 rfl fl_X6_29 dX6_layRow_112 ?_
      refine lv_iload_n (x := x3) hx hb dX6_layRow_115 rfl (lh_at hl 2 rfl) ?_
      obtain ⟨a5, ea5, h⟩ := h
      obtain ⟨ha6, h⟩ := h
      refine r_iald E w ea5 ha6 dX6_layRow_116 ?_
      refine r_aload_n (x := (some h0)) hx hb dX6_layRow_117 rfl (lh_at hl 0 rfl) ?_
      refine r_getR E w rfl ho1 cl_X6 11 rfl fl_X6_29 dX6_layRow_118 ?_
      refine lv_iload_n (x := x2) hx hb dX6_layRow_121 rfl (lh_at hl 1 rfl) ?_
      obtain ⟨ha7, h⟩ := h
      refine r_iald E w ea5 ha7 dX6_layRow_122 ?_
      refine lv_icmp_ge (tgt := 130) hx hb dX6_layRow_123 (by decide) (fun c8 => ?_) (fun c8 => ?_)
      · have h := h.1 c8
        refine r_aload_n (x := (some h0)) hx hb dX6_layRow_130 rfl (lh_at hl 0 rfl) ?_
        refine r_getR E w rfl ho1 cl_X6 11 rfl fl_X6_29 dX6_layRow_131 ?_
        refine lv_iload_n (x := x3) hx hb dX6_layRow_134 rfl (lh_at hl 2 rfl) ?_
        obtain ⟨ha9, h⟩ := h
        refine r_iald E w ea5 ha9 dX6_layRow_135 ?_
        refine r_aload_n (x := (some h0)) hx hb dX6_layRow_136 rfl (lh_at hl 0 rfl) ?_
        refine r_getR E w rfl ho1 cl_X6 11 rfl fl_X6_29 dX6_layRow_137 ?_
        refine lv_iload_n (x := x2) hx hb dX6_layRow_140 rfl (lh_at hl 1 rfl) ?_
        obtain ⟨ha10, h⟩ := h
        refine r_iald E w ea5 ha10 dX6_layRow_141 ?_
        refine lv_icmp_ne (tgt := 149) hx hb dX6_layRow_142 (by decide) (fun c11 => ?_) (fun c11 => ?_)
        · have h := h.1 c11
          refine lv_iconst (v := (0 : Int32)) hx hb dX6_layRow_149 (by decide) ?_
          refine lv_iadd hx hb dX6_layRow_150 ?_
          obtain ⟨ha12, h⟩ := h
          refine r_iast (v := ((gI M a3 (Int32.toNatClampNeg x2)) + (0 : Int32))) E w ea3 ha12 dX6_layRow_151 (fun H locs w => ?_)
          obtain ⟨M13, eM13⟩ : ∃ z, z = pI M a3 (Int32.toNatClampNeg x2) ((gI M a3 (Int32.toNatClampNeg x2)) + (0 : Int32)) := ⟨_, rfl⟩
          rw [← eM13] at w
          have h := h M13 eM13
          refine r_iinc (k := 2) (x := x3) (v := (x3 + 1)) (lv' := [(3, iv (x3 + 1)), (0, rv (some h0)), (2, iv x2)]) hx hb dX6_layRow_152 hl rfl rfl (by decide) rfl (fun ls hl => ?_)
          refine lv_goto (tgt := 96) hx hb dX6_layRow_155 (by decide) ?_
          exact ih _ _ _ _ _ _ _ h w (lh_sub hl [1, 2, 0] rfl)
        · have h := h.2 c11
          refine lv_iconst (v := (1 : Int32)) hx hb dX6_layRow_145 (by decide) ?_
          refine lv_goto (tgt := 150) hx hb dX6_layRow_146 (by decide) ?_
          refine lv_iadd hx hb dX6_layRow_150 ?_
          obtain ⟨ha14, h⟩ := h
          refine r_iast (v := ((gI M a3 (Int32.toNatClampNeg x2)) + (1 : Int32))) E w ea3 ha14 dX6_layRow_151 (fun H locs w => ?_)
          obtain ⟨M15, eM15⟩ : ∃ z, z = pI M a3 (Int32.toNatClampNeg x2) ((gI M a3 (Int32.toNatClampNeg x2)) + (1 : Int32)) := ⟨_, rfl⟩
          rw [← eM15] at w
          have h := h M15 eM15
          refine r_iinc (k := 2) (x := x3) (v := (x3 + 1)) (lv' := [(3, iv (x3 + 1)), (0, rv (some h0)), (2, iv x2)]) hx hb dX6_layRow_152 hl rfl rfl (by decide) rfl (fun ls hl => ?_)
          refine lv_goto (tgt := 96) hx hb dX6_layRow_155 (by decide) ?_
          exact ih _ _ _ _ _ _ _ h w (lh_sub hl [1, 2, 0] rfl)
      · have h := h.2 c8
        refine lv_iconst (v := (2 : Int32)) hx hb dX6_layRow_126 (by decide) ?_
        refine lv_goto (tgt := 150) hx hb dX6_layRow_127 (by decide) ?_
        refine lv_iadd hx hb dX6_layRow_150 ?_
        obtain ⟨ha16, h⟩ := h
        refine r_iast (v := ((gI M a3 (Int32.toNatClampNeg x2)) + (2 : Int32))) E w ea3 ha16 dX6_layRow_151 (fun H locs w => ?_)
        obtain ⟨M17, eM17⟩ : ∃ z, z = pI M a3 (Int32.toNatClampNeg x2) ((gI M a3 (Int32.toNatClampNeg x2)) + (2 : Int32)) := ⟨_, rfl⟩
        rw [← eM17] at w
        have h := h M17 eM17
        refine r_iinc (k := 2) (x := x3) (v := (x3 + 1)) (lv' := [(3, iv (x3 + 1)), (0, rv (some h0)), (2, iv x2)]) hx hb dX6_layRow_152 hl rfl rfl (by decide) rfl (fun ls hl => ?_)
        refine lv_goto (tgt := 96) hx hb dX6_layRow_155 (by decide) ?_
        exact ih _ _ _ _ _ _ _ h w (lh_sub hl [1, 2, 0] rfl)
def B_X6_layRow_79 (Q : Mm → Prop)  : Nat → Nat → Int32 → Mm → Prop
  | 0, _, _, _ => False
  | n + 1, h0, x2, M => (ok M h0 6 ∧ (((gI M h0 9) ≤ x2 → Q M) ∧ (¬ (gI M h0 9) ≤ x2 → (∃ a3, (gR M h0 12) = some a3 ∧ (ar M a3 7 x2 ∧ (∀ M5, M5 = pI M a3 (Int32.toNatClampNeg x2) (0 : Int32) → (∃ n6, B_X6_layRow_96 Q (fun y0 y1 My => B_X6_layRow_79 Q n y0 y1 My) n6 h0 x2 (0 : Int32) M5)))))))
set_option maxHeartbeats 4000000 in
set_option maxRecDepth 100000 in
theorem k_X6_layRow_79 {p : Program} {l : Launch} {e : Env} {s : State} {m : MethodId} {args : Array Value} {below : List Frame} {meth : Method} {c : Code} {D : va_G} {cy : Nat → ClassId} {A : Nat → Prop} {Q : Mm → Prop} (E : Ex p m c cX6_layRow 4 s args RX6 D cy A) (hr : meth.sig.returnType = none) (hlk : meth.locks = false) : ∀ (n : Nat), ∀ (h0 : Nat) (x2 : Int32) (M : Mm) (H : Heap) (locs : List Loc) (ls : Array Slot), B_X6_layRow_79 Q  n h0 x2 M → Wd D cy A s M H locs → lh ls 4 [(0, rv (some h0)), (2, iv x2)] → W p l e (rmm 0 0 0) s m args below meth c H locs 0 0 (MQ below (va_Qv Q (Po D cy A) A) args s 0 0 A) (F0 m 79 ls []) := by
  obtain ⟨hx, hb, hml, hown, hts⟩ := E.1
  intro n
  induction n with
  | zero => intro h0 x2 M H locs ls h; exact False.elim h
  | succ n ih =>
    intro h0 x2 M H locs ls h w hl
    unfold B_X6_layRow_79 at h
    refine lv_iload_n (x := x2) hx hb dX6_layRow_79 rfl (lh_at hl 1 rfl) ?_
    refine r_aload_n (x := (some h0)) hx hb dX6_layRow_80 rfl (lh_at hl 0 rfl) ?_
    obtain ⟨ho1, h⟩ := h
    refine r_getI E w rfl ho1 cl_X6 9 rfl fl_X6_112 dX6_layRow_81 ?_
    refine lv_icmp_ge (tgt := 164) hx hb dX6_layRow_84 (by decide) (fun c2 => ?_) (fun c2 => ?_)
    · have h := h.1 c2
      exact r_vret E w hr hlk h (Nat.le_refl 0) (Nat.le_refl 0) dX6_layRow_164
    · have h := h.2 c2
      refine r_aload_n (x := (some h0)) hx hb dX6_layRow_87 rfl (lh_at hl 0 rfl) ?_
      refine r_getR E w rfl ho1 cl_X6 12 rfl fl_X6_32 dX6_layRow_88 ?_
      refine lv_iload_n (x := x2) hx hb dX6_layRow_91 rfl (lh_at hl 1 rfl) ?_
      refine lv_iconst (v := (0 : Int32)) hx hb dX6_layRow_92 (by decide) ?_
      obtain ⟨a3, ea3, h⟩ := h
      obtain ⟨ha4, h⟩ := h
      refine r_iast (v := (0 : Int32)) E w ea3 ha4 dX6_layRow_93 (fun H locs w => ?_)
      obtain ⟨M5, eM5⟩ : ∃ z, z = pI M a3 (Int32.toNatClampNeg x2) (0 : Int32) := ⟨_, rfl⟩
      rw [← eM5] at w
      have h := h M5 eM5
      refine lv_iconst (v := (0 : Int32)) hx hb dX6_layRow_94 (by decide) ?_
      refine r_istore_n (lv' := [(3, iv (0 : Int32)), (0, rv (some h0)), (2, iv x2)]) hx hb dX6_layRow_95 rfl hl (by decide) rfl (fun ls hl => ?_)
      obtain ⟨n6, h⟩ := h
      exact k_X6_layRow_96 E hr hlk ih n6 _ _ _ _ _ _ _ h w (lh_sub hl [1, 2, 0] rfl)
def B_X6_layRow_7 (Q : Mm → Prop)  : Nat → Nat → Int32 → Int32 → Mm → Prop
  | 0, _, _, _, _ => False
  | n + 1, h0, x1, x2, M => (ok M h0 6 ∧ (((gI M h0 3) ≤ x2 → (∃ n3, B_X6_layRow_79 Q  n3 h0 (0 : Int32) M)) ∧ (¬ (gI M h0 3) ≤ x2 → (∃ a4, (gR M h0 7) = some a4 ∧ (ar M a4 7 (((40 : Int32) * x1) + x2) ∧ (((gI M a4 (Int32.toNatClampNeg (((40 : Int32) * x1) + x2))) = (-9 : Int32) → B_X6_layRow_7 Q  n h0 x1 (x2 + 1) M) ∧ (¬ (gI M a4 (Int32.toNatClampNeg (((40 : Int32) * x1) + x2))) = (-9 : Int32) → (∃ a7, (gR M h0 10) = some a7 ∧ (ar M a7 7 (gI M h0 9) ∧ (∀ M9, M9 = pI M a7 (Int32.toNatClampNeg (gI M h0 9)) x2 → (∃ a10, (gR M9 h0 7) = some a10 ∧ (ar M9 a10 7 (((40 : Int32) * x1) + x2) ∧ (∃ a12, (gR M9 h0 11) = some a12 ∧ (ar M9 a12 7 (gI M9 h0 9) ∧ (∀ M14, M14 = pI M9 a12 (Int32.toNatClampNeg (gI M9 h0 9)) (gI M9 a10 (Int32.toNatClampNeg (((40 : Int32) * x1) + x2))) → (∀ M15, M15 = pI M14 h0 9 ((gI M14 h0 9) + (1 : Int32)) → B_X6_layRow_7 Q  n h0 x1 (x2 + 1) M15))))))))))))))))
set_option maxHeartbeats 4000000 in
set_option maxRecDepth 100000 in
theorem k_X6_layRow_7 {p : Program} {l : Launch} {e : Env} {s : State} {m : MethodId} {args : Array Value} {below : List Frame} {meth : Method} {c : Code} {D : va_G} {cy : Nat → ClassId} {A : Nat → Prop} {Q : Mm → Prop} (E : Ex p m c cX6_layRow 4 s args RX6 D cy A) (hr : meth.sig.returnType = none) (hlk : meth.locks = false) : ∀ (n : Nat), ∀ (h0 : Nat) (x1 : Int32) (x2 : Int32) (M : Mm) (H : Heap) (locs : List Loc) (ls : Array Slot), B_X6_layRow_7 Q  n h0 x1 x2 M → Wd D cy A s M H locs → lh ls 4 [(0, rv (some h0)), (1, iv x1), (2, iv x2)] → W p l e (rmm 0 0 0) s m args below meth c H locs 0 0 (MQ below (va_Qv Q (Po D cy A) A) args s 0 0 A) (F0 m 7 ls []) := by
  obtain ⟨hx, hb, hml, hown, hts⟩ := E.1
  intro n
  induction n with
  | zero => intro h0 x1 x2 M H locs ls h; exact False.elim h
  | succ n ih =>
    intro h0 x1 x2 M H locs ls h w hl
    unfold B_X6_layRow_7 at h
    refine lv_iload_n (x := x2) hx hb dX6_layRow_7 rfl (lh_at hl 2 rfl) ?_
    refine r_aload_n (x := (some h0)) hx hb dX6_layRow_8 rfl (lh_at hl 0 rfl) ?_
    obtain ⟨ho1, h⟩ := h
    refine r_getI E w rfl ho1 cl_X6 3 rfl fl_X6_91 dX6_layRow_9 ?_
    refine lv_icmp_ge (tgt := 77) hx hb dX6_layRow_12 (by decide) (fun c2 => ?_) (fun c2 => ?_)
    · have h := h.1 c2
      refine lv_iconst (v := (0 : Int32)) hx hb dX6_layRow_77 (by decide) ?_
      refine r_istore_n (lv' := [(2, iv (0 : Int32)), (0, rv (some h0)), (1, iv x1)]) hx hb dX6_layRow_78 rfl hl (by decide) rfl (fun ls hl => ?_)
      obtain ⟨n3, h⟩ := h
      exact k_X6_layRow_79 E hr hlk  n3 _ _ _ _ _ _ h w (lh_sub hl [1, 0] rfl)
    · have h := h.2 c2
      refine r_aload_n (x := (some h0)) hx hb dX6_layRow_15 rfl (lh_at hl 0 rfl) ?_
      refine r_getR E w rfl ho1 cl_X6 7 rfl fl_X6_20 dX6_layRow_16 ?_
      refine lv_bipush (v := (40 : Int32)) hx hb dX6_layRow_19 (by decide) ?_
      refine lv_iload_n (x := x1) hx hb dX6_layRow_21 rfl (lh_at hl 1 rfl) ?_
      refine lv_imul hx hb dX6_layRow_22 ?_
      refine lv_iload_n (x := x2) hx hb dX6_layRow_23 rfl (lh_at hl 2 rfl) ?_
      refine lv_iadd hx hb dX6_layRow_24 ?_
      obtain ⟨a4, ea4, h⟩ := h
      obtain ⟨ha5, h⟩ := h
      refine r_iald E w ea4 ha5 dX6_layRow_25 ?_
      refine lv_bipush (v := (-9 : Int32)) hx hb dX6_layRow_26 (by decide) ?_
      refine lv_icmp_eq (tgt := 71) hx hb dX6_layRow_28 (by decide) (fun c6 => ?_) (fun c6 => ?_)
      · have h := h.1 c6
        refine r_iinc (k := 2) (x := x2) (v := (x2 + 1)) (lv' := [(2, iv (x2 + 1)), (0, rv (some h0)), (1, iv x1)]) hx hb dX6_layRow_71 hl rfl rfl (by decide) rfl (fun ls hl => ?_)
        refine lv_goto (tgt := 7) hx hb dX6_layRow_74 (by decide) ?_
        exact ih _ _ _ _ _ _ _ h w (lh_sub hl [1, 2, 0] rfl)
      · have h := h.2 c6
        refine r_aload_n (x := (some h0)) hx hb dX6_layRow_31 rfl (lh_at hl 0 rfl) ?_
        refine r_getR E w rfl ho1 cl_X6 10 rfl fl_X6_26 dX6_layRow_32 ?_
        refine r_aload_n (x := (some h0)) hx hb dX6_layRow_35 rfl (lh_at hl 0 rfl) ?_
        refine r_getI E w rfl ho1 cl_X6 9 rfl fl_X6_112 dX6_layRow_36 ?_
        refine lv_iload_n (x := x2) hx hb dX6_layRow_39 rfl (lh_at hl 2 rfl) ?_
        obtain ⟨a7, ea7, h⟩ := h
        obtain ⟨ha8, h⟩ := h
        refine r_iast (v := x2) E w ea7 ha8 dX6_layRow_40 (fun H locs w => ?_)
        obtain ⟨M9, eM9⟩ : ∃ z, z = pI M a7 (Int32.toNatClampNeg (gI M h0 9)) x2 := ⟨_, rfl⟩
        rw [← eM9] at w
        have h := h M9 eM9
        refine r_aload_n (x := (some h0)) hx hb dX6_layRow_41 rfl (lh_at hl 0 rfl) ?_
        have ho1 : ok M9 h0 6 := by rw [eM9]; exact ho1
        refine r_getR E w rfl ho1 cl_X6 11 rfl fl_X6_29 dX6_layRow_42 ?_
        refine r_aload_n (x := (some h0)) hx hb dX6_layRow_45 rfl (lh_at hl 0 rfl) ?_
        refine r_getI E w rfl ho1 cl_X6 9 rfl fl_X6_112 dX6_layRow_46 ?_
        refine r_aload_n (x := (some h0)) hx hb dX6_layRow_49 rfl (lh_at hl 0 rfl) ?_
        refine r_getR E w rfl ho1 cl_X6 7 rfl fl_X6_20 dX6_layRow_50 ?_
        refine lv_bipush (v := (40 : Int32)) hx hb dX6_layRow_53 (by decide) ?_
        refine lv_iload_n (x := x1) hx hb dX6_layRow_55 rfl (lh_at hl 1 rfl) ?_
        refine lv_imul hx hb dX6_layRow_56 ?_
        refine lv_iload_n (x := x2) hx hb dX6_layRow_57 rfl (lh_at hl 2 rfl) ?_
        refine lv_iadd hx hb dX6_layRow_58 ?_
        obtain ⟨a10, ea10, h⟩ := h
        obtain ⟨ha11, h⟩ := h
        refine r_iald E w ea10 ha11 dX6_layRow_59 ?_
        obtain ⟨a12, ea12, h⟩ := h
        obtain ⟨ha13, h⟩ := h
        refine r_iast (v := (gI M9 a10 (Int32.toNatClampNeg (((40 : Int32) * x1) + x2)))) E w ea12 ha13 dX6_layRow_60 (fun H locs w => ?_)
        obtain ⟨M14, eM14⟩ : ∃ z, z = pI M9 a12 (Int32.toNatClampNeg (gI M9 h0 9)) (gI M9 a10 (Int32.toNatClampNeg (((40 : Int32) * x1) + x2))) := ⟨_, rfl⟩
        rw [← eM14] at w
        have h := h M14 eM14
        refine r_aload_n (x := (some h0)) hx hb dX6_layRow_61 rfl (lh_at hl 0 rfl) ?_
        refine r_dupr hx hb dX6_layRow_62 ?_
        have ho1 : ok M14 h0 6 := by rw [eM14]; exact ho1
        refine r_getI E w rfl ho1 cl_X6 9 rfl fl_X6_112 dX6_layRow_63 ?_
        refine lv_iconst (v := (1 : Int32)) hx hb dX6_layRow_66 (by decide) ?_
        refine lv_iadd hx hb dX6_layRow_67 ?_
        refine r_putI (v := ((gI M14 h0 9) + (1 : Int32))) E w rfl ho1 cl_X6 9 rfl fl_X6_112 (Or.inl rfl) (Or.inl rfl) dX6_layRow_68 (fun H locs w => ?_)
        obtain ⟨M15, eM15⟩ : ∃ z, z = pI M14 h0 9 ((gI M14 h0 9) + (1 : Int32)) := ⟨_, rfl⟩
        rw [← eM15] at w
        have h := h M15 eM15
        refine r_iinc (k := 2) (x := x2) (v := (x2 + 1)) (lv' := [(2, iv (x2 + 1)), (0, rv (some h0)), (1, iv x1)]) hx hb dX6_layRow_71 hl rfl rfl (by decide) rfl (fun ls hl => ?_)
        refine lv_goto (tgt := 7) hx hb dX6_layRow_74 (by decide) ?_
        exact ih _ _ _ _ _ _ _ h w (lh_sub hl [1, 2, 0] rfl)
def B_X6_layRow_0 (Q : Mm → Prop)  (h0 : Nat) (x1 : Int32) (M : Mm) : Prop := (ok M h0 6 ∧ (∀ M2, M2 = pI M h0 9 (0 : Int32) → (∃ n3, B_X6_layRow_7 Q  n3 h0 x1 (0 : Int32) M2)))
set_option maxHeartbeats 4000000 in
set_option maxRecDepth 100000 in
theorem k_X6_layRow_0 {p : Program} {l : Launch} {e : Env} {s : State} {m : MethodId} {args : Array Value} {below : List Frame} {meth : Method} {c : Code} {D : va_G} {cy : Nat → ClassId} {A : Nat → Prop} {Q : Mm → Prop} (E : Ex p m c cX6_layRow 4 s args RX6 D cy A) (hr : meth.sig.returnType = none) (hlk : meth.locks = false) : ∀ (h0 : Nat) (x1 : Int32) (M : Mm) (H : Heap) (locs : List Loc) (ls : Array Slot), B_X6_layRow_0 Q  h0 x1 M → Wd D cy A s M H locs → lh ls 4 [(0, rv (some h0)), (1, iv x1)] → W p l e (rmm 0 0 0) s m args below meth c H locs 0 0 (MQ below (va_Qv Q (Po D cy A) A) args s 0 0 A) (F0 m 0 ls []) := by
  obtain ⟨hx, hb, hml, hown, hts⟩ := E.1
  intro h0 x1 M H locs ls h w hl
  unfold B_X6_layRow_0 at h
  refine r_aload_n (x := (some h0)) hx hb dX6_layRow_0 rfl (lh_at hl 0 rfl) ?_
  refine lv_iconst (v := (0 : Int32)) hx hb dX6_layRow_1 (by decide) ?_
  obtain ⟨ho1, h⟩ := h
  refine r_putI (v := (0 : Int32)) E w rfl ho1 cl_X6 9 rfl fl_X6_112 (Or.inl rfl) (Or.inl rfl) dX6_layRow_2 (fun H locs w => ?_)
  obtain ⟨M2, eM2⟩ : ∃ z, z = pI M h0 9 (0 : Int32) := ⟨_, rfl⟩
  rw [← eM2] at w
  have h := h M2 eM2
  refine lv_iconst (v := (0 : Int32)) hx hb dX6_layRow_5 (by decide) ?_
  refine r_istore_n (lv' := [(2, iv (0 : Int32)), (0, rv (some h0)), (1, iv x1)]) hx hb dX6_layRow_6 rfl hl (by decide) rfl (fun ls hl => ?_)
  obtain ⟨n3, h⟩ := h
  exact k_X6_layRow_7 E hr hlk  n3 _ _ _ _ _ _ _ h w (lh_sub hl [1, 2, 0] rfl)
theorem K_X6_layRow {l : Launch} {Q : Mm → Prop} {h0 : Nat} {x1 : Int32} {M : Mm} (h : B_X6_layRow_0 Q h0 x1 M) : KV l yX6_layRow cdX6_layRow (rmm 0 0 0) [rv (some h0), iv x1] M Q :=
  KV_of (by decide) rfl (Nat.le_of_ble_eq_true rfl) (fun p e s m args below meth c D cy A ls E hr hlk hn w hl => k_X6_layRow_0 E hr hlk _ _ _ _ _ _ h w hl)
def B_X6_costOf_101 (Q : Int32 → Mm → Prop)  : Nat → Nat → Int32 → Int32 → Int32 → Mm → Prop
  | 0, _, _, _, _, _ => False
  | n + 1, h0, x2, x4, x5, M => ((x2 ≤ x5 → Q x4 M) ∧ (¬ x2 ≤ x5 → (ok M h0 6 ∧ (∃ a3, (gR M h0 12) = some a3 ∧ (ar M a3 7 x5 ∧ (ar M a3 7 (gI M h0 22) ∧ ((0 ≤ ((gI M a3 (Int32.toNatClampNeg x5)) - (gI M a3 (Int32.toNatClampNeg (gI M h0 22)))) → B_X6_costOf_101 Q  n h0 x2 (x4 + ((gI M a3 (Int32.toNatClampNeg x5)) - (gI M a3 (Int32.toNatClampNeg (gI M h0 22))))) (x5 + 1) M) ∧ (¬ 0 ≤ ((gI M a3 (Int32.toNatClampNeg x5)) - (gI M a3 (Int32.toNatClampNeg (gI M h0 22)))) → B_X6_costOf_101 Q  n h0 x2 (x4 + (-((gI M a3 (Int32.toNatClampNeg x5)) - (gI M a3 (Int32.toNatClampNeg (gI M h0 22)))))) (x5 + 1) M))))))))
set_option maxHeartbeats 4000000 in
set_option maxRecDepth 100000 in
theorem k_X6_costOf_101 {p : Program} {l : Launch} {e : Env} {s : State} {m : MethodId} {args : Array Value} {below : List Frame} {meth : Method} {c : Code} {D : va_G} {cy : Nat → ClassId} {A : Nat → Prop} {Q : Int32 → Mm → Prop} (E : Ex p m c cX6_costOf 7 s args RX6 D cy A) (hr : meth.sig.returnType = (some .int)) (hlk : meth.locks = false) : ∀ (n : Nat), ∀ (h0 : Nat) (x2 : Int32) (x4 : Int32) (x5 : Int32) (M : Mm) (H : Heap) (locs : List Loc) (ls : Array Slot), B_X6_costOf_101 Q  n h0 x2 x4 x5 M → Wd D cy A s M H locs → lh ls 7 [(0, rv (some h0)), (2, iv x2), (4, iv x4), (5, iv x5)] → W p l e (rmm 0 0 0) s m args below meth c H locs 0 0 (MQ below (va_Qi Q (Po D cy A) A) args s 0 0 A) (F0 m 101 ls []) := by
  obtain ⟨hx, hb, hml, hown, hts⟩ := E.1
  intro n
  induction n with
  | zero => intro h0 x2 x4 x5 M H locs ls h; exact False.elim h
  | succ n ih =>
    intro h0 x2 x4 x5 M H locs ls h w hl
    unfold B_X6_costOf_101 at h
    refine lv_iload (x := x5) hx hb dX6_costOf_101 (lh_at hl 3 rfl) ?_
    refine lv_iload_n (x := x2) hx hb dX6_costOf_103 rfl (lh_at hl 1 rfl) ?_
    refine lv_icmp_ge (tgt := 150) hx hb dX6_costOf_104 (by decide) (fun c1 => ?_) (fun c1 => ?_)
    · have h := h.1 c1
      refine lv_iload (x := x4) hx hb dX6_costOf_150 (lh_at hl 2 rfl) ?_
      exact r_iret E w hr hlk h (Nat.le_refl 0) (Nat.le_refl 0) dX6_costOf_152
    · have h := h.2 c1
      refine r_aload_n (x := (some h0)) hx hb dX6_costOf_107 rfl (lh_at hl 0 rfl) ?_
      obtain ⟨ho2, h⟩ := h
      refine r_getR E w rfl ho2 cl_X6 12 rfl fl_X6_32 dX6_costOf_108 ?_
      refine lv_iload (x := x5) hx hb dX6_costOf_111 (lh_at hl 3 rfl) ?_
      obtain ⟨a3, ea3, h⟩ := h
      obtain ⟨ha4, h⟩ := h
      refine r_iald E w ea3 ha4 dX6_costOf_113 ?_
      refine r_aload_n (x := (some h0)) hx hb dX6_costOf_114 rfl (lh_at hl 0 rfl) ?_
      refine r_getR E w rfl ho2 cl_X6 12 rfl fl_X6_32 dX6_costOf_115 ?_
      refine r_aload_n (x := (some h0)) hx hb dX6_costOf_118 rfl (lh_at hl 0 rfl) ?_
      refine r_getI E w rfl ho2 cl_X6 22 rfl fl_X6_123 dX6_costOf_119 ?_
      obtain ⟨ha5, h⟩ := h
      refine r_iald E w ea3 ha5 dX6_costOf_122 ?_
      refine lv_isub hx hb dX6_costOf_123 ?_
      refine r_istore (lv' := [(6, iv ((gI M a3 (Int32.toNatClampNeg x5)) - (gI M a3 (Int32.toNatClampNeg (gI M h0 22))))), (0, rv (some h0)), (2, iv x2), (4, iv x4), (5, iv x5)]) hx hb dX6_costOf_124 hl (by decide) rfl (fun ls hl => ?_)
      refine lv_iload (x := x4) hx hb dX6_costOf_126 (lh_at hl 3 rfl) ?_
      refine lv_iload (x := ((gI M a3 (Int32.toNatClampNeg x5)) - (gI M a3 (Int32.toNatClampNeg (gI M h0 22))))) hx hb dX6_costOf_128 (lh_at hl 0 rfl) ?_
      refine lv_if_ge (tgt := 139) hx hb dX6_costOf_130 (by decide) (fun c6 => ?_) (fun c6 => ?_)
      · have h := h.1 c6
        refine lv_iload (x := ((gI M a3 (Int32.toNatClampNeg x5)) - (gI M a3 (Int32.toNatClampNeg (gI M h0 22))))) hx hb dX6_costOf_139 (lh_at hl 0 rfl) ?_
        refine lv_iadd hx hb dX6_costOf_141 ?_
        refine r_istore (lv' := [(4, iv (x4 + ((gI M a3 (Int32.toNatClampNeg x5)) - (gI M a3 (Int32.toNatClampNeg (gI M h0 22)))))), (6, iv ((gI M a3 (Int32.toNatClampNeg x5)) - (gI M a3 (Int32.toNatClampNeg (gI M h0 22))))), (0, rv (some h0)), (2, iv x2), (5, iv x5)]) hx hb dX6_costOf_142 hl (by decide) rfl (fun ls hl => ?_)
        refine r_iinc (k := 4) (x := x5) (v := (x5 + 1)) (lv' := [(5, iv (x5 + 1)), (4, iv (x4 + ((gI M a3 (Int32.toNatClampNeg x5)) - (gI M a3 (Int32.toNatClampNeg (gI M h0 22)))))), (6, iv ((gI M a3 (Int32.toNatClampNeg x5)) - (gI M a3 (Int32.toNatClampNeg (gI M h0 22))))), (0, rv (some h0)), (2, iv x2)]) hx hb dX6_costOf_144 hl rfl rfl (by decide) rfl (fun ls hl => ?_)
        refine lv_goto (tgt := 101) hx hb dX6_costOf_147 (by decide) ?_
        exact ih _ _ _ _ _ _ _ _ h w (lh_sub hl [3, 4, 1, 0] rfl)
      · have h := h.2 c6
        refine lv_iload (x := ((gI M a3 (Int32.toNatClampNeg x5)) - (gI M a3 (Int32.toNatClampNeg (gI M h0 22))))) hx hb dX6_costOf_133 (lh_at hl 0 rfl) ?_
        refine lv_ineg hx hb dX6_costOf_135 ?_
        refine lv_goto (tgt := 141) hx hb dX6_costOf_136 (by decide) ?_
        refine lv_iadd hx hb dX6_costOf_141 ?_
        refine r_istore (lv' := [(4, iv (x4 + (-((gI M a3 (Int32.toNatClampNeg x5)) - (gI M a3 (Int32.toNatClampNeg (gI M h0 22))))))), (6, iv ((gI M a3 (Int32.toNatClampNeg x5)) - (gI M a3 (Int32.toNatClampNeg (gI M h0 22))))), (0, rv (some h0)), (2, iv x2), (5, iv x5)]) hx hb dX6_costOf_142 hl (by decide) rfl (fun ls hl => ?_)
        refine r_iinc (k := 4) (x := x5) (v := (x5 + 1)) (lv' := [(5, iv (x5 + 1)), (4, iv (x4 + (-((gI M a3 (Int32.toNatClampNeg x5)) - (gI M a3 (Int32.toNatClampNeg (gI M h0 22))))))), (6, iv ((gI M a3 (Int32.toNatClampNeg x5)) - (gI M a3 (Int32.toNatClampNeg (gI M h0 22))))), (0, rv (some h0)), (2, iv x2)]) hx hb dX6_costOf_144 hl rfl rfl (by decide) rfl (fun ls hl => ?_)
        refine lv_goto (tgt := 101) hx hb dX6_costOf_147 (by decide) ?_
        exact ih _ _ _ _ _ _ _ _ h w (lh_sub hl [3, 4, 1, 0] rfl)
def B_X6_costOf_65 (Q : Int32 → Mm → Prop) (K5 : Nat → Int32 → Int32 → Int32 → Int32 → Mm → Prop) (h0 : Nat) (x1 : Int32) (x2 : Int32) (x3 : Int32) (x4 : Int32) (x5 : Int32) (M : Mm) : Prop := (ok M h0 6 ∧ (∃ a2, (gR M h0 21) = some a2 ∧ (ar M a2 7 x5 ∧ (∀ M4, M4 = pI M a2 (Int32.toNatClampNeg x5) x4 → K5 h0 x1 x2 (x3 + 1) (x4 + 1) M4))))
set_option maxHeartbeats 4000000 in
set_option maxRecDepth 100000 in
theorem k_X6_costOf_65 {p : Program} {l : Launch} {e : Env} {s : State} {m : MethodId} {args : Array Value} {below : List Frame} {meth : Method} {c : Code} {D : va_G} {cy : Nat → ClassId} {A : Nat → Prop} {Q : Int32 → Mm → Prop} (E : Ex p m c cX6_costOf 7 s args RX6 D cy A) (hr : meth.sig.returnType = (some .int)) (hlk : meth.locks = false) {K5 : Nat → Int32 → Int32 → Int32 → Int32 → Mm → Prop} (hK5 : ∀ (h0 : Nat) (x1 : Int32) (x2 : Int32) (x3 : Int32) (x4 : Int32) (M : Mm) (H : Heap) (locs : List Loc) (ls : Array Slot), K5 h0 x1 x2 x3 x4 M → Wd D cy A s M H locs → lh ls 7 [(0, rv (some h0)), (1, iv x1), (2, iv x2), (3, iv x3), (4, iv x4)] → W p l e (rmm 0 0 0) s m args below meth c H locs 0 0 (MQ below (va_Qi Q (Po D cy A) A) args s 0 0 A) (F0 m 5 ls [])) : ∀ (h0 : Nat) (x1 : Int32) (x2 : Int32) (x3 : Int32) (x4 : Int32) (x5 : Int32) (M : Mm) (H : Heap) (locs : List Loc) (ls : Array Slot), B_X6_costOf_65 Q K5 h0 x1 x2 x3 x4 x5 M → Wd D cy A s M H locs → lh ls 7 [(0, rv (some h0)), (1, iv x1), (2, iv x2), (3, iv x3), (4, iv x4), (5, iv x5)] → W p l e (rmm 0 0 0) s m args below meth c H locs 0 0 (MQ below (va_Qi Q (Po D cy A) A) args s 0 0 A) (F0 m 65 ls []) := by
  obtain ⟨hx, hb, hml, hown, hts⟩ := E.1
  intro h0 x1 x2 x3 x4 x5 M H locs ls h w hl
  unfold B_X6_costOf_65 at h
  refine r_aload_n (x := (some h0)) hx hb dX6_costOf_65 rfl (lh_at hl 0 rfl) ?_
  obtain ⟨ho1, h⟩ := h
  refine r_getR E w rfl ho1 cl_X6 21 rfl fl_X6_50 dX6_costOf_66 ?_
  refine lv_iload (x := x5) hx hb dX6_costOf_69 (lh_at hl 5 rfl) ?_
  refine lv_iload (x := x4) hx hb dX6_costOf_71 (lh_at hl 4 rfl) ?_
  obtain ⟨a2, ea2, h⟩ := h
  obtain ⟨ha3, h⟩ := h
  refine r_iast (v := x4) E w ea2 ha3 dX6_costOf_73 (fun H locs w => ?_)
  obtain ⟨M4, eM4⟩ : ∃ z, z = pI M a2 (Int32.toNatClampNeg x5) x4 := ⟨_, rfl⟩
  rw [← eM4] at w
  have h := h M4 eM4
  refine r_iinc (k := 3) (x := x3) (v := (x3 + 1)) (lv' := [(3, iv (x3 + 1)), (0, rv (some h0)), (1, iv x1), (2, iv x2), (4, iv x4), (5, iv x5)]) hx hb dX6_costOf_74 hl rfl rfl (by decide) rfl (fun ls hl => ?_)
  refine r_iinc (k := 4) (x := x4) (v := (x4 + 1)) (lv' := [(4, iv (x4 + 1)), (3, iv (x3 + 1)), (0, rv (some h0)), (1, iv x1), (2, iv x2), (5, iv x5)]) hx hb dX6_costOf_77 hl rfl rfl (by decide) rfl (fun ls hl => ?_)
  refine lv_goto (tgt := 5) hx hb dX6_costOf_80 (by decide) ?_
  exact hK5 _ _ _ _ _ _ _ _ _ h w (lh_sub hl [2, 3, 4, 1, 0] rfl)
def B_X6_costOf_14 (Q : Int32 → Mm → Prop) (K5 : Nat → Int32 → Int32 → Int32 → Int32 → Mm → Prop) : Nat → Nat → Int32 → Int32 → Int32 → Int32 → Int32 → Mm → Prop
  | 0, _, _, _, _, _, _, _ => False
  | n + 1, h0, x1, x2, x3, x4, x5, M => ((x5 ≤ 0 → B_X6_costOf_65 Q K5 h0 x1 x2 x3 x4 x5 M) ∧ (¬ x5 ≤ 0 → (ok M h0 6 ∧ (∃ a3, (gR M h0 21) = some a3 ∧ (ar M a3 7 (x5 - (1 : Int32)) ∧ (∃ a5, (gR M h0 12) = some a5 ∧ (ar M a5 7 (gI M a3 (Int32.toNatClampNeg (x5 - (1 : Int32)))) ∧ (ar M a5 7 x4 ∧ (((gI M a5 (Int32.toNatClampNeg (gI M a3 (Int32.toNatClampNeg (x5 - (1 : Int32)))))) ≤ (gI M a5 (Int32.toNatClampNeg x4)) → B_X6_costOf_65 Q K5 h0 x1 x2 x3 x4 x5 M) ∧ (¬ (gI M a5 (Int32.toNatClampNeg (gI M a3 (Int32.toNatClampNeg (x5 - (1 : Int32)))))) ≤ (gI M a5 (Int32.toNatClampNeg x4)) → (ar M a3 7 (x5 - (1 : Int32)) ∧ (ar M a3 7 x5 ∧ (∀ M11, M11 = pI M a3 (Int32.toNatClampNeg x5) (gI M a3 (Int32.toNatClampNeg (x5 - (1 : Int32)))) → B_X6_costOf_14 Q K5 n h0 x1 x2 x3 x4 (x5 + (-1)) M11)))))))))))))
set_option maxHeartbeats 4000000 in
set_option maxRecDepth 100000 in
theorem k_X6_costOf_14 {p : Program} {l : Launch} {e : Env} {s : State} {m : MethodId} {args : Array Value} {below : List Frame} {meth : Method} {c : Code} {D : va_G} {cy : Nat → ClassId} {A : Nat → Prop} {Q : Int32 → Mm → Prop} (E : Ex p m c cX6_costOf 7 s args RX6 D cy A) (hr : meth.sig.returnType = (some .int)) (hlk : meth.locks = false) {K5 : Nat → Int32 → Int32 → Int32 → Int32 → Mm → Prop} (hK5 : ∀ (h0 : Nat) (x1 : Int32) (x2 : Int32) (x3 : Int32) (x4 : Int32) (M : Mm) (H : Heap) (locs : List Loc) (ls : Array Slot), K5 h0 x1 x2 x3 x4 M → Wd D cy A s M H locs → lh ls 7 [(0, rv (some h0)), (1, iv x1), (2, iv x2), (3, iv x3), (4, iv x4)] → W p l e (rmm 0 0 0) s m args below meth c H locs 0 0 (MQ below (va_Qi Q (Po D cy A) A) args s 0 0 A) (F0 m 5 ls [])) : ∀ (n : Nat), ∀ (h0 : Nat) (x1 : Int32) (x2 : Int32) (x3 : Int32) (x4 : Int32) (x5 : Int32) (M : Mm) (H : Heap) (locs : List Loc) (ls : Array Slot), B_X6_costOf_14 Q K5 n h0 x1 x2 x3 x4 x5 M → Wd D cy A s M H locs → lh ls 7 [(0, rv (some h0)), (1, iv x1), (2, iv x2), (3, iv x3), (4, iv x4), (5, iv x5)] → W p l e (rmm 0 0 0) s m args below meth c H locs 0 0 (MQ below (va_Qi Q (Po D cy A) A) args s 0 0 A) (F0 m 14 ls []) := by
  obtain ⟨hx, hb, hml, hown, hts⟩ := E.1
  intro n
  induction n with
  | zero => intro h0 x1 x2 x3 x4 x5 M H locs ls h; exact False.elim h
  | succ n ih =>
    intro h0 x1 x2 x3 x4 x5 M H locs ls h w hl
    unfold B_X6_costOf_14 at h
    refine lv_iload (x := x5) hx hb dX6_costOf_14 (lh_at hl 5 rfl) ?_
    refine lv_if_le (tgt := 65) hx hb dX6_costOf_16 (by decide) (fun c1 => ?_) (fun c1 => ?_)
    · have h := h.1 c1
      exact k_X6_costOf_65 E hr hlk hK5 _ _ _ _ _ _ _ _ _ _ h w (lh_sub hl [0, 1, 2, 3, 4, 5] rfl)
    · have h := h.2 c1
      refine r_aload_n (x := (some h0)) hx hb dX6_costOf_19 rfl (lh_at hl 0 rfl) ?_
      obtain ⟨ho2, h⟩ := h
      refine r_getR E w rfl ho2 cl_X6 12 rfl fl_X6_32 dX6_costOf_20 ?_
      refine r_aload_n (x := (some h0)) hx hb dX6_costOf_23 rfl (lh_at hl 0 rfl) ?_
      refine r_getR E w rfl ho2 cl_X6 21 rfl fl_X6_50 dX6_costOf_24 ?_
      refine lv_iload (x := x5) hx hb dX6_costOf_27 (lh_at hl 5 rfl) ?_
      refine lv_iconst (v := (1 : Int32)) hx hb dX6_costOf_29 (by decide) ?_
      refine lv_isub hx hb dX6_costOf_30 ?_
      obtain ⟨a3, ea3, h⟩ := h
      obtain ⟨ha4, h⟩ := h
      refine r_iald E w ea3 ha4 dX6_costOf_31 ?_
      obtain ⟨a5, ea5, h⟩ := h
      obtain ⟨ha6, h⟩ := h
      refine r_iald E w ea5 ha6 dX6_costOf_32 ?_
      refine r_aload_n (x := (some h0)) hx hb dX6_costOf_33 rfl (lh_at hl 0 rfl) ?_
      refine r_getR E w rfl ho2 cl_X6 12 rfl fl_X6_32 dX6_costOf_34 ?_
      refine lv_iload (x := x4) hx hb dX6_costOf_37 (lh_at hl 4 rfl) ?_
      obtain ⟨ha7, h⟩ := h
      refine r_iald E w ea5 ha7 dX6_costOf_39 ?_
      refine lv_icmp_le (tgt := 65) hx hb dX6_costOf_40 (by decide) (fun c8 => ?_) (fun c8 => ?_)
      · have h := h.1 c8
        exact k_X6_costOf_65 E hr hlk hK5 _ _ _ _ _ _ _ _ _ _ h w (lh_sub hl [0, 1, 2, 3, 4, 5] rfl)
      · have h := h.2 c8
        refine r_aload_n (x := (some h0)) hx hb dX6_costOf_43 rfl (lh_at hl 0 rfl) ?_
        refine r_getR E w rfl ho2 cl_X6 21 rfl fl_X6_50 dX6_costOf_44 ?_
        refine lv_iload (x := x5) hx hb dX6_costOf_47 (lh_at hl 5 rfl) ?_
        refine r_aload_n (x := (some h0)) hx hb dX6_costOf_49 rfl (lh_at hl 0 rfl) ?_
        refine r_getR E w rfl ho2 cl_X6 21 rfl fl_X6_50 dX6_costOf_50 ?_
        refine lv_iload (x := x5) hx hb dX6_costOf_53 (lh_at hl 5 rfl) ?_
        refine lv_iconst (v := (1 : Int32)) hx hb dX6_costOf_55 (by decide) ?_
        refine lv_isub hx hb dX6_costOf_56 ?_
        obtain ⟨ha9, h⟩ := h
        refine r_iald E w ea3 ha9 dX6_costOf_57 ?_
        obtain ⟨ha10, h⟩ := h
        refine r_iast (v := (gI M a3 (Int32.toNatClampNeg (x5 - (1 : Int32))))) E w ea3 ha10 dX6_costOf_58 (fun H locs w => ?_)
        obtain ⟨M11, eM11⟩ : ∃ z, z = pI M a3 (Int32.toNatClampNeg x5) (gI M a3 (Int32.toNatClampNeg (x5 - (1 : Int32)))) := ⟨_, rfl⟩
        rw [← eM11] at w
        have h := h M11 eM11
        refine r_iinc (k := 5) (x := x5) (v := (x5 + (-1))) (lv' := [(5, iv (x5 + (-1))), (0, rv (some h0)), (1, iv x1), (2, iv x2), (3, iv x3), (4, iv x4)]) hx hb dX6_costOf_59 hl rfl rfl (by decide) rfl (fun ls hl => ?_)
        refine lv_goto (tgt := 14) hx hb dX6_costOf_62 (by decide) ?_
        exact ih _ _ _ _ _ _ _ _ _ _ h w (lh_sub hl [1, 2, 3, 4, 5, 0] rfl)
def B_X6_costOf_5 (Q : Int32 → Mm → Prop)  : Nat → Nat → Int32 → Int32 → Int32 → Int32 → Mm → Prop
  | 0, _, _, _, _, _, _ => False
  | n + 1, h0, x1, x2, x3, x4, M => ((x2 ≤ x4 → (ok M h0 6 ∧ (∃ a3, (gR M h0 21) = some a3 ∧ (ar M a3 7 (x3 / (2 : Int32)) ∧ (∀ M5, M5 = pI M h0 22 (gI M a3 (Int32.toNatClampNeg (x3 / (2 : Int32)))) → (∃ n6, B_X6_costOf_101 Q  n6 h0 x2 (0 : Int32) x1 M5)))))) ∧ (¬ x2 ≤ x4 → (∃ n7, B_X6_costOf_14 Q (fun y0 y1 y2 y3 y4 My => B_X6_costOf_5 Q n y0 y1 y2 y3 y4 My) n7 h0 x1 x2 x3 x4 x3 M)))
set_option maxHeartbeats 4000000 in
set_option maxRecDepth 100000 in
theorem k_X6_costOf_5 {p : Program} {l : Launch} {e : Env} {s : State} {m : MethodId} {args : Array Value} {below : List Frame} {meth : Method} {c : Code} {D : va_G} {cy : Nat → ClassId} {A : Nat → Prop} {Q : Int32 → Mm → Prop} (E : Ex p m c cX6_costOf 7 s args RX6 D cy A) (hr : meth.sig.returnType = (some .int)) (hlk : meth.locks = false) : ∀ (n : Nat), ∀ (h0 : Nat) (x1 : Int32) (x2 : Int32) (x3 : Int32) (x4 : Int32) (M : Mm) (H : Heap) (locs : List Loc) (ls : Array Slot), B_X6_costOf_5 Q  n h0 x1 x2 x3 x4 M → Wd D cy A s M H locs → lh ls 7 [(0, rv (some h0)), (1, iv x1), (2, iv x2), (3, iv x3), (4, iv x4)] → W p l e (rmm 0 0 0) s m args below meth c H locs 0 0 (MQ below (va_Qi Q (Po D cy A) A) args s 0 0 A) (F0 m 5 ls []) := by
  obtain ⟨hx, hb, hml, hown, hts⟩ := E.1
  intro n
  induction n with
  | zero => intro h0 x1 x2 x3 x4 M H locs ls h; exact False.elim h
  | succ n ih =>
    intro h0 x1 x2 x3 x4 M H locs ls h w hl
    unfold B_X6_costOf_5 at h
    refine lv_iload (x := x4) hx hb dX6_costOf_5 (lh_at hl 4 rfl) ?_
    refine lv_iload_n (x := x2) hx hb dX6_costOf_7 rfl (lh_at hl 2 rfl) ?_
    refine lv_icmp_ge (tgt := 83) hx hb dX6_costOf_8 (by decide) (fun c1 => ?_) (fun c1 => ?_)
    · have h := h.1 c1
      refine r_aload_n (x := (some h0)) hx hb dX6_costOf_83 rfl (lh_at hl 0 rfl) ?_
      refine r_aload_n (x := (some h0)) hx hb dX6_costOf_84 rfl (lh_at hl 0 rfl) ?_
      obtain ⟨ho2, h⟩ := h
      refine r_getR E w rfl ho2 cl_X6 21 rfl fl_X6_50 dX6_costOf_85 ?_
      refine lv_iload_n (x := x3) hx hb dX6_costOf_88 rfl (lh_at hl 3 rfl) ?_
      refine lv_iconst (v := (2 : Int32)) hx hb dX6_costOf_89 (by decide) ?_
      refine lv_idiv hx hb dX6_costOf_90 (by decide) ?_
      obtain ⟨a3, ea3, h⟩ := h
      obtain ⟨ha4, h⟩ := h
      refine r_iald E w ea3 ha4 dX6_costOf_91 ?_
      refine r_putI (v := (gI M a3 (Int32.toNatClampNeg (x3 / (2 : Int32))))) E w rfl ho2 cl_X6 22 rfl fl_X6_123 (Or.inl rfl) (Or.inl rfl) dX6_costOf_92 (fun H locs w => ?_)
      obtain ⟨M5, eM5⟩ : ∃ z, z = pI M h0 22 (gI M a3 (Int32.toNatClampNeg (x3 / (2 : Int32)))) := ⟨_, rfl⟩
      rw [← eM5] at w
      have h := h M5 eM5
      refine lv_iconst (v := (0 : Int32)) hx hb dX6_costOf_95 (by decide) ?_
      refine r_istore (lv' := [(4, iv (0 : Int32)), (0, rv (some h0)), (1, iv x1), (2, iv x2), (3, iv x3)]) hx hb dX6_costOf_96 hl (by decide) rfl (fun ls hl => ?_)
      refine lv_iload_n (x := x1) hx hb dX6_costOf_98 rfl (lh_at hl 2 rfl) ?_
      refine r_istore (lv' := [(5, iv x1), (4, iv (0 : Int32)), (0, rv (some h0)), (1, iv x1), (2, iv x2), (3, iv x3)]) hx hb dX6_costOf_99 hl (by decide) rfl (fun ls hl => ?_)
      obtain ⟨n6, h⟩ := h
      exact k_X6_costOf_101 E hr hlk  n6 _ _ _ _ _ _ _ _ h w (lh_sub hl [2, 4, 1, 0] rfl)
    · have h := h.2 c1
      refine lv_iload_n (x := x3) hx hb dX6_costOf_11 rfl (lh_at hl 3 rfl) ?_
      refine r_istore (lv' := [(5, iv x3), (0, rv (some h0)), (1, iv x1), (2, iv x2), (3, iv x3), (4, iv x4)]) hx hb dX6_costOf_12 hl (by decide) rfl (fun ls hl => ?_)
      obtain ⟨n7, h⟩ := h
      exact k_X6_costOf_14 E hr hlk ih n7 _ _ _ _ _ _ _ _ _ _ h w (lh_sub hl [1, 2, 3, 4, 5, 0] rfl)
def B_X6_costOf_0 (Q : Int32 → Mm → Prop)  (h0 : Nat) (x1 : Int32) (x2 : Int32) (M : Mm) : Prop := (∃ n1, B_X6_costOf_5 Q  n1 h0 x1 x2 (0 : Int32) x1 M)
set_option maxHeartbeats 4000000 in
set_option maxRecDepth 100000 in
theorem k_X6_costOf_0 {p : Program} {l : Launch} {e : Env} {s : State} {m : MethodId} {args : Array Value} {below : List Frame} {meth : Method} {c : Code} {D : va_G} {cy : Nat → ClassId} {A : Nat → Prop} {Q : Int32 → Mm → Prop} (E : Ex p m c cX6_costOf 7 s args RX6 D cy A) (hr : meth.sig.returnType = (some .int)) (hlk : meth.locks = false) : ∀ (h0 : Nat) (x1 : Int32) (x2 : Int32) (M : Mm) (H : Heap) (locs : List Loc) (ls : Array Slot), B_X6_costOf_0 Q  h0 x1 x2 M → Wd D cy A s M H locs → lh ls 7 [(0, rv (some h0)), (1, iv x1), (2, iv x2)] → W p l e (rmm 0 0 0) s m args below meth c H locs 0 0 (MQ below (va_Qi Q (Po D cy A) A) args s 0 0 A) (F0 m 0 ls []) := by
  obtain ⟨hx, hb, hml, hown, hts⟩ := E.1
  intro h0 x1 x2 M H locs ls h w hl
  unfold B_X6_costOf_0 at h
  refine lv_iconst (v := (0 : Int32)) hx hb dX6_costOf_0 (by decide) ?_
  refine r_istore_n (lv' := [(3, iv (0 : Int32)), (0, rv (some h0)), (1, iv x1), (2, iv x2)]) hx hb dX6_costOf_1 rfl hl (by decide) rfl (fun ls hl => ?_)
  refine lv_iload_n (x := x1) hx hb dX6_costOf_2 rfl (lh_at hl 2 rfl) ?_
  refine r_istore (lv' := [(4, iv x1), (3, iv (0 : Int32)), (0, rv (some h0)), (1, iv x1), (2, iv x2)]) hx hb dX6_costOf_3 hl (by decide) rfl (fun ls hl => ?_)
  obtain ⟨n1, h⟩ := h
  exact k_X6_costOf_5 E hr hlk  n1 _ _ _ _ _ _ _ _ _ h w (lh_sub hl [2, 3, 4, 1, 0] rfl)
theorem K_X6_costOf {l : Launch} {Q : Int32 → Mm → Prop} {h0 : Nat} {x1 : Int32} {x2 : Int32} {M : Mm} (h : B_X6_costOf_0 Q h0 x1 x2 M) : KI l yX6_costOf cdX6_costOf (rmm 0 0 0) [rv (some h0), iv x1, iv x2] M Q :=
  KI_of (by decide) rfl (Nat.le_of_ble_eq_true rfl) (fun p e s m args below meth c D cy A ls E hr hlk hn w hl => k_X6_costOf_0 E hr hlk _ _ _ _ _ _ _ h w hl)
def B_X6_layCuts_196 (Q : Mm → Prop)  : Nat → Nat → Int32 → Mm → Prop
  | 0, _, _, _ => False
  | n + 1, h0, x2, M => (ok M h0 6 ∧ (((gI M h0 9) ≤ x2 → (∃ a3, (gR M h0 19) = some a3 ∧ (ar M a3 7 (gI M h0 18) ∧ (∀ M5, M5 = pI M a3 (Int32.toNatClampNeg (gI M h0 18)) (gI M h0 9) → Q M5)))) ∧ (¬ (gI M h0 9) ≤ x2 → (∃ a6, (gR M h0 17) = some a6 ∧ (ar M a6 7 x2 ∧ (B_X6_costOf_0 (fun r9 M8 => (ok M8 h0 6 ∧ (∃ a11, (gR M8 h0 19) = some a11 ∧ (ar M8 a11 7 (gI M8 h0 18) ∧ (∀ M13, M13 = pI M8 a11 (Int32.toNatClampNeg (gI M8 h0 18)) x2 → (∃ a14, (gR M13 h0 11) = some a14 ∧ (ar M13 a14 7 (gI M13 h0 22) ∧ (∃ a16, (gR M13 h0 20) = some a16 ∧ (ar M13 a16 7 (gI M13 h0 18) ∧ (∀ M18, M18 = pI M13 a16 (Int32.toNatClampNeg (gI M13 h0 18)) (gI M13 a14 (Int32.toNatClampNeg (gI M13 h0 22))) → (∀ M19, M19 = pI M18 h0 18 ((gI M18 h0 18) + (1 : Int32)) → (∃ a20, (gR M19 h0 17) = some a20 ∧ (ar M19 a20 7 x2 ∧ B_X6_layCuts_196 Q  n h0 (gI M19 a20 (Int32.toNatClampNeg x2)) M19))))))))))))) h0 x2 (gI M a6 (Int32.toNatClampNeg x2)) M))))))
set_option maxHeartbeats 4000000 in
set_option maxRecDepth 100000 in
theorem k_X6_layCuts_196 {p : Program} {l : Launch} {e : Env} {s : State} {m : MethodId} {args : Array Value} {below : List Frame} {meth : Method} {c : Code} {D : va_G} {cy : Nat → ClassId} {A : Nat → Prop} {Q : Mm → Prop} (E : Ex p m c cX6_layCuts 6 s args RX6 D cy A) (hr : meth.sig.returnType = none) (hlk : meth.locks = false) : ∀ (n : Nat), ∀ (h0 : Nat) (x2 : Int32) (M : Mm) (H : Heap) (locs : List Loc) (ls : Array Slot), B_X6_layCuts_196 Q  n h0 x2 M → Wd D cy A s M H locs → lh ls 6 [(0, rv (some h0)), (2, iv x2)] → W p l e (rmm 1 0 0) s m args below meth c H locs 0 0 (MQ below (va_Qv Q (Po D cy A) A) args s 0 0 A) (F0 m 196 ls []) := by
  obtain ⟨hx, hb, hml, hown, hts⟩ := E.1
  intro n
  induction n with
  | zero => intro h0 x2 M H locs ls h; exact False.elim h
  | succ n ih =>
    intro h0 x2 M H locs ls h w hl
    unfold B_X6_layCuts_196 at h
    refine lv_iload_n (x := x2) hx hb dX6_layCuts_196 rfl (lh_at hl 1 rfl) ?_
    refine r_aload_n (x := (some h0)) hx hb dX6_layCuts_197 rfl (lh_at hl 0 rfl) ?_
    obtain ⟨ho1, h⟩ := h
    refine r_getI E w rfl ho1 cl_X6 9 rfl fl_X6_112 dX6_layCuts_198 ?_
    refine lv_icmp_ge (tgt := 264) hx hb dX6_layCuts_201 (by decide) (fun c2 => ?_) (fun c2 => ?_)
    · have h := h.1 c2
      refine r_aload_n (x := (some h0)) hx hb dX6_layCuts_264 rfl (lh_at hl 0 rfl) ?_
      refine r_getR E w rfl ho1 cl_X6 19 rfl fl_X6_44 dX6_layCuts_265 ?_
      refine r_aload_n (x := (some h0)) hx hb dX6_layCuts_268 rfl (lh_at hl 0 rfl) ?_
      refine r_getI E w rfl ho1 cl_X6 18 rfl fl_X6_132 dX6_layCuts_269 ?_
      refine r_aload_n (x := (some h0)) hx hb dX6_layCuts_272 rfl (lh_at hl 0 rfl) ?_
      refine r_getI E w rfl ho1 cl_X6 9 rfl fl_X6_112 dX6_layCuts_273 ?_
      obtain ⟨a3, ea3, h⟩ := h
      obtain ⟨ha4, h⟩ := h
      refine r_iast (v := (gI M h0 9)) E w ea3 ha4 dX6_layCuts_276 (fun H locs w => ?_)
      obtain ⟨M5, eM5⟩ : ∃ z, z = pI M a3 (Int32.toNatClampNeg (gI M h0 18)) (gI M h0 9) := ⟨_, rfl⟩
      rw [← eM5] at w
      have h := h M5 eM5
      exact r_vret E w hr hlk h (Nat.le_refl 0) (Nat.le_refl 0) dX6_layCuts_277
    · have h := h.2 c2
      refine r_aload_n (x := (some h0)) hx hb dX6_layCuts_204 rfl (lh_at hl 0 rfl) ?_
      refine lv_iload_n (x := x2) hx hb dX6_layCuts_205 rfl (lh_at hl 1 rfl) ?_
      refine r_aload_n (x := (some h0)) hx hb dX6_layCuts_206 rfl (lh_at hl 0 rfl) ?_
      refine r_getR E w rfl ho1 cl_X6 17 rfl fl_X6_41 dX6_layCuts_207 ?_
      refine lv_iload_n (x := x2) hx hb dX6_layCuts_210 rfl (lh_at hl 1 rfl) ?_
      obtain ⟨a6, ea6, h⟩ := h
      obtain ⟨ha7, h⟩ := h
      refine r_iald E w ea6 ha7 dX6_layCuts_211 ?_
      refine z_callVi E w rfl ho1 cl_X6 yk_X6_costOf ⟨Nat.le_of_ble_eq_true rfl, Nat.le_of_ble_eq_true rfl⟩ ⟨(Nat.zero_le _), (Nat.zero_le _)⟩ rfl ml_X6_129 im_X6_costOf sl_X6_costOf [iv x2, iv (gI M a6 (Int32.toNatClampNeg x2))] rfl rfl hl [] rfl (Nat.le_of_ble_eq_true rfl) (K_X6_costOf h) dX6_layCuts_212 (fun r9 M8 H locs h w => ?_)
      refine r_istore_n (lv' := [(3, iv r9), (0, rv (some h0)), (2, iv x2)]) hx hb dX6_layCuts_215 rfl hl (by decide) rfl (fun ls hl => ?_)
      refine r_aload_n (x := (some h0)) hx hb dX6_layCuts_216 rfl (lh_at hl 1 rfl) ?_
      obtain ⟨ho10, h⟩ := h
      refine r_getR E w rfl ho10 cl_X6 19 rfl fl_X6_44 dX6_layCuts_217 ?_
      refine r_aload_n (x := (some h0)) hx hb dX6_layCuts_220 rfl (lh_at hl 1 rfl) ?_
      refine r_getI E w rfl ho10 cl_X6 18 rfl fl_X6_132 dX6_layCuts_221 ?_
      refine lv_iload_n (x := x2) hx hb dX6_layCuts_224 rfl (lh_at hl 2 rfl) ?_
      obtain ⟨a11, ea11, h⟩ := h
      obtain ⟨ha12, h⟩ := h
      refine r_iast (v := x2) E w ea11 ha12 dX6_layCuts_225 (fun H locs w => ?_)
      obtain ⟨M13, eM13⟩ : ∃ z, z = pI M8 a11 (Int32.toNatClampNeg (gI M8 h0 18)) x2 := ⟨_, rfl⟩
      rw [← eM13] at w
      have h := h M13 eM13
      refine r_aload_n (x := (some h0)) hx hb dX6_layCuts_226 rfl (lh_at hl 1 rfl) ?_
      have ho10 : ok M13 h0 6 := by rw [eM13]; exact ho10
      refine r_getR E w rfl ho10 cl_X6 20 rfl fl_X6_47 dX6_layCuts_227 ?_
      refine r_aload_n (x := (some h0)) hx hb dX6_layCuts_230 rfl (lh_at hl 1 rfl) ?_
      refine r_getI E w rfl ho10 cl_X6 18 rfl fl_X6_132 dX6_layCuts_231 ?_
      refine r_aload_n (x := (some h0)) hx hb dX6_layCuts_234 rfl (lh_at hl 1 rfl) ?_
      refine r_getR E w rfl ho10 cl_X6 11 rfl fl_X6_29 dX6_layCuts_235 ?_
      refine r_aload_n (x := (some h0)) hx hb dX6_layCuts_238 rfl (lh_at hl 1 rfl) ?_
      refine r_getI E w rfl ho10 cl_X6 22 rfl fl_X6_123 dX6_layCuts_239 ?_
      obtain ⟨a14, ea14, h⟩ := h
      obtain ⟨ha15, h⟩ := h
      refine r_iald E w ea14 ha15 dX6_layCuts_242 ?_
      obtain ⟨a16, ea16, h⟩ := h
      obtain ⟨ha17, h⟩ := h
      refine r_iast (v := (gI M13 a14 (Int32.toNatClampNeg (gI M13 h0 22)))) E w ea16 ha17 dX6_layCuts_243 (fun H locs w => ?_)
      obtain ⟨M18, eM18⟩ : ∃ z, z = pI M13 a16 (Int32.toNatClampNeg (gI M13 h0 18)) (gI M13 a14 (Int32.toNatClampNeg (gI M13 h0 22))) := ⟨_, rfl⟩
      rw [← eM18] at w
      have h := h M18 eM18
      refine r_aload_n (x := (some h0)) hx hb dX6_layCuts_244 rfl (lh_at hl 1 rfl) ?_
      refine r_dupr hx hb dX6_layCuts_245 ?_
      have ho10 : ok M18 h0 6 := by rw [eM18]; exact ho10
      refine r_getI E w rfl ho10 cl_X6 18 rfl fl_X6_132 dX6_layCuts_246 ?_
      refine lv_iconst (v := (1 : Int32)) hx hb dX6_layCuts_249 (by decide) ?_
      refine lv_iadd hx hb dX6_layCuts_250 ?_
      refine r_putI (v := ((gI M18 h0 18) + (1 : Int32))) E w rfl ho10 cl_X6 18 rfl fl_X6_132 (Or.inl rfl) (Or.inl rfl) dX6_layCuts_251 (fun H locs w => ?_)
      obtain ⟨M19, eM19⟩ : ∃ z, z = pI M18 h0 18 ((gI M18 h0 18) + (1 : Int32)) := ⟨_, rfl⟩
      rw [← eM19] at w
      have h := h M19 eM19
      refine r_aload_n (x := (some h0)) hx hb dX6_layCuts_254 rfl (lh_at hl 1 rfl) ?_
      have ho10 : ok M19 h0 6 := by rw [eM19]; exact ho10
      refine r_getR E w rfl ho10 cl_X6 17 rfl fl_X6_41 dX6_layCuts_255 ?_
      refine lv_iload_n (x := x2) hx hb dX6_layCuts_258 rfl (lh_at hl 2 rfl) ?_
      obtain ⟨a20, ea20, h⟩ := h
      obtain ⟨ha21, h⟩ := h
      refine r_iald E w ea20 ha21 dX6_layCuts_259 ?_
      refine r_istore_n (lv' := [(2, iv (gI M19 a20 (Int32.toNatClampNeg x2))), (3, iv r9), (0, rv (some h0))]) hx hb dX6_layCuts_260 rfl hl (by decide) rfl (fun ls hl => ?_)
      refine lv_goto (tgt := 196) hx hb dX6_layCuts_261 (by decide) ?_
      exact ih _ _ _ _ _ _ h w (lh_sub hl [2, 0] rfl)
def B_X6_layCuts_154 (Q : Mm → Prop) (K32 : Nat → Int32 → Mm → Prop) (K48 : Nat → Int32 → Int32 → Mm → Prop) (h0 : Nat) (x2 : Int32) (x3 : Int32) (x4 : Int32) (x5 : Int32) (M : Mm) : Prop := (ok M h0 6 ∧ (∃ a2, (gR M h0 15) = some a2 ∧ (ar M a2 7 x2 ∧ (∀ M4, M4 = pI M a2 (Int32.toNatClampNeg x2) x4 → (∃ a5, (gR M4 h0 16) = some a5 ∧ (ar M4 a5 7 x2 ∧ (∀ M7, M7 = pI M4 a5 (Int32.toNatClampNeg x2) x5 → (∃ a8, (gR M7 h0 17) = some a8 ∧ (ar M7 a8 7 x2 ∧ (∀ M10, M10 = pI M7 a8 (Int32.toNatClampNeg x2) x3 → K48 h0 x2 (x3 + 1) M10))))))))))
set_option maxHeartbeats 4000000 in
set_option maxRecDepth 100000 in
theorem k_X6_layCuts_154 {p : Program} {l : Launch} {e : Env} {s : State} {m : MethodId} {args : Array Value} {below : List Frame} {meth : Method} {c : Code} {D : va_G} {cy : Nat → ClassId} {A : Nat → Prop} {Q : Mm → Prop} (E : Ex p m c cX6_layCuts 6 s args RX6 D cy A) (hr : meth.sig.returnType = none) (hlk : meth.locks = false) {K32 : Nat → Int32 → Mm → Prop} (hK32 : ∀ (h0 : Nat) (x2 : Int32) (M : Mm) (H : Heap) (locs : List Loc) (ls : Array Slot), K32 h0 x2 M → Wd D cy A s M H locs → lh ls 6 [(0, rv (some h0)), (2, iv x2)] → W p l e (rmm 1 0 0) s m args below meth c H locs 0 0 (MQ below (va_Qv Q (Po D cy A) A) args s 0 0 A) (F0 m 32 ls [])) {K48 : Nat → Int32 → Int32 → Mm → Prop} (hK48 : ∀ (h0 : Nat) (x2 : Int32) (x3 : Int32) (M : Mm) (H : Heap) (locs : List Loc) (ls : Array Slot), K48 h0 x2 x3 M → Wd D cy A s M H locs → lh ls 6 [(0, rv (some h0)), (2, iv x2), (3, iv x3)] → W p l e (rmm 1 0 0) s m args below meth c H locs 0 0 (MQ below (va_Qv Q (Po D cy A) A) args s 0 0 A) (F0 m 48 ls [])) : ∀ (h0 : Nat) (x2 : Int32) (x3 : Int32) (x4 : Int32) (x5 : Int32) (M : Mm) (H : Heap) (locs : List Loc) (ls : Array Slot), B_X6_layCuts_154 Q K32 K48 h0 x2 x3 x4 x5 M → Wd D cy A s M H locs → lh ls 6 [(0, rv (some h0)), (2, iv x2), (3, iv x3), (4, iv x4), (5, iv x5)] → W p l e (rmm 1 0 0) s m args below meth c H locs 0 0 (MQ below (va_Qv Q (Po D cy A) A) args s 0 0 A) (F0 m 154 ls []) := by
  obtain ⟨hx, hb, hml, hown, hts⟩ := E.1
  intro h0 x2 x3 x4 x5 M H locs ls h w hl
  unfold B_X6_layCuts_154 at h
  refine r_aload_n (x := (some h0)) hx hb dX6_layCuts_154 rfl (lh_at hl 0 rfl) ?_
  obtain ⟨ho1, h⟩ := h
  refine r_getR E w rfl ho1 cl_X6 15 rfl fl_X6_35 dX6_layCuts_155 ?_
  refine lv_iload_n (x := x2) hx hb dX6_layCuts_158 rfl (lh_at hl 1 rfl) ?_
  refine lv_iload (x := x4) hx hb dX6_layCuts_159 (lh_at hl 3 rfl) ?_
  obtain ⟨a2, ea2, h⟩ := h
  obtain ⟨ha3, h⟩ := h
  refine r_iast (v := x4) E w ea2 ha3 dX6_layCuts_161 (fun H locs w => ?_)
  obtain ⟨M4, eM4⟩ : ∃ z, z = pI M a2 (Int32.toNatClampNeg x2) x4 := ⟨_, rfl⟩
  rw [← eM4] at w
  have h := h M4 eM4
  refine r_aload_n (x := (some h0)) hx hb dX6_layCuts_162 rfl (lh_at hl 0 rfl) ?_
  have ho1 : ok M4 h0 6 := by rw [eM4]; exact ho1
  refine r_getR E w rfl ho1 cl_X6 16 rfl fl_X6_38 dX6_layCuts_163 ?_
  refine lv_iload_n (x := x2) hx hb dX6_layCuts_166 rfl (lh_at hl 1 rfl) ?_
  refine lv_iload (x := x5) hx hb dX6_layCuts_167 (lh_at hl 4 rfl) ?_
  obtain ⟨a5, ea5, h⟩ := h
  obtain ⟨ha6, h⟩ := h
  refine r_iast (v := x5) E w ea5 ha6 dX6_layCuts_169 (fun H locs w => ?_)
  obtain ⟨M7, eM7⟩ : ∃ z, z = pI M4 a5 (Int32.toNatClampNeg x2) x5 := ⟨_, rfl⟩
  rw [← eM7] at w
  have h := h M7 eM7
  refine r_aload_n (x := (some h0)) hx hb dX6_layCuts_170 rfl (lh_at hl 0 rfl) ?_
  have ho1 : ok M7 h0 6 := by rw [eM7]; exact ho1
  refine r_getR E w rfl ho1 cl_X6 17 rfl fl_X6_41 dX6_layCuts_171 ?_
  refine lv_iload_n (x := x2) hx hb dX6_layCuts_174 rfl (lh_at hl 1 rfl) ?_
  refine lv_iload_n (x := x3) hx hb dX6_layCuts_175 rfl (lh_at hl 2 rfl) ?_
  obtain ⟨a8, ea8, h⟩ := h
  obtain ⟨ha9, h⟩ := h
  refine r_iast (v := x3) E w ea8 ha9 dX6_layCuts_176 (fun H locs w => ?_)
  obtain ⟨M10, eM10⟩ : ∃ z, z = pI M7 a8 (Int32.toNatClampNeg x2) x3 := ⟨_, rfl⟩
  rw [← eM10] at w
  have h := h M10 eM10
  refine r_iinc (k := 2) (x := x3) (v := (x3 + 1)) (lv' := [(3, iv (x3 + 1)), (0, rv (some h0)), (2, iv x2), (4, iv x4), (5, iv x5)]) hx hb dX6_layCuts_177 hl rfl rfl (by decide) rfl (fun ls hl => ?_)
  refine lv_goto (tgt := 48) hx hb dX6_layCuts_180 (by decide) ?_
  exact hK48 _ _ _ _ _ _ _ h w (lh_sub hl [1, 2, 0] rfl)
def B_X6_layCuts_108 (Q : Mm → Prop) (K32 : Nat → Int32 → Mm → Prop) (K48 : Nat → Int32 → Int32 → Mm → Prop) (h0 : Nat) (x2 : Int32) (x3 : Int32) (x4 : Int32) (s0 : Int32) (M : Mm) : Prop := (ok M h0 6 ∧ (∃ a2, (gR M h0 17) = some a2 ∧ (ar M a2 7 x2 ∧ (((gI M a2 (Int32.toNatClampNeg x2)) = (-9 : Int32) → B_X6_layCuts_154 Q K32 K48 h0 x2 x3 x4 s0 M) ∧ (¬ (gI M a2 (Int32.toNatClampNeg x2)) = (-9 : Int32) → (∃ a5, (gR M h0 15) = some a5 ∧ (ar M a5 7 x2 ∧ ((x4 < (gI M a5 (Int32.toNatClampNeg x2)) → B_X6_layCuts_154 Q K32 K48 h0 x2 x3 x4 s0 M) ∧ (¬ x4 < (gI M a5 (Int32.toNatClampNeg x2)) → (ar M a5 7 x2 ∧ ((¬ x4 = (gI M a5 (Int32.toNatClampNeg x2)) → K48 h0 x2 (x3 + 1) M) ∧ (x4 = (gI M a5 (Int32.toNatClampNeg x2)) → (∃ a10, (gR M h0 16) = some a10 ∧ (ar M a10 7 x2 ∧ (((gI M a10 (Int32.toNatClampNeg x2)) ≤ s0 → K48 h0 x2 (x3 + 1) M) ∧ (¬ (gI M a10 (Int32.toNatClampNeg x2)) ≤ s0 → B_X6_layCuts_154 Q K32 K48 h0 x2 x3 x4 s0 M))))))))))))))))
set_option maxHeartbeats 4000000 in
set_option maxRecDepth 100000 in
theorem k_X6_layCuts_108 {p : Program} {l : Launch} {e : Env} {s : State} {m : MethodId} {args : Array Value} {below : List Frame} {meth : Method} {c : Code} {D : va_G} {cy : Nat → ClassId} {A : Nat → Prop} {Q : Mm → Prop} (E : Ex p m c cX6_layCuts 6 s args RX6 D cy A) (hr : meth.sig.returnType = none) (hlk : meth.locks = false) {K32 : Nat → Int32 → Mm → Prop} (hK32 : ∀ (h0 : Nat) (x2 : Int32) (M : Mm) (H : Heap) (locs : List Loc) (ls : Array Slot), K32 h0 x2 M → Wd D cy A s M H locs → lh ls 6 [(0, rv (some h0)), (2, iv x2)] → W p l e (rmm 1 0 0) s m args below meth c H locs 0 0 (MQ below (va_Qv Q (Po D cy A) A) args s 0 0 A) (F0 m 32 ls [])) {K48 : Nat → Int32 → Int32 → Mm → Prop} (hK48 : ∀ (h0 : Nat) (x2 : Int32) (x3 : Int32) (M : Mm) (H : Heap) (locs : List Loc) (ls : Array Slot), K48 h0 x2 x3 M → Wd D cy A s M H locs → lh ls 6 [(0, rv (some h0)), (2, iv x2), (3, iv x3)] → W p l e (rmm 1 0 0) s m args below meth c H locs 0 0 (MQ below (va_Qv Q (Po D cy A) A) args s 0 0 A) (F0 m 48 ls [])) : ∀ (h0 : Nat) (x2 : Int32) (x3 : Int32) (x4 : Int32) (s0 : Int32) (M : Mm) (H : Heap) (locs : List Loc) (ls : Array Slot), B_X6_layCuts_108 Q K32 K48 h0 x2 x3 x4 s0 M → Wd D cy A s M H locs → lh ls 6 [(0, rv (some h0)), (2, iv x2), (3, iv x3), (4, iv x4)] → W p l e (rmm 1 0 0) s m args below meth c H locs 0 0 (MQ below (va_Qv Q (Po D cy A) A) args s 0 0 A) (F0 m 108 ls [.int s0]) := by
  obtain ⟨hx, hb, hml, hown, hts⟩ := E.1
  intro h0 x2 x3 x4 s0 M H locs ls h w hl
  unfold B_X6_layCuts_108 at h
  refine r_istore (lv' := [(5, iv s0), (0, rv (some h0)), (2, iv x2), (3, iv x3), (4, iv x4)]) hx hb dX6_layCuts_108 hl (by decide) rfl (fun ls hl => ?_)
  refine r_aload_n (x := (some h0)) hx hb dX6_layCuts_110 rfl (lh_at hl 1 rfl) ?_
  obtain ⟨ho1, h⟩ := h
  refine r_getR E w rfl ho1 cl_X6 17 rfl fl_X6_41 dX6_layCuts_111 ?_
  refine lv_iload_n (x := x2) hx hb dX6_layCuts_114 rfl (lh_at hl 2 rfl) ?_
  obtain ⟨a2, ea2, h⟩ := h
  obtain ⟨ha3, h⟩ := h
  refine r_iald E w ea2 ha3 dX6_layCuts_115 ?_
  refine lv_bipush (v := (-9 : Int32)) hx hb dX6_layCuts_116 (by decide) ?_
  refine lv_icmp_eq (tgt := 154) hx hb dX6_layCuts_118 (by decide) (fun c4 => ?_) (fun c4 => ?_)
  · have h := h.1 c4
    exact k_X6_layCuts_154 E hr hlk hK32 hK48 _ _ _ _ _ _ _ _ _ h w (lh_sub hl [1, 2, 3, 4, 0] rfl)
  · have h := h.2 c4
    refine lv_iload (x := x4) hx hb dX6_layCuts_121 (lh_at hl 4 rfl) ?_
    refine r_aload_n (x := (some h0)) hx hb dX6_layCuts_123 rfl (lh_at hl 1 rfl) ?_
    refine r_getR E w rfl ho1 cl_X6 15 rfl fl_X6_35 dX6_layCuts_124 ?_
    refine lv_iload_n (x := x2) hx hb dX6_layCuts_127 rfl (lh_at hl 2 rfl) ?_
    obtain ⟨a5, ea5, h⟩ := h
    obtain ⟨ha6, h⟩ := h
    refine r_iald E w ea5 ha6 dX6_layCuts_128 ?_
    refine lv_icmp_lt (tgt := 154) hx hb dX6_layCuts_129 (by decide) (fun c7 => ?_) (fun c7 => ?_)
    · have h := h.1 c7
      exact k_X6_layCuts_154 E hr hlk hK32 hK48 _ _ _ _ _ _ _ _ _ h w (lh_sub hl [1, 2, 3, 4, 0] rfl)
    · have h := h.2 c7
      refine lv_iload (x := x4) hx hb dX6_layCuts_132 (lh_at hl 4 rfl) ?_
      refine r_aload_n (x := (some h0)) hx hb dX6_layCuts_134 rfl (lh_at hl 1 rfl) ?_
      refine r_getR E w rfl ho1 cl_X6 15 rfl fl_X6_35 dX6_layCuts_135 ?_
      refine lv_iload_n (x := x2) hx hb dX6_layCuts_138 rfl (lh_at hl 2 rfl) ?_
      obtain ⟨ha8, h⟩ := h
      refine r_iald E w ea5 ha8 dX6_layCuts_139 ?_
      refine lv_icmp_ne (tgt := 177) hx hb dX6_layCuts_140 (by decide) (fun c9 => ?_) (fun c9 => ?_)
      · have h := h.1 c9
        refine r_iinc (k := 3) (x := x3) (v := (x3 + 1)) (lv' := [(3, iv (x3 + 1)), (5, iv s0), (0, rv (some h0)), (2, iv x2), (4, iv x4)]) hx hb dX6_layCuts_177 hl rfl rfl (by decide) rfl (fun ls hl => ?_)
        refine lv_goto (tgt := 48) hx hb dX6_layCuts_180 (by decide) ?_
        exact hK48 _ _ _ _ _ _ _ h w (lh_sub hl [2, 3, 0] rfl)
      · have h := h.2 c9
        refine lv_iload (x := s0) hx hb dX6_layCuts_143 (lh_at hl 0 rfl) ?_
        refine r_aload_n (x := (some h0)) hx hb dX6_layCuts_145 rfl (lh_at hl 1 rfl) ?_
        refine r_getR E w rfl ho1 cl_X6 16 rfl fl_X6_38 dX6_layCuts_146 ?_
        refine lv_iload_n (x := x2) hx hb dX6_layCuts_149 rfl (lh_at hl 2 rfl) ?_
        obtain ⟨a10, ea10, h⟩ := h
        obtain ⟨ha11, h⟩ := h
        refine r_iald E w ea10 ha11 dX6_layCuts_150 ?_
        refine lv_icmp_ge (tgt := 177) hx hb dX6_layCuts_151 (by decide) (fun c12 => ?_) (fun c12 => ?_)
        · have h := h.1 c12
          refine r_iinc (k := 3) (x := x3) (v := (x3 + 1)) (lv' := [(3, iv (x3 + 1)), (5, iv s0), (0, rv (some h0)), (2, iv x2), (4, iv x4)]) hx hb dX6_layCuts_177 hl rfl rfl (by decide) rfl (fun ls hl => ?_)
          refine lv_goto (tgt := 48) hx hb dX6_layCuts_180 (by decide) ?_
          exact hK48 _ _ _ _ _ _ _ h w (lh_sub hl [2, 3, 0] rfl)
        · have h := h.2 c12
          exact k_X6_layCuts_154 E hr hlk hK32 hK48 _ _ _ _ _ _ _ _ _ h w (lh_sub hl [1, 2, 3, 4, 0] rfl)
def B_X6_layCuts_85 (Q : Mm → Prop) (K32 : Nat → Int32 → Mm → Prop) (K48 : Nat → Int32 → Int32 → Mm → Prop) (h0 : Nat) (x2 : Int32) (x3 : Int32) (s0 : Int32) (s1 : Int32) (M : Mm) : Prop := (ok M h0 6 ∧ (((gI M h0 9) ≤ x3 → B_X6_layCuts_108 Q K32 K48 h0 x2 x3 (s0 + s1) (0 : Int32) M) ∧ (¬ (gI M h0 9) ≤ x3 → (∃ a3, (gR M h0 16) = some a3 ∧ (ar M a3 7 x3 ∧ B_X6_layCuts_108 Q K32 K48 h0 x2 x3 (s0 + s1) ((1 : Int32) + (gI M a3 (Int32.toNatClampNeg x3))) M)))))
set_option maxHeartbeats 4000000 in
set_option maxRecDepth 100000 in
theorem k_X6_layCuts_85 {p : Program} {l : Launch} {e : Env} {s : State} {m : MethodId} {args : Array Value} {below : List Frame} {meth : Method} {c : Code} {D : va_G} {cy : Nat → ClassId} {A : Nat → Prop} {Q : Mm → Prop} (E : Ex p m c cX6_layCuts 6 s args RX6 D cy A) (hr : meth.sig.returnType = none) (hlk : meth.locks = false) {K32 : Nat → Int32 → Mm → Prop} (hK32 : ∀ (h0 : Nat) (x2 : Int32) (M : Mm) (H : Heap) (locs : List Loc) (ls : Array Slot), K32 h0 x2 M → Wd D cy A s M H locs → lh ls 6 [(0, rv (some h0)), (2, iv x2)] → W p l e (rmm 1 0 0) s m args below meth c H locs 0 0 (MQ below (va_Qv Q (Po D cy A) A) args s 0 0 A) (F0 m 32 ls [])) {K48 : Nat → Int32 → Int32 → Mm → Prop} (hK48 : ∀ (h0 : Nat) (x2 : Int32) (x3 : Int32) (M : Mm) (H : Heap) (locs : List Loc) (ls : Array Slot), K48 h0 x2 x3 M → Wd D cy A s M H locs → lh ls 6 [(0, rv (some h0)), (2, iv x2), (3, iv x3)] → W p l e (rmm 1 0 0) s m args below meth c H locs 0 0 (MQ below (va_Qv Q (Po D cy A) A) args s 0 0 A) (F0 m 48 ls [])) : ∀ (h0 : Nat) (x2 : Int32) (x3 : Int32) (s0 : Int32) (s1 : Int32) (M : Mm) (H : Heap) (locs : List Loc) (ls : Array Slot), B_X6_layCuts_85 Q K32 K48 h0 x2 x3 s0 s1 M → Wd D cy A s M H locs → lh ls 6 [(0, rv (some h0)), (2, iv x2), (3, iv x3)] → W p l e (rmm 1 0 0) s m args below meth c H locs 0 0 (MQ below (va_Qv Q (Po D cy A) A) args s 0 0 A) (F0 m 85 ls [.int s1, .int s0]) := by
  obtain ⟨hx, hb, hml, hown, hts⟩ := E.1
  intro h0 x2 x3 s0 s1 M H locs ls h w hl
  unfold B_X6_layCuts_85 at h
  refine lv_iadd hx hb dX6_layCuts_85 ?_
  refine r_istore (lv' := [(4, iv (s0 + s1)), (0, rv (some h0)), (2, iv x2), (3, iv x3)]) hx hb dX6_layCuts_86 hl (by decide) rfl (fun ls hl => ?_)
  refine lv_iload_n (x := x3) hx hb dX6_layCuts_88 rfl (lh_at hl 3 rfl) ?_
  refine r_aload_n (x := (some h0)) hx hb dX6_layCuts_89 rfl (lh_at hl 1 rfl) ?_
  obtain ⟨ho1, h⟩ := h
  refine r_getI E w rfl ho1 cl_X6 9 rfl fl_X6_112 dX6_layCuts_90 ?_
  refine lv_icmp_ge (tgt := 107) hx hb dX6_layCuts_93 (by decide) (fun c2 => ?_) (fun c2 => ?_)
  · have h := h.1 c2
    refine lv_iconst (v := (0 : Int32)) hx hb dX6_layCuts_107 (by decide) ?_
    exact k_X6_layCuts_108 E hr hlk hK32 hK48 _ _ _ _ _ _ _ _ _ h w (lh_sub hl [1, 2, 3, 0] rfl)
  · have h := h.2 c2
    refine lv_iconst (v := (1 : Int32)) hx hb dX6_layCuts_96 (by decide) ?_
    refine r_aload_n (x := (some h0)) hx hb dX6_layCuts_97 rfl (lh_at hl 1 rfl) ?_
    refine r_getR E w rfl ho1 cl_X6 16 rfl fl_X6_38 dX6_layCuts_98 ?_
    refine lv_iload_n (x := x3) hx hb dX6_layCuts_101 rfl (lh_at hl 3 rfl) ?_
    obtain ⟨a3, ea3, h⟩ := h
    obtain ⟨ha4, h⟩ := h
    refine r_iald E w ea3 ha4 dX6_layCuts_102 ?_
    refine lv_iadd hx hb dX6_layCuts_103 ?_
    refine lv_goto (tgt := 108) hx hb dX6_layCuts_104 (by decide) ?_
    exact k_X6_layCuts_108 E hr hlk hK32 hK48 _ _ _ _ _ _ _ _ _ h w (lh_sub hl [1, 2, 3, 0] rfl)
def B_X6_layCuts_48 (Q : Mm → Prop) (K32 : Nat → Int32 → Mm → Prop) : Nat → Nat → Int32 → Int32 → Mm → Prop
  | 0, _, _, _, _ => False
  | n + 1, h0, x2, x3, M => (ok M h0 6 ∧ (((gI M h0 9) < x3 → K32 h0 (x2 + (-1)) M) ∧ (¬ (gI M h0 9) < x3 → (B_X6_costOf_0 (fun r4 M3 => (ok M3 h0 6 ∧ (((gI M3 h0 9) ≤ x3 → B_X6_layCuts_85 Q K32 (fun y0 y1 y2 My => B_X6_layCuts_48 Q K32 n y0 y1 y2 My) h0 x2 x3 r4 (0 : Int32) M3) ∧ (¬ (gI M3 h0 9) ≤ x3 → (∃ a7, (gR M3 h0 15) = some a7 ∧ (ar M3 a7 7 x3 ∧ B_X6_layCuts_85 Q K32 (fun y0 y1 y2 My => B_X6_layCuts_48 Q K32 n y0 y1 y2 My) h0 x2 x3 r4 ((gI M3 h0 13) + (gI M3 a7 (Int32.toNatClampNeg x3))) M3)))))) h0 x2 x3 M))))
set_option maxHeartbeats 4000000 in
set_option maxRecDepth 100000 in
theorem k_X6_layCuts_48 {p : Program} {l : Launch} {e : Env} {s : State} {m : MethodId} {args : Array Value} {below : List Frame} {meth : Method} {c : Code} {D : va_G} {cy : Nat → ClassId} {A : Nat → Prop} {Q : Mm → Prop} (E : Ex p m c cX6_layCuts 6 s args RX6 D cy A) (hr : meth.sig.returnType = none) (hlk : meth.locks = false) {K32 : Nat → Int32 → Mm → Prop} (hK32 : ∀ (h0 : Nat) (x2 : Int32) (M : Mm) (H : Heap) (locs : List Loc) (ls : Array Slot), K32 h0 x2 M → Wd D cy A s M H locs → lh ls 6 [(0, rv (some h0)), (2, iv x2)] → W p l e (rmm 1 0 0) s m args below meth c H locs 0 0 (MQ below (va_Qv Q (Po D cy A) A) args s 0 0 A) (F0 m 32 ls [])) : ∀ (n : Nat), ∀ (h0 : Nat) (x2 : Int32) (x3 : Int32) (M : Mm) (H : Heap) (locs : List Loc) (ls : Array Slot), B_X6_layCuts_48 Q K32 n h0 x2 x3 M → Wd D cy A s M H locs → lh ls 6 [(0, rv (some h0)), (2, iv x2), (3, iv x3)] → W p l e (rmm 1 0 0) s m args below meth c H locs 0 0 (MQ below (va_Qv Q (Po D cy A) A) args s 0 0 A) (F0 m 48 ls []) := by
  obtain ⟨hx, hb, hml, hown, hts⟩ := E.1
  intro n
  induction n with
  | zero => intro h0 x2 x3 M H locs ls h; exact False.elim h
  | succ n ih =>
    intro h0 x2 x3 M H locs ls h w hl
    unfold B_X6_layCuts_48 at h
    refine lv_iload_n (x := x3) hx hb dX6_layCuts_48 rfl (lh_at hl 2 rfl) ?_
    refine r_aload_n (x := (some h0)) hx hb dX6_layCuts_49 rfl (lh_at hl 0 rfl) ?_
    obtain ⟨ho1, h⟩ := h
    refine r_getI E w rfl ho1 cl_X6 9 rfl fl_X6_112 dX6_layCuts_50 ?_
    refine lv_icmp_gt (tgt := 183) hx hb dX6_layCuts_53 (by decide) (fun c2 => ?_) (fun c2 => ?_)
    · have h := h.1 c2
      refine r_iinc (k := 1) (x := x2) (v := (x2 + (-1))) (lv' := [(2, iv (x2 + (-1))), (0, rv (some h0)), (3, iv x3)]) hx hb dX6_layCuts_183 hl rfl rfl (by decide) rfl (fun ls hl => ?_)
      refine lv_goto (tgt := 32) hx hb dX6_layCuts_186 (by decide) ?_
      exact hK32 _ _ _ _ _ _ h w (lh_sub hl [1, 0] rfl)
    · have h := h.2 c2
      refine r_aload_n (x := (some h0)) hx hb dX6_layCuts_56 rfl (lh_at hl 0 rfl) ?_
      refine lv_iload_n (x := x2) hx hb dX6_layCuts_57 rfl (lh_at hl 1 rfl) ?_
      refine lv_iload_n (x := x3) hx hb dX6_layCuts_58 rfl (lh_at hl 2 rfl) ?_
      refine z_callVi E w rfl ho1 cl_X6 yk_X6_costOf ⟨Nat.le_of_ble_eq_true rfl, Nat.le_of_ble_eq_true rfl⟩ ⟨(Nat.zero_le _), (Nat.zero_le _)⟩ rfl ml_X6_129 im_X6_costOf sl_X6_costOf [iv x2, iv x3] rfl rfl hl [] rfl (Nat.le_of_ble_eq_true rfl) (K_X6_costOf h) dX6_layCuts_59 (fun r4 M3 H locs h w => ?_)
      refine lv_iload_n (x := x3) hx hb dX6_layCuts_62 rfl (lh_at hl 2 rfl) ?_
      refine r_aload_n (x := (some h0)) hx hb dX6_layCuts_63 rfl (lh_at hl 0 rfl) ?_
      obtain ⟨ho5, h⟩ := h
      refine r_getI E w rfl ho5 cl_X6 9 rfl fl_X6_112 dX6_layCuts_64 ?_
      refine lv_icmp_ge (tgt := 84) hx hb dX6_layCuts_67 (by decide) (fun c6 => ?_) (fun c6 => ?_)
      · have h := h.1 c6
        refine lv_iconst (v := (0 : Int32)) hx hb dX6_layCuts_84 (by decide) ?_
        exact k_X6_layCuts_85 E hr hlk hK32 ih _ _ _ _ _ _ _ _ _ h w (lh_sub hl [0, 1, 2] rfl)
      · have h := h.2 c6
        refine r_aload_n (x := (some h0)) hx hb dX6_layCuts_70 rfl (lh_at hl 0 rfl) ?_
        refine r_getI E w rfl ho5 cl_X6 13 rfl fl_X6_70 dX6_layCuts_71 ?_
        refine r_aload_n (x := (some h0)) hx hb dX6_layCuts_74 rfl (lh_at hl 0 rfl) ?_
        refine r_getR E w rfl ho5 cl_X6 15 rfl fl_X6_35 dX6_layCuts_75 ?_
        refine lv_iload_n (x := x3) hx hb dX6_layCuts_78 rfl (lh_at hl 2 rfl) ?_
        obtain ⟨a7, ea7, h⟩ := h
        obtain ⟨ha8, h⟩ := h
        refine r_iald E w ea7 ha8 dX6_layCuts_79 ?_
        refine lv_iadd hx hb dX6_layCuts_80 ?_
        refine lv_goto (tgt := 85) hx hb dX6_layCuts_81 (by decide) ?_
        exact k_X6_layCuts_85 E hr hlk hK32 ih _ _ _ _ _ _ _ _ _ h w (lh_sub hl [0, 1, 2] rfl)
def B_X6_layCuts_32 (Q : Mm → Prop)  : Nat → Nat → Int32 → Mm → Prop
  | 0, _, _, _ => False
  | n + 1, h0, x2, M => ((x2 < 0 → (ok M h0 6 ∧ (∀ M3, M3 = pI M h0 18 (0 : Int32) → (∃ n4, B_X6_layCuts_196 Q  n4 h0 (0 : Int32) M3)))) ∧ (¬ x2 < 0 → (ok M h0 6 ∧ (∃ a6, (gR M h0 17) = some a6 ∧ (ar M a6 7 x2 ∧ (∀ M8, M8 = pI M a6 (Int32.toNatClampNeg x2) (-9 : Int32) → (∃ n9, B_X6_layCuts_48 Q (fun y0 y1 My => B_X6_layCuts_32 Q n y0 y1 My) n9 h0 x2 (x2 + (1 : Int32)) M8)))))))
set_option maxHeartbeats 4000000 in
set_option maxRecDepth 100000 in
theorem k_X6_layCuts_32 {p : Program} {l : Launch} {e : Env} {s : State} {m : MethodId} {args : Array Value} {below : List Frame} {meth : Method} {c : Code} {D : va_G} {cy : Nat → ClassId} {A : Nat → Prop} {Q : Mm → Prop} (E : Ex p m c cX6_layCuts 6 s args RX6 D cy A) (hr : meth.sig.returnType = none) (hlk : meth.locks = false) : ∀ (n : Nat), ∀ (h0 : Nat) (x2 : Int32) (M : Mm) (H : Heap) (locs : List Loc) (ls : Array Slot), B_X6_layCuts_32 Q  n h0 x2 M → Wd D cy A s M H locs → lh ls 6 [(0, rv (some h0)), (2, iv x2)] → W p l e (rmm 1 0 0) s m args below meth c H locs 0 0 (MQ below (va_Qv Q (Po D cy A) A) args s 0 0 A) (F0 m 32 ls []) := by
  obtain ⟨hx, hb, hml, hown, hts⟩ := E.1
  intro n
  induction n with
  | zero => intro h0 x2 M H locs ls h; exact False.elim h
  | succ n ih =>
    intro h0 x2 M H locs ls h w hl
    unfold B_X6_layCuts_32 at h
    refine lv_iload_n (x := x2) hx hb dX6_layCuts_32 rfl (lh_at hl 1 rfl) ?_
    refine lv_if_lt (tgt := 189) hx hb dX6_layCuts_33 (by decide) (fun c1 => ?_) (fun c1 => ?_)
    · have h := h.1 c1
      refine r_aload_n (x := (some h0)) hx hb dX6_layCuts_189 rfl (lh_at hl 0 rfl) ?_
      refine lv_iconst (v := (0 : Int32)) hx hb dX6_layCuts_190 (by decide) ?_
      obtain ⟨ho2, h⟩ := h
      refine r_putI (v := (0 : Int32)) E w rfl ho2 cl_X6 18 rfl fl_X6_132 (Or.inl rfl) (Or.inl rfl) dX6_layCuts_191 (fun H locs w => ?_)
      obtain ⟨M3, eM3⟩ : ∃ z, z = pI M h0 18 (0 : Int32) := ⟨_, rfl⟩
      rw [← eM3] at w
      have h := h M3 eM3
      refine lv_iconst (v := (0 : Int32)) hx hb dX6_layCuts_194 (by decide) ?_
      refine r_istore_n (lv' := [(2, iv (0 : Int32)), (0, rv (some h0))]) hx hb dX6_layCuts_195 rfl hl (by decide) rfl (fun ls hl => ?_)
      obtain ⟨n4, h⟩ := h
      exact k_X6_layCuts_196 E hr hlk  n4 _ _ _ _ _ _ h w (lh_sub hl [1, 0] rfl)
    · have h := h.2 c1
      refine r_aload_n (x := (some h0)) hx hb dX6_layCuts_36 rfl (lh_at hl 0 rfl) ?_
      obtain ⟨ho5, h⟩ := h
      refine r_getR E w rfl ho5 cl_X6 17 rfl fl_X6_41 dX6_layCuts_37 ?_
      refine lv_iload_n (x := x2) hx hb dX6_layCuts_40 rfl (lh_at hl 1 rfl) ?_
      refine lv_bipush (v := (-9 : Int32)) hx hb dX6_layCuts_41 (by decide) ?_
      obtain ⟨a6, ea6, h⟩ := h
      obtain ⟨ha7, h⟩ := h
      refine r_iast (v := (-9 : Int32)) E w ea6 ha7 dX6_layCuts_43 (fun H locs w => ?_)
      obtain ⟨M8, eM8⟩ : ∃ z, z = pI M a6 (Int32.toNatClampNeg x2) (-9 : Int32) := ⟨_, rfl⟩
      rw [← eM8] at w
      have h := h M8 eM8
      refine lv_iload_n (x := x2) hx hb dX6_layCuts_44 rfl (lh_at hl 1 rfl) ?_
      refine lv_iconst (v := (1 : Int32)) hx hb dX6_layCuts_45 (by decide) ?_
      refine lv_iadd hx hb dX6_layCuts_46 ?_
      refine r_istore_n (lv' := [(3, iv (x2 + (1 : Int32))), (0, rv (some h0)), (2, iv x2)]) hx hb dX6_layCuts_47 rfl hl (by decide) rfl (fun ls hl => ?_)
      obtain ⟨n9, h⟩ := h
      exact k_X6_layCuts_48 E hr hlk ih n9 _ _ _ _ _ _ _ h w (lh_sub hl [1, 2, 0] rfl)
def B_X6_layCuts_0 (Q : Mm → Prop)  (h0 : Nat) (x1 : Int32) (M : Mm) : Prop := (ok M h0 6 ∧ (B_X6_layRow_0 (fun  M2 => (ok M2 h0 6 ∧ (∃ a4, (gR M2 h0 15) = some a4 ∧ (ar M2 a4 7 (gI M2 h0 9) ∧ (∀ M6, M6 = pI M2 a4 (Int32.toNatClampNeg (gI M2 h0 9)) (0 : Int32) → (∃ a7, (gR M6 h0 16) = some a7 ∧ (ar M6 a7 7 (gI M6 h0 9) ∧ (∀ M9, M9 = pI M6 a7 (Int32.toNatClampNeg (gI M6 h0 9)) (0 : Int32) → (∃ n10, B_X6_layCuts_32 Q  n10 h0 ((gI M9 h0 9) - (1 : Int32)) M9))))))))) h0 x1 M))
set_option maxHeartbeats 4000000 in
set_option maxRecDepth 100000 in
theorem k_X6_layCuts_0 {p : Program} {l : Launch} {e : Env} {s : State} {m : MethodId} {args : Array Value} {below : List Frame} {meth : Method} {c : Code} {D : va_G} {cy : Nat → ClassId} {A : Nat → Prop} {Q : Mm → Prop} (E : Ex p m c cX6_layCuts 6 s args RX6 D cy A) (hr : meth.sig.returnType = none) (hlk : meth.locks = false) : ∀ (h0 : Nat) (x1 : Int32) (M : Mm) (H : Heap) (locs : List Loc) (ls : Array Slot), B_X6_layCuts_0 Q  h0 x1 M → Wd D cy A s M H locs → lh ls 6 [(0, rv (some h0)), (1, iv x1)] → W p l e (rmm 1 0 0) s m args below meth c H locs 0 0 (MQ below (va_Qv Q (Po D cy A) A) args s 0 0 A) (F0 m 0 ls []) := by
  obtain ⟨hx, hb, hml, hown, hts⟩ := E.1
  intro h0 x1 M H locs ls h w hl
  unfold B_X6_layCuts_0 at h
  refine r_aload_n (x := (some h0)) hx hb dX6_layCuts_0 rfl (lh_at hl 0 rfl) ?_
  refine lv_iload_n (x := x1) hx hb dX6_layCuts_1 rfl (lh_at hl 1 rfl) ?_
  obtain ⟨ho1, h⟩ := h
  refine z_callVv E w rfl ho1 cl_X6 yk_X6_layRow ⟨Nat.le_of_ble_eq_true rfl, Nat.le_of_ble_eq_true rfl⟩ ⟨(Nat.zero_le _), (Nat.zero_le _)⟩ rfl ml_X6_126 im_X6_layRow sl_X6_layRow [iv x1] rfl rfl hl [] rfl (Nat.le_of_ble_eq_true rfl) (K_X6_layRow h) dX6_layCuts_2 (fun  M2 H locs h w => ?_)
  refine r_aload_n (x := (some h0)) hx hb dX6_layCuts_5 rfl (lh_at hl 0 rfl) ?_
  obtain ⟨ho3, h⟩ := h
  refine r_getR E w rfl ho3 cl_X6 15 rfl fl_X6_35 dX6_layCuts_6 ?_
  refine r_aload_n (x := (some h0)) hx hb dX6_layCuts_9 rfl (lh_at hl 0 rfl) ?_
  refine r_getI E w rfl ho3 cl_X6 9 rfl fl_X6_112 dX6_layCuts_10 ?_
  refine lv_iconst (v := (0 : Int32)) hx hb dX6_layCuts_13 (by decide) ?_
  obtain ⟨a4, ea4, h⟩ := h
  obtain ⟨ha5, h⟩ := h
  refine r_iast (v := (0 : Int32)) E w ea4 ha5 dX6_layCuts_14 (fun H locs w => ?_)
  obtain ⟨M6, eM6⟩ : ∃ z, z = pI M2 a4 (Int32.toNatClampNeg (gI M2 h0 9)) (0 : Int32) := ⟨_, rfl⟩
  rw [← eM6] at w
  have h := h M6 eM6
  refine r_aload_n (x := (some h0)) hx hb dX6_layCuts_15 rfl (lh_at hl 0 rfl) ?_
  have ho3 : ok M6 h0 6 := by rw [eM6]; exact ho3
  refine r_getR E w rfl ho3 cl_X6 16 rfl fl_X6_38 dX6_layCuts_16 ?_
  refine r_aload_n (x := (some h0)) hx hb dX6_layCuts_19 rfl (lh_at hl 0 rfl) ?_
  refine r_getI E w rfl ho3 cl_X6 9 rfl fl_X6_112 dX6_layCuts_20 ?_
  refine lv_iconst (v := (0 : Int32)) hx hb dX6_layCuts_23 (by decide) ?_
  obtain ⟨a7, ea7, h⟩ := h
  obtain ⟨ha8, h⟩ := h
  refine r_iast (v := (0 : Int32)) E w ea7 ha8 dX6_layCuts_24 (fun H locs w => ?_)
  obtain ⟨M9, eM9⟩ : ∃ z, z = pI M6 a7 (Int32.toNatClampNeg (gI M6 h0 9)) (0 : Int32) := ⟨_, rfl⟩
  rw [← eM9] at w
  have h := h M9 eM9
  refine r_aload_n (x := (some h0)) hx hb dX6_layCuts_25 rfl (lh_at hl 0 rfl) ?_
  have ho3 : ok M9 h0 6 := by rw [eM9]; exact ho3
  refine r_getI E w rfl ho3 cl_X6 9 rfl fl_X6_112 dX6_layCuts_26 ?_
  refine lv_iconst (v := (1 : Int32)) hx hb dX6_layCuts_29 (by decide) ?_
  refine lv_isub hx hb dX6_layCuts_30 ?_
  refine r_istore_n (lv' := [(2, iv ((gI M9 h0 9) - (1 : Int32))), (0, rv (some h0)), (1, iv x1)]) hx hb dX6_layCuts_31 rfl hl (by decide) rfl (fun ls hl => ?_)
  obtain ⟨n10, h⟩ := h
  exact k_X6_layCuts_32 E hr hlk  n10 _ _ _ _ _ _ h w (lh_sub hl [1, 0] rfl)
theorem K_X6_layCuts {l : Launch} {Q : Mm → Prop} {h0 : Nat} {x1 : Int32} {M : Mm} (h : B_X6_layCuts_0 Q h0 x1 M) : KV l yX6_layCuts cdX6_layCuts (rmm 1 0 0) [rv (some h0), iv x1] M Q :=
  KV_of (by decide) rfl (Nat.le_of_ble_eq_true rfl) (fun p e s m args below meth c D cy A ls E hr hlk hn w hl => k_X6_layCuts_0 E hr hlk _ _ _ _ _ _ h w hl)
def B_X6_need_0 (Q : Int32 → Mm → Prop)  (h0 : Nat) (x1 : Int32) (x2 : Int32) (M : Mm) : Prop := (ok M h0 6 ∧ (B_X6_isRow_0 (fun r3 M2 => ((¬ r3 = 0 → (ok M2 h0 6 ∧ (∃ a6, (gR M2 h0 6) = some a6 ∧ (ar M2 a6 9 (((4 : Int32) * x1) + x2) ∧ ((¬ (gI M2 a6 (Int32.toNatClampNeg (((4 : Int32) * x1) + x2))) = 0 → (B_X6_layCuts_0 (fun  M9 => Q (0 : Int32) M9) h0 (((4 : Int32) * x1) + x2) M2)) ∧ ((gI M2 a6 (Int32.toNatClampNeg (((4 : Int32) * x1) + x2))) = 0 → (B_X6_meets_0 (fun r11 M10 => Q r11 M10) h0 (1 : Int32) M2))))))) ∧ (r3 = 0 → Q (-1 : Int32) M2))) h0 x1 x2 M))
set_option maxHeartbeats 4000000 in
set_option maxRecDepth 100000 in
theorem k_X6_need_0 {p : Program} {l : Launch} {e : Env} {s : State} {m : MethodId} {args : Array Value} {below : List Frame} {meth : Method} {c : Code} {D : va_G} {cy : Nat → ClassId} {A : Nat → Prop} {Q : Int32 → Mm → Prop} (E : Ex p m c cX6_need 3 s args RX6 D cy A) (hr : meth.sig.returnType = (some .int)) (hlk : meth.locks = false) : ∀ (h0 : Nat) (x1 : Int32) (x2 : Int32) (M : Mm) (H : Heap) (locs : List Loc) (ls : Array Slot), B_X6_need_0 Q  h0 x1 x2 M → Wd D cy A s M H locs → lh ls 3 [(0, rv (some h0)), (1, iv x1), (2, iv x2)] → W p l e (rmm 3 0 0) s m args below meth c H locs 0 0 (MQ below (va_Qi Q (Po D cy A) A) args s 0 0 A) (F0 m 0 ls []) := by
  obtain ⟨hx, hb, hml, hown, hts⟩ := E.1
  intro h0 x1 x2 M H locs ls h w hl
  unfold B_X6_need_0 at h
  refine r_aload_n (x := (some h0)) hx hb dX6_need_0 rfl (lh_at hl 0 rfl) ?_
  refine lv_iload_n (x := x1) hx hb dX6_need_1 rfl (lh_at hl 1 rfl) ?_
  refine lv_iload_n (x := x2) hx hb dX6_need_2 rfl (lh_at hl 2 rfl) ?_
  obtain ⟨ho1, h⟩ := h
  refine z_callVi E w rfl ho1 cl_X6 yk_X6_isRow ⟨Nat.le_of_ble_eq_true rfl, Nat.le_of_ble_eq_true rfl⟩ ⟨(Nat.zero_le _), (Nat.zero_le _)⟩ rfl ml_X6_101 im_X6_isRow sl_X6_isRow [iv x1, iv x2] rfl rfl hl [] rfl (Nat.le_of_ble_eq_true rfl) (K_X6_isRow h) dX6_need_3 (fun r3 M2 H locs h w => ?_)
  refine lv_if_ne (tgt := 11) hx hb dX6_need_6 (by decide) (fun c4 => ?_) (fun c4 => ?_)
  · have h := h.1 c4
    refine r_aload_n (x := (some h0)) hx hb dX6_need_11 rfl (lh_at hl 0 rfl) ?_
    obtain ⟨ho5, h⟩ := h
    refine r_getR E w rfl ho5 cl_X6 6 rfl fl_X6_16 dX6_need_12 ?_
    refine lv_iconst (v := (4 : Int32)) hx hb dX6_need_15 (by decide) ?_
    refine lv_iload_n (x := x1) hx hb dX6_need_16 rfl (lh_at hl 1 rfl) ?_
    refine lv_imul hx hb dX6_need_17 ?_
    refine lv_iload_n (x := x2) hx hb dX6_need_18 rfl (lh_at hl 2 rfl) ?_
    refine lv_iadd hx hb dX6_need_19 ?_
    obtain ⟨a6, ea6, h⟩ := h
    obtain ⟨ha7, h⟩ := h
    refine r_zald E w ea6 ha7 dX6_need_20 ?_
    refine lv_if_ne (tgt := 30) hx hb dX6_need_21 (by decide) (fun c8 => ?_) (fun c8 => ?_)
    · have h := h.1 c8
      refine r_aload_n (x := (some h0)) hx hb dX6_need_30 rfl (lh_at hl 0 rfl) ?_
      refine lv_iconst (v := (4 : Int32)) hx hb dX6_need_31 (by decide) ?_
      refine lv_iload_n (x := x1) hx hb dX6_need_32 rfl (lh_at hl 1 rfl) ?_
      refine lv_imul hx hb dX6_need_33 ?_
      refine lv_iload_n (x := x2) hx hb dX6_need_34 rfl (lh_at hl 2 rfl) ?_
      refine lv_iadd hx hb dX6_need_35 ?_
      refine z_callVv E w rfl ho5 cl_X6 yk_X6_layCuts ⟨Nat.le_of_ble_eq_true rfl, Nat.le_of_ble_eq_true rfl⟩ ⟨(Nat.zero_le _), (Nat.zero_le _)⟩ rfl ml_X6_115 im_X6_layCuts sl_X6_layCuts [iv (((4 : Int32) * x1) + x2)] rfl rfl hl [] rfl (Nat.le_of_ble_eq_true rfl) (K_X6_layCuts h) dX6_need_36 (fun  M9 H locs h w => ?_)
      refine lv_iconst (v := (0 : Int32)) hx hb dX6_need_39 (by decide) ?_
      exact r_iret E w hr hlk h (Nat.le_refl 0) (Nat.le_refl 0) dX6_need_40
    · have h := h.2 c8
      refine r_aload_n (x := (some h0)) hx hb dX6_need_24 rfl (lh_at hl 0 rfl) ?_
      refine lv_iconst (v := (1 : Int32)) hx hb dX6_need_25 (by decide) ?_
      refine z_callVi E w rfl ho5 cl_X6 yk_X6_meets ⟨Nat.le_of_ble_eq_true rfl, Nat.le_of_ble_eq_true rfl⟩ ⟨(Nat.zero_le _), (Nat.zero_le _)⟩ rfl ml_X6_106 im_X6_meets sl_X6_meets [iv (1 : Int32)] rfl rfl hl [] rfl (Nat.le_of_ble_eq_true rfl) (K_X6_meets h) dX6_need_26 (fun r11 M10 H locs h w => ?_)
      exact r_iret E w hr hlk h (Nat.le_refl 0) (Nat.le_refl 0) dX6_need_29
  · have h := h.2 c4
    refine lv_iconst (v := (-1 : Int32)) hx hb dX6_need_9 (by decide) ?_
    exact r_iret E w hr hlk h (Nat.le_refl 0) (Nat.le_refl 0) dX6_need_10
theorem K_X6_need {l : Launch} {Q : Int32 → Mm → Prop} {h0 : Nat} {x1 : Int32} {x2 : Int32} {M : Mm} (h : B_X6_need_0 Q h0 x1 x2 M) : KI l yX6_need cdX6_need (rmm 3 0 0) [rv (some h0), iv x1, iv x2] M Q :=
  KI_of (by decide) rfl (Nat.le_of_ble_eq_true rfl) (fun p e s m args below meth c D cy A ls E hr hlk hn w hl => k_X6_need_0 E hr hlk _ _ _ _ _ _ _ h w hl)
def B_X6_rank_39 (Q : Int32 → Mm → Prop)  : Nat → Nat → Int32 → Int32 → Mm → Prop
  | 0, _, _, _, _ => False
  | n + 1, h0, x3, x5, M => (ok M h0 6 ∧ (((gI M h0 9) ≤ x5 → (B_X6_meets_0 (fun r4 M3 => Q r4 M3) h0 (4 : Int32) M)) ∧ (¬ (gI M h0 9) ≤ x5 → (∃ a5, (gR M h0 10) = some a5 ∧ (ar M a5 7 x5 ∧ ((¬ (gI M a5 (Int32.toNatClampNeg x5)) = x3 → B_X6_rank_39 Q  n h0 x3 (x5 + 1) M) ∧ ((gI M a5 (Int32.toNatClampNeg x5)) = x3 → (∃ a8, (gR M h0 12) = some a8 ∧ (ar M a8 7 x5 ∧ Q (gI M a8 (Int32.toNatClampNeg x5)) M)))))))))
set_option maxHeartbeats 4000000 in
set_option maxRecDepth 100000 in
theorem k_X6_rank_39 {p : Program} {l : Launch} {e : Env} {s : State} {m : MethodId} {args : Array Value} {below : List Frame} {meth : Method} {c : Code} {D : va_G} {cy : Nat → ClassId} {A : Nat → Prop} {Q : Int32 → Mm → Prop} (E : Ex p m c cX6_rank 6 s args RX6 D cy A) (hr : meth.sig.returnType = (some .int)) (hlk : meth.locks = false) : ∀ (n : Nat), ∀ (h0 : Nat) (x3 : Int32) (x5 : Int32) (M : Mm) (H : Heap) (locs : List Loc) (ls : Array Slot), B_X6_rank_39 Q  n h0 x3 x5 M → Wd D cy A s M H locs → lh ls 6 [(0, rv (some h0)), (3, iv x3), (5, iv x5)] → W p l e (rmm 4 0 0) s m args below meth c H locs 0 0 (MQ below (va_Qi Q (Po D cy A) A) args s 0 0 A) (F0 m 39 ls []) := by
  obtain ⟨hx, hb, hml, hown, hts⟩ := E.1
  intro n
  induction n with
  | zero => intro h0 x3 x5 M H locs ls h; exact False.elim h
  | succ n ih =>
    intro h0 x3 x5 M H locs ls h w hl
    unfold B_X6_rank_39 at h
    refine lv_iload (x := x5) hx hb dX6_rank_39 (lh_at hl 2 rfl) ?_
    refine r_aload_n (x := (some h0)) hx hb dX6_rank_41 rfl (lh_at hl 0 rfl) ?_
    obtain ⟨ho1, h⟩ := h
    refine r_getI E w rfl ho1 cl_X6 9 rfl fl_X6_112 dX6_rank_42 ?_
    refine lv_icmp_ge (tgt := 73) hx hb dX6_rank_45 (by decide) (fun c2 => ?_) (fun c2 => ?_)
    · have h := h.1 c2
      refine r_aload_n (x := (some h0)) hx hb dX6_rank_73 rfl (lh_at hl 0 rfl) ?_
      refine lv_iconst (v := (4 : Int32)) hx hb dX6_rank_74 (by decide) ?_
      refine z_callVi E w rfl ho1 cl_X6 yk_X6_meets ⟨Nat.le_of_ble_eq_true rfl, Nat.le_of_ble_eq_true rfl⟩ ⟨(Nat.zero_le _), (Nat.zero_le _)⟩ rfl ml_X6_106 im_X6_meets sl_X6_meets [iv (4 : Int32)] rfl rfl hl [] rfl (Nat.le_of_ble_eq_true rfl) (K_X6_meets h) dX6_rank_75 (fun r4 M3 H locs h w => ?_)
      exact r_iret E w hr hlk h (Nat.le_refl 0) (Nat.le_refl 0) dX6_rank_78
    · have h := h.2 c2
      refine r_aload_n (x := (some h0)) hx hb dX6_rank_48 rfl (lh_at hl 0 rfl) ?_
      refine r_getR E w rfl ho1 cl_X6 10 rfl fl_X6_26 dX6_rank_49 ?_
      refine lv_iload (x := x5) hx hb dX6_rank_52 (lh_at hl 2 rfl) ?_
      obtain ⟨a5, ea5, h⟩ := h
      obtain ⟨ha6, h⟩ := h
      refine r_iald E w ea5 ha6 dX6_rank_54 ?_
      refine lv_iload_n (x := x3) hx hb dX6_rank_55 rfl (lh_at hl 1 rfl) ?_
      refine lv_icmp_ne (tgt := 67) hx hb dX6_rank_56 (by decide) (fun c7 => ?_) (fun c7 => ?_)
      · have h := h.1 c7
        refine r_iinc (k := 2) (x := x5) (v := (x5 + 1)) (lv' := [(5, iv (x5 + 1)), (0, rv (some h0)), (3, iv x3)]) hx hb dX6_rank_67 hl rfl rfl (by decide) rfl (fun ls hl => ?_)
        refine lv_goto (tgt := 39) hx hb dX6_rank_70 (by decide) ?_
        exact ih _ _ _ _ _ _ _ h w (lh_sub hl [1, 2, 0] rfl)
      · have h := h.2 c7
        refine r_aload_n (x := (some h0)) hx hb dX6_rank_59 rfl (lh_at hl 0 rfl) ?_
        refine r_getR E w rfl ho1 cl_X6 12 rfl fl_X6_32 dX6_rank_60 ?_
        refine lv_iload (x := x5) hx hb dX6_rank_63 (lh_at hl 2 rfl) ?_
        obtain ⟨a8, ea8, h⟩ := h
        obtain ⟨ha9, h⟩ := h
        refine r_iald E w ea8 ha9 dX6_rank_65 ?_
        exact r_iret E w hr hlk h (Nat.le_refl 0) (Nat.le_refl 0) dX6_rank_66
def B_X6_rank_0 (Q : Int32 → Mm → Prop)  (h0 : Nat) (x1 : Int32) (x2 : Int32) (x3 : Int32) (M : Mm) : Prop := (ok M h0 6 ∧ (B_X6_need_0 (fun r3 M2 => ((0 ≤ r3 → (ok M2 h0 6 ∧ (B_X6_in_0 (fun r7 M6 => ((¬ r7 = 0 → (∃ n9, B_X6_rank_39 Q  n9 h0 x3 (0 : Int32) M6)) ∧ (r7 = 0 → (ok M6 h0 6 ∧ (B_X6_meets_0 (fun r12 M11 => Q r12 M11) h0 (2 : Int32) M6))))) x3 (0 : Int32) ((gI M2 h0 3) - (1 : Int32)) M2))) ∧ (¬ 0 ≤ r3 → Q r3 M2))) h0 x1 x2 M))
set_option maxHeartbeats 4000000 in
set_option maxRecDepth 100000 in
theorem k_X6_rank_0 {p : Program} {l : Launch} {e : Env} {s : State} {m : MethodId} {args : Array Value} {below : List Frame} {meth : Method} {c : Code} {D : va_G} {cy : Nat → ClassId} {A : Nat → Prop} {Q : Int32 → Mm → Prop} (E : Ex p m c cX6_rank 6 s args RX6 D cy A) (hr : meth.sig.returnType = (some .int)) (hlk : meth.locks = false) : ∀ (h0 : Nat) (x1 : Int32) (x2 : Int32) (x3 : Int32) (M : Mm) (H : Heap) (locs : List Loc) (ls : Array Slot), B_X6_rank_0 Q  h0 x1 x2 x3 M → Wd D cy A s M H locs → lh ls 6 [(0, rv (some h0)), (1, iv x1), (2, iv x2), (3, iv x3)] → W p l e (rmm 4 0 0) s m args below meth c H locs 0 0 (MQ below (va_Qi Q (Po D cy A) A) args s 0 0 A) (F0 m 0 ls []) := by
  obtain ⟨hx, hb, hml, hown, hts⟩ := E.1
  intro h0 x1 x2 x3 M H locs ls h w hl
  unfold B_X6_rank_0 at h
  refine r_aload_n (x := (some h0)) hx hb dX6_rank_0 rfl (lh_at hl 0 rfl) ?_
  refine lv_iload_n (x := x1) hx hb dX6_rank_1 rfl (lh_at hl 1 rfl) ?_
  refine lv_iload_n (x := x2) hx hb dX6_rank_2 rfl (lh_at hl 2 rfl) ?_
  obtain ⟨ho1, h⟩ := h
  refine z_callVi E w rfl ho1 cl_X6 yk_X6_need ⟨Nat.le_of_ble_eq_true rfl, Nat.le_of_ble_eq_true rfl⟩ ⟨(Nat.zero_le _), (Nat.zero_le _)⟩ rfl ml_X6_119 im_X6_need sl_X6_need [iv x1, iv x2] rfl rfl hl [] rfl (Nat.le_of_ble_eq_true rfl) (K_X6_need h) dX6_rank_3 (fun r3 M2 H locs h w => ?_)
  refine r_istore (lv' := [(4, iv r3), (0, rv (some h0)), (1, iv x1), (2, iv x2), (3, iv x3)]) hx hb dX6_rank_6 hl (by decide) rfl (fun ls hl => ?_)
  refine lv_iload (x := r3) hx hb dX6_rank_8 (lh_at hl 0 rfl) ?_
  refine lv_if_ge (tgt := 16) hx hb dX6_rank_10 (by decide) (fun c4 => ?_) (fun c4 => ?_)
  · have h := h.1 c4
    refine lv_iload_n (x := x3) hx hb dX6_rank_16 rfl (lh_at hl 4 rfl) ?_
    refine lv_iconst (v := (0 : Int32)) hx hb dX6_rank_17 (by decide) ?_
    refine r_aload_n (x := (some h0)) hx hb dX6_rank_18 rfl (lh_at hl 1 rfl) ?_
    obtain ⟨ho5, h⟩ := h
    refine r_getI E w rfl ho5 cl_X6 3 rfl fl_X6_91 dX6_rank_19 ?_
    refine lv_iconst (v := (1 : Int32)) hx hb dX6_rank_22 (by decide) ?_
    refine lv_isub hx hb dX6_rank_23 ?_
    refine z_callSi E w yk_X6_in ⟨Nat.le_of_ble_eq_true rfl, Nat.le_of_ble_eq_true rfl⟩ ⟨(Nat.zero_le _), (Nat.zero_le _)⟩ rfl ml_X6_84 st_X6_in [iv x3, iv (0 : Int32), iv ((gI M2 h0 3) - (1 : Int32))] rfl rfl hl [] rfl (Nat.le_of_ble_eq_true rfl) (K_X6_in h) dX6_rank_24 (fun r7 M6 H locs h w => ?_)
    refine lv_if_ne (tgt := 36) hx hb dX6_rank_27 (by decide) (fun c8 => ?_) (fun c8 => ?_)
    · have h := h.1 c8
      refine lv_iconst (v := (0 : Int32)) hx hb dX6_rank_36 (by decide) ?_
      refine r_istore (lv' := [(5, iv (0 : Int32)), (4, iv r3), (0, rv (some h0)), (1, iv x1), (2, iv x2), (3, iv x3)]) hx hb dX6_rank_37 hl (by decide) rfl (fun ls hl => ?_)
      obtain ⟨n9, h⟩ := h
      exact k_X6_rank_39 E hr hlk  n9 _ _ _ _ _ _ _ h w (lh_sub hl [2, 5, 0] rfl)
    · have h := h.2 c8
      refine r_aload_n (x := (some h0)) hx hb dX6_rank_30 rfl (lh_at hl 1 rfl) ?_
      refine lv_iconst (v := (2 : Int32)) hx hb dX6_rank_31 (by decide) ?_
      obtain ⟨ho10, h⟩ := h
      refine z_callVi E w rfl ho10 cl_X6 yk_X6_meets ⟨Nat.le_of_ble_eq_true rfl, Nat.le_of_ble_eq_true rfl⟩ ⟨(Nat.zero_le _), (Nat.zero_le _)⟩ rfl ml_X6_106 im_X6_meets sl_X6_meets [iv (2 : Int32)] rfl rfl hl [] rfl (Nat.le_of_ble_eq_true rfl) (K_X6_meets h) dX6_rank_32 (fun r12 M11 H locs h w => ?_)
      exact r_iret E w hr hlk h (Nat.le_refl 0) (Nat.le_refl 0) dX6_rank_35
  · have h := h.2 c4
    refine lv_iload (x := r3) hx hb dX6_rank_13 (lh_at hl 0 rfl) ?_
    exact r_iret E w hr hlk h (Nat.le_refl 0) (Nat.le_refl 0) dX6_rank_15
theorem K_X6_rank {l : Launch} {Q : Int32 → Mm → Prop} {h0 : Nat} {x1 : Int32} {x2 : Int32} {x3 : Int32} {M : Mm} (h : B_X6_rank_0 Q h0 x1 x2 x3 M) : KI l yX6_rank cdX6_rank (rmm 4 0 0) [rv (some h0), iv x1, iv x2, iv x3] M Q :=
  KI_of (by decide) rfl (Nat.le_of_ble_eq_true rfl) (fun p e s m args below meth c D cy A ls E hr hlk hn w hl => k_X6_rank_0 E hr hlk _ _ _ _ _ _ _ _ h w hl)
def B_X6_mean_19 (Q : Int32 → Mm → Prop)  : Nat → Nat → Int32 → Int32 → Mm → Prop
  | 0, _, _, _, _ => False
  | n + 1, h0, x4, x5, M => (ok M h0 6 ∧ (((gI M h0 9) ≤ x5 → ((¬ (gI M h0 9) = 0 → (¬ (gI M h0 9) = 0 ∧ Q (x4 / (gI M h0 9)) M)) ∧ ((gI M h0 9) = 0 → (B_X6_meets_0 (fun r6 M5 => Q r6 M5) h0 (4 : Int32) M)))) ∧ (¬ (gI M h0 9) ≤ x5 → (∃ a7, (gR M h0 11) = some a7 ∧ (ar M a7 7 x5 ∧ B_X6_mean_19 Q  n h0 (x4 + (gI M a7 (Int32.toNatClampNeg x5))) (x5 + 1) M)))))
set_option maxHeartbeats 4000000 in
set_option maxRecDepth 100000 in
theorem k_X6_mean_19 {p : Program} {l : Launch} {e : Env} {s : State} {m : MethodId} {args : Array Value} {below : List Frame} {meth : Method} {c : Code} {D : va_G} {cy : Nat → ClassId} {A : Nat → Prop} {Q : Int32 → Mm → Prop} (E : Ex p m c cX6_mean 6 s args RX6 D cy A) (hr : meth.sig.returnType = (some .int)) (hlk : meth.locks = false) : ∀ (n : Nat), ∀ (h0 : Nat) (x4 : Int32) (x5 : Int32) (M : Mm) (H : Heap) (locs : List Loc) (ls : Array Slot), B_X6_mean_19 Q  n h0 x4 x5 M → Wd D cy A s M H locs → lh ls 6 [(0, rv (some h0)), (4, iv x4), (5, iv x5)] → W p l e (rmm 4 0 0) s m args below meth c H locs 0 0 (MQ below (va_Qi Q (Po D cy A) A) args s 0 0 A) (F0 m 19 ls []) := by
  obtain ⟨hx, hb, hml, hown, hts⟩ := E.1
  intro n
  induction n with
  | zero => intro h0 x4 x5 M H locs ls h; exact False.elim h
  | succ n ih =>
    intro h0 x4 x5 M H locs ls h w hl
    unfold B_X6_mean_19 at h
    refine lv_iload (x := x5) hx hb dX6_mean_19 (lh_at hl 2 rfl) ?_
    refine r_aload_n (x := (some h0)) hx hb dX6_mean_21 rfl (lh_at hl 0 rfl) ?_
    obtain ⟨ho1, h⟩ := h
    refine r_getI E w rfl ho1 cl_X6 9 rfl fl_X6_112 dX6_mean_22 ?_
    refine lv_icmp_ge (tgt := 46) hx hb dX6_mean_25 (by decide) (fun c2 => ?_) (fun c2 => ?_)
    · have h := h.1 c2
      refine r_aload_n (x := (some h0)) hx hb dX6_mean_46 rfl (lh_at hl 0 rfl) ?_
      refine r_getI E w rfl ho1 cl_X6 9 rfl fl_X6_112 dX6_mean_47 ?_
      refine lv_if_ne (tgt := 61) hx hb dX6_mean_50 (by decide) (fun c3 => ?_) (fun c3 => ?_)
      · have h := h.1 c3
        refine lv_iload (x := x4) hx hb dX6_mean_61 (lh_at hl 1 rfl) ?_
        refine r_aload_n (x := (some h0)) hx hb dX6_mean_63 rfl (lh_at hl 0 rfl) ?_
        refine r_getI E w rfl ho1 cl_X6 9 rfl fl_X6_112 dX6_mean_64 ?_
        obtain ⟨hz4, h⟩ := h
        refine lv_idiv hx hb dX6_mean_67 hz4 ?_
        exact r_iret E w hr hlk h (Nat.le_refl 0) (Nat.le_refl 0) dX6_mean_68
      · have h := h.2 c3
        refine r_aload_n (x := (some h0)) hx hb dX6_mean_53 rfl (lh_at hl 0 rfl) ?_
        refine lv_iconst (v := (4 : Int32)) hx hb dX6_mean_54 (by decide) ?_
        refine z_callVi E w rfl ho1 cl_X6 yk_X6_meets ⟨Nat.le_of_ble_eq_true rfl, Nat.le_of_ble_eq_true rfl⟩ ⟨(Nat.zero_le _), (Nat.zero_le _)⟩ rfl ml_X6_106 im_X6_meets sl_X6_meets [iv (4 : Int32)] rfl rfl hl [] rfl (Nat.le_of_ble_eq_true rfl) (K_X6_meets h) dX6_mean_55 (fun r6 M5 H locs h w => ?_)
        refine lv_goto (tgt := 68) hx hb dX6_mean_58 (by decide) ?_
        exact r_iret E w hr hlk h (Nat.le_refl 0) (Nat.le_refl 0) dX6_mean_68
    · have h := h.2 c2
      refine lv_iload (x := x4) hx hb dX6_mean_28 (lh_at hl 1 rfl) ?_
      refine r_aload_n (x := (some h0)) hx hb dX6_mean_30 rfl (lh_at hl 0 rfl) ?_
      refine r_getR E w rfl ho1 cl_X6 11 rfl fl_X6_29 dX6_mean_31 ?_
      refine lv_iload (x := x5) hx hb dX6_mean_34 (lh_at hl 2 rfl) ?_
      obtain ⟨a7, ea7, h⟩ := h
      obtain ⟨ha8, h⟩ := h
      refine r_iald E w ea7 ha8 dX6_mean_36 ?_
      refine lv_iadd hx hb dX6_mean_37 ?_
      refine r_istore (lv' := [(4, iv (x4 + (gI M a7 (Int32.toNatClampNeg x5)))), (0, rv (some h0)), (5, iv x5)]) hx hb dX6_mean_38 hl (by decide) rfl (fun ls hl => ?_)
      refine r_iinc (k := 2) (x := x5) (v := (x5 + 1)) (lv' := [(5, iv (x5 + 1)), (4, iv (x4 + (gI M a7 (Int32.toNatClampNeg x5)))), (0, rv (some h0))]) hx hb dX6_mean_40 hl rfl rfl (by decide) rfl (fun ls hl => ?_)
      refine lv_goto (tgt := 19) hx hb dX6_mean_43 (by decide) ?_
      exact ih _ _ _ _ _ _ _ h w (lh_sub hl [2, 1, 0] rfl)
def B_X6_mean_0 (Q : Int32 → Mm → Prop)  (h0 : Nat) (x1 : Int32) (x2 : Int32) (M : Mm) : Prop := (ok M h0 6 ∧ (B_X6_need_0 (fun r3 M2 => ((0 ≤ r3 → (∃ n5, B_X6_mean_19 Q  n5 h0 (0 : Int32) (0 : Int32) M2)) ∧ (¬ 0 ≤ r3 → Q r3 M2))) h0 x1 x2 M))
set_option maxHeartbeats 4000000 in
set_option maxRecDepth 100000 in
theorem k_X6_mean_0 {p : Program} {l : Launch} {e : Env} {s : State} {m : MethodId} {args : Array Value} {below : List Frame} {meth : Method} {c : Code} {D : va_G} {cy : Nat → ClassId} {A : Nat → Prop} {Q : Int32 → Mm → Prop} (E : Ex p m c cX6_mean 6 s args RX6 D cy A) (hr : meth.sig.returnType = (some .int)) (hlk : meth.locks = false) : ∀ (h0 : Nat) (x1 : Int32) (x2 : Int32) (M : Mm) (H : Heap) (locs : List Loc) (ls : Array Slot), B_X6_mean_0 Q  h0 x1 x2 M → Wd D cy A s M H locs → lh ls 6 [(0, rv (some h0)), (1, iv x1), (2, iv x2)] → W p l e (rmm 4 0 0) s m args below meth c H locs 0 0 (MQ below (va_Qi Q (Po D cy A) A) args s 0 0 A) (F0 m 0 ls []) := by
  obtain ⟨hx, hb, hml, hown, hts⟩ := E.1
  intro h0 x1 x2 M H locs ls h w hl
  unfold B_X6_mean_0 at h
  refine r_aload_n (x := (some h0)) hx hb dX6_mean_0 rfl (lh_at hl 0 rfl) ?_
  refine lv_iload_n (x := x1) hx hb dX6_mean_1 rfl (lh_at hl 1 rfl) ?_
  refine lv_iload_n (x := x2) hx hb dX6_mean_2 rfl (lh_at hl 2 rfl) ?_
  obtain ⟨ho1, h⟩ := h
  refine z_callVi E w rfl ho1 cl_X6 yk_X6_need ⟨Nat.le_of_ble_eq_true rfl, Nat.le_of_ble_eq_true rfl⟩ ⟨(Nat.zero_le _), (Nat.zero_le _)⟩ rfl ml_X6_119 im_X6_need sl_X6_need [iv x1, iv x2] rfl rfl hl [] rfl (Nat.le_of_ble_eq_true rfl) (K_X6_need h) dX6_mean_3 (fun r3 M2 H locs h w => ?_)
  refine r_istore_n (lv' := [(3, iv r3), (0, rv (some h0)), (1, iv x1), (2, iv x2)]) hx hb dX6_mean_6 rfl hl (by decide) rfl (fun ls hl => ?_)
  refine lv_iload_n (x := r3) hx hb dX6_mean_7 rfl (lh_at hl 0 rfl) ?_
  refine lv_if_ge (tgt := 13) hx hb dX6_mean_8 (by decide) (fun c4 => ?_) (fun c4 => ?_)
  · have h := h.1 c4
    refine lv_iconst (v := (0 : Int32)) hx hb dX6_mean_13 (by decide) ?_
    refine r_istore (lv' := [(4, iv (0 : Int32)), (3, iv r3), (0, rv (some h0)), (1, iv x1), (2, iv x2)]) hx hb dX6_mean_14 hl (by decide) rfl (fun ls hl => ?_)
    refine lv_iconst (v := (0 : Int32)) hx hb dX6_mean_16 (by decide) ?_
    refine r_istore (lv' := [(5, iv (0 : Int32)), (4, iv (0 : Int32)), (3, iv r3), (0, rv (some h0)), (1, iv x1), (2, iv x2)]) hx hb dX6_mean_17 hl (by decide) rfl (fun ls hl => ?_)
    obtain ⟨n5, h⟩ := h
    exact k_X6_mean_19 E hr hlk  n5 _ _ _ _ _ _ _ h w (lh_sub hl [3, 1, 0] rfl)
  · have h := h.2 c4
    refine lv_iload_n (x := r3) hx hb dX6_mean_11 rfl (lh_at hl 0 rfl) ?_
    exact r_iret E w hr hlk h (Nat.le_refl 0) (Nat.le_refl 0) dX6_mean_12
theorem K_X6_mean {l : Launch} {Q : Int32 → Mm → Prop} {h0 : Nat} {x1 : Int32} {x2 : Int32} {M : Mm} (h : B_X6_mean_0 Q h0 x1 x2 M) : KI l yX6_mean cdX6_mean (rmm 4 0 0) [rv (some h0), iv x1, iv x2] M Q :=
  KI_of (by decide) rfl (Nat.le_of_ble_eq_true rfl) (fun p e s m args below meth c D cy A ls E hr hlk hn w hl => k_X6_mean_0 E hr hlk _ _ _ _ _ _ _ h w hl)
