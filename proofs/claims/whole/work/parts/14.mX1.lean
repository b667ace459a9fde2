def B_X1_init_0 (Q : Mm → Prop)  (h0 : Nat) (gc : Nat) (gs : Nat) (M : Mm) : Prop := (1 ≤ gc ∧ 40 ≤ gs ∧ (∀ q2, q2 ∉ gL M → (∀ M3, M3 = nC M q2 7 40 → (ok M3 h0 1 ∧ (∀ M5, M5 = pR M3 h0 0 (some q2) → (1 ≤ (gc - 1) ∧ 40 ≤ (gs - 40) ∧ (∀ q7, q7 ∉ gL M5 → (∀ M8, M8 = nC M5 q7 7 40 → (ok M8 h0 1 ∧ (∀ M10, M10 = pR M8 h0 1 (some q7) → (1 ≤ ((gc - 1) - 1) ∧ 40 ≤ ((gs - 40) - 40) ∧ (∀ q12, q12 ∉ gL M10 → (∀ M13, M13 = nC M10 q12 7 40 → (ok M13 h0 1 ∧ (∀ M15, M15 = pR M13 h0 2 (some q12) → (1 ≤ (((gc - 1) - 1) - 1) ∧ 40 ≤ (((gs - 40) - 40) - 40) ∧ (∀ q17, q17 ∉ gL M15 → (∀ M18, M18 = nC M15 q17 7 40 → (ok M18 h0 1 ∧ (∀ M20, M20 = pR M18 h0 3 (some q17) → Q M20))))))))))))))))))))
set_option maxHeartbeats 4000000 in
set_option maxRecDepth 100000 in
theorem k_X1_init_0 {p : Program} {l : Launch} {e : Env} {s : State} {m : MethodId} {args : Array Value} {below : List Frame} {meth : Method} {c : Code} {D : va_G} {cy : Nat → ClassId} {A : Nat → Prop} {mc ms : Nat} {Q : Mm → Prop} (E : Ex p m c cX1_init 1 s args RX1 D cy A) (hr : meth.sig.returnType = none) (hlk : meth.locks = false) (hin : meth.name = "<init>") : ∀ (h0 : Nat) (gc : Nat) (gs : Nat) (M : Mm) (H : Heap) (locs : List Loc) (ls : Array Slot) (cells slots : Nat), B_X1_init_0 Q  h0 gc gs M → Wd D cy A s M H locs → lh ls 1 [(0, rv (some h0))] → cells + gc ≤ mc ∧ slots + gs ≤ ms → W p l e (rmm 1 mc ms) s m args below meth c H locs cells slots (MQ below (va_Qv Q (Po D cy A) A) args s mc ms A) (F0 m 0 ls []) := by
  obtain ⟨hx, hb, hml, hown, hts⟩ := E.1
  intro h0 gc gs M H locs ls cells slots h w hl hg
  unfold B_X1_init_0 at h
  refine r_aload_n (x := (some h0)) hx hb dX1_init_0 rfl (lh_at hl 0 rfl) ?_
  refine W.objInit hx hb hown (hts _ ml_X1_3) (hts _ im_object) (hts _ cd_object) rfl (by rw [hml]; exact hl.1) rfl dX1_init_1 (Nat.le_of_ble_eq_true rfl) (Nat.le_of_ble_eq_true rfl) ?_
  refine W.eq (g2 := F0 m 4 ls []) rfl ?_
  refine r_aload_n (x := (some h0)) hx hb dX1_init_4 rfl (lh_at hl 0 rfl) ?_
  refine lv_bipush (v := (40 : Int32)) hx hb dX1_init_5 (by decide) ?_
  obtain ⟨g1a, g1b, h⟩ := h
  refine r_newa7 (N := 40) E w acl_int (by decide) (by decide) (by decide) (show cells + 1 ≤ mc by omega) (show slots + 40 ≤ ms by omega) dX1_init_7 (fun q2 H hq2 w => ?_)
  have h := h q2 hq2
  obtain ⟨M3, eM3⟩ : ∃ z, z = nC M q2 7 40 := ⟨_, rfl⟩
  rw [← eM3] at w
  have h := h M3 eM3
  have hg : (cells + 1) + (gc - 1) ≤ mc ∧ (slots + 40) + (gs - 40) ≤ ms := ⟨by omega, by omega⟩
  obtain ⟨ho4, h⟩ := h
  refine r_putR (v := (some q2)) E w rfl ho4 cl_X1 0 rfl fl_X1_9 (Or.inr ⟨rfl, hin, rfl⟩) (Or.inr ⟨_, rfl⟩) dX1_init_9 (fun H locs w => ?_)
  obtain ⟨M5, eM5⟩ : ∃ z, z = pR M3 h0 0 (some q2) := ⟨_, rfl⟩
  rw [← eM5] at w
  have h := h M5 eM5
  refine r_aload_n (x := (some h0)) hx hb dX1_init_12 rfl (lh_at hl 0 rfl) ?_
  refine lv_bipush (v := (40 : Int32)) hx hb dX1_init_13 (by decide) ?_
  obtain ⟨g6a, g6b, h⟩ := h
  refine r_newa7 (N := 40) E w acl_int (by decide) (by decide) (by decide) (show (cells + 1) + 1 ≤ mc by omega) (show (slots + 40) + 40 ≤ ms by omega) dX1_init_15 (fun q7 H hq7 w => ?_)
  have h := h q7 hq7
  obtain ⟨M8, eM8⟩ : ∃ z, z = nC M5 q7 7 40 := ⟨_, rfl⟩
  rw [← eM8] at w
  have h := h M8 eM8
  have hg : ((cells + 1) + 1) + ((gc - 1) - 1) ≤ mc ∧ ((slots + 40) + 40) + ((gs - 40) - 40) ≤ ms := ⟨by omega, by omega⟩
  obtain ⟨ho9, h⟩ := h
  refine r_putR (v := (some q7)) E w rfl ho9 cl_X1 1 rfl fl_X1_15 (Or.inr ⟨rfl, hin, rfl⟩) (Or.inr ⟨_, rfl⟩) dX1_init_17 (fun H locs w => ?_)
  obtain ⟨M10, eM10⟩ : ∃ z, z = pR M8 h0 1 (some q7) := ⟨_, rfl⟩
  rw [← eM10] at w
  have h := h M10 eM10
  refine r_aload_n (x := (some h0)) hx hb dX1_init_20 rfl (lh_at hl 0 rfl) ?_
  refine lv_bipush (v := (40 : Int32)) hx hb dX1_init_21 (by decide) ?_
  obtain ⟨g11a, g11b, h⟩ := h
  refine r_newa7 (N := 40) E w acl_int (by decide) (by decide) (by decide) (show ((cells + 1) + 1) + 1 ≤ mc by omega) (show ((slots + 40) + 40) + 40 ≤ ms by omega) dX1_init_23 (fun q12 H hq12 w => ?_)
  have h := h q12 hq12
  obtain ⟨M13, eM13⟩ : ∃ z, z = nC M10 q12 7 40 := ⟨_, rfl⟩
  rw [← eM13] at w
  have h := h M13 eM13
  have hg : (((cells + 1) + 1) + 1) + (((gc - 1) - 1) - 1) ≤ mc ∧ (((slots + 40) + 40) + 40) + (((gs - 40) - 40) - 40) ≤ ms := ⟨by omega, by omega⟩
  obtain ⟨ho14, h⟩ := h
  refine r_putR (v := (some q12)) E w rfl ho14 cl_X1 2 rfl fl_X1_18 (Or.inr ⟨rfl, hin, rfl⟩) (Or.inr ⟨_, rfl⟩) dX1_init_25 (fun H locs w => ?_)
  obtain ⟨M15, eM15⟩ : ∃ z, z = pR M13 h0 2 (some q12) := ⟨_, rfl⟩
  rw [← eM15] at w
  have h := h M15 eM15
  refine r_aload_n (x := (some h0)) hx hb dX1_init_28 rfl (lh_at hl 0 rfl) ?_
  refine lv_bipush (v := (40 : Int32)) hx hb dX1_init_29 (by decide) ?_
  obtain ⟨g16a, g16b, h⟩ := h
  refine r_newa7 (N := 40) E w acl_int (by decide) (by decide) (by decide) (show (((cells + 1) + 1) + 1) + 1 ≤ mc by omega) (show (((slots + 40) + 40) + 40) + 40 ≤ ms by omega) dX1_init_31 (fun q17 H hq17 w => ?_)
  have h := h q17 hq17
  obtain ⟨M18, eM18⟩ : ∃ z, z = nC M15 q17 7 40 := ⟨_, rfl⟩
  rw [← eM18] at w
  have h := h M18 eM18
  have hg : ((((cells + 1) + 1) + 1) + 1) + ((((gc - 1) - 1) - 1) - 1) ≤ mc ∧ ((((slots + 40) + 40) + 40) + 40) + ((((gs - 40) - 40) - 40) - 40) ≤ ms := ⟨by omega, by omega⟩
  obtain ⟨ho19, h⟩ := h
  refine r_putR (v := (some q17)) E w rfl ho19 cl_X1 3 rfl fl_X1_21 (Or.inr ⟨rfl, hin, rfl⟩) (Or.inr ⟨_, rfl⟩) dX1_init_33 (fun H locs w => ?_)
  obtain ⟨M20, eM20⟩ : ∃ z, z = pR M18 h0 3 (some q17) := ⟨_, rfl⟩
  rw [← eM20] at w
  have h := h M20 eM20
  exact r_vret E w hr hlk h (show ((((cells + 1) + 1) + 1) + 1) ≤ mc by omega) (show ((((slots + 40) + 40) + 40) + 40) ≤ ms by omega) dX1_init_36
theorem K_X1_init {l : Launch} {Q : Mm → Prop} {h0 : Nat} {gc gs : Nat} {M : Mm} (h : B_X1_init_0 Q h0 gc gs M) : KV l yX1_init cdX1_init (rmm 1 gc gs) [rv (some h0)] M Q :=
  KV_of (by decide) rfl (Nat.le_of_ble_eq_true rfl) (fun p e s m args below meth c D cy A ls E hr hlk hn w hl => k_X1_init_0 E hr hlk hn _ _ _ _ _ _ _ _ _ h w hl ⟨Nat.le_of_eq (Nat.zero_add _), Nat.le_of_eq (Nat.zero_add _)⟩)
def B_X1_farFromMiddle_0 (Q : Int32 → Mm → Prop)  (h0 : Nat) (x1 : Int32) (x2 : Int32) (M : Mm) : Prop := ((¬ x2 = 0 → (ok M h0 1 ∧ (∃ a3, (gR M h0 0) = some a3 ∧ (ar M a3 7 ((x2 - (1 : Int32)) / (2 : Int32)) ∧ (ar M a3 7 (x2 / (2 : Int32)) ∧ (((gI M a3 (Int32.toNatClampNeg ((x2 - (1 : Int32)) / (2 : Int32)))) ≤ x1 → ((x1 ≤ (gI M a3 (Int32.toNatClampNeg (x2 / (2 : Int32)))) → Q (0 : Int32) M) ∧ (¬ x1 ≤ (gI M a3 (Int32.toNatClampNeg (x2 / (2 : Int32)))) → Q (x1 - (gI M a3 (Int32.toNatClampNeg (x2 / (2 : Int32))))) M))) ∧ (¬ (gI M a3 (Int32.toNatClampNeg ((x2 - (1 : Int32)) / (2 : Int32)))) ≤ x1 → Q ((gI M a3 (Int32.toNatClampNeg ((x2 - (1 : Int32)) / (2 : Int32)))) - x1) M))))))) ∧ (x2 = 0 → Q (0 : Int32) M))
set_option maxHeartbeats 4000000 in
set_option maxRecDepth 100000 in
theorem k_X1_farFromMiddle_0 {p : Program} {l : Launch} {e : Env} {s : State} {m : MethodId} {args : Array Value} {below : List Frame} {meth : Method} {c : Code} {D : va_G} {cy : Nat → ClassId} {A : Nat → Prop} {Q : Int32 → Mm → Prop} (E : Ex p m c cX1_farFromMiddle 5 s args RX1 D cy A) (hr : meth.sig.returnType = (some .int)) (hlk : meth.locks = false) : ∀ (h0 : Nat) (x1 : Int32) (x2 : Int32) (M : Mm) (H : Heap) (locs : List Loc) (ls : Array Slot), B_X1_farFromMiddle_0 Q  h0 x1 x2 M → Wd D cy A s M H locs → lh ls 5 [(0, rv (some h0)), (1, iv x1), (2, iv x2)] → W p l e (rmm 0 0 0) s m args below meth c H locs 0 0 (MQ below (va_Qi Q (Po D cy A) A) args s 0 0 A) (F0 m 0 ls []) := by
  obtain ⟨hx, hb, hml, hown, hts⟩ := E.1
  intro h0 x1 x2 M H locs ls h w hl
  unfold B_X1_farFromMiddle_0 at h
  refine lv_iload_n (x := x2) hx hb dX1_farFromMiddle_0 rfl (lh_at hl 2 rfl) ?_
  refine lv_if_ne (tgt := 6) hx hb dX1_farFromMiddle_1 (by decide) (fun c1 => ?_) (fun c1 => ?_)
  · have h := h.1 c1
    refine r_aload_n (x := (some h0)) hx hb dX1_farFromMiddle_6 rfl (lh_at hl 0 rfl) ?_
    obtain ⟨ho2, h⟩ := h
    refine r_getR E w rfl ho2 cl_X1 0 rfl fl_X1_9 dX1_farFromMiddle_7 ?_
    refine lv_iload_n (x := x2) hx hb dX1_farFromMiddle_10 rfl (lh_at hl 2 rfl) ?_
    refine lv_iconst (v := (1 : Int32)) hx hb dX1_farFromMiddle_11 (by decide) ?_
    refine lv_isub hx hb dX1_farFromMiddle_12 ?_
    refine lv_iconst (v := (2 : Int32)) hx hb dX1_farFromMiddle_13 (by decide) ?_
    refine lv_idiv hx hb dX1_farFromMiddle_14 (by decide) ?_
    obtain ⟨a3, ea3, h⟩ := h
    obtain ⟨ha4, h⟩ := h
    refine r_iald E w ea3 ha4 dX1_farFromMiddle_15 ?_
    refine r_istore_n (lv' := [(3, iv (gI M a3 (Int32.toNatClampNeg ((x2 - (1 : Int32)) / (2 : Int32))))), (0, rv (some h0)), (1, iv x1), (2, iv x2)]) hx hb dX1_farFromMiddle_16 rfl hl (by decide) rfl (fun ls hl => ?_)
    refine r_aload_n (x := (some h0)) hx hb dX1_farFromMiddle_17 rfl (lh_at hl 1 rfl) ?_
    refine r_getR E w rfl ho2 cl_X1 0 rfl fl_X1_9 dX1_farFromMiddle_18 ?_
    refine lv_iload_n (x := x2) hx hb dX1_farFromMiddle_21 rfl (lh_at hl 3 rfl) ?_
    refine lv_iconst (v := (2 : Int32)) hx hb dX1_farFromMiddle_22 (by decide) ?_
    refine lv_idiv hx hb dX1_farFromMiddle_23 (by decide) ?_
    obtain ⟨ha5, h⟩ := h
    refine r_iald E w ea3 ha5 dX1_farFromMiddle_24 ?_
    refine r_istore (lv' := [(4, iv (gI M a3 (Int32.toNatClampNeg (x2 / (2 : Int32))))), (3, iv (gI M a3 (Int32.toNatClampNeg ((x2 - (1 : Int32)) / (2 : Int32))))), (0, rv (some h0)), (1, iv x1), (2, iv x2)]) hx hb dX1_farFromMiddle_25 hl (by decide) rfl (fun ls hl => ?_)
    refine lv_iload_n (x := x1) hx hb dX1_farFromMiddle_27 rfl (lh_at hl 3 rfl) ?_
    refine lv_iload_n (x := (gI M a3 (Int32.toNatClampNeg ((x2 - (1 : Int32)) / (2 : Int32))))) hx hb dX1_farFromMiddle_28 rfl (lh_at hl 1 rfl) ?_
    refine lv_icmp_ge (tgt := 38) hx hb dX1_farFromMiddle_29 (by decide) (fun c6 => ?_) (fun c6 => ?_)
    · have h := h.1 c6
      refine lv_iload_n (x := x1) hx hb dX1_farFromMiddle_38 rfl (lh_at hl 3 rfl) ?_
      refine lv_iload (x := (gI M a3 (Int32.toNatClampNeg (x2 / (2 : Int32))))) hx hb dX1_farFromMiddle_39 (lh_at hl 0 rfl) ?_
      refine lv_icmp_le (tgt := 51) hx hb dX1_farFromMiddle_41 (by decide) (fun c7 => ?_) (fun c7 => ?_)
      · have h := h.1 c7
        refine lv_iconst (v := (0 : Int32)) hx hb dX1_farFromMiddle_51 (by decide) ?_
        exact r_iret E w hr hlk h (Nat.le_refl 0) (Nat.le_refl 0) dX1_farFromMiddle_52
      · have h := h.2 c7
        refine lv_iload_n (x := x1) hx hb dX1_farFromMiddle_44 rfl (lh_at hl 3 rfl) ?_
        refine lv_iload (x := (gI M a3 (Int32.toNatClampNeg (x2 / (2 : Int32))))) hx hb dX1_farFromMiddle_45 (lh_at hl 0 rfl) ?_
        refine lv_isub hx hb dX1_farFromMiddle_47 ?_
        refine lv_goto (tgt := 52) hx hb dX1_farFromMiddle_48 (by decide) ?_
        exact r_iret E w hr hlk h (Nat.le_refl 0) (Nat.le_refl 0) dX1_farFromMiddle_52
    · have h := h.2 c6
      refine lv_iload_n (x := (gI M a3 (Int32.toNatClampNeg ((x2 - (1 : Int32)) / (2 : Int32))))) hx hb dX1_farFromMiddle_32 rfl (lh_at hl 1 rfl) ?_
      refine lv_iload_n (x := x1) hx hb dX1_farFromMiddle_33 rfl (lh_at hl 3 rfl) ?_
      refine lv_isub hx hb dX1_farFromMiddle_34 ?_
      refine lv_goto (tgt := 52) hx hb dX1_farFromMiddle_35 (by decide) ?_
      exact r_iret E w hr hlk h (Nat.le_refl 0) (Nat.le_refl 0) dX1_farFromMiddle_52
  · have h := h.2 c1
    refine lv_iconst (v := (0 : Int32)) hx hb dX1_farFromMiddle_4 (by decide) ?_
    exact r_iret E w hr hlk h (Nat.le_refl 0) (Nat.le_refl 0) dX1_farFromMiddle_5
theorem K_X1_farFromMiddle {l : Launch} {Q : Int32 → Mm → Prop} {h0 : Nat} {x1 : Int32} {x2 : Int32} {M : Mm} (h : B_X1_farFromMiddle_0 Q h0 x1 x2 M) : KI l yX1_farFromMiddle cdX1_farFromMiddle (rmm 0 0 0) [rv (some h0), iv x1, iv x2] M Q :=
  KI_of (by decide) rfl (Nat.le_of_ble_eq_true rfl) (fun p e s m args below meth c D cy A ls E hr hlk hn w hl => k_X1_farFromMiddle_0 E hr hlk _ _ _ _ _ _ _ h w hl)
def B_X1_insert_38 (Q : Mm → Prop)  (h0 : Nat) (x1 : Int32) (x3 : Int32) (M : Mm) : Prop := (ok M h0 1 ∧ (∃ a2, (gR M h0 0) = some a2 ∧ (ar M a2 7 x3 ∧ (∀ M4, M4 = pI M a2 (Int32.toNatClampNeg x3) x1 → Q M4))))
set_option maxHeartbeats 4000000 in
set_option maxRecDepth 100000 in
theorem k_X1_insert_38 {p : Program} {l : Launch} {e : Env} {s : State} {m : MethodId} {args : Array Value} {below : List Frame} {meth : Method} {c : Code} {D : va_G} {cy : Nat → ClassId} {A : Nat → Prop} {Q : Mm → Prop} (E : Ex p m c cX1_insert 4 s args RX1 D cy A) (hr : meth.sig.returnType = none) (hlk : meth.locks = false) : ∀ (h0 : Nat) (x1 : Int32) (x3 : Int32) (M : Mm) (H : Heap) (locs : List Loc) (ls : Array Slot), B_X1_insert_38 Q  h0 x1 x3 M → Wd D cy A s M H locs → lh ls 4 [(0, rv (some h0)), (1, iv x1), (3, iv x3)] → W p l e (rmm 0 0 0) s m args below meth c H locs 0 0 (MQ below (va_Qv Q (Po D cy A) A) args s 0 0 A) (F0 m 38 ls []) := by
  obtain ⟨hx, hb, hml, hown, hts⟩ := E.1
  intro h0 x1 x3 M H locs ls h w hl
  unfold B_X1_insert_38 at h
  refine r_aload_n (x := (some h0)) hx hb dX1_insert_38 rfl (lh_at hl 0 rfl) ?_
  obtain ⟨ho1, h⟩ := h
  refine r_getR E w rfl ho1 cl_X1 0 rfl fl_X1_9 dX1_insert_39 ?_
  refine lv_iload_n (x := x3) hx hb dX1_insert_42 rfl (lh_at hl 2 rfl) ?_
  refine lv_iload_n (x := x1) hx hb dX1_insert_43 rfl (lh_at hl 1 rfl) ?_
  obtain ⟨a2, ea2, h⟩ := h
  obtain ⟨ha3, h⟩ := h
  refine r_iast (v := x1) E w ea2 ha3 dX1_insert_44 (fun H locs w => ?_)
  obtain ⟨M4, eM4⟩ : ∃ z, z = pI M a2 (Int32.toNatClampNeg x3) x1 := ⟨_, rfl⟩
  rw [← eM4] at w
  have h := h M4 eM4
  exact r_vret E w hr hlk h (Nat.le_refl 0) (Nat.le_refl 0) dX1_insert_45
def B_X1_insert_2 (Q : Mm → Prop)  : Nat → Nat → Int32 → Int32 → Mm → Prop
  | 0, _, _, _, _ => False
  | n + 1, h0, x1, x3, M => ((x3 ≤ 0 → B_X1_insert_38 Q  h0 x1 x3 M) ∧ (¬ x3 ≤ 0 → (ok M h0 1 ∧ (∃ a3, (gR M h0 0) = some a3 ∧ (ar M a3 7 (x3 - (1 : Int32)) ∧ (((gI M a3 (Int32.toNatClampNeg (x3 - (1 : Int32)))) ≤ x1 → B_X1_insert_38 Q  h0 x1 x3 M) ∧ (¬ (gI M a3 (Int32.toNatClampNeg (x3 - (1 : Int32)))) ≤ x1 → (ar M a3 7 (x3 - (1 : Int32)) ∧ (ar M a3 7 x3 ∧ (∀ M8, M8 = pI M a3 (Int32.toNatClampNeg x3) (gI M a3 (Int32.toNatClampNeg (x3 - (1 : Int32)))) → B_X1_insert_2 Q  n h0 x1 (x3 + (-1)) M8))))))))))
set_option maxHeartbeats 4000000 in
set_option maxRecDepth 100000 in
theorem k_X1_insert_2 {p : Program} {l : Launch} {e : Env} {s : State} {m : MethodId} {args : Array Value} {below : List Frame} {meth : Method} {c : Code} {D : va_G} {cy : Nat → ClassId} {A : Nat → Prop} {Q : Mm → Prop} (E : Ex p m c cX1_insert 4 s args RX1 D cy A) (hr : meth.sig.returnType = none) (hlk : meth.locks = false) : ∀ (n : Nat), ∀ (h0 : Nat) (x1 : Int32) (x3 : Int32) (M : Mm) (H : Heap) (locs : List Loc) (ls : Array Slot), B_X1_insert_2 Q  n h0 x1 x3 M → Wd D cy A s M H locs → lh ls 4 [(0, rv (some h0)), (1, iv x1), (3, iv x3)] → W p l e (rmm 0 0 0) s m args below meth c H locs 0 0 (MQ below (va_Qv Q (Po D cy A) A) args s 0 0 A) (F0 m 2 ls []) := by
  obtain ⟨hx, hb, hml, hown, hts⟩ := E.1
  intro n
  induction n with
  | zero => intro h0 x1 x3 M H locs ls h; exact False.elim h
  | succ n ih =>
    intro h0 x1 x3 M H locs ls h w hl
    unfold B_X1_insert_2 at h
    refine lv_iload_n (x := x3) hx hb dX1_insert_2 rfl (lh_at hl 2 rfl) ?_
    refine lv_if_le (tgt := 38) hx hb dX1_insert_3 (by decide) (fun c1 => ?_) (fun c1 => ?_)
    · have h := h.1 c1
      exact k_X1_insert_38 E hr hlk  _ _ _ _ _ _ _ h w (lh_sub hl [0, 1, 2] rfl)
    · have h := h.2 c1
      refine r_aload_n (x := (some h0)) hx hb dX1_insert_6 rfl (lh_at hl 0 rfl) ?_
      obtain ⟨ho2, h⟩ := h
      refine r_getR E w rfl ho2 cl_X1 0 rfl fl_X1_9 dX1_insert_7 ?_
      refine lv_iload_n (x := x3) hx hb dX1_insert_10 rfl (lh_at hl 2 rfl) ?_
      refine lv_iconst (v := (1 : Int32)) hx hb dX1_insert_11 (by decide) ?_
      refine lv_isub hx hb dX1_insert_12 ?_
      obtain ⟨a3, ea3, h⟩ := h
      obtain ⟨ha4, h⟩ := h
      refine r_iald E w ea3 ha4 dX1_insert_13 ?_
      refine lv_iload_n (x := x1) hx hb dX1_insert_14 rfl (lh_at hl 1 rfl) ?_
      refine lv_icmp_le (tgt := 38) hx hb dX1_insert_15 (by decide) (fun c5 => ?_) (fun c5 => ?_)
      · have h := h.1 c5
        exact k_X1_insert_38 E hr hlk  _ _ _ _ _ _ _ h w (lh_sub hl [0, 1, 2] rfl)
      · have h := h.2 c5
        refine r_aload_n (x := (some h0)) hx hb dX1_insert_18 rfl (lh_at hl 0 rfl) ?_
        refine r_getR E w rfl ho2 cl_X1 0 rfl fl_X1_9 dX1_insert_19 ?_
        refine lv_iload_n (x := x3) hx hb dX1_insert_22 rfl (lh_at hl 2 rfl) ?_
        refine r_aload_n (x := (some h0)) hx hb dX1_insert_23 rfl (lh_at hl 0 rfl) ?_
        refine r_getR E w rfl ho2 cl_X1 0 rfl fl_X1_9 dX1_insert_24 ?_
        refine lv_iload_n (x := x3) hx hb dX1_insert_27 rfl (lh_at hl 2 rfl) ?_
        refine lv_iconst (v := (1 : Int32)) hx hb dX1_insert_28 (by decide) ?_
        refine lv_isub hx hb dX1_insert_29 ?_
        obtain ⟨ha6, h⟩ := h
        refine r_iald E w ea3 ha6 dX1_insert_30 ?_
        obtain ⟨ha7, h⟩ := h
        refine r_iast (v := (gI M a3 (Int32.toNatClampNeg (x3 - (1 : Int32))))) E w ea3 ha7 dX1_insert_31 (fun H locs w => ?_)
        obtain ⟨M8, eM8⟩ : ∃ z, z = pI M a3 (Int32.toNatClampNeg x3) (gI M a3 (Int32.toNatClampNeg (x3 - (1 : Int32)))) := ⟨_, rfl⟩
        rw [← eM8] at w
        have h := h M8 eM8
        refine r_iinc (k := 2) (x := x3) (v := (x3 + (-1))) (lv' := [(3, iv (x3 + (-1))), (0, rv (some h0)), (1, iv x1)]) hx hb dX1_insert_32 hl rfl rfl (by decide) rfl (fun ls hl => ?_)
        refine lv_goto (tgt := 2) hx hb dX1_insert_35 (by decide) ?_
        exact ih _ _ _ _ _ _ _ h w (lh_sub hl [1, 2, 0] rfl)
def B_X1_insert_0 (Q : Mm → Prop)  (h0 : Nat) (x1 : Int32) (x2 : Int32) (M : Mm) : Prop := (∃ n1, B_X1_insert_2 Q  n1 h0 x1 x2 M)
set_option maxHeartbeats 4000000 in
set_option maxRecDepth 100000 in
theorem k_X1_insert_0 {p : Program} {l : Launch} {e : Env} {s : State} {m : MethodId} {args : Array Value} {below : List Frame} {meth : Method} {c : Code} {D : va_G} {cy : Nat → ClassId} {A : Nat → Prop} {Q : Mm → Prop} (E : Ex p m c cX1_insert 4 s args RX1 D cy A) (hr : meth.sig.returnType = none) (hlk : meth.locks = false) : ∀ (h0 : Nat) (x1 : Int32) (x2 : Int32) (M : Mm) (H : Heap) (locs : List Loc) (ls : Array Slot), B_X1_insert_0 Q  h0 x1 x2 M → Wd D cy A s M H locs → lh ls 4 [(0, rv (some h0)), (1, iv x1), (2, iv x2)] → W p l e (rmm 0 0 0) s m args below meth c H locs 0 0 (MQ below (va_Qv Q (Po D cy A) A) args s 0 0 A) (F0 m 0 ls []) := by
  obtain ⟨hx, hb, hml, hown, hts⟩ := E.1
  intro h0 x1 x2 M H locs ls h w hl
  unfold B_X1_insert_0 at h
  refine lv_iload_n (x := x2) hx hb dX1_insert_0 rfl (lh_at hl 2 rfl) ?_
  refine r_istore_n (lv' := [(3, iv x2), (0, rv (some h0)), (1, iv x1), (2, iv x2)]) hx hb dX1_insert_1 rfl hl (by decide) rfl (fun ls hl => ?_)
  obtain ⟨n1, h⟩ := h
  exact k_X1_insert_2 E hr hlk  n1 _ _ _ _ _ _ _ h w (lh_sub hl [1, 2, 0] rfl)
theorem K_X1_insert {l : Launch} {Q : Mm → Prop} {h0 : Nat} {x1 : Int32} {x2 : Int32} {M : Mm} (h : B_X1_insert_0 Q h0 x1 x2 M) : KV l yX1_insert cdX1_insert (rmm 0 0 0) [rv (some h0), iv x1, iv x2] M Q :=
  KV_of (by decide) rfl (Nat.le_of_ble_eq_true rfl) (fun p e s m args below meth c D cy A ls E hr hlk hn w hl => k_X1_insert_0 E hr hlk _ _ _ _ _ _ _ h w hl)
def B_X1_solveFrom_168 (Q : Mm → Prop) (K6 : Nat → Option Nat → Int32 → Int32 → Int32 → Int32 → Mm → Prop) (h0 : Nat) (x1 : Option Nat) (x2 : Int32) (x3 : Int32) (x4 : Int32) (x5 : Int32) (x7 : Int32) (x9 : Int32) (x10 : Int32) (M : Mm) : Prop := (ok M h0 1 ∧ (∃ a2, (gR M h0 1) = some a2 ∧ (ar M a2 7 x2 ∧ (∀ M4, M4 = pI M a2 (Int32.toNatClampNeg x2) x9 → (∃ a5, (gR M4 h0 2) = some a5 ∧ (ar M4 a5 7 x2 ∧ (∀ M7, M7 = pI M4 a5 (Int32.toNatClampNeg x2) x10 → (∃ a8, (gR M7 h0 3) = some a8 ∧ (ar M7 a8 7 x2 ∧ (∀ M10, M10 = pI M7 a8 (Int32.toNatClampNeg x2) x7 → K6 h0 x1 x2 x3 x4 (x5 + 1) M10))))))))))
set_option maxHeartbeats 4000000 in
set_option maxRecDepth 100000 in
theorem k_X1_solveFrom_168 {p : Program} {l : Launch} {e : Env} {s : State} {m : MethodId} {args : Array Value} {below : List Frame} {meth : Method} {c : Code} {D : va_G} {cy : Nat → ClassId} {A : Nat → Prop} {Q : Mm → Prop} (E : Ex p m c cX1_solveFrom 12 s args RX1 D cy A) (hr : meth.sig.returnType = none) (hlk : meth.locks = false) {K6 : Nat → Option Nat → Int32 → Int32 → Int32 → Int32 → Mm → Prop} (hK6 : ∀ (h0 : Nat) (x1 : Option Nat) (x2 : Int32) (x3 : Int32) (x4 : Int32) (x5 : Int32) (M : Mm) (H : Heap) (locs : List Loc) (ls : Array Slot), K6 h0 x1 x2 x3 x4 x5 M → Wd D cy A s M H locs → lh ls 12 [(0, rv (some h0)), (1, rv x1), (2, iv x2), (3, iv x3), (4, iv x4), (5, iv x5)] → W p l e (rmm 1 0 0) s m args below meth c H locs 0 0 (MQ below (va_Qv Q (Po D cy A) A) args s 0 0 A) (F0 m 6 ls [])) : ∀ (h0 : Nat) (x1 : Option Nat) (x2 : Int32) (x3 : Int32) (x4 : Int32) (x5 : Int32) (x7 : Int32) (x9 : Int32) (x10 : Int32) (M : Mm) (H : Heap) (locs : List Loc) (ls : Array Slot), B_X1_solveFrom_168 Q K6 h0 x1 x2 x3 x4 x5 x7 x9 x10 M → Wd D cy A s M H locs → lh ls 12 [(0, rv (some h0)), (1, rv x1), (2, iv x2), (3, iv x3), (4, iv x4), (5, iv x5), (7, iv x7), (9, iv x9), (10, iv x10)] → W p l e (rmm 1 0 0) s m args below meth c H locs 0 0 (MQ below (va_Qv Q (Po D cy A) A) args s 0 0 A) (F0 m 168 ls []) := by
  obtain ⟨hx, hb, hml, hown, hts⟩ := E.1
  intro h0 x1 x2 x3 x4 x5 x7 x9 x10 M H locs ls h w hl
  unfold B_X1_solveFrom_168 at h
  refine r_aload_n (x := (some h0)) hx hb dX1_solveFrom_168 rfl (lh_at hl 0 rfl) ?_
  obtain ⟨ho1, h⟩ := h
  refine r_getR E w rfl ho1 cl_X1 1 rfl fl_X1_15 dX1_solveFrom_169 ?_
  refine lv_iload_n (x := x2) hx hb dX1_solveFrom_172 rfl (lh_at hl 2 rfl) ?_
  refine lv_iload (x := x9) hx hb dX1_solveFrom_173 (lh_at hl 7 rfl) ?_
  obtain ⟨a2, ea2, h⟩ := h
  obtain ⟨ha3, h⟩ := h
  refine r_iast (v := x9) E w ea2 ha3 dX1_solveFrom_175 (fun H locs w => ?_)
  obtain ⟨M4, eM4⟩ : ∃ z, z = pI M a2 (Int32.toNatClampNeg x2) x9 := ⟨_, rfl⟩
  rw [← eM4] at w
  have h := h M4 eM4
  refine r_aload_n (x := (some h0)) hx hb dX1_solveFrom_176 rfl (lh_at hl 0 rfl) ?_
  have ho1 : ok M4 h0 1 := by rw [eM4]; exact ho1
  refine r_getR E w rfl ho1 cl_X1 2 rfl fl_X1_18 dX1_solveFrom_177 ?_
  refine lv_iload_n (x := x2) hx hb dX1_solveFrom_180 rfl (lh_at hl 2 rfl) ?_
  refine lv_iload (x := x10) hx hb dX1_solveFrom_181 (lh_at hl 8 rfl) ?_
  obtain ⟨a5, ea5, h⟩ := h
  obtain ⟨ha6, h⟩ := h
  refine r_iast (v := x10) E w ea5 ha6 dX1_solveFrom_183 (fun H locs w => ?_)
  obtain ⟨M7, eM7⟩ : ∃ z, z = pI M4 a5 (Int32.toNatClampNeg x2) x10 := ⟨_, rfl⟩
  rw [← eM7] at w
  have h := h M7 eM7
  refine r_aload_n (x := (some h0)) hx hb dX1_solveFrom_184 rfl (lh_at hl 0 rfl) ?_
  have ho1 : ok M7 h0 1 := by rw [eM7]; exact ho1
  refine r_getR E w rfl ho1 cl_X1 3 rfl fl_X1_21 dX1_solveFrom_185 ?_
  refine lv_iload_n (x := x2) hx hb dX1_solveFrom_188 rfl (lh_at hl 2 rfl) ?_
  refine lv_iload (x := x7) hx hb dX1_solveFrom_189 (lh_at hl 6 rfl) ?_
  obtain ⟨a8, ea8, h⟩ := h
  obtain ⟨ha9, h⟩ := h
  refine r_iast (v := x7) E w ea8 ha9 dX1_solveFrom_191 (fun H locs w => ?_)
  obtain ⟨M10, eM10⟩ : ∃ z, z = pI M7 a8 (Int32.toNatClampNeg x2) x7 := ⟨_, rfl⟩
  rw [← eM10] at w
  have h := h M10 eM10
  refine r_iinc (k := 5) (x := x5) (v := (x5 + 1)) (lv' := [(5, iv (x5 + 1)), (0, rv (some h0)), (1, rv x1), (2, iv x2), (3, iv x3), (4, iv x4), (7, iv x7), (9, iv x9), (10, iv x10)]) hx hb dX1_solveFrom_192 hl rfl rfl (by decide) rfl (fun ls hl => ?_)
  refine lv_goto (tgt := 6) hx hb dX1_solveFrom_195 (by decide) ?_
  exact hK6 _ _ _ _ _ _ _ _ _ _ h w (lh_sub hl [1, 2, 3, 4, 5, 0] rfl)
def B_X1_solveFrom_156 (Q : Mm → Prop) (K6 : Nat → Option Nat → Int32 → Int32 → Int32 → Int32 → Mm → Prop) (h0 : Nat) (x1 : Option Nat) (x2 : Int32) (x3 : Int32) (x4 : Int32) (x5 : Int32) (x6 : Int32) (x7 : Int32) (x9 : Int32) (x10 : Int32) (s0 : Int32) (M : Mm) : Prop := ((x6 = 0 → B_X1_solveFrom_168 Q K6 h0 x1 x2 x3 x4 x5 x7 x9 x10 M) ∧ (¬ x6 = 0 → ((s0 = 0 → K6 h0 x1 x2 x3 x4 (x5 + 1) M) ∧ (¬ s0 = 0 → B_X1_solveFrom_168 Q K6 h0 x1 x2 x3 x4 x5 x7 x9 x10 M))))
set_option maxHeartbeats 4000000 in
set_option maxRecDepth 100000 in
theorem k_X1_solveFrom_156 {p : Program} {l : Launch} {e : Env} {s : State} {m : MethodId} {args : Array Value} {below : List Frame} {meth : Method} {c : Code} {D : va_G} {cy : Nat → ClassId} {A : Nat → Prop} {Q : Mm → Prop} (E : Ex p m c cX1_solveFrom 12 s args RX1 D cy A) (hr : meth.sig.returnType = none) (hlk : meth.locks = false) {K6 : Nat → Option Nat → Int32 → Int32 → Int32 → Int32 → Mm → Prop} (hK6 : ∀ (h0 : Nat) (x1 : Option Nat) (x2 : Int32) (x3 : Int32) (x4 : Int32) (x5 : Int32) (M : Mm) (H : Heap) (locs : List Loc) (ls : Array Slot), K6 h0 x1 x2 x3 x4 x5 M → Wd D cy A s M H locs → lh ls 12 [(0, rv (some h0)), (1, rv x1), (2, iv x2), (3, iv x3), (4, iv x4), (5, iv x5)] → W p l e (rmm 1 0 0) s m args below meth c H locs 0 0 (MQ below (va_Qv Q (Po D cy A) A) args s 0 0 A) (F0 m 6 ls [])) : ∀ (h0 : Nat) (x1 : Option Nat) (x2 : Int32) (x3 : Int32) (x4 : Int32) (x5 : Int32) (x6 : Int32) (x7 : Int32) (x9 : Int32) (x10 : Int32) (s0 : Int32) (M : Mm) (H : Heap) (locs : List Loc) (ls : Array Slot), B_X1_solveFrom_156 Q K6 h0 x1 x2 x3 x4 x5 x6 x7 x9 x10 s0 M → Wd D cy A s M H locs → lh ls 12 [(0, rv (some h0)), (1, rv x1), (2, iv x2), (3, iv x3), (4, iv x4), (5, iv x5), (6, iv x6), (7, iv x7), (9, iv x9), (10, iv x10)] → W p l e (rmm 1 0 0) s m args below meth c H locs 0 0 (MQ below (va_Qv Q (Po D cy A) A) args s 0 0 A) (F0 m 156 ls [.int s0]) := by
  obtain ⟨hx, hb, hml, hown, hts⟩ := E.1
  intro h0 x1 x2 x3 x4 x5 x6 x7 x9 x10 s0 M H locs ls h w hl
  unfold B_X1_solveFrom_156 at h
  refine r_istore (lv' := [(11, iv s0), (0, rv (some h0)), (1, rv x1), (2, iv x2), (3, iv x3), (4, iv x4), (5, iv x5), (6, iv x6), (7, iv x7), (9, iv x9), (10, iv x10)]) hx hb dX1_solveFrom_156 hl (by decide) rfl (fun ls hl => ?_)
  refine lv_iload (x := x6) hx hb dX1_solveFrom_158 (lh_at hl 7 rfl) ?_
  refine lv_if_eq (tgt := 168) hx hb dX1_solveFrom_160 (by decide) (fun c1 => ?_) (fun c1 => ?_)
  · have h := h.1 c1
    exact k_X1_solveFrom_168 E hr hlk hK6 _ _ _ _ _ _ _ _ _ _ _ _ _ h w (lh_sub hl [1, 2, 3, 4, 5, 6, 8, 9, 10] rfl)
  · have h := h.2 c1
    refine lv_iload (x := s0) hx hb dX1_solveFrom_163 (lh_at hl 0 rfl) ?_
    refine lv_if_eq (tgt := 192) hx hb dX1_solveFrom_165 (by decide) (fun c2 => ?_) (fun c2 => ?_)
    · have h := h.1 c2
      refine r_iinc (k := 6) (x := x5) (v := (x5 + 1)) (lv' := [(5, iv (x5 + 1)), (11, iv s0), (0, rv (some h0)), (1, rv x1), (2, iv x2), (3, iv x3), (4, iv x4), (6, iv x6), (7, iv x7), (9, iv x9), (10, iv x10)]) hx hb dX1_solveFrom_192 hl rfl rfl (by decide) rfl (fun ls hl => ?_)
      refine lv_goto (tgt := 6) hx hb dX1_solveFrom_195 (by decide) ?_
      exact hK6 _ _ _ _ _ _ _ _ _ _ h w (lh_sub hl [2, 3, 4, 5, 6, 0] rfl)
    · have h := h.2 c2
      exact k_X1_solveFrom_168 E hr hlk hK6 _ _ _ _ _ _ _ _ _ _ _ _ _ h w (lh_sub hl [1, 2, 3, 4, 5, 6, 8, 9, 10] rfl)
def B_X1_solveFrom_155 (Q : Mm → Prop) (K6 : Nat → Option Nat → Int32 → Int32 → Int32 → Int32 → Mm → Prop) (h0 : Nat) (x1 : Option Nat) (x2 : Int32) (x3 : Int32) (x4 : Int32) (x5 : Int32) (x6 : Int32) (x7 : Int32) (x9 : Int32) (x10 : Int32) (M : Mm) : Prop := B_X1_solveFrom_156 Q K6 h0 x1 x2 x3 x4 x5 x6 x7 x9 x10 (0 : Int32) M
set_option maxHeartbeats 4000000 in
set_option maxRecDepth 100000 in
theorem k_X1_solveFrom_155 {p : Program} {l : Launch} {e : Env} {s : State} {m : MethodId} {args : Array Value} {below : List Frame} {meth : Method} {c : Code} {D : va_G} {cy : Nat → ClassId} {A : Nat → Prop} {Q : Mm → Prop} (E : Ex p m c cX1_solveFrom 12 s args RX1 D cy A) (hr : meth.sig.returnType = none) (hlk : meth.locks = false) {K6 : Nat → Option Nat → Int32 → Int32 → Int32 → Int32 → Mm → Prop} (hK6 : ∀ (h0 : Nat) (x1 : Option Nat) (x2 : Int32) (x3 : Int32) (x4 : Int32) (x5 : Int32) (M : Mm) (H : Heap) (locs : List Loc) (ls : Array Slot), K6 h0 x1 x2 x3 x4 x5 M → Wd D cy A s M H locs → lh ls 12 [(0, rv (some h0)), (1, rv x1), (2, iv x2), (3, iv x3), (4, iv x4), (5, iv x5)] → W p l e (rmm 1 0 0) s m args below meth c H locs 0 0 (MQ below (va_Qv Q (Po D cy A) A) args s 0 0 A) (F0 m 6 ls [])) : ∀ (h0 : Nat) (x1 : Option Nat) (x2 : Int32) (x3 : Int32) (x4 : Int32) (x5 : Int32) (x6 : Int32) (x7 : Int32) (x9 : Int32) (x10 : Int32) (M : Mm) (H : Heap) (locs : List Loc) (ls : Array Slot), B_X1_solveFrom_155 Q K6 h0 x1 x2 x3 x4 x5 x6 x7 x9 x10 M → Wd D cy A s M H locs → lh ls 12 [(0, rv (some h0)), (1, rv x1), (2, iv x2), (3, iv x3), (4, iv x4), (5, iv x5), (6, iv x6), (7, iv x7), (9, iv x9), (10, iv x10)] → W p l e (rmm 1 0 0) s m args below meth c H locs 0 0 (MQ below (va_Qv Q (Po D cy A) A) args s 0 0 A) (F0 m 155 ls []) := by
  obtain ⟨hx, hb, hml, hown, hts⟩ := E.1
  intro h0 x1 x2 x3 x4 x5 x6 x7 x9 x10 M H locs ls h w hl
  unfold B_X1_solveFrom_155 at h
  refine lv_iconst (v := (0 : Int32)) hx hb dX1_solveFrom_155 (by decide) ?_
  exact k_X1_solveFrom_156 E hr hlk hK6 _ _ _ _ _ _ _ _ _ _ _ _ _ _ _ h w (lh_sub hl [0, 1, 2, 3, 4, 5, 6, 7, 8, 9] rfl)
def B_X1_solveFrom_151 (Q : Mm → Prop) (K6 : Nat → Option Nat → Int32 → Int32 → Int32 → Int32 → Mm → Prop) (h0 : Nat) (x1 : Option Nat) (x2 : Int32) (x3 : Int32) (x4 : Int32) (x5 : Int32) (x6 : Int32) (x7 : Int32) (x9 : Int32) (x10 : Int32) (M : Mm) : Prop := B_X1_solveFrom_156 Q K6 h0 x1 x2 x3 x4 x5 x6 x7 x9 x10 (1 : Int32) M
set_option maxHeartbeats 4000000 in
set_option maxRecDepth 100000 in
theorem k_X1_solveFrom_151 {p : Program} {l : Launch} {e : Env} {s : State} {m : MethodId} {args : Array Value} {below : List Frame} {meth : Method} {c : Code} {D : va_G} {cy : Nat → ClassId} {A : Nat → Prop} {Q : Mm → Prop} (E : Ex p m c cX1_solveFrom 12 s args RX1 D cy A) (hr : meth.sig.returnType = none) (hlk : meth.locks = false) {K6 : Nat → Option Nat → Int32 → Int32 → Int32 → Int32 → Mm → Prop} (hK6 : ∀ (h0 : Nat) (x1 : Option Nat) (x2 : Int32) (x3 : Int32) (x4 : Int32) (x5 : Int32) (M : Mm) (H : Heap) (locs : List Loc) (ls : Array Slot), K6 h0 x1 x2 x3 x4 x5 M → Wd D cy A s M H locs → lh ls 12 [(0, rv (some h0)), (1, rv x1), (2, iv x2), (3, iv x3), (4, iv x4), (5, iv x5)] → W p l e (rmm 1 0 0) s m args below meth c H locs 0 0 (MQ below (va_Qv Q (Po D cy A) A) args s 0 0 A) (F0 m 6 ls [])) : ∀ (h0 : Nat) (x1 : Option Nat) (x2 : Int32) (x3 : Int32) (x4 : Int32) (x5 : Int32) (x6 : Int32) (x7 : Int32) (x9 : Int32) (x10 : Int32) (M : Mm) (H : Heap) (locs : List Loc) (ls : Array Slot), B_X1_solveFrom_151 Q K6 h0 x1 x2 x3 x4 x5 x6 x7 x9 x10 M → Wd D cy A s M H locs → lh ls 12 [(0, rv (some h0)), (1, rv x1), (2, iv x2), (3, iv x3), (4, iv x4), (5, iv x5), (6, iv x6), (7, iv x7), (9, iv x9), (10, iv x10)] → W p l e (rmm 1 0 0) s m args below meth c H locs 0 0 (MQ below (va_Qv Q (Po D cy A) A) args s 0 0 A) (F0 m 151 ls []) := by
  obtain ⟨hx, hb, hml, hown, hts⟩ := E.1
  intro h0 x1 x2 x3 x4 x5 x6 x7 x9 x10 M H locs ls h w hl
  unfold B_X1_solveFrom_151 at h
  refine lv_iconst (v := (1 : Int32)) hx hb dX1_solveFrom_151 (by decide) ?_
  refine lv_goto (tgt := 156) hx hb dX1_solveFrom_152 (by decide) ?_
  exact k_X1_solveFrom_156 E hr hlk hK6 _ _ _ _ _ _ _ _ _ _ _ _ _ _ _ h w (lh_sub hl [0, 1, 2, 3, 4, 5, 6, 7, 8, 9] rfl)
def B_X1_solveFrom_116 (Q : Mm → Prop) (K6 : Nat → Option Nat → Int32 → Int32 → Int32 → Int32 → Mm → Prop) (h0 : Nat) (x1 : Option Nat) (x2 : Int32) (x3 : Int32) (x4 : Int32) (x5 : Int32) (x6 : Int32) (x7 : Int32) (x9 : Int32) (s0 : Int32) (M : Mm) : Prop := (ok M h0 1 ∧ (∃ a2, (gR M h0 1) = some a2 ∧ (ar M a2 7 x2 ∧ ((x9 < (gI M a2 (Int32.toNatClampNeg x2)) → B_X1_solveFrom_151 Q K6 h0 x1 x2 x3 x4 x5 x6 x7 x9 s0 M) ∧ (¬ x9 < (gI M a2 (Int32.toNatClampNeg x2)) → (ar M a2 7 x2 ∧ ((¬ x9 = (gI M a2 (Int32.toNatClampNeg x2)) → B_X1_solveFrom_155 Q K6 h0 x1 x2 x3 x4 x5 x6 x7 x9 s0 M) ∧ (x9 = (gI M a2 (Int32.toNatClampNeg x2)) → (∃ a7, (gR M h0 2) = some a7 ∧ (ar M a7 7 x2 ∧ (((gI M a7 (Int32.toNatClampNeg x2)) ≤ s0 → B_X1_solveFrom_155 Q K6 h0 x1 x2 x3 x4 x5 x6 x7 x9 s0 M) ∧ (¬ (gI M a7 (Int32.toNatClampNeg x2)) ≤ s0 → B_X1_solveFrom_151 Q K6 h0 x1 x2 x3 x4 x5 x6 x7 x9 s0 M))))))))))))
set_option maxHeartbeats 4000000 in
set_option maxRecDepth 100000 in
theorem k_X1_solveFrom_116 {p : Program} {l : Launch} {e : Env} {s : State} {m : MethodId} {args : Array Value} {below : List Frame} {meth : Method} {c : Code} {D : va_G} {cy : Nat → ClassId} {A : Nat → Prop} {Q : Mm → Prop} (E : Ex p m c cX1_solveFrom 12 s args RX1 D cy A) (hr : meth.sig.returnType = none) (hlk : meth.locks = false) {K6 : Nat → Option Nat → Int32 → Int32 → Int32 → Int32 → Mm → Prop} (hK6 : ∀ (h0 : Nat) (x1 : Option Nat) (x2 : Int32) (x3 : Int32) (x4 : Int32) (x5 : Int32) (M : Mm) (H : Heap) (locs : List Loc) (ls : Array Slot), K6 h0 x1 x2 x3 x4 x5 M → Wd D cy A s M H locs → lh ls 12 [(0, rv (some h0)), (1, rv x1), (2, iv x2), (3, iv x3), (4, iv x4), (5, iv x5)] → W p l e (rmm 1 0 0) s m args below meth c H locs 0 0 (MQ below (va_Qv Q (Po D cy A) A) args s 0 0 A) (F0 m 6 ls [])) : ∀ (h0 : Nat) (x1 : Option Nat) (x2 : Int32) (x3 : Int32) (x4 : Int32) (x5 : Int32) (x6 : Int32) (x7 : Int32) (x9 : Int32) (s0 : Int32) (M : Mm) (H : Heap) (locs : List Loc) (ls : Array Slot), B_X1_solveFrom_116 Q K6 h0 x1 x2 x3 x4 x5 x6 x7 x9 s0 M → Wd D cy A s M H locs → lh ls 12 [(0, rv (some h0)), (1, rv x1), (2, iv x2), (3, iv x3), (4, iv x4), (5, iv x5), (6, iv x6), (7, iv x7), (9, iv x9)] → W p l e (rmm 1 0 0) s m args below meth c H locs 0 0 (MQ below (va_Qv Q (Po D cy A) A) args s 0 0 A) (F0 m 116 ls [.int s0]) := by
  obtain ⟨hx, hb, hml, hown, hts⟩ := E.1
  intro h0 x1 x2 x3 x4 x5 x6 x7 x9 s0 M H locs ls h w hl
  unfold B_X1_solveFrom_116 at h
  refine r_istore (lv' := [(10, iv s0), (0, rv (some h0)), (1, rv x1), (2, iv x2), (3, iv x3), (4, iv x4), (5, iv x5), (6, iv x6), (7, iv x7), (9, iv x9)]) hx hb dX1_solveFrom_116 hl (by decide) rfl (fun ls hl => ?_)
  refine lv_iload (x := x9) hx hb dX1_solveFrom_118 (lh_at hl 9 rfl) ?_
  refine r_aload_n (x := (some h0)) hx hb dX1_solveFrom_120 rfl (lh_at hl 1 rfl) ?_
  obtain ⟨ho1, h⟩ := h
  refine r_getR E w rfl ho1 cl_X1 1 rfl fl_X1_15 dX1_solveFrom_121 ?_
  refine lv_iload_n (x := x2) hx hb dX1_solveFrom_124 rfl (lh_at hl 3 rfl) ?_
  obtain ⟨a2, ea2, h⟩ := h
  obtain ⟨ha3, h⟩ := h
  refine r_iald E w ea2 ha3 dX1_solveFrom_125 ?_
  refine lv_icmp_lt (tgt := 151) hx hb dX1_solveFrom_126 (by decide) (fun c4 => ?_) (fun c4 => ?_)
  · have h := h.1 c4
    exact k_X1_solveFrom_151 E hr hlk hK6 _ _ _ _ _ _ _ _ _ _ _ _ _ _ h w (lh_sub hl [1, 2, 3, 4, 5, 6, 7, 8, 9, 0] rfl)
  · have h := h.2 c4
    refine lv_iload (x := x9) hx hb dX1_solveFrom_129 (lh_at hl 9 rfl) ?_
    refine r_aload_n (x := (some h0)) hx hb dX1_solveFrom_131 rfl (lh_at hl 1 rfl) ?_
    refine r_getR E w rfl ho1 cl_X1 1 rfl fl_X1_15 dX1_solveFrom_132 ?_
    refine lv_iload_n (x := x2) hx hb dX1_solveFrom_135 rfl (lh_at hl 3 rfl) ?_
    obtain ⟨ha5, h⟩ := h
    refine r_iald E w ea2 ha5 dX1_solveFrom_136 ?_
    refine lv_icmp_ne (tgt := 155) hx hb dX1_solveFrom_137 (by decide) (fun c6 => ?_) (fun c6 => ?_)
    · have h := h.1 c6
      exact k_X1_solveFrom_155 E hr hlk hK6 _ _ _ _ _ _ _ _ _ _ _ _ _ _ h w (lh_sub hl [1, 2, 3, 4, 5, 6, 7, 8, 9, 0] rfl)
    · have h := h.2 c6
      refine lv_iload (x := s0) hx hb dX1_solveFrom_140 (lh_at hl 0 rfl) ?_
      refine r_aload_n (x := (some h0)) hx hb dX1_solveFrom_142 rfl (lh_at hl 1 rfl) ?_
      refine r_getR E w rfl ho1 cl_X1 2 rfl fl_X1_18 dX1_solveFrom_143 ?_
      refine lv_iload_n (x := x2) hx hb dX1_solveFrom_146 rfl (lh_at hl 3 rfl) ?_
      obtain ⟨a7, ea7, h⟩ := h
      obtain ⟨ha8, h⟩ := h
      refine r_iald E w ea7 ha8 dX1_solveFrom_147 ?_
      refine lv_icmp_ge (tgt := 155) hx hb dX1_solveFrom_148 (by decide) (fun c9 => ?_) (fun c9 => ?_)
      · have h := h.1 c9
        exact k_X1_solveFrom_155 E hr hlk hK6 _ _ _ _ _ _ _ _ _ _ _ _ _ _ h w (lh_sub hl [1, 2, 3, 4, 5, 6, 7, 8, 9, 0] rfl)
      · have h := h.2 c9
        exact k_X1_solveFrom_151 E hr hlk hK6 _ _ _ _ _ _ _ _ _ _ _ _ _ _ h w (lh_sub hl [1, 2, 3, 4, 5, 6, 7, 8, 9, 0] rfl)
def B_X1_solveFrom_96 (Q : Mm → Prop) (K6 : Nat → Option Nat → Int32 → Int32 → Int32 → Int32 → Mm → Prop) (h0 : Nat) (x1 : Option Nat) (x2 : Int32) (x3 : Int32) (x4 : Int32) (x5 : Int32) (x6 : Int32) (x7 : Int32) (x8 : Int32) (s0 : Int32) (M : Mm) : Prop := ((x8 = 0 → (ok M h0 1 ∧ (∃ a3, (gR M h0 2) = some a3 ∧ (ar M a3 7 x7 ∧ B_X1_solveFrom_116 Q K6 h0 x1 x2 x3 x4 x5 x6 x7 s0 ((1 : Int32) + (gI M a3 (Int32.toNatClampNeg x7))) M)))) ∧ (¬ x8 = 0 → B_X1_solveFrom_116 Q K6 h0 x1 x2 x3 x4 x5 x6 x7 s0 (0 : Int32) M))
set_option maxHeartbeats 4000000 in
set_option maxRecDepth 100000 in
theorem k_X1_solveFrom_96 {p : Program} {l : Launch} {e : Env} {s : State} {m : MethodId} {args : Array Value} {below : List Frame} {meth : Method} {c : Code} {D : va_G} {cy : Nat → ClassId} {A : Nat → Prop} {Q : Mm → Prop} (E : Ex p m c cX1_solveFrom 12 s args RX1 D cy A) (hr : meth.sig.returnType = none) (hlk : meth.locks = false) {K6 : Nat → Option Nat → Int32 → Int32 → Int32 → Int32 → Mm → Prop} (hK6 : ∀ (h0 : Nat) (x1 : Option Nat) (x2 : Int32) (x3 : Int32) (x4 : Int32) (x5 : Int32) (M : Mm) (H : Heap) (locs : List Loc) (ls : Array Slot), K6 h0 x1 x2 x3 x4 x5 M → Wd D cy A s M H locs → lh ls 12 [(0, rv (some h0)), (1, rv x1), (2, iv x2), (3, iv x3), (4, iv x4), (5, iv x5)] → W p l e (rmm 1 0 0) s m args below meth c H locs 0 0 (MQ below (va_Qv Q (Po D cy A) A) args s 0 0 A) (F0 m 6 ls [])) : ∀ (h0 : Nat) (x1 : Option Nat) (x2 : Int32) (x3 : Int32) (x4 : Int32) (x5 : Int32) (x6 : Int32) (x7 : Int32) (x8 : Int32) (s0 : Int32) (M : Mm) (H : Heap) (locs : List Loc) (ls : Array Slot), B_X1_solveFrom_96 Q K6 h0 x1 x2 x3 x4 x5 x6 x7 x8 s0 M → Wd D cy A s M H locs → lh ls 12 [(0, rv (some h0)), (1, rv x1), (2, iv x2), (3, iv x3), (4, iv x4), (5, iv x5), (6, iv x6), (7, iv x7), (8, iv x8)] → W p l e (rmm 1 0 0) s m args below meth c H locs 0 0 (MQ below (va_Qv Q (Po D cy A) A) args s 0 0 A) (F0 m 96 ls [.int s0]) := by
  obtain ⟨hx, hb, hml, hown, hts⟩ := E.1
  intro h0 x1 x2 x3 x4 x5 x6 x7 x8 s0 M H locs ls h w hl
  unfold B_X1_solveFrom_96 at h
  refine r_istore (lv' := [(9, iv s0), (0, rv (some h0)), (1, rv x1), (2, iv x2), (3, iv x3), (4, iv x4), (5, iv x5), (6, iv x6), (7, iv x7), (8, iv x8)]) hx hb dX1_solveFrom_96 hl (by decide) rfl (fun ls hl => ?_)
  refine lv_iload (x := x8) hx hb dX1_solveFrom_98 (lh_at hl 9 rfl) ?_
  refine lv_if_eq (tgt := 107) hx hb dX1_solveFrom_100 (by decide) (fun c1 => ?_) (fun c1 => ?_)
  · have h := h.1 c1
    refine lv_iconst (v := (1 : Int32)) hx hb dX1_solveFrom_107 (by decide) ?_
    refine r_aload_n (x := (some h0)) hx hb dX1_solveFrom_108 rfl (lh_at hl 1 rfl) ?_
    obtain ⟨ho2, h⟩ := h
    refine r_getR E w rfl ho2 cl_X1 2 rfl fl_X1_18 dX1_solveFrom_109 ?_
    refine lv_iload (x := x7) hx hb dX1_solveFrom_112 (lh_at hl 8 rfl) ?_
    obtain ⟨a3, ea3, h⟩ := h
    obtain ⟨ha4, h⟩ := h
    refine r_iald E w ea3 ha4 dX1_solveFrom_114 ?_
    refine lv_iadd hx hb dX1_solveFrom_115 ?_
    exact k_X1_solveFrom_116 E hr hlk hK6 _ _ _ _ _ _ _ _ _ _ _ _ _ _ h w (lh_sub hl [1, 2, 3, 4, 5, 6, 7, 8, 0] rfl)
  · have h := h.2 c1
    refine lv_iconst (v := (0 : Int32)) hx hb dX1_solveFrom_103 (by decide) ?_
    refine lv_goto (tgt := 116) hx hb dX1_solveFrom_104 (by decide) ?_
    exact k_X1_solveFrom_116 E hr hlk hK6 _ _ _ _ _ _ _ _ _ _ _ _ _ _ h w (lh_sub hl [1, 2, 3, 4, 5, 6, 7, 8, 0] rfl)
def B_X1_solveFrom_72 (Q : Mm → Prop) (K6 : Nat → Option Nat → Int32 → Int32 → Int32 → Int32 → Mm → Prop) (h0 : Nat) (x1 : Option Nat) (x2 : Int32) (x3 : Int32) (x4 : Int32) (x5 : Int32) (x6 : Int32) (x7 : Int32) (s0 : Int32) (M : Mm) : Prop := ((s0 = 0 → (ok M h0 1 ∧ (∃ a3, (gR M h0 1) = some a3 ∧ (ar M a3 7 x7 ∧ B_X1_solveFrom_96 Q K6 h0 x1 x2 x3 x4 x5 x6 x7 s0 ((x4 + x3) + (gI M a3 (Int32.toNatClampNeg x7))) M)))) ∧ (¬ s0 = 0 → B_X1_solveFrom_96 Q K6 h0 x1 x2 x3 x4 x5 x6 x7 s0 x4 M))
set_option maxHeartbeats 4000000 in
set_option maxRecDepth 100000 in
theorem k_X1_solveFrom_72 {p : Program} {l : Launch} {e : Env} {s : State} {m : MethodId} {args : Array Value} {below : List Frame} {meth : Method} {c : Code} {D : va_G} {cy : Nat → ClassId} {A : Nat → Prop} {Q : Mm → Prop} (E : Ex p m c cX1_solveFrom 12 s args RX1 D cy A) (hr : meth.sig.returnType = none) (hlk : meth.locks = false) {K6 : Nat → Option Nat → Int32 → Int32 → Int32 → Int32 → Mm → Prop} (hK6 : ∀ (h0 : Nat) (x1 : Option Nat) (x2 : Int32) (x3 : Int32) (x4 : Int32) (x5 : Int32) (M : Mm) (H : Heap) (locs : List Loc) (ls : Array Slot), K6 h0 x1 x2 x3 x4 x5 M → Wd D cy A s M H locs → lh ls 12 [(0, rv (some h0)), (1, rv x1), (2, iv x2), (3, iv x3), (4, iv x4), (5, iv x5)] → W p l e (rmm 1 0 0) s m args below meth c H locs 0 0 (MQ below (va_Qv Q (Po D cy A) A) args s 0 0 A) (F0 m 6 ls [])) : ∀ (h0 : Nat) (x1 : Option Nat) (x2 : Int32) (x3 : Int32) (x4 : Int32) (x5 : Int32) (x6 : Int32) (x7 : Int32) (s0 : Int32) (M : Mm) (H : Heap) (locs : List Loc) (ls : Array Slot), B_X1_solveFrom_72 Q K6 h0 x1 x2 x3 x4 x5 x6 x7 s0 M → Wd D cy A s M H locs → lh ls 12 [(0, rv (some h0)), (1, rv x1), (2, iv x2), (3, iv x3), (4, iv x4), (5, iv x5), (6, iv x6), (7, iv x7)] → W p l e (rmm 1 0 0) s m args below meth c H locs 0 0 (MQ below (va_Qv Q (Po D cy A) A) args s 0 0 A) (F0 m 72 ls [.int s0]) := by
  obtain ⟨hx, hb, hml, hown, hts⟩ := E.1
  intro h0 x1 x2 x3 x4 x5 x6 x7 s0 M H locs ls h w hl
  unfold B_X1_solveFrom_72 at h
  refine r_istore (lv' := [(8, iv s0), (0, rv (some h0)), (1, rv x1), (2, iv x2), (3, iv x3), (4, iv x4), (5, iv x5), (6, iv x6), (7, iv x7)]) hx hb dX1_solveFrom_72 hl (by decide) rfl (fun ls hl => ?_)
  refine lv_iload (x := s0) hx hb dX1_solveFrom_74 (lh_at hl 0 rfl) ?_
  refine lv_if_eq (tgt := 84) hx hb dX1_solveFrom_76 (by decide) (fun c1 => ?_) (fun c1 => ?_)
  · have h := h.1 c1
    refine lv_iload (x := x4) hx hb dX1_solveFrom_84 (lh_at hl 5 rfl) ?_
    refine lv_iload_n (x := x3) hx hb dX1_solveFrom_86 rfl (lh_at hl 4 rfl) ?_
    refine lv_iadd hx hb dX1_solveFrom_87 ?_
    refine r_aload_n (x := (some h0)) hx hb dX1_solveFrom_88 rfl (lh_at hl 1 rfl) ?_
    obtain ⟨ho2, h⟩ := h
    refine r_getR E w rfl ho2 cl_X1 1 rfl fl_X1_15 dX1_solveFrom_89 ?_
    refine lv_iload (x := x7) hx hb dX1_solveFrom_92 (lh_at hl 8 rfl) ?_
    obtain ⟨a3, ea3, h⟩ := h
    obtain ⟨ha4, h⟩ := h
    refine r_iald E w ea3 ha4 dX1_solveFrom_94 ?_
    refine lv_iadd hx hb dX1_solveFrom_95 ?_
    exact k_X1_solveFrom_96 E hr hlk hK6 _ _ _ _ _ _ _ _ _ _ _ _ _ _ h w (lh_sub hl [1, 2, 3, 4, 5, 6, 7, 8, 0] rfl)
  · have h := h.2 c1
    refine lv_iload (x := x4) hx hb dX1_solveFrom_79 (lh_at hl 5 rfl) ?_
    refine lv_goto (tgt := 96) hx hb dX1_solveFrom_81 (by decide) ?_
    exact k_X1_solveFrom_96 E hr hlk hK6 _ _ _ _ _ _ _ _ _ _ _ _ _ _ h w (lh_sub hl [1, 2, 3, 4, 5, 6, 7, 8, 0] rfl)
def B_X1_solveFrom_6 (Q : Mm → Prop)  : Nat → Nat → Option Nat → Int32 → Int32 → Int32 → Int32 → Mm → Prop
  | 0, _, _, _, _, _, _, _ => False
  | n + 1, h0, x1, x2, x3, x4, x5, M => (∃ a1, x1 = some a1 ∧ (ok M a1 3 ∧ (((gI M a1 6) ≤ x5 → Q M) ∧ (¬ (gI M a1 6) ≤ x5 → (∃ a4, (gR M a1 8) = some a4 ∧ (ar M a4 7 x5 ∧ (ok M h0 1 ∧ (B_X1_farFromMiddle_0 (fun r8 M7 => (ok M7 a1 3 ∧ (∃ a10, (gR M7 a1 8) = some a10 ∧ (ar M7 a10 7 x5 ∧ (ok M7 h0 1 ∧ (B_X1_insert_0 (fun  M13 => (ok M13 a1 3 ∧ ((¬ (x5 + (1 : Int32)) = (gI M13 a1 6) → B_X1_solveFrom_72 Q (fun y0 y1 y2 y3 y4 y5 My => B_X1_solveFrom_6 Q n y0 y1 y2 y3 y4 y5 My) h0 x1 x2 x3 (x4 + r8) x5 (x5 - x2) (x5 + (1 : Int32)) (0 : Int32) M13) ∧ ((x5 + (1 : Int32)) = (gI M13 a1 6) → B_X1_solveFrom_72 Q (fun y0 y1 y2 y3 y4 y5 My => B_X1_solveFrom_6 Q n y0 y1 y2 y3 y4 y5 My) h0 x1 x2 x3 (x4 + r8) x5 (x5 - x2) (x5 + (1 : Int32)) (1 : Int32) M13)))) h0 (gI M7 a10 (Int32.toNatClampNeg x5)) (x5 - x2) M7)))))) h0 (gI M a4 (Int32.toNatClampNeg x5)) (x5 - x2) M))))))))
set_option maxHeartbeats 4000000 in
set_option maxRecDepth 100000 in
theorem k_X1_solveFrom_6 {p : Program} {l : Launch} {e : Env} {s : State} {m : MethodId} {args : Array Value} {below : List Frame} {meth : Method} {c : Code} {D : va_G} {cy : Nat → ClassId} {A : Nat → Prop} {Q : Mm → Prop} (E : Ex p m c cX1_solveFrom 12 s args RX1 D cy A) (hr : meth.sig.returnType = none) (hlk : meth.locks = false) : ∀ (n : Nat), ∀ (h0 : Nat) (x1 : Option Nat) (x2 : Int32) (x3 : Int32) (x4 : Int32) (x5 : Int32) (M : Mm) (H : Heap) (locs : List Loc) (ls : Array Slot), B_X1_solveFrom_6 Q  n h0 x1 x2 x3 x4 x5 M → Wd D cy A s M H locs → lh ls 12 [(0, rv (some h0)), (1, rv x1), (2, iv x2), (3, iv x3), (4, iv x4), (5, iv x5)] → W p l e (rmm 1 0 0) s m args below meth c H locs 0 0 (MQ below (va_Qv Q (Po D cy A) A) args s 0 0 A) (F0 m 6 ls []) := by
  obtain ⟨hx, hb, hml, hown, hts⟩ := E.1
  intro n
  induction n with
  | zero => intro h0 x1 x2 x3 x4 x5 M H locs ls h; exact False.elim h
  | succ n ih =>
    intro h0 x1 x2 x3 x4 x5 M H locs ls h w hl
    unfold B_X1_solveFrom_6 at h
    refine lv_iload (x := x5) hx hb dX1_solveFrom_6 (lh_at hl 5 rfl) ?_
    refine r_aload_n (x := x1) hx hb dX1_solveFrom_8 rfl (lh_at hl 1 rfl) ?_
    obtain ⟨a1, ea1, h⟩ := h
    obtain ⟨ho2, h⟩ := h
    refine r_getI E w ea1 ho2 cl_X3 6 rfl fl_X1_30 dX1_solveFrom_9 ?_
    refine lv_icmp_ge (tgt := 198) hx hb dX1_solveFrom_12 (by decide) (fun c3 => ?_) (fun c3 => ?_)
    · have h := h.1 c3
      exact r_vret E w hr hlk h (Nat.le_refl 0) (Nat.le_refl 0) dX1_solveFrom_198
    · have h := h.2 c3
      refine lv_iload (x := x5) hx hb dX1_solveFrom_15 (lh_at hl 5 rfl) ?_
      refine lv_iload_n (x := x2) hx hb dX1_solveFrom_17 rfl (lh_at hl 2 rfl) ?_
      refine lv_isub hx hb dX1_solveFrom_18 ?_
      refine r_istore (lv' := [(6, iv (x5 - x2)), (0, rv (some h0)), (1, rv x1), (2, iv x2), (3, iv x3), (4, iv x4), (5, iv x5)]) hx hb dX1_solveFrom_19 hl (by decide) rfl (fun ls hl => ?_)
      refine lv_iload (x := x4) hx hb dX1_solveFrom_21 (lh_at hl 5 rfl) ?_
      refine r_aload_n (x := (some h0)) hx hb dX1_solveFrom_23 rfl (lh_at hl 1 rfl) ?_
      refine r_aload_n (x := x1) hx hb dX1_solveFrom_24 rfl (lh_at hl 2 rfl) ?_
      refine r_getR E w ea1 ho2 cl_X3 8 rfl fl_X1_61 dX1_solveFrom_25 ?_
      refine lv_iload (x := x5) hx hb dX1_solveFrom_28 (lh_at hl 6 rfl) ?_
      obtain ⟨a4, ea4, h⟩ := h
      obtain ⟨ha5, h⟩ := h
      refine r_iald E w ea4 ha5 dX1_solveFrom_30 ?_
      refine lv_iload (x := (x5 - x2)) hx hb dX1_solveFrom_31 (lh_at hl 0 rfl) ?_
      obtain ⟨ho6, h⟩ := h
      refine z_callVi E w rfl ho6 cl_X1 yk_X1_farFromMiddle ⟨Nat.le_of_ble_eq_true rfl, Nat.le_of_ble_eq_true rfl⟩ ⟨(Nat.zero_le _), (Nat.zero_le _)⟩ rfl ml_X1_64 im_X1_farFromMiddle sl_X1_farFromMiddle [iv (gI M a4 (Int32.toNatClampNeg x5)), iv (x5 - x2)] rfl rfl hl [iv x4] rfl (Nat.le_of_ble_eq_true rfl) (K_X1_farFromMiddle h) dX1_solveFrom_33 (fun r8 M7 H locs h w => ?_)
      refine lv_iadd hx hb dX1_solveFrom_36 ?_
      refine r_istore (lv' := [(4, iv (x4 + r8)), (6, iv (x5 - x2)), (0, rv (some h0)), (1, rv x1), (2, iv x2), (3, iv x3), (5, iv x5)]) hx hb dX1_solveFrom_37 hl (by decide) rfl (fun ls hl => ?_)
      refine r_aload_n (x := (some h0)) hx hb dX1_solveFrom_39 rfl (lh_at hl 2 rfl) ?_
      refine r_aload_n (x := x1) hx hb dX1_solveFrom_40 rfl (lh_at hl 3 rfl) ?_
      obtain ⟨ho9, h⟩ := h
      refine r_getR E w ea1 ho9 cl_X3 8 rfl fl_X1_61 dX1_solveFrom_41 ?_
      refine lv_iload (x := x5) hx hb dX1_solveFrom_44 (lh_at hl 6 rfl) ?_
      obtain ⟨a10, ea10, h⟩ := h
      obtain ⟨ha11, h⟩ := h
      refine r_iald E w ea10 ha11 dX1_solveFrom_46 ?_
      refine lv_iload (x := (x5 - x2)) hx hb dX1_solveFrom_47 (lh_at hl 1 rfl) ?_
      obtain ⟨ho12, h⟩ := h
      refine z_callVv E w rfl ho12 cl_X1 yk_X1_insert ⟨Nat.le_of_ble_eq_true rfl, Nat.le_of_ble_eq_true rfl⟩ ⟨(Nat.zero_le _), (Nat.zero_le _)⟩ rfl ml_X1_68 im_X1_insert sl_X1_insert [iv (gI M7 a10 (Int32.toNatClampNeg x5)), iv (x5 - x2)] rfl rfl hl [] rfl (Nat.le_of_ble_eq_true rfl) (K_X1_insert h) dX1_solveFrom_49 (fun  M13 H locs h w => ?_)
      refine lv_iload (x := x5) hx hb dX1_solveFrom_52 (lh_at hl 6 rfl) ?_
      refine lv_iconst (v := (1 : Int32)) hx hb dX1_solveFrom_54 (by decide) ?_
      refine lv_iadd hx hb dX1_solveFrom_55 ?_
      refine r_istore (lv' := [(7, iv (x5 + (1 : Int32))), (4, iv (x4 + r8)), (6, iv (x5 - x2)), (0, rv (some h0)), (1, rv x1), (2, iv x2), (3, iv x3), (5, iv x5)]) hx hb dX1_solveFrom_56 hl (by decide) rfl (fun ls hl => ?_)
      refine lv_iload (x := (x5 + (1 : Int32))) hx hb dX1_solveFrom_58 (lh_at hl 0 rfl) ?_
      refine r_aload_n (x := x1) hx hb dX1_solveFrom_60 rfl (lh_at hl 4 rfl) ?_
      obtain ⟨ho14, h⟩ := h
      refine r_getI E w ea1 ho14 cl_X3 6 rfl fl_X1_30 dX1_solveFrom_61 ?_
      refine lv_icmp_ne (tgt := 71) hx hb dX1_solveFrom_64 (by decide) (fun c15 => ?_) (fun c15 => ?_)
      · have h := h.1 c15
        refine lv_iconst (v := (0 : Int32)) hx hb dX1_solveFrom_71 (by decide) ?_
        exact k_X1_solveFrom_72 E hr hlk ih _ _ _ _ _ _ _ _ _ _ _ _ _ h w (lh_sub hl [3, 4, 5, 6, 1, 7, 2, 0] rfl)
      · have h := h.2 c15
        refine lv_iconst (v := (1 : Int32)) hx hb dX1_solveFrom_67 (by decide) ?_
        refine lv_goto (tgt := 72) hx hb dX1_solveFrom_68 (by decide) ?_
        exact k_X1_solveFrom_72 E hr hlk ih _ _ _ _ _ _ _ _ _ _ _ _ _ h w (lh_sub hl [3, 4, 5, 6, 1, 7, 2, 0] rfl)
def B_X1_solveFrom_0 (Q : Mm → Prop)  (h0 : Nat) (x1 : Option Nat) (x2 : Int32) (x3 : Int32) (M : Mm) : Prop := (∃ n1, B_X1_solveFrom_6 Q  n1 h0 x1 x2 x3 (0 : Int32) x2 M)
set_option maxHeartbeats 4000000 in
set_option maxRecDepth 100000 in
theorem k_X1_solveFrom_0 {p : Program} {l : Launch} {e : Env} {s : State} {m : MethodId} {args : Array Value} {below : List Frame} {meth : Method} {c : Code} {D : va_G} {cy : Nat → ClassId} {A : Nat → Prop} {Q : Mm → Prop} (E : Ex p m c cX1_solveFrom 12 s args RX1 D cy A) (hr : meth.sig.returnType = none) (hlk : meth.locks = false) : ∀ (h0 : Nat) (x1 : Option Nat) (x2 : Int32) (x3 : Int32) (M : Mm) (H : Heap) (locs : List Loc) (ls : Array Slot), B_X1_solveFrom_0 Q  h0 x1 x2 x3 M → Wd D cy A s M H locs → lh ls 12 [(0, rv (some h0)), (1, rv x1), (2, iv x2), (3, iv x3)] → W p l e (rmm 1 0 0) s m args below meth c H locs 0 0 (MQ below (va_Qv Q (Po D cy A) A) args s 0 0 A) (F0 m 0 ls []) := by
  obtain ⟨hx, hb, hml, hown, hts⟩ := E.1
  intro h0 x1 x2 x3 M H locs ls h w hl
  unfold B_X1_solveFrom_0 at h
  refine lv_iconst (v := (0 : Int32)) hx hb dX1_solveFrom_0 (by decide) ?_
  refine r_istore (lv' := [(4, iv (0 : Int32)), (0, rv (some h0)), (1, rv x1), (2, iv x2), (3, iv x3)]) hx hb dX1_solveFrom_1 hl (by decide) rfl (fun ls hl => ?_)
  refine lv_iload_n (x := x2) hx hb dX1_solveFrom_3 rfl (lh_at hl 3 rfl) ?_
  refine r_istore (lv' := [(5, iv x2), (4, iv (0 : Int32)), (0, rv (some h0)), (1, rv x1), (2, iv x2), (3, iv x3)]) hx hb dX1_solveFrom_4 hl (by decide) rfl (fun ls hl => ?_)
  obtain ⟨n1, h⟩ := h
  exact k_X1_solveFrom_6 E hr hlk  n1 _ _ _ _ _ _ _ _ _ _ h w (lh_sub hl [2, 3, 4, 5, 1, 0] rfl)
theorem K_X1_solveFrom {l : Launch} {Q : Mm → Prop} {h0 : Nat} {x1 : Option Nat} {x2 : Int32} {x3 : Int32} {M : Mm} (h : B_X1_solveFrom_0 Q h0 x1 x2 x3 M) : KV l yX1_solveFrom cdX1_solveFrom (rmm 1 0 0) [rv (some h0), rv x1, iv x2, iv x3] M Q :=
  KV_of (by decide) rfl (Nat.le_of_ble_eq_true rfl) (fun p e s m args below meth c D cy A ls E hr hlk hn w hl => k_X1_solveFrom_0 E hr hlk _ _ _ _ _ _ _ _ h w hl)
def B_X1_setSpans_9 (Q : Mm → Prop)  : Nat → Nat → Option Nat → Int32 → Int32 → Mm → Prop
  | 0, _, _, _, _, _ => False
  | n + 1, h0, x1, x2, x3, M => (∃ a1, x1 = some a1 ∧ (ok M a1 3 ∧ (((gI M a1 6) ≤ x3 → (∃ a4, (gR M a1 10) = some a4 ∧ (ar M a4 7 (gI M a1 9) ∧ (∀ M6, M6 = pI M a4 (Int32.toNatClampNeg (gI M a1 9)) (gI M a1 6) → Q M6)))) ∧ (¬ (gI M a1 6) ≤ x3 → ((¬ x3 = x2 → B_X1_setSpans_9 Q  n h0 x1 x2 (x3 + 1) M) ∧ (x3 = x2 → (∃ a8, (gR M a1 10) = some a8 ∧ (ar M a8 7 (gI M a1 9) ∧ (∀ M10, M10 = pI M a8 (Int32.toNatClampNeg (gI M a1 9)) x3 → (∀ M11, M11 = pI M10 a1 9 ((gI M10 a1 9) + (1 : Int32)) → (ok M11 h0 1 ∧ (∃ a13, (gR M11 h0 3) = some a13 ∧ (ar M11 a13 7 x3 ∧ B_X1_setSpans_9 Q  n h0 x1 (gI M11 a13 (Int32.toNatClampNeg x3)) (x3 + 1) M11)))))))))))))
set_option maxHeartbeats 4000000 in
set_option maxRecDepth 100000 in
theorem k_X1_setSpans_9 {p : Program} {l : Launch} {e : Env} {s : State} {m : MethodId} {args : Array Value} {below : List Frame} {meth : Method} {c : Code} {D : va_G} {cy : Nat → ClassId} {A : Nat → Prop} {Q : Mm → Prop} (E : Ex p m c cX1_setSpans 4 s args RX1 D cy A) (hr : meth.sig.returnType = none) (hlk : meth.locks = false) : ∀ (n : Nat), ∀ (h0 : Nat) (x1 : Option Nat) (x2 : Int32) (x3 : Int32) (M : Mm) (H : Heap) (locs : List Loc) (ls : Array Slot), B_X1_setSpans_9 Q  n h0 x1 x2 x3 M → Wd D cy A s M H locs → lh ls 4 [(0, rv (some h0)), (1, rv x1), (2, iv x2), (3, iv x3)] → W p l e (rmm 0 0 0) s m args below meth c H locs 0 0 (MQ below (va_Qv Q (Po D cy A) A) args s 0 0 A) (F0 m 9 ls []) := by
  obtain ⟨hx, hb, hml, hown, hts⟩ := E.1
  intro n
  induction n with
  | zero => intro h0 x1 x2 x3 M H locs ls h; exact False.elim h
  | succ n ih =>
    intro h0 x1 x2 x3 M H locs ls h w hl
    unfold B_X1_setSpans_9 at h
    refine lv_iload_n (x := x3) hx hb dX1_setSpans_9 rfl (lh_at hl 3 rfl) ?_
    refine r_aload_n (x := x1) hx hb dX1_setSpans_10 rfl (lh_at hl 1 rfl) ?_
    obtain ⟨a1, ea1, h⟩ := h
    obtain ⟨ho2, h⟩ := h
    refine r_getI E w ea1 ho2 cl_X3 6 rfl fl_X1_30 dX1_setSpans_11 ?_
    refine lv_icmp_ge (tgt := 55) hx hb dX1_setSpans_14 (by decide) (fun c3 => ?_) (fun c3 => ?_)
    · have h := h.1 c3
      refine r_aload_n (x := x1) hx hb dX1_setSpans_55 rfl (lh_at hl 1 rfl) ?_
      refine r_getR E w ea1 ho2 cl_X3 10 rfl fl_X1_75 dX1_setSpans_56 ?_
      refine r_aload_n (x := x1) hx hb dX1_setSpans_59 rfl (lh_at hl 1 rfl) ?_
      refine r_getI E w ea1 ho2 cl_X3 9 rfl fl_X1_72 dX1_setSpans_60 ?_
      refine r_aload_n (x := x1) hx hb dX1_setSpans_63 rfl (lh_at hl 1 rfl) ?_
      refine r_getI E w ea1 ho2 cl_X3 6 rfl fl_X1_30 dX1_setSpans_64 ?_
      obtain ⟨a4, ea4, h⟩ := h
      obtain ⟨ha5, h⟩ := h
      refine r_iast (v := (gI M a1 6)) E w ea4 ha5 dX1_setSpans_67 (fun H locs w => ?_)
      obtain ⟨M6, eM6⟩ : ∃ z, z = pI M a4 (Int32.toNatClampNeg (gI M a1 9)) (gI M a1 6) := ⟨_, rfl⟩
      rw [← eM6] at w
      have h := h M6 eM6
      exact r_vret E w hr hlk h (Nat.le_refl 0) (Nat.le_refl 0) dX1_setSpans_68
    · have h := h.2 c3
      refine lv_iload_n (x := x3) hx hb dX1_setSpans_17 rfl (lh_at hl 3 rfl) ?_
      refine lv_iload_n (x := x2) hx hb dX1_setSpans_18 rfl (lh_at hl 2 rfl) ?_
      refine lv_icmp_ne (tgt := 49) hx hb dX1_setSpans_19 (by decide) (fun c7 => ?_) (fun c7 => ?_)
      · have h := h.1 c7
        refine r_iinc (k := 3) (x := x3) (v := (x3 + 1)) (lv' := [(3, iv (x3 + 1)), (0, rv (some h0)), (1, rv x1), (2, iv x2)]) hx hb dX1_setSpans_49 hl rfl rfl (by decide) rfl (fun ls hl => ?_)
        refine lv_goto (tgt := 9) hx hb dX1_setSpans_52 (by decide) ?_
        exact ih _ _ _ _ _ _ _ _ h w (lh_sub hl [1, 2, 3, 0] rfl)
      · have h := h.2 c7
        refine r_aload_n (x := x1) hx hb dX1_setSpans_22 rfl (lh_at hl 1 rfl) ?_
        refine r_getR E w ea1 ho2 cl_X3 10 rfl fl_X1_75 dX1_setSpans_23 ?_
        refine r_aload_n (x := x1) hx hb dX1_setSpans_26 rfl (lh_at hl 1 rfl) ?_
        refine r_getI E w ea1 ho2 cl_X3 9 rfl fl_X1_72 dX1_setSpans_27 ?_
        refine lv_iload_n (x := x3) hx hb dX1_setSpans_30 rfl (lh_at hl 3 rfl) ?_
        obtain ⟨a8, ea8, h⟩ := h
        obtain ⟨ha9, h⟩ := h
        refine r_iast (v := x3) E w ea8 ha9 dX1_setSpans_31 (fun H locs w => ?_)
        obtain ⟨M10, eM10⟩ : ∃ z, z = pI M a8 (Int32.toNatClampNeg (gI M a1 9)) x3 := ⟨_, rfl⟩
        rw [← eM10] at w
        have h := h M10 eM10
        refine r_aload_n (x := x1) hx hb dX1_setSpans_32 rfl (lh_at hl 1 rfl) ?_
        refine r_dupr hx hb dX1_setSpans_33 ?_
        have ho2 : ok M10 a1 3 := by rw [eM10]; exact ho2
        refine r_getI E w ea1 ho2 cl_X3 9 rfl fl_X1_72 dX1_setSpans_34 ?_
        refine lv_iconst (v := (1 : Int32)) hx hb dX1_setSpans_37 (by decide) ?_
        refine lv_iadd hx hb dX1_setSpans_38 ?_
        refine r_putI (v := ((gI M10 a1 9) + (1 : Int32))) E w ea1 ho2 cl_X3 9 rfl fl_X1_72 (Or.inl rfl) (Or.inl rfl) dX1_setSpans_39 (fun H locs w => ?_)
        obtain ⟨M11, eM11⟩ : ∃ z, z = pI M10 a1 9 ((gI M10 a1 9) + (1 : Int32)) := ⟨_, rfl⟩
        rw [← eM11] at w
        have h := h M11 eM11
        refine r_aload_n (x := (some h0)) hx hb dX1_setSpans_42 rfl (lh_at hl 0 rfl) ?_
        obtain ⟨ho12, h⟩ := h
        refine r_getR E w rfl ho12 cl_X1 3 rfl fl_X1_21 dX1_setSpans_43 ?_
        refine lv_iload_n (x := x3) hx hb dX1_setSpans_46 rfl (lh_at hl 3 rfl) ?_
        obtain ⟨a13, ea13, h⟩ := h
        obtain ⟨ha14, h⟩ := h
        refine r_iald E w ea13 ha14 dX1_setSpans_47 ?_
        refine r_istore_n (lv' := [(2, iv (gI M11 a13 (Int32.toNatClampNeg x3))), (0, rv (some h0)), (1, rv x1), (3, iv x3)]) hx hb dX1_setSpans_48 rfl hl (by decide) rfl (fun ls hl => ?_)
        refine r_iinc (k := 3) (x := x3) (v := (x3 + 1)) (lv' := [(3, iv (x3 + 1)), (2, iv (gI M11 a13 (Int32.toNatClampNeg x3))), (0, rv (some h0)), (1, rv x1)]) hx hb dX1_setSpans_49 hl rfl rfl (by decide) rfl (fun ls hl => ?_)
        refine lv_goto (tgt := 9) hx hb dX1_setSpans_52 (by decide) ?_
        exact ih _ _ _ _ _ _ _ _ h w (lh_sub hl [2, 3, 1, 0] rfl)
def B_X1_setSpans_0 (Q : Mm → Prop)  (h0 : Nat) (x1 : Option Nat) (M : Mm) : Prop := (∃ a1, x1 = some a1 ∧ (ok M a1 3 ∧ (∀ M3, M3 = pI M a1 9 (0 : Int32) → (∃ n4, B_X1_setSpans_9 Q  n4 h0 x1 (0 : Int32) (0 : Int32) M3))))
set_option maxHeartbeats 4000000 in
set_option maxRecDepth 100000 in
theorem k_X1_setSpans_0 {p : Program} {l : Launch} {e : Env} {s : State} {m : MethodId} {args : Array Value} {below : List Frame} {meth : Method} {c : Code} {D : va_G} {cy : Nat → ClassId} {A : Nat → Prop} {Q : Mm → Prop} (E : Ex p m c cX1_setSpans 4 s args RX1 D cy A) (hr : meth.sig.returnType = none) (hlk : meth.locks = false) : ∀ (h0 : Nat) (x1 : Option Nat) (M : Mm) (H : Heap) (locs : List Loc) (ls : Array Slot), B_X1_setSpans_0 Q  h0 x1 M → Wd D cy A s M H locs → lh ls 4 [(0, rv (some h0)), (1, rv x1)] → W p l e (rmm 0 0 0) s m args below meth c H locs 0 0 (MQ below (va_Qv Q (Po D cy A) A) args s 0 0 A) (F0 m 0 ls []) := by
  obtain ⟨hx, hb, hml, hown, hts⟩ := E.1
  intro h0 x1 M H locs ls h w hl
  unfold B_X1_setSpans_0 at h
  refine r_aload_n (x := x1) hx hb dX1_setSpans_0 rfl (lh_at hl 1 rfl) ?_
  refine lv_iconst (v := (0 : Int32)) hx hb dX1_setSpans_1 (by decide) ?_
  obtain ⟨a1, ea1, h⟩ := h
  obtain ⟨ho2, h⟩ := h
  refine r_putI (v := (0 : Int32)) E w ea1 ho2 cl_X3 9 rfl fl_X1_72 (Or.inl rfl) (Or.inl rfl) dX1_setSpans_2 (fun H locs w => ?_)
  obtain ⟨M3, eM3⟩ : ∃ z, z = pI M a1 9 (0 : Int32) := ⟨_, rfl⟩
  rw [← eM3] at w
  have h := h M3 eM3
  refine lv_iconst (v := (0 : Int32)) hx hb dX1_setSpans_5 (by decide) ?_
  refine r_istore_n (lv' := [(2, iv (0 : Int32)), (0, rv (some h0)), (1, rv x1)]) hx hb dX1_setSpans_6 rfl hl (by decide) rfl (fun ls hl => ?_)
  refine lv_iconst (v := (0 : Int32)) hx hb dX1_setSpans_7 (by decide) ?_
  refine r_istore_n (lv' := [(3, iv (0 : Int32)), (2, iv (0 : Int32)), (0, rv (some h0)), (1, rv x1)]) hx hb dX1_setSpans_8 rfl hl (by decide) rfl (fun ls hl => ?_)
  obtain ⟨n4, h⟩ := h
  exact k_X1_setSpans_9 E hr hlk  n4 _ _ _ _ _ _ _ _ h w (lh_sub hl [2, 3, 1, 0] rfl)
theorem K_X1_setSpans {l : Launch} {Q : Mm → Prop} {h0 : Nat} {x1 : Option Nat} {M : Mm} (h : B_X1_setSpans_0 Q h0 x1 M) : KV l yX1_setSpans cdX1_setSpans (rmm 0 0 0) [rv (some h0), rv x1] M Q :=
  KV_of (by decide) rfl (Nat.le_of_ble_eq_true rfl) (fun p e s m args below meth c D cy A ls E hr hlk hn w hl => k_X1_setSpans_0 E hr hlk _ _ _ _ _ _ h w hl)
def B_X1_setMiddles_20 (Q : Mm → Prop) (K2 : Nat → Option Nat → Int32 → Mm → Prop) : Nat → Nat → Option Nat → Int32 → Int32 → Int32 → Mm → Prop
  | 0, _, _, _, _, _, _ => False
  | n + 1, h0, x1, x2, x3, x4, M => (∃ a1, x1 = some a1 ∧ (ok M a1 3 ∧ (∃ a3, (gR M a1 10) = some a3 ∧ (ar M a3 7 (x2 + (1 : Int32)) ∧ (((gI M a3 (Int32.toNatClampNeg (x2 + (1 : Int32)))) ≤ x4 → (ok M h0 1 ∧ (∃ a7, (gR M h0 0) = some a7 ∧ (ar M a7 7 (x3 / (2 : Int32)) ∧ (∃ a9, (gR M a1 11) = some a9 ∧ (ar M a9 7 x2 ∧ (∀ M11, M11 = pI M a9 (Int32.toNatClampNeg x2) (gI M a7 (Int32.toNatClampNeg (x3 / (2 : Int32)))) → K2 h0 x1 (x2 + 1) M11))))))) ∧ (¬ (gI M a3 (Int32.toNatClampNeg (x2 + (1 : Int32)))) ≤ x4 → (∃ a12, (gR M a1 7) = some a12 ∧ (ar M a12 7 x4 ∧ (∃ a14, (gR M a1 0) = some a14 ∧ (ar M a14 7 (gI M a12 (Int32.toNatClampNeg x4)) ∧ (ok M h0 1 ∧ (B_X1_insert_0 (fun  M17 => B_X1_setMiddles_20 Q K2 n h0 x1 x2 (x3 + 1) (x4 + 1) M17) h0 (gI M a14 (Int32.toNatClampNeg (gI M a12 (Int32.toNatClampNeg x4)))) x3 M))))))))))))
set_option maxHeartbeats 4000000 in
set_option maxRecDepth 100000 in
theorem k_X1_setMiddles_20 {p : Program} {l : Launch} {e : Env} {s : State} {m : MethodId} {args : Array Value} {below : List Frame} {meth : Method} {c : Code} {D : va_G} {cy : Nat → ClassId} {A : Nat → Prop} {Q : Mm → Prop} (E : Ex p m c cX1_setMiddles 5 s args RX1 D cy A) (hr : meth.sig.returnType = none) (hlk : meth.locks = false) {K2 : Nat → Option Nat → Int32 → Mm → Prop} (hK2 : ∀ (h0 : Nat) (x1 : Option Nat) (x2 : Int32) (M : Mm) (H : Heap) (locs : List Loc) (ls : Array Slot), K2 h0 x1 x2 M → Wd D cy A s M H locs → lh ls 5 [(0, rv (some h0)), (1, rv x1), (2, iv x2)] → W p l e (rmm 1 0 0) s m args below meth c H locs 0 0 (MQ below (va_Qv Q (Po D cy A) A) args s 0 0 A) (F0 m 2 ls [])) : ∀ (n : Nat), ∀ (h0 : Nat) (x1 : Option Nat) (x2 : Int32) (x3 : Int32) (x4 : Int32) (M : Mm) (H : Heap) (locs : List Loc) (ls : Array Slot), B_X1_setMiddles_20 Q K2 n h0 x1 x2 x3 x4 M → Wd D cy A s M H locs → lh ls 5 [(0, rv (some h0)), (1, rv x1), (2, iv x2), (3, iv x3), (4, iv x4)] → W p l e (rmm 1 0 0) s m args below meth c H locs 0 0 (MQ below (va_Qv Q (Po D cy A) A) args s 0 0 A) (F0 m 20 ls []) := by
  obtain ⟨hx, hb, hml, hown, hts⟩ := E.1
  intro n
  induction n with
  | zero => intro h0 x1 x2 x3 x4 M H locs ls h; exact False.elim h
  | succ n ih =>
    intro h0 x1 x2 x3 x4 M H locs ls h w hl
    unfold B_X1_setMiddles_20 at h
    refine lv_iload (x := x4) hx hb dX1_setMiddles_20 (lh_at hl 4 rfl) ?_
    refine r_aload_n (x := x1) hx hb dX1_setMiddles_22 rfl (lh_at hl 1 rfl) ?_
    obtain ⟨a1, ea1, h⟩ := h
    obtain ⟨ho2, h⟩ := h
    refine r_getR E w ea1 ho2 cl_X3 10 rfl fl_X1_75 dX1_setMiddles_23 ?_
    refine lv_iload_n (x := x2) hx hb dX1_setMiddles_26 rfl (lh_at hl 2 rfl) ?_
    refine lv_iconst (v := (1 : Int32)) hx hb dX1_setMiddles_27 (by decide) ?_
    refine lv_iadd hx hb dX1_setMiddles_28 ?_
    obtain ⟨a3, ea3, h⟩ := h
    obtain ⟨ha4, h⟩ := h
    refine r_iald E w ea3 ha4 dX1_setMiddles_29 ?_
    refine lv_icmp_ge (tgt := 59) hx hb dX1_setMiddles_30 (by decide) (fun c5 => ?_) (fun c5 => ?_)
    · have h := h.1 c5
      refine r_aload_n (x := x1) hx hb dX1_setMiddles_59 rfl (lh_at hl 1 rfl) ?_
      refine r_getR E w ea1 ho2 cl_X3 11 rfl fl_X1_84 dX1_setMiddles_60 ?_
      refine lv_iload_n (x := x2) hx hb dX1_setMiddles_63 rfl (lh_at hl 2 rfl) ?_
      refine r_aload_n (x := (some h0)) hx hb dX1_setMiddles_64 rfl (lh_at hl 0 rfl) ?_
      obtain ⟨ho6, h⟩ := h
      refine r_getR E w rfl ho6 cl_X1 0 rfl fl_X1_9 dX1_setMiddles_65 ?_
      refine lv_iload_n (x := x3) hx hb dX1_setMiddles_68 rfl (lh_at hl 3 rfl) ?_
      refine lv_iconst (v := (2 : Int32)) hx hb dX1_setMiddles_69 (by decide) ?_
      refine lv_idiv hx hb dX1_setMiddles_70 (by decide) ?_
      obtain ⟨a7, ea7, h⟩ := h
      obtain ⟨ha8, h⟩ := h
      refine r_iald E w ea7 ha8 dX1_setMiddles_71 ?_
      obtain ⟨a9, ea9, h⟩ := h
      obtain ⟨ha10, h⟩ := h
      refine r_iast (v := (gI M a7 (Int32.toNatClampNeg (x3 / (2 : Int32))))) E w ea9 ha10 dX1_setMiddles_72 (fun H locs w => ?_)
      obtain ⟨M11, eM11⟩ : ∃ z, z = pI M a9 (Int32.toNatClampNeg x2) (gI M a7 (Int32.toNatClampNeg (x3 / (2 : Int32)))) := ⟨_, rfl⟩
      rw [← eM11] at w
      have h := h M11 eM11
      refine r_iinc (k := 2) (x := x2) (v := (x2 + 1)) (lv' := [(2, iv (x2 + 1)), (0, rv (some h0)), (1, rv x1), (3, iv x3), (4, iv x4)]) hx hb dX1_setMiddles_73 hl rfl rfl (by decide) rfl (fun ls hl => ?_)
      refine lv_goto (tgt := 2) hx hb dX1_setMiddles_76 (by decide) ?_
      exact hK2 _ _ _ _ _ _ _ h w (lh_sub hl [1, 2, 0] rfl)
    · have h := h.2 c5
      refine r_aload_n (x := (some h0)) hx hb dX1_setMiddles_33 rfl (lh_at hl 0 rfl) ?_
      refine r_aload_n (x := x1) hx hb dX1_setMiddles_34 rfl (lh_at hl 1 rfl) ?_
      refine r_getR E w ea1 ho2 cl_X3 0 rfl fl_X1_78 dX1_setMiddles_35 ?_
      refine r_aload_n (x := x1) hx hb dX1_setMiddles_38 rfl (lh_at hl 1 rfl) ?_
      refine r_getR E w ea1 ho2 cl_X3 7 rfl fl_X1_81 dX1_setMiddles_39 ?_
      refine lv_iload (x := x4) hx hb dX1_setMiddles_42 (lh_at hl 4 rfl) ?_
      obtain ⟨a12, ea12, h⟩ := h
      obtain ⟨ha13, h⟩ := h
      refine r_iald E w ea12 ha13 dX1_setMiddles_44 ?_
      obtain ⟨a14, ea14, h⟩ := h
      obtain ⟨ha15, h⟩ := h
      refine r_iald E w ea14 ha15 dX1_setMiddles_45 ?_
      refine lv_iload_n (x := x3) hx hb dX1_setMiddles_46 rfl (lh_at hl 3 rfl) ?_
      obtain ⟨ho16, h⟩ := h
      refine z_callVv E w rfl ho16 cl_X1 yk_X1_insert ⟨Nat.le_of_ble_eq_true rfl, Nat.le_of_ble_eq_true rfl⟩ ⟨(Nat.zero_le _), (Nat.zero_le _)⟩ rfl ml_X1_68 im_X1_insert sl_X1_insert [iv (gI M a14 (Int32.toNatClampNeg (gI M a12 (Int32.toNatClampNeg x4)))), iv x3] rfl rfl hl [] rfl (Nat.le_of_ble_eq_true rfl) (K_X1_insert h) dX1_setMiddles_47 (fun  M17 H locs h w => ?_)
      refine r_iinc (k := 3) (x := x3) (v := (x3 + 1)) (lv' := [(3, iv (x3 + 1)), (0, rv (some h0)), (1, rv x1), (2, iv x2), (4, iv x4)]) hx hb dX1_setMiddles_50 hl rfl rfl (by decide) rfl (fun ls hl => ?_)
      refine r_iinc (k := 4) (x := x4) (v := (x4 + 1)) (lv' := [(4, iv (x4 + 1)), (3, iv (x3 + 1)), (0, rv (some h0)), (1, rv x1), (2, iv x2)]) hx hb dX1_setMiddles_53 hl rfl rfl (by decide) rfl (fun ls hl => ?_)
      refine lv_goto (tgt := 20) hx hb dX1_setMiddles_56 (by decide) ?_
      exact ih _ _ _ _ _ _ _ _ _ h w (lh_sub hl [2, 3, 4, 1, 0] rfl)
def B_X1_setMiddles_2 (Q : Mm → Prop)  : Nat → Nat → Option Nat → Int32 → Mm → Prop
  | 0, _, _, _, _ => False
  | n + 1, h0, x1, x2, M => (∃ a1, x1 = some a1 ∧ (ok M a1 3 ∧ (((gI M a1 9) ≤ x2 → Q M) ∧ (¬ (gI M a1 9) ≤ x2 → (∃ a4, (gR M a1 10) = some a4 ∧ (ar M a4 7 x2 ∧ (∃ n6, B_X1_setMiddles_20 Q (fun y0 y1 y2 My => B_X1_setMiddles_2 Q n y0 y1 y2 My) n6 h0 x1 x2 (0 : Int32) (gI M a4 (Int32.toNatClampNeg x2)) M)))))))
set_option maxHeartbeats 4000000 in
set_option maxRecDepth 100000 in
theorem k_X1_setMiddles_2 {p : Program} {l : Launch} {e : Env} {s : State} {m : MethodId} {args : Array Value} {below : List Frame} {meth : Method} {c : Code} {D : va_G} {cy : Nat → ClassId} {A : Nat → Prop} {Q : Mm → Prop} (E : Ex p m c cX1_setMiddles 5 s args RX1 D cy A) (hr : meth.sig.returnType = none) (hlk : meth.locks = false) : ∀ (n : Nat), ∀ (h0 : Nat) (x1 : Option Nat) (x2 : Int32) (M : Mm) (H : Heap) (locs : List Loc) (ls : Array Slot), B_X1_setMiddles_2 Q  n h0 x1 x2 M → Wd D cy A s M H locs → lh ls 5 [(0, rv (some h0)), (1, rv x1), (2, iv x2)] → W p l e (rmm 1 0 0) s m args below meth c H locs 0 0 (MQ below (va_Qv Q (Po D cy A) A) args s 0 0 A) (F0 m 2 ls []) := by
  obtain ⟨hx, hb, hml, hown, hts⟩ := E.1
  intro n
  induction n with
  | zero => intro h0 x1 x2 M H locs ls h; exact False.elim h
  | succ n ih =>
    intro h0 x1 x2 M H locs ls h w hl
    unfold B_X1_setMiddles_2 at h
    refine lv_iload_n (x := x2) hx hb dX1_setMiddles_2 rfl (lh_at hl 2 rfl) ?_
    refine r_aload_n (x := x1) hx hb dX1_setMiddles_3 rfl (lh_at hl 1 rfl) ?_
    obtain ⟨a1, ea1, h⟩ := h
    obtain ⟨ho2, h⟩ := h
    refine r_getI E w ea1 ho2 cl_X3 9 rfl fl_X1_72 dX1_setMiddles_4 ?_
    refine lv_icmp_ge (tgt := 79) hx hb dX1_setMiddles_7 (by decide) (fun c3 => ?_) (fun c3 => ?_)
    · have h := h.1 c3
      exact r_vret E w hr hlk h (Nat.le_refl 0) (Nat.le_refl 0) dX1_setMiddles_79
    · have h := h.2 c3
      refine lv_iconst (v := (0 : Int32)) hx hb dX1_setMiddles_10 (by decide) ?_
      refine r_istore_n (lv' := [(3, iv (0 : Int32)), (0, rv (some h0)), (1, rv x1), (2, iv x2)]) hx hb dX1_setMiddles_11 rfl hl (by decide) rfl (fun ls hl => ?_)
      refine r_aload_n (x := x1) hx hb dX1_setMiddles_12 rfl (lh_at hl 2 rfl) ?_
      refine r_getR E w ea1 ho2 cl_X3 10 rfl fl_X1_75 dX1_setMiddles_13 ?_
      refine lv_iload_n (x := x2) hx hb dX1_setMiddles_16 rfl (lh_at hl 3 rfl) ?_
      obtain ⟨a4, ea4, h⟩ := h
      obtain ⟨ha5, h⟩ := h
      refine r_iald E w ea4 ha5 dX1_setMiddles_17 ?_
      refine r_istore (lv' := [(4, iv (gI M a4 (Int32.toNatClampNeg x2))), (3, iv (0 : Int32)), (0, rv (some h0)), (1, rv x1), (2, iv x2)]) hx hb dX1_setMiddles_18 hl (by decide) rfl (fun ls hl => ?_)
      obtain ⟨n6, h⟩ := h
      exact k_X1_setMiddles_20 E hr hlk ih n6 _ _ _ _ _ _ _ _ _ h w (lh_sub hl [2, 3, 4, 1, 0] rfl)
def B_X1_setMiddles_0 (Q : Mm → Prop)  (h0 : Nat) (x1 : Option Nat) (M : Mm) : Prop := (∃ n1, B_X1_setMiddles_2 Q  n1 h0 x1 (0 : Int32) M)
set_option maxHeartbeats 4000000 in
set_option maxRecDepth 100000 in
theorem k_X1_setMiddles_0 {p : Program} {l : Launch} {e : Env} {s : State} {m : MethodId} {args : Array Value} {below : List Frame} {meth : Method} {c : Code} {D : va_G} {cy : Nat → ClassId} {A : Nat → Prop} {Q : Mm → Prop} (E : Ex p m c cX1_setMiddles 5 s args RX1 D cy A) (hr : meth.sig.returnType = none) (hlk : meth.locks = false) : ∀ (h0 : Nat) (x1 : Option Nat) (M : Mm) (H : Heap) (locs : List Loc) (ls : Array Slot), B_X1_setMiddles_0 Q  h0 x1 M → Wd D cy A s M H locs → lh ls 5 [(0, rv (some h0)), (1, rv x1)] → W p l e (rmm 1 0 0) s m args below meth c H locs 0 0 (MQ below (va_Qv Q (Po D cy A) A) args s 0 0 A) (F0 m 0 ls []) := by
  obtain ⟨hx, hb, hml, hown, hts⟩ := E.1
  intro h0 x1 M H locs ls h w hl
  unfold B_X1_setMiddles_0 at h
  refine lv_iconst (v := (0 : Int32)) hx hb dX1_setMiddles_0 (by decide) ?_
  refine r_istore_n (lv' := [(2, iv (0 : Int32)), (0, rv (some h0)), (1, rv x1)]) hx hb dX1_setMiddles_1 rfl hl (by decide) rfl (fun ls hl => ?_)
  obtain ⟨n1, h⟩ := h
  exact k_X1_setMiddles_2 E hr hlk  n1 _ _ _ _ _ _ _ h w (lh_sub hl [1, 2, 0] rfl)
theorem K_X1_setMiddles {l : Launch} {Q : Mm → Prop} {h0 : Nat} {x1 : Option Nat} {M : Mm} (h : B_X1_setMiddles_0 Q h0 x1 M) : KV l yX1_setMiddles cdX1_setMiddles (rmm 1 0 0) [rv (some h0), rv x1] M Q :=
  KV_of (by decide) rfl (Nat.le_of_ble_eq_true rfl) (fun p e s m args below meth c D cy A ls E hr hlk hn w hl => k_X1_setMiddles_0 E hr hlk _ _ _ _ _ _ h w hl)
def B_X1_divide_50 (Q : Mm → Prop)  (h0 : Nat) (x1 : Option Nat) (x2 : Int32) (x3 : Int32) (s0 : Option Nat) (s1 : Int32) (M : Mm) : Prop := (∃ a1, s0 = some a1 ∧ (ok M a1 3 ∧ (∀ M3, M3 = pI M a1 13 s1 → (ok M3 h0 1 ∧ (B_X1_setSpans_0 (fun  M5 => (ok M5 h0 1 ∧ (B_X1_setMiddles_0 (fun  M7 => (∃ a8, x1 = some a8 ∧ (ok M7 a8 3 ∧ (B_X3_pairSteps_0 (fun  M10 => (ok M10 a8 3 ∧ (∀ M12, M12 = pI M10 a8 3 (0 : Int32) → (∀ M13, M13 = pI M12 a8 4 x2 → (∀ M14, M14 = pI M13 a8 5 x3 → Q M14))))) a8  M7)))) h0 x1 M5))) h0 x1 M3)))))
set_option maxHeartbeats 4000000 in
set_option maxRecDepth 100000 in
theorem k_X1_divide_50 {p : Program} {l : Launch} {e : Env} {s : State} {m : MethodId} {args : Array Value} {below : List Frame} {meth : Method} {c : Code} {D : va_G} {cy : Nat → ClassId} {A : Nat → Prop} {Q : Mm → Prop} (E : Ex p m c cX1_divide 5 s args RX1 D cy A) (hr : meth.sig.returnType = none) (hlk : meth.locks = false) : ∀ (h0 : Nat) (x1 : Option Nat) (x2 : Int32) (x3 : Int32) (s0 : Option Nat) (s1 : Int32) (M : Mm) (H : Heap) (locs : List Loc) (ls : Array Slot), B_X1_divide_50 Q  h0 x1 x2 x3 s0 s1 M → Wd D cy A s M H locs → lh ls 5 [(0, rv (some h0)), (1, rv x1), (2, iv x2), (3, iv x3)] → W p l e (rmm 3 0 0) s m args below meth c H locs 0 0 (MQ below (va_Qv Q (Po D cy A) A) args s 0 0 A) (F0 m 50 ls [.int s1, va_rf s0]) := by
  obtain ⟨hx, hb, hml, hown, hts⟩ := E.1
  intro h0 x1 x2 x3 s0 s1 M H locs ls h w hl
  unfold B_X1_divide_50 at h
  obtain ⟨a1, ea1, h⟩ := h
  obtain ⟨ho2, h⟩ := h
  refine r_putI (v := s1) E w ea1 ho2 cl_X3 13 rfl fl_X1_38 (Or.inl rfl) (Or.inl rfl) dX1_divide_50 (fun H locs w => ?_)
  obtain ⟨M3, eM3⟩ : ∃ z, z = pI M a1 13 s1 := ⟨_, rfl⟩
  rw [← eM3] at w
  have h := h M3 eM3
  refine r_aload_n (x := (some h0)) hx hb dX1_divide_53 rfl (lh_at hl 0 rfl) ?_
  refine r_aload_n (x := x1) hx hb dX1_divide_54 rfl (lh_at hl 1 rfl) ?_
  obtain ⟨ho4, h⟩ := h
  refine z_callVv E w rfl ho4 cl_X1 yk_X1_setSpans ⟨Nat.le_of_ble_eq_true rfl, Nat.le_of_ble_eq_true rfl⟩ ⟨(Nat.zero_le _), (Nat.zero_le _)⟩ rfl ml_X1_41 im_X1_setSpans sl_X1_setSpans [rv x1] rfl rfl hl [] rfl (Nat.le_of_ble_eq_true rfl) (K_X1_setSpans h) dX1_divide_55 (fun  M5 H locs h w => ?_)
  refine r_aload_n (x := (some h0)) hx hb dX1_divide_58 rfl (lh_at hl 0 rfl) ?_
  refine r_aload_n (x := x1) hx hb dX1_divide_59 rfl (lh_at hl 1 rfl) ?_
  obtain ⟨ho6, h⟩ := h
  refine z_callVv E w rfl ho6 cl_X1 yk_X1_setMiddles ⟨Nat.le_of_ble_eq_true rfl, Nat.le_of_ble_eq_true rfl⟩ ⟨(Nat.zero_le _), (Nat.zero_le _)⟩ rfl ml_X1_45 im_X1_setMiddles sl_X1_setMiddles [rv x1] rfl rfl hl [] rfl (Nat.le_of_ble_eq_true rfl) (K_X1_setMiddles h) dX1_divide_60 (fun  M7 H locs h w => ?_)
  refine r_aload_n (x := x1) hx hb dX1_divide_63 rfl (lh_at hl 1 rfl) ?_
  obtain ⟨a8, ea8, h⟩ := h
  obtain ⟨ho9, h⟩ := h
  refine z_callVv E w ea8 ho9 cl_X3 yk_X3_pairSteps ⟨Nat.le_of_ble_eq_true rfl, Nat.le_of_ble_eq_true rfl⟩ ⟨(Nat.zero_le _), (Nat.zero_le _)⟩ rfl ml_X1_48 im_X3_pairSteps sl_X3_pairSteps [] rfl rfl hl [] rfl (Nat.le_of_ble_eq_true rfl) (K_X3_pairSteps h) dX1_divide_64 (fun  M10 H locs h w => ?_)
  refine r_aload_n (x := x1) hx hb dX1_divide_67 rfl (lh_at hl 1 rfl) ?_
  refine lv_iconst (v := (0 : Int32)) hx hb dX1_divide_68 (by decide) ?_
  obtain ⟨ho11, h⟩ := h
  refine r_putI (v := (0 : Int32)) E w ea8 ho11 cl_X3 3 rfl fl_X1_51 (Or.inl rfl) (Or.inr ⟨rfl, Or.inl rfl⟩) dX1_divide_69 (fun H locs w => ?_)
  obtain ⟨M12, eM12⟩ : ∃ z, z = pI M10 a8 3 (0 : Int32) := ⟨_, rfl⟩
  rw [← eM12] at w
  have h := h M12 eM12
  refine r_aload_n (x := x1) hx hb dX1_divide_72 rfl (lh_at hl 1 rfl) ?_
  refine lv_iload_n (x := x2) hx hb dX1_divide_73 rfl (lh_at hl 2 rfl) ?_
  have ho11 : ok M12 a8 3 := by rw [eM12]; exact ho11
  refine r_putI (v := x2) E w ea8 ho11 cl_X3 4 rfl fl_X1_55 (Or.inl rfl) (Or.inl rfl) dX1_divide_74 (fun H locs w => ?_)
  obtain ⟨M13, eM13⟩ : ∃ z, z = pI M12 a8 4 x2 := ⟨_, rfl⟩
  rw [← eM13] at w
  have h := h M13 eM13
  refine r_aload_n (x := x1) hx hb dX1_divide_77 rfl (lh_at hl 1 rfl) ?_
  refine lv_iload_n (x := x3) hx hb dX1_divide_78 rfl (lh_at hl 3 rfl) ?_
  have ho11 : ok M13 a8 3 := by rw [eM13]; exact ho11
  refine r_putI (v := x3) E w ea8 ho11 cl_X3 5 rfl fl_X1_58 (Or.inl rfl) (Or.inl rfl) dX1_divide_79 (fun H locs w => ?_)
  obtain ⟨M14, eM14⟩ : ∃ z, z = pI M13 a8 5 x3 := ⟨_, rfl⟩
  rw [← eM14] at w
  have h := h M14 eM14
  exact r_vret E w hr hlk h (Nat.le_refl 0) (Nat.le_refl 0) dX1_divide_82
def B_X1_divide_13 (Q : Mm → Prop)  : Nat → Nat → Option Nat → Int32 → Int32 → Int32 → Mm → Prop
  | 0, _, _, _, _, _, _ => False
  | n + 1, h0, x1, x2, x3, x4, M => ((x4 < 0 → (∃ a2, x1 = some a2 ∧ (ok M a2 3 ∧ (((gI M a2 6) ≤ 0 → B_X1_divide_50 Q  h0 x1 x2 x3 x1 (0 : Int32) M) ∧ (¬ (gI M a2 6) ≤ 0 → (ok M h0 1 ∧ (∃ a6, (gR M h0 1) = some a6 ∧ (ar M a6 7 (0 : Int32) ∧ B_X1_divide_50 Q  h0 x1 x2 x3 x1 (gI M a6 (Int32.toNatClampNeg (0 : Int32))) M)))))))) ∧ (¬ x4 < 0 → (ok M h0 1 ∧ (B_X1_solveFrom_0 (fun  M9 => B_X1_divide_13 Q  n h0 x1 x2 x3 (x4 + (-1)) M9) h0 x1 x4 x3 M))))
set_option maxHeartbeats 4000000 in
set_option maxRecDepth 100000 in
theorem k_X1_divide_13 {p : Program} {l : Launch} {e : Env} {s : State} {m : MethodId} {args : Array Value} {below : List Frame} {meth : Method} {c : Code} {D : va_G} {cy : Nat → ClassId} {A : Nat → Prop} {Q : Mm → Prop} (E : Ex p m c cX1_divide 5 s args RX1 D cy A) (hr : meth.sig.returnType = none) (hlk : meth.locks = false) : ∀ (n : Nat), ∀ (h0 : Nat) (x1 : Option Nat) (x2 : Int32) (x3 : Int32) (x4 : Int32) (M : Mm) (H : Heap) (locs : List Loc) (ls : Array Slot), B_X1_divide_13 Q  n h0 x1 x2 x3 x4 M → Wd D cy A s M H locs → lh ls 5 [(0, rv (some h0)), (1, rv x1), (2, iv x2), (3, iv x3), (4, iv x4)] → W p l e (rmm 3 0 0) s m args below meth c H locs 0 0 (MQ below (va_Qv Q (Po D cy A) A) args s 0 0 A) (F0 m 13 ls []) := by
  obtain ⟨hx, hb, hml, hown, hts⟩ := E.1
  intro n
  induction n with
  | zero => intro h0 x1 x2 x3 x4 M H locs ls h; exact False.elim h
  | succ n ih =>
    intro h0 x1 x2 x3 x4 M H locs ls h w hl
    unfold B_X1_divide_13 at h
    refine lv_iload (x := x4) hx hb dX1_divide_13 (lh_at hl 4 rfl) ?_
    refine lv_if_lt (tgt := 32) hx hb dX1_divide_15 (by decide) (fun c1 => ?_) (fun c1 => ?_)
    · have h := h.1 c1
      refine r_aload_n (x := x1) hx hb dX1_divide_32 rfl (lh_at hl 1 rfl) ?_
      refine r_aload_n (x := x1) hx hb dX1_divide_33 rfl (lh_at hl 1 rfl) ?_
      obtain ⟨a2, ea2, h⟩ := h
      obtain ⟨ho3, h⟩ := h
      refine r_getI E w ea2 ho3 cl_X3 6 rfl fl_X1_30 dX1_divide_34 ?_
      refine lv_if_le (tgt := 49) hx hb dX1_divide_37 (by decide) (fun c4 => ?_) (fun c4 => ?_)
      · have h := h.1 c4
        refine lv_iconst (v := (0 : Int32)) hx hb dX1_divide_49 (by decide) ?_
        exact k_X1_divide_50 E hr hlk  _ _ _ _ _ _ _ _ _ _ h w (lh_sub hl [0, 1, 2, 3] rfl)
      · have h := h.2 c4
        refine r_aload_n (x := (some h0)) hx hb dX1_divide_40 rfl (lh_at hl 0 rfl) ?_
        obtain ⟨ho5, h⟩ := h
        refine r_getR E w rfl ho5 cl_X1 1 rfl fl_X1_15 dX1_divide_41 ?_
        refine lv_iconst (v := (0 : Int32)) hx hb dX1_divide_44 (by decide) ?_
        obtain ⟨a6, ea6, h⟩ := h
        obtain ⟨ha7, h⟩ := h
        refine r_iald E w ea6 ha7 dX1_divide_45 ?_
        refine lv_goto (tgt := 50) hx hb dX1_divide_46 (by decide) ?_
        exact k_X1_divide_50 E hr hlk  _ _ _ _ _ _ _ _ _ _ h w (lh_sub hl [0, 1, 2, 3] rfl)
    · have h := h.2 c1
      refine r_aload_n (x := (some h0)) hx hb dX1_divide_18 rfl (lh_at hl 0 rfl) ?_
      refine r_aload_n (x := x1) hx hb dX1_divide_19 rfl (lh_at hl 1 rfl) ?_
      refine lv_iload (x := x4) hx hb dX1_divide_20 (lh_at hl 4 rfl) ?_
      refine lv_iload_n (x := x3) hx hb dX1_divide_22 rfl (lh_at hl 3 rfl) ?_
      obtain ⟨ho8, h⟩ := h
      refine z_callVv E w rfl ho8 cl_X1 yk_X1_solveFrom ⟨Nat.le_of_ble_eq_true rfl, Nat.le_of_ble_eq_true rfl⟩ ⟨(Nat.zero_le _), (Nat.zero_le _)⟩ rfl ml_X1_34 im_X1_solveFrom sl_X1_solveFrom [rv x1, iv x4, iv x3] rfl rfl hl [] rfl (Nat.le_of_ble_eq_true rfl) (K_X1_solveFrom h) dX1_divide_23 (fun  M9 H locs h w => ?_)
      refine r_iinc (k := 4) (x := x4) (v := (x4 + (-1))) (lv' := [(4, iv (x4 + (-1))), (0, rv (some h0)), (1, rv x1), (2, iv x2), (3, iv x3)]) hx hb dX1_divide_26 hl rfl rfl (by decide) rfl (fun ls hl => ?_)
      refine lv_goto (tgt := 13) hx hb dX1_divide_29 (by decide) ?_
      exact ih _ _ _ _ _ _ _ _ _ h w (lh_sub hl [1, 2, 3, 4, 0] rfl)
def B_X1_divide_0 (Q : Mm → Prop)  (h0 : Nat) (x1 : Option Nat) (x2 : Int32) (x3 : Int32) (M : Mm) : Prop := (∃ a1, x1 = some a1 ∧ (ok M a1 3 ∧ (B_X3_gatherMeasured_0 (fun  M3 => (ok M3 a1 3 ∧ (∃ n5, B_X1_divide_13 Q  n5 h0 x1 x2 x3 ((gI M3 a1 6) - (1 : Int32)) M3))) a1 x2 M)))
set_option maxHeartbeats 4000000 in
set_option maxRecDepth 100000 in
theorem k_X1_divide_0 {p : Program} {l : Launch} {e : Env} {s : State} {m : MethodId} {args : Array Value} {below : List Frame} {meth : Method} {c : Code} {D : va_G} {cy : Nat → ClassId} {A : Nat → Prop} {Q : Mm → Prop} (E : Ex p m c cX1_divide 5 s args RX1 D cy A) (hr : meth.sig.returnType = none) (hlk : meth.locks = false) : ∀ (h0 : Nat) (x1 : Option Nat) (x2 : Int32) (x3 : Int32) (M : Mm) (H : Heap) (locs : List Loc) (ls : Array Slot), B_X1_divide_0 Q  h0 x1 x2 x3 M → Wd D cy A s M H locs → lh ls 5 [(0, rv (some h0)), (1, rv x1), (2, iv x2), (3, iv x3)] → W p l e (rmm 3 0 0) s m args below meth c H locs 0 0 (MQ below (va_Qv Q (Po D cy A) A) args s 0 0 A) (F0 m 0 ls []) := by
  obtain ⟨hx, hb, hml, hown, hts⟩ := E.1
  intro h0 x1 x2 x3 M H locs ls h w hl
  unfold B_X1_divide_0 at h
  refine r_aload_n (x := x1) hx hb dX1_divide_0 rfl (lh_at hl 1 rfl) ?_
  refine lv_iload_n (x := x2) hx hb dX1_divide_1 rfl (lh_at hl 2 rfl) ?_
  obtain ⟨a1, ea1, h⟩ := h
  obtain ⟨ho2, h⟩ := h
  refine z_callVv E w ea1 ho2 cl_X3 yk_X3_gatherMeasured ⟨Nat.le_of_ble_eq_true rfl, Nat.le_of_ble_eq_true rfl⟩ ⟨(Nat.zero_le _), (Nat.zero_le _)⟩ rfl ml_X1_24 im_X3_gatherMeasured sl_X3_gatherMeasured [iv x2] rfl rfl hl [] rfl (Nat.le_of_ble_eq_true rfl) (K_X3_gatherMeasured h) dX1_divide_2 (fun  M3 H locs h w => ?_)
  refine r_aload_n (x := x1) hx hb dX1_divide_5 rfl (lh_at hl 1 rfl) ?_
  obtain ⟨ho4, h⟩ := h
  refine r_getI E w ea1 ho4 cl_X3 6 rfl fl_X1_30 dX1_divide_6 ?_
  refine lv_iconst (v := (1 : Int32)) hx hb dX1_divide_9 (by decide) ?_
  refine lv_isub hx hb dX1_divide_10 ?_
  refine r_istore (lv' := [(4, iv ((gI M3 a1 6) - (1 : Int32))), (0, rv (some h0)), (1, rv x1), (2, iv x2), (3, iv x3)]) hx hb dX1_divide_11 hl (by decide) rfl (fun ls hl => ?_)
  obtain ⟨n5, h⟩ := h
  exact k_X1_divide_13 E hr hlk  n5 _ _ _ _ _ _ _ _ _ h w (lh_sub hl [1, 2, 3, 4, 0] rfl)
theorem K_X1_divide {l : Launch} {Q : Mm → Prop} {h0 : Nat} {x1 : Option Nat} {x2 : Int32} {x3 : Int32} {M : Mm} (h : B_X1_divide_0 Q h0 x1 x2 x3 M) : KV l yX1_divide cdX1_divide (rmm 3 0 0) [rv (some h0), rv x1, iv x2, iv x3] M Q :=
  KV_of (by decide) rfl (Nat.le_of_ble_eq_true rfl) (fun p e s m args below meth c D cy A ls E hr hlk hn w hl => k_X1_divide_0 E hr hlk _ _ _ _ _ _ _ _ h w hl)
