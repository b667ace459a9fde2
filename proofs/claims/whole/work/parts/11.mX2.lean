def B_X2_init_0 (Q : Mm → Prop)  (h0 : Nat) (M : Mm) : Prop := Q M
set_option maxHeartbeats 4000000 in
set_option maxRecDepth 100000 in
theorem k_X2_init_0 {p : Program} {l : Launch} {e : Env} {s : State} {m : MethodId} {args : Array Value} {below : List Frame} {meth : Method} {c : Code} {D : va_G} {cy : Nat → ClassId} {A : Nat → Prop} {Q : Mm → Prop} (E : Ex p m c cX2_init 1 s args RX2 D cy A) (hr : meth.sig.returnType = none) (hlk : meth.locks = false) (hin : meth.name = "<init>") : ∀ (h0 : Nat) (M : Mm) (H : Heap) (locs : List Loc) (ls : Array Slot), B_X2_init_0 Q  h0 M → Wd D cy A s M H locs → lh ls 1 [(0, rv (some h0))] → W p l e (rmm 1 0 0) s m args below meth c H locs 0 0 (MQ below (va_Qv Q (Po D cy A) A) args s 0 0 A) (F0 m 0 ls []) := by
  obtain ⟨hx, hb, hml, hown, hts⟩ := E.1
  intro h0 M H locs ls h w hl
  unfold B_X2_init_0 at h
  refine r_aload_n (x := (some h0)) hx hb dX2_init_0 rfl (lh_at hl 0 rfl) ?_
  refine W.objInit hx hb hown (hts _ ml_X2_1) (hts _ im_object) (hts _ cd_object) rfl (by rw [hml]; exact hl.1) rfl dX2_init_1 (Nat.le_of_ble_eq_true rfl) (Nat.le_of_ble_eq_true rfl) ?_
  refine W.eq (g2 := F0 m 4 ls []) rfl ?_
  exact r_vret E w hr hlk h (Nat.le_refl 0) (Nat.le_refl 0) dX2_init_4
theorem K_X2_init {l : Launch} {Q : Mm → Prop} {h0 : Nat} {M : Mm} (h : B_X2_init_0 Q h0 M) : KV l yX2_init cdX2_init (rmm 1 0 0) [rv (some h0)] M Q :=
  KV_of (by decide) rfl (Nat.le_of_ble_eq_true rfl) (fun p e s m args below meth c D cy A ls E hr hlk hn w hl => k_X2_init_0 E hr hlk hn _ _ _ _ _ h w hl)
def B_X2_begin_0 (Q : Mm → Prop)  (h0 : Nat) (x1 : Int32) (x2 : Int32) (x3 : Int32) (M : Mm) : Prop := (ok M h0 2 ∧ (∀ M2, M2 = pI M h0 0 (1 : Int32) → (∀ M3, M3 = pI M2 h0 1 x1 → (∀ M4, M4 = pI M3 h0 2 x2 → (∀ M5, M5 = pI M4 h0 3 x3 → (∀ M6, M6 = pI M5 h0 4 (0 : Int32) → (∀ M7, M7 = pI M6 h0 5 (0 : Int32) → (∀ M8, M8 = pI M7 h0 6 (0 : Int32) → Q M8))))))))
set_option maxHeartbeats 4000000 in
set_option maxRecDepth 100000 in
theorem k_X2_begin_0 {p : Program} {l : Launch} {e : Env} {s : State} {m : MethodId} {args : Array Value} {below : List Frame} {meth : Method} {c : Code} {D : va_G} {cy : Nat → ClassId} {A : Nat → Prop} {Q : Mm → Prop} (E : Ex p m c cX2_begin 4 s args RX2 D cy A) (hr : meth.sig.returnType = none) (hlk : meth.locks = false) : ∀ (h0 : Nat) (x1 : Int32) (x2 : Int32) (x3 : Int32) (M : Mm) (H : Heap) (locs : List Loc) (ls : Array Slot), B_X2_begin_0 Q  h0 x1 x2 x3 M → Wd D cy A s M H locs → lh ls 4 [(0, rv (some h0)), (1, iv x1), (2, iv x2), (3, iv x3)] → W p l e (rmm 0 0 0) s m args below meth c H locs 0 0 (MQ below (va_Qv Q (Po D cy A) A) args s 0 0 A) (F0 m 0 ls []) := by
  obtain ⟨hx, hb, hml, hown, hts⟩ := E.1
  intro h0 x1 x2 x3 M H locs ls h w hl
  unfold B_X2_begin_0 at h
  refine r_aload_n (x := (some h0)) hx hb dX2_begin_0 rfl (lh_at hl 0 rfl) ?_
  refine lv_iconst (v := (1 : Int32)) hx hb dX2_begin_1 (by decide) ?_
  obtain ⟨ho1, h⟩ := h
  refine r_putI (v := (1 : Int32)) E w rfl ho1 cl_X2 0 rfl fl_X2_7 (Or.inl rfl) (Or.inr ⟨rfl, Or.inr rfl⟩) dX2_begin_2 (fun H locs w => ?_)
  obtain ⟨M2, eM2⟩ : ∃ z, z = pI M h0 0 (1 : Int32) := ⟨_, rfl⟩
  rw [← eM2] at w
  have h := h M2 eM2
  refine r_aload_n (x := (some h0)) hx hb dX2_begin_5 rfl (lh_at hl 0 rfl) ?_
  refine lv_iload_n (x := x1) hx hb dX2_begin_6 rfl (lh_at hl 1 rfl) ?_
  have ho1 : ok M2 h0 2 := by rw [eM2]; exact ho1
  refine r_putI (v := x1) E w rfl ho1 cl_X2 1 rfl fl_X2_13 (Or.inl rfl) (Or.inl rfl) dX2_begin_7 (fun H locs w => ?_)
  obtain ⟨M3, eM3⟩ : ∃ z, z = pI M2 h0 1 x1 := ⟨_, rfl⟩
  rw [← eM3] at w
  have h := h M3 eM3
  refine r_aload_n (x := (some h0)) hx hb dX2_begin_10 rfl (lh_at hl 0 rfl) ?_
  refine lv_iload_n (x := x2) hx hb dX2_begin_11 rfl (lh_at hl 2 rfl) ?_
  have ho1 : ok M3 h0 2 := by rw [eM3]; exact ho1
  refine r_putI (v := x2) E w rfl ho1 cl_X2 2 rfl fl_X2_17 (Or.inl rfl) (Or.inl rfl) dX2_begin_12 (fun H locs w => ?_)
  obtain ⟨M4, eM4⟩ : ∃ z, z = pI M3 h0 2 x2 := ⟨_, rfl⟩
  rw [← eM4] at w
  have h := h M4 eM4
  refine r_aload_n (x := (some h0)) hx hb dX2_begin_15 rfl (lh_at hl 0 rfl) ?_
  refine lv_iload_n (x := x3) hx hb dX2_begin_16 rfl (lh_at hl 3 rfl) ?_
  have ho1 : ok M4 h0 2 := by rw [eM4]; exact ho1
  refine r_putI (v := x3) E w rfl ho1 cl_X2 3 rfl fl_X2_20 (Or.inl rfl) (Or.inl rfl) dX2_begin_17 (fun H locs w => ?_)
  obtain ⟨M5, eM5⟩ : ∃ z, z = pI M4 h0 3 x3 := ⟨_, rfl⟩
  rw [← eM5] at w
  have h := h M5 eM5
  refine r_aload_n (x := (some h0)) hx hb dX2_begin_20 rfl (lh_at hl 0 rfl) ?_
  refine lv_iconst (v := (0 : Int32)) hx hb dX2_begin_21 (by decide) ?_
  have ho1 : ok M5 h0 2 := by rw [eM5]; exact ho1
  refine r_putI (v := (0 : Int32)) E w rfl ho1 cl_X2 4 rfl fl_X2_23 (Or.inl rfl) (Or.inl rfl) dX2_begin_22 (fun H locs w => ?_)
  obtain ⟨M6, eM6⟩ : ∃ z, z = pI M5 h0 4 (0 : Int32) := ⟨_, rfl⟩
  rw [← eM6] at w
  have h := h M6 eM6
  refine r_aload_n (x := (some h0)) hx hb dX2_begin_25 rfl (lh_at hl 0 rfl) ?_
  refine lv_iconst (v := (0 : Int32)) hx hb dX2_begin_26 (by decide) ?_
  have ho1 : ok M6 h0 2 := by rw [eM6]; exact ho1
  refine r_putI (v := (0 : Int32)) E w rfl ho1 cl_X2 5 rfl fl_X2_26 (Or.inl rfl) (Or.inl rfl) dX2_begin_27 (fun H locs w => ?_)
  obtain ⟨M7, eM7⟩ : ∃ z, z = pI M6 h0 5 (0 : Int32) := ⟨_, rfl⟩
  rw [← eM7] at w
  have h := h M7 eM7
  refine r_aload_n (x := (some h0)) hx hb dX2_begin_30 rfl (lh_at hl 0 rfl) ?_
  refine lv_iconst (v := (0 : Int32)) hx hb dX2_begin_31 (by decide) ?_
  have ho1 : ok M7 h0 2 := by rw [eM7]; exact ho1
  refine r_putI (v := (0 : Int32)) E w rfl ho1 cl_X2 6 rfl fl_X2_29 (Or.inl rfl) (Or.inl rfl) dX2_begin_32 (fun H locs w => ?_)
  obtain ⟨M8, eM8⟩ : ∃ z, z = pI M7 h0 6 (0 : Int32) := ⟨_, rfl⟩
  rw [← eM8] at w
  have h := h M8 eM8
  exact r_vret E w hr hlk h (Nat.le_refl 0) (Nat.le_refl 0) dX2_begin_35
theorem K_X2_begin {l : Launch} {Q : Mm → Prop} {h0 : Nat} {x1 : Int32} {x2 : Int32} {x3 : Int32} {M : Mm} (h : B_X2_begin_0 Q h0 x1 x2 x3 M) : KV l yX2_begin cdX2_begin (rmm 0 0 0) [rv (some h0), iv x1, iv x2, iv x3] M Q :=
  KV_of (by decide) rfl (Nat.le_of_ble_eq_true rfl) (fun p e s m args below meth c D cy A ls E hr hlk hn w hl => k_X2_begin_0 E hr hlk _ _ _ _ _ _ _ _ h w hl)
def B_X2_hasEnded_0 (Q : Int32 → Mm → Prop)  (h0 : Nat) (M : Mm) : Prop := (ok M h0 2 ∧ (((1 : Int32) < ((gI M h0 2) - (gI M h0 1)) → Q (0 : Int32) M) ∧ (¬ (1 : Int32) < ((gI M h0 2) - (gI M h0 1)) → Q (1 : Int32) M)))
set_option maxHeartbeats 4000000 in
set_option maxRecDepth 100000 in
theorem k_X2_hasEnded_0 {p : Program} {l : Launch} {e : Env} {s : State} {m : MethodId} {args : Array Value} {below : List Frame} {meth : Method} {c : Code} {D : va_G} {cy : Nat → ClassId} {A : Nat → Prop} {Q : Int32 → Mm → Prop} (E : Ex p m c cX2_hasEnded 1 s args RX2 D cy A) (hr : meth.sig.returnType = (some .boolean)) (hlk : meth.locks = false) : ∀ (h0 : Nat) (M : Mm) (H : Heap) (locs : List Loc) (ls : Array Slot), B_X2_hasEnded_0 Q  h0 M → Wd D cy A s M H locs → lh ls 1 [(0, rv (some h0))] → W p l e (rmm 0 0 0) s m args below meth c H locs 0 0 (MQ below (va_Qi Q (Po D cy A) A) args s 0 0 A) (F0 m 0 ls []) := by
  obtain ⟨hx, hb, hml, hown, hts⟩ := E.1
  intro h0 M H locs ls h w hl
  unfold B_X2_hasEnded_0 at h
  refine r_aload_n (x := (some h0)) hx hb dX2_hasEnded_0 rfl (lh_at hl 0 rfl) ?_
  obtain ⟨ho1, h⟩ := h
  refine r_getI E w rfl ho1 cl_X2 2 rfl fl_X2_17 dX2_hasEnded_1 ?_
  refine r_aload_n (x := (some h0)) hx hb dX2_hasEnded_4 rfl (lh_at hl 0 rfl) ?_
  refine r_getI E w rfl ho1 cl_X2 1 rfl fl_X2_13 dX2_hasEnded_5 ?_
  refine lv_isub hx hb dX2_hasEnded_8 ?_
  refine lv_iconst (v := (1 : Int32)) hx hb dX2_hasEnded_9 (by decide) ?_
  refine lv_icmp_gt (tgt := 17) hx hb dX2_hasEnded_10 (by decide) (fun c2 => ?_) (fun c2 => ?_)
  · have h := h.1 c2
    refine lv_iconst (v := (0 : Int32)) hx hb dX2_hasEnded_17 (by decide) ?_
    exact r_zret E w hr hlk ⟨Or.inl rfl, h⟩ (Nat.le_refl 0) (Nat.le_refl 0) dX2_hasEnded_18
  · have h := h.2 c2
    refine lv_iconst (v := (1 : Int32)) hx hb dX2_hasEnded_13 (by decide) ?_
    refine lv_goto (tgt := 18) hx hb dX2_hasEnded_14 (by decide) ?_
    exact r_zret E w hr hlk ⟨Or.inr rfl, h⟩ (Nat.le_refl 0) (Nat.le_refl 0) dX2_hasEnded_18
theorem K_X2_hasEnded {l : Launch} {Q : Int32 → Mm → Prop} {h0 : Nat} {M : Mm} (h : B_X2_hasEnded_0 Q h0 M) : KI l yX2_hasEnded cdX2_hasEnded (rmm 0 0 0) [rv (some h0)] M Q :=
  KI_of (by decide) rfl (Nat.le_of_ble_eq_true rfl) (fun p e s m args below meth c D cy A ls E hr hlk hn w hl => k_X2_hasEnded_0 E hr hlk _ _ _ _ _ h w hl)
def B_X2_middleBuild_0 (Q : Int32 → Mm → Prop)  (h0 : Nat) (M : Mm) : Prop := (ok M h0 2 ∧ Q ((gI M h0 1) + (((gI M h0 2) - (gI M h0 1)) / (2 : Int32))) M)
set_option maxHeartbeats 4000000 in
set_option maxRecDepth 100000 in
theorem k_X2_middleBuild_0 {p : Program} {l : Launch} {e : Env} {s : State} {m : MethodId} {args : Array Value} {below : List Frame} {meth : Method} {c : Code} {D : va_G} {cy : Nat → ClassId} {A : Nat → Prop} {Q : Int32 → Mm → Prop} (E : Ex p m c cX2_middleBuild 1 s args RX2 D cy A) (hr : meth.sig.returnType = (some .int)) (hlk : meth.locks = false) : ∀ (h0 : Nat) (M : Mm) (H : Heap) (locs : List Loc) (ls : Array Slot), B_X2_middleBuild_0 Q  h0 M → Wd D cy A s M H locs → lh ls 1 [(0, rv (some h0))] → W p l e (rmm 0 0 0) s m args below meth c H locs 0 0 (MQ below (va_Qi Q (Po D cy A) A) args s 0 0 A) (F0 m 0 ls []) := by
  obtain ⟨hx, hb, hml, hown, hts⟩ := E.1
  intro h0 M H locs ls h w hl
  unfold B_X2_middleBuild_0 at h
  refine r_aload_n (x := (some h0)) hx hb dX2_middleBuild_0 rfl (lh_at hl 0 rfl) ?_
  obtain ⟨ho1, h⟩ := h
  refine r_getI E w rfl ho1 cl_X2 1 rfl fl_X2_13 dX2_middleBuild_1 ?_
  refine r_aload_n (x := (some h0)) hx hb dX2_middleBuild_4 rfl (lh_at hl 0 rfl) ?_
  refine r_getI E w rfl ho1 cl_X2 2 rfl fl_X2_17 dX2_middleBuild_5 ?_
  refine r_aload_n (x := (some h0)) hx hb dX2_middleBuild_8 rfl (lh_at hl 0 rfl) ?_
  refine r_getI E w rfl ho1 cl_X2 1 rfl fl_X2_13 dX2_middleBuild_9 ?_
  refine lv_isub hx hb dX2_middleBuild_12 ?_
  refine lv_iconst (v := (2 : Int32)) hx hb dX2_middleBuild_13 (by decide) ?_
  refine lv_idiv hx hb dX2_middleBuild_14 (by decide) ?_
  refine lv_iadd hx hb dX2_middleBuild_15 ?_
  exact r_iret E w hr hlk h (Nat.le_refl 0) (Nat.le_refl 0) dX2_middleBuild_16
theorem K_X2_middleBuild {l : Launch} {Q : Int32 → Mm → Prop} {h0 : Nat} {M : Mm} (h : B_X2_middleBuild_0 Q h0 M) : KI l yX2_middleBuild cdX2_middleBuild (rmm 0 0 0) [rv (some h0)] M Q :=
  KI_of (by decide) rfl (Nat.le_of_ble_eq_true rfl) (fun p e s m args below meth c D cy A ls E hr hlk hn w hl => k_X2_middleBuild_0 E hr hlk _ _ _ _ _ h w hl)
def B_X2_mostReruns_12 (Q : Int32 → Mm → Prop)  : Nat → Nat → Int32 → Int32 → Mm → Prop
  | 0, _, _, _, _ => False
  | n + 1, h0, x1, x2, M => ((x2 ≤ (1 : Int32) → Q x1 M) ∧ (¬ x2 ≤ (1 : Int32) → (ok M h0 2 ∧ B_X2_mostReruns_12 Q  n h0 (x1 + (gI M h0 3)) (x2 - (x2 / (2 : Int32))) M)))
set_option maxHeartbeats 4000000 in
set_option maxRecDepth 100000 in
theorem k_X2_mostReruns_12 {p : Program} {l : Launch} {e : Env} {s : State} {m : MethodId} {args : Array Value} {below : List Frame} {meth : Method} {c : Code} {D : va_G} {cy : Nat → ClassId} {A : Nat → Prop} {Q : Int32 → Mm → Prop} (E : Ex p m c cX2_mostReruns 3 s args RX2 D cy A) (hr : meth.sig.returnType = (some .int)) (hlk : meth.locks = false) : ∀ (n : Nat), ∀ (h0 : Nat) (x1 : Int32) (x2 : Int32) (M : Mm) (H : Heap) (locs : List Loc) (ls : Array Slot), B_X2_mostReruns_12 Q  n h0 x1 x2 M → Wd D cy A s M H locs → lh ls 3 [(0, rv (some h0)), (1, iv x1), (2, iv x2)] → W p l e (rmm 0 0 0) s m args below meth c H locs 0 0 (MQ below (va_Qi Q (Po D cy A) A) args s 0 0 A) (F0 m 12 ls []) := by
  obtain ⟨hx, hb, hml, hown, hts⟩ := E.1
  intro n
  induction n with
  | zero => intro h0 x1 x2 M H locs ls h; exact False.elim h
  | succ n ih =>
    intro h0 x1 x2 M H locs ls h w hl
    unfold B_X2_mostReruns_12 at h
    refine lv_iload_n (x := x2) hx hb dX2_mostReruns_12 rfl (lh_at hl 2 rfl) ?_
    refine lv_iconst (v := (1 : Int32)) hx hb dX2_mostReruns_13 (by decide) ?_
    refine lv_icmp_le (tgt := 33) hx hb dX2_mostReruns_14 (by decide) (fun c1 => ?_) (fun c1 => ?_)
    · have h := h.1 c1
      refine lv_iload_n (x := x1) hx hb dX2_mostReruns_33 rfl (lh_at hl 1 rfl) ?_
      exact r_iret E w hr hlk h (Nat.le_refl 0) (Nat.le_refl 0) dX2_mostReruns_34
    · have h := h.2 c1
      refine lv_iload_n (x := x1) hx hb dX2_mostReruns_17 rfl (lh_at hl 1 rfl) ?_
      refine r_aload_n (x := (some h0)) hx hb dX2_mostReruns_18 rfl (lh_at hl 0 rfl) ?_
      obtain ⟨ho2, h⟩ := h
      refine r_getI E w rfl ho2 cl_X2 3 rfl fl_X2_20 dX2_mostReruns_19 ?_
      refine lv_iadd hx hb dX2_mostReruns_22 ?_
      refine r_istore_n (lv' := [(1, iv (x1 + (gI M h0 3))), (0, rv (some h0)), (2, iv x2)]) hx hb dX2_mostReruns_23 rfl hl (by decide) rfl (fun ls hl => ?_)
      refine lv_iload_n (x := x2) hx hb dX2_mostReruns_24 rfl (lh_at hl 2 rfl) ?_
      refine lv_iload_n (x := x2) hx hb dX2_mostReruns_25 rfl (lh_at hl 2 rfl) ?_
      refine lv_iconst (v := (2 : Int32)) hx hb dX2_mostReruns_26 (by decide) ?_
      refine lv_idiv hx hb dX2_mostReruns_27 (by decide) ?_
      refine lv_isub hx hb dX2_mostReruns_28 ?_
      refine r_istore_n (lv' := [(2, iv (x2 - (x2 / (2 : Int32)))), (1, iv (x1 + (gI M h0 3))), (0, rv (some h0))]) hx hb dX2_mostReruns_29 rfl hl (by decide) rfl (fun ls hl => ?_)
      refine lv_goto (tgt := 12) hx hb dX2_mostReruns_30 (by decide) ?_
      exact ih _ _ _ _ _ _ _ h w (lh_sub hl [2, 1, 0] rfl)
def B_X2_mostReruns_0 (Q : Int32 → Mm → Prop)  (h0 : Nat) (M : Mm) : Prop := (ok M h0 2 ∧ (∃ n2, B_X2_mostReruns_12 Q  n2 h0 (0 : Int32) ((gI M h0 2) - (gI M h0 1)) M))
set_option maxHeartbeats 4000000 in
set_option maxRecDepth 100000 in
theorem k_X2_mostReruns_0 {p : Program} {l : Launch} {e : Env} {s : State} {m : MethodId} {args : Array Value} {below : List Frame} {meth : Method} {c : Code} {D : va_G} {cy : Nat → ClassId} {A : Nat → Prop} {Q : Int32 → Mm → Prop} (E : Ex p m c cX2_mostReruns 3 s args RX2 D cy A) (hr : meth.sig.returnType = (some .int)) (hlk : meth.locks = false) : ∀ (h0 : Nat) (M : Mm) (H : Heap) (locs : List Loc) (ls : Array Slot), B_X2_mostReruns_0 Q  h0 M → Wd D cy A s M H locs → lh ls 3 [(0, rv (some h0))] → W p l e (rmm 0 0 0) s m args below meth c H locs 0 0 (MQ below (va_Qi Q (Po D cy A) A) args s 0 0 A) (F0 m 0 ls []) := by
  obtain ⟨hx, hb, hml, hown, hts⟩ := E.1
  intro h0 M H locs ls h w hl
  unfold B_X2_mostReruns_0 at h
  refine lv_iconst (v := (0 : Int32)) hx hb dX2_mostReruns_0 (by decide) ?_
  refine r_istore_n (lv' := [(1, iv (0 : Int32)), (0, rv (some h0))]) hx hb dX2_mostReruns_1 rfl hl (by decide) rfl (fun ls hl => ?_)
  refine r_aload_n (x := (some h0)) hx hb dX2_mostReruns_2 rfl (lh_at hl 1 rfl) ?_
  obtain ⟨ho1, h⟩ := h
  refine r_getI E w rfl ho1 cl_X2 2 rfl fl_X2_17 dX2_mostReruns_3 ?_
  refine r_aload_n (x := (some h0)) hx hb dX2_mostReruns_6 rfl (lh_at hl 1 rfl) ?_
  refine r_getI E w rfl ho1 cl_X2 1 rfl fl_X2_13 dX2_mostReruns_7 ?_
  refine lv_isub hx hb dX2_mostReruns_10 ?_
  refine r_istore_n (lv' := [(2, iv ((gI M h0 2) - (gI M h0 1))), (1, iv (0 : Int32)), (0, rv (some h0))]) hx hb dX2_mostReruns_11 rfl hl (by decide) rfl (fun ls hl => ?_)
  obtain ⟨n2, h⟩ := h
  exact k_X2_mostReruns_12 E hr hlk  n2 _ _ _ _ _ _ _ h w (lh_sub hl [2, 1, 0] rfl)
theorem K_X2_mostReruns {l : Launch} {Q : Int32 → Mm → Prop} {h0 : Nat} {M : Mm} (h : B_X2_mostReruns_0 Q h0 M) : KI l yX2_mostReruns cdX2_mostReruns (rmm 0 0 0) [rv (some h0)] M Q :=
  KI_of (by decide) rfl (Nat.le_of_ble_eq_true rfl) (fun p e s m args below meth c D cy A ls E hr hlk hn w hl => k_X2_mostReruns_0 E hr hlk _ _ _ _ _ h w hl)
def B_X2_decide_34 (Q : Mm → Prop)  (h0 : Nat) (M : Mm) : Prop := (ok M h0 2 ∧ (∀ M2, M2 = pI M h0 5 (0 : Int32) → (∀ M3, M3 = pI M2 h0 6 (0 : Int32) → Q M3)))
set_option maxHeartbeats 4000000 in
set_option maxRecDepth 100000 in
theorem k_X2_decide_34 {p : Program} {l : Launch} {e : Env} {s : State} {m : MethodId} {args : Array Value} {below : List Frame} {meth : Method} {c : Code} {D : va_G} {cy : Nat → ClassId} {A : Nat → Prop} {Q : Mm → Prop} (E : Ex p m c cX2_decide 2 s args RX2 D cy A) (hr : meth.sig.returnType = none) (hlk : meth.locks = false) : ∀ (h0 : Nat) (M : Mm) (H : Heap) (locs : List Loc) (ls : Array Slot), B_X2_decide_34 Q  h0 M → Wd D cy A s M H locs → lh ls 2 [(0, rv (some h0))] → W p l e (rmm 1 0 0) s m args below meth c H locs 0 0 (MQ below (va_Qv Q (Po D cy A) A) args s 0 0 A) (F0 m 34 ls []) := by
  obtain ⟨hx, hb, hml, hown, hts⟩ := E.1
  intro h0 M H locs ls h w hl
  unfold B_X2_decide_34 at h
  refine r_aload_n (x := (some h0)) hx hb dX2_decide_34 rfl (lh_at hl 0 rfl) ?_
  refine lv_iconst (v := (0 : Int32)) hx hb dX2_decide_35 (by decide) ?_
  obtain ⟨ho1, h⟩ := h
  refine r_putI (v := (0 : Int32)) E w rfl ho1 cl_X2 5 rfl fl_X2_26 (Or.inl rfl) (Or.inl rfl) dX2_decide_36 (fun H locs w => ?_)
  obtain ⟨M2, eM2⟩ : ∃ z, z = pI M h0 5 (0 : Int32) := ⟨_, rfl⟩
  rw [← eM2] at w
  have h := h M2 eM2
  refine r_aload_n (x := (some h0)) hx hb dX2_decide_39 rfl (lh_at hl 0 rfl) ?_
  refine lv_iconst (v := (0 : Int32)) hx hb dX2_decide_40 (by decide) ?_
  have ho1 : ok M2 h0 2 := by rw [eM2]; exact ho1
  refine r_putI (v := (0 : Int32)) E w rfl ho1 cl_X2 6 rfl fl_X2_29 (Or.inl rfl) (Or.inl rfl) dX2_decide_41 (fun H locs w => ?_)
  obtain ⟨M3, eM3⟩ : ∃ z, z = pI M2 h0 6 (0 : Int32) := ⟨_, rfl⟩
  rw [← eM3] at w
  have h := h M3 eM3
  exact r_vret E w hr hlk h (Nat.le_refl 0) (Nat.le_refl 0) dX2_decide_44
def B_X2_decide_0 (Q : Mm → Prop)  (h0 : Nat) (M : Mm) : Prop := (ok M h0 2 ∧ (B_X2_middleBuild_0 (fun r3 M2 => (ok M2 h0 2 ∧ (((gI M2 h0 6) ≤ ((gI M2 h0 5) - (gI M2 h0 6)) → (∀ M6, M6 = pI M2 h0 1 r3 → B_X2_decide_34 Q  h0 M6)) ∧ (¬ (gI M2 h0 6) ≤ ((gI M2 h0 5) - (gI M2 h0 6)) → (∀ M7, M7 = pI M2 h0 2 r3 → B_X2_decide_34 Q  h0 M7))))) h0  M))
set_option maxHeartbeats 4000000 in
set_option maxRecDepth 100000 in
theorem k_X2_decide_0 {p : Program} {l : Launch} {e : Env} {s : State} {m : MethodId} {args : Array Value} {below : List Frame} {meth : Method} {c : Code} {D : va_G} {cy : Nat → ClassId} {A : Nat → Prop} {Q : Mm → Prop} (E : Ex p m c cX2_decide 2 s args RX2 D cy A) (hr : meth.sig.returnType = none) (hlk : meth.locks = false) : ∀ (h0 : Nat) (M : Mm) (H : Heap) (locs : List Loc) (ls : Array Slot), B_X2_decide_0 Q  h0 M → Wd D cy A s M H locs → lh ls 2 [(0, rv (some h0))] → W p l e (rmm 1 0 0) s m args below meth c H locs 0 0 (MQ below (va_Qv Q (Po D cy A) A) args s 0 0 A) (F0 m 0 ls []) := by
  obtain ⟨hx, hb, hml, hown, hts⟩ := E.1
  intro h0 M H locs ls h w hl
  unfold B_X2_decide_0 at h
  refine r_aload_n (x := (some h0)) hx hb dX2_decide_0 rfl (lh_at hl 0 rfl) ?_
  obtain ⟨ho1, h⟩ := h
  refine z_callVi E w rfl ho1 cl_X2 yk_X2_middleBuild ⟨Nat.le_of_ble_eq_true rfl, Nat.le_of_ble_eq_true rfl⟩ ⟨(Nat.zero_le _), (Nat.zero_le _)⟩ rfl ml_X2_35 im_X2_middleBuild sl_X2_middleBuild [] rfl rfl hl [] rfl (Nat.le_of_ble_eq_true rfl) (K_X2_middleBuild h) dX2_decide_1 (fun r3 M2 H locs h w => ?_)
  refine r_istore_n (lv' := [(1, iv r3), (0, rv (some h0))]) hx hb dX2_decide_4 rfl hl (by decide) rfl (fun ls hl => ?_)
  refine r_aload_n (x := (some h0)) hx hb dX2_decide_5 rfl (lh_at hl 1 rfl) ?_
  obtain ⟨ho4, h⟩ := h
  refine r_getI E w rfl ho4 cl_X2 6 rfl fl_X2_29 dX2_decide_6 ?_
  refine r_aload_n (x := (some h0)) hx hb dX2_decide_9 rfl (lh_at hl 1 rfl) ?_
  refine r_getI E w rfl ho4 cl_X2 5 rfl fl_X2_26 dX2_decide_10 ?_
  refine r_aload_n (x := (some h0)) hx hb dX2_decide_13 rfl (lh_at hl 1 rfl) ?_
  refine r_getI E w rfl ho4 cl_X2 6 rfl fl_X2_29 dX2_decide_14 ?_
  refine lv_isub hx hb dX2_decide_17 ?_
  refine lv_icmp_le (tgt := 29) hx hb dX2_decide_18 (by decide) (fun c5 => ?_) (fun c5 => ?_)
  · have h := h.1 c5
    refine r_aload_n (x := (some h0)) hx hb dX2_decide_29 rfl (lh_at hl 1 rfl) ?_
    refine lv_iload_n (x := r3) hx hb dX2_decide_30 rfl (lh_at hl 0 rfl) ?_
    refine r_putI (v := r3) E w rfl ho4 cl_X2 1 rfl fl_X2_13 (Or.inl rfl) (Or.inl rfl) dX2_decide_31 (fun H locs w => ?_)
    obtain ⟨M6, eM6⟩ : ∃ z, z = pI M2 h0 1 r3 := ⟨_, rfl⟩
    rw [← eM6] at w
    have h := h M6 eM6
    exact k_X2_decide_34 E hr hlk  _ _ _ _ _ h w (lh_sub hl [1] rfl)
  · have h := h.2 c5
    refine r_aload_n (x := (some h0)) hx hb dX2_decide_21 rfl (lh_at hl 1 rfl) ?_
    refine lv_iload_n (x := r3) hx hb dX2_decide_22 rfl (lh_at hl 0 rfl) ?_
    refine r_putI (v := r3) E w rfl ho4 cl_X2 2 rfl fl_X2_17 (Or.inl rfl) (Or.inl rfl) dX2_decide_23 (fun H locs w => ?_)
    obtain ⟨M7, eM7⟩ : ∃ z, z = pI M2 h0 2 r3 := ⟨_, rfl⟩
    rw [← eM7] at w
    have h := h M7 eM7
    refine lv_goto (tgt := 34) hx hb dX2_decide_26 (by decide) ?_
    exact k_X2_decide_34 E hr hlk  _ _ _ _ _ h w (lh_sub hl [1] rfl)
theorem K_X2_decide {l : Launch} {Q : Mm → Prop} {h0 : Nat} {M : Mm} (h : B_X2_decide_0 Q h0 M) : KV l yX2_decide cdX2_decide (rmm 1 0 0) [rv (some h0)] M Q :=
  KV_of (by decide) rfl (Nat.le_of_ble_eq_true rfl) (fun p e s m args below meth c D cy A ls E hr hlk hn w hl => k_X2_decide_0 E hr hlk _ _ _ _ _ h w hl)
def B_X2_take_34 (Q : Int32 → Mm → Prop)  (h0 : Nat) (M : Mm) : Prop := (ok M h0 2 ∧ (((gI M h0 3) ≤ (gI M h0 5) → (B_X2_decide_0 (fun  M3 => Q (0 : Int32) M3) h0  M)) ∧ (¬ (gI M h0 3) ≤ (gI M h0 5) → Q ((gI M h0 3) - (gI M h0 5)) M)))
set_option maxHeartbeats 4000000 in
set_option maxRecDepth 100000 in
theorem k_X2_take_34 {p : Program} {l : Launch} {e : Env} {s : State} {m : MethodId} {args : Array Value} {below : List Frame} {meth : Method} {c : Code} {D : va_G} {cy : Nat → ClassId} {A : Nat → Prop} {Q : Int32 → Mm → Prop} (E : Ex p m c cX2_take 2 s args RX2 D cy A) (hr : meth.sig.returnType = (some .int)) (hlk : meth.locks = false) : ∀ (h0 : Nat) (M : Mm) (H : Heap) (locs : List Loc) (ls : Array Slot), B_X2_take_34 Q  h0 M → Wd D cy A s M H locs → lh ls 2 [(0, rv (some h0))] → W p l e (rmm 2 0 0) s m args below meth c H locs 0 0 (MQ below (va_Qi Q (Po D cy A) A) args s 0 0 A) (F0 m 34 ls []) := by
  obtain ⟨hx, hb, hml, hown, hts⟩ := E.1
  intro h0 M H locs ls h w hl
  unfold B_X2_take_34 at h
  refine r_aload_n (x := (some h0)) hx hb dX2_take_34 rfl (lh_at hl 0 rfl) ?_
  obtain ⟨ho1, h⟩ := h
  refine r_getI E w rfl ho1 cl_X2 5 rfl fl_X2_26 dX2_take_35 ?_
  refine r_aload_n (x := (some h0)) hx hb dX2_take_38 rfl (lh_at hl 0 rfl) ?_
  refine r_getI E w rfl ho1 cl_X2 3 rfl fl_X2_20 dX2_take_39 ?_
  refine lv_icmp_ge (tgt := 55) hx hb dX2_take_42 (by decide) (fun c2 => ?_) (fun c2 => ?_)
  · have h := h.1 c2
    refine r_aload_n (x := (some h0)) hx hb dX2_take_55 rfl (lh_at hl 0 rfl) ?_
    refine z_callVv E w rfl ho1 cl_X2 yk_X2_decide ⟨Nat.le_of_ble_eq_true rfl, Nat.le_of_ble_eq_true rfl⟩ ⟨(Nat.zero_le _), (Nat.zero_le _)⟩ rfl ml_X2_32 im_X2_decide sl_X2_decide [] rfl rfl hl [] rfl (Nat.le_of_ble_eq_true rfl) (K_X2_decide h) dX2_take_56 (fun  M3 H locs h w => ?_)
    refine lv_iconst (v := (0 : Int32)) hx hb dX2_take_59 (by decide) ?_
    exact r_iret E w hr hlk h (Nat.le_refl 0) (Nat.le_refl 0) dX2_take_60
  · have h := h.2 c2
    refine r_aload_n (x := (some h0)) hx hb dX2_take_45 rfl (lh_at hl 0 rfl) ?_
    refine r_getI E w rfl ho1 cl_X2 3 rfl fl_X2_20 dX2_take_46 ?_
    refine r_aload_n (x := (some h0)) hx hb dX2_take_49 rfl (lh_at hl 0 rfl) ?_
    refine r_getI E w rfl ho1 cl_X2 5 rfl fl_X2_26 dX2_take_50 ?_
    refine lv_isub hx hb dX2_take_53 ?_
    exact r_iret E w hr hlk h (Nat.le_refl 0) (Nat.le_refl 0) dX2_take_54
def B_X2_take_0 (Q : Int32 → Mm → Prop)  (h0 : Nat) (x1 : Int32) (M : Mm) : Prop := (ok M h0 2 ∧ (∀ M2, M2 = pI M h0 4 ((gI M h0 4) + (1 : Int32)) → (∀ M3, M3 = pI M2 h0 5 ((gI M2 h0 5) + (1 : Int32)) → ((x1 = 0 → B_X2_take_34 Q  h0 M3) ∧ (¬ x1 = 0 → (∀ M5, M5 = pI M3 h0 6 ((gI M3 h0 6) + (1 : Int32)) → B_X2_take_34 Q  h0 M5))))))
set_option maxHeartbeats 4000000 in
set_option maxRecDepth 100000 in
theorem k_X2_take_0 {p : Program} {l : Launch} {e : Env} {s : State} {m : MethodId} {args : Array Value} {below : List Frame} {meth : Method} {c : Code} {D : va_G} {cy : Nat → ClassId} {A : Nat → Prop} {Q : Int32 → Mm → Prop} (E : Ex p m c cX2_take 2 s args RX2 D cy A) (hr : meth.sig.returnType = (some .int)) (hlk : meth.locks = false) : ∀ (h0 : Nat) (x1 : Int32) (M : Mm) (H : Heap) (locs : List Loc) (ls : Array Slot), B_X2_take_0 Q  h0 x1 M → Wd D cy A s M H locs → lh ls 2 [(0, rv (some h0)), (1, iv x1)] → W p l e (rmm 2 0 0) s m args below meth c H locs 0 0 (MQ below (va_Qi Q (Po D cy A) A) args s 0 0 A) (F0 m 0 ls []) := by
  obtain ⟨hx, hb, hml, hown, hts⟩ := E.1
  intro h0 x1 M H locs ls h w hl
  unfold B_X2_take_0 at h
  refine r_aload_n (x := (some h0)) hx hb dX2_take_0 rfl (lh_at hl 0 rfl) ?_
  refine r_dupr hx hb dX2_take_1 ?_
  obtain ⟨ho1, h⟩ := h
  refine r_getI E w rfl ho1 cl_X2 4 rfl fl_X2_23 dX2_take_2 ?_
  refine lv_iconst (v := (1 : Int32)) hx hb dX2_take_5 (by decide) ?_
  refine lv_iadd hx hb dX2_take_6 ?_
  refine r_putI (v := ((gI M h0 4) + (1 : Int32))) E w rfl ho1 cl_X2 4 rfl fl_X2_23 (Or.inl rfl) (Or.inl rfl) dX2_take_7 (fun H locs w => ?_)
  obtain ⟨M2, eM2⟩ : ∃ z, z = pI M h0 4 ((gI M h0 4) + (1 : Int32)) := ⟨_, rfl⟩
  rw [← eM2] at w
  have h := h M2 eM2
  refine r_aload_n (x := (some h0)) hx hb dX2_take_10 rfl (lh_at hl 0 rfl) ?_
  refine r_dupr hx hb dX2_take_11 ?_
  have ho1 : ok M2 h0 2 := by rw [eM2]; exact ho1
  refine r_getI E w rfl ho1 cl_X2 5 rfl fl_X2_26 dX2_take_12 ?_
  refine lv_iconst (v := (1 : Int32)) hx hb dX2_take_15 (by decide) ?_
  refine lv_iadd hx hb dX2_take_16 ?_
  refine r_putI (v := ((gI M2 h0 5) + (1 : Int32))) E w rfl ho1 cl_X2 5 rfl fl_X2_26 (Or.inl rfl) (Or.inl rfl) dX2_take_17 (fun H locs w => ?_)
  obtain ⟨M3, eM3⟩ : ∃ z, z = pI M2 h0 5 ((gI M2 h0 5) + (1 : Int32)) := ⟨_, rfl⟩
  rw [← eM3] at w
  have h := h M3 eM3
  refine lv_iload_n (x := x1) hx hb dX2_take_20 rfl (lh_at hl 1 rfl) ?_
  refine lv_if_eq (tgt := 34) hx hb dX2_take_21 (by decide) (fun c4 => ?_) (fun c4 => ?_)
  · have h := h.1 c4
    exact k_X2_take_34 E hr hlk  _ _ _ _ _ h w (lh_sub hl [0] rfl)
  · have h := h.2 c4
    refine r_aload_n (x := (some h0)) hx hb dX2_take_24 rfl (lh_at hl 0 rfl) ?_
    refine r_dupr hx hb dX2_take_25 ?_
    have ho1 : ok M3 h0 2 := by rw [eM3]; exact ho1
    refine r_getI E w rfl ho1 cl_X2 6 rfl fl_X2_29 dX2_take_26 ?_
    refine lv_iconst (v := (1 : Int32)) hx hb dX2_take_29 (by decide) ?_
    refine lv_iadd hx hb dX2_take_30 ?_
    refine r_putI (v := ((gI M3 h0 6) + (1 : Int32))) E w rfl ho1 cl_X2 6 rfl fl_X2_29 (Or.inl rfl) (Or.inl rfl) dX2_take_31 (fun H locs w => ?_)
    obtain ⟨M5, eM5⟩ : ∃ z, z = pI M3 h0 6 ((gI M3 h0 6) + (1 : Int32)) := ⟨_, rfl⟩
    rw [← eM5] at w
    have h := h M5 eM5
    exact k_X2_take_34 E hr hlk  _ _ _ _ _ h w (lh_sub hl [0] rfl)
theorem K_X2_take {l : Launch} {Q : Int32 → Mm → Prop} {h0 : Nat} {x1 : Int32} {M : Mm} (h : B_X2_take_0 Q h0 x1 M) : KI l yX2_take cdX2_take (rmm 2 0 0) [rv (some h0), iv x1] M Q :=
  KI_of (by decide) rfl (Nat.le_of_ble_eq_true rfl) (fun p e s m args below meth c D cy A ls E hr hlk hn w hl => k_X2_take_0 E hr hlk _ _ _ _ _ _ h w hl)
