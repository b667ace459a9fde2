def B_X5_init_0 (Q : Mm → Prop)  (h0 : Nat) (gc : Nat) (gs : Nat) (M : Mm) : Prop := (1 ≤ gc ∧ 8 ≤ gs ∧ (∀ q2, q2 ∉ gL M → (∀ M3, M3 = nC M q2 11 8 → (ok M3 h0 5 ∧ (∀ M5, M5 = pR M3 h0 0 (some q2) → (1 ≤ (gc - 1) ∧ 6 ≤ (gs - 8) ∧ (∀ q7, q7 ∉ gL M5 → (∀ M8, M8 = nC M5 q7 7 6 → (ok M8 h0 5 ∧ (∀ M10, M10 = pR M8 h0 1 (some q7) → (1 ≤ ((gc - 1) - 1) ∧ 300 ≤ ((gs - 8) - 6) ∧ (∀ q12, q12 ∉ gL M10 → (∀ M13, M13 = nC M10 q12 7 300 → (ok M13 h0 5 ∧ (∀ M15, M15 = pR M13 h0 2 (some q12) → (1 ≤ (((gc - 1) - 1) - 1) ∧ 4 ≤ (((gs - 8) - 6) - 300) ∧ (∀ q17, q17 ∉ gL M15 → (∀ M18, M18 = nC M15 q17 1 0 → (∃ b20 b20s : Nat, b20 ≤ ((((gc - 1) - 1) - 1) - 1) ∧ b20s ≤ ((((gs - 8) - 6) - 300) - 4) ∧ (B_X1_init_0 (fun  M19 => (ok M19 h0 5 ∧ (∀ M22, M22 = pR M19 h0 3 (some q17) → (1 ≤ (((((gc - 1) - 1) - 1) - 1) - b20) ∧ 7 ≤ (((((gs - 8) - 6) - 300) - 4) - b20s) ∧ (∀ q24, q24 ∉ gL M22 → (∀ M25, M25 = nC M22 q24 2 0 → (B_X2_init_0 (fun  M26 => (ok M26 h0 5 ∧ (∀ M28, M28 = pR M26 h0 4 (some q24) → (∀ M29, M29 = pI M28 h0 8 (20 : Int32) → (∀ M30, M30 = pI M29 h0 9 (1 : Int32) → (∀ M31, M31 = pJ M30 h0 13 (1 : Int64) → Q M31)))))) q24  M25))))))) q17  b20 b20s M18))))))))))))))))))))
set_option maxHeartbeats 4000000 in
set_option maxRecDepth 100000 in
theorem k_X5_init_0 {p : Program} {l : Launch} {e : Env} {s : State} {m : MethodId} {args : Array Value} {below : List Frame} {meth : Method} {c : Code} {D : va_G} {cy : Nat → ClassId} {A : Nat → Prop} {mc ms : Nat} {Q : Mm → Prop} (E : Ex p m c cX5_init 1 s args RX5 D cy A) (hr : meth.sig.returnType = none) (hlk : meth.locks = false) (hin : meth.name = "<init>") : ∀ (h0 : Nat) (gc : Nat) (gs : Nat) (M : Mm) (H : Heap) (locs : List Loc) (ls : Array Slot) (cells slots : Nat), B_X5_init_0 Q  h0 gc gs M → Wd D cy A s M H locs → lh ls 1 [(0, rv (some h0))] → cells + gc ≤ mc ∧ slots + gs ≤ ms → W p l e (rmm 2 mc ms) s m args below meth c H locs cells slots (MQ below (va_Qv Q (Po D cy A) A) args s mc ms A) (F0 m 0 ls []) := by
  obtain ⟨hx, hb, hml, hown, hts⟩ := E.1
  intro h0 gc gs M H locs ls cells slots h w hl hg
  unfold B_X5_init_0 at h
  refine r_aload_n (x := (some h0)) hx hb dX5_init_0 rfl (lh_at hl 0 rfl) ?_
  refine W.objInit hx hb hown (hts _ ml_X5_1) (hts _ im_object) (hts _ cd_object) rfl (by rw [hml]; exact hl.1) rfl dX5_init_1 (Nat.le_of_ble_eq_true rfl) (Nat.le_of_ble_eq_true rfl) ?_
  refine W.eq (g2 := F0 m 4 ls []) rfl ?_
  refine r_aload_n (x := (some h0)) hx hb dX5_init_4 rfl (lh_at hl 0 rfl) ?_
  refine lv_bipush (v := (8 : Int32)) hx hb dX5_init_5 (by decide) ?_
  obtain ⟨g1a, g1b, h⟩ := h
  refine r_newq11 (N := 8) E w kl_X5_9 (by decide) (by decide) (by decide) (show cells + 1 ≤ mc by omega) (show slots + 8 ≤ ms by omega) dX5_init_7 (fun q2 H hq2 w => ?_)
  have h := h q2 hq2
  obtain ⟨M3, eM3⟩ : ∃ z, z = nC M q2 11 8 := ⟨_, rfl⟩
  rw [← eM3] at w
  have h := h M3 eM3
  have hg : (cells + 1) + (gc - 1) ≤ mc ∧ (slots + 8) + (gs - 8) ≤ ms := ⟨by omega, by omega⟩
  obtain ⟨ho4, h⟩ := h
  refine r_putR (v := (some q2)) E w rfl ho4 cl_X5 0 rfl fl_X5_11 (Or.inr ⟨rfl, hin, rfl⟩) (Or.inr ⟨_, rfl⟩) dX5_init_10 (fun H locs w => ?_)
  obtain ⟨M5, eM5⟩ : ∃ z, z = pR M3 h0 0 (some q2) := ⟨_, rfl⟩
  rw [← eM5] at w
  have h := h M5 eM5
  refine r_aload_n (x := (some h0)) hx hb dX5_init_13 rfl (lh_at hl 0 rfl) ?_
  refine lv_bipush (v := (6 : Int32)) hx hb dX5_init_14 (by decide) ?_
  obtain ⟨g6a, g6b, h⟩ := h
  refine r_newa7 (N := 6) E w acl_int (by decide) (by decide) (by decide) (show (cells + 1) + 1 ≤ mc by omega) (show (slots + 8) + 6 ≤ ms by omega) dX5_init_16 (fun q7 H hq7 w => ?_)
  have h := h q7 hq7
  obtain ⟨M8, eM8⟩ : ∃ z, z = nC M5 q7 7 6 := ⟨_, rfl⟩
  rw [← eM8] at w
  have h := h M8 eM8
  have hg : ((cells + 1) + 1) + ((gc - 1) - 1) ≤ mc ∧ ((slots + 8) + 6) + ((gs - 8) - 6) ≤ ms := ⟨by omega, by omega⟩
  obtain ⟨ho9, h⟩ := h
  refine r_putR (v := (some q7)) E w rfl ho9 cl_X5 1 rfl fl_X5_15 (Or.inr ⟨rfl, hin, rfl⟩) (Or.inr ⟨_, rfl⟩) dX5_init_18 (fun H locs w => ?_)
  obtain ⟨M10, eM10⟩ : ∃ z, z = pR M8 h0 1 (some q7) := ⟨_, rfl⟩
  rw [← eM10] at w
  have h := h M10 eM10
  refine r_aload_n (x := (some h0)) hx hb dX5_init_21 rfl (lh_at hl 0 rfl) ?_
  refine lv_sipush (v := (300 : Int32)) hx hb dX5_init_22 (by decide) ?_
  obtain ⟨g11a, g11b, h⟩ := h
  refine r_newa7 (N := 300) E w acl_int (by decide) (by decide) (by decide) (show ((cells + 1) + 1) + 1 ≤ mc by omega) (show ((slots + 8) + 6) + 300 ≤ ms by omega) dX5_init_25 (fun q12 H hq12 w => ?_)
  have h := h q12 hq12
  obtain ⟨M13, eM13⟩ : ∃ z, z = nC M10 q12 7 300 := ⟨_, rfl⟩
  rw [← eM13] at w
  have h := h M13 eM13
  have hg : (((cells + 1) + 1) + 1) + (((gc - 1) - 1) - 1) ≤ mc ∧ (((slots + 8) + 6) + 300) + (((gs - 8) - 6) - 300) ≤ ms := ⟨by omega, by omega⟩
  obtain ⟨ho14, h⟩ := h
  refine r_putR (v := (some q12)) E w rfl ho14 cl_X5 2 rfl fl_X5_19 (Or.inr ⟨rfl, hin, rfl⟩) (Or.inr ⟨_, rfl⟩) dX5_init_27 (fun H locs w => ?_)
  obtain ⟨M15, eM15⟩ : ∃ z, z = pR M13 h0 2 (some q12) := ⟨_, rfl⟩
  rw [← eM15] at w
  have h := h M15 eM15
  refine r_aload_n (x := (some h0)) hx hb dX5_init_30 rfl (lh_at hl 0 rfl) ?_
  obtain ⟨g16a, g16b, h⟩ := h
  refine r_new E w cl_X1 kl_X5_22 ins_X1 ini_X1 (show (((cells + 1) + 1) + 1) + 1 ≤ mc by omega) (show (((slots + 8) + 6) + 300) + 4 ≤ ms by omega) dX5_init_31 (fun q17 H hq17 w => ?_)
  have h := h q17 hq17
  obtain ⟨M18, eM18⟩ : ∃ z, z = nC M15 q17 1 0 := ⟨_, rfl⟩
  rw [← eM18] at w
  have h := h M18 eM18
  have hg : ((((cells + 1) + 1) + 1) + 1) + ((((gc - 1) - 1) - 1) - 1) ≤ mc ∧ ((((slots + 8) + 6) + 300) + 4) + ((((gs - 8) - 6) - 300) - 4) ≤ ms := ⟨by omega, by omega⟩
  refine r_dupr hx hb dX5_init_34 ?_
  obtain ⟨b20, b20s, b20c, b20d, h⟩ := h
  refine r_callIN (rm := rmm 1 b20 b20s) E w rfl yk_X1_init ⟨Nat.le_of_ble_eq_true rfl, Nat.le_of_ble_eq_true rfl⟩ ⟨show ((((cells + 1) + 1) + 1) + 1) + b20 ≤ mc by omega, show ((((slots + 8) + 6) + 300) + 4) + b20s ≤ ms by omega⟩ rfl E.2.1.2.2.2.1 im_X1_init [] rfl rfl hl [rv (some q17), rv (some h0)] rfl (Nat.le_of_ble_eq_true rfl) (K_X1_init h) dX5_init_35 (fun M19 H locs h w => ?_)
  have hg : (((((cells + 1) + 1) + 1) + 1) + b20) + (((((gc - 1) - 1) - 1) - 1) - b20) ≤ mc ∧ (((((slots + 8) + 6) + 300) + 4) + b20s) + (((((gs - 8) - 6) - 300) - 4) - b20s) ≤ ms := ⟨by omega, by omega⟩
  obtain ⟨ho21, h⟩ := h
  refine r_putR (v := (some q17)) E w rfl ho21 cl_X5 3 rfl fl_X5_25 (Or.inr ⟨rfl, hin, rfl⟩) (Or.inl ⟨_, rfl⟩) dX5_init_38 (fun H locs w => ?_)
  obtain ⟨M22, eM22⟩ : ∃ z, z = pR M19 h0 3 (some q17) := ⟨_, rfl⟩
  rw [← eM22] at w
  have h := h M22 eM22
  refine r_aload_n (x := (some h0)) hx hb dX5_init_41 rfl (lh_at hl 0 rfl) ?_
  obtain ⟨g23a, g23b, h⟩ := h
  refine r_new E w cl_X2 kl_X5_29 ins_X2 ini_X2 (show (((((cells + 1) + 1) + 1) + 1) + b20) + 1 ≤ mc by omega) (show (((((slots + 8) + 6) + 300) + 4) + b20s) + 7 ≤ ms by omega) dX5_init_42 (fun q24 H hq24 w => ?_)
  have h := h q24 hq24
  obtain ⟨M25, eM25⟩ : ∃ z, z = nC M22 q24 2 0 := ⟨_, rfl⟩
  rw [← eM25] at w
  have h := h M25 eM25
  have hg : ((((((cells + 1) + 1) + 1) + 1) + b20) + 1) + ((((((gc - 1) - 1) - 1) - 1) - b20) - 1) ≤ mc ∧ ((((((slots + 8) + 6) + 300) + 4) + b20s) + 7) + ((((((gs - 8) - 6) - 300) - 4) - b20s) - 7) ≤ ms := ⟨by omega, by omega⟩
  refine r_dupr hx hb dX5_init_45 ?_
  refine z_callIN E w rfl yk_X2_init ⟨Nat.le_of_ble_eq_true rfl, Nat.le_of_ble_eq_true rfl⟩ ⟨(show ((((((cells + 1) + 1) + 1) + 1) + b20) + 1) ≤ mc by omega), (show ((((((slots + 8) + 6) + 300) + 4) + b20s) + 7) ≤ ms by omega)⟩ rfl E.2.1.2.2.2.2.1 im_X2_init [] rfl rfl hl [rv (some q24), rv (some h0)] rfl (Nat.le_of_ble_eq_true rfl) (K_X2_init h) dX5_init_46 (fun M26 H locs h w => ?_)
  obtain ⟨ho27, h⟩ := h
  refine r_putR (v := (some q24)) E w rfl ho27 cl_X5 4 rfl fl_X5_32 (Or.inr ⟨rfl, hin, rfl⟩) (Or.inl ⟨_, rfl⟩) dX5_init_49 (fun H locs w => ?_)
  obtain ⟨M28, eM28⟩ : ∃ z, z = pR M26 h0 4 (some q24) := ⟨_, rfl⟩
  rw [← eM28] at w
  have h := h M28 eM28
  refine r_aload_n (x := (some h0)) hx hb dX5_init_52 rfl (lh_at hl 0 rfl) ?_
  refine lv_bipush (v := (20 : Int32)) hx hb dX5_init_53 (by decide) ?_
  have ho27 : ok M28 h0 5 := by rw [eM28]; exact ho27
  refine r_putI (v := (20 : Int32)) E w rfl ho27 cl_X5 8 rfl fl_X5_36 (Or.inl rfl) (Or.inl rfl) dX5_init_55 (fun H locs w => ?_)
  obtain ⟨M29, eM29⟩ : ∃ z, z = pI M28 h0 8 (20 : Int32) := ⟨_, rfl⟩
  rw [← eM29] at w
  have h := h M29 eM29
  refine r_aload_n (x := (some h0)) hx hb dX5_init_58 rfl (lh_at hl 0 rfl) ?_
  refine lv_iconst (v := (1 : Int32)) hx hb dX5_init_59 (by decide) ?_
  have ho27 : ok M29 h0 5 := by rw [eM29]; exact ho27
  refine r_putI (v := (1 : Int32)) E w rfl ho27 cl_X5 9 rfl fl_X5_40 (Or.inl rfl) (Or.inl rfl) dX5_init_60 (fun H locs w => ?_)
  obtain ⟨M30, eM30⟩ : ∃ z, z = pI M29 h0 9 (1 : Int32) := ⟨_, rfl⟩
  rw [← eM30] at w
  have h := h M30 eM30
  refine r_aload_n (x := (some h0)) hx hb dX5_init_63 rfl (lh_at hl 0 rfl) ?_
  refine lv_lconst (v := (1 : Int64)) hx hb dX5_init_64 (by decide) ?_
  have ho27 : ok M30 h0 5 := by rw [eM30]; exact ho27
  refine r_putJ (v := (1 : Int64)) E w rfl ho27 cl_X5 13 rfl fl_X5_43 (Or.inl rfl) rfl dX5_init_65 (fun H locs w => ?_)
  obtain ⟨M31, eM31⟩ : ∃ z, z = pJ M30 h0 13 (1 : Int64) := ⟨_, rfl⟩
  rw [← eM31] at w
  have h := h M31 eM31
  exact r_vret E w hr hlk h (show ((((((cells + 1) + 1) + 1) + 1) + b20) + 1) ≤ mc by omega) (show ((((((slots + 8) + 6) + 300) + 4) + b20s) + 7) ≤ ms by omega) dX5_init_68
theorem K_X5_init {l : Launch} {Q : Mm → Prop} {h0 : Nat} {gc gs : Nat} {M : Mm} (h : B_X5_init_0 Q h0 gc gs M) : KV l yX5_init cdX5_init (rmm 2 gc gs) [rv (some h0)] M Q :=
  KV_of (by decide) rfl (Nat.le_of_ble_eq_true rfl) (fun p e s m args below meth c D cy A ls E hr hlk hn w hl => k_X5_init_0 E hr hlk hn _ _ _ _ _ _ _ _ _ h w hl ⟨Nat.le_of_eq (Nat.zero_add _), Nat.le_of_eq (Nat.zero_add _)⟩)
def B_X5_builds_0 (Q : Int32 → Mm → Prop)  (h0 : Nat) (x1 : Int32) (M : Mm) : Prop := (ok M h0 5 ∧ ((x1 < (gI M h0 6) → Q (-1 : Int32) M) ∧ (¬ x1 < (gI M h0 6) → ((x1 ≤ (40 : Int32) → (∀ M4, M4 = pI M h0 6 x1 → Q x1 M4)) ∧ (¬ x1 ≤ (40 : Int32) → Q (-1 : Int32) M)))))
set_option maxHeartbeats 4000000 in
set_option maxRecDepth 100000 in
theorem k_X5_builds_0 {p : Program} {l : Launch} {e : Env} {s : State} {m : MethodId} {args : Array Value} {below : List Frame} {meth : Method} {c : Code} {D : va_G} {cy : Nat → ClassId} {A : Nat → Prop} {Q : Int32 → Mm → Prop} (E : Ex p m c cX5_builds 2 s args RX5 D cy A) (hr : meth.sig.returnType = (some .int)) (hlk : meth.locks = false) : ∀ (h0 : Nat) (x1 : Int32) (M : Mm) (H : Heap) (locs : List Loc) (ls : Array Slot), B_X5_builds_0 Q  h0 x1 M → Wd D cy A s M H locs → lh ls 2 [(0, rv (some h0)), (1, iv x1)] → W p l e (rmm 0 0 0) s m args below meth c H locs 0 0 (MQ below (va_Qi Q (Po D cy A) A) args s 0 0 A) (F0 m 0 ls []) := by
  obtain ⟨hx, hb, hml, hown, hts⟩ := E.1
  intro h0 x1 M H locs ls h w hl
  unfold B_X5_builds_0 at h
  refine lv_iload_n (x := x1) hx hb dX5_builds_0 rfl (lh_at hl 1 rfl) ?_
  refine r_aload_n (x := (some h0)) hx hb dX5_builds_1 rfl (lh_at hl 0 rfl) ?_
  obtain ⟨ho1, h⟩ := h
  refine r_getI E w rfl ho1 cl_X5 6 rfl fl_X5_47 dX5_builds_2 ?_
  refine lv_icmp_lt (tgt := 14) hx hb dX5_builds_5 (by decide) (fun c2 => ?_) (fun c2 => ?_)
  · have h := h.1 c2
    refine lv_iconst (v := (-1 : Int32)) hx hb dX5_builds_14 (by decide) ?_
    exact r_iret E w hr hlk h (Nat.le_refl 0) (Nat.le_refl 0) dX5_builds_15
  · have h := h.2 c2
    refine lv_iload_n (x := x1) hx hb dX5_builds_8 rfl (lh_at hl 1 rfl) ?_
    refine lv_bipush (v := (40 : Int32)) hx hb dX5_builds_9 (by decide) ?_
    refine lv_icmp_le (tgt := 16) hx hb dX5_builds_11 (by decide) (fun c3 => ?_) (fun c3 => ?_)
    · have h := h.1 c3
      refine r_aload_n (x := (some h0)) hx hb dX5_builds_16 rfl (lh_at hl 0 rfl) ?_
      refine lv_iload_n (x := x1) hx hb dX5_builds_17 rfl (lh_at hl 1 rfl) ?_
      refine r_putI (v := x1) E w rfl ho1 cl_X5 6 rfl fl_X5_47 (Or.inl rfl) (Or.inl rfl) dX5_builds_18 (fun H locs w => ?_)
      obtain ⟨M4, eM4⟩ : ∃ z, z = pI M h0 6 x1 := ⟨_, rfl⟩
      rw [← eM4] at w
      have h := h M4 eM4
      refine lv_iload_n (x := x1) hx hb dX5_builds_21 rfl (lh_at hl 1 rfl) ?_
      exact r_iret E w hr hlk h (Nat.le_refl 0) (Nat.le_refl 0) dX5_builds_22
    · have h := h.2 c3
      refine lv_iconst (v := (-1 : Int32)) hx hb dX5_builds_14 (by decide) ?_
      exact r_iret E w hr hlk h (Nat.le_refl 0) (Nat.le_refl 0) dX5_builds_15
theorem K_X5_builds {l : Launch} {Q : Int32 → Mm → Prop} {h0 : Nat} {x1 : Int32} {M : Mm} (h : B_X5_builds_0 Q h0 x1 M) : KI l yX5_builds cdX5_builds (rmm 0 0 0) [rv (some h0), iv x1] M Q :=
  KI_of (by decide) rfl (Nat.le_of_ble_eq_true rfl) (fun p e s m args below meth c D cy A ls E hr hlk hn w hl => k_X5_builds_0 E hr hlk _ _ _ _ _ _ h w hl)
def B_X5_isWithin_0 (Q : Int32 → Mm → Prop)  (x0 : Int32) (x1 : Int32) (M : Mm) : Prop := ((x0 < 0 → Q (0 : Int32) M) ∧ (¬ x0 < 0 → ((x1 < x0 → Q (0 : Int32) M) ∧ (¬ x1 < x0 → Q (1 : Int32) M))))
set_option maxHeartbeats 4000000 in
set_option maxRecDepth 100000 in
theorem k_X5_isWithin_0 {p : Program} {l : Launch} {e : Env} {s : State} {m : MethodId} {args : Array Value} {below : List Frame} {meth : Method} {c : Code} {D : va_G} {cy : Nat → ClassId} {A : Nat → Prop} {Q : Int32 → Mm → Prop} (E : Ex p m c cX5_isWithin 2 s args RX5 D cy A) (hr : meth.sig.returnType = (some .boolean)) (hlk : meth.locks = false) : ∀ (x0 : Int32) (x1 : Int32) (M : Mm) (H : Heap) (locs : List Loc) (ls : Array Slot), B_X5_isWithin_0 Q  x0 x1 M → Wd D cy A s M H locs → lh ls 2 [(0, iv x0), (1, iv x1)] → W p l e (rmm 0 0 0) s m args below meth c H locs 0 0 (MQ below (va_Qi Q (Po D cy A) A) args s 0 0 A) (F0 m 0 ls []) := by
  obtain ⟨hx, hb, hml, hown, hts⟩ := E.1
  intro x0 x1 M H locs ls h w hl
  unfold B_X5_isWithin_0 at h
  refine lv_iload_n (x := x0) hx hb dX5_isWithin_0 rfl (lh_at hl 0 rfl) ?_
  refine lv_if_lt (tgt := 13) hx hb dX5_isWithin_1 (by decide) (fun c1 => ?_) (fun c1 => ?_)
  · have h := h.1 c1
    refine lv_iconst (v := (0 : Int32)) hx hb dX5_isWithin_13 (by decide) ?_
    exact r_zret E w hr hlk ⟨Or.inl rfl, h⟩ (Nat.le_refl 0) (Nat.le_refl 0) dX5_isWithin_14
  · have h := h.2 c1
    refine lv_iload_n (x := x0) hx hb dX5_isWithin_4 rfl (lh_at hl 0 rfl) ?_
    refine lv_iload_n (x := x1) hx hb dX5_isWithin_5 rfl (lh_at hl 1 rfl) ?_
    refine lv_icmp_gt (tgt := 13) hx hb dX5_isWithin_6 (by decide) (fun c2 => ?_) (fun c2 => ?_)
    · have h := h.1 c2
      refine lv_iconst (v := (0 : Int32)) hx hb dX5_isWithin_13 (by decide) ?_
      exact r_zret E w hr hlk ⟨Or.inl rfl, h⟩ (Nat.le_refl 0) (Nat.le_refl 0) dX5_isWithin_14
    · have h := h.2 c2
      refine lv_iconst (v := (1 : Int32)) hx hb dX5_isWithin_9 (by decide) ?_
      refine lv_goto (tgt := 14) hx hb dX5_isWithin_10 (by decide) ?_
      exact r_zret E w hr hlk ⟨Or.inr rfl, h⟩ (Nat.le_refl 0) (Nat.le_refl 0) dX5_isWithin_14
theorem K_X5_isWithin {l : Launch} {Q : Int32 → Mm → Prop} {x0 : Int32} {x1 : Int32} {M : Mm} (h : B_X5_isWithin_0 Q x0 x1 M) : KI l yX5_isWithin cdX5_isWithin (rmm 0 0 0) [iv x0, iv x1] M Q :=
  KI_of (by decide) rfl (Nat.le_of_ble_eq_true rfl) (fun p e s m args below meth c D cy A ls E hr hlk hn w hl => k_X5_isWithin_0 E hr hlk _ _ _ _ _ _ h w hl)
def B_X5_isKind_0 (Q : Int32 → Mm → Prop)  (x0 : Int32) (M : Mm) : Prop := (B_X5_isWithin_0 (fun r2 M1 => (bl r2 ∧ Q r2 M1)) x0 (2 : Int32) M)
set_option maxHeartbeats 4000000 in
set_option maxRecDepth 100000 in
theorem k_X5_isKind_0 {p : Program} {l : Launch} {e : Env} {s : State} {m : MethodId} {args : Array Value} {below : List Frame} {meth : Method} {c : Code} {D : va_G} {cy : Nat → ClassId} {A : Nat → Prop} {Q : Int32 → Mm → Prop} (E : Ex p m c cX5_isKind 1 s args RX5 D cy A) (hr : meth.sig.returnType = (some .boolean)) (hlk : meth.locks = false) : ∀ (x0 : Int32) (M : Mm) (H : Heap) (locs : List Loc) (ls : Array Slot), B_X5_isKind_0 Q  x0 M → Wd D cy A s M H locs → lh ls 1 [(0, iv x0)] → W p l e (rmm 1 0 0) s m args below meth c H locs 0 0 (MQ below (va_Qi Q (Po D cy A) A) args s 0 0 A) (F0 m 0 ls []) := by
  obtain ⟨hx, hb, hml, hown, hts⟩ := E.1
  intro x0 M H locs ls h w hl
  unfold B_X5_isKind_0 at h
  refine lv_iload_n (x := x0) hx hb dX5_isKind_0 rfl (lh_at hl 0 rfl) ?_
  refine lv_iconst (v := (2 : Int32)) hx hb dX5_isKind_1 (by decide) ?_
  refine z_callSi E w yk_X5_isWithin ⟨Nat.le_of_ble_eq_true rfl, Nat.le_of_ble_eq_true rfl⟩ ⟨(Nat.zero_le _), (Nat.zero_le _)⟩ rfl ml_X5_81 st_X5_isWithin [iv x0, iv (2 : Int32)] rfl rfl hl [] rfl (Nat.le_of_ble_eq_true rfl) (K_X5_isWithin h) dX5_isKind_2 (fun r2 M1 H locs h w => ?_)
  exact r_zret E w hr hlk h (Nat.le_refl 0) (Nat.le_refl 0) dX5_isKind_5
theorem K_X5_isKind {l : Launch} {Q : Int32 → Mm → Prop} {x0 : Int32} {M : Mm} (h : B_X5_isKind_0 Q x0 M) : KI l yX5_isKind cdX5_isKind (rmm 1 0 0) [iv x0] M Q :=
  KI_of (by decide) rfl (Nat.le_of_ble_eq_true rfl) (fun p e s m args below meth c D cy A ls E hr hlk hn w hl => k_X5_isKind_0 E hr hlk _ _ _ _ _ h w hl)
def B_X5_test_0 (Q : Int32 → Mm → Prop)  (h0 : Nat) (x1 : Int32) (gc : Nat) (gs : Nat) (M : Mm) : Prop := (B_X5_isKind_0 (fun r2 M1 => ((¬ r2 = 0 → (ok M1 h0 5 ∧ (((gI M1 h0 7) < (8 : Int32) → (1 ≤ gc ∧ 2 ≤ gs ∧ (∀ q7, q7 ∉ gL M1 → (∀ M8, M8 = nC M1 q7 4 0 → (∃ b10 b10s : Nat, b10 ≤ (gc - 1) ∧ b10s ≤ (gs - 2) ∧ (B_X4_init_0 (fun  M9 => (∃ a11, (gR M1 h0 0) = some a11 ∧ (ok M9 q7 4 ∧ (ar M9 a11 11 (gI M1 h0 7) ∧ (∀ M14, M14 = pR M9 a11 (Int32.toNatClampNeg (gI M1 h0 7)) (some q7) → (ok M14 h0 5 ∧ (∀ M16, M16 = pI M14 h0 7 ((gI M14 h0 7) + (1 : Int32)) → Q ((gI M16 h0 7) - (1 : Int32)) M16))))))) q7 x1 b10 b10s M8)))))) ∧ (¬ (gI M1 h0 7) < (8 : Int32) → Q (-2 : Int32) M1)))) ∧ (r2 = 0 → Q (-1 : Int32) M1))) x1 M)
set_option maxHeartbeats 4000000 in
set_option maxRecDepth 100000 in
theorem k_X5_test_0 {p : Program} {l : Launch} {e : Env} {s : State} {m : MethodId} {args : Array Value} {below : List Frame} {meth : Method} {c : Code} {D : va_G} {cy : Nat → ClassId} {A : Nat → Prop} {mc ms : Nat} {Q : Int32 → Mm → Prop} (E : Ex p m c cX5_test 2 s args RX5 D cy A) (hr : meth.sig.returnType = (some .int)) (hlk : meth.locks = false) : ∀ (h0 : Nat) (x1 : Int32) (gc : Nat) (gs : Nat) (M : Mm) (H : Heap) (locs : List Loc) (ls : Array Slot) (cells slots : Nat), B_X5_test_0 Q  h0 x1 gc gs M → Wd D cy A s M H locs → lh ls 2 [(0, rv (some h0)), (1, iv x1)] → cells + gc ≤ mc ∧ slots + gs ≤ ms → W p l e (rmm 3 mc ms) s m args below meth c H locs cells slots (MQ below (va_Qi Q (Po D cy A) A) args s mc ms A) (F0 m 0 ls []) := by
  obtain ⟨hx, hb, hml, hown, hts⟩ := E.1
  intro h0 x1 gc gs M H locs ls cells slots h w hl hg
  unfold B_X5_test_0 at h
  refine lv_iload_n (x := x1) hx hb dX5_test_0 rfl (lh_at hl 1 rfl) ?_
  refine z_callSi E w yk_X5_isKind ⟨Nat.le_of_ble_eq_true rfl, Nat.le_of_ble_eq_true rfl⟩ ⟨(show cells ≤ mc by omega), (show slots ≤ ms by omega)⟩ rfl ml_X5_50 st_X5_isKind [iv x1] rfl rfl hl [] rfl (Nat.le_of_ble_eq_true rfl) (K_X5_isKind h) dX5_test_1 (fun r2 M1 H locs h w => ?_)
  refine lv_if_ne (tgt := 9) hx hb dX5_test_4 (by decide) (fun c3 => ?_) (fun c3 => ?_)
  · have h := h.1 c3
    refine r_aload_n (x := (some h0)) hx hb dX5_test_9 rfl (lh_at hl 0 rfl) ?_
    obtain ⟨ho4, h⟩ := h
    refine r_getI E w rfl ho4 cl_X5 7 rfl fl_X5_54 dX5_test_10 ?_
    refine lv_bipush (v := (8 : Int32)) hx hb dX5_test_13 (by decide) ?_
    refine lv_icmp_lt (tgt := 21) hx hb dX5_test_15 (by decide) (fun c5 => ?_) (fun c5 => ?_)
    · have h := h.1 c5
      refine r_aload_n (x := (some h0)) hx hb dX5_test_21 rfl (lh_at hl 0 rfl) ?_
      refine r_getR E w rfl ho4 cl_X5 0 rfl fl_X5_11 dX5_test_22 ?_
      refine r_aload_n (x := (some h0)) hx hb dX5_test_25 rfl (lh_at hl 0 rfl) ?_
      refine r_getI E w rfl ho4 cl_X5 7 rfl fl_X5_54 dX5_test_26 ?_
      obtain ⟨g6a, g6b, h⟩ := h
      refine r_new E w cl_X4 kl_X5_9 ins_X4 ini_X4 (show cells + 1 ≤ mc by omega) (show slots + 2 ≤ ms by omega) dX5_test_29 (fun q7 H hq7 w => ?_)
      have h := h q7 hq7
      obtain ⟨M8, eM8⟩ : ∃ z, z = nC M1 q7 4 0 := ⟨_, rfl⟩
      rw [← eM8] at w
      have h := h M8 eM8
      have hg : (cells + 1) + (gc - 1) ≤ mc ∧ (slots + 2) + (gs - 2) ≤ ms := ⟨by omega, by omega⟩
      refine r_dupr hx hb dX5_test_32 ?_
      refine lv_iload_n (x := x1) hx hb dX5_test_33 rfl (lh_at hl 1 rfl) ?_
      obtain ⟨b10, b10s, b10c, b10d, h⟩ := h
      refine r_callI (rm := rmm 2 b10 b10s) E w rfl yk_X4_init ⟨Nat.le_of_ble_eq_true rfl, Nat.le_of_ble_eq_true rfl⟩ ⟨show (cells + 1) + b10 ≤ mc by omega, show (slots + 2) + b10s ≤ ms by omega⟩ rfl ml_X5_57 im_X4_init [iv x1] rfl rfl hl [rv (some q7), iv (gI M1 h0 7), rv (gR M1 h0 0)] rfl (Nat.le_of_ble_eq_true rfl) (K_X4_init h) dX5_test_34 (fun M9 H locs h w => ?_)
      have hg : ((cells + 1) + b10) + ((gc - 1) - b10) ≤ mc ∧ ((slots + 2) + b10s) + ((gs - 2) - b10s) ≤ ms := ⟨by omega, by omega⟩
      obtain ⟨a11, ea11, h⟩ := h
      obtain ⟨ho12, h⟩ := h
      obtain ⟨ha13, h⟩ := h
      refine r_aast11 E w ea11 rfl ha13 ho12 dX5_test_37 (fun H locs w => ?_)
      obtain ⟨M14, eM14⟩ : ∃ z, z = pR M9 a11 (Int32.toNatClampNeg (gI M1 h0 7)) (some q7) := ⟨_, rfl⟩
      rw [← eM14] at w
      have h := h M14 eM14
      refine r_aload_n (x := (some h0)) hx hb dX5_test_38 rfl (lh_at hl 0 rfl) ?_
      refine r_dupr hx hb dX5_test_39 ?_
      obtain ⟨ho15, h⟩ := h
      refine r_getI E w rfl ho15 cl_X5 7 rfl fl_X5_54 dX5_test_40 ?_
      refine lv_iconst (v := (1 : Int32)) hx hb dX5_test_43 (by decide) ?_
      refine lv_iadd hx hb dX5_test_44 ?_
      refine r_putI (v := ((gI M14 h0 7) + (1 : Int32))) E w rfl ho15 cl_X5 7 rfl fl_X5_54 (Or.inl rfl) (Or.inl rfl) dX5_test_45 (fun H locs w => ?_)
      obtain ⟨M16, eM16⟩ : ∃ z, z = pI M14 h0 7 ((gI M14 h0 7) + (1 : Int32)) := ⟨_, rfl⟩
      rw [← eM16] at w
      have h := h M16 eM16
      refine r_aload_n (x := (some h0)) hx hb dX5_test_48 rfl (lh_at hl 0 rfl) ?_
      have ho15 : ok M16 h0 5 := by rw [eM16]; exact ho15
      refine r_getI E w rfl ho15 cl_X5 7 rfl fl_X5_54 dX5_test_49 ?_
      refine lv_iconst (v := (1 : Int32)) hx hb dX5_test_52 (by decide) ?_
      refine lv_isub hx hb dX5_test_53 ?_
      exact r_iret E w hr hlk h (show ((cells + 1) + b10) ≤ mc by omega) (show ((slots + 2) + b10s) ≤ ms by omega) dX5_test_54
    · have h := h.2 c5
      refine lv_bipush (v := (-2 : Int32)) hx hb dX5_test_18 (by decide) ?_
      exact r_iret E w hr hlk h (show cells ≤ mc by omega) (show slots ≤ ms by omega) dX5_test_20
  · have h := h.2 c3
    refine lv_iconst (v := (-1 : Int32)) hx hb dX5_test_7 (by decide) ?_
    exact r_iret E w hr hlk h (show cells ≤ mc by omega) (show slots ≤ ms by omega) dX5_test_8
theorem K_X5_test {l : Launch} {Q : Int32 → Mm → Prop} {h0 : Nat} {x1 : Int32} {gc gs : Nat} {M : Mm} (h : B_X5_test_0 Q h0 x1 gc gs M) : KI l yX5_test cdX5_test (rmm 3 gc gs) [rv (some h0), iv x1] M Q :=
  KI_of (by decide) rfl (Nat.le_of_ble_eq_true rfl) (fun p e s m args below meth c D cy A ls E hr hlk hn w hl => k_X5_test_0 E hr hlk _ _ _ _ _ _ _ _ _ _ h w hl ⟨Nat.le_of_eq (Nat.zero_add _), Nat.le_of_eq (Nat.zero_add _)⟩)
def B_X5_findTest_0 (Q : Option Nat → Mm → Prop)  (h0 : Nat) (x1 : Int32) (M : Mm) : Prop := ((x1 < 0 → Q none M) ∧ (¬ x1 < 0 → (ok M h0 5 ∧ (((gI M h0 7) ≤ x1 → Q none M) ∧ (¬ (gI M h0 7) ≤ x1 → (∃ a4, (gR M h0 0) = some a4 ∧ (ar M a4 11 x1 ∧ Q (gR M a4 (Int32.toNatClampNeg x1)) M)))))))
set_option maxHeartbeats 4000000 in
set_option maxRecDepth 100000 in
theorem k_X5_findTest_0 {p : Program} {l : Launch} {e : Env} {s : State} {m : MethodId} {args : Array Value} {below : List Frame} {meth : Method} {c : Code} {D : va_G} {cy : Nat → ClassId} {A : Nat → Prop} {Q : Option Nat → Mm → Prop} (E : Ex p m c cX5_findTest 2 s args RX5 D cy A) (hr : meth.sig.returnType = (some (.object "SlowWatch$Test"))) (hlk : meth.locks = false) : ∀ (h0 : Nat) (x1 : Int32) (M : Mm) (H : Heap) (locs : List Loc) (ls : Array Slot), B_X5_findTest_0 Q  h0 x1 M → Wd D cy A s M H locs → lh ls 2 [(0, rv (some h0)), (1, iv x1)] → W p l e (rmm 0 0 0) s m args below meth c H locs 0 0 (MQ below (va_Qq Q (Po D cy A) A) args s 0 0 A) (F0 m 0 ls []) := by
  obtain ⟨hx, hb, hml, hown, hts⟩ := E.1
  intro h0 x1 M H locs ls h w hl
  unfold B_X5_findTest_0 at h
  refine lv_iload_n (x := x1) hx hb dX5_findTest_0 rfl (lh_at hl 1 rfl) ?_
  refine lv_if_lt (tgt := 21) hx hb dX5_findTest_1 (by decide) (fun c1 => ?_) (fun c1 => ?_)
  · have h := h.1 c1
    refine r_null hx hb dX5_findTest_21 ?_
    exact r_aret (x := none) E w hr hlk h (Nat.le_refl 0) (Nat.le_refl 0) dX5_findTest_22
  · have h := h.2 c1
    refine lv_iload_n (x := x1) hx hb dX5_findTest_4 rfl (lh_at hl 1 rfl) ?_
    refine r_aload_n (x := (some h0)) hx hb dX5_findTest_5 rfl (lh_at hl 0 rfl) ?_
    obtain ⟨ho2, h⟩ := h
    refine r_getI E w rfl ho2 cl_X5 7 rfl fl_X5_54 dX5_findTest_6 ?_
    refine lv_icmp_ge (tgt := 21) hx hb dX5_findTest_9 (by decide) (fun c3 => ?_) (fun c3 => ?_)
    · have h := h.1 c3
      refine r_null hx hb dX5_findTest_21 ?_
      exact r_aret (x := none) E w hr hlk h (Nat.le_refl 0) (Nat.le_refl 0) dX5_findTest_22
    · have h := h.2 c3
      refine r_aload_n (x := (some h0)) hx hb dX5_findTest_12 rfl (lh_at hl 0 rfl) ?_
      refine r_getR E w rfl ho2 cl_X5 0 rfl fl_X5_11 dX5_findTest_13 ?_
      refine lv_iload_n (x := x1) hx hb dX5_findTest_16 rfl (lh_at hl 1 rfl) ?_
      obtain ⟨a4, ea4, h⟩ := h
      obtain ⟨ha5, h⟩ := h
      refine r_aald11 E w ea4 ha5 dX5_findTest_17 ?_
      refine lv_goto (tgt := 22) hx hb dX5_findTest_18 (by decide) ?_
      exact r_aret (x := (gR M a4 (Int32.toNatClampNeg x1))) E w hr hlk h (Nat.le_refl 0) (Nat.le_refl 0) dX5_findTest_22
theorem K_X5_findTest {l : Launch} {Q : Option Nat → Mm → Prop} {h0 : Nat} {x1 : Int32} {M : Mm} (h : B_X5_findTest_0 Q h0 x1 M) : KQ l yX5_findTest cdX5_findTest (rmm 0 0 0) [rv (some h0), iv x1] M Q :=
  KQ_of (by decide) rfl (Nat.le_of_ble_eq_true rfl) (fun p e s m args below meth c D cy A ls E hr hlk hn w hl => k_X5_findTest_0 E hr hlk _ _ _ _ _ _ h w hl)
def B_X5_is_0 (Q : Int32 → Mm → Prop)  (h0 : Nat) (x1 : Int32) (x2 : Int32) (M : Mm) : Prop := (ok M h0 5 ∧ (B_X5_findTest_0 (fun r3 M2 => ((r3 = none → Q (-1 : Int32) M2) ∧ (∀ a4, r3 = some a4 → (B_X5_isKind_0 (fun r7 M6 => ((¬ r7 = 0 → ((x2 = 0 → Q (1 : Int32) M6) ∧ (¬ x2 = 0 → (ok M6 a4 4 ∧ ((¬ x2 = (gI M6 a4 0) → Q (0 : Int32) M6) ∧ (x2 = (gI M6 a4 0) → Q (1 : Int32) M6)))))) ∧ (r7 = 0 → Q (-1 : Int32) M6))) x2 M2)))) h0 x1 M))
set_option maxHeartbeats 4000000 in
set_option maxRecDepth 100000 in
theorem k_X5_is_0 {p : Program} {l : Launch} {e : Env} {s : State} {m : MethodId} {args : Array Value} {below : List Frame} {meth : Method} {c : Code} {D : va_G} {cy : Nat → ClassId} {A : Nat → Prop} {Q : Int32 → Mm → Prop} (E : Ex p m c cX5_is 4 s args RX5 D cy A) (hr : meth.sig.returnType = (some .int)) (hlk : meth.locks = false) : ∀ (h0 : Nat) (x1 : Int32) (x2 : Int32) (M : Mm) (H : Heap) (locs : List Loc) (ls : Array Slot), B_X5_is_0 Q  h0 x1 x2 M → Wd D cy A s M H locs → lh ls 4 [(0, rv (some h0)), (1, iv x1), (2, iv x2)] → W p l e (rmm 2 0 0) s m args below meth c H locs 0 0 (MQ below (va_Qi Q (Po D cy A) A) args s 0 0 A) (F0 m 0 ls []) := by
  obtain ⟨hx, hb, hml, hown, hts⟩ := E.1
  intro h0 x1 x2 M H locs ls h w hl
  unfold B_X5_is_0 at h
  refine r_aload_n (x := (some h0)) hx hb dX5_is_0 rfl (lh_at hl 0 rfl) ?_
  refine lv_iload_n (x := x1) hx hb dX5_is_1 rfl (lh_at hl 1 rfl) ?_
  obtain ⟨ho1, h⟩ := h
  refine z_callVq E w rfl ho1 cl_X5 yk_X5_findTest ⟨Nat.le_of_ble_eq_true rfl, Nat.le_of_ble_eq_true rfl⟩ ⟨(Nat.zero_le _), (Nat.zero_le _)⟩ rfl ml_X5_60 im_X5_findTest sl_X5_findTest [iv x1] rfl rfl hl [] rfl (Nat.le_of_ble_eq_true rfl) (K_X5_findTest h) dX5_is_2 (fun r3 M2 H locs h w => ?_)
  refine r_astore_n (lv' := [(3, rv r3), (0, rv (some h0)), (1, iv x1), (2, iv x2)]) hx hb dX5_is_5 rfl hl (by decide) rfl (fun ls hl => ?_)
  refine r_aload_n (x := r3) hx hb dX5_is_6 rfl (lh_at hl 0 rfl) ?_
  refine r_ifnull (tgt := 17) hx hb dX5_is_7 (by decide) (fun c5 => ?_) (fun a4 ea4 => ?_)
  · have h := h.1 c5
    refine lv_iconst (v := (-1 : Int32)) hx hb dX5_is_17 (by decide) ?_
    exact r_iret E w hr hlk h (Nat.le_refl 0) (Nat.le_refl 0) dX5_is_18
  · have h := h.2 a4 ea4
    refine lv_iload_n (x := x2) hx hb dX5_is_10 rfl (lh_at hl 3 rfl) ?_
    refine z_callSi E w yk_X5_isKind ⟨Nat.le_of_ble_eq_true rfl, Nat.le_of_ble_eq_true rfl⟩ ⟨(Nat.zero_le _), (Nat.zero_le _)⟩ rfl ml_X5_50 st_X5_isKind [iv x2] rfl rfl hl [] rfl (Nat.le_of_ble_eq_true rfl) (K_X5_isKind h) dX5_is_11 (fun r7 M6 H locs h w => ?_)
    refine lv_if_ne (tgt := 19) hx hb dX5_is_14 (by decide) (fun c8 => ?_) (fun c8 => ?_)
    · have h := h.1 c8
      refine lv_iload_n (x := x2) hx hb dX5_is_19 rfl (lh_at hl 3 rfl) ?_
      refine lv_if_eq (tgt := 31) hx hb dX5_is_20 (by decide) (fun c9 => ?_) (fun c9 => ?_)
      · have h := h.1 c9
        refine lv_iconst (v := (1 : Int32)) hx hb dX5_is_31 (by decide) ?_
        refine lv_goto (tgt := 36) hx hb dX5_is_32 (by decide) ?_
        exact r_iret E w hr hlk h (Nat.le_refl 0) (Nat.le_refl 0) dX5_is_36
      · have h := h.2 c9
        refine lv_iload_n (x := x2) hx hb dX5_is_23 rfl (lh_at hl 3 rfl) ?_
        refine r_aload_n (x := r3) hx hb dX5_is_24 rfl (lh_at hl 0 rfl) ?_
        obtain ⟨ho10, h⟩ := h
        refine r_getI E w ea4 ho10 cl_X4 0 rfl fl_X5_64 dX5_is_25 ?_
        refine lv_icmp_ne (tgt := 35) hx hb dX5_is_28 (by decide) (fun c11 => ?_) (fun c11 => ?_)
        · have h := h.1 c11
          refine lv_iconst (v := (0 : Int32)) hx hb dX5_is_35 (by decide) ?_
          exact r_iret E w hr hlk h (Nat.le_refl 0) (Nat.le_refl 0) dX5_is_36
        · have h := h.2 c11
          refine lv_iconst (v := (1 : Int32)) hx hb dX5_is_31 (by decide) ?_
          refine lv_goto (tgt := 36) hx hb dX5_is_32 (by decide) ?_
          exact r_iret E w hr hlk h (Nat.le_refl 0) (Nat.le_refl 0) dX5_is_36
    · have h := h.2 c8
      refine lv_iconst (v := (-1 : Int32)) hx hb dX5_is_17 (by decide) ?_
      exact r_iret E w hr hlk h (Nat.le_refl 0) (Nat.le_refl 0) dX5_is_18
theorem K_X5_is {l : Launch} {Q : Int32 → Mm → Prop} {h0 : Nat} {x1 : Int32} {x2 : Int32} {M : Mm} (h : B_X5_is_0 Q h0 x1 x2 M) : KI l yX5_is cdX5_is (rmm 2 0 0) [rv (some h0), iv x1, iv x2] M Q :=
  KI_of (by decide) rfl (Nat.le_of_ble_eq_true rfl) (fun p e s m args below meth c D cy A ls E hr hlk hn w hl => k_X5_is_0 E hr hlk _ _ _ _ _ _ _ h w hl)
def B_X5_findRow_0 (Q : Option Nat → Mm → Prop)  (h0 : Nat) (x1 : Int32) (x2 : Int32) (M : Mm) : Prop := (ok M h0 5 ∧ (B_X5_findTest_0 (fun r3 M2 => ((r3 = none → Q none M2) ∧ (∀ a4, r3 = some a4 → ((x2 < 0 → Q none M2) ∧ (¬ x2 < 0 → ((x2 < (4 : Int32) → (ok M2 a4 4 ∧ (∃ a9, (gR M2 a4 1) = some a9 ∧ (ar M2 a9 10 x2 ∧ Q (gR M2 a9 (Int32.toNatClampNeg x2)) M2)))) ∧ (¬ x2 < (4 : Int32) → Q none M2))))))) h0 x1 M))
set_option maxHeartbeats 4000000 in
set_option maxRecDepth 100000 in
theorem k_X5_findRow_0 {p : Program} {l : Launch} {e : Env} {s : State} {m : MethodId} {args : Array Value} {below : List Frame} {meth : Method} {c : Code} {D : va_G} {cy : Nat → ClassId} {A : Nat → Prop} {Q : Option Nat → Mm → Prop} (E : Ex p m c cX5_findRow 4 s args RX5 D cy A) (hr : meth.sig.returnType = (some (.object "SlowWatch$Row"))) (hlk : meth.locks = false) : ∀ (h0 : Nat) (x1 : Int32) (x2 : Int32) (M : Mm) (H : Heap) (locs : List Loc) (ls : Array Slot), B_X5_findRow_0 Q  h0 x1 x2 M → Wd D cy A s M H locs → lh ls 4 [(0, rv (some h0)), (1, iv x1), (2, iv x2)] → W p l e (rmm 1 0 0) s m args below meth c H locs 0 0 (MQ below (va_Qq Q (Po D cy A) A) args s 0 0 A) (F0 m 0 ls []) := by
  obtain ⟨hx, hb, hml, hown, hts⟩ := E.1
  intro h0 x1 x2 M H locs ls h w hl
  unfold B_X5_findRow_0 at h
  refine r_aload_n (x := (some h0)) hx hb dX5_findRow_0 rfl (lh_at hl 0 rfl) ?_
  refine lv_iload_n (x := x1) hx hb dX5_findRow_1 rfl (lh_at hl 1 rfl) ?_
  obtain ⟨ho1, h⟩ := h
  refine z_callVq E w rfl ho1 cl_X5 yk_X5_findTest ⟨Nat.le_of_ble_eq_true rfl, Nat.le_of_ble_eq_true rfl⟩ ⟨(Nat.zero_le _), (Nat.zero_le _)⟩ rfl ml_X5_60 im_X5_findTest sl_X5_findTest [iv x1] rfl rfl hl [] rfl (Nat.le_of_ble_eq_true rfl) (K_X5_findTest h) dX5_findRow_2 (fun r3 M2 H locs h w => ?_)
  refine r_astore_n (lv' := [(3, rv r3), (0, rv (some h0)), (1, iv x1), (2, iv x2)]) hx hb dX5_findRow_5 rfl hl (by decide) rfl (fun ls hl => ?_)
  refine r_aload_n (x := r3) hx hb dX5_findRow_6 rfl (lh_at hl 0 rfl) ?_
  refine r_ifnull (tgt := 19) hx hb dX5_findRow_7 (by decide) (fun c5 => ?_) (fun a4 ea4 => ?_)
  · have h := h.1 c5
    refine r_null hx hb dX5_findRow_19 ?_
    refine lv_goto (tgt := 29) hx hb dX5_findRow_20 (by decide) ?_
    exact r_aret (x := none) E w hr hlk h (Nat.le_refl 0) (Nat.le_refl 0) dX5_findRow_29
  · have h := h.2 a4 ea4
    refine lv_iload_n (x := x2) hx hb dX5_findRow_10 rfl (lh_at hl 3 rfl) ?_
    refine lv_if_lt (tgt := 19) hx hb dX5_findRow_11 (by decide) (fun c6 => ?_) (fun c6 => ?_)
    · have h := h.1 c6
      refine r_null hx hb dX5_findRow_19 ?_
      refine lv_goto (tgt := 29) hx hb dX5_findRow_20 (by decide) ?_
      exact r_aret (x := none) E w hr hlk h (Nat.le_refl 0) (Nat.le_refl 0) dX5_findRow_29
    · have h := h.2 c6
      refine lv_iload_n (x := x2) hx hb dX5_findRow_14 rfl (lh_at hl 3 rfl) ?_
      refine lv_iconst (v := (4 : Int32)) hx hb dX5_findRow_15 (by decide) ?_
      refine lv_icmp_lt (tgt := 23) hx hb dX5_findRow_16 (by decide) (fun c7 => ?_) (fun c7 => ?_)
      · have h := h.1 c7
        refine r_aload_n (x := r3) hx hb dX5_findRow_23 rfl (lh_at hl 0 rfl) ?_
        obtain ⟨ho8, h⟩ := h
        refine r_getR E w ea4 ho8 cl_X4 1 rfl fl_X5_218 dX5_findRow_24 ?_
        refine lv_iload_n (x := x2) hx hb dX5_findRow_27 rfl (lh_at hl 3 rfl) ?_
        obtain ⟨a9, ea9, h⟩ := h
        obtain ⟨ha10, h⟩ := h
        refine r_aald10 E w ea9 ha10 dX5_findRow_28 ?_
        exact r_aret (x := (gR M2 a9 (Int32.toNatClampNeg x2))) E w hr hlk h (Nat.le_refl 0) (Nat.le_refl 0) dX5_findRow_29
      · have h := h.2 c7
        refine r_null hx hb dX5_findRow_19 ?_
        refine lv_goto (tgt := 29) hx hb dX5_findRow_20 (by decide) ?_
        exact r_aret (x := none) E w hr hlk h (Nat.le_refl 0) (Nat.le_refl 0) dX5_findRow_29
theorem K_X5_findRow {l : Launch} {Q : Option Nat → Mm → Prop} {h0 : Nat} {x1 : Int32} {x2 : Int32} {M : Mm} (h : B_X5_findRow_0 Q h0 x1 x2 M) : KQ l yX5_findRow cdX5_findRow (rmm 1 0 0) [rv (some h0), iv x1, iv x2] M Q :=
  KQ_of (by decide) rfl (Nat.le_of_ble_eq_true rfl) (fun p e s m args below meth c D cy A ls E hr hlk hn w hl => k_X5_findRow_0 E hr hlk _ _ _ _ _ _ _ h w hl)
def B_X5_row_25 (Q : Int32 → Mm → Prop)  (x3 : Option Nat) (s0 : Int32) (M : Mm) : Prop := (∃ a1, x3 = some a1 ∧ (ok M a1 3 ∧ (B_X3_empty_0 (fun  M3 => (ok M3 a1 3 ∧ (∀ M5, M5 = pI M3 a1 1 (1 : Int32) → Q s0 M5))) a1  M)))
set_option maxHeartbeats 4000000 in
set_option maxRecDepth 100000 in
theorem k_X5_row_25 {p : Program} {l : Launch} {e : Env} {s : State} {m : MethodId} {args : Array Value} {below : List Frame} {meth : Method} {c : Code} {D : va_G} {cy : Nat → ClassId} {A : Nat → Prop} {Q : Int32 → Mm → Prop} (E : Ex p m c cX5_row 5 s args RX5 D cy A) (hr : meth.sig.returnType = (some .int)) (hlk : meth.locks = false) : ∀ (x3 : Option Nat) (s0 : Int32) (M : Mm) (H : Heap) (locs : List Loc) (ls : Array Slot), B_X5_row_25 Q  x3 s0 M → Wd D cy A s M H locs → lh ls 5 [(3, rv x3)] → W p l e (rmm 2 0 0) s m args below meth c H locs 0 0 (MQ below (va_Qi Q (Po D cy A) A) args s 0 0 A) (F0 m 25 ls [.int s0]) := by
  obtain ⟨hx, hb, hml, hown, hts⟩ := E.1
  intro x3 s0 M H locs ls h w hl
  unfold B_X5_row_25 at h
  refine r_istore (lv' := [(4, iv s0), (3, rv x3)]) hx hb dX5_row_25 hl (by decide) rfl (fun ls hl => ?_)
  refine r_aload_n (x := x3) hx hb dX5_row_27 rfl (lh_at hl 1 rfl) ?_
  obtain ⟨a1, ea1, h⟩ := h
  obtain ⟨ho2, h⟩ := h
  refine z_callVv E w ea1 ho2 cl_X3 yk_X3_empty ⟨Nat.le_of_ble_eq_true rfl, Nat.le_of_ble_eq_true rfl⟩ ⟨(Nat.zero_le _), (Nat.zero_le _)⟩ rfl ml_X5_77 im_X3_empty sl_X3_empty [] rfl rfl hl [] rfl (Nat.le_of_ble_eq_true rfl) (K_X3_empty h) dX5_row_28 (fun  M3 H locs h w => ?_)
  refine r_aload_n (x := x3) hx hb dX5_row_31 rfl (lh_at hl 1 rfl) ?_
  refine lv_iconst (v := (1 : Int32)) hx hb dX5_row_32 (by decide) ?_
  obtain ⟨ho4, h⟩ := h
  refine r_putI (v := (1 : Int32)) E w ea1 ho4 cl_X3 1 rfl fl_X5_71 (Or.inl rfl) (Or.inr ⟨rfl, Or.inr rfl⟩) dX5_row_33 (fun H locs w => ?_)
  obtain ⟨M5, eM5⟩ : ∃ z, z = pI M3 a1 1 (1 : Int32) := ⟨_, rfl⟩
  rw [← eM5] at w
  have h := h M5 eM5
  refine lv_iload (x := s0) hx hb dX5_row_36 (lh_at hl 0 rfl) ?_
  exact r_iret E w hr hlk h (Nat.le_refl 0) (Nat.le_refl 0) dX5_row_38
def B_X5_row_0 (Q : Int32 → Mm → Prop)  (h0 : Nat) (x1 : Int32) (x2 : Int32) (M : Mm) : Prop := (ok M h0 5 ∧ (B_X5_findRow_0 (fun r3 M2 => ((r3 = none → Q (-1 : Int32) M2) ∧ (∀ a4, r3 = some a4 → (ok M2 a4 3 ∧ (((gI M2 a4 1) = 0 → B_X5_row_25 Q  r3 (0 : Int32) M2) ∧ (¬ (gI M2 a4 1) = 0 → B_X5_row_25 Q  r3 (1 : Int32) M2)))))) h0 x1 x2 M))
set_option maxHeartbeats 4000000 in
set_option maxRecDepth 100000 in
theorem k_X5_row_0 {p : Program} {l : Launch} {e : Env} {s : State} {m : MethodId} {args : Array Value} {below : List Frame} {meth : Method} {c : Code} {D : va_G} {cy : Nat → ClassId} {A : Nat → Prop} {Q : Int32 → Mm → Prop} (E : Ex p m c cX5_row 5 s args RX5 D cy A) (hr : meth.sig.returnType = (some .int)) (hlk : meth.locks = false) : ∀ (h0 : Nat) (x1 : Int32) (x2 : Int32) (M : Mm) (H : Heap) (locs : List Loc) (ls : Array Slot), B_X5_row_0 Q  h0 x1 x2 M → Wd D cy A s M H locs → lh ls 5 [(0, rv (some h0)), (1, iv x1), (2, iv x2)] → W p l e (rmm 2 0 0) s m args below meth c H locs 0 0 (MQ below (va_Qi Q (Po D cy A) A) args s 0 0 A) (F0 m 0 ls []) := by
  obtain ⟨hx, hb, hml, hown, hts⟩ := E.1
  intro h0 x1 x2 M H locs ls h w hl
  unfold B_X5_row_0 at h
  refine r_aload_n (x := (some h0)) hx hb dX5_row_0 rfl (lh_at hl 0 rfl) ?_
  refine lv_iload_n (x := x1) hx hb dX5_row_1 rfl (lh_at hl 1 rfl) ?_
  refine lv_iload_n (x := x2) hx hb dX5_row_2 rfl (lh_at hl 2 rfl) ?_
  obtain ⟨ho1, h⟩ := h
  refine z_callVq E w rfl ho1 cl_X5 yk_X5_findRow ⟨Nat.le_of_ble_eq_true rfl, Nat.le_of_ble_eq_true rfl⟩ ⟨(Nat.zero_le _), (Nat.zero_le _)⟩ rfl ml_X5_67 im_X5_findRow sl_X5_findRow [iv x1, iv x2] rfl rfl hl [] rfl (Nat.le_of_ble_eq_true rfl) (K_X5_findRow h) dX5_row_3 (fun r3 M2 H locs h w => ?_)
  refine r_astore_n (lv' := [(3, rv r3), (0, rv (some h0)), (1, iv x1), (2, iv x2)]) hx hb dX5_row_6 rfl hl (by decide) rfl (fun ls hl => ?_)
  refine r_aload_n (x := r3) hx hb dX5_row_7 rfl (lh_at hl 0 rfl) ?_
  refine r_ifnonnull (tgt := 13) hx hb dX5_row_8 (by decide) (fun c5 => ?_) (fun a4 ea4 => ?_)
  · have h := h.1 c5
    refine lv_iconst (v := (-1 : Int32)) hx hb dX5_row_11 (by decide) ?_
    exact r_iret E w hr hlk h (Nat.le_refl 0) (Nat.le_refl 0) dX5_row_12
  · have h := h.2 a4 ea4
    refine r_aload_n (x := r3) hx hb dX5_row_13 rfl (lh_at hl 0 rfl) ?_
    obtain ⟨ho6, h⟩ := h
    refine r_getI E w ea4 ho6 cl_X3 1 rfl fl_X5_71 dX5_row_14 ?_
    refine lv_if_eq (tgt := 24) hx hb dX5_row_17 (by decide) (fun c7 => ?_) (fun c7 => ?_)
    · have h := h.1 c7
      refine lv_iconst (v := (0 : Int32)) hx hb dX5_row_24 (by decide) ?_
      exact k_X5_row_25 E hr hlk  _ _ _ _ _ _ h w (lh_sub hl [0] rfl)
    · have h := h.2 c7
      refine lv_iconst (v := (1 : Int32)) hx hb dX5_row_20 (by decide) ?_
      refine lv_goto (tgt := 25) hx hb dX5_row_21 (by decide) ?_
      exact k_X5_row_25 E hr hlk  _ _ _ _ _ _ h w (lh_sub hl [0] rfl)
theorem K_X5_row {l : Launch} {Q : Int32 → Mm → Prop} {h0 : Nat} {x1 : Int32} {x2 : Int32} {M : Mm} (h : B_X5_row_0 Q h0 x1 x2 M) : KI l yX5_row cdX5_row (rmm 2 0 0) [rv (some h0), iv x1, iv x2] M Q :=
  KI_of (by decide) rfl (Nat.le_of_ble_eq_true rfl) (fun p e s m args below meth c D cy A ls E hr hlk hn w hl => k_X5_row_0 E hr hlk _ _ _ _ _ _ _ h w hl)
def B_X5_refuseWith_0 (Q : Int32 → Mm → Prop)  (h0 : Nat) (x1 : Int32) (M : Mm) : Prop := (ok M h0 5 ∧ (∀ M2, M2 = pI M h0 11 x1 → (∃ a3, (gR M2 h0 1) = some a3 ∧ (ar M2 a3 7 x1 ∧ (ar M2 a3 7 x1 ∧ (∀ M6, M6 = pI M2 a3 (Int32.toNatClampNeg x1) ((gI M2 a3 (Int32.toNatClampNeg x1)) + (1 : Int32)) → Q (-3 : Int32) M6))))))
set_option maxHeartbeats 4000000 in
set_option maxRecDepth 100000 in
theorem k_X5_refuseWith_0 {p : Program} {l : Launch} {e : Env} {s : State} {m : MethodId} {args : Array Value} {below : List Frame} {meth : Method} {c : Code} {D : va_G} {cy : Nat → ClassId} {A : Nat → Prop} {Q : Int32 → Mm → Prop} (E : Ex p m c cX5_refuseWith 2 s args RX5 D cy A) (hr : meth.sig.returnType = (some .int)) (hlk : meth.locks = false) : ∀ (h0 : Nat) (x1 : Int32) (M : Mm) (H : Heap) (locs : List Loc) (ls : Array Slot), B_X5_refuseWith_0 Q  h0 x1 M → Wd D cy A s M H locs → lh ls 2 [(0, rv (some h0)), (1, iv x1)] → W p l e (rmm 0 0 0) s m args below meth c H locs 0 0 (MQ below (va_Qi Q (Po D cy A) A) args s 0 0 A) (F0 m 0 ls []) := by
  obtain ⟨hx, hb, hml, hown, hts⟩ := E.1
  intro h0 x1 M H locs ls h w hl
  unfold B_X5_refuseWith_0 at h
  refine r_aload_n (x := (some h0)) hx hb dX5_refuseWith_0 rfl (lh_at hl 0 rfl) ?_
  refine lv_iload_n (x := x1) hx hb dX5_refuseWith_1 rfl (lh_at hl 1 rfl) ?_
  obtain ⟨ho1, h⟩ := h
  refine r_putI (v := x1) E w rfl ho1 cl_X5 11 rfl fl_X5_211 (Or.inl rfl) (Or.inl rfl) dX5_refuseWith_2 (fun H locs w => ?_)
  obtain ⟨M2, eM2⟩ : ∃ z, z = pI M h0 11 x1 := ⟨_, rfl⟩
  rw [← eM2] at w
  have h := h M2 eM2
  refine r_aload_n (x := (some h0)) hx hb dX5_refuseWith_5 rfl (lh_at hl 0 rfl) ?_
  have ho1 : ok M2 h0 5 := by rw [eM2]; exact ho1
  refine r_getR E w rfl ho1 cl_X5 1 rfl fl_X5_15 dX5_refuseWith_6 ?_
  refine lv_iload_n (x := x1) hx hb dX5_refuseWith_9 rfl (lh_at hl 1 rfl) ?_
  refine r_dup2r hx hb dX5_refuseWith_10 ?_
  obtain ⟨a3, ea3, h⟩ := h
  obtain ⟨ha4, h⟩ := h
  refine r_iald E w ea3 ha4 dX5_refuseWith_11 ?_
  refine lv_iconst (v := (1 : Int32)) hx hb dX5_refuseWith_12 (by decide) ?_
  refine lv_iadd hx hb dX5_refuseWith_13 ?_
  obtain ⟨ha5, h⟩ := h
  refine r_iast (v := ((gI M2 a3 (Int32.toNatClampNeg x1)) + (1 : Int32))) E w ea3 ha5 dX5_refuseWith_14 (fun H locs w => ?_)
  obtain ⟨M6, eM6⟩ : ∃ z, z = pI M2 a3 (Int32.toNatClampNeg x1) ((gI M2 a3 (Int32.toNatClampNeg x1)) + (1 : Int32)) := ⟨_, rfl⟩
  rw [← eM6] at w
  have h := h M6 eM6
  refine lv_bipush (v := (-3 : Int32)) hx hb dX5_refuseWith_15 (by decide) ?_
  exact r_iret E w hr hlk h (Nat.le_refl 0) (Nat.le_refl 0) dX5_refuseWith_17
theorem K_X5_refuseWith {l : Launch} {Q : Int32 → Mm → Prop} {h0 : Nat} {x1 : Int32} {M : Mm} (h : B_X5_refuseWith_0 Q h0 x1 M) : KI l yX5_refuseWith cdX5_refuseWith (rmm 0 0 0) [rv (some h0), iv x1] M Q :=
  KI_of (by decide) rfl (Nat.le_of_ble_eq_true rfl) (fun p e s m args below meth c D cy A ls E hr hlk hn w hl => k_X5_refuseWith_0 E hr hlk _ _ _ _ _ _ h w hl)
def B_X5_isPlace_0 (Q : Int32 → Mm → Prop)  (x0 : Int32) (M : Mm) : Prop := ((x0 < 0 → Q (0 : Int32) M) ∧ (¬ x0 < 0 → (((40 : Int32) ≤ x0 → Q (0 : Int32) M) ∧ (¬ (40 : Int32) ≤ x0 → Q (1 : Int32) M))))
set_option maxHeartbeats 4000000 in
set_option maxRecDepth 100000 in
theorem k_X5_isPlace_0 {p : Program} {l : Launch} {e : Env} {s : State} {m : MethodId} {args : Array Value} {below : List Frame} {meth : Method} {c : Code} {D : va_G} {cy : Nat → ClassId} {A : Nat → Prop} {Q : Int32 → Mm → Prop} (E : Ex p m c cX5_isPlace 1 s args RX5 D cy A) (hr : meth.sig.returnType = (some .boolean)) (hlk : meth.locks = false) : ∀ (x0 : Int32) (M : Mm) (H : Heap) (locs : List Loc) (ls : Array Slot), B_X5_isPlace_0 Q  x0 M → Wd D cy A s M H locs → lh ls 1 [(0, iv x0)] → W p l e (rmm 0 0 0) s m args below meth c H locs 0 0 (MQ below (va_Qi Q (Po D cy A) A) args s 0 0 A) (F0 m 0 ls []) := by
  obtain ⟨hx, hb, hml, hown, hts⟩ := E.1
  intro x0 M H locs ls h w hl
  unfold B_X5_isPlace_0 at h
  refine lv_iload_n (x := x0) hx hb dX5_isPlace_0 rfl (lh_at hl 0 rfl) ?_
  refine lv_if_lt (tgt := 14) hx hb dX5_isPlace_1 (by decide) (fun c1 => ?_) (fun c1 => ?_)
  · have h := h.1 c1
    refine lv_iconst (v := (0 : Int32)) hx hb dX5_isPlace_14 (by decide) ?_
    exact r_zret E w hr hlk ⟨Or.inl rfl, h⟩ (Nat.le_refl 0) (Nat.le_refl 0) dX5_isPlace_15
  · have h := h.2 c1
    refine lv_iload_n (x := x0) hx hb dX5_isPlace_4 rfl (lh_at hl 0 rfl) ?_
    refine lv_bipush (v := (40 : Int32)) hx hb dX5_isPlace_5 (by decide) ?_
    refine lv_icmp_ge (tgt := 14) hx hb dX5_isPlace_7 (by decide) (fun c2 => ?_) (fun c2 => ?_)
    · have h := h.1 c2
      refine lv_iconst (v := (0 : Int32)) hx hb dX5_isPlace_14 (by decide) ?_
      exact r_zret E w hr hlk ⟨Or.inl rfl, h⟩ (Nat.le_refl 0) (Nat.le_refl 0) dX5_isPlace_15
    · have h := h.2 c2
      refine lv_iconst (v := (1 : Int32)) hx hb dX5_isPlace_10 (by decide) ?_
      refine lv_goto (tgt := 15) hx hb dX5_isPlace_11 (by decide) ?_
      exact r_zret E w hr hlk ⟨Or.inr rfl, h⟩ (Nat.le_refl 0) (Nat.le_refl 0) dX5_isPlace_15
theorem K_X5_isPlace {l : Launch} {Q : Int32 → Mm → Prop} {x0 : Int32} {M : Mm} (h : B_X5_isPlace_0 Q x0 M) : KI l yX5_isPlace cdX5_isPlace (rmm 0 0 0) [iv x0] M Q :=
  KI_of (by decide) rfl (Nat.le_of_ble_eq_true rfl) (fun p e s m args below meth c D cy A ls E hr hlk hn w hl => k_X5_isPlace_0 E hr hlk _ _ _ _ _ h w hl)
def B_X5_lay_32 (Q : Int32 → Mm → Prop)  (h0 : Nat) (x3 : Int32) (x4 : Int32) (x5 : Option Nat) (M : Mm) : Prop := (∃ a1, x5 = some a1 ∧ (ok M a1 3 ∧ ((¬ (gI M a1 1) = 0 → (B_X5_isPlace_0 (fun r5 M4 => ((¬ r5 = 0 → (ok M4 a1 3 ∧ (∃ a8, (gR M4 a1 0) = some a8 ∧ (ar M4 a8 7 x3 ∧ (ar M4 a8 7 x3 ∧ (∀ M11, M11 = pI M4 a8 (Int32.toNatClampNeg x3) x4 → (∀ M12, M12 = pI M11 a1 3 (1 : Int32) → Q (gI M4 a8 (Int32.toNatClampNeg x3)) M12))))))) ∧ (r5 = 0 → (ok M4 h0 5 ∧ (B_X5_refuseWith_0 (fun r15 M14 => Q r15 M14) h0 (2 : Int32) M4))))) x3 M)) ∧ ((gI M a1 1) = 0 → (ok M h0 5 ∧ (B_X5_refuseWith_0 (fun r18 M17 => Q r18 M17) h0 (1 : Int32) M))))))
set_option maxHeartbeats 4000000 in
set_option maxRecDepth 100000 in
theorem k_X5_lay_32 {p : Program} {l : Launch} {e : Env} {s : State} {m : MethodId} {args : Array Value} {below : List Frame} {meth : Method} {c : Code} {D : va_G} {cy : Nat → ClassId} {A : Nat → Prop} {Q : Int32 → Mm → Prop} (E : Ex p m c cX5_lay 7 s args RX5 D cy A) (hr : meth.sig.returnType = (some .int)) (hlk : meth.locks = false) : ∀ (h0 : Nat) (x3 : Int32) (x4 : Int32) (x5 : Option Nat) (M : Mm) (H : Heap) (locs : List Loc) (ls : Array Slot), B_X5_lay_32 Q  h0 x3 x4 x5 M → Wd D cy A s M H locs → lh ls 7 [(0, rv (some h0)), (3, iv x3), (4, iv x4), (5, rv x5)] → W p l e (rmm 2 0 0) s m args below meth c H locs 0 0 (MQ below (va_Qi Q (Po D cy A) A) args s 0 0 A) (F0 m 32 ls []) := by
  obtain ⟨hx, hb, hml, hown, hts⟩ := E.1
  intro h0 x3 x4 x5 M H locs ls h w hl
  unfold B_X5_lay_32 at h
  refine r_aload (x := x5) hx hb dX5_lay_32 (lh_at hl 3 rfl) ?_
  obtain ⟨a1, ea1, h⟩ := h
  obtain ⟨ho2, h⟩ := h
  refine r_getI E w ea1 ho2 cl_X3 1 rfl fl_X5_71 dX5_lay_34 ?_
  refine lv_if_ne (tgt := 46) hx hb dX5_lay_37 (by decide) (fun c3 => ?_) (fun c3 => ?_)
  · have h := h.1 c3
    refine lv_iload_n (x := x3) hx hb dX5_lay_46 rfl (lh_at hl 1 rfl) ?_
    refine z_callSi E w yk_X5_isPlace ⟨Nat.le_of_ble_eq_true rfl, Nat.le_of_ble_eq_true rfl⟩ ⟨(Nat.zero_le _), (Nat.zero_le _)⟩ rfl ml_X5_89 st_X5_isPlace [iv x3] rfl rfl hl [] rfl (Nat.le_of_ble_eq_true rfl) (K_X5_isPlace h) dX5_lay_47 (fun r5 M4 H locs h w => ?_)
    refine lv_if_ne (tgt := 59) hx hb dX5_lay_50 (by decide) (fun c6 => ?_) (fun c6 => ?_)
    · have h := h.1 c6
      refine r_aload (x := x5) hx hb dX5_lay_59 (lh_at hl 3 rfl) ?_
      obtain ⟨ho7, h⟩ := h
      refine r_getR E w ea1 ho7 cl_X3 0 rfl fl_X5_92 dX5_lay_61 ?_
      refine lv_iload_n (x := x3) hx hb dX5_lay_64 rfl (lh_at hl 1 rfl) ?_
      obtain ⟨a8, ea8, h⟩ := h
      obtain ⟨ha9, h⟩ := h
      refine r_iald E w ea8 ha9 dX5_lay_65 ?_
      refine r_istore (lv' := [(6, iv (gI M4 a8 (Int32.toNatClampNeg x3))), (0, rv (some h0)), (3, iv x3), (4, iv x4), (5, rv x5)]) hx hb dX5_lay_66 hl (by decide) rfl (fun ls hl => ?_)
      refine r_aload (x := x5) hx hb dX5_lay_68 (lh_at hl 4 rfl) ?_
      refine r_getR E w ea1 ho7 cl_X3 0 rfl fl_X5_92 dX5_lay_70 ?_
      refine lv_iload_n (x := x3) hx hb dX5_lay_73 rfl (lh_at hl 2 rfl) ?_
      refine lv_iload (x := x4) hx hb dX5_lay_74 (lh_at hl 3 rfl) ?_
      obtain ⟨ha10, h⟩ := h
      refine r_iast (v := x4) E w ea8 ha10 dX5_lay_76 (fun H locs w => ?_)
      obtain ⟨M11, eM11⟩ : ∃ z, z = pI M4 a8 (Int32.toNatClampNeg x3) x4 := ⟨_, rfl⟩
      rw [← eM11] at w
      have h := h M11 eM11
      refine r_aload (x := x5) hx hb dX5_lay_77 (lh_at hl 4 rfl) ?_
      refine lv_iconst (v := (1 : Int32)) hx hb dX5_lay_79 (by decide) ?_
      have ho7 : ok M11 a1 3 := by rw [eM11]; exact ho7
      refine r_putI (v := (1 : Int32)) E w ea1 ho7 cl_X3 3 rfl fl_X5_95 (Or.inl rfl) (Or.inr ⟨rfl, Or.inr rfl⟩) dX5_lay_80 (fun H locs w => ?_)
      obtain ⟨M12, eM12⟩ : ∃ z, z = pI M11 a1 3 (1 : Int32) := ⟨_, rfl⟩
      rw [← eM12] at w
      have h := h M12 eM12
      refine lv_iload (x := (gI M4 a8 (Int32.toNatClampNeg x3))) hx hb dX5_lay_83 (lh_at hl 0 rfl) ?_
      exact r_iret E w hr hlk h (Nat.le_refl 0) (Nat.le_refl 0) dX5_lay_85
    · have h := h.2 c6
      refine r_aload_n (x := (some h0)) hx hb dX5_lay_53 rfl (lh_at hl 0 rfl) ?_
      refine lv_iconst (v := (2 : Int32)) hx hb dX5_lay_54 (by decide) ?_
      obtain ⟨ho13, h⟩ := h
      refine z_callVi E w rfl ho13 cl_X5 yk_X5_refuseWith ⟨Nat.le_of_ble_eq_true rfl, Nat.le_of_ble_eq_true rfl⟩ ⟨(Nat.zero_le _), (Nat.zero_le _)⟩ rfl ml_X5_85 im_X5_refuseWith sl_X5_refuseWith [iv (2 : Int32)] rfl rfl hl [] rfl (Nat.le_of_ble_eq_true rfl) (K_X5_refuseWith h) dX5_lay_55 (fun r15 M14 H locs h w => ?_)
      exact r_iret E w hr hlk h (Nat.le_refl 0) (Nat.le_refl 0) dX5_lay_58
  · have h := h.2 c3
    refine r_aload_n (x := (some h0)) hx hb dX5_lay_40 rfl (lh_at hl 0 rfl) ?_
    refine lv_iconst (v := (1 : Int32)) hx hb dX5_lay_41 (by decide) ?_
    obtain ⟨ho16, h⟩ := h
    refine z_callVi E w rfl ho16 cl_X5 yk_X5_refuseWith ⟨Nat.le_of_ble_eq_true rfl, Nat.le_of_ble_eq_true rfl⟩ ⟨(Nat.zero_le _), (Nat.zero_le _)⟩ rfl ml_X5_85 im_X5_refuseWith sl_X5_refuseWith [iv (1 : Int32)] rfl rfl hl [] rfl (Nat.le_of_ble_eq_true rfl) (K_X5_refuseWith h) dX5_lay_42 (fun r18 M17 H locs h w => ?_)
    exact r_iret E w hr hlk h (Nat.le_refl 0) (Nat.le_refl 0) dX5_lay_45
def B_X5_lay_0 (Q : Int32 → Mm → Prop)  (h0 : Nat) (x1 : Int32) (x2 : Int32) (x3 : Int32) (x4 : Int32) (M : Mm) : Prop := (ok M h0 5 ∧ (B_X5_findRow_0 (fun r3 M2 => ((r3 = none → Q (-1 : Int32) M2) ∧ (∀ a4, r3 = some a4 → ((x4 = (-9 : Int32) → B_X5_lay_32 Q  h0 x3 x4 r3 M2) ∧ (¬ x4 = (-9 : Int32) → (B_X5_isWithin_0 (fun r8 M7 => ((¬ r8 = 0 → B_X5_lay_32 Q  h0 x3 x4 r3 M7) ∧ (r8 = 0 → Q (-1 : Int32) M7))) x4 (1000000 : Int32) M2)))))) h0 x1 x2 M))
set_option maxHeartbeats 4000000 in
set_option maxRecDepth 100000 in
theorem k_X5_lay_0 {p : Program} {l : Launch} {e : Env} {s : State} {m : MethodId} {args : Array Value} {below : List Frame} {meth : Method} {c : Code} {D : va_G} {cy : Nat → ClassId} {A : Nat → Prop} {Q : Int32 → Mm → Prop} (E : Ex p m c cX5_lay 7 s args RX5 D cy A) (hr : meth.sig.returnType = (some .int)) (hlk : meth.locks = false) : ∀ (h0 : Nat) (x1 : Int32) (x2 : Int32) (x3 : Int32) (x4 : Int32) (M : Mm) (H : Heap) (locs : List Loc) (ls : Array Slot), B_X5_lay_0 Q  h0 x1 x2 x3 x4 M → Wd D cy A s M H locs → lh ls 7 [(0, rv (some h0)), (1, iv x1), (2, iv x2), (3, iv x3), (4, iv x4)] → W p l e (rmm 2 0 0) s m args below meth c H locs 0 0 (MQ below (va_Qi Q (Po D cy A) A) args s 0 0 A) (F0 m 0 ls []) := by
  obtain ⟨hx, hb, hml, hown, hts⟩ := E.1
  intro h0 x1 x2 x3 x4 M H locs ls h w hl
  unfold B_X5_lay_0 at h
  refine r_aload_n (x := (some h0)) hx hb dX5_lay_0 rfl (lh_at hl 0 rfl) ?_
  refine lv_iload_n (x := x1) hx hb dX5_lay_1 rfl (lh_at hl 1 rfl) ?_
  refine lv_iload_n (x := x2) hx hb dX5_lay_2 rfl (lh_at hl 2 rfl) ?_
  obtain ⟨ho1, h⟩ := h
  refine z_callVq E w rfl ho1 cl_X5 yk_X5_findRow ⟨Nat.le_of_ble_eq_true rfl, Nat.le_of_ble_eq_true rfl⟩ ⟨(Nat.zero_le _), (Nat.zero_le _)⟩ rfl ml_X5_67 im_X5_findRow sl_X5_findRow [iv x1, iv x2] rfl rfl hl [] rfl (Nat.le_of_ble_eq_true rfl) (K_X5_findRow h) dX5_lay_3 (fun r3 M2 H locs h w => ?_)
  refine r_astore (lv' := [(5, rv r3), (0, rv (some h0)), (1, iv x1), (2, iv x2), (3, iv x3), (4, iv x4)]) hx hb dX5_lay_6 hl (by decide) rfl (fun ls hl => ?_)
  refine r_aload (x := r3) hx hb dX5_lay_8 (lh_at hl 0 rfl) ?_
  refine r_ifnull (tgt := 30) hx hb dX5_lay_10 (by decide) (fun c5 => ?_) (fun a4 ea4 => ?_)
  · have h := h.1 c5
    refine lv_iconst (v := (-1 : Int32)) hx hb dX5_lay_30 (by decide) ?_
    exact r_iret E w hr hlk h (Nat.le_refl 0) (Nat.le_refl 0) dX5_lay_31
  · have h := h.2 a4 ea4
    refine lv_iload (x := x4) hx hb dX5_lay_13 (lh_at hl 5 rfl) ?_
    refine lv_bipush (v := (-9 : Int32)) hx hb dX5_lay_15 (by decide) ?_
    refine lv_icmp_eq (tgt := 32) hx hb dX5_lay_17 (by decide) (fun c6 => ?_) (fun c6 => ?_)
    · have h := h.1 c6
      exact k_X5_lay_32 E hr hlk  _ _ _ _ _ _ _ _ h w (lh_sub hl [1, 4, 5, 0] rfl)
    · have h := h.2 c6
      refine lv_iload (x := x4) hx hb dX5_lay_20 (lh_at hl 5 rfl) ?_
      refine lv_ldc (v := (1000000 : Int32)) hx hb hown (hts _ kc_X5_80) dX5_lay_22 ?_
      refine z_callSi E w yk_X5_isWithin ⟨Nat.le_of_ble_eq_true rfl, Nat.le_of_ble_eq_true rfl⟩ ⟨(Nat.zero_le _), (Nat.zero_le _)⟩ rfl ml_X5_81 st_X5_isWithin [iv x4, iv (1000000 : Int32)] rfl rfl hl [] rfl (Nat.le_of_ble_eq_true rfl) (K_X5_isWithin h) dX5_lay_24 (fun r8 M7 H locs h w => ?_)
      refine lv_if_ne (tgt := 32) hx hb dX5_lay_27 (by decide) (fun c9 => ?_) (fun c9 => ?_)
      · have h := h.1 c9
        exact k_X5_lay_32 E hr hlk  _ _ _ _ _ _ _ _ h w (lh_sub hl [1, 4, 5, 0] rfl)
      · have h := h.2 c9
        refine lv_iconst (v := (-1 : Int32)) hx hb dX5_lay_30 (by decide) ?_
        exact r_iret E w hr hlk h (Nat.le_refl 0) (Nat.le_refl 0) dX5_lay_31
theorem K_X5_lay {l : Launch} {Q : Int32 → Mm → Prop} {h0 : Nat} {x1 : Int32} {x2 : Int32} {x3 : Int32} {x4 : Int32} {M : Mm} (h : B_X5_lay_0 Q h0 x1 x2 x3 x4 M) : KI l yX5_lay cdX5_lay (rmm 2 0 0) [rv (some h0), iv x1, iv x2, iv x3, iv x4] M Q :=
  KI_of (by decide) rfl (Nat.le_of_ble_eq_true rfl) (fun p e s m args below meth c D cy A ls E hr hlk hn w hl => k_X5_lay_0 E hr hlk _ _ _ _ _ _ _ _ _ h w hl)
def B_X5_refuseRow_0 (Q : Int32 → Mm → Prop)  (h0 : Nat) (x1 : Option Nat) (M : Mm) : Prop := ((x1 = none → Q (-1 : Int32) M) ∧ (∀ a1, x1 = some a1 → (ok M h0 5 ∧ (B_X5_refuseWith_0 (fun r5 M4 => Q r5 M4) h0 (1 : Int32) M))))
set_option maxHeartbeats 4000000 in
set_option maxRecDepth 100000 in
theorem k_X5_refuseRow_0 {p : Program} {l : Launch} {e : Env} {s : State} {m : MethodId} {args : Array Value} {below : List Frame} {meth : Method} {c : Code} {D : va_G} {cy : Nat → ClassId} {A : Nat → Prop} {Q : Int32 → Mm → Prop} (E : Ex p m c cX5_refuseRow 2 s args RX5 D cy A) (hr : meth.sig.returnType = (some .int)) (hlk : meth.locks = false) : ∀ (h0 : Nat) (x1 : Option Nat) (M : Mm) (H : Heap) (locs : List Loc) (ls : Array Slot), B_X5_refuseRow_0 Q  h0 x1 M → Wd D cy A s M H locs → lh ls 2 [(0, rv (some h0)), (1, rv x1)] → W p l e (rmm 1 0 0) s m args below meth c H locs 0 0 (MQ below (va_Qi Q (Po D cy A) A) args s 0 0 A) (F0 m 0 ls []) := by
  obtain ⟨hx, hb, hml, hown, hts⟩ := E.1
  intro h0 x1 M H locs ls h w hl
  unfold B_X5_refuseRow_0 at h
  refine r_aload_n (x := x1) hx hb dX5_refuseRow_0 rfl (lh_at hl 1 rfl) ?_
  refine r_ifnonnull (tgt := 8) hx hb dX5_refuseRow_1 (by decide) (fun c2 => ?_) (fun a1 ea1 => ?_)
  · have h := h.1 c2
    refine lv_iconst (v := (-1 : Int32)) hx hb dX5_refuseRow_4 (by decide) ?_
    refine lv_goto (tgt := 13) hx hb dX5_refuseRow_5 (by decide) ?_
    exact r_iret E w hr hlk h (Nat.le_refl 0) (Nat.le_refl 0) dX5_refuseRow_13
  · have h := h.2 a1 ea1
    refine r_aload_n (x := (some h0)) hx hb dX5_refuseRow_8 rfl (lh_at hl 0 rfl) ?_
    refine lv_iconst (v := (1 : Int32)) hx hb dX5_refuseRow_9 (by decide) ?_
    obtain ⟨ho3, h⟩ := h
    refine z_callVi E w rfl ho3 cl_X5 yk_X5_refuseWith ⟨Nat.le_of_ble_eq_true rfl, Nat.le_of_ble_eq_true rfl⟩ ⟨(Nat.zero_le _), (Nat.zero_le _)⟩ rfl ml_X5_85 im_X5_refuseWith sl_X5_refuseWith [iv (1 : Int32)] rfl rfl hl [] rfl (Nat.le_of_ble_eq_true rfl) (K_X5_refuseWith h) dX5_refuseRow_10 (fun r5 M4 H locs h w => ?_)
    exact r_iret E w hr hlk h (Nat.le_refl 0) (Nat.le_refl 0) dX5_refuseRow_13
theorem K_X5_refuseRow {l : Launch} {Q : Int32 → Mm → Prop} {h0 : Nat} {x1 : Option Nat} {M : Mm} (h : B_X5_refuseRow_0 Q h0 x1 M) : KI l yX5_refuseRow cdX5_refuseRow (rmm 1 0 0) [rv (some h0), rv x1] M Q :=
  KI_of (by decide) rfl (Nat.le_of_ble_eq_true rfl) (fun p e s m args below meth c D cy A ls E hr hlk hn w hl => k_X5_refuseRow_0 E hr hlk _ _ _ _ _ _ h w hl)
def B_X5_at_21 (Q : Int32 → Mm → Prop)  (h0 : Nat) (x4 : Option Nat) (M : Mm) : Prop := (ok M h0 5 ∧ (B_X5_refuseRow_0 (fun r3 M2 => Q r3 M2) h0 x4 M))
set_option maxHeartbeats 4000000 in
set_option maxRecDepth 100000 in
theorem k_X5_at_21 {p : Program} {l : Launch} {e : Env} {s : State} {m : MethodId} {args : Array Value} {below : List Frame} {meth : Method} {c : Code} {D : va_G} {cy : Nat → ClassId} {A : Nat → Prop} {Q : Int32 → Mm → Prop} (E : Ex p m c cX5_at 5 s args RX5 D cy A) (hr : meth.sig.returnType = (some .int)) (hlk : meth.locks = false) : ∀ (h0 : Nat) (x4 : Option Nat) (M : Mm) (H : Heap) (locs : List Loc) (ls : Array Slot), B_X5_at_21 Q  h0 x4 M → Wd D cy A s M H locs → lh ls 5 [(0, rv (some h0)), (4, rv x4)] → W p l e (rmm 2 0 0) s m args below meth c H locs 0 0 (MQ below (va_Qi Q (Po D cy A) A) args s 0 0 A) (F0 m 21 ls []) := by
  obtain ⟨hx, hb, hml, hown, hts⟩ := E.1
  intro h0 x4 M H locs ls h w hl
  unfold B_X5_at_21 at h
  refine r_aload_n (x := (some h0)) hx hb dX5_at_21 rfl (lh_at hl 0 rfl) ?_
  refine r_aload (x := x4) hx hb dX5_at_22 (lh_at hl 1 rfl) ?_
  obtain ⟨ho1, h⟩ := h
  refine z_callVi E w rfl ho1 cl_X5 yk_X5_refuseRow ⟨Nat.le_of_ble_eq_true rfl, Nat.le_of_ble_eq_true rfl⟩ ⟨(Nat.zero_le _), (Nat.zero_le _)⟩ rfl ml_X5_98 im_X5_refuseRow sl_X5_refuseRow [rv x4] rfl rfl hl [] rfl (Nat.le_of_ble_eq_true rfl) (K_X5_refuseRow h) dX5_at_24 (fun r3 M2 H locs h w => ?_)
  exact r_iret E w hr hlk h (Nat.le_refl 0) (Nat.le_refl 0) dX5_at_27
def B_X5_at_0 (Q : Int32 → Mm → Prop)  (h0 : Nat) (x1 : Int32) (x2 : Int32) (x3 : Int32) (M : Mm) : Prop := (ok M h0 5 ∧ (B_X5_findRow_0 (fun r3 M2 => ((r3 = none → B_X5_at_21 Q  h0 r3 M2) ∧ (∀ a4, r3 = some a4 → (ok M2 a4 3 ∧ ((¬ (gI M2 a4 1) = 0 → (B_X5_isPlace_0 (fun r9 M8 => ((¬ r9 = 0 → (ok M8 a4 3 ∧ (∃ a12, (gR M8 a4 0) = some a12 ∧ (ar M8 a12 7 x3 ∧ Q (gI M8 a12 (Int32.toNatClampNeg x3)) M8)))) ∧ (r9 = 0 → (ok M8 h0 5 ∧ (B_X5_refuseWith_0 (fun r16 M15 => Q r16 M15) h0 (2 : Int32) M8))))) x3 M2)) ∧ ((gI M2 a4 1) = 0 → B_X5_at_21 Q  h0 r3 M2)))))) h0 x1 x2 M))
set_option maxHeartbeats 4000000 in
set_option maxRecDepth 100000 in
theorem k_X5_at_0 {p : Program} {l : Launch} {e : Env} {s : State} {m : MethodId} {args : Array Value} {below : List Frame} {meth : Method} {c : Code} {D : va_G} {cy : Nat → ClassId} {A : Nat → Prop} {Q : Int32 → Mm → Prop} (E : Ex p m c cX5_at 5 s args RX5 D cy A) (hr : meth.sig.returnType = (some .int)) (hlk : meth.locks = false) : ∀ (h0 : Nat) (x1 : Int32) (x2 : Int32) (x3 : Int32) (M : Mm) (H : Heap) (locs : List Loc) (ls : Array Slot), B_X5_at_0 Q  h0 x1 x2 x3 M → Wd D cy A s M H locs → lh ls 5 [(0, rv (some h0)), (1, iv x1), (2, iv x2), (3, iv x3)] → W p l e (rmm 2 0 0) s m args below meth c H locs 0 0 (MQ below (va_Qi Q (Po D cy A) A) args s 0 0 A) (F0 m 0 ls []) := by
  obtain ⟨hx, hb, hml, hown, hts⟩ := E.1
  intro h0 x1 x2 x3 M H locs ls h w hl
  unfold B_X5_at_0 at h
  refine r_aload_n (x := (some h0)) hx hb dX5_at_0 rfl (lh_at hl 0 rfl) ?_
  refine lv_iload_n (x := x1) hx hb dX5_at_1 rfl (lh_at hl 1 rfl) ?_
  refine lv_iload_n (x := x2) hx hb dX5_at_2 rfl (lh_at hl 2 rfl) ?_
  obtain ⟨ho1, h⟩ := h
  refine z_callVq E w rfl ho1 cl_X5 yk_X5_findRow ⟨Nat.le_of_ble_eq_true rfl, Nat.le_of_ble_eq_true rfl⟩ ⟨(Nat.zero_le _), (Nat.zero_le _)⟩ rfl ml_X5_67 im_X5_findRow sl_X5_findRow [iv x1, iv x2] rfl rfl hl [] rfl (Nat.le_of_ble_eq_true rfl) (K_X5_findRow h) dX5_at_3 (fun r3 M2 H locs h w => ?_)
  refine r_astore (lv' := [(4, rv r3), (0, rv (some h0)), (1, iv x1), (2, iv x2), (3, iv x3)]) hx hb dX5_at_6 hl (by decide) rfl (fun ls hl => ?_)
  refine r_aload (x := r3) hx hb dX5_at_8 (lh_at hl 0 rfl) ?_
  refine r_ifnull (tgt := 21) hx hb dX5_at_10 (by decide) (fun c5 => ?_) (fun a4 ea4 => ?_)
  · have h := h.1 c5
    exact k_X5_at_21 E hr hlk  _ _ _ _ _ _ h w (lh_sub hl [1, 0] rfl)
  · have h := h.2 a4 ea4
    refine r_aload (x := r3) hx hb dX5_at_13 (lh_at hl 0 rfl) ?_
    obtain ⟨ho6, h⟩ := h
    refine r_getI E w ea4 ho6 cl_X3 1 rfl fl_X5_71 dX5_at_15 ?_
    refine lv_if_ne (tgt := 28) hx hb dX5_at_18 (by decide) (fun c7 => ?_) (fun c7 => ?_)
    · have h := h.1 c7
      refine lv_iload_n (x := x3) hx hb dX5_at_28 rfl (lh_at hl 4 rfl) ?_
      refine z_callSi E w yk_X5_isPlace ⟨Nat.le_of_ble_eq_true rfl, Nat.le_of_ble_eq_true rfl⟩ ⟨(Nat.zero_le _), (Nat.zero_le _)⟩ rfl ml_X5_89 st_X5_isPlace [iv x3] rfl rfl hl [] rfl (Nat.le_of_ble_eq_true rfl) (K_X5_isPlace h) dX5_at_29 (fun r9 M8 H locs h w => ?_)
      refine lv_if_ne (tgt := 41) hx hb dX5_at_32 (by decide) (fun c10 => ?_) (fun c10 => ?_)
      · have h := h.1 c10
        refine r_aload (x := r3) hx hb dX5_at_41 (lh_at hl 0 rfl) ?_
        obtain ⟨ho11, h⟩ := h
        refine r_getR E w ea4 ho11 cl_X3 0 rfl fl_X5_92 dX5_at_43 ?_
        refine lv_iload_n (x := x3) hx hb dX5_at_46 rfl (lh_at hl 4 rfl) ?_
        obtain ⟨a12, ea12, h⟩ := h
        obtain ⟨ha13, h⟩ := h
        refine r_iald E w ea12 ha13 dX5_at_47 ?_
        exact r_iret E w hr hlk h (Nat.le_refl 0) (Nat.le_refl 0) dX5_at_48
      · have h := h.2 c10
        refine r_aload_n (x := (some h0)) hx hb dX5_at_35 rfl (lh_at hl 1 rfl) ?_
        refine lv_iconst (v := (2 : Int32)) hx hb dX5_at_36 (by decide) ?_
        obtain ⟨ho14, h⟩ := h
        refine z_callVi E w rfl ho14 cl_X5 yk_X5_refuseWith ⟨Nat.le_of_ble_eq_true rfl, Nat.le_of_ble_eq_true rfl⟩ ⟨(Nat.zero_le _), (Nat.zero_le _)⟩ rfl ml_X5_85 im_X5_refuseWith sl_X5_refuseWith [iv (2 : Int32)] rfl rfl hl [] rfl (Nat.le_of_ble_eq_true rfl) (K_X5_refuseWith h) dX5_at_37 (fun r16 M15 H locs h w => ?_)
        exact r_iret E w hr hlk h (Nat.le_refl 0) (Nat.le_refl 0) dX5_at_40
    · have h := h.2 c7
      exact k_X5_at_21 E hr hlk  _ _ _ _ _ _ h w (lh_sub hl [1, 0] rfl)
theorem K_X5_at {l : Launch} {Q : Int32 → Mm → Prop} {h0 : Nat} {x1 : Int32} {x2 : Int32} {x3 : Int32} {M : Mm} (h : B_X5_at_0 Q h0 x1 x2 x3 M) : KI l yX5_at cdX5_at (rmm 2 0 0) [rv (some h0), iv x1, iv x2, iv x3] M Q :=
  KI_of (by decide) rfl (Nat.le_of_ble_eq_true rfl) (fun p e s m args below meth c D cy A ls E hr hlk hn w hl => k_X5_at_0 E hr hlk _ _ _ _ _ _ _ _ h w hl)
def B_X5_tear_18 (Q : Int32 → Mm → Prop)  (h0 : Nat) (x3 : Option Nat) (M : Mm) : Prop := (ok M h0 5 ∧ (B_X5_refuseRow_0 (fun r3 M2 => Q r3 M2) h0 x3 M))
set_option maxHeartbeats 4000000 in
set_option maxRecDepth 100000 in
theorem k_X5_tear_18 {p : Program} {l : Launch} {e : Env} {s : State} {m : MethodId} {args : Array Value} {below : List Frame} {meth : Method} {c : Code} {D : va_G} {cy : Nat → ClassId} {A : Nat → Prop} {Q : Int32 → Mm → Prop} (E : Ex p m c cX5_tear 4 s args RX5 D cy A) (hr : meth.sig.returnType = (some .int)) (hlk : meth.locks = false) : ∀ (h0 : Nat) (x3 : Option Nat) (M : Mm) (H : Heap) (locs : List Loc) (ls : Array Slot), B_X5_tear_18 Q  h0 x3 M → Wd D cy A s M H locs → lh ls 4 [(0, rv (some h0)), (3, rv x3)] → W p l e (rmm 2 0 0) s m args below meth c H locs 0 0 (MQ below (va_Qi Q (Po D cy A) A) args s 0 0 A) (F0 m 18 ls []) := by
  obtain ⟨hx, hb, hml, hown, hts⟩ := E.1
  intro h0 x3 M H locs ls h w hl
  unfold B_X5_tear_18 at h
  refine r_aload_n (x := (some h0)) hx hb dX5_tear_18 rfl (lh_at hl 0 rfl) ?_
  refine r_aload_n (x := x3) hx hb dX5_tear_19 rfl (lh_at hl 1 rfl) ?_
  obtain ⟨ho1, h⟩ := h
  refine z_callVi E w rfl ho1 cl_X5 yk_X5_refuseRow ⟨Nat.le_of_ble_eq_true rfl, Nat.le_of_ble_eq_true rfl⟩ ⟨(Nat.zero_le _), (Nat.zero_le _)⟩ rfl ml_X5_98 im_X5_refuseRow sl_X5_refuseRow [rv x3] rfl rfl hl [] rfl (Nat.le_of_ble_eq_true rfl) (K_X5_refuseRow h) dX5_tear_20 (fun r3 M2 H locs h w => ?_)
  exact r_iret E w hr hlk h (Nat.le_refl 0) (Nat.le_refl 0) dX5_tear_23
def B_X5_tear_0 (Q : Int32 → Mm → Prop)  (h0 : Nat) (x1 : Int32) (x2 : Int32) (M : Mm) : Prop := (ok M h0 5 ∧ (B_X5_findRow_0 (fun r3 M2 => ((r3 = none → B_X5_tear_18 Q  h0 r3 M2) ∧ (∀ a4, r3 = some a4 → (ok M2 a4 3 ∧ ((¬ (gI M2 a4 1) = 0 → (B_X3_empty_0 (fun  M8 => (ok M8 a4 3 ∧ (∀ M10, M10 = pI M8 a4 1 (0 : Int32) → Q (1 : Int32) M10))) a4  M2)) ∧ ((gI M2 a4 1) = 0 → B_X5_tear_18 Q  h0 r3 M2)))))) h0 x1 x2 M))
set_option maxHeartbeats 4000000 in
set_option maxRecDepth 100000 in
theorem k_X5_tear_0 {p : Program} {l : Launch} {e : Env} {s : State} {m : MethodId} {args : Array Value} {below : List Frame} {meth : Method} {c : Code} {D : va_G} {cy : Nat → ClassId} {A : Nat → Prop} {Q : Int32 → Mm → Prop} (E : Ex p m c cX5_tear 4 s args RX5 D cy A) (hr : meth.sig.returnType = (some .int)) (hlk : meth.locks = false) : ∀ (h0 : Nat) (x1 : Int32) (x2 : Int32) (M : Mm) (H : Heap) (locs : List Loc) (ls : Array Slot), B_X5_tear_0 Q  h0 x1 x2 M → Wd D cy A s M H locs → lh ls 4 [(0, rv (some h0)), (1, iv x1), (2, iv x2)] → W p l e (rmm 2 0 0) s m args below meth c H locs 0 0 (MQ below (va_Qi Q (Po D cy A) A) args s 0 0 A) (F0 m 0 ls []) := by
  obtain ⟨hx, hb, hml, hown, hts⟩ := E.1
  intro h0 x1 x2 M H locs ls h w hl
  unfold B_X5_tear_0 at h
  refine r_aload_n (x := (some h0)) hx hb dX5_tear_0 rfl (lh_at hl 0 rfl) ?_
  refine lv_iload_n (x := x1) hx hb dX5_tear_1 rfl (lh_at hl 1 rfl) ?_
  refine lv_iload_n (x := x2) hx hb dX5_tear_2 rfl (lh_at hl 2 rfl) ?_
  obtain ⟨ho1, h⟩ := h
  refine z_callVq E w rfl ho1 cl_X5 yk_X5_findRow ⟨Nat.le_of_ble_eq_true rfl, Nat.le_of_ble_eq_true rfl⟩ ⟨(Nat.zero_le _), (Nat.zero_le _)⟩ rfl ml_X5_67 im_X5_findRow sl_X5_findRow [iv x1, iv x2] rfl rfl hl [] rfl (Nat.le_of_ble_eq_true rfl) (K_X5_findRow h) dX5_tear_3 (fun r3 M2 H locs h w => ?_)
  refine r_astore_n (lv' := [(3, rv r3), (0, rv (some h0)), (1, iv x1), (2, iv x2)]) hx hb dX5_tear_6 rfl hl (by decide) rfl (fun ls hl => ?_)
  refine r_aload_n (x := r3) hx hb dX5_tear_7 rfl (lh_at hl 0 rfl) ?_
  refine r_ifnull (tgt := 18) hx hb dX5_tear_8 (by decide) (fun c5 => ?_) (fun a4 ea4 => ?_)
  · have h := h.1 c5
    exact k_X5_tear_18 E hr hlk  _ _ _ _ _ _ h w (lh_sub hl [1, 0] rfl)
  · have h := h.2 a4 ea4
    refine r_aload_n (x := r3) hx hb dX5_tear_11 rfl (lh_at hl 0 rfl) ?_
    obtain ⟨ho6, h⟩ := h
    refine r_getI E w ea4 ho6 cl_X3 1 rfl fl_X5_71 dX5_tear_12 ?_
    refine lv_if_ne (tgt := 24) hx hb dX5_tear_15 (by decide) (fun c7 => ?_) (fun c7 => ?_)
    · have h := h.1 c7
      refine r_aload_n (x := r3) hx hb dX5_tear_24 rfl (lh_at hl 0 rfl) ?_
      refine z_callVv E w ea4 ho6 cl_X3 yk_X3_empty ⟨Nat.le_of_ble_eq_true rfl, Nat.le_of_ble_eq_true rfl⟩ ⟨(Nat.zero_le _), (Nat.zero_le _)⟩ rfl ml_X5_77 im_X3_empty sl_X3_empty [] rfl rfl hl [] rfl (Nat.le_of_ble_eq_true rfl) (K_X3_empty h) dX5_tear_25 (fun  M8 H locs h w => ?_)
      refine r_aload_n (x := r3) hx hb dX5_tear_28 rfl (lh_at hl 0 rfl) ?_
      refine lv_iconst (v := (0 : Int32)) hx hb dX5_tear_29 (by decide) ?_
      obtain ⟨ho9, h⟩ := h
      refine r_putI (v := (0 : Int32)) E w ea4 ho9 cl_X3 1 rfl fl_X5_71 (Or.inl rfl) (Or.inr ⟨rfl, Or.inl rfl⟩) dX5_tear_30 (fun H locs w => ?_)
      obtain ⟨M10, eM10⟩ : ∃ z, z = pI M8 a4 1 (0 : Int32) := ⟨_, rfl⟩
      rw [← eM10] at w
      have h := h M10 eM10
      refine lv_iconst (v := (1 : Int32)) hx hb dX5_tear_33 (by decide) ?_
      exact r_iret E w hr hlk h (Nat.le_refl 0) (Nat.le_refl 0) dX5_tear_34
    · have h := h.2 c7
      exact k_X5_tear_18 E hr hlk  _ _ _ _ _ _ h w (lh_sub hl [1, 0] rfl)
theorem K_X5_tear {l : Launch} {Q : Int32 → Mm → Prop} {h0 : Nat} {x1 : Int32} {x2 : Int32} {M : Mm} (h : B_X5_tear_0 Q h0 x1 x2 M) : KI l yX5_tear cdX5_tear (rmm 2 0 0) [rv (some h0), iv x1, iv x2] M Q :=
  KI_of (by decide) rfl (Nat.le_of_ble_eq_true rfl) (fun p e s m args below meth c D cy A ls E hr hlk hn w hl => k_X5_tear_0 E hr hlk _ _ _ _ _ _ _ h w hl)
def B_X5_holds_0 (Q : Int32 → Mm → Prop)  (x0 : Int32) (x1 : Int32) (M : Mm) : Prop := (B_X5_isWithin_0 (fun r2 M1 => ((r2 = 0 → Q (0 : Int32) M1) ∧ (¬ r2 = 0 → ((((40 : Int32) - x0) < x1 → Q (0 : Int32) M1) ∧ (¬ ((40 : Int32) - x0) < x1 → Q (1 : Int32) M1))))) x0 (40 : Int32) M)
set_option maxHeartbeats 4000000 in
set_option maxRecDepth 100000 in
theorem k_X5_holds_0 {p : Program} {l : Launch} {e : Env} {s : State} {m : MethodId} {args : Array Value} {below : List Frame} {meth : Method} {c : Code} {D : va_G} {cy : Nat → ClassId} {A : Nat → Prop} {Q : Int32 → Mm → Prop} (E : Ex p m c cX5_holds 2 s args RX5 D cy A) (hr : meth.sig.returnType = (some .boolean)) (hlk : meth.locks = false) : ∀ (x0 : Int32) (x1 : Int32) (M : Mm) (H : Heap) (locs : List Loc) (ls : Array Slot), B_X5_holds_0 Q  x0 x1 M → Wd D cy A s M H locs → lh ls 2 [(0, iv x0), (1, iv x1)] → W p l e (rmm 1 0 0) s m args below meth c H locs 0 0 (MQ below (va_Qi Q (Po D cy A) A) args s 0 0 A) (F0 m 0 ls []) := by
  obtain ⟨hx, hb, hml, hown, hts⟩ := E.1
  intro x0 x1 M H locs ls h w hl
  unfold B_X5_holds_0 at h
  refine lv_iload_n (x := x0) hx hb dX5_holds_0 rfl (lh_at hl 0 rfl) ?_
  refine lv_bipush (v := (40 : Int32)) hx hb dX5_holds_1 (by decide) ?_
  refine z_callSi E w yk_X5_isWithin ⟨Nat.le_of_ble_eq_true rfl, Nat.le_of_ble_eq_true rfl⟩ ⟨(Nat.zero_le _), (Nat.zero_le _)⟩ rfl ml_X5_81 st_X5_isWithin [iv x0, iv (40 : Int32)] rfl rfl hl [] rfl (Nat.le_of_ble_eq_true rfl) (K_X5_isWithin h) dX5_holds_3 (fun r2 M1 H locs h w => ?_)
  refine lv_if_eq (tgt := 21) hx hb dX5_holds_6 (by decide) (fun c3 => ?_) (fun c3 => ?_)
  · have h := h.1 c3
    refine lv_iconst (v := (0 : Int32)) hx hb dX5_holds_21 (by decide) ?_
    exact r_zret E w hr hlk ⟨Or.inl rfl, h⟩ (Nat.le_refl 0) (Nat.le_refl 0) dX5_holds_22
  · have h := h.2 c3
    refine lv_iload_n (x := x1) hx hb dX5_holds_9 rfl (lh_at hl 1 rfl) ?_
    refine lv_bipush (v := (40 : Int32)) hx hb dX5_holds_10 (by decide) ?_
    refine lv_iload_n (x := x0) hx hb dX5_holds_12 rfl (lh_at hl 0 rfl) ?_
    refine lv_isub hx hb dX5_holds_13 ?_
    refine lv_icmp_gt (tgt := 21) hx hb dX5_holds_14 (by decide) (fun c4 => ?_) (fun c4 => ?_)
    · have h := h.1 c4
      refine lv_iconst (v := (0 : Int32)) hx hb dX5_holds_21 (by decide) ?_
      exact r_zret E w hr hlk ⟨Or.inl rfl, h⟩ (Nat.le_refl 0) (Nat.le_refl 0) dX5_holds_22
    · have h := h.2 c4
      refine lv_iconst (v := (1 : Int32)) hx hb dX5_holds_17 (by decide) ?_
      refine lv_goto (tgt := 22) hx hb dX5_holds_18 (by decide) ?_
      exact r_zret E w hr hlk ⟨Or.inr rfl, h⟩ (Nat.le_refl 0) (Nat.le_refl 0) dX5_holds_22
theorem K_X5_holds {l : Launch} {Q : Int32 → Mm → Prop} {x0 : Int32} {x1 : Int32} {M : Mm} (h : B_X5_holds_0 Q x0 x1 M) : KI l yX5_holds cdX5_holds (rmm 1 0 0) [iv x0, iv x1] M Q :=
  KI_of (by decide) rfl (Nat.le_of_ble_eq_true rfl) (fun p e s m args below meth c D cy A ls E hr hlk hn w hl => k_X5_holds_0 E hr hlk _ _ _ _ _ _ h w hl)
def B_X5_copy_81 (Q : Int32 → Mm → Prop)  (h0 : Nat) (M : Mm) : Prop := (ok M h0 5 ∧ (B_X5_refuseWith_0 (fun r3 M2 => Q r3 M2) h0 (2 : Int32) M))
set_option maxHeartbeats 4000000 in
set_option maxRecDepth 100000 in
theorem k_X5_copy_81 {p : Program} {l : Launch} {e : Env} {s : State} {m : MethodId} {args : Array Value} {below : List Frame} {meth : Method} {c : Code} {D : va_G} {cy : Nat → ClassId} {A : Nat → Prop} {Q : Int32 → Mm → Prop} (E : Ex p m c cX5_copy 9 s args RX5 D cy A) (hr : meth.sig.returnType = (some .int)) (hlk : meth.locks = false) : ∀ (h0 : Nat) (M : Mm) (H : Heap) (locs : List Loc) (ls : Array Slot), B_X5_copy_81 Q  h0 M → Wd D cy A s M H locs → lh ls 9 [(0, rv (some h0))] → W p l e (rmm 2 0 0) s m args below meth c H locs 0 0 (MQ below (va_Qi Q (Po D cy A) A) args s 0 0 A) (F0 m 81 ls []) := by
  obtain ⟨hx, hb, hml, hown, hts⟩ := E.1
  intro h0 M H locs ls h w hl
  unfold B_X5_copy_81 at h
  refine r_aload_n (x := (some h0)) hx hb dX5_copy_81 rfl (lh_at hl 0 rfl) ?_
  refine lv_iconst (v := (2 : Int32)) hx hb dX5_copy_82 (by decide) ?_
  obtain ⟨ho1, h⟩ := h
  refine z_callVi E w rfl ho1 cl_X5 yk_X5_refuseWith ⟨Nat.le_of_ble_eq_true rfl, Nat.le_of_ble_eq_true rfl⟩ ⟨(Nat.zero_le _), (Nat.zero_le _)⟩ rfl ml_X5_85 im_X5_refuseWith sl_X5_refuseWith [iv (2 : Int32)] rfl rfl hl [] rfl (Nat.le_of_ble_eq_true rfl) (K_X5_refuseWith h) dX5_copy_83 (fun r3 M2 H locs h w => ?_)
  exact r_iret E w hr hlk h (Nat.le_refl 0) (Nat.le_refl 0) dX5_copy_86
def B_X5_copy_56 (Q : Int32 → Mm → Prop)  (h0 : Nat) (M : Mm) : Prop := (ok M h0 5 ∧ (B_X5_refuseWith_0 (fun r3 M2 => Q r3 M2) h0 (1 : Int32) M))
set_option maxHeartbeats 4000000 in
set_option maxRecDepth 100000 in
theorem k_X5_copy_56 {p : Program} {l : Launch} {e : Env} {s : State} {m : MethodId} {args : Array Value} {below : List Frame} {meth : Method} {c : Code} {D : va_G} {cy : Nat → ClassId} {A : Nat → Prop} {Q : Int32 → Mm → Prop} (E : Ex p m c cX5_copy 9 s args RX5 D cy A) (hr : meth.sig.returnType = (some .int)) (hlk : meth.locks = false) : ∀ (h0 : Nat) (M : Mm) (H : Heap) (locs : List Loc) (ls : Array Slot), B_X5_copy_56 Q  h0 M → Wd D cy A s M H locs → lh ls 9 [(0, rv (some h0))] → W p l e (rmm 2 0 0) s m args below meth c H locs 0 0 (MQ below (va_Qi Q (Po D cy A) A) args s 0 0 A) (F0 m 56 ls []) := by
  obtain ⟨hx, hb, hml, hown, hts⟩ := E.1
  intro h0 M H locs ls h w hl
  unfold B_X5_copy_56 at h
  refine r_aload_n (x := (some h0)) hx hb dX5_copy_56 rfl (lh_at hl 0 rfl) ?_
  refine lv_iconst (v := (1 : Int32)) hx hb dX5_copy_57 (by decide) ?_
  obtain ⟨ho1, h⟩ := h
  refine z_callVi E w rfl ho1 cl_X5 yk_X5_refuseWith ⟨Nat.le_of_ble_eq_true rfl, Nat.le_of_ble_eq_true rfl⟩ ⟨(Nat.zero_le _), (Nat.zero_le _)⟩ rfl ml_X5_85 im_X5_refuseWith sl_X5_refuseWith [iv (1 : Int32)] rfl rfl hl [] rfl (Nat.le_of_ble_eq_true rfl) (K_X5_refuseWith h) dX5_copy_58 (fun r3 M2 H locs h w => ?_)
  exact r_iret E w hr hlk h (Nat.le_refl 0) (Nat.le_refl 0) dX5_copy_61
def B_X5_copy_0 (Q : Int32 → Mm → Prop)  (h0 : Nat) (x1 : Int32) (x2 : Int32) (x3 : Int32) (x4 : Int32) (x5 : Int32) (x6 : Int32) (M : Mm) : Prop := (ok M h0 5 ∧ (B_X5_findRow_0 (fun r3 M2 => (ok M2 h0 5 ∧ (B_X5_findRow_0 (fun r6 M5 => ((r3 = none → Q (-1 : Int32) M5) ∧ (∀ a7, r3 = some a7 → ((r6 = none → Q (-1 : Int32) M5) ∧ (∀ a9, r6 = some a9 → ((0 ≤ x6 → (ok M5 a7 3 ∧ (((gI M5 a7 1) = 0 → B_X5_copy_56 Q  h0 M5) ∧ (¬ (gI M5 a7 1) = 0 → (ok M5 a9 3 ∧ ((¬ (gI M5 a9 1) = 0 → (B_X5_holds_0 (fun r17 M16 => ((r17 = 0 → B_X5_copy_81 Q  h0 M16) ∧ (¬ r17 = 0 → (B_X5_holds_0 (fun r20 M19 => ((¬ r20 = 0 → (ok M19 a7 3 ∧ (ok M19 a9 3 ∧ (∃ a24, (gR M19 a7 0) = some a24 ∧ (∃ a25, (gR M19 a9 0) = some a25 ∧ (ok M19 a24 7 ∧ (ok M19 a25 7 ∧ (¬ x3 < 0 ∧ ¬ x5 < 0 ∧ ¬ x6 < 0 ∧ Int32.toNatClampNeg x3 + Int32.toNatClampNeg x6 ≤ gN M19 a24 ∧ Int32.toNatClampNeg x5 + Int32.toNatClampNeg x6 ≤ gN M19 a25 ∧ (∀ M29, M29 = cI M19 a24 a25 (Int32.toNatClampNeg x3) (Int32.toNatClampNeg x5) (Int32.toNatClampNeg x6) → (∀ M30, M30 = pI M29 a9 3 (1 : Int32) → Q (1 : Int32) M30)))))))))) ∧ (r20 = 0 → B_X5_copy_81 Q  h0 M19))) x5 x6 M16)))) x3 x6 M5)) ∧ ((gI M5 a9 1) = 0 → B_X5_copy_56 Q  h0 M5))))))) ∧ (¬ 0 ≤ x6 → (ok M5 h0 5 ∧ (B_X5_refuseWith_0 (fun r33 M32 => Q r33 M32) h0 (5 : Int32) M5))))))))) h0 x1 x4 M2))) h0 x1 x2 M))
set_option maxHeartbeats 4000000 in
set_option maxRecDepth 100000 in
theorem k_X5_copy_0 {p : Program} {l : Launch} {e : Env} {s : State} {m : MethodId} {args : Array Value} {below : List Frame} {meth : Method} {c : Code} {D : va_G} {cy : Nat → ClassId} {A : Nat → Prop} {Q : Int32 → Mm → Prop} (E : Ex p m c cX5_copy 9 s args RX5 D cy A) (hr : meth.sig.returnType = (some .int)) (hlk : meth.locks = false) : ∀ (h0 : Nat) (x1 : Int32) (x2 : Int32) (x3 : Int32) (x4 : Int32) (x5 : Int32) (x6 : Int32) (M : Mm) (H : Heap) (locs : List Loc) (ls : Array Slot), B_X5_copy_0 Q  h0 x1 x2 x3 x4 x5 x6 M → Wd D cy A s M H locs → lh ls 9 [(0, rv (some h0)), (1, iv x1), (2, iv x2), (3, iv x3), (4, iv x4), (5, iv x5), (6, iv x6)] → W p l e (rmm 2 0 0) s m args below meth c H locs 0 0 (MQ below (va_Qi Q (Po D cy A) A) args s 0 0 A) (F0 m 0 ls []) := by
  obtain ⟨hx, hb, hml, hown, hts⟩ := E.1
  intro h0 x1 x2 x3 x4 x5 x6 M H locs ls h w hl
  unfold B_X5_copy_0 at h
  refine r_aload_n (x := (some h0)) hx hb dX5_copy_0 rfl (lh_at hl 0 rfl) ?_
  refine lv_iload_n (x := x1) hx hb dX5_copy_1 rfl (lh_at hl 1 rfl) ?_
  refine lv_iload_n (x := x2) hx hb dX5_copy_2 rfl (lh_at hl 2 rfl) ?_
  obtain ⟨ho1, h⟩ := h
  refine z_callVq E w rfl ho1 cl_X5 yk_X5_findRow ⟨Nat.le_of_ble_eq_true rfl, Nat.le_of_ble_eq_true rfl⟩ ⟨(Nat.zero_le _), (Nat.zero_le _)⟩ rfl ml_X5_67 im_X5_findRow sl_X5_findRow [iv x1, iv x2] rfl rfl hl [] rfl (Nat.le_of_ble_eq_true rfl) (K_X5_findRow h) dX5_copy_3 (fun r3 M2 H locs h w => ?_)
  refine r_astore (lv' := [(7, rv r3), (0, rv (some h0)), (1, iv x1), (2, iv x2), (3, iv x3), (4, iv x4), (5, iv x5), (6, iv x6)]) hx hb dX5_copy_6 hl (by decide) rfl (fun ls hl => ?_)
  refine r_aload_n (x := (some h0)) hx hb dX5_copy_8 rfl (lh_at hl 1 rfl) ?_
  refine lv_iload_n (x := x1) hx hb dX5_copy_9 rfl (lh_at hl 2 rfl) ?_
  refine lv_iload (x := x4) hx hb dX5_copy_10 (lh_at hl 5 rfl) ?_
  obtain ⟨ho4, h⟩ := h
  refine z_callVq E w rfl ho4 cl_X5 yk_X5_findRow ⟨Nat.le_of_ble_eq_true rfl, Nat.le_of_ble_eq_true rfl⟩ ⟨(Nat.zero_le _), (Nat.zero_le _)⟩ rfl ml_X5_67 im_X5_findRow sl_X5_findRow [iv x1, iv x4] rfl rfl hl [] rfl (Nat.le_of_ble_eq_true rfl) (K_X5_findRow h) dX5_copy_12 (fun r6 M5 H locs h w => ?_)
  refine r_astore (lv' := [(8, rv r6), (7, rv r3), (0, rv (some h0)), (1, iv x1), (2, iv x2), (3, iv x3), (4, iv x4), (5, iv x5), (6, iv x6)]) hx hb dX5_copy_15 hl (by decide) rfl (fun ls hl => ?_)
  refine r_aload (x := r3) hx hb dX5_copy_17 (lh_at hl 1 rfl) ?_
  refine r_ifnull (tgt := 27) hx hb dX5_copy_19 (by decide) (fun c8 => ?_) (fun a7 ea7 => ?_)
  · have h := h.1 c8
    refine lv_iconst (v := (-1 : Int32)) hx hb dX5_copy_27 (by decide) ?_
    exact r_iret E w hr hlk h (Nat.le_refl 0) (Nat.le_refl 0) dX5_copy_28
  · have h := h.2 a7 ea7
    refine r_aload (x := r6) hx hb dX5_copy_22 (lh_at hl 0 rfl) ?_
    refine r_ifnonnull (tgt := 29) hx hb dX5_copy_24 (by decide) (fun c10 => ?_) (fun a9 ea9 => ?_)
    · have h := h.1 c10
      refine lv_iconst (v := (-1 : Int32)) hx hb dX5_copy_27 (by decide) ?_
      exact r_iret E w hr hlk h (Nat.le_refl 0) (Nat.le_refl 0) dX5_copy_28
    · have h := h.2 a9 ea9
      refine lv_iload (x := x6) hx hb dX5_copy_29 (lh_at hl 8 rfl) ?_
      refine lv_if_ge (tgt := 40) hx hb dX5_copy_31 (by decide) (fun c11 => ?_) (fun c11 => ?_)
      · have h := h.1 c11
        refine r_aload (x := r3) hx hb dX5_copy_40 (lh_at hl 1 rfl) ?_
        obtain ⟨ho12, h⟩ := h
        refine r_getI E w ea7 ho12 cl_X3 1 rfl fl_X5_71 dX5_copy_42 ?_
        refine lv_if_eq (tgt := 56) hx hb dX5_copy_45 (by decide) (fun c13 => ?_) (fun c13 => ?_)
        · have h := h.1 c13
          exact k_X5_copy_56 E hr hlk  _ _ _ _ _ h w (lh_sub hl [2] rfl)
        · have h := h.2 c13
          refine r_aload (x := r6) hx hb dX5_copy_48 (lh_at hl 0 rfl) ?_
          obtain ⟨ho14, h⟩ := h
          refine r_getI E w ea9 ho14 cl_X3 1 rfl fl_X5_71 dX5_copy_50 ?_
          refine lv_if_ne (tgt := 62) hx hb dX5_copy_53 (by decide) (fun c15 => ?_) (fun c15 => ?_)
          · have h := h.1 c15
            refine lv_iload_n (x := x3) hx hb dX5_copy_62 rfl (lh_at hl 5 rfl) ?_
            refine lv_iload (x := x6) hx hb dX5_copy_63 (lh_at hl 8 rfl) ?_
            refine z_callSi E w yk_X5_holds ⟨Nat.le_of_ble_eq_true rfl, Nat.le_of_ble_eq_true rfl⟩ ⟨(Nat.zero_le _), (Nat.zero_le _)⟩ rfl ml_X5_102 st_X5_holds [iv x3, iv x6] rfl rfl hl [] rfl (Nat.le_of_ble_eq_true rfl) (K_X5_holds h) dX5_copy_65 (fun r17 M16 H locs h w => ?_)
            refine lv_if_eq (tgt := 81) hx hb dX5_copy_68 (by decide) (fun c18 => ?_) (fun c18 => ?_)
            · have h := h.1 c18
              exact k_X5_copy_81 E hr hlk  _ _ _ _ _ h w (lh_sub hl [2] rfl)
            · have h := h.2 c18
              refine lv_iload (x := x5) hx hb dX5_copy_71 (lh_at hl 7 rfl) ?_
              refine lv_iload (x := x6) hx hb dX5_copy_73 (lh_at hl 8 rfl) ?_
              refine z_callSi E w yk_X5_holds ⟨Nat.le_of_ble_eq_true rfl, Nat.le_of_ble_eq_true rfl⟩ ⟨(Nat.zero_le _), (Nat.zero_le _)⟩ rfl ml_X5_102 st_X5_holds [iv x5, iv x6] rfl rfl hl [] rfl (Nat.le_of_ble_eq_true rfl) (K_X5_holds h) dX5_copy_75 (fun r20 M19 H locs h w => ?_)
              refine lv_if_ne (tgt := 87) hx hb dX5_copy_78 (by decide) (fun c21 => ?_) (fun c21 => ?_)
              · have h := h.1 c21
                refine r_aload (x := r3) hx hb dX5_copy_87 (lh_at hl 1 rfl) ?_
                obtain ⟨ho22, h⟩ := h
                refine r_getR E w ea7 ho22 cl_X3 0 rfl fl_X5_92 dX5_copy_89 ?_
                refine lv_iload_n (x := x3) hx hb dX5_copy_92 rfl (lh_at hl 5 rfl) ?_
                refine r_aload (x := r6) hx hb dX5_copy_93 (lh_at hl 0 rfl) ?_
                obtain ⟨ho23, h⟩ := h
                refine r_getR E w ea9 ho23 cl_X3 0 rfl fl_X5_92 dX5_copy_95 ?_
                refine lv_iload (x := x5) hx hb dX5_copy_98 (lh_at hl 7 rfl) ?_
                refine lv_iload (x := x6) hx hb dX5_copy_100 (lh_at hl 8 rfl) ?_
                obtain ⟨a24, ea24, h⟩ := h
                obtain ⟨a25, ea25, h⟩ := h
                obtain ⟨ho26, h⟩ := h
                obtain ⟨ho27, h⟩ := h
                obtain ⟨z28a, z28b, z28c, z28d, z28e, h⟩ := h
                refine r_copy E w ea24 ea25 ho26 ho27 z28a z28b z28c z28d z28e ml_X5_105 hl (Nat.le_of_ble_eq_true rfl) (Nat.le_of_ble_eq_true rfl) dX5_copy_102 (fun H locs w => ?_)
                obtain ⟨M29, eM29⟩ : ∃ z, z = cI M19 a24 a25 (Int32.toNatClampNeg x3) (Int32.toNatClampNeg x5) (Int32.toNatClampNeg x6) := ⟨_, rfl⟩
                rw [← eM29] at w
                have h := h M29 eM29
                refine r_aload (x := r6) hx hb dX5_copy_105 (lh_at hl 0 rfl) ?_
                refine lv_iconst (v := (1 : Int32)) hx hb dX5_copy_107 (by decide) ?_
                have ho23 : ok M29 a9 3 := by rw [eM29]; exact ho23
                refine r_putI (v := (1 : Int32)) E w ea9 ho23 cl_X3 3 rfl fl_X5_95 (Or.inl rfl) (Or.inr ⟨rfl, Or.inr rfl⟩) dX5_copy_108 (fun H locs w => ?_)
                obtain ⟨M30, eM30⟩ : ∃ z, z = pI M29 a9 3 (1 : Int32) := ⟨_, rfl⟩
                rw [← eM30] at w
                have h := h M30 eM30
                refine lv_iconst (v := (1 : Int32)) hx hb dX5_copy_111 (by decide) ?_
                exact r_iret E w hr hlk h (Nat.le_refl 0) (Nat.le_refl 0) dX5_copy_112
              · have h := h.2 c21
                exact k_X5_copy_81 E hr hlk  _ _ _ _ _ h w (lh_sub hl [2] rfl)
          · have h := h.2 c15
            exact k_X5_copy_56 E hr hlk  _ _ _ _ _ h w (lh_sub hl [2] rfl)
      · have h := h.2 c11
        refine r_aload_n (x := (some h0)) hx hb dX5_copy_34 rfl (lh_at hl 2 rfl) ?_
        refine lv_iconst (v := (5 : Int32)) hx hb dX5_copy_35 (by decide) ?_
        obtain ⟨ho31, h⟩ := h
        refine z_callVi E w rfl ho31 cl_X5 yk_X5_refuseWith ⟨Nat.le_of_ble_eq_true rfl, Nat.le_of_ble_eq_true rfl⟩ ⟨(Nat.zero_le _), (Nat.zero_le _)⟩ rfl ml_X5_85 im_X5_refuseWith sl_X5_refuseWith [iv (5 : Int32)] rfl rfl hl [] rfl (Nat.le_of_ble_eq_true rfl) (K_X5_refuseWith h) dX5_copy_36 (fun r33 M32 H locs h w => ?_)
        exact r_iret E w hr hlk h (Nat.le_refl 0) (Nat.le_refl 0) dX5_copy_39
theorem K_X5_copy {l : Launch} {Q : Int32 → Mm → Prop} {h0 : Nat} {x1 : Int32} {x2 : Int32} {x3 : Int32} {x4 : Int32} {x5 : Int32} {x6 : Int32} {M : Mm} (h : B_X5_copy_0 Q h0 x1 x2 x3 x4 x5 x6 M) : KI l yX5_copy cdX5_copy (rmm 2 0 0) [rv (some h0), iv x1, iv x2, iv x3, iv x4, iv x5, iv x6] M Q :=
  KI_of (by decide) rfl (Nat.le_of_ble_eq_true rfl) (fun p e s m args below meth c D cy A ls E hr hlk hn w hl => k_X5_copy_0 E hr hlk _ _ _ _ _ _ _ _ _ _ _ h w hl)
def B_X5_rank_43 (Q : Int32 → Mm → Prop)  (h0 : Nat) (M : Mm) : Prop := (ok M h0 5 ∧ (B_X5_refuseWith_0 (fun r3 M2 => Q r3 M2) h0 (2 : Int32) M))
set_option maxHeartbeats 4000000 in
set_option maxRecDepth 100000 in
theorem k_X5_rank_43 {p : Program} {l : Launch} {e : Env} {s : State} {m : MethodId} {args : Array Value} {below : List Frame} {meth : Method} {c : Code} {D : va_G} {cy : Nat → ClassId} {A : Nat → Prop} {Q : Int32 → Mm → Prop} (E : Ex p m c cX5_rank 5 s args RX5 D cy A) (hr : meth.sig.returnType = (some .int)) (hlk : meth.locks = false) : ∀ (h0 : Nat) (M : Mm) (H : Heap) (locs : List Loc) (ls : Array Slot), B_X5_rank_43 Q  h0 M → Wd D cy A s M H locs → lh ls 5 [(0, rv (some h0))] → W p l e (rmm 2 0 0) s m args below meth c H locs 0 0 (MQ below (va_Qi Q (Po D cy A) A) args s 0 0 A) (F0 m 43 ls []) := by
  obtain ⟨hx, hb, hml, hown, hts⟩ := E.1
  intro h0 M H locs ls h w hl
  unfold B_X5_rank_43 at h
  refine r_aload_n (x := (some h0)) hx hb dX5_rank_43 rfl (lh_at hl 0 rfl) ?_
  refine lv_iconst (v := (2 : Int32)) hx hb dX5_rank_44 (by decide) ?_
  obtain ⟨ho1, h⟩ := h
  refine z_callVi E w rfl ho1 cl_X5 yk_X5_refuseWith ⟨Nat.le_of_ble_eq_true rfl, Nat.le_of_ble_eq_true rfl⟩ ⟨(Nat.zero_le _), (Nat.zero_le _)⟩ rfl ml_X5_85 im_X5_refuseWith sl_X5_refuseWith [iv (2 : Int32)] rfl rfl hl [] rfl (Nat.le_of_ble_eq_true rfl) (K_X5_refuseWith h) dX5_rank_45 (fun r3 M2 H locs h w => ?_)
  exact r_iret E w hr hlk h (Nat.le_refl 0) (Nat.le_refl 0) dX5_rank_48
def B_X5_rank_21 (Q : Int32 → Mm → Prop)  (h0 : Nat) (x4 : Option Nat) (M : Mm) : Prop := (ok M h0 5 ∧ (B_X5_refuseRow_0 (fun r3 M2 => Q r3 M2) h0 x4 M))
set_option maxHeartbeats 4000000 in
set_option maxRecDepth 100000 in
theorem k_X5_rank_21 {p : Program} {l : Launch} {e : Env} {s : State} {m : MethodId} {args : Array Value} {below : List Frame} {meth : Method} {c : Code} {D : va_G} {cy : Nat → ClassId} {A : Nat → Prop} {Q : Int32 → Mm → Prop} (E : Ex p m c cX5_rank 5 s args RX5 D cy A) (hr : meth.sig.returnType = (some .int)) (hlk : meth.locks = false) : ∀ (h0 : Nat) (x4 : Option Nat) (M : Mm) (H : Heap) (locs : List Loc) (ls : Array Slot), B_X5_rank_21 Q  h0 x4 M → Wd D cy A s M H locs → lh ls 5 [(0, rv (some h0)), (4, rv x4)] → W p l e (rmm 2 0 0) s m args below meth c H locs 0 0 (MQ below (va_Qi Q (Po D cy A) A) args s 0 0 A) (F0 m 21 ls []) := by
  obtain ⟨hx, hb, hml, hown, hts⟩ := E.1
  intro h0 x4 M H locs ls h w hl
  unfold B_X5_rank_21 at h
  refine r_aload_n (x := (some h0)) hx hb dX5_rank_21 rfl (lh_at hl 0 rfl) ?_
  refine r_aload (x := x4) hx hb dX5_rank_22 (lh_at hl 1 rfl) ?_
  obtain ⟨ho1, h⟩ := h
  refine z_callVi E w rfl ho1 cl_X5 yk_X5_refuseRow ⟨Nat.le_of_ble_eq_true rfl, Nat.le_of_ble_eq_true rfl⟩ ⟨(Nat.zero_le _), (Nat.zero_le _)⟩ rfl ml_X5_98 im_X5_refuseRow sl_X5_refuseRow [rv x4] rfl rfl hl [] rfl (Nat.le_of_ble_eq_true rfl) (K_X5_refuseRow h) dX5_rank_24 (fun r3 M2 H locs h w => ?_)
  exact r_iret E w hr hlk h (Nat.le_refl 0) (Nat.le_refl 0) dX5_rank_27
def B_X5_rank_0 (Q : Int32 → Mm → Prop)  (h0 : Nat) (x1 : Int32) (x2 : Int32) (x3 : Int32) (M : Mm) : Prop := (ok M h0 5 ∧ (B_X5_findRow_0 (fun r3 M2 => ((r3 = none → B_X5_rank_21 Q  h0 r3 M2) ∧ (∀ a4, r3 = some a4 → (ok M2 a4 3 ∧ ((¬ (gI M2 a4 1) = 0 → (B_X5_isPlace_0 (fun r9 M8 => ((r9 = 0 → B_X5_rank_43 Q  h0 M8) ∧ (¬ r9 = 0 → (ok M8 h0 5 ∧ ((x3 < (gI M8 h0 6) → (ok M8 a4 3 ∧ (∃ a14, (gR M8 a4 0) = some a14 ∧ (ar M8 a14 7 x3 ∧ ((¬ (gI M8 a14 (Int32.toNatClampNeg x3)) = (-9 : Int32) → (ar M8 a14 7 x3 ∧ (B_X3_rankOf_0 (fun r19 M18 => Q r19 M18) a4 (gI M8 a14 (Int32.toNatClampNeg x3)) (gI M8 h0 6) M8))) ∧ ((gI M8 a14 (Int32.toNatClampNeg x3)) = (-9 : Int32) → (B_X5_refuseWith_0 (fun r21 M20 => Q r21 M20) h0 (4 : Int32) M8))))))) ∧ (¬ x3 < (gI M8 h0 6) → B_X5_rank_43 Q  h0 M8)))))) x3 M2)) ∧ ((gI M2 a4 1) = 0 → B_X5_rank_21 Q  h0 r3 M2)))))) h0 x1 x2 M))
set_option maxHeartbeats 4000000 in
set_option maxRecDepth 100000 in
theorem k_X5_rank_0 {p : Program} {l : Launch} {e : Env} {s : State} {m : MethodId} {args : Array Value} {below : List Frame} {meth : Method} {c : Code} {D : va_G} {cy : Nat → ClassId} {A : Nat → Prop} {Q : Int32 → Mm → Prop} (E : Ex p m c cX5_rank 5 s args RX5 D cy A) (hr : meth.sig.returnType = (some .int)) (hlk : meth.locks = false) : ∀ (h0 : Nat) (x1 : Int32) (x2 : Int32) (x3 : Int32) (M : Mm) (H : Heap) (locs : List Loc) (ls : Array Slot), B_X5_rank_0 Q  h0 x1 x2 x3 M → Wd D cy A s M H locs → lh ls 5 [(0, rv (some h0)), (1, iv x1), (2, iv x2), (3, iv x3)] → W p l e (rmm 2 0 0) s m args below meth c H locs 0 0 (MQ below (va_Qi Q (Po D cy A) A) args s 0 0 A) (F0 m 0 ls []) := by
  obtain ⟨hx, hb, hml, hown, hts⟩ := E.1
  intro h0 x1 x2 x3 M H locs ls h w hl
  unfold B_X5_rank_0 at h
  refine r_aload_n (x := (some h0)) hx hb dX5_rank_0 rfl (lh_at hl 0 rfl) ?_
  refine lv_iload_n (x := x1) hx hb dX5_rank_1 rfl (lh_at hl 1 rfl) ?_
  refine lv_iload_n (x := x2) hx hb dX5_rank_2 rfl (lh_at hl 2 rfl) ?_
  obtain ⟨ho1, h⟩ := h
  refine z_callVq E w rfl ho1 cl_X5 yk_X5_findRow ⟨Nat.le_of_ble_eq_true rfl, Nat.le_of_ble_eq_true rfl⟩ ⟨(Nat.zero_le _), (Nat.zero_le _)⟩ rfl ml_X5_67 im_X5_findRow sl_X5_findRow [iv x1, iv x2] rfl rfl hl [] rfl (Nat.le_of_ble_eq_true rfl) (K_X5_findRow h) dX5_rank_3 (fun r3 M2 H locs h w => ?_)
  refine r_astore (lv' := [(4, rv r3), (0, rv (some h0)), (1, iv x1), (2, iv x2), (3, iv x3)]) hx hb dX5_rank_6 hl (by decide) rfl (fun ls hl => ?_)
  refine r_aload (x := r3) hx hb dX5_rank_8 (lh_at hl 0 rfl) ?_
  refine r_ifnull (tgt := 21) hx hb dX5_rank_10 (by decide) (fun c5 => ?_) (fun a4 ea4 => ?_)
  · have h := h.1 c5
    exact k_X5_rank_21 E hr hlk  _ _ _ _ _ _ h w (lh_sub hl [1, 0] rfl)
  · have h := h.2 a4 ea4
    refine r_aload (x := r3) hx hb dX5_rank_13 (lh_at hl 0 rfl) ?_
    obtain ⟨ho6, h⟩ := h
    refine r_getI E w ea4 ho6 cl_X3 1 rfl fl_X5_71 dX5_rank_15 ?_
    refine lv_if_ne (tgt := 28) hx hb dX5_rank_18 (by decide) (fun c7 => ?_) (fun c7 => ?_)
    · have h := h.1 c7
      refine lv_iload_n (x := x3) hx hb dX5_rank_28 rfl (lh_at hl 4 rfl) ?_
      refine z_callSi E w yk_X5_isPlace ⟨Nat.le_of_ble_eq_true rfl, Nat.le_of_ble_eq_true rfl⟩ ⟨(Nat.zero_le _), (Nat.zero_le _)⟩ rfl ml_X5_89 st_X5_isPlace [iv x3] rfl rfl hl [] rfl (Nat.le_of_ble_eq_true rfl) (K_X5_isPlace h) dX5_rank_29 (fun r9 M8 H locs h w => ?_)
      refine lv_if_eq (tgt := 43) hx hb dX5_rank_32 (by decide) (fun c10 => ?_) (fun c10 => ?_)
      · have h := h.1 c10
        exact k_X5_rank_43 E hr hlk  _ _ _ _ _ h w (lh_sub hl [1] rfl)
      · have h := h.2 c10
        refine lv_iload_n (x := x3) hx hb dX5_rank_35 rfl (lh_at hl 4 rfl) ?_
        refine r_aload_n (x := (some h0)) hx hb dX5_rank_36 rfl (lh_at hl 1 rfl) ?_
        obtain ⟨ho11, h⟩ := h
        refine r_getI E w rfl ho11 cl_X5 6 rfl fl_X5_47 dX5_rank_37 ?_
        refine lv_icmp_lt (tgt := 49) hx hb dX5_rank_40 (by decide) (fun c12 => ?_) (fun c12 => ?_)
        · have h := h.1 c12
          refine r_aload (x := r3) hx hb dX5_rank_49 (lh_at hl 0 rfl) ?_
          obtain ⟨ho13, h⟩ := h
          refine r_getR E w ea4 ho13 cl_X3 0 rfl fl_X5_92 dX5_rank_51 ?_
          refine lv_iload_n (x := x3) hx hb dX5_rank_54 rfl (lh_at hl 4 rfl) ?_
          obtain ⟨a14, ea14, h⟩ := h
          obtain ⟨ha15, h⟩ := h
          refine r_iald E w ea14 ha15 dX5_rank_55 ?_
          refine lv_bipush (v := (-9 : Int32)) hx hb dX5_rank_56 (by decide) ?_
          refine lv_icmp_ne (tgt := 67) hx hb dX5_rank_58 (by decide) (fun c16 => ?_) (fun c16 => ?_)
          · have h := h.1 c16
            refine r_aload (x := r3) hx hb dX5_rank_67 (lh_at hl 0 rfl) ?_
            refine r_aload (x := r3) hx hb dX5_rank_69 (lh_at hl 0 rfl) ?_
            refine r_getR E w ea4 ho13 cl_X3 0 rfl fl_X5_92 dX5_rank_71 ?_
            refine lv_iload_n (x := x3) hx hb dX5_rank_74 rfl (lh_at hl 4 rfl) ?_
            obtain ⟨ha17, h⟩ := h
            refine r_iald E w ea14 ha17 dX5_rank_75 ?_
            refine r_aload_n (x := (some h0)) hx hb dX5_rank_76 rfl (lh_at hl 1 rfl) ?_
            refine r_getI E w rfl ho11 cl_X5 6 rfl fl_X5_47 dX5_rank_77 ?_
            refine z_callVi E w ea4 ho13 cl_X3 yk_X3_rankOf ⟨Nat.le_of_ble_eq_true rfl, Nat.le_of_ble_eq_true rfl⟩ ⟨(Nat.zero_le _), (Nat.zero_le _)⟩ rfl ml_X5_111 im_X3_rankOf sl_X3_rankOf [iv (gI M8 a14 (Int32.toNatClampNeg x3)), iv (gI M8 h0 6)] rfl rfl hl [] rfl (Nat.le_of_ble_eq_true rfl) (K_X3_rankOf h) dX5_rank_80 (fun r19 M18 H locs h w => ?_)
            exact r_iret E w hr hlk h (Nat.le_refl 0) (Nat.le_refl 0) dX5_rank_83
          · have h := h.2 c16
            refine r_aload_n (x := (some h0)) hx hb dX5_rank_61 rfl (lh_at hl 1 rfl) ?_
            refine lv_iconst (v := (4 : Int32)) hx hb dX5_rank_62 (by decide) ?_
            refine z_callVi E w rfl ho11 cl_X5 yk_X5_refuseWith ⟨Nat.le_of_ble_eq_true rfl, Nat.le_of_ble_eq_true rfl⟩ ⟨(Nat.zero_le _), (Nat.zero_le _)⟩ rfl ml_X5_85 im_X5_refuseWith sl_X5_refuseWith [iv (4 : Int32)] rfl rfl hl [] rfl (Nat.le_of_ble_eq_true rfl) (K_X5_refuseWith h) dX5_rank_63 (fun r21 M20 H locs h w => ?_)
            exact r_iret E w hr hlk h (Nat.le_refl 0) (Nat.le_refl 0) dX5_rank_66
        · have h := h.2 c12
          exact k_X5_rank_43 E hr hlk  _ _ _ _ _ h w (lh_sub hl [1] rfl)
    · have h := h.2 c7
      exact k_X5_rank_21 E hr hlk  _ _ _ _ _ _ h w (lh_sub hl [1, 0] rfl)
theorem K_X5_rank {l : Launch} {Q : Int32 → Mm → Prop} {h0 : Nat} {x1 : Int32} {x2 : Int32} {x3 : Int32} {M : Mm} (h : B_X5_rank_0 Q h0 x1 x2 x3 M) : KI l yX5_rank cdX5_rank (rmm 2 0 0) [rv (some h0), iv x1, iv x2, iv x3] M Q :=
  KI_of (by decide) rfl (Nat.le_of_ble_eq_true rfl) (fun p e s m args below meth c D cy A ls E hr hlk hn w hl => k_X5_rank_0 E hr hlk _ _ _ _ _ _ _ _ h w hl)
def B_X5_mean_33 (Q : Int32 → Mm → Prop)  : Nat → Nat → Option Nat → Int32 → Int32 → Int32 → Mm → Prop
  | 0, _, _, _, _, _, _ => False
  | n + 1, h0, x3, x4, x5, x6, M => (ok M h0 5 ∧ (((gI M h0 6) ≤ x6 → ((¬ x5 = 0 → (¬ x5 = 0 ∧ Q (x4 / x5) M)) ∧ (x5 = 0 → (B_X5_refuseWith_0 (fun r6 M5 => Q r6 M5) h0 (4 : Int32) M)))) ∧ (¬ (gI M h0 6) ≤ x6 → (∃ a7, x3 = some a7 ∧ (ok M a7 3 ∧ (∃ a9, (gR M a7 0) = some a9 ∧ (ar M a9 7 x6 ∧ (((gI M a9 (Int32.toNatClampNeg x6)) = (-9 : Int32) → B_X5_mean_33 Q  n h0 x3 x4 x5 (x6 + 1) M) ∧ (¬ (gI M a9 (Int32.toNatClampNeg x6)) = (-9 : Int32) → (ar M a9 7 x6 ∧ B_X5_mean_33 Q  n h0 x3 (x4 + (gI M a9 (Int32.toNatClampNeg x6))) (x5 + 1) (x6 + 1) M))))))))))
set_option maxHeartbeats 4000000 in
set_option maxRecDepth 100000 in
theorem k_X5_mean_33 {p : Program} {l : Launch} {e : Env} {s : State} {m : MethodId} {args : Array Value} {below : List Frame} {meth : Method} {c : Code} {D : va_G} {cy : Nat → ClassId} {A : Nat → Prop} {Q : Int32 → Mm → Prop} (E : Ex p m c cX5_mean 7 s args RX5 D cy A) (hr : meth.sig.returnType = (some .int)) (hlk : meth.locks = false) : ∀ (n : Nat), ∀ (h0 : Nat) (x3 : Option Nat) (x4 : Int32) (x5 : Int32) (x6 : Int32) (M : Mm) (H : Heap) (locs : List Loc) (ls : Array Slot), B_X5_mean_33 Q  n h0 x3 x4 x5 x6 M → Wd D cy A s M H locs → lh ls 7 [(0, rv (some h0)), (3, rv x3), (4, iv x4), (5, iv x5), (6, iv x6)] → W p l e (rmm 2 0 0) s m args below meth c H locs 0 0 (MQ below (va_Qi Q (Po D cy A) A) args s 0 0 A) (F0 m 33 ls []) := by
  obtain ⟨hx, hb, hml, hown, hts⟩ := E.1
  intro n
  induction n with
  | zero => intro h0 x3 x4 x5 x6 M H locs ls h; exact False.elim h
  | succ n ih =>
    intro h0 x3 x4 x5 x6 M H locs ls h w hl
    unfold B_X5_mean_33 at h
    refine lv_iload (x := x6) hx hb dX5_mean_33 (lh_at hl 4 rfl) ?_
    refine r_aload_n (x := (some h0)) hx hb dX5_mean_35 rfl (lh_at hl 0 rfl) ?_
    obtain ⟨ho1, h⟩ := h
    refine r_getI E w rfl ho1 cl_X5 6 rfl fl_X5_47 dX5_mean_36 ?_
    refine lv_icmp_ge (tgt := 75) hx hb dX5_mean_39 (by decide) (fun c2 => ?_) (fun c2 => ?_)
    · have h := h.1 c2
      refine lv_iload (x := x5) hx hb dX5_mean_75 (lh_at hl 3 rfl) ?_
      refine lv_if_ne (tgt := 88) hx hb dX5_mean_77 (by decide) (fun c3 => ?_) (fun c3 => ?_)
      · have h := h.1 c3
        refine lv_iload (x := x4) hx hb dX5_mean_88 (lh_at hl 2 rfl) ?_
        refine lv_iload (x := x5) hx hb dX5_mean_90 (lh_at hl 3 rfl) ?_
        obtain ⟨hz4, h⟩ := h
        refine lv_idiv hx hb dX5_mean_92 hz4 ?_
        exact r_iret E w hr hlk h (Nat.le_refl 0) (Nat.le_refl 0) dX5_mean_93
      · have h := h.2 c3
        refine r_aload_n (x := (some h0)) hx hb dX5_mean_80 rfl (lh_at hl 0 rfl) ?_
        refine lv_iconst (v := (4 : Int32)) hx hb dX5_mean_81 (by decide) ?_
        refine z_callVi E w rfl ho1 cl_X5 yk_X5_refuseWith ⟨Nat.le_of_ble_eq_true rfl, Nat.le_of_ble_eq_true rfl⟩ ⟨(Nat.zero_le _), (Nat.zero_le _)⟩ rfl ml_X5_85 im_X5_refuseWith sl_X5_refuseWith [iv (4 : Int32)] rfl rfl hl [] rfl (Nat.le_of_ble_eq_true rfl) (K_X5_refuseWith h) dX5_mean_82 (fun r6 M5 H locs h w => ?_)
        refine lv_goto (tgt := 93) hx hb dX5_mean_85 (by decide) ?_
        exact r_iret E w hr hlk h (Nat.le_refl 0) (Nat.le_refl 0) dX5_mean_93
    · have h := h.2 c2
      refine r_aload_n (x := x3) hx hb dX5_mean_42 rfl (lh_at hl 1 rfl) ?_
      obtain ⟨a7, ea7, h⟩ := h
      obtain ⟨ho8, h⟩ := h
      refine r_getR E w ea7 ho8 cl_X3 0 rfl fl_X5_92 dX5_mean_43 ?_
      refine lv_iload (x := x6) hx hb dX5_mean_46 (lh_at hl 4 rfl) ?_
      obtain ⟨a9, ea9, h⟩ := h
      obtain ⟨ha10, h⟩ := h
      refine r_iald E w ea9 ha10 dX5_mean_48 ?_
      refine lv_bipush (v := (-9 : Int32)) hx hb dX5_mean_49 (by decide) ?_
      refine lv_icmp_eq (tgt := 69) hx hb dX5_mean_51 (by decide) (fun c11 => ?_) (fun c11 => ?_)
      · have h := h.1 c11
        refine r_iinc (k := 4) (x := x6) (v := (x6 + 1)) (lv' := [(6, iv (x6 + 1)), (0, rv (some h0)), (3, rv x3), (4, iv x4), (5, iv x5)]) hx hb dX5_mean_69 hl rfl rfl (by decide) rfl (fun ls hl => ?_)
        refine lv_goto (tgt := 33) hx hb dX5_mean_72 (by decide) ?_
        exact ih _ _ _ _ _ _ _ _ _ h w (lh_sub hl [1, 2, 3, 4, 0] rfl)
      · have h := h.2 c11
        refine lv_iload (x := x4) hx hb dX5_mean_54 (lh_at hl 2 rfl) ?_
        refine r_aload_n (x := x3) hx hb dX5_mean_56 rfl (lh_at hl 1 rfl) ?_
        refine r_getR E w ea7 ho8 cl_X3 0 rfl fl_X5_92 dX5_mean_57 ?_
        refine lv_iload (x := x6) hx hb dX5_mean_60 (lh_at hl 4 rfl) ?_
        obtain ⟨ha12, h⟩ := h
        refine r_iald E w ea9 ha12 dX5_mean_62 ?_
        refine lv_iadd hx hb dX5_mean_63 ?_
        refine r_istore (lv' := [(4, iv (x4 + (gI M a9 (Int32.toNatClampNeg x6)))), (0, rv (some h0)), (3, rv x3), (5, iv x5), (6, iv x6)]) hx hb dX5_mean_64 hl (by decide) rfl (fun ls hl => ?_)
        refine r_iinc (k := 3) (x := x5) (v := (x5 + 1)) (lv' := [(5, iv (x5 + 1)), (4, iv (x4 + (gI M a9 (Int32.toNatClampNeg x6)))), (0, rv (some h0)), (3, rv x3), (6, iv x6)]) hx hb dX5_mean_66 hl rfl rfl (by decide) rfl (fun ls hl => ?_)
        refine r_iinc (k := 4) (x := x6) (v := (x6 + 1)) (lv' := [(6, iv (x6 + 1)), (5, iv (x5 + 1)), (4, iv (x4 + (gI M a9 (Int32.toNatClampNeg x6)))), (0, rv (some h0)), (3, rv x3)]) hx hb dX5_mean_69 hl rfl rfl (by decide) rfl (fun ls hl => ?_)
        refine lv_goto (tgt := 33) hx hb dX5_mean_72 (by decide) ?_
        exact ih _ _ _ _ _ _ _ _ _ h w (lh_sub hl [3, 4, 2, 1, 0] rfl)
def B_X5_mean_18 (Q : Int32 → Mm → Prop)  (h0 : Nat) (x3 : Option Nat) (M : Mm) : Prop := (ok M h0 5 ∧ (B_X5_refuseRow_0 (fun r3 M2 => Q r3 M2) h0 x3 M))
set_option maxHeartbeats 4000000 in
set_option maxRecDepth 100000 in
theorem k_X5_mean_18 {p : Program} {l : Launch} {e : Env} {s : State} {m : MethodId} {args : Array Value} {below : List Frame} {meth : Method} {c : Code} {D : va_G} {cy : Nat → ClassId} {A : Nat → Prop} {Q : Int32 → Mm → Prop} (E : Ex p m c cX5_mean 7 s args RX5 D cy A) (hr : meth.sig.returnType = (some .int)) (hlk : meth.locks = false) : ∀ (h0 : Nat) (x3 : Option Nat) (M : Mm) (H : Heap) (locs : List Loc) (ls : Array Slot), B_X5_mean_18 Q  h0 x3 M → Wd D cy A s M H locs → lh ls 7 [(0, rv (some h0)), (3, rv x3)] → W p l e (rmm 2 0 0) s m args below meth c H locs 0 0 (MQ below (va_Qi Q (Po D cy A) A) args s 0 0 A) (F0 m 18 ls []) := by
  obtain ⟨hx, hb, hml, hown, hts⟩ := E.1
  intro h0 x3 M H locs ls h w hl
  unfold B_X5_mean_18 at h
  refine r_aload_n (x := (some h0)) hx hb dX5_mean_18 rfl (lh_at hl 0 rfl) ?_
  refine r_aload_n (x := x3) hx hb dX5_mean_19 rfl (lh_at hl 1 rfl) ?_
  obtain ⟨ho1, h⟩ := h
  refine z_callVi E w rfl ho1 cl_X5 yk_X5_refuseRow ⟨Nat.le_of_ble_eq_true rfl, Nat.le_of_ble_eq_true rfl⟩ ⟨(Nat.zero_le _), (Nat.zero_le _)⟩ rfl ml_X5_98 im_X5_refuseRow sl_X5_refuseRow [rv x3] rfl rfl hl [] rfl (Nat.le_of_ble_eq_true rfl) (K_X5_refuseRow h) dX5_mean_20 (fun r3 M2 H locs h w => ?_)
  exact r_iret E w hr hlk h (Nat.le_refl 0) (Nat.le_refl 0) dX5_mean_23
def B_X5_mean_0 (Q : Int32 → Mm → Prop)  (h0 : Nat) (x1 : Int32) (x2 : Int32) (M : Mm) : Prop := (ok M h0 5 ∧ (B_X5_findRow_0 (fun r3 M2 => ((r3 = none → B_X5_mean_18 Q  h0 r3 M2) ∧ (∀ a4, r3 = some a4 → (ok M2 a4 3 ∧ ((¬ (gI M2 a4 1) = 0 → (∃ n8, B_X5_mean_33 Q  n8 h0 r3 (0 : Int32) (0 : Int32) (0 : Int32) M2)) ∧ ((gI M2 a4 1) = 0 → B_X5_mean_18 Q  h0 r3 M2)))))) h0 x1 x2 M))
set_option maxHeartbeats 4000000 in
set_option maxRecDepth 100000 in
theorem k_X5_mean_0 {p : Program} {l : Launch} {e : Env} {s : State} {m : MethodId} {args : Array Value} {below : List Frame} {meth : Method} {c : Code} {D : va_G} {cy : Nat → ClassId} {A : Nat → Prop} {Q : Int32 → Mm → Prop} (E : Ex p m c cX5_mean 7 s args RX5 D cy A) (hr : meth.sig.returnType = (some .int)) (hlk : meth.locks = false) : ∀ (h0 : Nat) (x1 : Int32) (x2 : Int32) (M : Mm) (H : Heap) (locs : List Loc) (ls : Array Slot), B_X5_mean_0 Q  h0 x1 x2 M → Wd D cy A s M H locs → lh ls 7 [(0, rv (some h0)), (1, iv x1), (2, iv x2)] → W p l e (rmm 2 0 0) s m args below meth c H locs 0 0 (MQ below (va_Qi Q (Po D cy A) A) args s 0 0 A) (F0 m 0 ls []) := by
  obtain ⟨hx, hb, hml, hown, hts⟩ := E.1
  intro h0 x1 x2 M H locs ls h w hl
  unfold B_X5_mean_0 at h
  refine r_aload_n (x := (some h0)) hx hb dX5_mean_0 rfl (lh_at hl 0 rfl) ?_
  refine lv_iload_n (x := x1) hx hb dX5_mean_1 rfl (lh_at hl 1 rfl) ?_
  refine lv_iload_n (x := x2) hx hb dX5_mean_2 rfl (lh_at hl 2 rfl) ?_
  obtain ⟨ho1, h⟩ := h
  refine z_callVq E w rfl ho1 cl_X5 yk_X5_findRow ⟨Nat.le_of_ble_eq_true rfl, Nat.le_of_ble_eq_true rfl⟩ ⟨(Nat.zero_le _), (Nat.zero_le _)⟩ rfl ml_X5_67 im_X5_findRow sl_X5_findRow [iv x1, iv x2] rfl rfl hl [] rfl (Nat.le_of_ble_eq_true rfl) (K_X5_findRow h) dX5_mean_3 (fun r3 M2 H locs h w => ?_)
  refine r_astore_n (lv' := [(3, rv r3), (0, rv (some h0)), (1, iv x1), (2, iv x2)]) hx hb dX5_mean_6 rfl hl (by decide) rfl (fun ls hl => ?_)
  refine r_aload_n (x := r3) hx hb dX5_mean_7 rfl (lh_at hl 0 rfl) ?_
  refine r_ifnull (tgt := 18) hx hb dX5_mean_8 (by decide) (fun c5 => ?_) (fun a4 ea4 => ?_)
  · have h := h.1 c5
    exact k_X5_mean_18 E hr hlk  _ _ _ _ _ _ h w (lh_sub hl [1, 0] rfl)
  · have h := h.2 a4 ea4
    refine r_aload_n (x := r3) hx hb dX5_mean_11 rfl (lh_at hl 0 rfl) ?_
    obtain ⟨ho6, h⟩ := h
    refine r_getI E w ea4 ho6 cl_X3 1 rfl fl_X5_71 dX5_mean_12 ?_
    refine lv_if_ne (tgt := 24) hx hb dX5_mean_15 (by decide) (fun c7 => ?_) (fun c7 => ?_)
    · have h := h.1 c7
      refine lv_iconst (v := (0 : Int32)) hx hb dX5_mean_24 (by decide) ?_
      refine r_istore (lv' := [(4, iv (0 : Int32)), (3, rv r3), (0, rv (some h0)), (1, iv x1), (2, iv x2)]) hx hb dX5_mean_25 hl (by decide) rfl (fun ls hl => ?_)
      refine lv_iconst (v := (0 : Int32)) hx hb dX5_mean_27 (by decide) ?_
      refine r_istore (lv' := [(5, iv (0 : Int32)), (4, iv (0 : Int32)), (3, rv r3), (0, rv (some h0)), (1, iv x1), (2, iv x2)]) hx hb dX5_mean_28 hl (by decide) rfl (fun ls hl => ?_)
      refine lv_iconst (v := (0 : Int32)) hx hb dX5_mean_30 (by decide) ?_
      refine r_istore (lv' := [(6, iv (0 : Int32)), (5, iv (0 : Int32)), (4, iv (0 : Int32)), (3, rv r3), (0, rv (some h0)), (1, iv x1), (2, iv x2)]) hx hb dX5_mean_31 hl (by decide) rfl (fun ls hl => ?_)
      obtain ⟨n8, h⟩ := h
      exact k_X5_mean_33 E hr hlk  n8 _ _ _ _ _ _ _ _ _ h w (lh_sub hl [4, 3, 2, 1, 0] rfl)
    · have h := h.2 c7
      exact k_X5_mean_18 E hr hlk  _ _ _ _ _ _ h w (lh_sub hl [1, 0] rfl)
theorem K_X5_mean {l : Launch} {Q : Int32 → Mm → Prop} {h0 : Nat} {x1 : Int32} {x2 : Int32} {M : Mm} (h : B_X5_mean_0 Q h0 x1 x2 M) : KI l yX5_mean cdX5_mean (rmm 2 0 0) [rv (some h0), iv x1, iv x2] M Q :=
  KI_of (by decide) rfl (Nat.le_of_ble_eq_true rfl) (fun p e s m args below meth c D cy A ls E hr hlk hn w hl => k_X5_mean_0 E hr hlk _ _ _ _ _ _ _ h w hl)
