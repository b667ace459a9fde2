def B_X6_init_0 (Q : Mm → Prop)  (h0 : Nat) (gc : Nat) (gs : Nat) (M : Mm) : Prop := (1 ≤ gc ∧ 6 ≤ gs ∧ (∀ q2, q2 ∉ gL M → (∀ M3, M3 = nC M q2 7 6 → (ok M3 h0 6 ∧ (∀ M5, M5 = pR M3 h0 1 (some q2) → (1 ≤ (gc - 1) ∧ 8 ≤ (gs - 6) ∧ (∀ q7, q7 ∉ gL M5 → (∀ M8, M8 = nC M5 q7 7 8 → (ok M8 h0 6 ∧ (∀ M10, M10 = pR M8 h0 5 (some q7) → (1 ≤ ((gc - 1) - 1) ∧ 32 ≤ ((gs - 6) - 8) ∧ (∀ q12, q12 ∉ gL M10 → (∀ M13, M13 = nC M10 q12 9 32 → (ok M13 h0 6 ∧ (∀ M15, M15 = pR M13 h0 6 (some q12) → (1 ≤ (((gc - 1) - 1) - 1) ∧ 1280 ≤ (((gs - 6) - 8) - 32) ∧ (∀ q17, q17 ∉ gL M15 → (∀ M18, M18 = nC M15 q17 7 1280 → (ok M18 h0 6 ∧ (∀ M20, M20 = pR M18 h0 7 (some q17) → (1 ≤ ((((gc - 1) - 1) - 1) - 1) ∧ 40 ≤ ((((gs - 6) - 8) - 32) - 1280) ∧ (∀ q22, q22 ∉ gL M20 → (∀ M23, M23 = nC M20 q22 7 40 → (ok M23 h0 6 ∧ (∀ M25, M25 = pR M23 h0 8 (some q22) → (1 ≤ (((((gc - 1) - 1) - 1) - 1) - 1) ∧ 40 ≤ (((((gs - 6) - 8) - 32) - 1280) - 40) ∧ (∀ q27, q27 ∉ gL M25 → (∀ M28, M28 = nC M25 q27 7 40 → (ok M28 h0 6 ∧ (∀ M30, M30 = pR M28 h0 10 (some q27) → (1 ≤ ((((((gc - 1) - 1) - 1) - 1) - 1) - 1) ∧ 40 ≤ ((((((gs - 6) - 8) - 32) - 1280) - 40) - 40) ∧ (∀ q32, q32 ∉ gL M30 → (∀ M33, M33 = nC M30 q32 7 40 → (ok M33 h0 6 ∧ (∀ M35, M35 = pR M33 h0 11 (some q32) → (1 ≤ (((((((gc - 1) - 1) - 1) - 1) - 1) - 1) - 1) ∧ 40 ≤ (((((((gs - 6) - 8) - 32) - 1280) - 40) - 40) - 40) ∧ (∀ q37, q37 ∉ gL M35 → (∀ M38, M38 = nC M35 q37 7 40 → (ok M38 h0 6 ∧ (∀ M40, M40 = pR M38 h0 12 (some q37) → (1 ≤ ((((((((gc - 1) - 1) - 1) - 1) - 1) - 1) - 1) - 1) ∧ 41 ≤ ((((((((gs - 6) - 8) - 32) - 1280) - 40) - 40) - 40) - 40) ∧ (∀ q42, q42 ∉ gL M40 → (∀ M43, M43 = nC M40 q42 7 41 → (ok M43 h0 6 ∧ (∀ M45, M45 = pR M43 h0 15 (some q42) → (1 ≤ (((((((((gc - 1) - 1) - 1) - 1) - 1) - 1) - 1) - 1) - 1) ∧ 41 ≤ (((((((((gs - 6) - 8) - 32) - 1280) - 40) - 40) - 40) - 40) - 41) ∧ (∀ q47, q47 ∉ gL M45 → (∀ M48, M48 = nC M45 q47 7 41 → (ok M48 h0 6 ∧ (∀ M50, M50 = pR M48 h0 16 (some q47) → (1 ≤ ((((((((((gc - 1) - 1) - 1) - 1) - 1) - 1) - 1) - 1) - 1) - 1) ∧ 41 ≤ ((((((((((gs - 6) - 8) - 32) - 1280) - 40) - 40) - 40) - 40) - 41) - 41) ∧ (∀ q52, q52 ∉ gL M50 → (∀ M53, M53 = nC M50 q52 7 41 → (ok M53 h0 6 ∧ (∀ M55, M55 = pR M53 h0 17 (some q52) → (1 ≤ (((((((((((gc - 1) - 1) - 1) - 1) - 1) - 1) - 1) - 1) - 1) - 1) - 1) ∧ 41 ≤ (((((((((((gs - 6) - 8) - 32) - 1280) - 40) - 40) - 40) - 40) - 41) - 41) - 41) ∧ (∀ q57, q57 ∉ gL M55 → (∀ M58, M58 = nC M55 q57 7 41 → (ok M58 h0 6 ∧ (∀ M60, M60 = pR M58 h0 19 (some q57) → (1 ≤ ((((((((((((gc - 1) - 1) - 1) - 1) - 1) - 1) - 1) - 1) - 1) - 1) - 1) - 1) ∧ 40 ≤ ((((((((((((gs - 6) - 8) - 32) - 1280) - 40) - 40) - 40) - 40) - 41) - 41) - 41) - 41) ∧ (∀ q62, q62 ∉ gL M60 → (∀ M63, M63 = nC M60 q62 7 40 → (ok M63 h0 6 ∧ (∀ M65, M65 = pR M63 h0 20 (some q62) → (1 ≤ (((((((((((((gc - 1) - 1) - 1) - 1) - 1) - 1) - 1) - 1) - 1) - 1) - 1) - 1) - 1) ∧ 40 ≤ (((((((((((((gs - 6) - 8) - 32) - 1280) - 40) - 40) - 40) - 40) - 41) - 41) - 41) - 41) - 40) ∧ (∀ q67, q67 ∉ gL M65 → (∀ M68, M68 = nC M65 q67 7 40 → (ok M68 h0 6 ∧ (∀ M70, M70 = pR M68 h0 21 (some q67) → (1 ≤ ((((((((((((((gc - 1) - 1) - 1) - 1) - 1) - 1) - 1) - 1) - 1) - 1) - 1) - 1) - 1) - 1) ∧ 40 ≤ ((((((((((((((gs - 6) - 8) - 32) - 1280) - 40) - 40) - 40) - 40) - 41) - 41) - 41) - 41) - 40) - 40) ∧ (∀ q72, q72 ∉ gL M70 → (∀ M73, M73 = nC M70 q72 7 40 → (ok M73 h0 6 ∧ (∀ M75, M75 = pR M73 h0 23 (some q72) → (1 ≤ (((((((((((((((gc - 1) - 1) - 1) - 1) - 1) - 1) - 1) - 1) - 1) - 1) - 1) - 1) - 1) - 1) - 1) ∧ 40 ≤ (((((((((((((((gs - 6) - 8) - 32) - 1280) - 40) - 40) - 40) - 40) - 41) - 41) - 41) - 41) - 40) - 40) - 40) ∧ (∀ q77, q77 ∉ gL M75 → (∀ M78, M78 = nC M75 q77 9 40 → (ok M78 h0 6 ∧ (∀ M80, M80 = pR M78 h0 24 (some q77) → (1 ≤ ((((((((((((((((gc - 1) - 1) - 1) - 1) - 1) - 1) - 1) - 1) - 1) - 1) - 1) - 1) - 1) - 1) - 1) - 1) ∧ 35700 ≤ ((((((((((((((((gs - 6) - 8) - 32) - 1280) - 40) - 40) - 40) - 40) - 41) - 41) - 41) - 41) - 40) - 40) - 40) - 40) ∧ (∀ q82, q82 ∉ gL M80 → (∀ M83, M83 = nC M80 q82 8 35700 → (ok M83 h0 6 ∧ (∀ M85, M85 = pR M83 h0 29 (some q82) → (1 ≤ (((((((((((((((((gc - 1) - 1) - 1) - 1) - 1) - 1) - 1) - 1) - 1) - 1) - 1) - 1) - 1) - 1) - 1) - 1) - 1) ∧ 300 ≤ (((((((((((((((((gs - 6) - 8) - 32) - 1280) - 40) - 40) - 40) - 40) - 41) - 41) - 41) - 41) - 40) - 40) - 40) - 40) - 35700) ∧ (∀ q87, q87 ∉ gL M85 → (∀ M88, M88 = nC M85 q87 7 300 → (ok M88 h0 6 ∧ (∀ M90, M90 = pR M88 h0 31 (some q87) → (1 ≤ ((((((((((((((((((gc - 1) - 1) - 1) - 1) - 1) - 1) - 1) - 1) - 1) - 1) - 1) - 1) - 1) - 1) - 1) - 1) - 1) - 1) ∧ 1280 ≤ ((((((((((((((((((gs - 6) - 8) - 32) - 1280) - 40) - 40) - 40) - 40) - 41) - 41) - 41) - 41) - 40) - 40) - 40) - 40) - 35700) - 300) ∧ (∀ q92, q92 ∉ gL M90 → (∀ M93, M93 = nC M90 q92 9 1280 → (ok M93 h0 6 ∧ (∀ M95, M95 = pR M93 h0 32 (some q92) → (∀ M96, M96 = pI M95 h0 13 (20 : Int32) → (∀ M97, M97 = pI M96 h0 14 (1 : Int32) → (∀ M98, M98 = pJ M97 h0 28 (1 : Int64) → Q M98))))))))))))))))))))))))))))))))))))))))))))))))))))))))))))))))))))))))))))))))))))))))))))))))))
set_option maxHeartbeats 4000000 in
set_option maxRecDepth 100000 in
theorem k_X6_init_0 {p : Program} {l : Launch} {e : Env} {s : State} {m : MethodId} {args : Array Value} {below : List Frame} {meth : Method} {c : Code} {D : va_G} {cy : Nat → ClassId} {A : Nat → Prop} {mc ms : Nat} {Q : Mm → Prop} (E : Ex p m c cX6_init 1 s args RX6 D cy A) (hr : meth.sig.returnType = none) (hlk : meth.locks = false) (hin : meth.name = "<init>") : ∀ (h0 : Nat) (gc : Nat) (gs : Nat) (M : Mm) (H : Heap) (locs : List Loc) (ls : Array Slot) (cells slots : Nat), B_X6_init_0 Q  h0 gc gs M → Wd D cy A s M H locs → lh ls 1 [(0, rv (some h0))] → cells + gc ≤ mc ∧ slots + gs ≤ ms → W p l e (rmm 1 mc ms) s m args below meth c H locs cells slots (MQ below (va_Qv Q (Po D cy A) A) args s mc ms A) (F0 m 0 ls []) := by
  obtain ⟨hx, hb, hml, hown, hts⟩ := E.1
  intro h0 gc gs M H locs ls cells slots h w hl hg
  unfold B_X6_init_0 at h
  refine r_aload_n (x := (some h0)) hx hb dX6_init_0 rfl (lh_at hl 0 rfl) ?_
  refine W.objInit hx hb hown (hts _ ml_X6_1) (hts _ im_object) (hts _ cd_object) rfl (by rw [hml]; exact hl.1) rfl dX6_init_1 (Nat.le_of_ble_eq_true rfl) (Nat.le_of_ble_eq_true rfl) ?_
  refine W.eq (g2 := F0 m 4 ls []) rfl ?_
  refine r_aload_n (x := (some h0)) hx hb dX6_init_4 rfl (lh_at hl 0 rfl) ?_
  refine lv_bipush (v := (6 : Int32)) hx hb dX6_init_5 (by decide) ?_
  obtain ⟨g1a, g1b, h⟩ := h
  refine r_newa7 (N := 6) E w acl_int (by decide) (by decide) (by decide) (show cells + 1 ≤ mc by omega) (show slots + 6 ≤ ms by omega) dX6_init_7 (fun q2 H hq2 w => ?_)
  have h := h q2 hq2
  obtain ⟨M3, eM3⟩ : ∃ z, z = nC M q2 7 6 := ⟨_, rfl⟩
  rw [← eM3] at w
  have h := h M3 eM3
  have hg : (cells + 1) + (gc - 1) ≤ mc ∧ (slots + 6) + (gs - 6) ≤ ms := ⟨by omega, by omega⟩
  obtain ⟨ho4, h⟩ := h
  refine r_putR (v := (some q2)) E w rfl ho4 cl_X6 1 rfl fl_X6_7 (Or.inr ⟨rfl, hin, rfl⟩) (Or.inr ⟨_, rfl⟩) dX6_init_9 (fun H locs w => ?_)
  obtain ⟨M5, eM5⟩ : ∃ z, z = pR M3 h0 1 (some q2) := ⟨_, rfl⟩
  rw [← eM5] at w
  have h := h M5 eM5
  refine r_aload_n (x := (some h0)) hx hb dX6_init_12 rfl (lh_at hl 0 rfl) ?_
  refine lv_bipush (v := (8 : Int32)) hx hb dX6_init_13 (by decide) ?_
  obtain ⟨g6a, g6b, h⟩ := h
  refine r_newa7 (N := 8) E w acl_int (by decide) (by decide) (by decide) (show (cells + 1) + 1 ≤ mc by omega) (show (slots + 6) + 8 ≤ ms by omega) dX6_init_15 (fun q7 H hq7 w => ?_)
  have h := h q7 hq7
  obtain ⟨M8, eM8⟩ : ∃ z, z = nC M5 q7 7 8 := ⟨_, rfl⟩
  rw [← eM8] at w
  have h := h M8 eM8
  have hg : ((cells + 1) + 1) + ((gc - 1) - 1) ≤ mc ∧ ((slots + 6) + 8) + ((gs - 6) - 8) ≤ ms := ⟨by omega, by omega⟩
  obtain ⟨ho9, h⟩ := h
  refine r_putR (v := (some q7)) E w rfl ho9 cl_X6 5 rfl fl_X6_13 (Or.inr ⟨rfl, hin, rfl⟩) (Or.inr ⟨_, rfl⟩) dX6_init_17 (fun H locs w => ?_)
  obtain ⟨M10, eM10⟩ : ∃ z, z = pR M8 h0 5 (some q7) := ⟨_, rfl⟩
  rw [← eM10] at w
  have h := h M10 eM10
  refine r_aload_n (x := (some h0)) hx hb dX6_init_20 rfl (lh_at hl 0 rfl) ?_
  refine lv_bipush (v := (32 : Int32)) hx hb dX6_init_21 (by decide) ?_
  obtain ⟨g11a, g11b, h⟩ := h
  refine r_newa9 (N := 32) E w acl_boolean (by decide) (by decide) (by decide) (show ((cells + 1) + 1) + 1 ≤ mc by omega) (show ((slots + 6) + 8) + 32 ≤ ms by omega) dX6_init_23 (fun q12 H hq12 w => ?_)
  have h := h q12 hq12
  obtain ⟨M13, eM13⟩ : ∃ z, z = nC M10 q12 9 32 := ⟨_, rfl⟩
  rw [← eM13] at w
  have h := h M13 eM13
  have hg : (((cells + 1) + 1) + 1) + (((gc - 1) - 1) - 1) ≤ mc ∧ (((slots + 6) + 8) + 32) + (((gs - 6) - 8) - 32) ≤ ms := ⟨by omega, by omega⟩
  obtain ⟨ho14, h⟩ := h
  refine r_putR (v := (some q12)) E w rfl ho14 cl_X6 6 rfl fl_X6_16 (Or.inr ⟨rfl, hin, rfl⟩) (Or.inr ⟨_, rfl⟩) dX6_init_25 (fun H locs w => ?_)
  obtain ⟨M15, eM15⟩ : ∃ z, z = pR M13 h0 6 (some q12) := ⟨_, rfl⟩
  rw [← eM15] at w
  have h := h M15 eM15
  refine r_aload_n (x := (some h0)) hx hb dX6_init_28 rfl (lh_at hl 0 rfl) ?_
  refine lv_sipush (v := (1280 : Int32)) hx hb dX6_init_29 (by decide) ?_
  obtain ⟨g16a, g16b, h⟩ := h
  refine r_newa7 (N := 1280) E w acl_int (by decide) (by decide) (by decide) (show (((cells + 1) + 1) + 1) + 1 ≤ mc by omega) (show (((slots + 6) + 8) + 32) + 1280 ≤ ms by omega) dX6_init_32 (fun q17 H hq17 w => ?_)
  have h := h q17 hq17
  obtain ⟨M18, eM18⟩ : ∃ z, z = nC M15 q17 7 1280 := ⟨_, rfl⟩
  rw [← eM18] at w
  have h := h M18 eM18
  have hg : ((((cells + 1) + 1) + 1) + 1) + ((((gc - 1) - 1) - 1) - 1) ≤ mc ∧ ((((slots + 6) + 8) + 32) + 1280) + ((((gs - 6) - 8) - 32) - 1280) ≤ ms := ⟨by omega, by omega⟩
  obtain ⟨ho19, h⟩ := h
  refine r_putR (v := (some q17)) E w rfl ho19 cl_X6 7 rfl fl_X6_20 (Or.inr ⟨rfl, hin, rfl⟩) (Or.inr ⟨_, rfl⟩) dX6_init_34 (fun H locs w => ?_)
  obtain ⟨M20, eM20⟩ : ∃ z, z = pR M18 h0 7 (some q17) := ⟨_, rfl⟩
  rw [← eM20] at w
  have h := h M20 eM20
  refine r_aload_n (x := (some h0)) hx hb dX6_init_37 rfl (lh_at hl 0 rfl) ?_
  refine lv_bipush (v := (40 : Int32)) hx hb dX6_init_38 (by decide) ?_
  obtain ⟨g21a, g21b, h⟩ := h
  refine r_newa7 (N := 40) E w acl_int (by decide) (by decide) (by decide) (show ((((cells + 1) + 1) + 1) + 1) + 1 ≤ mc by omega) (show ((((slots + 6) + 8) + 32) + 1280) + 40 ≤ ms by omega) dX6_init_40 (fun q22 H hq22 w => ?_)
  have h := h q22 hq22
  obtain ⟨M23, eM23⟩ : ∃ z, z = nC M20 q22 7 40 := ⟨_, rfl⟩
  rw [← eM23] at w
  have h := h M23 eM23
  have hg : (((((cells + 1) + 1) + 1) + 1) + 1) + (((((gc - 1) - 1) - 1) - 1) - 1) ≤ mc ∧ (((((slots + 6) + 8) + 32) + 1280) + 40) + (((((gs - 6) - 8) - 32) - 1280) - 40) ≤ ms := ⟨by omega, by omega⟩
  obtain ⟨ho24, h⟩ := h
  refine r_putR (v := (some q22)) E w rfl ho24 cl_X6 8 rfl fl_X6_23 (Or.inr ⟨rfl, hin, rfl⟩) (Or.inr ⟨_, rfl⟩) dX6_init_42 (fun H locs w => ?_)
  obtain ⟨M25, eM25⟩ : ∃ z, z = pR M23 h0 8 (some q22) := ⟨_, rfl⟩
  rw [← eM25] at w
  have h := h M25 eM25
  refine r_aload_n (x := (some h0)) hx hb dX6_init_45 rfl (lh_at hl 0 rfl) ?_
  refine lv_bipush (v := (40 : Int32)) hx hb dX6_init_46 (by decide) ?_
  obtain ⟨g26a, g26b, h⟩ := h
  refine r_newa7 (N := 40) E w acl_int (by decide) (by decide) (by decide) (show (((((cells + 1) + 1) + 1) + 1) + 1) + 1 ≤ mc by omega) (show (((((slots + 6) + 8) + 32) + 1280) + 40) + 40 ≤ ms by omega) dX6_init_48 (fun q27 H hq27 w => ?_)
  have h := h q27 hq27
  obtain ⟨M28, eM28⟩ : ∃ z, z = nC M25 q27 7 40 := ⟨_, rfl⟩
  rw [← eM28] at w
  have h := h M28 eM28
  have hg : ((((((cells + 1) + 1) + 1) + 1) + 1) + 1) + ((((((gc - 1) - 1) - 1) - 1) - 1) - 1) ≤ mc ∧ ((((((slots + 6) + 8) + 32) + 1280) + 40) + 40) + ((((((gs - 6) - 8) - 32) - 1280) - 40) - 40) ≤ ms := ⟨by omega, by omega⟩
  obtain ⟨ho29, h⟩ := h
  refine r_putR (v := (some q27)) E w rfl ho29 cl_X6 10 rfl fl_X6_26 (Or.inr ⟨rfl, hin, rfl⟩) (Or.inr ⟨_, rfl⟩) dX6_init_50 (fun H locs w => ?_)
  obtain ⟨M30, eM30⟩ : ∃ z, z = pR M28 h0 10 (some q27) := ⟨_, rfl⟩
  rw [← eM30] at w
  have h := h M30 eM30
  refine r_aload_n (x := (some h0)) hx hb dX6_init_53 rfl (lh_at hl 0 rfl) ?_
  refine lv_bipush (v := (40 : Int32)) hx hb dX6_init_54 (by decide) ?_
  obtain ⟨g31a, g31b, h⟩ := h
  refine r_newa7 (N := 40) E w acl_int (by decide) (by decide) (by decide) (show ((((((cells + 1) + 1) + 1) + 1) + 1) + 1) + 1 ≤ mc by omega) (show ((((((slots + 6) + 8) + 32) + 1280) + 40) + 40) + 40 ≤ ms by omega) dX6_init_56 (fun q32 H hq32 w => ?_)
  have h := h q32 hq32
  obtain ⟨M33, eM33⟩ : ∃ z, z = nC M30 q32 7 40 := ⟨_, rfl⟩
  rw [← eM33] at w
  have h := h M33 eM33
  have hg : (((((((cells + 1) + 1) + 1) + 1) + 1) + 1) + 1) + (((((((gc - 1) - 1) - 1) - 1) - 1) - 1) - 1) ≤ mc ∧ (((((((slots + 6) + 8) + 32) + 1280) + 40) + 40) + 40) + (((((((gs - 6) - 8) - 32) - 1280) - 40) - 40) - 40) ≤ ms := ⟨by omega, by omega⟩
  obtain ⟨ho34, h⟩ := h
  refine r_putR (v := (some q32)) E w rfl ho34 cl_X6 11 rfl fl_X6_29 (Or.inr ⟨rfl, hin, rfl⟩) (Or.inr ⟨_, rfl⟩) dX6_init_58 (fun H locs w => ?_)
  obtain ⟨M35, eM35⟩ : ∃ z, z = pR M33 h0 11 (some q32) := ⟨_, rfl⟩
  rw [← eM35] at w
  have h := h M35 eM35
  refine r_aload_n (x := (some h0)) hx hb dX6_init_61 rfl (lh_at hl 0 rfl) ?_
  refine lv_bipush (v := (40 : Int32)) hx hb dX6_init_62 (by decide) ?_
  obtain ⟨g36a, g36b, h⟩ := h
  refine r_newa7 (N := 40) E w acl_int (by decide) (by decide) (by decide) (show (((((((cells + 1) + 1) + 1) + 1) + 1) + 1) + 1) + 1 ≤ mc by omega) (show (((((((slots + 6) + 8) + 32) + 1280) + 40) + 40) + 40) + 40 ≤ ms by omega) dX6_init_64 (fun q37 H hq37 w => ?_)
  have h := h q37 hq37
  obtain ⟨M38, eM38⟩ : ∃ z, z = nC M35 q37 7 40 := ⟨_, rfl⟩
  rw [← eM38] at w
  have h := h M38 eM38
  have hg : ((((((((cells + 1) + 1) + 1) + 1) + 1) + 1) + 1) + 1) + ((((((((gc - 1) - 1) - 1) - 1) - 1) - 1) - 1) - 1) ≤ mc ∧ ((((((((slots + 6) + 8) + 32) + 1280) + 40) + 40) + 40) + 40) + ((((((((gs - 6) - 8) - 32) - 1280) - 40) - 40) - 40) - 40) ≤ ms := ⟨by omega, by omega⟩
  obtain ⟨ho39, h⟩ := h
  refine r_putR (v := (some q37)) E w rfl ho39 cl_X6 12 rfl fl_X6_32 (Or.inr ⟨rfl, hin, rfl⟩) (Or.inr ⟨_, rfl⟩) dX6_init_66 (fun H locs w => ?_)
  obtain ⟨M40, eM40⟩ : ∃ z, z = pR M38 h0 12 (some q37) := ⟨_, rfl⟩
  rw [← eM40] at w
  have h := h M40 eM40
  refine r_aload_n (x := (some h0)) hx hb dX6_init_69 rfl (lh_at hl 0 rfl) ?_
  refine lv_bipush (v := (41 : Int32)) hx hb dX6_init_70 (by decide) ?_
  obtain ⟨g41a, g41b, h⟩ := h
  refine r_newa7 (N := 41) E w acl_int (by decide) (by decide) (by decide) (show ((((((((cells + 1) + 1) + 1) + 1) + 1) + 1) + 1) + 1) + 1 ≤ mc by omega) (show ((((((((slots + 6) + 8) + 32) + 1280) + 40) + 40) + 40) + 40) + 41 ≤ ms by omega) dX6_init_72 (fun q42 H hq42 w => ?_)
  have h := h q42 hq42
  obtain ⟨M43, eM43⟩ : ∃ z, z = nC M40 q42 7 41 := ⟨_, rfl⟩
  rw [← eM43] at w
  have h := h M43 eM43
  have hg : (((((((((cells + 1) + 1) + 1) + 1) + 1) + 1) + 1) + 1) + 1) + (((((((((gc - 1) - 1) - 1) - 1) - 1) - 1) - 1) - 1) - 1) ≤ mc ∧ (((((((((slots + 6) + 8) + 32) + 1280) + 40) + 40) + 40) + 40) + 41) + (((((((((gs - 6) - 8) - 32) - 1280) - 40) - 40) - 40) - 40) - 41) ≤ ms := ⟨by omega, by omega⟩
  obtain ⟨ho44, h⟩ := h
  refine r_putR (v := (some q42)) E w rfl ho44 cl_X6 15 rfl fl_X6_35 (Or.inr ⟨rfl, hin, rfl⟩) (Or.inr ⟨_, rfl⟩) dX6_init_74 (fun H locs w => ?_)
  obtain ⟨M45, eM45⟩ : ∃ z, z = pR M43 h0 15 (some q42) := ⟨_, rfl⟩
  rw [← eM45] at w
  have h := h M45 eM45
  refine r_aload_n (x := (some h0)) hx hb dX6_init_77 rfl (lh_at hl 0 rfl) ?_
  refine lv_bipush (v := (41 : Int32)) hx hb dX6_init_78 (by decide) ?_
  obtain ⟨g46a, g46b, h⟩ := h
  refine r_newa7 (N := 41) E w acl_int (by decide) (by decide) (by decide) (show (((((((((cells + 1) + 1) + 1) + 1) + 1) + 1) + 1) + 1) + 1) + 1 ≤ mc by omega) (show (((((((((slots + 6) + 8) + 32) + 1280) + 40) + 40) + 40) + 40) + 41) + 41 ≤ ms by omega) dX6_init_80 (fun q47 H hq47 w => ?_)
  have h := h q47 hq47
  obtain ⟨M48, eM48⟩ : ∃ z, z = nC M45 q47 7 41 := ⟨_, rfl⟩
  rw [← eM48] at w
  have h := h M48 eM48
  have hg : ((((((((((cells + 1) + 1) + 1) + 1) + 1) + 1) + 1) + 1) + 1) + 1) + ((((((((((gc - 1) - 1) - 1) - 1) - 1) - 1) - 1) - 1) - 1) - 1) ≤ mc ∧ ((((((((((slots + 6) + 8) + 32) + 1280) + 40) + 40) + 40) + 40) + 41) + 41) + ((((((((((gs - 6) - 8) - 32) - 1280) - 40) - 40) - 40) - 40) - 41) - 41) ≤ ms := ⟨by omega, by omega⟩
  obtain ⟨ho49, h⟩ := h
  refine r_putR (v := (some q47)) E w rfl ho49 cl_X6 16 rfl fl_X6_38 (Or.inr ⟨rfl, hin, rfl⟩) (Or.inr ⟨_, rfl⟩) dX6_init_82 (fun H locs w => ?_)
  obtain ⟨M50, eM50⟩ : ∃ z, z = pR M48 h0 16 (some q47) := ⟨_, rfl⟩
  rw [← eM50] at w
  have h := h M50 eM50
  refine r_aload_n (x := (some h0)) hx hb dX6_init_85 rfl (lh_at hl 0 rfl) ?_
  refine lv_bipush (v := (41 : Int32)) hx hb dX6_init_86 (by decide) ?_
  obtain ⟨g51a, g51b, h⟩ := h
  refine r_newa7 (N := 41) E w acl_int (by decide) (by decide) (by decide) (show ((((((((((cells + 1) + 1) + 1) + 1) + 1) + 1) + 1) + 1) + 1) + 1) + 1 ≤ mc by omega) (show ((((((((((slots + 6) + 8) + 32) + 1280) + 40) + 40) + 40) + 40) + 41) + 41) + 41 ≤ ms by omega) dX6_init_88 (fun q52 H hq52 w => ?_)
  have h := h q52 hq52
  obtain ⟨M53, eM53⟩ : ∃ z, z = nC M50 q52 7 41 := ⟨_, rfl⟩
  rw [← eM53] at w
  have h := h M53 eM53
  have hg : (((((((((((cells + 1) + 1) + 1) + 1) + 1) + 1) + 1) + 1) + 1) + 1) + 1) + (((((((((((gc - 1) - 1) - 1) - 1) - 1) - 1) - 1) - 1) - 1) - 1) - 1) ≤ mc ∧ (((((((((((slots + 6) + 8) + 32) + 1280) + 40) + 40) + 40) + 40) + 41) + 41) + 41) + (((((((((((gs - 6) - 8) - 32) - 1280) - 40) - 40) - 40) - 40) - 41) - 41) - 41) ≤ ms := ⟨by omega, by omega⟩
  obtain ⟨ho54, h⟩ := h
  refine r_putR (v := (some q52)) E w rfl ho54 cl_X6 17 rfl fl_X6_41 (Or.inr ⟨rfl, hin, rfl⟩) (Or.inr ⟨_, rfl⟩) dX6_init_90 (fun H locs w => ?_)
  obtain ⟨M55, eM55⟩ : ∃ z, z = pR M53 h0 17 (some q52) := ⟨_, rfl⟩
  rw [← eM55] at w
  have h := h M55 eM55
  refine r_aload_n (x := (some h0)) hx hb dX6_init_93 rfl (lh_at hl 0 rfl) ?_
  refine lv_bipush (v := (41 : Int32)) hx hb dX6_init_94 (by decide) ?_
  obtain ⟨g56a, g56b, h⟩ := h
  refine r_newa7 (N := 41) E w acl_int (by decide) (by decide) (by decide) (show (((((((((((cells + 1) + 1) + 1) + 1) + 1) + 1) + 1) + 1) + 1) + 1) + 1) + 1 ≤ mc by omega) (show (((((((((((slots + 6) + 8) + 32) + 1280) + 40) + 40) + 40) + 40) + 41) + 41) + 41) + 41 ≤ ms by omega) dX6_init_96 (fun q57 H hq57 w => ?_)
  have h := h q57 hq57
  obtain ⟨M58, eM58⟩ : ∃ z, z = nC M55 q57 7 41 := ⟨_, rfl⟩
  rw [← eM58] at w
  have h := h M58 eM58
  have hg : ((((((((((((cells + 1) + 1) + 1) + 1) + 1) + 1) + 1) + 1) + 1) + 1) + 1) + 1) + ((((((((((((gc - 1) - 1) - 1) - 1) - 1) - 1) - 1) - 1) - 1) - 1) - 1) - 1) ≤ mc ∧ ((((((((((((slots + 6) + 8) + 32) + 1280) + 40) + 40) + 40) + 40) + 41) + 41) + 41) + 41) + ((((((((((((gs - 6) - 8) - 32) - 1280) - 40) - 40) - 40) - 40) - 41) - 41) - 41) - 41) ≤ ms := ⟨by omega, by omega⟩
  obtain ⟨ho59, h⟩ := h
  refine r_putR (v := (some q57)) E w rfl ho59 cl_X6 19 rfl fl_X6_44 (Or.inr ⟨rfl, hin, rfl⟩) (Or.inr ⟨_, rfl⟩) dX6_init_98 (fun H locs w => ?_)
  obtain ⟨M60, eM60⟩ : ∃ z, z = pR M58 h0 19 (some q57) := ⟨_, rfl⟩
  rw [← eM60] at w
  have h := h M60 eM60
  refine r_aload_n (x := (some h0)) hx hb dX6_init_101 rfl (lh_at hl 0 rfl) ?_
  refine lv_bipush (v := (40 : Int32)) hx hb dX6_init_102 (by decide) ?_
  obtain ⟨g61a, g61b, h⟩ := h
  refine r_newa7 (N := 40) E w acl_int (by decide) (by decide) (by decide) (show ((((((((((((cells + 1) + 1) + 1) + 1) + 1) + 1) + 1) + 1) + 1) + 1) + 1) + 1) + 1 ≤ mc by omega) (show ((((((((((((slots + 6) + 8) + 32) + 1280) + 40) + 40) + 40) + 40) + 41) + 41) + 41) + 41) + 40 ≤ ms by omega) dX6_init_104 (fun q62 H hq62 w => ?_)
  have h := h q62 hq62
  obtain ⟨M63, eM63⟩ : ∃ z, z = nC M60 q62 7 40 := ⟨_, rfl⟩
  rw [← eM63] at w
  have h := h M63 eM63
  have hg : (((((((((((((cells + 1) + 1) + 1) + 1) + 1) + 1) + 1) + 1) + 1) + 1) + 1) + 1) + 1) + (((((((((((((gc - 1) - 1) - 1) - 1) - 1) - 1) - 1) - 1) - 1) - 1) - 1) - 1) - 1) ≤ mc ∧ (((((((((((((slots + 6) + 8) + 32) + 1280) + 40) + 40) + 40) + 40) + 41) + 41) + 41) + 41) + 40) + (((((((((((((gs - 6) - 8) - 32) - 1280) - 40) - 40) - 40) - 40) - 41) - 41) - 41) - 41) - 40) ≤ ms := ⟨by omega, by omega⟩
  obtain ⟨ho64, h⟩ := h
  refine r_putR (v := (some q62)) E w rfl ho64 cl_X6 20 rfl fl_X6_47 (Or.inr ⟨rfl, hin, rfl⟩) (Or.inr ⟨_, rfl⟩) dX6_init_106 (fun H locs w => ?_)
  obtain ⟨M65, eM65⟩ : ∃ z, z = pR M63 h0 20 (some q62) := ⟨_, rfl⟩
  rw [← eM65] at w
  have h := h M65 eM65
  refine r_aload_n (x := (some h0)) hx hb dX6_init_109 rfl (lh_at hl 0 rfl) ?_
  refine lv_bipush (v := (40 : Int32)) hx hb dX6_init_110 (by decide) ?_
  obtain ⟨g66a, g66b, h⟩ := h
  refine r_newa7 (N := 40) E w acl_int (by decide) (by decide) (by decide) (show (((((((((((((cells + 1) + 1) + 1) + 1) + 1) + 1) + 1) + 1) + 1) + 1) + 1) + 1) + 1) + 1 ≤ mc by omega) (show (((((((((((((slots + 6) + 8) + 32) + 1280) + 40) + 40) + 40) + 40) + 41) + 41) + 41) + 41) + 40) + 40 ≤ ms by omega) dX6_init_112 (fun q67 H hq67 w => ?_)
  have h := h q67 hq67
  obtain ⟨M68, eM68⟩ : ∃ z, z = nC M65 q67 7 40 := ⟨_, rfl⟩
  rw [← eM68] at w
  have h := h M68 eM68
  have hg : ((((((((((((((cells + 1) + 1) + 1) + 1) + 1) + 1) + 1) + 1) + 1) + 1) + 1) + 1) + 1) + 1) + ((((((((((((((gc - 1) - 1) - 1) - 1) - 1) - 1) - 1) - 1) - 1) - 1) - 1) - 1) - 1) - 1) ≤ mc ∧ ((((((((((((((slots + 6) + 8) + 32) + 1280) + 40) + 40) + 40) + 40) + 41) + 41) + 41) + 41) + 40) + 40) + ((((((((((((((gs - 6) - 8) - 32) - 1280) - 40) - 40) - 40) - 40) - 41) - 41) - 41) - 41) - 40) - 40) ≤ ms := ⟨by omega, by omega⟩
  obtain ⟨ho69, h⟩ := h
  refine r_putR (v := (some q67)) E w rfl ho69 cl_X6 21 rfl fl_X6_50 (Or.inr ⟨rfl, hin, rfl⟩) (Or.inr ⟨_, rfl⟩) dX6_init_114 (fun H locs w => ?_)
  obtain ⟨M70, eM70⟩ : ∃ z, z = pR M68 h0 21 (some q67) := ⟨_, rfl⟩
  rw [← eM70] at w
  have h := h M70 eM70
  refine r_aload_n (x := (some h0)) hx hb dX6_init_117 rfl (lh_at hl 0 rfl) ?_
  refine lv_bipush (v := (40 : Int32)) hx hb dX6_init_118 (by decide) ?_
  obtain ⟨g71a, g71b, h⟩ := h
  refine r_newa7 (N := 40) E w acl_int (by decide) (by decide) (by decide) (show ((((((((((((((cells + 1) + 1) + 1) + 1) + 1) + 1) + 1) + 1) + 1) + 1) + 1) + 1) + 1) + 1) + 1 ≤ mc by omega) (show ((((((((((((((slots + 6) + 8) + 32) + 1280) + 40) + 40) + 40) + 40) + 41) + 41) + 41) + 41) + 40) + 40) + 40 ≤ ms by omega) dX6_init_120 (fun q72 H hq72 w => ?_)
  have h := h q72 hq72
  obtain ⟨M73, eM73⟩ : ∃ z, z = nC M70 q72 7 40 := ⟨_, rfl⟩
  rw [← eM73] at w
  have h := h M73 eM73
  have hg : (((((((((((((((cells + 1) + 1) + 1) + 1) + 1) + 1) + 1) + 1) + 1) + 1) + 1) + 1) + 1) + 1) + 1) + (((((((((((((((gc - 1) - 1) - 1) - 1) - 1) - 1) - 1) - 1) - 1) - 1) - 1) - 1) - 1) - 1) - 1) ≤ mc ∧ (((((((((((((((slots + 6) + 8) + 32) + 1280) + 40) + 40) + 40) + 40) + 41) + 41) + 41) + 41) + 40) + 40) + 40) + (((((((((((((((gs - 6) - 8) - 32) - 1280) - 40) - 40) - 40) - 40) - 41) - 41) - 41) - 41) - 40) - 40) - 40) ≤ ms := ⟨by omega, by omega⟩
  obtain ⟨ho74, h⟩ := h
  refine r_putR (v := (some q72)) E w rfl ho74 cl_X6 23 rfl fl_X6_53 (Or.inr ⟨rfl, hin, rfl⟩) (Or.inr ⟨_, rfl⟩) dX6_init_122 (fun H locs w => ?_)
  obtain ⟨M75, eM75⟩ : ∃ z, z = pR M73 h0 23 (some q72) := ⟨_, rfl⟩
  rw [← eM75] at w
  have h := h M75 eM75
  refine r_aload_n (x := (some h0)) hx hb dX6_init_125 rfl (lh_at hl 0 rfl) ?_
  refine lv_bipush (v := (40 : Int32)) hx hb dX6_init_126 (by decide) ?_
  obtain ⟨g76a, g76b, h⟩ := h
  refine r_newa9 (N := 40) E w acl_boolean (by decide) (by decide) (by decide) (show (((((((((((((((cells + 1) + 1) + 1) + 1) + 1) + 1) + 1) + 1) + 1) + 1) + 1) + 1) + 1) + 1) + 1) + 1 ≤ mc by omega) (show (((((((((((((((slots + 6) + 8) + 32) + 1280) + 40) + 40) + 40) + 40) + 41) + 41) + 41) + 41) + 40) + 40) + 40) + 40 ≤ ms by omega) dX6_init_128 (fun q77 H hq77 w => ?_)
  have h := h q77 hq77
  obtain ⟨M78, eM78⟩ : ∃ z, z = nC M75 q77 9 40 := ⟨_, rfl⟩
  rw [← eM78] at w
  have h := h M78 eM78
  have hg : ((((((((((((((((cells + 1) + 1) + 1) + 1) + 1) + 1) + 1) + 1) + 1) + 1) + 1) + 1) + 1) + 1) + 1) + 1) + ((((((((((((((((gc - 1) - 1) - 1) - 1) - 1) - 1) - 1) - 1) - 1) - 1) - 1) - 1) - 1) - 1) - 1) - 1) ≤ mc ∧ ((((((((((((((((slots + 6) + 8) + 32) + 1280) + 40) + 40) + 40) + 40) + 41) + 41) + 41) + 41) + 40) + 40) + 40) + 40) + ((((((((((((((((gs - 6) - 8) - 32) - 1280) - 40) - 40) - 40) - 40) - 41) - 41) - 41) - 41) - 40) - 40) - 40) - 40) ≤ ms := ⟨by omega, by omega⟩
  obtain ⟨ho79, h⟩ := h
  refine r_putR (v := (some q77)) E w rfl ho79 cl_X6 24 rfl fl_X6_56 (Or.inr ⟨rfl, hin, rfl⟩) (Or.inr ⟨_, rfl⟩) dX6_init_130 (fun H locs w => ?_)
  obtain ⟨M80, eM80⟩ : ∃ z, z = pR M78 h0 24 (some q77) := ⟨_, rfl⟩
  rw [← eM80] at w
  have h := h M80 eM80
  refine r_aload_n (x := (some h0)) hx hb dX6_init_133 rfl (lh_at hl 0 rfl) ?_
  refine lv_ldc (v := (35700 : Int32)) hx hb hown (hts _ kc_X6_59) dX6_init_134 ?_
  obtain ⟨g81a, g81b, h⟩ := h
  refine r_newa8 (N := 35700) E w acl_long (by decide) (by decide) (by decide) (show ((((((((((((((((cells + 1) + 1) + 1) + 1) + 1) + 1) + 1) + 1) + 1) + 1) + 1) + 1) + 1) + 1) + 1) + 1) + 1 ≤ mc by omega) (show ((((((((((((((((slots + 6) + 8) + 32) + 1280) + 40) + 40) + 40) + 40) + 41) + 41) + 41) + 41) + 40) + 40) + 40) + 40) + 35700 ≤ ms by omega) dX6_init_136 (fun q82 H hq82 w => ?_)
  have h := h q82 hq82
  obtain ⟨M83, eM83⟩ : ∃ z, z = nC M80 q82 8 35700 := ⟨_, rfl⟩
  rw [← eM83] at w
  have h := h M83 eM83
  have hg : (((((((((((((((((cells + 1) + 1) + 1) + 1) + 1) + 1) + 1) + 1) + 1) + 1) + 1) + 1) + 1) + 1) + 1) + 1) + 1) + (((((((((((((((((gc - 1) - 1) - 1) - 1) - 1) - 1) - 1) - 1) - 1) - 1) - 1) - 1) - 1) - 1) - 1) - 1) - 1) ≤ mc ∧ (((((((((((((((((slots + 6) + 8) + 32) + 1280) + 40) + 40) + 40) + 40) + 41) + 41) + 41) + 41) + 40) + 40) + 40) + 40) + 35700) + (((((((((((((((((gs - 6) - 8) - 32) - 1280) - 40) - 40) - 40) - 40) - 41) - 41) - 41) - 41) - 40) - 40) - 40) - 40) - 35700) ≤ ms := ⟨by omega, by omega⟩
  obtain ⟨ho84, h⟩ := h
  refine r_putR (v := (some q82)) E w rfl ho84 cl_X6 29 rfl fl_X6_60 (Or.inr ⟨rfl, hin, rfl⟩) (Or.inr ⟨_, rfl⟩) dX6_init_138 (fun H locs w => ?_)
  obtain ⟨M85, eM85⟩ : ∃ z, z = pR M83 h0 29 (some q82) := ⟨_, rfl⟩
  rw [← eM85] at w
  have h := h M85 eM85
  refine r_aload_n (x := (some h0)) hx hb dX6_init_141 rfl (lh_at hl 0 rfl) ?_
  refine lv_sipush (v := (300 : Int32)) hx hb dX6_init_142 (by decide) ?_
  obtain ⟨g86a, g86b, h⟩ := h
  refine r_newa7 (N := 300) E w acl_int (by decide) (by decide) (by decide) (show (((((((((((((((((cells + 1) + 1) + 1) + 1) + 1) + 1) + 1) + 1) + 1) + 1) + 1) + 1) + 1) + 1) + 1) + 1) + 1) + 1 ≤ mc by omega) (show (((((((((((((((((slots + 6) + 8) + 32) + 1280) + 40) + 40) + 40) + 40) + 41) + 41) + 41) + 41) + 40) + 40) + 40) + 40) + 35700) + 300 ≤ ms by omega) dX6_init_145 (fun q87 H hq87 w => ?_)
  have h := h q87 hq87
  obtain ⟨M88, eM88⟩ : ∃ z, z = nC M85 q87 7 300 := ⟨_, rfl⟩
  rw [← eM88] at w
  have h := h M88 eM88
  have hg : ((((((((((((((((((cells + 1) + 1) + 1) + 1) + 1) + 1) + 1) + 1) + 1) + 1) + 1) + 1) + 1) + 1) + 1) + 1) + 1) + 1) + ((((((((((((((((((gc - 1) - 1) - 1) - 1) - 1) - 1) - 1) - 1) - 1) - 1) - 1) - 1) - 1) - 1) - 1) - 1) - 1) - 1) ≤ mc ∧ ((((((((((((((((((slots + 6) + 8) + 32) + 1280) + 40) + 40) + 40) + 40) + 41) + 41) + 41) + 41) + 40) + 40) + 40) + 40) + 35700) + 300) + ((((((((((((((((((gs - 6) - 8) - 32) - 1280) - 40) - 40) - 40) - 40) - 41) - 41) - 41) - 41) - 40) - 40) - 40) - 40) - 35700) - 300) ≤ ms := ⟨by omega, by omega⟩
  obtain ⟨ho89, h⟩ := h
  refine r_putR (v := (some q87)) E w rfl ho89 cl_X6 31 rfl fl_X6_64 (Or.inr ⟨rfl, hin, rfl⟩) (Or.inr ⟨_, rfl⟩) dX6_init_147 (fun H locs w => ?_)
  obtain ⟨M90, eM90⟩ : ∃ z, z = pR M88 h0 31 (some q87) := ⟨_, rfl⟩
  rw [← eM90] at w
  have h := h M90 eM90
  refine r_aload_n (x := (some h0)) hx hb dX6_init_150 rfl (lh_at hl 0 rfl) ?_
  refine lv_sipush (v := (1280 : Int32)) hx hb dX6_init_151 (by decide) ?_
  obtain ⟨g91a, g91b, h⟩ := h
  refine r_newa9 (N := 1280) E w acl_boolean (by decide) (by decide) (by decide) (show ((((((((((((((((((cells + 1) + 1) + 1) + 1) + 1) + 1) + 1) + 1) + 1) + 1) + 1) + 1) + 1) + 1) + 1) + 1) + 1) + 1) + 1 ≤ mc by omega) (show ((((((((((((((((((slots + 6) + 8) + 32) + 1280) + 40) + 40) + 40) + 40) + 41) + 41) + 41) + 41) + 40) + 40) + 40) + 40) + 35700) + 300) + 1280 ≤ ms by omega) dX6_init_154 (fun q92 H hq92 w => ?_)
  have h := h q92 hq92
  obtain ⟨M93, eM93⟩ : ∃ z, z = nC M90 q92 9 1280 := ⟨_, rfl⟩
  rw [← eM93] at w
  have h := h M93 eM93
  have hg : (((((((((((((((((((cells + 1) + 1) + 1) + 1) + 1) + 1) + 1) + 1) + 1) + 1) + 1) + 1) + 1) + 1) + 1) + 1) + 1) + 1) + 1) + (((((((((((((((((((gc - 1) - 1) - 1) - 1) - 1) - 1) - 1) - 1) - 1) - 1) - 1) - 1) - 1) - 1) - 1) - 1) - 1) - 1) - 1) ≤ mc ∧ (((((((((((((((((((slots + 6) + 8) + 32) + 1280) + 40) + 40) + 40) + 40) + 41) + 41) + 41) + 41) + 40) + 40) + 40) + 40) + 35700) + 300) + 1280) + (((((((((((((((((((gs - 6) - 8) - 32) - 1280) - 40) - 40) - 40) - 40) - 41) - 41) - 41) - 41) - 40) - 40) - 40) - 40) - 35700) - 300) - 1280) ≤ ms := ⟨by omega, by omega⟩
  obtain ⟨ho94, h⟩ := h
  refine r_putR (v := (some q92)) E w rfl ho94 cl_X6 32 rfl fl_X6_67 (Or.inr ⟨rfl, hin, rfl⟩) (Or.inr ⟨_, rfl⟩) dX6_init_156 (fun H locs w => ?_)
  obtain ⟨M95, eM95⟩ : ∃ z, z = pR M93 h0 32 (some q92) := ⟨_, rfl⟩
  rw [← eM95] at w
  have h := h M95 eM95
  refine r_aload_n (x := (some h0)) hx hb dX6_init_159 rfl (lh_at hl 0 rfl) ?_
  refine lv_bipush (v := (20 : Int32)) hx hb dX6_init_160 (by decide) ?_
  have ho94 : ok M95 h0 6 := by rw [eM95]; exact ho94
  refine r_putI (v := (20 : Int32)) E w rfl ho94 cl_X6 13 rfl fl_X6_70 (Or.inl rfl) (Or.inl rfl) dX6_init_162 (fun H locs w => ?_)
  obtain ⟨M96, eM96⟩ : ∃ z, z = pI M95 h0 13 (20 : Int32) := ⟨_, rfl⟩
  rw [← eM96] at w
  have h := h M96 eM96
  refine r_aload_n (x := (some h0)) hx hb dX6_init_165 rfl (lh_at hl 0 rfl) ?_
  refine lv_iconst (v := (1 : Int32)) hx hb dX6_init_166 (by decide) ?_
  have ho94 : ok M96 h0 6 := by rw [eM96]; exact ho94
  refine r_putI (v := (1 : Int32)) E w rfl ho94 cl_X6 14 rfl fl_X6_74 (Or.inl rfl) (Or.inl rfl) dX6_init_167 (fun H locs w => ?_)
  obtain ⟨M97, eM97⟩ : ∃ z, z = pI M96 h0 14 (1 : Int32) := ⟨_, rfl⟩
  rw [← eM97] at w
  have h := h M97 eM97
  refine r_aload_n (x := (some h0)) hx hb dX6_init_170 rfl (lh_at hl 0 rfl) ?_
  refine lv_lconst (v := (1 : Int64)) hx hb dX6_init_171 (by decide) ?_
  have ho94 : ok M97 h0 6 := by rw [eM97]; exact ho94
  refine r_putJ (v := (1 : Int64)) E w rfl ho94 cl_X6 28 rfl fl_X6_77 (Or.inl rfl) rfl dX6_init_172 (fun H locs w => ?_)
  obtain ⟨M98, eM98⟩ : ∃ z, z = pJ M97 h0 28 (1 : Int64) := ⟨_, rfl⟩
  rw [← eM98] at w
  have h := h M98 eM98
  exact r_vret E w hr hlk h (show (((((((((((((((((((cells + 1) + 1) + 1) + 1) + 1) + 1) + 1) + 1) + 1) + 1) + 1) + 1) + 1) + 1) + 1) + 1) + 1) + 1) + 1) ≤ mc by omega) (show (((((((((((((((((((slots + 6) + 8) + 32) + 1280) + 40) + 40) + 40) + 40) + 41) + 41) + 41) + 41) + 40) + 40) + 40) + 40) + 35700) + 300) + 1280) ≤ ms by omega) dX6_init_175
theorem K_X6_init {l : Launch} {Q : Mm → Prop} {h0 : Nat} {gc gs : Nat} {M : Mm} (h : B_X6_init_0 Q h0 gc gs M) : KV l yX6_init cdX6_init (rmm 1 gc gs) [rv (some h0)] M Q :=
  KV_of (by decide) rfl (Nat.le_of_ble_eq_true rfl) (fun p e s m args below meth c D cy A ls E hr hlk hn w hl => k_X6_init_0 E hr hlk hn _ _ _ _ _ _ _ _ _ h w hl ⟨Nat.le_of_eq (Nat.zero_add _), Nat.le_of_eq (Nat.zero_add _)⟩)
def B_X6_in_0 (Q : Int32 → Mm → Prop)  (x0 : Int32) (x1 : Int32) (x2 : Int32) (M : Mm) : Prop := ((x0 < x1 → Q (0 : Int32) M) ∧ (¬ x0 < x1 → ((x2 < x0 → Q (0 : Int32) M) ∧ (¬ x2 < x0 → Q (1 : Int32) M))))
set_option maxHeartbeats 4000000 in
set_option maxRecDepth 100000 in
theorem k_X6_in_0 {p : Program} {l : Launch} {e : Env} {s : State} {m : MethodId} {args : Array Value} {below : List Frame} {meth : Method} {c : Code} {D : va_G} {cy : Nat → ClassId} {A : Nat → Prop} {Q : Int32 → Mm → Prop} (E : Ex p m c cX6_in 3 s args RX6 D cy A) (hr : meth.sig.returnType = (some .boolean)) (hlk : meth.locks = false) : ∀ (x0 : Int32) (x1 : Int32) (x2 : Int32) (M : Mm) (H : Heap) (locs : List Loc) (ls : Array Slot), B_X6_in_0 Q  x0 x1 x2 M → Wd D cy A s M H locs → lh ls 3 [(0, iv x0), (1, iv x1), (2, iv x2)] → W p l e (rmm 0 0 0) s m args below meth c H locs 0 0 (MQ below (va_Qi Q (Po D cy A) A) args s 0 0 A) (F0 m 0 ls []) := by
  obtain ⟨hx, hb, hml, hown, hts⟩ := E.1
  intro x0 x1 x2 M H locs ls h w hl
  unfold B_X6_in_0 at h
  refine lv_iload_n (x := x0) hx hb dX6_in_0 rfl (lh_at hl 0 rfl) ?_
  refine lv_iload_n (x := x1) hx hb dX6_in_1 rfl (lh_at hl 1 rfl) ?_
  refine lv_icmp_lt (tgt := 14) hx hb dX6_in_2 (by decide) (fun c1 => ?_) (fun c1 => ?_)
  · have h := h.1 c1
    refine lv_iconst (v := (0 : Int32)) hx hb dX6_in_14 (by decide) ?_
    exact r_zret E w hr hlk ⟨Or.inl rfl, h⟩ (Nat.le_refl 0) (Nat.le_refl 0) dX6_in_15
  · have h := h.2 c1
    refine lv_iload_n (x := x0) hx hb dX6_in_5 rfl (lh_at hl 0 rfl) ?_
    refine lv_iload_n (x := x2) hx hb dX6_in_6 rfl (lh_at hl 2 rfl) ?_
    refine lv_icmp_gt (tgt := 14) hx hb dX6_in_7 (by decide) (fun c2 => ?_) (fun c2 => ?_)
    · have h := h.1 c2
      refine lv_iconst (v := (0 : Int32)) hx hb dX6_in_14 (by decide) ?_
      exact r_zret E w hr hlk ⟨Or.inl rfl, h⟩ (Nat.le_refl 0) (Nat.le_refl 0) dX6_in_15
    · have h := h.2 c2
      refine lv_iconst (v := (1 : Int32)) hx hb dX6_in_10 (by decide) ?_
      refine lv_goto (tgt := 15) hx hb dX6_in_11 (by decide) ?_
      exact r_zret E w hr hlk ⟨Or.inr rfl, h⟩ (Nat.le_refl 0) (Nat.le_refl 0) dX6_in_15
theorem K_X6_in {l : Launch} {Q : Int32 → Mm → Prop} {x0 : Int32} {x1 : Int32} {x2 : Int32} {M : Mm} (h : B_X6_in_0 Q x0 x1 x2 M) : KI l yX6_in cdX6_in (rmm 0 0 0) [iv x0, iv x1, iv x2] M Q :=
  KI_of (by decide) rfl (Nat.le_of_ble_eq_true rfl) (fun p e s m args below meth c D cy A ls E hr hlk hn w hl => k_X6_in_0 E hr hlk _ _ _ _ _ _ _ h w hl)
def B_X6_meets_0 (Q : Int32 → Mm → Prop)  (h0 : Nat) (x1 : Int32) (M : Mm) : Prop := (ok M h0 6 ∧ (∀ M2, M2 = pI M h0 0 x1 → (∃ a3, (gR M2 h0 1) = some a3 ∧ (ar M2 a3 7 x1 ∧ (ar M2 a3 7 x1 ∧ (∀ M6, M6 = pI M2 a3 (Int32.toNatClampNeg x1) ((gI M2 a3 (Int32.toNatClampNeg x1)) + (1 : Int32)) → Q (-3 : Int32) M6))))))
set_option maxHeartbeats 4000000 in
set_option maxRecDepth 100000 in
theorem k_X6_meets_0 {p : Program} {l : Launch} {e : Env} {s : State} {m : MethodId} {args : Array Value} {below : List Frame} {meth : Method} {c : Code} {D : va_G} {cy : Nat → ClassId} {A : Nat → Prop} {Q : Int32 → Mm → Prop} (E : Ex p m c cX6_meets 2 s args RX6 D cy A) (hr : meth.sig.returnType = (some .int)) (hlk : meth.locks = false) : ∀ (h0 : Nat) (x1 : Int32) (M : Mm) (H : Heap) (locs : List Loc) (ls : Array Slot), B_X6_meets_0 Q  h0 x1 M → Wd D cy A s M H locs → lh ls 2 [(0, rv (some h0)), (1, iv x1)] → W p l e (rmm 0 0 0) s m args below meth c H locs 0 0 (MQ below (va_Qi Q (Po D cy A) A) args s 0 0 A) (F0 m 0 ls []) := by
  obtain ⟨hx, hb, hml, hown, hts⟩ := E.1
  intro h0 x1 M H locs ls h w hl
  unfold B_X6_meets_0 at h
  refine r_aload_n (x := (some h0)) hx hb dX6_meets_0 rfl (lh_at hl 0 rfl) ?_
  refine lv_iload_n (x := x1) hx hb dX6_meets_1 rfl (lh_at hl 1 rfl) ?_
  obtain ⟨ho1, h⟩ := h
  refine r_putI (v := x1) E w rfl ho1 cl_X6 0 rfl fl_X6_81 (Or.inl rfl) (Or.inl rfl) dX6_meets_2 (fun H locs w => ?_)
  obtain ⟨M2, eM2⟩ : ∃ z, z = pI M h0 0 x1 := ⟨_, rfl⟩
  rw [← eM2] at w
  have h := h M2 eM2
  refine r_aload_n (x := (some h0)) hx hb dX6_meets_5 rfl (lh_at hl 0 rfl) ?_
  have ho1 : ok M2 h0 6 := by rw [eM2]; exact ho1
  refine r_getR E w rfl ho1 cl_X6 1 rfl fl_X6_7 dX6_meets_6 ?_
  refine lv_iload_n (x := x1) hx hb dX6_meets_9 rfl (lh_at hl 1 rfl) ?_
  refine r_dup2r hx hb dX6_meets_10 ?_
  obtain ⟨a3, ea3, h⟩ := h
  obtain ⟨ha4, h⟩ := h
  refine r_iald E w ea3 ha4 dX6_meets_11 ?_
  refine lv_iconst (v := (1 : Int32)) hx hb dX6_meets_12 (by decide) ?_
  refine lv_iadd hx hb dX6_meets_13 ?_
  obtain ⟨ha5, h⟩ := h
  refine r_iast (v := ((gI M2 a3 (Int32.toNatClampNeg x1)) + (1 : Int32))) E w ea3 ha5 dX6_meets_14 (fun H locs w => ?_)
  obtain ⟨M6, eM6⟩ : ∃ z, z = pI M2 a3 (Int32.toNatClampNeg x1) ((gI M2 a3 (Int32.toNatClampNeg x1)) + (1 : Int32)) := ⟨_, rfl⟩
  rw [← eM6] at w
  have h := h M6 eM6
  refine lv_bipush (v := (-3 : Int32)) hx hb dX6_meets_15 (by decide) ?_
  exact r_iret E w hr hlk h (Nat.le_refl 0) (Nat.le_refl 0) dX6_meets_17
theorem K_X6_meets {l : Launch} {Q : Int32 → Mm → Prop} {h0 : Nat} {x1 : Int32} {M : Mm} (h : B_X6_meets_0 Q h0 x1 M) : KI l yX6_meets cdX6_meets (rmm 0 0 0) [rv (some h0), iv x1] M Q :=
  KI_of (by decide) rfl (Nat.le_of_ble_eq_true rfl) (fun p e s m args below meth c D cy A ls E hr hlk hn w hl => k_X6_meets_0 E hr hlk _ _ _ _ _ _ h w hl)
def B_X6_finding_0 (Q : Int32 → Mm → Prop)  (h0 : Nat) (M : Mm) : Prop := (ok M h0 6 ∧ Q (gI M h0 0) M)
set_option maxHeartbeats 4000000 in
set_option maxRecDepth 100000 in
theorem k_X6_finding_0 {p : Program} {l : Launch} {e : Env} {s : State} {m : MethodId} {args : Array Value} {below : List Frame} {meth : Method} {c : Code} {D : va_G} {cy : Nat → ClassId} {A : Nat → Prop} {Q : Int32 → Mm → Prop} (E : Ex p m c cX6_finding 1 s args RX6 D cy A) (hr : meth.sig.returnType = (some .int)) (hlk : meth.locks = false) : ∀ (h0 : Nat) (M : Mm) (H : Heap) (locs : List Loc) (ls : Array Slot), B_X6_finding_0 Q  h0 M → Wd D cy A s M H locs → lh ls 1 [(0, rv (some h0))] → W p l e (rmm 0 0 0) s m args below meth c H locs 0 0 (MQ below (va_Qi Q (Po D cy A) A) args s 0 0 A) (F0 m 0 ls []) := by
  obtain ⟨hx, hb, hml, hown, hts⟩ := E.1
  intro h0 M H locs ls h w hl
  unfold B_X6_finding_0 at h
  refine r_aload_n (x := (some h0)) hx hb dX6_finding_0 rfl (lh_at hl 0 rfl) ?_
  obtain ⟨ho1, h⟩ := h
  refine r_getI E w rfl ho1 cl_X6 0 rfl fl_X6_81 dX6_finding_1 ?_
  exact r_iret E w hr hlk h (Nat.le_refl 0) (Nat.le_refl 0) dX6_finding_4
theorem K_X6_finding {l : Launch} {Q : Int32 → Mm → Prop} {h0 : Nat} {M : Mm} (h : B_X6_finding_0 Q h0 M) : KI l yX6_finding cdX6_finding (rmm 0 0 0) [rv (some h0)] M Q :=
  KI_of (by decide) rfl (Nat.le_of_ble_eq_true rfl) (fun p e s m args below meth c D cy A ls E hr hlk hn w hl => k_X6_finding_0 E hr hlk _ _ _ _ _ h w hl)
def B_X6_findings_0 (Q : Int32 → Mm → Prop)  (h0 : Nat) (x1 : Int32) (M : Mm) : Prop := (B_X6_in_0 (fun r2 M1 => ((r2 = 0 → Q (-1 : Int32) M1) ∧ (¬ r2 = 0 → (ok M1 h0 6 ∧ (∃ a5, (gR M1 h0 1) = some a5 ∧ (ar M1 a5 7 x1 ∧ Q (gI M1 a5 (Int32.toNatClampNeg x1)) M1)))))) x1 (1 : Int32) (5 : Int32) M)
set_option maxHeartbeats 4000000 in
set_option maxRecDepth 100000 in
theorem k_X6_findings_0 {p : Program} {l : Launch} {e : Env} {s : State} {m : MethodId} {args : Array Value} {below : List Frame} {meth : Method} {c : Code} {D : va_G} {cy : Nat → ClassId} {A : Nat → Prop} {Q : Int32 → Mm → Prop} (E : Ex p m c cX6_findings 2 s args RX6 D cy A) (hr : meth.sig.returnType = (some .int)) (hlk : meth.locks = false) : ∀ (h0 : Nat) (x1 : Int32) (M : Mm) (H : Heap) (locs : List Loc) (ls : Array Slot), B_X6_findings_0 Q  h0 x1 M → Wd D cy A s M H locs → lh ls 2 [(0, rv (some h0)), (1, iv x1)] → W p l e (rmm 1 0 0) s m args below meth c H locs 0 0 (MQ below (va_Qi Q (Po D cy A) A) args s 0 0 A) (F0 m 0 ls []) := by
  obtain ⟨hx, hb, hml, hown, hts⟩ := E.1
  intro h0 x1 M H locs ls h w hl
  unfold B_X6_findings_0 at h
  refine lv_iload_n (x := x1) hx hb dX6_findings_0 rfl (lh_at hl 1 rfl) ?_
  refine lv_iconst (v := (1 : Int32)) hx hb dX6_findings_1 (by decide) ?_
  refine lv_iconst (v := (5 : Int32)) hx hb dX6_findings_2 (by decide) ?_
  refine z_callSi E w yk_X6_in ⟨Nat.le_of_ble_eq_true rfl, Nat.le_of_ble_eq_true rfl⟩ ⟨(Nat.zero_le _), (Nat.zero_le _)⟩ rfl ml_X6_84 st_X6_in [iv x1, iv (1 : Int32), iv (5 : Int32)] rfl rfl hl [] rfl (Nat.le_of_ble_eq_true rfl) (K_X6_in h) dX6_findings_3 (fun r2 M1 H locs h w => ?_)
  refine lv_if_eq (tgt := 18) hx hb dX6_findings_6 (by decide) (fun c3 => ?_) (fun c3 => ?_)
  · have h := h.1 c3
    refine lv_iconst (v := (-1 : Int32)) hx hb dX6_findings_18 (by decide) ?_
    exact r_iret E w hr hlk h (Nat.le_refl 0) (Nat.le_refl 0) dX6_findings_19
  · have h := h.2 c3
    refine r_aload_n (x := (some h0)) hx hb dX6_findings_9 rfl (lh_at hl 0 rfl) ?_
    obtain ⟨ho4, h⟩ := h
    refine r_getR E w rfl ho4 cl_X6 1 rfl fl_X6_7 dX6_findings_10 ?_
    refine lv_iload_n (x := x1) hx hb dX6_findings_13 rfl (lh_at hl 1 rfl) ?_
    obtain ⟨a5, ea5, h⟩ := h
    obtain ⟨ha6, h⟩ := h
    refine r_iald E w ea5 ha6 dX6_findings_14 ?_
    refine lv_goto (tgt := 19) hx hb dX6_findings_15 (by decide) ?_
    exact r_iret E w hr hlk h (Nat.le_refl 0) (Nat.le_refl 0) dX6_findings_19
theorem K_X6_findings {l : Launch} {Q : Int32 → Mm → Prop} {h0 : Nat} {x1 : Int32} {M : Mm} (h : B_X6_findings_0 Q h0 x1 M) : KI l yX6_findings cdX6_findings (rmm 1 0 0) [rv (some h0), iv x1] M Q :=
  KI_of (by decide) rfl (Nat.le_of_ble_eq_true rfl) (fun p e s m args below meth c D cy A ls E hr hlk hn w hl => k_X6_findings_0 E hr hlk _ _ _ _ _ _ h w hl)
def B_X6_asked_0 (Q : Int64 → Mm → Prop)  (h0 : Nat) (M : Mm) : Prop := (ok M h0 6 ∧ Q (gJ M h0 2) M)
set_option maxHeartbeats 4000000 in
set_option maxRecDepth 100000 in
theorem k_X6_asked_0 {p : Program} {l : Launch} {e : Env} {s : State} {m : MethodId} {args : Array Value} {below : List Frame} {meth : Method} {c : Code} {D : va_G} {cy : Nat → ClassId} {A : Nat → Prop} {Q : Int64 → Mm → Prop} (E : Ex p m c cX6_asked 1 s args RX6 D cy A) (hr : meth.sig.returnType = (some .long)) (hlk : meth.locks = false) : ∀ (h0 : Nat) (M : Mm) (H : Heap) (locs : List Loc) (ls : Array Slot), B_X6_asked_0 Q  h0 M → Wd D cy A s M H locs → lh ls 1 [(0, rv (some h0))] → W p l e (rmm 0 0 0) s m args below meth c H locs 0 0 (MQ below (va_Ql Q (Po D cy A) A) args s 0 0 A) (F0 m 0 ls []) := by
  obtain ⟨hx, hb, hml, hown, hts⟩ := E.1
  intro h0 M H locs ls h w hl
  unfold B_X6_asked_0 at h
  refine r_aload_n (x := (some h0)) hx hb dX6_asked_0 rfl (lh_at hl 0 rfl) ?_
  obtain ⟨ho1, h⟩ := h
  refine r_getJ E w rfl ho1 cl_X6 2 rfl fl_X6_88 dX6_asked_1 ?_
  exact r_lret E w hr hlk h (Nat.le_refl 0) (Nat.le_refl 0) dX6_asked_4
theorem K_X6_asked {l : Launch} {Q : Int64 → Mm → Prop} {h0 : Nat} {M : Mm} (h : B_X6_asked_0 Q h0 M) : KL l yX6_asked cdX6_asked (rmm 0 0 0) [rv (some h0)] M Q :=
  KL_of (by decide) rfl (Nat.le_of_ble_eq_true rfl) (fun p e s m args below meth c D cy A ls E hr hlk hn w hl => k_X6_asked_0 E hr hlk _ _ _ _ _ h w hl)
def B_X6_builds_0 (Q : Int32 → Mm → Prop)  (h0 : Nat) (x1 : Int32) (M : Mm) : Prop := (ok M h0 6 ∧ (B_X6_in_0 (fun r3 M2 => ((¬ r3 = 0 → (ok M2 h0 6 ∧ (∀ M6, M6 = pI M2 h0 3 x1 → Q x1 M6))) ∧ (r3 = 0 → Q (-1 : Int32) M2))) x1 (gI M h0 3) (40 : Int32) M))
set_option maxHeartbeats 4000000 in
set_option maxRecDepth 100000 in
theorem k_X6_builds_0 {p : Program} {l : Launch} {e : Env} {s : State} {m : MethodId} {args : Array Value} {below : List Frame} {meth : Method} {c : Code} {D : va_G} {cy : Nat → ClassId} {A : Nat → Prop} {Q : Int32 → Mm → Prop} (E : Ex p m c cX6_builds 2 s args RX6 D cy A) (hr : meth.sig.returnType = (some .int)) (hlk : meth.locks = false) : ∀ (h0 : Nat) (x1 : Int32) (M : Mm) (H : Heap) (locs : List Loc) (ls : Array Slot), B_X6_builds_0 Q  h0 x1 M → Wd D cy A s M H locs → lh ls 2 [(0, rv (some h0)), (1, iv x1)] → W p l e (rmm 1 0 0) s m args below meth c H locs 0 0 (MQ below (va_Qi Q (Po D cy A) A) args s 0 0 A) (F0 m 0 ls []) := by
  obtain ⟨hx, hb, hml, hown, hts⟩ := E.1
  intro h0 x1 M H locs ls h w hl
  unfold B_X6_builds_0 at h
  refine lv_iload_n (x := x1) hx hb dX6_builds_0 rfl (lh_at hl 1 rfl) ?_
  refine r_aload_n (x := (some h0)) hx hb dX6_builds_1 rfl (lh_at hl 0 rfl) ?_
  obtain ⟨ho1, h⟩ := h
  refine r_getI E w rfl ho1 cl_X6 3 rfl fl_X6_91 dX6_builds_2 ?_
  refine lv_bipush (v := (40 : Int32)) hx hb dX6_builds_5 (by decide) ?_
  refine z_callSi E w yk_X6_in ⟨Nat.le_of_ble_eq_true rfl, Nat.le_of_ble_eq_true rfl⟩ ⟨(Nat.zero_le _), (Nat.zero_le _)⟩ rfl ml_X6_84 st_X6_in [iv x1, iv (gI M h0 3), iv (40 : Int32)] rfl rfl hl [] rfl (Nat.le_of_ble_eq_true rfl) (K_X6_in h) dX6_builds_7 (fun r3 M2 H locs h w => ?_)
  refine lv_if_ne (tgt := 15) hx hb dX6_builds_10 (by decide) (fun c4 => ?_) (fun c4 => ?_)
  · have h := h.1 c4
    refine r_aload_n (x := (some h0)) hx hb dX6_builds_15 rfl (lh_at hl 0 rfl) ?_
    refine lv_iload_n (x := x1) hx hb dX6_builds_16 rfl (lh_at hl 1 rfl) ?_
    obtain ⟨ho5, h⟩ := h
    refine r_putI (v := x1) E w rfl ho5 cl_X6 3 rfl fl_X6_91 (Or.inl rfl) (Or.inl rfl) dX6_builds_17 (fun H locs w => ?_)
    obtain ⟨M6, eM6⟩ : ∃ z, z = pI M2 h0 3 x1 := ⟨_, rfl⟩
    rw [← eM6] at w
    have h := h M6 eM6
    refine lv_iload_n (x := x1) hx hb dX6_builds_20 rfl (lh_at hl 1 rfl) ?_
    exact r_iret E w hr hlk h (Nat.le_refl 0) (Nat.le_refl 0) dX6_builds_21
  · have h := h.2 c4
    refine lv_iconst (v := (-1 : Int32)) hx hb dX6_builds_13 (by decide) ?_
    exact r_iret E w hr hlk h (Nat.le_refl 0) (Nat.le_refl 0) dX6_builds_14
theorem K_X6_builds {l : Launch} {Q : Int32 → Mm → Prop} {h0 : Nat} {x1 : Int32} {M : Mm} (h : B_X6_builds_0 Q h0 x1 M) : KI l yX6_builds cdX6_builds (rmm 1 0 0) [rv (some h0), iv x1] M Q :=
  KI_of (by decide) rfl (Nat.le_of_ble_eq_true rfl) (fun p e s m args below meth c D cy A ls E hr hlk hn w hl => k_X6_builds_0 E hr hlk _ _ _ _ _ _ h w hl)
def B_X6_isTest_0 (Q : Int32 → Mm → Prop)  (h0 : Nat) (x1 : Int32) (M : Mm) : Prop := (ok M h0 6 ∧ (B_X6_in_0 (fun r3 M2 => (bl r3 ∧ Q r3 M2)) x1 (0 : Int32) ((gI M h0 4) - (1 : Int32)) M))
set_option maxHeartbeats 4000000 in
set_option maxRecDepth 100000 in
theorem k_X6_isTest_0 {p : Program} {l : Launch} {e : Env} {s : State} {m : MethodId} {args : Array Value} {below : List Frame} {meth : Method} {c : Code} {D : va_G} {cy : Nat → ClassId} {A : Nat → Prop} {Q : Int32 → Mm → Prop} (E : Ex p m c cX6_isTest 2 s args RX6 D cy A) (hr : meth.sig.returnType = (some .boolean)) (hlk : meth.locks = false) : ∀ (h0 : Nat) (x1 : Int32) (M : Mm) (H : Heap) (locs : List Loc) (ls : Array Slot), B_X6_isTest_0 Q  h0 x1 M → Wd D cy A s M H locs → lh ls 2 [(0, rv (some h0)), (1, iv x1)] → W p l e (rmm 1 0 0) s m args below meth c H locs 0 0 (MQ below (va_Qi Q (Po D cy A) A) args s 0 0 A) (F0 m 0 ls []) := by
  obtain ⟨hx, hb, hml, hown, hts⟩ := E.1
  intro h0 x1 M H locs ls h w hl
  unfold B_X6_isTest_0 at h
  refine lv_iload_n (x := x1) hx hb dX6_isTest_0 rfl (lh_at hl 1 rfl) ?_
  refine lv_iconst (v := (0 : Int32)) hx hb dX6_isTest_1 (by decide) ?_
  refine r_aload_n (x := (some h0)) hx hb dX6_isTest_2 rfl (lh_at hl 0 rfl) ?_
  obtain ⟨ho1, h⟩ := h
  refine r_getI E w rfl ho1 cl_X6 4 rfl fl_X6_94 dX6_isTest_3 ?_
  refine lv_iconst (v := (1 : Int32)) hx hb dX6_isTest_6 (by decide) ?_
  refine lv_isub hx hb dX6_isTest_7 ?_
  refine z_callSi E w yk_X6_in ⟨Nat.le_of_ble_eq_true rfl, Nat.le_of_ble_eq_true rfl⟩ ⟨(Nat.zero_le _), (Nat.zero_le _)⟩ rfl ml_X6_84 st_X6_in [iv x1, iv (0 : Int32), iv ((gI M h0 4) - (1 : Int32))] rfl rfl hl [] rfl (Nat.le_of_ble_eq_true rfl) (K_X6_in h) dX6_isTest_8 (fun r3 M2 H locs h w => ?_)
  exact r_zret E w hr hlk h (Nat.le_refl 0) (Nat.le_refl 0) dX6_isTest_11
theorem K_X6_isTest {l : Launch} {Q : Int32 → Mm → Prop} {h0 : Nat} {x1 : Int32} {M : Mm} (h : B_X6_isTest_0 Q h0 x1 M) : KI l yX6_isTest cdX6_isTest (rmm 1 0 0) [rv (some h0), iv x1] M Q :=
  KI_of (by decide) rfl (Nat.le_of_ble_eq_true rfl) (fun p e s m args below meth c D cy A ls E hr hlk hn w hl => k_X6_isTest_0 E hr hlk _ _ _ _ _ _ h w hl)
def B_X6_isRow_0 (Q : Int32 → Mm → Prop)  (h0 : Nat) (x1 : Int32) (x2 : Int32) (M : Mm) : Prop := (ok M h0 6 ∧ (B_X6_isTest_0 (fun r3 M2 => ((r3 = 0 → Q (0 : Int32) M2) ∧ (¬ r3 = 0 → (B_X6_in_0 (fun r6 M5 => ((r6 = 0 → Q (0 : Int32) M5) ∧ (¬ r6 = 0 → Q (1 : Int32) M5))) x2 (0 : Int32) (3 : Int32) M2)))) h0 x1 M))
set_option maxHeartbeats 4000000 in
set_option maxRecDepth 100000 in
theorem k_X6_isRow_0 {p : Program} {l : Launch} {e : Env} {s : State} {m : MethodId} {args : Array Value} {below : List Frame} {meth : Method} {c : Code} {D : va_G} {cy : Nat → ClassId} {A : Nat → Prop} {Q : Int32 → Mm → Prop} (E : Ex p m c cX6_isRow 3 s args RX6 D cy A) (hr : meth.sig.returnType = (some .boolean)) (hlk : meth.locks = false) : ∀ (h0 : Nat) (x1 : Int32) (x2 : Int32) (M : Mm) (H : Heap) (locs : List Loc) (ls : Array Slot), B_X6_isRow_0 Q  h0 x1 x2 M → Wd D cy A s M H locs → lh ls 3 [(0, rv (some h0)), (1, iv x1), (2, iv x2)] → W p l e (rmm 2 0 0) s m args below meth c H locs 0 0 (MQ below (va_Qi Q (Po D cy A) A) args s 0 0 A) (F0 m 0 ls []) := by
  obtain ⟨hx, hb, hml, hown, hts⟩ := E.1
  intro h0 x1 x2 M H locs ls h w hl
  unfold B_X6_isRow_0 at h
  refine r_aload_n (x := (some h0)) hx hb dX6_isRow_0 rfl (lh_at hl 0 rfl) ?_
  refine lv_iload_n (x := x1) hx hb dX6_isRow_1 rfl (lh_at hl 1 rfl) ?_
  obtain ⟨ho1, h⟩ := h
  refine z_callVi E w rfl ho1 cl_X6 yk_X6_isTest ⟨Nat.le_of_ble_eq_true rfl, Nat.le_of_ble_eq_true rfl⟩ ⟨(Nat.zero_le _), (Nat.zero_le _)⟩ rfl ml_X6_97 im_X6_isTest sl_X6_isTest [iv x1] rfl rfl hl [] rfl (Nat.le_of_ble_eq_true rfl) (K_X6_isTest h) dX6_isRow_2 (fun r3 M2 H locs h w => ?_)
  refine lv_if_eq (tgt := 21) hx hb dX6_isRow_5 (by decide) (fun c4 => ?_) (fun c4 => ?_)
  · have h := h.1 c4
    refine lv_iconst (v := (0 : Int32)) hx hb dX6_isRow_21 (by decide) ?_
    exact r_zret E w hr hlk ⟨Or.inl rfl, h⟩ (Nat.le_refl 0) (Nat.le_refl 0) dX6_isRow_22
  · have h := h.2 c4
    refine lv_iload_n (x := x2) hx hb dX6_isRow_8 rfl (lh_at hl 2 rfl) ?_
    refine lv_iconst (v := (0 : Int32)) hx hb dX6_isRow_9 (by decide) ?_
    refine lv_iconst (v := (3 : Int32)) hx hb dX6_isRow_10 (by decide) ?_
    refine z_callSi E w yk_X6_in ⟨Nat.le_of_ble_eq_true rfl, Nat.le_of_ble_eq_true rfl⟩ ⟨(Nat.zero_le _), (Nat.zero_le _)⟩ rfl ml_X6_84 st_X6_in [iv x2, iv (0 : Int32), iv (3 : Int32)] rfl rfl hl [] rfl (Nat.le_of_ble_eq_true rfl) (K_X6_in h) dX6_isRow_11 (fun r6 M5 H locs h w => ?_)
    refine lv_if_eq (tgt := 21) hx hb dX6_isRow_14 (by decide) (fun c7 => ?_) (fun c7 => ?_)
    · have h := h.1 c7
      refine lv_iconst (v := (0 : Int32)) hx hb dX6_isRow_21 (by decide) ?_
      exact r_zret E w hr hlk ⟨Or.inl rfl, h⟩ (Nat.le_refl 0) (Nat.le_refl 0) dX6_isRow_22
    · have h := h.2 c7
      refine lv_iconst (v := (1 : Int32)) hx hb dX6_isRow_17 (by decide) ?_
      refine lv_goto (tgt := 22) hx hb dX6_isRow_18 (by decide) ?_
      exact r_zret E w hr hlk ⟨Or.inr rfl, h⟩ (Nat.le_refl 0) (Nat.le_refl 0) dX6_isRow_22
theorem K_X6_isRow {l : Launch} {Q : Int32 → Mm → Prop} {h0 : Nat} {x1 : Int32} {x2 : Int32} {M : Mm} (h : B_X6_isRow_0 Q h0 x1 x2 M) : KI l yX6_isRow cdX6_isRow (rmm 2 0 0) [rv (some h0), iv x1, iv x2] M Q :=
  KI_of (by decide) rfl (Nat.le_of_ble_eq_true rfl) (fun p e s m args below meth c D cy A ls E hr hlk hn w hl => k_X6_isRow_0 E hr hlk _ _ _ _ _ _ _ h w hl)
def B_X6_test_0 (Q : Int32 → Mm → Prop)  (h0 : Nat) (x1 : Int32) (M : Mm) : Prop := (B_X6_in_0 (fun r2 M1 => ((¬ r2 = 0 → (ok M1 h0 6 ∧ ((¬ (gI M1 h0 4) = (8 : Int32) → (∃ a6, (gR M1 h0 5) = some a6 ∧ (ar M1 a6 7 (gI M1 h0 4) ∧ (∀ M8, M8 = pI M1 a6 (Int32.toNatClampNeg (gI M1 h0 4)) x1 → (∀ M9, M9 = pI M8 h0 4 ((gI M8 h0 4) + (1 : Int32)) → Q ((gI M9 h0 4) - (1 : Int32)) M9))))) ∧ ((gI M1 h0 4) = (8 : Int32) → Q (-2 : Int32) M1)))) ∧ (r2 = 0 → Q (-1 : Int32) M1))) x1 (0 : Int32) (2 : Int32) M)
set_option maxHeartbeats 4000000 in
set_option maxRecDepth 100000 in
theorem k_X6_test_0 {p : Program} {l : Launch} {e : Env} {s : State} {m : MethodId} {args : Array Value} {below : List Frame} {meth : Method} {c : Code} {D : va_G} {cy : Nat → ClassId} {A : Nat → Prop} {Q : Int32 → Mm → Prop} (E : Ex p m c cX6_test 2 s args RX6 D cy A) (hr : meth.sig.returnType = (some .int)) (hlk : meth.locks = false) : ∀ (h0 : Nat) (x1 : Int32) (M : Mm) (H : Heap) (locs : List Loc) (ls : Array Slot), B_X6_test_0 Q  h0 x1 M → Wd D cy A s M H locs → lh ls 2 [(0, rv (some h0)), (1, iv x1)] → W p l e (rmm 1 0 0) s m args below meth c H locs 0 0 (MQ below (va_Qi Q (Po D cy A) A) args s 0 0 A) (F0 m 0 ls []) := by
  obtain ⟨hx, hb, hml, hown, hts⟩ := E.1
  intro h0 x1 M H locs ls h w hl
  unfold B_X6_test_0 at h
  refine lv_iload_n (x := x1) hx hb dX6_test_0 rfl (lh_at hl 1 rfl) ?_
  refine lv_iconst (v := (0 : Int32)) hx hb dX6_test_1 (by decide) ?_
  refine lv_iconst (v := (2 : Int32)) hx hb dX6_test_2 (by decide) ?_
  refine z_callSi E w yk_X6_in ⟨Nat.le_of_ble_eq_true rfl, Nat.le_of_ble_eq_true rfl⟩ ⟨(Nat.zero_le _), (Nat.zero_le _)⟩ rfl ml_X6_84 st_X6_in [iv x1, iv (0 : Int32), iv (2 : Int32)] rfl rfl hl [] rfl (Nat.le_of_ble_eq_true rfl) (K_X6_in h) dX6_test_3 (fun r2 M1 H locs h w => ?_)
  refine lv_if_ne (tgt := 11) hx hb dX6_test_6 (by decide) (fun c3 => ?_) (fun c3 => ?_)
  · have h := h.1 c3
    refine r_aload_n (x := (some h0)) hx hb dX6_test_11 rfl (lh_at hl 0 rfl) ?_
    obtain ⟨ho4, h⟩ := h
    refine r_getI E w rfl ho4 cl_X6 4 rfl fl_X6_94 dX6_test_12 ?_
    refine lv_bipush (v := (8 : Int32)) hx hb dX6_test_15 (by decide) ?_
    refine lv_icmp_ne (tgt := 23) hx hb dX6_test_17 (by decide) (fun c5 => ?_) (fun c5 => ?_)
    · have h := h.1 c5
      refine r_aload_n (x := (some h0)) hx hb dX6_test_23 rfl (lh_at hl 0 rfl) ?_
      refine r_getR E w rfl ho4 cl_X6 5 rfl fl_X6_13 dX6_test_24 ?_
      refine r_aload_n (x := (some h0)) hx hb dX6_test_27 rfl (lh_at hl 0 rfl) ?_
      refine r_getI E w rfl ho4 cl_X6 4 rfl fl_X6_94 dX6_test_28 ?_
      refine lv_iload_n (x := x1) hx hb dX6_test_31 rfl (lh_at hl 1 rfl) ?_
      obtain ⟨a6, ea6, h⟩ := h
      obtain ⟨ha7, h⟩ := h
      refine r_iast (v := x1) E w ea6 ha7 dX6_test_32 (fun H locs w => ?_)
      obtain ⟨M8, eM8⟩ : ∃ z, z = pI M1 a6 (Int32.toNatClampNeg (gI M1 h0 4)) x1 := ⟨_, rfl⟩
      rw [← eM8] at w
      have h := h M8 eM8
      refine r_aload_n (x := (some h0)) hx hb dX6_test_33 rfl (lh_at hl 0 rfl) ?_
      refine r_dupr hx hb dX6_test_34 ?_
      have ho4 : ok M8 h0 6 := by rw [eM8]; exact ho4
      refine r_getI E w rfl ho4 cl_X6 4 rfl fl_X6_94 dX6_test_35 ?_
      refine lv_iconst (v := (1 : Int32)) hx hb dX6_test_38 (by decide) ?_
      refine lv_iadd hx hb dX6_test_39 ?_
      refine r_putI (v := ((gI M8 h0 4) + (1 : Int32))) E w rfl ho4 cl_X6 4 rfl fl_X6_94 (Or.inl rfl) (Or.inl rfl) dX6_test_40 (fun H locs w => ?_)
      obtain ⟨M9, eM9⟩ : ∃ z, z = pI M8 h0 4 ((gI M8 h0 4) + (1 : Int32)) := ⟨_, rfl⟩
      rw [← eM9] at w
      have h := h M9 eM9
      refine r_aload_n (x := (some h0)) hx hb dX6_test_43 rfl (lh_at hl 0 rfl) ?_
      have ho4 : ok M9 h0 6 := by rw [eM9]; exact ho4
      refine r_getI E w rfl ho4 cl_X6 4 rfl fl_X6_94 dX6_test_44 ?_
      refine lv_iconst (v := (1 : Int32)) hx hb dX6_test_47 (by decide) ?_
      refine lv_isub hx hb dX6_test_48 ?_
      exact r_iret E w hr hlk h (Nat.le_refl 0) (Nat.le_refl 0) dX6_test_49
    · have h := h.2 c5
      refine lv_bipush (v := (-2 : Int32)) hx hb dX6_test_20 (by decide) ?_
      exact r_iret E w hr hlk h (Nat.le_refl 0) (Nat.le_refl 0) dX6_test_22
  · have h := h.2 c3
    refine lv_iconst (v := (-1 : Int32)) hx hb dX6_test_9 (by decide) ?_
    exact r_iret E w hr hlk h (Nat.le_refl 0) (Nat.le_refl 0) dX6_test_10
theorem K_X6_test {l : Launch} {Q : Int32 → Mm → Prop} {h0 : Nat} {x1 : Int32} {M : Mm} (h : B_X6_test_0 Q h0 x1 M) : KI l yX6_test cdX6_test (rmm 1 0 0) [rv (some h0), iv x1] M Q :=
  KI_of (by decide) rfl (Nat.le_of_ble_eq_true rfl) (fun p e s m args below meth c D cy A ls E hr hlk hn w hl => k_X6_test_0 E hr hlk _ _ _ _ _ _ h w hl)
def B_X6_is_0 (Q : Int32 → Mm → Prop)  (h0 : Nat) (x1 : Int32) (x2 : Int32) (M : Mm) : Prop := (ok M h0 6 ∧ (B_X6_isTest_0 (fun r3 M2 => ((r3 = 0 → Q (-1 : Int32) M2) ∧ (¬ r3 = 0 → (B_X6_in_0 (fun r6 M5 => ((¬ r6 = 0 → ((x2 = 0 → Q (1 : Int32) M5) ∧ (¬ x2 = 0 → (ok M5 h0 6 ∧ (∃ a10, (gR M5 h0 5) = some a10 ∧ (ar M5 a10 7 x1 ∧ ((¬ (gI M5 a10 (Int32.toNatClampNeg x1)) = x2 → Q (0 : Int32) M5) ∧ ((gI M5 a10 (Int32.toNatClampNeg x1)) = x2 → Q (1 : Int32) M5)))))))) ∧ (r6 = 0 → Q (-1 : Int32) M5))) x2 (0 : Int32) (2 : Int32) M2)))) h0 x1 M))
set_option maxHeartbeats 4000000 in
set_option maxRecDepth 100000 in
theorem k_X6_is_0 {p : Program} {l : Launch} {e : Env} {s : State} {m : MethodId} {args : Array Value} {below : List Frame} {meth : Method} {c : Code} {D : va_G} {cy : Nat → ClassId} {A : Nat → Prop} {Q : Int32 → Mm → Prop} (E : Ex p m c cX6_is 3 s args RX6 D cy A) (hr : meth.sig.returnType = (some .int)) (hlk : meth.locks = false) : ∀ (h0 : Nat) (x1 : Int32) (x2 : Int32) (M : Mm) (H : Heap) (locs : List Loc) (ls : Array Slot), B_X6_is_0 Q  h0 x1 x2 M → Wd D cy A s M H locs → lh ls 3 [(0, rv (some h0)), (1, iv x1), (2, iv x2)] → W p l e (rmm 2 0 0) s m args below meth c H locs 0 0 (MQ below (va_Qi Q (Po D cy A) A) args s 0 0 A) (F0 m 0 ls []) := by
  obtain ⟨hx, hb, hml, hown, hts⟩ := E.1
  intro h0 x1 x2 M H locs ls h w hl
  unfold B_X6_is_0 at h
  refine r_aload_n (x := (some h0)) hx hb dX6_is_0 rfl (lh_at hl 0 rfl) ?_
  refine lv_iload_n (x := x1) hx hb dX6_is_1 rfl (lh_at hl 1 rfl) ?_
  obtain ⟨ho1, h⟩ := h
  refine z_callVi E w rfl ho1 cl_X6 yk_X6_isTest ⟨Nat.le_of_ble_eq_true rfl, Nat.le_of_ble_eq_true rfl⟩ ⟨(Nat.zero_le _), (Nat.zero_le _)⟩ rfl ml_X6_97 im_X6_isTest sl_X6_isTest [iv x1] rfl rfl hl [] rfl (Nat.le_of_ble_eq_true rfl) (K_X6_isTest h) dX6_is_2 (fun r3 M2 H locs h w => ?_)
  refine lv_if_eq (tgt := 17) hx hb dX6_is_5 (by decide) (fun c4 => ?_) (fun c4 => ?_)
  · have h := h.1 c4
    refine lv_iconst (v := (-1 : Int32)) hx hb dX6_is_17 (by decide) ?_
    refine lv_goto (tgt := 40) hx hb dX6_is_18 (by decide) ?_
    exact r_iret E w hr hlk h (Nat.le_refl 0) (Nat.le_refl 0) dX6_is_40
  · have h := h.2 c4
    refine lv_iload_n (x := x2) hx hb dX6_is_8 rfl (lh_at hl 2 rfl) ?_
    refine lv_iconst (v := (0 : Int32)) hx hb dX6_is_9 (by decide) ?_
    refine lv_iconst (v := (2 : Int32)) hx hb dX6_is_10 (by decide) ?_
    refine z_callSi E w yk_X6_in ⟨Nat.le_of_ble_eq_true rfl, Nat.le_of_ble_eq_true rfl⟩ ⟨(Nat.zero_le _), (Nat.zero_le _)⟩ rfl ml_X6_84 st_X6_in [iv x2, iv (0 : Int32), iv (2 : Int32)] rfl rfl hl [] rfl (Nat.le_of_ble_eq_true rfl) (K_X6_in h) dX6_is_11 (fun r6 M5 H locs h w => ?_)
    refine lv_if_ne (tgt := 21) hx hb dX6_is_14 (by decide) (fun c7 => ?_) (fun c7 => ?_)
    · have h := h.1 c7
      refine lv_iload_n (x := x2) hx hb dX6_is_21 rfl (lh_at hl 2 rfl) ?_
      refine lv_if_eq (tgt := 35) hx hb dX6_is_22 (by decide) (fun c8 => ?_) (fun c8 => ?_)
      · have h := h.1 c8
        refine lv_iconst (v := (1 : Int32)) hx hb dX6_is_35 (by decide) ?_
        refine lv_goto (tgt := 40) hx hb dX6_is_36 (by decide) ?_
        exact r_iret E w hr hlk h (Nat.le_refl 0) (Nat.le_refl 0) dX6_is_40
      · have h := h.2 c8
        refine r_aload_n (x := (some h0)) hx hb dX6_is_25 rfl (lh_at hl 0 rfl) ?_
        obtain ⟨ho9, h⟩ := h
        refine r_getR E w rfl ho9 cl_X6 5 rfl fl_X6_13 dX6_is_26 ?_
        refine lv_iload_n (x := x1) hx hb dX6_is_29 rfl (lh_at hl 1 rfl) ?_
        obtain ⟨a10, ea10, h⟩ := h
        obtain ⟨ha11, h⟩ := h
        refine r_iald E w ea10 ha11 dX6_is_30 ?_
        refine lv_iload_n (x := x2) hx hb dX6_is_31 rfl (lh_at hl 2 rfl) ?_
        refine lv_icmp_ne (tgt := 39) hx hb dX6_is_32 (by decide) (fun c12 => ?_) (fun c12 => ?_)
        · have h := h.1 c12
          refine lv_iconst (v := (0 : Int32)) hx hb dX6_is_39 (by decide) ?_
          exact r_iret E w hr hlk h (Nat.le_refl 0) (Nat.le_refl 0) dX6_is_40
        · have h := h.2 c12
          refine lv_iconst (v := (1 : Int32)) hx hb dX6_is_35 (by decide) ?_
          refine lv_goto (tgt := 40) hx hb dX6_is_36 (by decide) ?_
          exact r_iret E w hr hlk h (Nat.le_refl 0) (Nat.le_refl 0) dX6_is_40
    · have h := h.2 c7
      refine lv_iconst (v := (-1 : Int32)) hx hb dX6_is_17 (by decide) ?_
      refine lv_goto (tgt := 40) hx hb dX6_is_18 (by decide) ?_
      exact r_iret E w hr hlk h (Nat.le_refl 0) (Nat.le_refl 0) dX6_is_40
theorem K_X6_is {l : Launch} {Q : Int32 → Mm → Prop} {h0 : Nat} {x1 : Int32} {x2 : Int32} {M : Mm} (h : B_X6_is_0 Q h0 x1 x2 M) : KI l yX6_is cdX6_is (rmm 2 0 0) [rv (some h0), iv x1, iv x2] M Q :=
  KI_of (by decide) rfl (Nat.le_of_ble_eq_true rfl) (fun p e s m args below meth c D cy A ls E hr hlk hn w hl => k_X6_is_0 E hr hlk _ _ _ _ _ _ _ h w hl)
def B_X6_row_43 (Q : Int32 → Mm → Prop)  : Nat → Nat → Int32 → Int32 → Int32 → Mm → Prop
  | 0, _, _, _, _, _ => False
  | n + 1, h0, x3, x4, x5, M => (((40 : Int32) ≤ x5 → Q x4 M) ∧ (¬ (40 : Int32) ≤ x5 → (ok M h0 6 ∧ (∃ a3, (gR M h0 7) = some a3 ∧ (ar M a3 7 (((40 : Int32) * x3) + x5) ∧ (∀ M5, M5 = pI M a3 (Int32.toNatClampNeg (((40 : Int32) * x3) + x5)) (-9 : Int32) → B_X6_row_43 Q  n h0 x3 x4 (x5 + 1) M5))))))
set_option maxHeartbeats 4000000 in
set_option maxRecDepth 100000 in
theorem k_X6_row_43 {p : Program} {l : Launch} {e : Env} {s : State} {m : MethodId} {args : Array Value} {below : List Frame} {meth : Method} {c : Code} {D : va_G} {cy : Nat → ClassId} {A : Nat → Prop} {Q : Int32 → Mm → Prop} (E : Ex p m c cX6_row 6 s args RX6 D cy A) (hr : meth.sig.returnType = (some .int)) (hlk : meth.locks = false) : ∀ (n : Nat), ∀ (h0 : Nat) (x3 : Int32) (x4 : Int32) (x5 : Int32) (M : Mm) (H : Heap) (locs : List Loc) (ls : Array Slot), B_X6_row_43 Q  n h0 x3 x4 x5 M → Wd D cy A s M H locs → lh ls 6 [(0, rv (some h0)), (3, iv x3), (4, iv x4), (5, iv x5)] → W p l e (rmm 3 0 0) s m args below meth c H locs 0 0 (MQ below (va_Qi Q (Po D cy A) A) args s 0 0 A) (F0 m 43 ls []) := by
  obtain ⟨hx, hb, hml, hown, hts⟩ := E.1
  intro n
  induction n with
  | zero => intro h0 x3 x4 x5 M H locs ls h; exact False.elim h
  | succ n ih =>
    intro h0 x3 x4 x5 M H locs ls h w hl
    unfold B_X6_row_43 at h
    refine lv_iload (x := x5) hx hb dX6_row_43 (lh_at hl 3 rfl) ?_
    refine lv_bipush (v := (40 : Int32)) hx hb dX6_row_45 (by decide) ?_
    refine lv_icmp_ge (tgt := 70) hx hb dX6_row_47 (by decide) (fun c1 => ?_) (fun c1 => ?_)
    · have h := h.1 c1
      refine lv_iload (x := x4) hx hb dX6_row_70 (lh_at hl 2 rfl) ?_
      exact r_iret E w hr hlk h (Nat.le_refl 0) (Nat.le_refl 0) dX6_row_72
    · have h := h.2 c1
      refine r_aload_n (x := (some h0)) hx hb dX6_row_50 rfl (lh_at hl 0 rfl) ?_
      obtain ⟨ho2, h⟩ := h
      refine r_getR E w rfl ho2 cl_X6 7 rfl fl_X6_20 dX6_row_51 ?_
      refine lv_bipush (v := (40 : Int32)) hx hb dX6_row_54 (by decide) ?_
      refine lv_iload_n (x := x3) hx hb dX6_row_56 rfl (lh_at hl 1 rfl) ?_
      refine lv_imul hx hb dX6_row_57 ?_
      refine lv_iload (x := x5) hx hb dX6_row_58 (lh_at hl 3 rfl) ?_
      refine lv_iadd hx hb dX6_row_60 ?_
      refine lv_bipush (v := (-9 : Int32)) hx hb dX6_row_61 (by decide) ?_
      obtain ⟨a3, ea3, h⟩ := h
      obtain ⟨ha4, h⟩ := h
      refine r_iast (v := (-9 : Int32)) E w ea3 ha4 dX6_row_63 (fun H locs w => ?_)
      obtain ⟨M5, eM5⟩ : ∃ z, z = pI M a3 (Int32.toNatClampNeg (((40 : Int32) * x3) + x5)) (-9 : Int32) := ⟨_, rfl⟩
      rw [← eM5] at w
      have h := h M5 eM5
      refine r_iinc (k := 3) (x := x5) (v := (x5 + 1)) (lv' := [(5, iv (x5 + 1)), (0, rv (some h0)), (3, iv x3), (4, iv x4)]) hx hb dX6_row_64 hl rfl rfl (by decide) rfl (fun ls hl => ?_)
      refine lv_goto (tgt := 43) hx hb dX6_row_67 (by decide) ?_
      exact ih _ _ _ _ _ _ _ _ h w (lh_sub hl [1, 2, 3, 0] rfl)
def B_X6_row_31 (Q : Int32 → Mm → Prop)  (h0 : Nat) (x3 : Int32) (s0 : Int32) (M : Mm) : Prop := (ok M h0 6 ∧ (∃ a2, (gR M h0 6) = some a2 ∧ (ar M a2 9 x3 ∧ (∀ M4, M4 = pI M a2 (Int32.toNatClampNeg x3) (1 : Int32) → (∃ n5, B_X6_row_43 Q  n5 h0 x3 s0 (0 : Int32) M4)))))
set_option maxHeartbeats 4000000 in
set_option maxRecDepth 100000 in
theorem k_X6_row_31 {p : Program} {l : Launch} {e : Env} {s : State} {m : MethodId} {args : Array Value} {below : List Frame} {meth : Method} {c : Code} {D : va_G} {cy : Nat → ClassId} {A : Nat → Prop} {Q : Int32 → Mm → Prop} (E : Ex p m c cX6_row 6 s args RX6 D cy A) (hr : meth.sig.returnType = (some .int)) (hlk : meth.locks = false) : ∀ (h0 : Nat) (x3 : Int32) (s0 : Int32) (M : Mm) (H : Heap) (locs : List Loc) (ls : Array Slot), B_X6_row_31 Q  h0 x3 s0 M → Wd D cy A s M H locs → lh ls 6 [(0, rv (some h0)), (3, iv x3)] → W p l e (rmm 3 0 0) s m args below meth c H locs 0 0 (MQ below (va_Qi Q (Po D cy A) A) args s 0 0 A) (F0 m 31 ls [.int s0]) := by
  obtain ⟨hx, hb, hml, hown, hts⟩ := E.1
  intro h0 x3 s0 M H locs ls h w hl
  unfold B_X6_row_31 at h
  refine r_istore (lv' := [(4, iv s0), (0, rv (some h0)), (3, iv x3)]) hx hb dX6_row_31 hl (by decide) rfl (fun ls hl => ?_)
  refine r_aload_n (x := (some h0)) hx hb dX6_row_33 rfl (lh_at hl 1 rfl) ?_
  obtain ⟨ho1, h⟩ := h
  refine r_getR E w rfl ho1 cl_X6 6 rfl fl_X6_16 dX6_row_34 ?_
  refine lv_iload_n (x := x3) hx hb dX6_row_37 rfl (lh_at hl 2 rfl) ?_
  refine lv_iconst (v := (1 : Int32)) hx hb dX6_row_38 (by decide) ?_
  obtain ⟨a2, ea2, h⟩ := h
  obtain ⟨ha3, h⟩ := h
  refine r_zast (v := (1 : Int32)) E w ea2 ha3 (Or.inr rfl) dX6_row_39 (fun H locs w => ?_)
  obtain ⟨M4, eM4⟩ : ∃ z, z = pI M a2 (Int32.toNatClampNeg x3) (1 : Int32) := ⟨_, rfl⟩
  rw [← eM4] at w
  have h := h M4 eM4
  refine lv_iconst (v := (0 : Int32)) hx hb dX6_row_40 (by decide) ?_
  refine r_istore (lv' := [(5, iv (0 : Int32)), (4, iv s0), (0, rv (some h0)), (3, iv x3)]) hx hb dX6_row_41 hl (by decide) rfl (fun ls hl => ?_)
  obtain ⟨n5, h⟩ := h
  exact k_X6_row_43 E hr hlk  n5 _ _ _ _ _ _ _ _ h w (lh_sub hl [2, 3, 1, 0] rfl)
def B_X6_row_0 (Q : Int32 → Mm → Prop)  (h0 : Nat) (x1 : Int32) (x2 : Int32) (M : Mm) : Prop := (ok M h0 6 ∧ (B_X6_isRow_0 (fun r3 M2 => ((¬ r3 = 0 → (ok M2 h0 6 ∧ (∃ a6, (gR M2 h0 6) = some a6 ∧ (ar M2 a6 9 (((4 : Int32) * x1) + x2) ∧ (((gI M2 a6 (Int32.toNatClampNeg (((4 : Int32) * x1) + x2))) = 0 → B_X6_row_31 Q  h0 (((4 : Int32) * x1) + x2) (0 : Int32) M2) ∧ (¬ (gI M2 a6 (Int32.toNatClampNeg (((4 : Int32) * x1) + x2))) = 0 → B_X6_row_31 Q  h0 (((4 : Int32) * x1) + x2) (1 : Int32) M2)))))) ∧ (r3 = 0 → Q (-1 : Int32) M2))) h0 x1 x2 M))
set_option maxHeartbeats 4000000 in
set_option maxRecDepth 100000 in
theorem k_X6_row_0 {p : Program} {l : Launch} {e : Env} {s : State} {m : MethodId} {args : Array Value} {below : List Frame} {meth : Method} {c : Code} {D : va_G} {cy : Nat → ClassId} {A : Nat → Prop} {Q : Int32 → Mm → Prop} (E : Ex p m c cX6_row 6 s args RX6 D cy A) (hr : meth.sig.returnType = (some .int)) (hlk : meth.locks = false) : ∀ (h0 : Nat) (x1 : Int32) (x2 : Int32) (M : Mm) (H : Heap) (locs : List Loc) (ls : Array Slot), B_X6_row_0 Q  h0 x1 x2 M → Wd D cy A s M H locs → lh ls 6 [(0, rv (some h0)), (1, iv x1), (2, iv x2)] → W p l e (rmm 3 0 0) s m args below meth c H locs 0 0 (MQ below (va_Qi Q (Po D cy A) A) args s 0 0 A) (F0 m 0 ls []) := by
  obtain ⟨hx, hb, hml, hown, hts⟩ := E.1
  intro h0 x1 x2 M H locs ls h w hl
  unfold B_X6_row_0 at h
  refine r_aload_n (x := (some h0)) hx hb dX6_row_0 rfl (lh_at hl 0 rfl) ?_
  refine lv_iload_n (x := x1) hx hb dX6_row_1 rfl (lh_at hl 1 rfl) ?_
  refine lv_iload_n (x := x2) hx hb dX6_row_2 rfl (lh_at hl 2 rfl) ?_
  obtain ⟨ho1, h⟩ := h
  refine z_callVi E w rfl ho1 cl_X6 yk_X6_isRow ⟨Nat.le_of_ble_eq_true rfl, Nat.le_of_ble_eq_true rfl⟩ ⟨(Nat.zero_le _), (Nat.zero_le _)⟩ rfl ml_X6_101 im_X6_isRow sl_X6_isRow [iv x1, iv x2] rfl rfl hl [] rfl (Nat.le_of_ble_eq_true rfl) (K_X6_isRow h) dX6_row_3 (fun r3 M2 H locs h w => ?_)
  refine lv_if_ne (tgt := 11) hx hb dX6_row_6 (by decide) (fun c4 => ?_) (fun c4 => ?_)
  · have h := h.1 c4
    refine lv_iconst (v := (4 : Int32)) hx hb dX6_row_11 (by decide) ?_
    refine lv_iload_n (x := x1) hx hb dX6_row_12 rfl (lh_at hl 1 rfl) ?_
    refine lv_imul hx hb dX6_row_13 ?_
    refine lv_iload_n (x := x2) hx hb dX6_row_14 rfl (lh_at hl 2 rfl) ?_
    refine lv_iadd hx hb dX6_row_15 ?_
    refine r_istore_n (lv' := [(3, iv (((4 : Int32) * x1) + x2)), (0, rv (some h0)), (1, iv x1), (2, iv x2)]) hx hb dX6_row_16 rfl hl (by decide) rfl (fun ls hl => ?_)
    refine r_aload_n (x := (some h0)) hx hb dX6_row_17 rfl (lh_at hl 1 rfl) ?_
    obtain ⟨ho5, h⟩ := h
    refine r_getR E w rfl ho5 cl_X6 6 rfl fl_X6_16 dX6_row_18 ?_
    refine lv_iload_n (x := (((4 : Int32) * x1) + x2)) hx hb dX6_row_21 rfl (lh_at hl 0 rfl) ?_
    obtain ⟨a6, ea6, h⟩ := h
    obtain ⟨ha7, h⟩ := h
    refine r_zald E w ea6 ha7 dX6_row_22 ?_
    refine lv_if_eq (tgt := 30) hx hb dX6_row_23 (by decide) (fun c8 => ?_) (fun c8 => ?_)
    · have h := h.1 c8
      refine lv_iconst (v := (0 : Int32)) hx hb dX6_row_30 (by decide) ?_
      exact k_X6_row_31 E hr hlk  _ _ _ _ _ _ _ h w (lh_sub hl [1, 0] rfl)
    · have h := h.2 c8
      refine lv_iconst (v := (1 : Int32)) hx hb dX6_row_26 (by decide) ?_
      refine lv_goto (tgt := 31) hx hb dX6_row_27 (by decide) ?_
      exact k_X6_row_31 E hr hlk  _ _ _ _ _ _ _ h w (lh_sub hl [1, 0] rfl)
  · have h := h.2 c4
    refine lv_iconst (v := (-1 : Int32)) hx hb dX6_row_9 (by decide) ?_
    exact r_iret E w hr hlk h (Nat.le_refl 0) (Nat.le_refl 0) dX6_row_10
theorem K_X6_row {l : Launch} {Q : Int32 → Mm → Prop} {h0 : Nat} {x1 : Int32} {x2 : Int32} {M : Mm} (h : B_X6_row_0 Q h0 x1 x2 M) : KI l yX6_row cdX6_row (rmm 3 0 0) [rv (some h0), iv x1, iv x2] M Q :=
  KI_of (by decide) rfl (Nat.le_of_ble_eq_true rfl) (fun p e s m args below meth c D cy A ls E hr hlk hn w hl => k_X6_row_0 E hr hlk _ _ _ _ _ _ _ h w hl)
def B_X6_lay_29 (Q : Int32 → Mm → Prop)  (h0 : Nat) (x1 : Int32) (x2 : Int32) (x3 : Int32) (x4 : Int32) (M : Mm) : Prop := (ok M h0 6 ∧ (∃ a2, (gR M h0 6) = some a2 ∧ (ar M a2 9 (((4 : Int32) * x1) + x2) ∧ ((¬ (gI M a2 (Int32.toNatClampNeg (((4 : Int32) * x1) + x2))) = 0 → (B_X6_in_0 (fun r6 M5 => ((¬ r6 = 0 → (ok M5 h0 6 ∧ (∃ a9, (gR M5 h0 7) = some a9 ∧ (ar M5 a9 7 (((40 : Int32) * (((4 : Int32) * x1) + x2)) + x3) ∧ (ar M5 a9 7 (((40 : Int32) * (((4 : Int32) * x1) + x2)) + x3) ∧ (∀ M12, M12 = pI M5 a9 (Int32.toNatClampNeg (((40 : Int32) * (((4 : Int32) * x1) + x2)) + x3)) x4 → Q (gI M5 a9 (Int32.toNatClampNeg (((40 : Int32) * (((4 : Int32) * x1) + x2)) + x3))) M12)))))) ∧ (r6 = 0 → (ok M5 h0 6 ∧ (B_X6_meets_0 (fun r15 M14 => Q r15 M14) h0 (2 : Int32) M5))))) x3 (0 : Int32) (39 : Int32) M)) ∧ ((gI M a2 (Int32.toNatClampNeg (((4 : Int32) * x1) + x2))) = 0 → (B_X6_meets_0 (fun r17 M16 => Q r17 M16) h0 (1 : Int32) M))))))
set_option maxHeartbeats 4000000 in
set_option maxRecDepth 100000 in
theorem k_X6_lay_29 {p : Program} {l : Launch} {e : Env} {s : State} {m : MethodId} {args : Array Value} {below : List Frame} {meth : Method} {c : Code} {D : va_G} {cy : Nat → ClassId} {A : Nat → Prop} {Q : Int32 → Mm → Prop} (E : Ex p m c cX6_lay 7 s args RX6 D cy A) (hr : meth.sig.returnType = (some .int)) (hlk : meth.locks = false) : ∀ (h0 : Nat) (x1 : Int32) (x2 : Int32) (x3 : Int32) (x4 : Int32) (M : Mm) (H : Heap) (locs : List Loc) (ls : Array Slot), B_X6_lay_29 Q  h0 x1 x2 x3 x4 M → Wd D cy A s M H locs → lh ls 7 [(0, rv (some h0)), (1, iv x1), (2, iv x2), (3, iv x3), (4, iv x4)] → W p l e (rmm 3 0 0) s m args below meth c H locs 0 0 (MQ below (va_Qi Q (Po D cy A) A) args s 0 0 A) (F0 m 29 ls []) := by
  obtain ⟨hx, hb, hml, hown, hts⟩ := E.1
  intro h0 x1 x2 x3 x4 M H locs ls h w hl
  unfold B_X6_lay_29 at h
  refine lv_iconst (v := (4 : Int32)) hx hb dX6_lay_29 (by decide) ?_
  refine lv_iload_n (x := x1) hx hb dX6_lay_30 rfl (lh_at hl 1 rfl) ?_
  refine lv_imul hx hb dX6_lay_31 ?_
  refine lv_iload_n (x := x2) hx hb dX6_lay_32 rfl (lh_at hl 2 rfl) ?_
  refine lv_iadd hx hb dX6_lay_33 ?_
  refine r_istore (lv' := [(5, iv (((4 : Int32) * x1) + x2)), (0, rv (some h0)), (1, iv x1), (2, iv x2), (3, iv x3), (4, iv x4)]) hx hb dX6_lay_34 hl (by decide) rfl (fun ls hl => ?_)
  refine r_aload_n (x := (some h0)) hx hb dX6_lay_36 rfl (lh_at hl 1 rfl) ?_
  obtain ⟨ho1, h⟩ := h
  refine r_getR E w rfl ho1 cl_X6 6 rfl fl_X6_16 dX6_lay_37 ?_
  refine lv_iload (x := (((4 : Int32) * x1) + x2)) hx hb dX6_lay_40 (lh_at hl 0 rfl) ?_
  obtain ⟨a2, ea2, h⟩ := h
  obtain ⟨ha3, h⟩ := h
  refine r_zald E w ea2 ha3 dX6_lay_42 ?_
  refine lv_if_ne (tgt := 52) hx hb dX6_lay_43 (by decide) (fun c4 => ?_) (fun c4 => ?_)
  · have h := h.1 c4
    refine lv_iload_n (x := x3) hx hb dX6_lay_52 rfl (lh_at hl 4 rfl) ?_
    refine lv_iconst (v := (0 : Int32)) hx hb dX6_lay_53 (by decide) ?_
    refine lv_bipush (v := (39 : Int32)) hx hb dX6_lay_54 (by decide) ?_
    refine z_callSi E w yk_X6_in ⟨Nat.le_of_ble_eq_true rfl, Nat.le_of_ble_eq_true rfl⟩ ⟨(Nat.zero_le _), (Nat.zero_le _)⟩ rfl ml_X6_84 st_X6_in [iv x3, iv (0 : Int32), iv (39 : Int32)] rfl rfl hl [] rfl (Nat.le_of_ble_eq_true rfl) (K_X6_in h) dX6_lay_56 (fun r6 M5 H locs h w => ?_)
    refine lv_if_ne (tgt := 68) hx hb dX6_lay_59 (by decide) (fun c7 => ?_) (fun c7 => ?_)
    · have h := h.1 c7
      refine r_aload_n (x := (some h0)) hx hb dX6_lay_68 rfl (lh_at hl 1 rfl) ?_
      obtain ⟨ho8, h⟩ := h
      refine r_getR E w rfl ho8 cl_X6 7 rfl fl_X6_20 dX6_lay_69 ?_
      refine lv_bipush (v := (40 : Int32)) hx hb dX6_lay_72 (by decide) ?_
      refine lv_iload (x := (((4 : Int32) * x1) + x2)) hx hb dX6_lay_74 (lh_at hl 0 rfl) ?_
      refine lv_imul hx hb dX6_lay_76 ?_
      refine lv_iload_n (x := x3) hx hb dX6_lay_77 rfl (lh_at hl 4 rfl) ?_
      refine lv_iadd hx hb dX6_lay_78 ?_
      obtain ⟨a9, ea9, h⟩ := h
      obtain ⟨ha10, h⟩ := h
      refine r_iald E w ea9 ha10 dX6_lay_79 ?_
      refine r_istore (lv' := [(6, iv (gI M5 a9 (Int32.toNatClampNeg (((40 : Int32) * (((4 : Int32) * x1) + x2)) + x3)))), (5, iv (((4 : Int32) * x1) + x2)), (0, rv (some h0)), (1, iv x1), (2, iv x2), (3, iv x3), (4, iv x4)]) hx hb dX6_lay_80 hl (by decide) rfl (fun ls hl => ?_)
      refine r_aload_n (x := (some h0)) hx hb dX6_lay_82 rfl (lh_at hl 2 rfl) ?_
      refine r_getR E w rfl ho8 cl_X6 7 rfl fl_X6_20 dX6_lay_83 ?_
      refine lv_bipush (v := (40 : Int32)) hx hb dX6_lay_86 (by decide) ?_
      refine lv_iload (x := (((4 : Int32) * x1) + x2)) hx hb dX6_lay_88 (lh_at hl 1 rfl) ?_
      refine lv_imul hx hb dX6_lay_90 ?_
      refine lv_iload_n (x := x3) hx hb dX6_lay_91 rfl (lh_at hl 5 rfl) ?_
      refine lv_iadd hx hb dX6_lay_92 ?_
      refine lv_iload (x := x4) hx hb dX6_lay_93 (lh_at hl 6 rfl) ?_
      obtain ⟨ha11, h⟩ := h
      refine r_iast (v := x4) E w ea9 ha11 dX6_lay_95 (fun H locs w => ?_)
      obtain ⟨M12, eM12⟩ : ∃ z, z = pI M5 a9 (Int32.toNatClampNeg (((40 : Int32) * (((4 : Int32) * x1) + x2)) + x3)) x4 := ⟨_, rfl⟩
      rw [← eM12] at w
      have h := h M12 eM12
      refine lv_iload (x := (gI M5 a9 (Int32.toNatClampNeg (((40 : Int32) * (((4 : Int32) * x1) + x2)) + x3)))) hx hb dX6_lay_96 (lh_at hl 0 rfl) ?_
      exact r_iret E w hr hlk h (Nat.le_refl 0) (Nat.le_refl 0) dX6_lay_98
    · have h := h.2 c7
      refine r_aload_n (x := (some h0)) hx hb dX6_lay_62 rfl (lh_at hl 1 rfl) ?_
      refine lv_iconst (v := (2 : Int32)) hx hb dX6_lay_63 (by decide) ?_
      obtain ⟨ho13, h⟩ := h
      refine z_callVi E w rfl ho13 cl_X6 yk_X6_meets ⟨Nat.le_of_ble_eq_true rfl, Nat.le_of_ble_eq_true rfl⟩ ⟨(Nat.zero_le _), (Nat.zero_le _)⟩ rfl ml_X6_106 im_X6_meets sl_X6_meets [iv (2 : Int32)] rfl rfl hl [] rfl (Nat.le_of_ble_eq_true rfl) (K_X6_meets h) dX6_lay_64 (fun r15 M14 H locs h w => ?_)
      exact r_iret E w hr hlk h (Nat.le_refl 0) (Nat.le_refl 0) dX6_lay_67
  · have h := h.2 c4
    refine r_aload_n (x := (some h0)) hx hb dX6_lay_46 rfl (lh_at hl 1 rfl) ?_
    refine lv_iconst (v := (1 : Int32)) hx hb dX6_lay_47 (by decide) ?_
    refine z_callVi E w rfl ho1 cl_X6 yk_X6_meets ⟨Nat.le_of_ble_eq_true rfl, Nat.le_of_ble_eq_true rfl⟩ ⟨(Nat.zero_le _), (Nat.zero_le _)⟩ rfl ml_X6_106 im_X6_meets sl_X6_meets [iv (1 : Int32)] rfl rfl hl [] rfl (Nat.le_of_ble_eq_true rfl) (K_X6_meets h) dX6_lay_48 (fun r17 M16 H locs h w => ?_)
    exact r_iret E w hr hlk h (Nat.le_refl 0) (Nat.le_refl 0) dX6_lay_51
def B_X6_lay_0 (Q : Int32 → Mm → Prop)  (h0 : Nat) (x1 : Int32) (x2 : Int32) (x3 : Int32) (x4 : Int32) (M : Mm) : Prop := (ok M h0 6 ∧ (B_X6_isRow_0 (fun r3 M2 => ((r3 = 0 → Q (-1 : Int32) M2) ∧ (¬ r3 = 0 → ((x4 = (-9 : Int32) → B_X6_lay_29 Q  h0 x1 x2 x3 x4 M2) ∧ (¬ x4 = (-9 : Int32) → (B_X6_in_0 (fun r7 M6 => ((¬ r7 = 0 → B_X6_lay_29 Q  h0 x1 x2 x3 x4 M6) ∧ (r7 = 0 → Q (-1 : Int32) M6))) x4 (0 : Int32) (1000000 : Int32) M2)))))) h0 x1 x2 M))
set_option maxHeartbeats 4000000 in
set_option maxRecDepth 100000 in
theorem k_X6_lay_0 {p : Program} {l : Launch} {e : Env} {s : State} {m : MethodId} {args : Array Value} {below : List Frame} {meth : Method} {c : Code} {D : va_G} {cy : Nat → ClassId} {A : Nat → Prop} {Q : Int32 → Mm → Prop} (E : Ex p m c cX6_lay 7 s args RX6 D cy A) (hr : meth.sig.returnType = (some .int)) (hlk : meth.locks = false) : ∀ (h0 : Nat) (x1 : Int32) (x2 : Int32) (x3 : Int32) (x4 : Int32) (M : Mm) (H : Heap) (locs : List Loc) (ls : Array Slot), B_X6_lay_0 Q  h0 x1 x2 x3 x4 M → Wd D cy A s M H locs → lh ls 7 [(0, rv (some h0)), (1, iv x1), (2, iv x2), (3, iv x3), (4, iv x4)] → W p l e (rmm 3 0 0) s m args below meth c H locs 0 0 (MQ below (va_Qi Q (Po D cy A) A) args s 0 0 A) (F0 m 0 ls []) := by
  obtain ⟨hx, hb, hml, hown, hts⟩ := E.1
  intro h0 x1 x2 x3 x4 M H locs ls h w hl
  unfold B_X6_lay_0 at h
  refine r_aload_n (x := (some h0)) hx hb dX6_lay_0 rfl (lh_at hl 0 rfl) ?_
  refine lv_iload_n (x := x1) hx hb dX6_lay_1 rfl (lh_at hl 1 rfl) ?_
  refine lv_iload_n (x := x2) hx hb dX6_lay_2 rfl (lh_at hl 2 rfl) ?_
  obtain ⟨ho1, h⟩ := h
  refine z_callVi E w rfl ho1 cl_X6 yk_X6_isRow ⟨Nat.le_of_ble_eq_true rfl, Nat.le_of_ble_eq_true rfl⟩ ⟨(Nat.zero_le _), (Nat.zero_le _)⟩ rfl ml_X6_101 im_X6_isRow sl_X6_isRow [iv x1, iv x2] rfl rfl hl [] rfl (Nat.le_of_ble_eq_true rfl) (K_X6_isRow h) dX6_lay_3 (fun r3 M2 H locs h w => ?_)
  refine lv_if_eq (tgt := 27) hx hb dX6_lay_6 (by decide) (fun c4 => ?_) (fun c4 => ?_)
  · have h := h.1 c4
    refine lv_iconst (v := (-1 : Int32)) hx hb dX6_lay_27 (by decide) ?_
    exact r_iret E w hr hlk h (Nat.le_refl 0) (Nat.le_refl 0) dX6_lay_28
  · have h := h.2 c4
    refine lv_iload (x := x4) hx hb dX6_lay_9 (lh_at hl 4 rfl) ?_
    refine lv_bipush (v := (-9 : Int32)) hx hb dX6_lay_11 (by decide) ?_
    refine lv_icmp_eq (tgt := 29) hx hb dX6_lay_13 (by decide) (fun c5 => ?_) (fun c5 => ?_)
    · have h := h.1 c5
      exact k_X6_lay_29 E hr hlk  _ _ _ _ _ _ _ _ _ h w (lh_sub hl [0, 1, 2, 3, 4] rfl)
    · have h := h.2 c5
      refine lv_iload (x := x4) hx hb dX6_lay_16 (lh_at hl 4 rfl) ?_
      refine lv_iconst (v := (0 : Int32)) hx hb dX6_lay_18 (by decide) ?_
      refine lv_ldc (v := (1000000 : Int32)) hx hb hown (hts _ kc_X6_105) dX6_lay_19 ?_
      refine z_callSi E w yk_X6_in ⟨Nat.le_of_ble_eq_true rfl, Nat.le_of_ble_eq_true rfl⟩ ⟨(Nat.zero_le _), (Nat.zero_le _)⟩ rfl ml_X6_84 st_X6_in [iv x4, iv (0 : Int32), iv (1000000 : Int32)] rfl rfl hl [] rfl (Nat.le_of_ble_eq_true rfl) (K_X6_in h) dX6_lay_21 (fun r7 M6 H locs h w => ?_)
      refine lv_if_ne (tgt := 29) hx hb dX6_lay_24 (by decide) (fun c8 => ?_) (fun c8 => ?_)
      · have h := h.1 c8
        exact k_X6_lay_29 E hr hlk  _ _ _ _ _ _ _ _ _ h w (lh_sub hl [0, 1, 2, 3, 4] rfl)
      · have h := h.2 c8
        refine lv_iconst (v := (-1 : Int32)) hx hb dX6_lay_27 (by decide) ?_
        exact r_iret E w hr hlk h (Nat.le_refl 0) (Nat.le_refl 0) dX6_lay_28
theorem K_X6_lay {l : Launch} {Q : Int32 → Mm → Prop} {h0 : Nat} {x1 : Int32} {x2 : Int32} {x3 : Int32} {x4 : Int32} {M : Mm} (h : B_X6_lay_0 Q h0 x1 x2 x3 x4 M) : KI l yX6_lay cdX6_lay (rmm 3 0 0) [rv (some h0), iv x1, iv x2, iv x3, iv x4] M Q :=
  KI_of (by decide) rfl (Nat.le_of_ble_eq_true rfl) (fun p e s m args below meth c D cy A ls E hr hlk hn w hl => k_X6_lay_0 E hr hlk _ _ _ _ _ _ _ _ _ h w hl)
def B_X6_at_0 (Q : Int32 → Mm → Prop)  (h0 : Nat) (x1 : Int32) (x2 : Int32) (x3 : Int32) (M : Mm) : Prop := (ok M h0 6 ∧ (B_X6_isRow_0 (fun r3 M2 => ((¬ r3 = 0 → (ok M2 h0 6 ∧ (∃ a6, (gR M2 h0 6) = some a6 ∧ (ar M2 a6 9 (((4 : Int32) * x1) + x2) ∧ ((¬ (gI M2 a6 (Int32.toNatClampNeg (((4 : Int32) * x1) + x2))) = 0 → (B_X6_in_0 (fun r10 M9 => ((r10 = 0 → (ok M9 h0 6 ∧ (B_X6_meets_0 (fun r14 M13 => Q r14 M13) h0 (2 : Int32) M9))) ∧ (¬ r10 = 0 → (ok M9 h0 6 ∧ (∃ a16, (gR M9 h0 7) = some a16 ∧ (ar M9 a16 7 (((40 : Int32) * (((4 : Int32) * x1) + x2)) + x3) ∧ Q (gI M9 a16 (Int32.toNatClampNeg (((40 : Int32) * (((4 : Int32) * x1) + x2)) + x3))) M9)))))) x3 (0 : Int32) (39 : Int32) M2)) ∧ ((gI M2 a6 (Int32.toNatClampNeg (((4 : Int32) * x1) + x2))) = 0 → (B_X6_meets_0 (fun r19 M18 => Q r19 M18) h0 (1 : Int32) M2))))))) ∧ (r3 = 0 → Q (-1 : Int32) M2))) h0 x1 x2 M))
set_option maxHeartbeats 4000000 in
set_option maxRecDepth 100000 in
theorem k_X6_at_0 {p : Program} {l : Launch} {e : Env} {s : State} {m : MethodId} {args : Array Value} {below : List Frame} {meth : Method} {c : Code} {D : va_G} {cy : Nat → ClassId} {A : Nat → Prop} {Q : Int32 → Mm → Prop} (E : Ex p m c cX6_at 5 s args RX6 D cy A) (hr : meth.sig.returnType = (some .int)) (hlk : meth.locks = false) : ∀ (h0 : Nat) (x1 : Int32) (x2 : Int32) (x3 : Int32) (M : Mm) (H : Heap) (locs : List Loc) (ls : Array Slot), B_X6_at_0 Q  h0 x1 x2 x3 M → Wd D cy A s M H locs → lh ls 5 [(0, rv (some h0)), (1, iv x1), (2, iv x2), (3, iv x3)] → W p l e (rmm 3 0 0) s m args below meth c H locs 0 0 (MQ below (va_Qi Q (Po D cy A) A) args s 0 0 A) (F0 m 0 ls []) := by
  obtain ⟨hx, hb, hml, hown, hts⟩ := E.1
  intro h0 x1 x2 x3 M H locs ls h w hl
  unfold B_X6_at_0 at h
  refine r_aload_n (x := (some h0)) hx hb dX6_at_0 rfl (lh_at hl 0 rfl) ?_
  refine lv_iload_n (x := x1) hx hb dX6_at_1 rfl (lh_at hl 1 rfl) ?_
  refine lv_iload_n (x := x2) hx hb dX6_at_2 rfl (lh_at hl 2 rfl) ?_
  obtain ⟨ho1, h⟩ := h
  refine z_callVi E w rfl ho1 cl_X6 yk_X6_isRow ⟨Nat.le_of_ble_eq_true rfl, Nat.le_of_ble_eq_true rfl⟩ ⟨(Nat.zero_le _), (Nat.zero_le _)⟩ rfl ml_X6_101 im_X6_isRow sl_X6_isRow [iv x1, iv x2] rfl rfl hl [] rfl (Nat.le_of_ble_eq_true rfl) (K_X6_isRow h) dX6_at_3 (fun r3 M2 H locs h w => ?_)
  refine lv_if_ne (tgt := 11) hx hb dX6_at_6 (by decide) (fun c4 => ?_) (fun c4 => ?_)
  · have h := h.1 c4
    refine lv_iconst (v := (4 : Int32)) hx hb dX6_at_11 (by decide) ?_
    refine lv_iload_n (x := x1) hx hb dX6_at_12 rfl (lh_at hl 1 rfl) ?_
    refine lv_imul hx hb dX6_at_13 ?_
    refine lv_iload_n (x := x2) hx hb dX6_at_14 rfl (lh_at hl 2 rfl) ?_
    refine lv_iadd hx hb dX6_at_15 ?_
    refine r_istore (lv' := [(4, iv (((4 : Int32) * x1) + x2)), (0, rv (some h0)), (1, iv x1), (2, iv x2), (3, iv x3)]) hx hb dX6_at_16 hl (by decide) rfl (fun ls hl => ?_)
    refine r_aload_n (x := (some h0)) hx hb dX6_at_18 rfl (lh_at hl 1 rfl) ?_
    obtain ⟨ho5, h⟩ := h
    refine r_getR E w rfl ho5 cl_X6 6 rfl fl_X6_16 dX6_at_19 ?_
    refine lv_iload (x := (((4 : Int32) * x1) + x2)) hx hb dX6_at_22 (lh_at hl 0 rfl) ?_
    obtain ⟨a6, ea6, h⟩ := h
    obtain ⟨ha7, h⟩ := h
    refine r_zald E w ea6 ha7 dX6_at_24 ?_
    refine lv_if_ne (tgt := 34) hx hb dX6_at_25 (by decide) (fun c8 => ?_) (fun c8 => ?_)
    · have h := h.1 c8
      refine lv_iload_n (x := x3) hx hb dX6_at_34 rfl (lh_at hl 4 rfl) ?_
      refine lv_iconst (v := (0 : Int32)) hx hb dX6_at_35 (by decide) ?_
      refine lv_bipush (v := (39 : Int32)) hx hb dX6_at_36 (by decide) ?_
      refine z_callSi E w yk_X6_in ⟨Nat.le_of_ble_eq_true rfl, Nat.le_of_ble_eq_true rfl⟩ ⟨(Nat.zero_le _), (Nat.zero_le _)⟩ rfl ml_X6_84 st_X6_in [iv x3, iv (0 : Int32), iv (39 : Int32)] rfl rfl hl [] rfl (Nat.le_of_ble_eq_true rfl) (K_X6_in h) dX6_at_38 (fun r10 M9 H locs h w => ?_)
      refine lv_if_eq (tgt := 59) hx hb dX6_at_41 (by decide) (fun c11 => ?_) (fun c11 => ?_)
      · have h := h.1 c11
        refine r_aload_n (x := (some h0)) hx hb dX6_at_59 rfl (lh_at hl 1 rfl) ?_
        refine lv_iconst (v := (2 : Int32)) hx hb dX6_at_60 (by decide) ?_
        obtain ⟨ho12, h⟩ := h
        refine z_callVi E w rfl ho12 cl_X6 yk_X6_meets ⟨Nat.le_of_ble_eq_true rfl, Nat.le_of_ble_eq_true rfl⟩ ⟨(Nat.zero_le _), (Nat.zero_le _)⟩ rfl ml_X6_106 im_X6_meets sl_X6_meets [iv (2 : Int32)] rfl rfl hl [] rfl (Nat.le_of_ble_eq_true rfl) (K_X6_meets h) dX6_at_61 (fun r14 M13 H locs h w => ?_)
        exact r_iret E w hr hlk h (Nat.le_refl 0) (Nat.le_refl 0) dX6_at_64
      · have h := h.2 c11
        refine r_aload_n (x := (some h0)) hx hb dX6_at_44 rfl (lh_at hl 1 rfl) ?_
        obtain ⟨ho15, h⟩ := h
        refine r_getR E w rfl ho15 cl_X6 7 rfl fl_X6_20 dX6_at_45 ?_
        refine lv_bipush (v := (40 : Int32)) hx hb dX6_at_48 (by decide) ?_
        refine lv_iload (x := (((4 : Int32) * x1) + x2)) hx hb dX6_at_50 (lh_at hl 0 rfl) ?_
        refine lv_imul hx hb dX6_at_52 ?_
        refine lv_iload_n (x := x3) hx hb dX6_at_53 rfl (lh_at hl 4 rfl) ?_
        refine lv_iadd hx hb dX6_at_54 ?_
        obtain ⟨a16, ea16, h⟩ := h
        obtain ⟨ha17, h⟩ := h
        refine r_iald E w ea16 ha17 dX6_at_55 ?_
        refine lv_goto (tgt := 64) hx hb dX6_at_56 (by decide) ?_
        exact r_iret E w hr hlk h (Nat.le_refl 0) (Nat.le_refl 0) dX6_at_64
    · have h := h.2 c8
      refine r_aload_n (x := (some h0)) hx hb dX6_at_28 rfl (lh_at hl 1 rfl) ?_
      refine lv_iconst (v := (1 : Int32)) hx hb dX6_at_29 (by decide) ?_
      refine z_callVi E w rfl ho5 cl_X6 yk_X6_meets ⟨Nat.le_of_ble_eq_true rfl, Nat.le_of_ble_eq_true rfl⟩ ⟨(Nat.zero_le _), (Nat.zero_le _)⟩ rfl ml_X6_106 im_X6_meets sl_X6_meets [iv (1 : Int32)] rfl rfl hl [] rfl (Nat.le_of_ble_eq_true rfl) (K_X6_meets h) dX6_at_30 (fun r19 M18 H locs h w => ?_)
      exact r_iret E w hr hlk h (Nat.le_refl 0) (Nat.le_refl 0) dX6_at_33
  · have h := h.2 c4
    refine lv_iconst (v := (-1 : Int32)) hx hb dX6_at_9 (by decide) ?_
    exact r_iret E w hr hlk h (Nat.le_refl 0) (Nat.le_refl 0) dX6_at_10
theorem K_X6_at {l : Launch} {Q : Int32 → Mm → Prop} {h0 : Nat} {x1 : Int32} {x2 : Int32} {x3 : Int32} {M : Mm} (h : B_X6_at_0 Q h0 x1 x2 x3 M) : KI l yX6_at cdX6_at (rmm 3 0 0) [rv (some h0), iv x1, iv x2, iv x3] M Q :=
  KI_of (by decide) rfl (Nat.le_of_ble_eq_true rfl) (fun p e s m args below meth c D cy A ls E hr hlk hn w hl => k_X6_at_0 E hr hlk _ _ _ _ _ _ _ _ h w hl)
def B_X6_tear_0 (Q : Int32 → Mm → Prop)  (h0 : Nat) (x1 : Int32) (x2 : Int32) (M : Mm) : Prop := (ok M h0 6 ∧ (B_X6_isRow_0 (fun r3 M2 => ((¬ r3 = 0 → (ok M2 h0 6 ∧ (∃ a6, (gR M2 h0 6) = some a6 ∧ (ar M2 a6 9 (((4 : Int32) * x1) + x2) ∧ ((¬ (gI M2 a6 (Int32.toNatClampNeg (((4 : Int32) * x1) + x2))) = 0 → (ar M2 a6 9 (((4 : Int32) * x1) + x2) ∧ (∀ M10, M10 = pI M2 a6 (Int32.toNatClampNeg (((4 : Int32) * x1) + x2)) (0 : Int32) → Q (1 : Int32) M10))) ∧ ((gI M2 a6 (Int32.toNatClampNeg (((4 : Int32) * x1) + x2))) = 0 → (B_X6_meets_0 (fun r12 M11 => Q r12 M11) h0 (1 : Int32) M2))))))) ∧ (r3 = 0 → Q (-1 : Int32) M2))) h0 x1 x2 M))
set_option maxHeartbeats 4000000 in
set_option maxRecDepth 100000 in
theorem k_X6_tear_0 {p : Program} {l : Launch} {e : Env} {s : State} {m : MethodId} {args : Array Value} {below : List Frame} {meth : Method} {c : Code} {D : va_G} {cy : Nat → ClassId} {A : Nat → Prop} {Q : Int32 → Mm → Prop} (E : Ex p m c cX6_tear 3 s args RX6 D cy A) (hr : meth.sig.returnType = (some .int)) (hlk : meth.locks = false) : ∀ (h0 : Nat) (x1 : Int32) (x2 : Int32) (M : Mm) (H : Heap) (locs : List Loc) (ls : Array Slot), B_X6_tear_0 Q  h0 x1 x2 M → Wd D cy A s M H locs → lh ls 3 [(0, rv (some h0)), (1, iv x1), (2, iv x2)] → W p l e (rmm 3 0 0) s m args below meth c H locs 0 0 (MQ below (va_Qi Q (Po D cy A) A) args s 0 0 A) (F0 m 0 ls []) := by
  obtain ⟨hx, hb, hml, hown, hts⟩ := E.1
  intro h0 x1 x2 M H locs ls h w hl
  unfold B_X6_tear_0 at h
  refine r_aload_n (x := (some h0)) hx hb dX6_tear_0 rfl (lh_at hl 0 rfl) ?_
  refine lv_iload_n (x := x1) hx hb dX6_tear_1 rfl (lh_at hl 1 rfl) ?_
  refine lv_iload_n (x := x2) hx hb dX6_tear_2 rfl (lh_at hl 2 rfl) ?_
  obtain ⟨ho1, h⟩ := h
  refine z_callVi E w rfl ho1 cl_X6 yk_X6_isRow ⟨Nat.le_of_ble_eq_true rfl, Nat.le_of_ble_eq_true rfl⟩ ⟨(Nat.zero_le _), (Nat.zero_le _)⟩ rfl ml_X6_101 im_X6_isRow sl_X6_isRow [iv x1, iv x2] rfl rfl hl [] rfl (Nat.le_of_ble_eq_true rfl) (K_X6_isRow h) dX6_tear_3 (fun r3 M2 H locs h w => ?_)
  refine lv_if_ne (tgt := 11) hx hb dX6_tear_6 (by decide) (fun c4 => ?_) (fun c4 => ?_)
  · have h := h.1 c4
    refine r_aload_n (x := (some h0)) hx hb dX6_tear_11 rfl (lh_at hl 0 rfl) ?_
    obtain ⟨ho5, h⟩ := h
    refine r_getR E w rfl ho5 cl_X6 6 rfl fl_X6_16 dX6_tear_12 ?_
    refine lv_iconst (v := (4 : Int32)) hx hb dX6_tear_15 (by decide) ?_
    refine lv_iload_n (x := x1) hx hb dX6_tear_16 rfl (lh_at hl 1 rfl) ?_
    refine lv_imul hx hb dX6_tear_17 ?_
    refine lv_iload_n (x := x2) hx hb dX6_tear_18 rfl (lh_at hl 2 rfl) ?_
    refine lv_iadd hx hb dX6_tear_19 ?_
    obtain ⟨a6, ea6, h⟩ := h
    obtain ⟨ha7, h⟩ := h
    refine r_zald E w ea6 ha7 dX6_tear_20 ?_
    refine lv_if_ne (tgt := 30) hx hb dX6_tear_21 (by decide) (fun c8 => ?_) (fun c8 => ?_)
    · have h := h.1 c8
      refine r_aload_n (x := (some h0)) hx hb dX6_tear_30 rfl (lh_at hl 0 rfl) ?_
      refine r_getR E w rfl ho5 cl_X6 6 rfl fl_X6_16 dX6_tear_31 ?_
      refine lv_iconst (v := (4 : Int32)) hx hb dX6_tear_34 (by decide) ?_
      refine lv_iload_n (x := x1) hx hb dX6_tear_35 rfl (lh_at hl 1 rfl) ?_
      refine lv_imul hx hb dX6_tear_36 ?_
      refine lv_iload_n (x := x2) hx hb dX6_tear_37 rfl (lh_at hl 2 rfl) ?_
      refine lv_iadd hx hb dX6_tear_38 ?_
      refine lv_iconst (v := (0 : Int32)) hx hb dX6_tear_39 (by decide) ?_
      obtain ⟨ha9, h⟩ := h
      refine r_zast (v := (0 : Int32)) E w ea6 ha9 (Or.inl rfl) dX6_tear_40 (fun H locs w => ?_)
      obtain ⟨M10, eM10⟩ : ∃ z, z = pI M2 a6 (Int32.toNatClampNeg (((4 : Int32) * x1) + x2)) (0 : Int32) := ⟨_, rfl⟩
      rw [← eM10] at w
      have h := h M10 eM10
      refine lv_iconst (v := (1 : Int32)) hx hb dX6_tear_41 (by decide) ?_
      exact r_iret E w hr hlk h (Nat.le_refl 0) (Nat.le_refl 0) dX6_tear_42
    · have h := h.2 c8
      refine r_aload_n (x := (some h0)) hx hb dX6_tear_24 rfl (lh_at hl 0 rfl) ?_
      refine lv_iconst (v := (1 : Int32)) hx hb dX6_tear_25 (by decide) ?_
      refine z_callVi E w rfl ho5 cl_X6 yk_X6_meets ⟨Nat.le_of_ble_eq_true rfl, Nat.le_of_ble_eq_true rfl⟩ ⟨(Nat.zero_le _), (Nat.zero_le _)⟩ rfl ml_X6_106 im_X6_meets sl_X6_meets [iv (1 : Int32)] rfl rfl hl [] rfl (Nat.le_of_ble_eq_true rfl) (K_X6_meets h) dX6_tear_26 (fun r12 M11 H locs h w => ?_)
      exact r_iret E w hr hlk h (Nat.le_refl 0) (Nat.le_refl 0) dX6_tear_29
  · have h := h.2 c4
    refine lv_iconst (v := (-1 : Int32)) hx hb dX6_tear_9 (by decide) ?_
    exact r_iret E w hr hlk h (Nat.le_refl 0) (Nat.le_refl 0) dX6_tear_10
theorem K_X6_tear {l : Launch} {Q : Int32 → Mm → Prop} {h0 : Nat} {x1 : Int32} {x2 : Int32} {M : Mm} (h : B_X6_tear_0 Q h0 x1 x2 M) : KI l yX6_tear cdX6_tear (rmm 3 0 0) [rv (some h0), iv x1, iv x2] M Q :=
  KI_of (by decide) rfl (Nat.le_of_ble_eq_true rfl) (fun p e s m args below meth c D cy A ls E hr hlk hn w hl => k_X6_tear_0 E hr hlk _ _ _ _ _ _ _ h w hl)
def B_X6_copy_156 (Q : Int32 → Mm → Prop)  : Nat → Nat → Int32 → Int32 → Int32 → Int32 → Mm → Prop
  | 0, _, _, _, _, _, _ => False
  | n + 1, h0, x5, x6, x8, x9, M => ((x6 ≤ x9 → Q (1 : Int32) M) ∧ (¬ x6 ≤ x9 → (ok M h0 6 ∧ (∃ a3, (gR M h0 8) = some a3 ∧ (ar M a3 7 x9 ∧ (∃ a5, (gR M h0 7) = some a5 ∧ (ar M a5 7 ((((40 : Int32) * x8) + x5) + x9) ∧ (∀ M7, M7 = pI M a5 (Int32.toNatClampNeg ((((40 : Int32) * x8) + x5) + x9)) (gI M a3 (Int32.toNatClampNeg x9)) → B_X6_copy_156 Q  n h0 x5 x6 x8 (x9 + 1) M7))))))))
set_option maxHeartbeats 4000000 in
set_option maxRecDepth 100000 in
theorem k_X6_copy_156 {p : Program} {l : Launch} {e : Env} {s : State} {m : MethodId} {args : Array Value} {below : List Frame} {meth : Method} {c : Code} {D : va_G} {cy : Nat → ClassId} {A : Nat → Prop} {Q : Int32 → Mm → Prop} (E : Ex p m c cX6_copy 10 s args RX6 D cy A) (hr : meth.sig.returnType = (some .int)) (hlk : meth.locks = false) : ∀ (n : Nat), ∀ (h0 : Nat) (x5 : Int32) (x6 : Int32) (x8 : Int32) (x9 : Int32) (M : Mm) (H : Heap) (locs : List Loc) (ls : Array Slot), B_X6_copy_156 Q  n h0 x5 x6 x8 x9 M → Wd D cy A s M H locs → lh ls 10 [(0, rv (some h0)), (5, iv x5), (6, iv x6), (8, iv x8), (9, iv x9)] → W p l e (rmm 3 0 0) s m args below meth c H locs 0 0 (MQ below (va_Qi Q (Po D cy A) A) args s 0 0 A) (F0 m 156 ls []) := by
  obtain ⟨hx, hb, hml, hown, hts⟩ := E.1
  intro n
  induction n with
  | zero => intro h0 x5 x6 x8 x9 M H locs ls h; exact False.elim h
  | succ n ih =>
    intro h0 x5 x6 x8 x9 M H locs ls h w hl
    unfold B_X6_copy_156 at h
    refine lv_iload (x := x9) hx hb dX6_copy_156 (lh_at hl 4 rfl) ?_
    refine lv_iload (x := x6) hx hb dX6_copy_158 (lh_at hl 2 rfl) ?_
    refine lv_icmp_ge (tgt := 192) hx hb dX6_copy_160 (by decide) (fun c1 => ?_) (fun c1 => ?_)
    · have h := h.1 c1
      refine lv_iconst (v := (1 : Int32)) hx hb dX6_copy_192 (by decide) ?_
      exact r_iret E w hr hlk h (Nat.le_refl 0) (Nat.le_refl 0) dX6_copy_193
    · have h := h.2 c1
      refine r_aload_n (x := (some h0)) hx hb dX6_copy_163 rfl (lh_at hl 0 rfl) ?_
      obtain ⟨ho2, h⟩ := h
      refine r_getR E w rfl ho2 cl_X6 7 rfl fl_X6_20 dX6_copy_164 ?_
      refine lv_bipush (v := (40 : Int32)) hx hb dX6_copy_167 (by decide) ?_
      refine lv_iload (x := x8) hx hb dX6_copy_169 (lh_at hl 3 rfl) ?_
      refine lv_imul hx hb dX6_copy_171 ?_
      refine lv_iload (x := x5) hx hb dX6_copy_172 (lh_at hl 1 rfl) ?_
      refine lv_iadd hx hb dX6_copy_174 ?_
      refine lv_iload (x := x9) hx hb dX6_copy_175 (lh_at hl 4 rfl) ?_
      refine lv_iadd hx hb dX6_copy_177 ?_
      refine r_aload_n (x := (some h0)) hx hb dX6_copy_178 rfl (lh_at hl 0 rfl) ?_
      refine r_getR E w rfl ho2 cl_X6 8 rfl fl_X6_23 dX6_copy_179 ?_
      refine lv_iload (x := x9) hx hb dX6_copy_182 (lh_at hl 4 rfl) ?_
      obtain ⟨a3, ea3, h⟩ := h
      obtain ⟨ha4, h⟩ := h
      refine r_iald E w ea3 ha4 dX6_copy_184 ?_
      obtain ⟨a5, ea5, h⟩ := h
      obtain ⟨ha6, h⟩ := h
      refine r_iast (v := (gI M a3 (Int32.toNatClampNeg x9))) E w ea5 ha6 dX6_copy_185 (fun H locs w => ?_)
      obtain ⟨M7, eM7⟩ : ∃ z, z = pI M a5 (Int32.toNatClampNeg ((((40 : Int32) * x8) + x5) + x9)) (gI M a3 (Int32.toNatClampNeg x9)) := ⟨_, rfl⟩
      rw [← eM7] at w
      have h := h M7 eM7
      refine r_iinc (k := 4) (x := x9) (v := (x9 + 1)) (lv' := [(9, iv (x9 + 1)), (0, rv (some h0)), (5, iv x5), (6, iv x6), (8, iv x8)]) hx hb dX6_copy_186 hl rfl rfl (by decide) rfl (fun ls hl => ?_)
      refine lv_goto (tgt := 156) hx hb dX6_copy_189 (by decide) ?_
      exact ih _ _ _ _ _ _ _ _ _ h w (lh_sub hl [1, 2, 3, 4, 0] rfl)
def B_X6_copy_118 (Q : Int32 → Mm → Prop)  : Nat → Nat → Int32 → Int32 → Int32 → Int32 → Int32 → Int32 → Mm → Prop
  | 0, _, _, _, _, _, _, _, _ => False
  | n + 1, h0, x3, x5, x6, x7, x8, x9, M => ((x6 ≤ x9 → (∃ n2, B_X6_copy_156 Q  n2 h0 x5 x6 x8 (0 : Int32) M)) ∧ (¬ x6 ≤ x9 → (ok M h0 6 ∧ (∃ a4, (gR M h0 7) = some a4 ∧ (ar M a4 7 ((((40 : Int32) * x7) + x3) + x9) ∧ (∃ a6, (gR M h0 8) = some a6 ∧ (ar M a6 7 x9 ∧ (∀ M8, M8 = pI M a6 (Int32.toNatClampNeg x9) (gI M a4 (Int32.toNatClampNeg ((((40 : Int32) * x7) + x3) + x9))) → B_X6_copy_118 Q  n h0 x3 x5 x6 x7 x8 (x9 + 1) M8))))))))
set_option maxHeartbeats 4000000 in
set_option maxRecDepth 100000 in
theorem k_X6_copy_118 {p : Program} {l : Launch} {e : Env} {s : State} {m : MethodId} {args : Array Value} {below : List Frame} {meth : Method} {c : Code} {D : va_G} {cy : Nat → ClassId} {A : Nat → Prop} {Q : Int32 → Mm → Prop} (E : Ex p m c cX6_copy 10 s args RX6 D cy A) (hr : meth.sig.returnType = (some .int)) (hlk : meth.locks = false) : ∀ (n : Nat), ∀ (h0 : Nat) (x3 : Int32) (x5 : Int32) (x6 : Int32) (x7 : Int32) (x8 : Int32) (x9 : Int32) (M : Mm) (H : Heap) (locs : List Loc) (ls : Array Slot), B_X6_copy_118 Q  n h0 x3 x5 x6 x7 x8 x9 M → Wd D cy A s M H locs → lh ls 10 [(0, rv (some h0)), (3, iv x3), (5, iv x5), (6, iv x6), (7, iv x7), (8, iv x8), (9, iv x9)] → W p l e (rmm 3 0 0) s m args below meth c H locs 0 0 (MQ below (va_Qi Q (Po D cy A) A) args s 0 0 A) (F0 m 118 ls []) := by
  obtain ⟨hx, hb, hml, hown, hts⟩ := E.1
  intro n
  induction n with
  | zero => intro h0 x3 x5 x6 x7 x8 x9 M H locs ls h; exact False.elim h
  | succ n ih =>
    intro h0 x3 x5 x6 x7 x8 x9 M H locs ls h w hl
    unfold B_X6_copy_118 at h
    refine lv_iload (x := x9) hx hb dX6_copy_118 (lh_at hl 6 rfl) ?_
    refine lv_iload (x := x6) hx hb dX6_copy_120 (lh_at hl 3 rfl) ?_
    refine lv_icmp_ge (tgt := 153) hx hb dX6_copy_122 (by decide) (fun c1 => ?_) (fun c1 => ?_)
    · have h := h.1 c1
      refine lv_iconst (v := (0 : Int32)) hx hb dX6_copy_153 (by decide) ?_
      refine r_istore (lv' := [(9, iv (0 : Int32)), (0, rv (some h0)), (3, iv x3), (5, iv x5), (6, iv x6), (7, iv x7), (8, iv x8)]) hx hb dX6_copy_154 hl (by decide) rfl (fun ls hl => ?_)
      obtain ⟨n2, h⟩ := h
      exact k_X6_copy_156 E hr hlk  n2 _ _ _ _ _ _ _ _ _ h w (lh_sub hl [1, 3, 4, 6, 0] rfl)
    · have h := h.2 c1
      refine r_aload_n (x := (some h0)) hx hb dX6_copy_125 rfl (lh_at hl 0 rfl) ?_
      obtain ⟨ho3, h⟩ := h
      refine r_getR E w rfl ho3 cl_X6 8 rfl fl_X6_23 dX6_copy_126 ?_
      refine lv_iload (x := x9) hx hb dX6_copy_129 (lh_at hl 6 rfl) ?_
      refine r_aload_n (x := (some h0)) hx hb dX6_copy_131 rfl (lh_at hl 0 rfl) ?_
      refine r_getR E w rfl ho3 cl_X6 7 rfl fl_X6_20 dX6_copy_132 ?_
      refine lv_bipush (v := (40 : Int32)) hx hb dX6_copy_135 (by decide) ?_
      refine lv_iload (x := x7) hx hb dX6_copy_137 (lh_at hl 4 rfl) ?_
      refine lv_imul hx hb dX6_copy_139 ?_
      refine lv_iload_n (x := x3) hx hb dX6_copy_140 rfl (lh_at hl 1 rfl) ?_
      refine lv_iadd hx hb dX6_copy_141 ?_
      refine lv_iload (x := x9) hx hb dX6_copy_142 (lh_at hl 6 rfl) ?_
      refine lv_iadd hx hb dX6_copy_144 ?_
      obtain ⟨a4, ea4, h⟩ := h
      obtain ⟨ha5, h⟩ := h
      refine r_iald E w ea4 ha5 dX6_copy_145 ?_
      obtain ⟨a6, ea6, h⟩ := h
      obtain ⟨ha7, h⟩ := h
      refine r_iast (v := (gI M a4 (Int32.toNatClampNeg ((((40 : Int32) * x7) + x3) + x9)))) E w ea6 ha7 dX6_copy_146 (fun H locs w => ?_)
      obtain ⟨M8, eM8⟩ : ∃ z, z = pI M a6 (Int32.toNatClampNeg x9) (gI M a4 (Int32.toNatClampNeg ((((40 : Int32) * x7) + x3) + x9))) := ⟨_, rfl⟩
      rw [← eM8] at w
      have h := h M8 eM8
      refine r_iinc (k := 6) (x := x9) (v := (x9 + 1)) (lv' := [(9, iv (x9 + 1)), (0, rv (some h0)), (3, iv x3), (5, iv x5), (6, iv x6), (7, iv x7), (8, iv x8)]) hx hb dX6_copy_147 hl rfl rfl (by decide) rfl (fun ls hl => ?_)
      refine lv_goto (tgt := 118) hx hb dX6_copy_150 (by decide) ?_
      exact ih _ _ _ _ _ _ _ _ _ _ _ h w (lh_sub hl [1, 2, 3, 4, 5, 6, 0] rfl)
def B_X6_copy_109 (Q : Int32 → Mm → Prop)  (h0 : Nat) (M : Mm) : Prop := (ok M h0 6 ∧ (B_X6_meets_0 (fun r3 M2 => Q r3 M2) h0 (2 : Int32) M))
set_option maxHeartbeats 4000000 in
set_option maxRecDepth 100000 in
theorem k_X6_copy_109 {p : Program} {l : Launch} {e : Env} {s : State} {m : MethodId} {args : Array Value} {below : List Frame} {meth : Method} {c : Code} {D : va_G} {cy : Nat → ClassId} {A : Nat → Prop} {Q : Int32 → Mm → Prop} (E : Ex p m c cX6_copy 10 s args RX6 D cy A) (hr : meth.sig.returnType = (some .int)) (hlk : meth.locks = false) : ∀ (h0 : Nat) (M : Mm) (H : Heap) (locs : List Loc) (ls : Array Slot), B_X6_copy_109 Q  h0 M → Wd D cy A s M H locs → lh ls 10 [(0, rv (some h0))] → W p l e (rmm 3 0 0) s m args below meth c H locs 0 0 (MQ below (va_Qi Q (Po D cy A) A) args s 0 0 A) (F0 m 109 ls []) := by
  obtain ⟨hx, hb, hml, hown, hts⟩ := E.1
  intro h0 M H locs ls h w hl
  unfold B_X6_copy_109 at h
  refine r_aload_n (x := (some h0)) hx hb dX6_copy_109 rfl (lh_at hl 0 rfl) ?_
  refine lv_iconst (v := (2 : Int32)) hx hb dX6_copy_110 (by decide) ?_
  obtain ⟨ho1, h⟩ := h
  refine z_callVi E w rfl ho1 cl_X6 yk_X6_meets ⟨Nat.le_of_ble_eq_true rfl, Nat.le_of_ble_eq_true rfl⟩ ⟨(Nat.zero_le _), (Nat.zero_le _)⟩ rfl ml_X6_106 im_X6_meets sl_X6_meets [iv (2 : Int32)] rfl rfl hl [] rfl (Nat.le_of_ble_eq_true rfl) (K_X6_meets h) dX6_copy_111 (fun r3 M2 H locs h w => ?_)
  exact r_iret E w hr hlk h (Nat.le_refl 0) (Nat.le_refl 0) dX6_copy_114
def B_X6_copy_67 (Q : Int32 → Mm → Prop)  (h0 : Nat) (M : Mm) : Prop := (ok M h0 6 ∧ (B_X6_meets_0 (fun r3 M2 => Q r3 M2) h0 (1 : Int32) M))
set_option maxHeartbeats 4000000 in
set_option maxRecDepth 100000 in
theorem k_X6_copy_67 {p : Program} {l : Launch} {e : Env} {s : State} {m : MethodId} {args : Array Value} {below : List Frame} {meth : Method} {c : Code} {D : va_G} {cy : Nat → ClassId} {A : Nat → Prop} {Q : Int32 → Mm → Prop} (E : Ex p m c cX6_copy 10 s args RX6 D cy A) (hr : meth.sig.returnType = (some .int)) (hlk : meth.locks = false) : ∀ (h0 : Nat) (M : Mm) (H : Heap) (locs : List Loc) (ls : Array Slot), B_X6_copy_67 Q  h0 M → Wd D cy A s M H locs → lh ls 10 [(0, rv (some h0))] → W p l e (rmm 3 0 0) s m args below meth c H locs 0 0 (MQ below (va_Qi Q (Po D cy A) A) args s 0 0 A) (F0 m 67 ls []) := by
  obtain ⟨hx, hb, hml, hown, hts⟩ := E.1
  intro h0 M H locs ls h w hl
  unfold B_X6_copy_67 at h
  refine r_aload_n (x := (some h0)) hx hb dX6_copy_67 rfl (lh_at hl 0 rfl) ?_
  refine lv_iconst (v := (1 : Int32)) hx hb dX6_copy_68 (by decide) ?_
  obtain ⟨ho1, h⟩ := h
  refine z_callVi E w rfl ho1 cl_X6 yk_X6_meets ⟨Nat.le_of_ble_eq_true rfl, Nat.le_of_ble_eq_true rfl⟩ ⟨(Nat.zero_le _), (Nat.zero_le _)⟩ rfl ml_X6_106 im_X6_meets sl_X6_meets [iv (1 : Int32)] rfl rfl hl [] rfl (Nat.le_of_ble_eq_true rfl) (K_X6_meets h) dX6_copy_69 (fun r3 M2 H locs h w => ?_)
  exact r_iret E w hr hlk h (Nat.le_refl 0) (Nat.le_refl 0) dX6_copy_72
def B_X6_copy_0 (Q : Int32 → Mm → Prop)  (h0 : Nat) (x1 : Int32) (x2 : Int32) (x3 : Int32) (x4 : Int32) (x5 : Int32) (x6 : Int32) (M : Mm) : Prop := (ok M h0 6 ∧ (B_X6_isRow_0 (fun r3 M2 => ((r3 = 0 → Q (-1 : Int32) M2) ∧ (¬ r3 = 0 → (ok M2 h0 6 ∧ (B_X6_isRow_0 (fun r7 M6 => ((¬ r7 = 0 → ((0 ≤ x6 → (ok M6 h0 6 ∧ (∃ a11, (gR M6 h0 6) = some a11 ∧ (ar M6 a11 9 (((4 : Int32) * x1) + x2) ∧ (((gI M6 a11 (Int32.toNatClampNeg (((4 : Int32) * x1) + x2))) = 0 → B_X6_copy_67 Q  h0 M6) ∧ (¬ (gI M6 a11 (Int32.toNatClampNeg (((4 : Int32) * x1) + x2))) = 0 → (ar M6 a11 9 (((4 : Int32) * x1) + x4) ∧ ((¬ (gI M6 a11 (Int32.toNatClampNeg (((4 : Int32) * x1) + x4))) = 0 → ((x3 < 0 → B_X6_copy_109 Q  h0 M6) ∧ (¬ x3 < 0 → ((x5 < 0 → B_X6_copy_109 Q  h0 M6) ∧ (¬ x5 < 0 → ((0 < (lg_cmp ((Int32.toInt64 x3) + (Int32.toInt64 x6)) (40 : Int64)) → B_X6_copy_109 Q  h0 M6) ∧ (¬ 0 < (lg_cmp ((Int32.toInt64 x3) + (Int32.toInt64 x6)) (40 : Int64)) → (((lg_cmp ((Int32.toInt64 x5) + (Int32.toInt64 x6)) (40 : Int64)) ≤ 0 → (∃ n20, B_X6_copy_118 Q  n20 h0 x3 x5 x6 (((4 : Int32) * x1) + x2) (((4 : Int32) * x1) + x4) (0 : Int32) M6)) ∧ (¬ (lg_cmp ((Int32.toInt64 x5) + (Int32.toInt64 x6)) (40 : Int64)) ≤ 0 → B_X6_copy_109 Q  h0 M6))))))))) ∧ ((gI M6 a11 (Int32.toNatClampNeg (((4 : Int32) * x1) + x4))) = 0 → B_X6_copy_67 Q  h0 M6))))))))) ∧ (¬ 0 ≤ x6 → (ok M6 h0 6 ∧ (B_X6_meets_0 (fun r23 M22 => Q r23 M22) h0 (5 : Int32) M6))))) ∧ (r7 = 0 → Q (-1 : Int32) M6))) h0 x1 x4 M2))))) h0 x1 x2 M))
set_option maxHeartbeats 4000000 in
set_option maxRecDepth 100000 in
theorem k_X6_copy_0 {p : Program} {l : Launch} {e : Env} {s : State} {m : MethodId} {args : Array Value} {below : List Frame} {meth : Method} {c : Code} {D : va_G} {cy : Nat → ClassId} {A : Nat → Prop} {Q : Int32 → Mm → Prop} (E : Ex p m c cX6_copy 10 s args RX6 D cy A) (hr : meth.sig.returnType = (some .int)) (hlk : meth.locks = false) : ∀ (h0 : Nat) (x1 : Int32) (x2 : Int32) (x3 : Int32) (x4 : Int32) (x5 : Int32) (x6 : Int32) (M : Mm) (H : Heap) (locs : List Loc) (ls : Array Slot), B_X6_copy_0 Q  h0 x1 x2 x3 x4 x5 x6 M → Wd D cy A s M H locs → lh ls 10 [(0, rv (some h0)), (1, iv x1), (2, iv x2), (3, iv x3), (4, iv x4), (5, iv x5), (6, iv x6)] → W p l e (rmm 3 0 0) s m args below meth c H locs 0 0 (MQ below (va_Qi Q (Po D cy A) A) args s 0 0 A) (F0 m 0 ls []) := by
  obtain ⟨hx, hb, hml, hown, hts⟩ := E.1
  intro h0 x1 x2 x3 x4 x5 x6 M H locs ls h w hl
  unfold B_X6_copy_0 at h
  refine r_aload_n (x := (some h0)) hx hb dX6_copy_0 rfl (lh_at hl 0 rfl) ?_
  refine lv_iload_n (x := x1) hx hb dX6_copy_1 rfl (lh_at hl 1 rfl) ?_
  refine lv_iload_n (x := x2) hx hb dX6_copy_2 rfl (lh_at hl 2 rfl) ?_
  obtain ⟨ho1, h⟩ := h
  refine z_callVi E w rfl ho1 cl_X6 yk_X6_isRow ⟨Nat.le_of_ble_eq_true rfl, Nat.le_of_ble_eq_true rfl⟩ ⟨(Nat.zero_le _), (Nat.zero_le _)⟩ rfl ml_X6_101 im_X6_isRow sl_X6_isRow [iv x1, iv x2] rfl rfl hl [] rfl (Nat.le_of_ble_eq_true rfl) (K_X6_isRow h) dX6_copy_3 (fun r3 M2 H locs h w => ?_)
  refine lv_if_eq (tgt := 19) hx hb dX6_copy_6 (by decide) (fun c4 => ?_) (fun c4 => ?_)
  · have h := h.1 c4
    refine lv_iconst (v := (-1 : Int32)) hx hb dX6_copy_19 (by decide) ?_
    exact r_iret E w hr hlk h (Nat.le_refl 0) (Nat.le_refl 0) dX6_copy_20
  · have h := h.2 c4
    refine r_aload_n (x := (some h0)) hx hb dX6_copy_9 rfl (lh_at hl 0 rfl) ?_
    refine lv_iload_n (x := x1) hx hb dX6_copy_10 rfl (lh_at hl 1 rfl) ?_
    refine lv_iload (x := x4) hx hb dX6_copy_11 (lh_at hl 4 rfl) ?_
    obtain ⟨ho5, h⟩ := h
    refine z_callVi E w rfl ho5 cl_X6 yk_X6_isRow ⟨Nat.le_of_ble_eq_true rfl, Nat.le_of_ble_eq_true rfl⟩ ⟨(Nat.zero_le _), (Nat.zero_le _)⟩ rfl ml_X6_101 im_X6_isRow sl_X6_isRow [iv x1, iv x4] rfl rfl hl [] rfl (Nat.le_of_ble_eq_true rfl) (K_X6_isRow h) dX6_copy_13 (fun r7 M6 H locs h w => ?_)
    refine lv_if_ne (tgt := 21) hx hb dX6_copy_16 (by decide) (fun c8 => ?_) (fun c8 => ?_)
    · have h := h.1 c8
      refine lv_iload (x := x6) hx hb dX6_copy_21 (lh_at hl 6 rfl) ?_
      refine lv_if_ge (tgt := 32) hx hb dX6_copy_23 (by decide) (fun c9 => ?_) (fun c9 => ?_)
      · have h := h.1 c9
        refine lv_iconst (v := (4 : Int32)) hx hb dX6_copy_32 (by decide) ?_
        refine lv_iload_n (x := x1) hx hb dX6_copy_33 rfl (lh_at hl 1 rfl) ?_
        refine lv_imul hx hb dX6_copy_34 ?_
        refine lv_iload_n (x := x2) hx hb dX6_copy_35 rfl (lh_at hl 2 rfl) ?_
        refine lv_iadd hx hb dX6_copy_36 ?_
        refine r_istore (lv' := [(7, iv (((4 : Int32) * x1) + x2)), (0, rv (some h0)), (1, iv x1), (2, iv x2), (3, iv x3), (4, iv x4), (5, iv x5), (6, iv x6)]) hx hb dX6_copy_37 hl (by decide) rfl (fun ls hl => ?_)
        refine lv_iconst (v := (4 : Int32)) hx hb dX6_copy_39 (by decide) ?_
        refine lv_iload_n (x := x1) hx hb dX6_copy_40 rfl (lh_at hl 2 rfl) ?_
        refine lv_imul hx hb dX6_copy_41 ?_
        refine lv_iload (x := x4) hx hb dX6_copy_42 (lh_at hl 5 rfl) ?_
        refine lv_iadd hx hb dX6_copy_44 ?_
        refine r_istore (lv' := [(8, iv (((4 : Int32) * x1) + x4)), (7, iv (((4 : Int32) * x1) + x2)), (0, rv (some h0)), (1, iv x1), (2, iv x2), (3, iv x3), (4, iv x4), (5, iv x5), (6, iv x6)]) hx hb dX6_copy_45 hl (by decide) rfl (fun ls hl => ?_)
        refine r_aload_n (x := (some h0)) hx hb dX6_copy_47 rfl (lh_at hl 2 rfl) ?_
        obtain ⟨ho10, h⟩ := h
        refine r_getR E w rfl ho10 cl_X6 6 rfl fl_X6_16 dX6_copy_48 ?_
        refine lv_iload (x := (((4 : Int32) * x1) + x2)) hx hb dX6_copy_51 (lh_at hl 1 rfl) ?_
        obtain ⟨a11, ea11, h⟩ := h
        obtain ⟨ha12, h⟩ := h
        refine r_zald E w ea11 ha12 dX6_copy_53 ?_
        refine lv_if_eq (tgt := 67) hx hb dX6_copy_54 (by decide) (fun c13 => ?_) (fun c13 => ?_)
        · have h := h.1 c13
          exact k_X6_copy_67 E hr hlk  _ _ _ _ _ h w (lh_sub hl [2] rfl)
        · have h := h.2 c13
          refine r_aload_n (x := (some h0)) hx hb dX6_copy_57 rfl (lh_at hl 2 rfl) ?_
          refine r_getR E w rfl ho10 cl_X6 6 rfl fl_X6_16 dX6_copy_58 ?_
          refine lv_iload (x := (((4 : Int32) * x1) + x4)) hx hb dX6_copy_61 (lh_at hl 0 rfl) ?_
          obtain ⟨ha14, h⟩ := h
          refine r_zald E w ea11 ha14 dX6_copy_63 ?_
          refine lv_if_ne (tgt := 73) hx hb dX6_copy_64 (by decide) (fun c15 => ?_) (fun c15 => ?_)
          · have h := h.1 c15
            refine lv_iload_n (x := x3) hx hb dX6_copy_73 rfl (lh_at hl 5 rfl) ?_
            refine lv_if_lt (tgt := 109) hx hb dX6_copy_74 (by decide) (fun c16 => ?_) (fun c16 => ?_)
            · have h := h.1 c16
              exact k_X6_copy_109 E hr hlk  _ _ _ _ _ h w (lh_sub hl [2] rfl)
            · have h := h.2 c16
              refine lv_iload (x := x5) hx hb dX6_copy_77 (lh_at hl 7 rfl) ?_
              refine lv_if_lt (tgt := 109) hx hb dX6_copy_79 (by decide) (fun c17 => ?_) (fun c17 => ?_)
              · have h := h.1 c17
                exact k_X6_copy_109 E hr hlk  _ _ _ _ _ h w (lh_sub hl [2] rfl)
              · have h := h.2 c17
                refine lv_iload_n (x := x3) hx hb dX6_copy_82 rfl (lh_at hl 5 rfl) ?_
                refine lv_i2l hx hb dX6_copy_83 rfl ?_
                refine lv_iload (x := x6) hx hb dX6_copy_84 (lh_at hl 8 rfl) ?_
                refine lv_i2l hx hb dX6_copy_86 rfl ?_
                refine lv_ladd hx hb dX6_copy_87 ?_
                refine lv_ldc2 (v := (40 : Int64)) hx hb hown (hts _ kc_X6_110) dX6_copy_88 ?_
                refine W.lcmp hx hb dX6_copy_91 ?_
                refine lv_if_gt (tgt := 109) hx hb dX6_copy_92 (by decide) (fun c18 => ?_) (fun c18 => ?_)
                · have h := h.1 c18
                  exact k_X6_copy_109 E hr hlk  _ _ _ _ _ h w (lh_sub hl [2] rfl)
                · have h := h.2 c18
                  refine lv_iload (x := x5) hx hb dX6_copy_95 (lh_at hl 7 rfl) ?_
                  refine lv_i2l hx hb dX6_copy_97 rfl ?_
                  refine lv_iload (x := x6) hx hb dX6_copy_98 (lh_at hl 8 rfl) ?_
                  refine lv_i2l hx hb dX6_copy_100 rfl ?_
                  refine lv_ladd hx hb dX6_copy_101 ?_
                  refine lv_ldc2 (v := (40 : Int64)) hx hb hown (hts _ kc_X6_110) dX6_copy_102 ?_
                  refine W.lcmp hx hb dX6_copy_105 ?_
                  refine lv_if_le (tgt := 115) hx hb dX6_copy_106 (by decide) (fun c19 => ?_) (fun c19 => ?_)
                  · have h := h.1 c19
                    refine lv_iconst (v := (0 : Int32)) hx hb dX6_copy_115 (by decide) ?_
                    refine r_istore (lv' := [(9, iv (0 : Int32)), (8, iv (((4 : Int32) * x1) + x4)), (7, iv (((4 : Int32) * x1) + x2)), (0, rv (some h0)), (1, iv x1), (2, iv x2), (3, iv x3), (4, iv x4), (5, iv x5), (6, iv x6)]) hx hb dX6_copy_116 hl (by decide) rfl (fun ls hl => ?_)
                    obtain ⟨n20, h⟩ := h
                    exact k_X6_copy_118 E hr hlk  n20 _ _ _ _ _ _ _ _ _ _ _ h w (lh_sub hl [3, 6, 8, 9, 2, 1, 0] rfl)
                  · have h := h.2 c19
                    exact k_X6_copy_109 E hr hlk  _ _ _ _ _ h w (lh_sub hl [2] rfl)
          · have h := h.2 c15
            exact k_X6_copy_67 E hr hlk  _ _ _ _ _ h w (lh_sub hl [2] rfl)
      · have h := h.2 c9
        refine r_aload_n (x := (some h0)) hx hb dX6_copy_26 rfl (lh_at hl 0 rfl) ?_
        refine lv_iconst (v := (5 : Int32)) hx hb dX6_copy_27 (by decide) ?_
        obtain ⟨ho21, h⟩ := h
        refine z_callVi E w rfl ho21 cl_X6 yk_X6_meets ⟨Nat.le_of_ble_eq_true rfl, Nat.le_of_ble_eq_true rfl⟩ ⟨(Nat.zero_le _), (Nat.zero_le _)⟩ rfl ml_X6_106 im_X6_meets sl_X6_meets [iv (5 : Int32)] rfl rfl hl [] rfl (Nat.le_of_ble_eq_true rfl) (K_X6_meets h) dX6_copy_28 (fun r23 M22 H locs h w => ?_)
        exact r_iret E w hr hlk h (Nat.le_refl 0) (Nat.le_refl 0) dX6_copy_31
    · have h := h.2 c8
      refine lv_iconst (v := (-1 : Int32)) hx hb dX6_copy_19 (by decide) ?_
      exact r_iret E w hr hlk h (Nat.le_refl 0) (Nat.le_refl 0) dX6_copy_20
theorem K_X6_copy {l : Launch} {Q : Int32 → Mm → Prop} {h0 : Nat} {x1 : Int32} {x2 : Int32} {x3 : Int32} {x4 : Int32} {x5 : Int32} {x6 : Int32} {M : Mm} (h : B_X6_copy_0 Q h0 x1 x2 x3 x4 x5 x6 M) : KI l yX6_copy cdX6_copy (rmm 3 0 0) [rv (some h0), iv x1, iv x2, iv x3, iv x4, iv x5, iv x6] M Q :=
  KI_of (by decide) rfl (Nat.le_of_ble_eq_true rfl) (fun p e s m args below meth c D cy A ls E hr hlk hn w hl => k_X6_copy_0 E hr hlk _ _ _ _ _ _ _ _ _ _ _ h w hl)
