def B_X4_init_19 (Q : Mm → Prop)  : Nat → Nat → Int32 → Nat → Nat → Mm → Prop
  | 0, _, _, _, _, _ => False
  | n + 1, h0, x2, gc, gs, M => (((4 : Int32) ≤ x2 → Q M) ∧ (¬ (4 : Int32) ≤ x2 → (ok M h0 4 ∧ (1 ≤ gc ∧ 14 ≤ gs ∧ (∀ q4, q4 ∉ gL M → (∀ M5, M5 = nC M q4 3 0 → (∃ b7 b7s : Nat, b7 ≤ (gc - 1) ∧ b7s ≤ (gs - 14) ∧ (B_X3_init_0 (fun  M6 => (∃ a8, (gR M h0 1) = some a8 ∧ (ok M6 q4 3 ∧ (ar M6 a8 10 x2 ∧ (∀ M11, M11 = pR M6 a8 (Int32.toNatClampNeg x2) (some q4) → B_X4_init_19 Q  n h0 (x2 + 1) ((gc - 1) - b7) ((gs - 14) - b7s) M11))))) q4  b7 b7s M5))))))))
set_option maxHeartbeats 4000000 in
set_option maxRecDepth 100000 in
theorem k_X4_init_19 {p : Program} {l : Launch} {e : Env} {s : State} {m : MethodId} {args : Array Value} {below : List Frame} {meth : Method} {c : Code} {D : va_G} {cy : Nat → ClassId} {A : Nat → Prop} {mc ms : Nat} {Q : Mm → Prop} (E : Ex p m c cX4_init 3 s args RX4 D cy A) (hr : meth.sig.returnType = none) (hlk : meth.locks = false) (hin : meth.name = "<init>") : ∀ (n : Nat), ∀ (h0 : Nat) (x2 : Int32) (gc : Nat) (gs : Nat) (M : Mm) (H : Heap) (locs : List Loc) (ls : Array Slot) (cells slots : Nat), B_X4_init_19 Q  n h0 x2 gc gs M → Wd D cy A s M H locs → lh ls 3 [(0, rv (some h0)), (2, iv x2)] → cells + gc ≤ mc ∧ slots + gs ≤ ms → W p l e (rmm 2 mc ms) s m args below meth c H locs cells slots (MQ below (va_Qv Q (Po D cy A) A) args s mc ms A) (F0 m 19 ls []) := by
  obtain ⟨hx, hb, hml, hown, hts⟩ := E.1
  intro n
  induction n with
  | zero => intro h0 x2 gc gs M H locs ls cells slots h; exact False.elim h
  | succ n ih =>
    intro h0 x2 gc gs M H locs ls cells slots h w hl hg
    unfold B_X4_init_19 at h
    refine lv_iload_n (x := x2) hx hb dX4_init_19 rfl (lh_at hl 1 rfl) ?_
    refine lv_iconst (v := (4 : Int32)) hx hb dX4_init_20 (by decide) ?_
    refine lv_icmp_ge (tgt := 43) hx hb dX4_init_21 (by decide) (fun c1 => ?_) (fun c1 => ?_)
    · have h := h.1 c1
      exact r_vret E w hr hlk h (show cells ≤ mc by omega) (show slots ≤ ms by omega) dX4_init_43
    · have h := h.2 c1
      refine r_aload_n (x := (some h0)) hx hb dX4_init_24 rfl (lh_at hl 0 rfl) ?_
      obtain ⟨ho2, h⟩ := h
      refine r_getR E w rfl ho2 cl_X4 1 rfl fl_X4_11 dX4_init_25 ?_
      refine lv_iload_n (x := x2) hx hb dX4_init_28 rfl (lh_at hl 1 rfl) ?_
      obtain ⟨g3a, g3b, h⟩ := h
      refine r_new E w cl_X3 kl_X4_9 ins_X3 ini_X3 (show cells + 1 ≤ mc by omega) (show slots + 14 ≤ ms by omega) dX4_init_29 (fun q4 H hq4 w => ?_)
      have h := h q4 hq4
      obtain ⟨M5, eM5⟩ : ∃ z, z = nC M q4 3 0 := ⟨_, rfl⟩
      rw [← eM5] at w
      have h := h M5 eM5
      have hg : (cells + 1) + (gc - 1) ≤ mc ∧ (slots + 14) + (gs - 14) ≤ ms := ⟨by omega, by omega⟩
      refine r_dupr hx hb dX4_init_32 ?_
      obtain ⟨b7, b7s, b7c, b7d, h⟩ := h
      refine r_callI (rm := rmm 1 b7 b7s) E w rfl yk_X3_init ⟨Nat.le_of_ble_eq_true rfl, Nat.le_of_ble_eq_true rfl⟩ ⟨show (cells + 1) + b7 ≤ mc by omega, show (slots + 14) + b7s ≤ ms by omega⟩ rfl ml_X4_21 im_X3_init [] rfl rfl hl [rv (some q4), iv x2, rv (gR M h0 1)] rfl (Nat.le_of_ble_eq_true rfl) (K_X3_init h) dX4_init_33 (fun M6 H locs h w => ?_)
      have hg : ((cells + 1) + b7) + ((gc - 1) - b7) ≤ mc ∧ ((slots + 14) + b7s) + ((gs - 14) - b7s) ≤ ms := ⟨by omega, by omega⟩
      obtain ⟨a8, ea8, h⟩ := h
      obtain ⟨ho9, h⟩ := h
      obtain ⟨ha10, h⟩ := h
      refine r_aast10 E w ea8 rfl ha10 ho9 dX4_init_36 (fun H locs w => ?_)
      obtain ⟨M11, eM11⟩ : ∃ z, z = pR M6 a8 (Int32.toNatClampNeg x2) (some q4) := ⟨_, rfl⟩
      rw [← eM11] at w
      have h := h M11 eM11
      refine r_iinc (k := 1) (x := x2) (v := (x2 + 1)) (lv' := [(2, iv (x2 + 1)), (0, rv (some h0))]) hx hb dX4_init_37 hl rfl rfl (by decide) rfl (fun ls hl => ?_)
      refine lv_goto (tgt := 19) hx hb dX4_init_40 (by decide) ?_
      exact ih _ _ _ _ _ _ _ _ _ _ h w (lh_sub hl [1, 0] rfl) hg
def B_X4_init_0 (Q : Mm → Prop)  (h0 : Nat) (x1 : Int32) (gc : Nat) (gs : Nat) (M : Mm) : Prop := (1 ≤ gc ∧ 4 ≤ gs ∧ (∀ q2, q2 ∉ gL M → (∀ M3, M3 = nC M q2 10 4 → (ok M3 h0 4 ∧ (∀ M5, M5 = pR M3 h0 1 (some q2) → (∀ M6, M6 = pI M5 h0 0 x1 → (∃ n7, B_X4_init_19 Q  n7 h0 (0 : Int32) (gc - 1) (gs - 4) M6)))))))
set_option maxHeartbeats 4000000 in
set_option maxRecDepth 100000 in
theorem k_X4_init_0 {p : Program} {l : Launch} {e : Env} {s : State} {m : MethodId} {args : Array Value} {below : List Frame} {meth : Method} {c : Code} {D : va_G} {cy : Nat → ClassId} {A : Nat → Prop} {mc ms : Nat} {Q : Mm → Prop} (E : Ex p m c cX4_init 3 s args RX4 D cy A) (hr : meth.sig.returnType = none) (hlk : meth.locks = false) (hin : meth.name = "<init>") : ∀ (h0 : Nat) (x1 : Int32) (gc : Nat) (gs : Nat) (M : Mm) (H : Heap) (locs : List Loc) (ls : Array Slot) (cells slots : Nat), B_X4_init_0 Q  h0 x1 gc gs M → Wd D cy A s M H locs → lh ls 3 [(0, rv (some h0)), (1, iv x1)] → cells + gc ≤ mc ∧ slots + gs ≤ ms → W p l e (rmm 2 mc ms) s m args below meth c H locs cells slots (MQ below (va_Qv Q (Po D cy A) A) args s mc ms A) (F0 m 0 ls []) := by
  obtain ⟨hx, hb, hml, hown, hts⟩ := E.1
  intro h0 x1 gc gs M H locs ls cells slots h w hl hg
  unfold B_X4_init_0 at h
  refine r_aload_n (x := (some h0)) hx hb dX4_init_0 rfl (lh_at hl 0 rfl) ?_
  refine W.objInit hx hb hown (hts _ ml_X4_3) (hts _ im_object) (hts _ cd_object) rfl (by rw [hml]; exact hl.1) rfl dX4_init_1 (Nat.le_of_ble_eq_true rfl) (Nat.le_of_ble_eq_true rfl) ?_
  refine W.eq (g2 := F0 m 4 ls []) rfl ?_
  refine r_aload_n (x := (some h0)) hx hb dX4_init_4 rfl (lh_at hl 0 rfl) ?_
  refine lv_iconst (v := (4 : Int32)) hx hb dX4_init_5 (by decide) ?_
  obtain ⟨g1a, g1b, h⟩ := h
  refine r_newq10 (N := 4) E w kl_X4_9 (by decide) (by decide) (by decide) (show cells + 1 ≤ mc by omega) (show slots + 4 ≤ ms by omega) dX4_init_6 (fun q2 H hq2 w => ?_)
  have h := h q2 hq2
  obtain ⟨M3, eM3⟩ : ∃ z, z = nC M q2 10 4 := ⟨_, rfl⟩
  rw [← eM3] at w
  have h := h M3 eM3
  have hg : (cells + 1) + (gc - 1) ≤ mc ∧ (slots + 4) + (gs - 4) ≤ ms := ⟨by omega, by omega⟩
  obtain ⟨ho4, h⟩ := h
  refine r_putR (v := (some q2)) E w rfl ho4 cl_X4 1 rfl fl_X4_11 (Or.inr ⟨rfl, hin, rfl⟩) (Or.inr ⟨_, rfl⟩) dX4_init_9 (fun H locs w => ?_)
  obtain ⟨M5, eM5⟩ : ∃ z, z = pR M3 h0 1 (some q2) := ⟨_, rfl⟩
  rw [← eM5] at w
  have h := h M5 eM5
  refine r_aload_n (x := (some h0)) hx hb dX4_init_12 rfl (lh_at hl 0 rfl) ?_
  refine lv_iload_n (x := x1) hx hb dX4_init_13 rfl (lh_at hl 1 rfl) ?_
  have ho4 : ok M5 h0 4 := by rw [eM5]; exact ho4
  refine r_putI (v := x1) E w rfl ho4 cl_X4 0 rfl fl_X4_17 (Or.inr ⟨rfl, hin, rfl⟩) (Or.inl rfl) dX4_init_14 (fun H locs w => ?_)
  obtain ⟨M6, eM6⟩ : ∃ z, z = pI M5 h0 0 x1 := ⟨_, rfl⟩
  rw [← eM6] at w
  have h := h M6 eM6
  refine lv_iconst (v := (0 : Int32)) hx hb dX4_init_17 (by decide) ?_
  refine r_istore_n (lv' := [(2, iv (0 : Int32)), (0, rv (some h0)), (1, iv x1)]) hx hb dX4_init_18 rfl hl (by decide) rfl (fun ls hl => ?_)
  obtain ⟨n7, h⟩ := h
  exact k_X4_init_19 E hr hlk hin  n7 _ _ _ _ _ _ _ _ _ _ h w (lh_sub hl [1, 0] rfl) hg
theorem K_X4_init {l : Launch} {Q : Mm → Prop} {h0 : Nat} {x1 : Int32} {gc gs : Nat} {M : Mm} (h : B_X4_init_0 Q h0 x1 gc gs M) : KV l yX4_init cdX4_init (rmm 2 gc gs) [rv (some h0), iv x1] M Q :=
  KV_of (by decide) rfl (Nat.le_of_ble_eq_true rfl) (fun p e s m args below meth c D cy A ls E hr hlk hn w hl => k_X4_init_0 E hr hlk hn _ _ _ _ _ _ _ _ _ _ h w hl ⟨Nat.le_of_eq (Nat.zero_add _), Nat.le_of_eq (Nat.zero_add _)⟩)
