def B_J7_fill_53178_5 (Q : Mm → Prop)  : Nat → Option Nat → Int32 → Int32 → Int32 → Mm → Prop
  | 0, _, _, _, _, _ => False
  | n + 1, x0, x1, x2, x3, M => ((x3 ≤ x2 → Q M) ∧ (¬ x3 ≤ x2 → (∃ a2, x0 = some a2 ∧ (ar M a2 7 x2 ∧ (∀ M4, M4 = pI M a2 (Int32.toNatClampNeg x2) x1 → B_J7_fill_53178_5 Q  n x0 x1 (x2 + 1) x3 M4)))))
set_option maxHeartbeats 4000000 in
set_option maxRecDepth 100000 in
theorem k_J7_fill_53178_5 {p : Program} {l : Launch} {e : Env} {s : State} {m : MethodId} {args : Array Value} {below : List Frame} {meth : Method} {c : Code} {D : va_G} {cy : Nat → ClassId} {A : Nat → Prop} {Q : Mm → Prop} (E : Ex p m c cJ7_fill_53178 4 s args RJ7 D cy A) (hr : meth.sig.returnType = none) (hlk : meth.locks = false) : ∀ (n : Nat), ∀ (x0 : Option Nat) (x1 : Int32) (x2 : Int32) (x3 : Int32) (M : Mm) (H : Heap) (locs : List Loc) (ls : Array Slot), B_J7_fill_53178_5 Q  n x0 x1 x2 x3 M → Wd D cy A s M H locs → lh ls 4 [(0, rv x0), (1, iv x1), (2, iv x2), (3, iv x3)] → W p l e (rmm 0 0 0) s m args below meth c H locs 0 0 (MQ below (va_Qv Q (Po D cy A) A) args s 0 0 A) (F0 m 5 ls []) := by
  obtain ⟨hx, hb, hml, hown, hts⟩ := E.1
  intro n
  induction n with
  | zero => intro x0 x1 x2 x3 M H locs ls h; exact False.elim h
  | succ n ih =>
    intro x0 x1 x2 x3 M H locs ls h w hl
    unfold B_J7_fill_53178_5 at h
    refine lv_iload_n (x := x2) hx hb dJ7_fill_53178_5 rfl (lh_at hl 2 rfl) ?_
    refine lv_iload_n (x := x3) hx hb dJ7_fill_53178_6 rfl (lh_at hl 3 rfl) ?_
    refine lv_icmp_ge (tgt := 20) hx hb dJ7_fill_53178_7 (by decide) (fun c1 => ?_) (fun c1 => ?_)
    · have h := h.1 c1
      exact r_vret E w hr hlk h (Nat.le_refl 0) (Nat.le_refl 0) dJ7_fill_53178_20
    · have h := h.2 c1
      refine r_aload_n (x := x0) hx hb dJ7_fill_53178_10 rfl (lh_at hl 0 rfl) ?_
      refine lv_iload_n (x := x2) hx hb dJ7_fill_53178_11 rfl (lh_at hl 2 rfl) ?_
      refine lv_iload_n (x := x1) hx hb dJ7_fill_53178_12 rfl (lh_at hl 1 rfl) ?_
      obtain ⟨a2, ea2, h⟩ := h
      obtain ⟨ha3, h⟩ := h
      refine r_iast (v := x1) E w ea2 ha3 dJ7_fill_53178_13 (fun H locs w => ?_)
      obtain ⟨M4, eM4⟩ : ∃ z, z = pI M a2 (Int32.toNatClampNeg x2) x1 := ⟨_, rfl⟩
      rw [← eM4] at w
      have h := h M4 eM4
      refine r_iinc (k := 2) (x := x2) (v := (x2 + 1)) (lv' := [(2, iv (x2 + 1)), (0, rv x0), (1, iv x1), (3, iv x3)]) hx hb dJ7_fill_53178_14 hl rfl rfl (by decide) rfl (fun ls hl => ?_)
      refine lv_goto (tgt := 5) hx hb dJ7_fill_53178_17 (by decide) ?_
      exact ih _ _ _ _ _ _ _ _ h w (lh_sub hl [1, 2, 0, 3] rfl)
def B_J7_fill_53178_0 (Q : Mm → Prop)  (x0 : Option Nat) (x1 : Int32) (M : Mm) : Prop := (∃ a1, x0 = some a1 ∧ (ok M a1 7 ∧ (∃ n3, B_J7_fill_53178_5 Q  n3 x0 x1 (0 : Int32) (nI (gN M a1)) M)))
set_option maxHeartbeats 4000000 in
set_option maxRecDepth 100000 in
theorem k_J7_fill_53178_0 {p : Program} {l : Launch} {e : Env} {s : State} {m : MethodId} {args : Array Value} {below : List Frame} {meth : Method} {c : Code} {D : va_G} {cy : Nat → ClassId} {A : Nat → Prop} {Q : Mm → Prop} (E : Ex p m c cJ7_fill_53178 4 s args RJ7 D cy A) (hr : meth.sig.returnType = none) (hlk : meth.locks = false) : ∀ (x0 : Option Nat) (x1 : Int32) (M : Mm) (H : Heap) (locs : List Loc) (ls : Array Slot), B_J7_fill_53178_0 Q  x0 x1 M → Wd D cy A s M H locs → lh ls 4 [(0, rv x0), (1, iv x1)] → W p l e (rmm 0 0 0) s m args below meth c H locs 0 0 (MQ below (va_Qv Q (Po D cy A) A) args s 0 0 A) (F0 m 0 ls []) := by
  obtain ⟨hx, hb, hml, hown, hts⟩ := E.1
  intro x0 x1 M H locs ls h w hl
  unfold B_J7_fill_53178_0 at h
  refine lv_iconst (v := (0 : Int32)) hx hb dJ7_fill_53178_0 (by decide) ?_
  refine r_istore_n (lv' := [(2, iv (0 : Int32)), (0, rv x0), (1, iv x1)]) hx hb dJ7_fill_53178_1 rfl hl (by decide) rfl (fun ls hl => ?_)
  refine r_aload_n (x := x0) hx hb dJ7_fill_53178_2 rfl (lh_at hl 1 rfl) ?_
  obtain ⟨a1, ea1, h⟩ := h
  obtain ⟨ho2, h⟩ := h
  refine r_alen7 E w ea1 ho2 dJ7_fill_53178_3 ?_
  refine r_istore_n (lv' := [(3, iv (nI (gN M a1))), (2, iv (0 : Int32)), (0, rv x0), (1, iv x1)]) hx hb dJ7_fill_53178_4 rfl hl (by decide) rfl (fun ls hl => ?_)
  obtain ⟨n3, h⟩ := h
  exact k_J7_fill_53178_5 E hr hlk  n3 _ _ _ _ _ _ _ _ h w (lh_sub hl [2, 3, 1, 0] rfl)
theorem K_J7_fill_53178 {l : Launch} {Q : Mm → Prop} {x0 : Option Nat} {x1 : Int32} {M : Mm} (h : B_J7_fill_53178_0 Q x0 x1 M) : KV l yJ7_fill_53178 cdJ7_fill_53178 (rmm 0 0 0) [rv x0, iv x1] M Q :=
  KV_of (by decide) rfl (Nat.le_of_ble_eq_true rfl) (fun p e s m args below meth c D cy A ls E hr hlk hn w hl => k_J7_fill_53178_0 E hr hlk _ _ _ _ _ _ h w hl)
def B_J6_signum_0f7a4_0 (Q : Int32 → Mm → Prop)  (x0 : Int32) (M : Mm) : Prop := Q ((x0 >>> ((31 : Int32) &&& 31)) ||| (UInt32.toInt32 (Int32.toUInt32 (-x0) >>> (Int32.toUInt32 (31 : Int32) &&& Int32.toUInt32 31)))) M
set_option maxHeartbeats 4000000 in
set_option maxRecDepth 100000 in
theorem k_J6_signum_0f7a4_0 {p : Program} {l : Launch} {e : Env} {s : State} {m : MethodId} {args : Array Value} {below : List Frame} {meth : Method} {c : Code} {D : va_G} {cy : Nat → ClassId} {A : Nat → Prop} {Q : Int32 → Mm → Prop} (E : Ex p m c cJ6_signum_0f7a4 1 s args RJ6 D cy A) (hr : meth.sig.returnType = (some .int)) (hlk : meth.locks = false) : ∀ (x0 : Int32) (M : Mm) (H : Heap) (locs : List Loc) (ls : Array Slot), B_J6_signum_0f7a4_0 Q  x0 M → Wd D cy A s M H locs → lh ls 1 [(0, iv x0)] → W p l e (rmm 0 0 0) s m args below meth c H locs 0 0 (MQ below (va_Qi Q (Po D cy A) A) args s 0 0 A) (F0 m 0 ls []) := by
  obtain ⟨hx, hb, hml, hown, hts⟩ := E.1
  intro x0 M H locs ls h w hl
  unfold B_J6_signum_0f7a4_0 at h
  refine lv_iload_n (x := x0) hx hb dJ6_signum_0f7a4_0 rfl (lh_at hl 0 rfl) ?_
  refine lv_bipush (v := (31 : Int32)) hx hb dJ6_signum_0f7a4_1 (by decide) ?_
  refine lv_ishr hx hb dJ6_signum_0f7a4_3 ?_
  refine lv_iload_n (x := x0) hx hb dJ6_signum_0f7a4_4 rfl (lh_at hl 0 rfl) ?_
  refine lv_ineg hx hb dJ6_signum_0f7a4_5 ?_
  refine lv_bipush (v := (31 : Int32)) hx hb dJ6_signum_0f7a4_6 (by decide) ?_
  refine lv_iushr hx hb dJ6_signum_0f7a4_8 rfl ?_
  refine lv_ior hx hb dJ6_signum_0f7a4_9 ?_
  exact r_iret E w hr hlk h (Nat.le_refl 0) (Nat.le_refl 0) dJ6_signum_0f7a4_10
theorem K_J6_signum_0f7a4 {l : Launch} {Q : Int32 → Mm → Prop} {x0 : Int32} {M : Mm} (h : B_J6_signum_0f7a4_0 Q x0 M) : KI l yJ6_signum_0f7a4 cdJ6_signum_0f7a4 (rmm 0 0 0) [iv x0] M Q :=
  KI_of (by decide) rfl (Nat.le_of_ble_eq_true rfl) (fun p e s m args below meth c D cy A ls E hr hlk hn w hl => k_J6_signum_0f7a4_0 E hr hlk _ _ _ _ _ h w hl)
