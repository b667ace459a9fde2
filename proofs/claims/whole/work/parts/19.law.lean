def B_L_law_1197 (b L : Nat) (xs : Nat → Int32) (K18 : Nat → Option Nat → Option Nat → Int32 → Nat → Nat → Mm → Prop) (h0 : Nat) (x1 : Option Nat) (x2 : Option Nat) (x3 : Int32) (gc : Nat) (gs : Nat) (M : Mm) : Prop := (∃ a1, x1 = some a1 ∧ (ok M a1 5 ∧ (B_X5_digest_0 (fun r4 M3 => (∃ a5, x2 = some a5 ∧ (ok M3 a5 6 ∧ (B_X6_digest_0 (fun r8 M7 => (((lg_cmp r4 r8) = 0 → K18 h0 x1 x2 (x3 + 7) gc gs M7) ∧ (¬ (lg_cmp r4 r8) = 0 → (0 : Int32) = 1))) a5  M3)))) a1  M)))
set_option maxHeartbeats 4000000 in
set_option maxRecDepth 100000 in
theorem k_L_law_1197 {p : Program} {l : Launch} {e : Env} {s : State} {m : MethodId} {below : List Frame} {meth : Method} {c : Code} {D : va_G} {cy : Nat → ClassId} {b L : Nat} {xs : Nat → Int32} (E : Ex p m c cL_law 4 s #[Value.ref b] RL D cy (fun q : Nat => s.heap.size ≤ q)) (hr : meth.sig.returnType = ret) (hlk : meth.locks = false) (hX : va_X b L xs s s.heap) (hbl : b < s.heap.size) {K18 : Nat → Option Nat → Option Nat → Int32 → Nat → Nat → Mm → Prop} (hK18 : ∀ (h0 : Nat) (x1 : Option Nat) (x2 : Option Nat) (x3 : Int32) (gc : Nat) (gs : Nat) (M : Mm) (H : Heap) (locs : List Loc) (ls : Array Slot) (cells slots : Nat), K18 h0 x1 x2 x3 gc gs M → Wd D cy (fun q : Nat => s.heap.size ≤ q) s M H locs → lh ls 4 [(0, rv (some h0)), (1, rv x1), (2, rv x2), (3, iv x3)] → cells + gc ≤ 600000 ∧ slots + gs ≤ 7302249 → W p l e room_1 s m #[Value.ref b] below meth c H locs cells slots (lw_Z below #[Value.ref b] s) (F0 m 18 ls [])) : ∀ (h0 : Nat) (x1 : Option Nat) (x2 : Option Nat) (x3 : Int32) (gc : Nat) (gs : Nat) (M : Mm) (H : Heap) (locs : List Loc) (ls : Array Slot) (cells slots : Nat), B_L_law_1197 b L xs K18 h0 x1 x2 x3 gc gs M → Wd D cy (fun q : Nat => s.heap.size ≤ q) s M H locs → lh ls 4 [(0, rv (some h0)), (1, rv x1), (2, rv x2), (3, iv x3)] → cells + gc ≤ 600000 ∧ slots + gs ≤ 7302249 → W p l e room_1 s m #[Value.ref b] below meth c H locs cells slots (lw_Z below #[Value.ref b] s) (F0 m 1197 ls []) := by
  obtain ⟨hx, hb, hml, hown, hts⟩ := E.1
  intro h0 x1 x2 x3 gc gs M H locs ls cells slots h w hl hg
  unfold B_L_law_1197 at h
  refine r_aload_n (x := x1) hx hb dL_law_1197 rfl (lh_at hl 1 rfl) ?_
  obtain ⟨a1, ea1, h⟩ := h
  obtain ⟨ho2, h⟩ := h
  refine z_callVl E w ea1 ho2 cl_X5 yk_X5_digest ⟨Nat.le_of_ble_eq_true rfl, Nat.le_of_ble_eq_true rfl⟩ ⟨(show cells ≤ 600000 by omega), (show slots ≤ 7302249 by omega)⟩ rfl ml_L_149 im_X5_digest sl_X5_digest [] rfl rfl hl [] rfl (Nat.le_of_ble_eq_true rfl) (K_X5_digest h) dL_law_1198 (fun r4 M3 H locs h w => ?_)
  refine r_aload_n (x := x2) hx hb dL_law_1201 rfl (lh_at hl 2 rfl) ?_
  obtain ⟨a5, ea5, h⟩ := h
  obtain ⟨ho6, h⟩ := h
  refine z_callVl E w ea5 ho6 cl_X6 yk_X6_digest ⟨Nat.le_of_ble_eq_true rfl, Nat.le_of_ble_eq_true rfl⟩ ⟨(show cells ≤ 600000 by omega), (show slots ≤ 7302249 by omega)⟩ rfl ml_L_152 im_X6_digest sl_X6_digest [] rfl rfl hl [jv r4] rfl (Nat.le_of_ble_eq_true rfl) (K_X6_digest h) dL_law_1202 (fun r8 M7 H locs h w => ?_)
  refine W.lcmp hx hb dL_law_1205 ?_
  refine lv_if_eq (tgt := 1211) hx hb dL_law_1206 (by decide) (fun c9 => ?_) (fun c9 => ?_)
  · have h := h.1 c9
    refine r_iinc (k := 3) (x := x3) (v := (x3 + 7)) (lv' := [(3, iv (x3 + 7)), (0, rv (some h0)), (1, rv x1), (2, rv x2)]) hx hb dL_law_1211 hl rfl rfl (by decide) rfl (fun ls hl => ?_)
    refine lv_goto (tgt := 18) hx hb dL_law_1214 (by decide) ?_
    exact hK18 _ _ _ _ _ _ _ _ _ _ _ _ h w (lh_sub hl [1, 2, 3, 0] rfl) hg
  · have h := h.2 c9
    refine lv_iconst (v := (0 : Int32)) hx hb dL_law_1209 (by decide) ?_
    exact r_lawret E w hr hlk h (show cells ≤ 600000 by omega) (show slots ≤ 7302249 by omega) dL_law_1210
def B_L_law_1174 (b L : Nat) (xs : Nat → Int32) (K18 : Nat → Option Nat → Option Nat → Int32 → Nat → Nat → Mm → Prop) (h0 : Nat) (x1 : Option Nat) (x2 : Option Nat) (x3 : Int32) (gc : Nat) (gs : Nat) (M : Mm) : Prop := (h0 = b ∧ vp_in (x3 + (1 : Int32)) L ∧ (∃ a2, x1 = some a2 ∧ (ok M a2 5 ∧ (B_X5_findings_0 (fun r5 M4 => (h0 = b ∧ vp_in (x3 + (1 : Int32)) L ∧ (∃ a7, x2 = some a7 ∧ (ok M4 a7 6 ∧ (B_X6_findings_0 (fun r10 M9 => ((r5 = r10 → K18 h0 x1 x2 (x3 + 7) gc gs M9) ∧ (¬ r5 = r10 → (0 : Int32) = 1))) a7 (xs (Int32.toNatClampNeg (x3 + (1 : Int32)))) M4))))) a2 (xs (Int32.toNatClampNeg (x3 + (1 : Int32)))) M))))
set_option maxHeartbeats 4000000 in
set_option maxRecDepth 100000 in
theorem k_L_law_1174 {p : Program} {l : Launch} {e : Env} {s : State} {m : MethodId} {below : List Frame} {meth : Method} {c : Code} {D : va_G} {cy : Nat → ClassId} {b L : Nat} {xs : Nat → Int32} (E : Ex p m c cL_law 4 s #[Value.ref b] RL D cy (fun q : Nat => s.heap.size ≤ q)) (hr : meth.sig.returnType = ret) (hlk : meth.locks = false) (hX : va_X b L xs s s.heap) (hbl : b < s.heap.size) {K18 : Nat → Option Nat → Option Nat → Int32 → Nat → Nat → Mm → Prop} (hK18 : ∀ (h0 : Nat) (x1 : Option Nat) (x2 : Option Nat) (x3 : Int32) (gc : Nat) (gs : Nat) (M : Mm) (H : Heap) (locs : List Loc) (ls : Array Slot) (cells slots : Nat), K18 h0 x1 x2 x3 gc gs M → Wd D cy (fun q : Nat => s.heap.size ≤ q) s M H locs → lh ls 4 [(0, rv (some h0)), (1, rv x1), (2, rv x2), (3, iv x3)] → cells + gc ≤ 600000 ∧ slots + gs ≤ 7302249 → W p l e room_1 s m #[Value.ref b] below meth c H locs cells slots (lw_Z below #[Value.ref b] s) (F0 m 18 ls [])) : ∀ (h0 : Nat) (x1 : Option Nat) (x2 : Option Nat) (x3 : Int32) (gc : Nat) (gs : Nat) (M : Mm) (H : Heap) (locs : List Loc) (ls : Array Slot) (cells slots : Nat), B_L_law_1174 b L xs K18 h0 x1 x2 x3 gc gs M → Wd D cy (fun q : Nat => s.heap.size ≤ q) s M H locs → lh ls 4 [(0, rv (some h0)), (1, rv x1), (2, rv x2), (3, iv x3)] → cells + gc ≤ 600000 ∧ slots + gs ≤ 7302249 → W p l e room_1 s m #[Value.ref b] below meth c H locs cells slots (lw_Z below #[Value.ref b] s) (F0 m 1174 ls []) := by
  obtain ⟨hx, hb, hml, hown, hts⟩ := E.1
  intro h0 x1 x2 x3 gc gs M H locs ls cells slots h w hl hg
  unfold B_L_law_1174 at h
  refine r_aload_n (x := x1) hx hb dL_law_1174 rfl (lh_at hl 1 rfl) ?_
  refine r_aload_n (x := (some h0)) hx hb dL_law_1175 rfl (lh_at hl 0 rfl) ?_
  refine lv_iload_n (x := x3) hx hb dL_law_1176 rfl (lh_at hl 3 rfl) ?_
  refine lv_iconst (v := (1 : Int32)) hx hb dL_law_1177 (by decide) ?_
  refine lv_iadd hx hb dL_law_1178 ?_
  obtain ⟨hs1, hs1i, h⟩ := h
  refine r_sld E w (hxa := by rw [hs1]) hX hbl hs1i dL_law_1179 ?_
  obtain ⟨a2, ea2, h⟩ := h
  obtain ⟨ho3, h⟩ := h
  refine z_callVi E w ea2 ho3 cl_X5 yk_X5_findings ⟨Nat.le_of_ble_eq_true rfl, Nat.le_of_ble_eq_true rfl⟩ ⟨(show cells ≤ 600000 by omega), (show slots ≤ 7302249 by omega)⟩ rfl ml_L_145 im_X5_findings sl_X5_findings [iv (xs (Int32.toNatClampNeg (x3 + (1 : Int32))))] rfl rfl hl [] rfl (Nat.le_of_ble_eq_true rfl) (K_X5_findings h) dL_law_1180 (fun r5 M4 H locs h w => ?_)
  refine r_aload_n (x := x2) hx hb dL_law_1183 rfl (lh_at hl 2 rfl) ?_
  refine r_aload_n (x := (some h0)) hx hb dL_law_1184 rfl (lh_at hl 0 rfl) ?_
  refine lv_iload_n (x := x3) hx hb dL_law_1185 rfl (lh_at hl 3 rfl) ?_
  refine lv_iconst (v := (1 : Int32)) hx hb dL_law_1186 (by decide) ?_
  refine lv_iadd hx hb dL_law_1187 ?_
  obtain ⟨hs6, hs6i, h⟩ := h
  refine r_sld E w (hxa := by rw [hs6]) hX hbl hs6i dL_law_1188 ?_
  obtain ⟨a7, ea7, h⟩ := h
  obtain ⟨ho8, h⟩ := h
  refine z_callVi E w ea7 ho8 cl_X6 yk_X6_findings ⟨Nat.le_of_ble_eq_true rfl, Nat.le_of_ble_eq_true rfl⟩ ⟨(show cells ≤ 600000 by omega), (show slots ≤ 7302249 by omega)⟩ rfl ml_L_148 im_X6_findings sl_X6_findings [iv (xs (Int32.toNatClampNeg (x3 + (1 : Int32))))] rfl rfl hl [iv r5] rfl (Nat.le_of_ble_eq_true rfl) (K_X6_findings h) dL_law_1189 (fun r10 M9 H locs h w => ?_)
  refine lv_icmp_eq (tgt := 1211) hx hb dL_law_1192 (by decide) (fun c11 => ?_) (fun c11 => ?_)
  · have h := h.1 c11
    refine r_iinc (k := 3) (x := x3) (v := (x3 + 7)) (lv' := [(3, iv (x3 + 7)), (0, rv (some h0)), (1, rv x1), (2, rv x2)]) hx hb dL_law_1211 hl rfl rfl (by decide) rfl (fun ls hl => ?_)
    refine lv_goto (tgt := 18) hx hb dL_law_1214 (by decide) ?_
    exact hK18 _ _ _ _ _ _ _ _ _ _ _ _ h w (lh_sub hl [1, 2, 3, 0] rfl) hg
  · have h := h.2 c11
    refine lv_iconst (v := (0 : Int32)) hx hb dL_law_1195 (by decide) ?_
    exact r_lawret E w hr hlk h (show cells ≤ 600000 by omega) (show slots ≤ 7302249 by omega) dL_law_1196
def B_L_law_1161 (b L : Nat) (xs : Nat → Int32) (K18 : Nat → Option Nat → Option Nat → Int32 → Nat → Nat → Mm → Prop) (h0 : Nat) (x1 : Option Nat) (x2 : Option Nat) (x3 : Int32) (gc : Nat) (gs : Nat) (M : Mm) : Prop := (∃ a1, x1 = some a1 ∧ (ok M a1 5 ∧ (B_X5_finding_0 (fun r4 M3 => (∃ a5, x2 = some a5 ∧ (ok M3 a5 6 ∧ (B_X6_finding_0 (fun r8 M7 => ((r4 = r8 → K18 h0 x1 x2 (x3 + 7) gc gs M7) ∧ (¬ r4 = r8 → (0 : Int32) = 1))) a5  M3)))) a1  M)))
set_option maxHeartbeats 4000000 in
set_option maxRecDepth 100000 in
theorem k_L_law_1161 {p : Program} {l : Launch} {e : Env} {s : State} {m : MethodId} {below : List Frame} {meth : Method} {c : Code} {D : va_G} {cy : Nat → ClassId} {b L : Nat} {xs : Nat → Int32} (E : Ex p m c cL_law 4 s #[Value.ref b] RL D cy (fun q : Nat => s.heap.size ≤ q)) (hr : meth.sig.returnType = ret) (hlk : meth.locks = false) (hX : va_X b L xs s s.heap) (hbl : b < s.heap.size) {K18 : Nat → Option Nat → Option Nat → Int32 → Nat → Nat → Mm → Prop} (hK18 : ∀ (h0 : Nat) (x1 : Option Nat) (x2 : Option Nat) (x3 : Int32) (gc : Nat) (gs : Nat) (M : Mm) (H : Heap) (locs : List Loc) (ls : Array Slot) (cells slots : Nat), K18 h0 x1 x2 x3 gc gs M → Wd D cy (fun q : Nat => s.heap.size ≤ q) s M H locs → lh ls 4 [(0, rv (some h0)), (1, rv x1), (2, rv x2), (3, iv x3)] → cells + gc ≤ 600000 ∧ slots + gs ≤ 7302249 → W p l e room_1 s m #[Value.ref b] below meth c H locs cells slots (lw_Z below #[Value.ref b] s) (F0 m 18 ls [])) : ∀ (h0 : Nat) (x1 : Option Nat) (x2 : Option Nat) (x3 : Int32) (gc : Nat) (gs : Nat) (M : Mm) (H : Heap) (locs : List Loc) (ls : Array Slot) (cells slots : Nat), B_L_law_1161 b L xs K18 h0 x1 x2 x3 gc gs M → Wd D cy (fun q : Nat => s.heap.size ≤ q) s M H locs → lh ls 4 [(0, rv (some h0)), (1, rv x1), (2, rv x2), (3, iv x3)] → cells + gc ≤ 600000 ∧ slots + gs ≤ 7302249 → W p l e room_1 s m #[Value.ref b] below meth c H locs cells slots (lw_Z below #[Value.ref b] s) (F0 m 1161 ls []) := by
  obtain ⟨hx, hb, hml, hown, hts⟩ := E.1
  intro h0 x1 x2 x3 gc gs M H locs ls cells slots h w hl hg
  unfold B_L_law_1161 at h
  refine r_aload_n (x := x1) hx hb dL_law_1161 rfl (lh_at hl 1 rfl) ?_
  obtain ⟨a1, ea1, h⟩ := h
  obtain ⟨ho2, h⟩ := h
  refine z_callVi E w ea1 ho2 cl_X5 yk_X5_finding ⟨Nat.le_of_ble_eq_true rfl, Nat.le_of_ble_eq_true rfl⟩ ⟨(show cells ≤ 600000 by omega), (show slots ≤ 7302249 by omega)⟩ rfl ml_L_141 im_X5_finding sl_X5_finding [] rfl rfl hl [] rfl (Nat.le_of_ble_eq_true rfl) (K_X5_finding h) dL_law_1162 (fun r4 M3 H locs h w => ?_)
  refine r_aload_n (x := x2) hx hb dL_law_1165 rfl (lh_at hl 2 rfl) ?_
  obtain ⟨a5, ea5, h⟩ := h
  obtain ⟨ho6, h⟩ := h
  refine z_callVi E w ea5 ho6 cl_X6 yk_X6_finding ⟨Nat.le_of_ble_eq_true rfl, Nat.le_of_ble_eq_true rfl⟩ ⟨(show cells ≤ 600000 by omega), (show slots ≤ 7302249 by omega)⟩ rfl ml_L_144 im_X6_finding sl_X6_finding [] rfl rfl hl [iv r4] rfl (Nat.le_of_ble_eq_true rfl) (K_X6_finding h) dL_law_1166 (fun r8 M7 H locs h w => ?_)
  refine lv_icmp_eq (tgt := 1211) hx hb dL_law_1169 (by decide) (fun c9 => ?_) (fun c9 => ?_)
  · have h := h.1 c9
    refine r_iinc (k := 3) (x := x3) (v := (x3 + 7)) (lv' := [(3, iv (x3 + 7)), (0, rv (some h0)), (1, rv x1), (2, rv x2)]) hx hb dL_law_1211 hl rfl rfl (by decide) rfl (fun ls hl => ?_)
    refine lv_goto (tgt := 18) hx hb dL_law_1214 (by decide) ?_
    exact hK18 _ _ _ _ _ _ _ _ _ _ _ _ h w (lh_sub hl [1, 2, 3, 0] rfl) hg
  · have h := h.2 c9
    refine lv_iconst (v := (0 : Int32)) hx hb dL_law_1172 (by decide) ?_
    exact r_lawret E w hr hlk h (show cells ≤ 600000 by omega) (show slots ≤ 7302249 by omega) dL_law_1173
def B_L_law_1138 (b L : Nat) (xs : Nat → Int32) (K18 : Nat → Option Nat → Option Nat → Int32 → Nat → Nat → Mm → Prop) (h0 : Nat) (x1 : Option Nat) (x2 : Option Nat) (x3 : Int32) (gc : Nat) (gs : Nat) (M : Mm) : Prop := (h0 = b ∧ vp_in (x3 + (1 : Int32)) L ∧ (∃ a2, x1 = some a2 ∧ (ok M a2 5 ∧ (B_X5_count_0 (fun r5 M4 => (h0 = b ∧ vp_in (x3 + (1 : Int32)) L ∧ (∃ a7, x2 = some a7 ∧ (ok M4 a7 6 ∧ (B_X6_count_0 (fun r10 M9 => ((r5 = r10 → K18 h0 x1 x2 (x3 + 7) gc gs M9) ∧ (¬ r5 = r10 → (0 : Int32) = 1))) a7 (xs (Int32.toNatClampNeg (x3 + (1 : Int32)))) M4))))) a2 (xs (Int32.toNatClampNeg (x3 + (1 : Int32)))) M))))
set_option maxHeartbeats 4000000 in
set_option maxRecDepth 100000 in
theorem k_L_law_1138 {p : Program} {l : Launch} {e : Env} {s : State} {m : MethodId} {below : List Frame} {meth : Method} {c : Code} {D : va_G} {cy : Nat → ClassId} {b L : Nat} {xs : Nat → Int32} (E : Ex p m c cL_law 4 s #[Value.ref b] RL D cy (fun q : Nat => s.heap.size ≤ q)) (hr : meth.sig.returnType = ret) (hlk : meth.locks = false) (hX : va_X b L xs s s.heap) (hbl : b < s.heap.size) {K18 : Nat → Option Nat → Option Nat → Int32 → Nat → Nat → Mm → Prop} (hK18 : ∀ (h0 : Nat) (x1 : Option Nat) (x2 : Option Nat) (x3 : Int32) (gc : Nat) (gs : Nat) (M : Mm) (H : Heap) (locs : List Loc) (ls : Array Slot) (cells slots : Nat), K18 h0 x1 x2 x3 gc gs M → Wd D cy (fun q : Nat => s.heap.size ≤ q) s M H locs → lh ls 4 [(0, rv (some h0)), (1, rv x1), (2, rv x2), (3, iv x3)] → cells + gc ≤ 600000 ∧ slots + gs ≤ 7302249 → W p l e room_1 s m #[Value.ref b] below meth c H locs cells slots (lw_Z below #[Value.ref b] s) (F0 m 18 ls [])) : ∀ (h0 : Nat) (x1 : Option Nat) (x2 : Option Nat) (x3 : Int32) (gc : Nat) (gs : Nat) (M : Mm) (H : Heap) (locs : List Loc) (ls : Array Slot) (cells slots : Nat), B_L_law_1138 b L xs K18 h0 x1 x2 x3 gc gs M → Wd D cy (fun q : Nat => s.heap.size ≤ q) s M H locs → lh ls 4 [(0, rv (some h0)), (1, rv x1), (2, rv x2), (3, iv x3)] → cells + gc ≤ 600000 ∧ slots + gs ≤ 7302249 → W p l e room_1 s m #[Value.ref b] below meth c H locs cells slots (lw_Z below #[Value.ref b] s) (F0 m 1138 ls []) := by
  obtain ⟨hx, hb, hml, hown, hts⟩ := E.1
  intro h0 x1 x2 x3 gc gs M H locs ls cells slots h w hl hg
  unfold B_L_law_1138 at h
  refine r_aload_n (x := x1) hx hb dL_law_1138 rfl (lh_at hl 1 rfl) ?_
  refine r_aload_n (x := (some h0)) hx hb dL_law_1139 rfl (lh_at hl 0 rfl) ?_
  refine lv_iload_n (x := x3) hx hb dL_law_1140 rfl (lh_at hl 3 rfl) ?_
  refine lv_iconst (v := (1 : Int32)) hx hb dL_law_1141 (by decide) ?_
  refine lv_iadd hx hb dL_law_1142 ?_
  obtain ⟨hs1, hs1i, h⟩ := h
  refine r_sld E w (hxa := by rw [hs1]) hX hbl hs1i dL_law_1143 ?_
  obtain ⟨a2, ea2, h⟩ := h
  obtain ⟨ho3, h⟩ := h
  refine z_callVi E w ea2 ho3 cl_X5 yk_X5_count ⟨Nat.le_of_ble_eq_true rfl, Nat.le_of_ble_eq_true rfl⟩ ⟨(show cells ≤ 600000 by omega), (show slots ≤ 7302249 by omega)⟩ rfl ml_L_137 im_X5_count sl_X5_count [iv (xs (Int32.toNatClampNeg (x3 + (1 : Int32))))] rfl rfl hl [] rfl (Nat.le_of_ble_eq_true rfl) (K_X5_count h) dL_law_1144 (fun r5 M4 H locs h w => ?_)
  refine r_aload_n (x := x2) hx hb dL_law_1147 rfl (lh_at hl 2 rfl) ?_
  refine r_aload_n (x := (some h0)) hx hb dL_law_1148 rfl (lh_at hl 0 rfl) ?_
  refine lv_iload_n (x := x3) hx hb dL_law_1149 rfl (lh_at hl 3 rfl) ?_
  refine lv_iconst (v := (1 : Int32)) hx hb dL_law_1150 (by decide) ?_
  refine lv_iadd hx hb dL_law_1151 ?_
  obtain ⟨hs6, hs6i, h⟩ := h
  refine r_sld E w (hxa := by rw [hs6]) hX hbl hs6i dL_law_1152 ?_
  obtain ⟨a7, ea7, h⟩ := h
  obtain ⟨ho8, h⟩ := h
  refine z_callVi E w ea7 ho8 cl_X6 yk_X6_count ⟨Nat.le_of_ble_eq_true rfl, Nat.le_of_ble_eq_true rfl⟩ ⟨(show cells ≤ 600000 by omega), (show slots ≤ 7302249 by omega)⟩ rfl ml_L_140 im_X6_count sl_X6_count [iv (xs (Int32.toNatClampNeg (x3 + (1 : Int32))))] rfl rfl hl [iv r5] rfl (Nat.le_of_ble_eq_true rfl) (K_X6_count h) dL_law_1153 (fun r10 M9 H locs h w => ?_)
  refine lv_icmp_eq (tgt := 1211) hx hb dL_law_1156 (by decide) (fun c11 => ?_) (fun c11 => ?_)
  · have h := h.1 c11
    refine r_iinc (k := 3) (x := x3) (v := (x3 + 7)) (lv' := [(3, iv (x3 + 7)), (0, rv (some h0)), (1, rv x1), (2, rv x2)]) hx hb dL_law_1211 hl rfl rfl (by decide) rfl (fun ls hl => ?_)
    refine lv_goto (tgt := 18) hx hb dL_law_1214 (by decide) ?_
    exact hK18 _ _ _ _ _ _ _ _ _ _ _ _ h w (lh_sub hl [1, 2, 3, 0] rfl) hg
  · have h := h.2 c11
    refine lv_iconst (v := (0 : Int32)) hx hb dL_law_1159 (by decide) ?_
    exact r_lawret E w hr hlk h (show cells ≤ 600000 by omega) (show slots ≤ 7302249 by omega) dL_law_1160
def B_L_law_1124 (b L : Nat) (xs : Nat → Int32) (K18 : Nat → Option Nat → Option Nat → Int32 → Nat → Nat → Mm → Prop) (h0 : Nat) (x1 : Option Nat) (x2 : Option Nat) (x3 : Int32) (gc : Nat) (gs : Nat) (M : Mm) : Prop := (∃ a1, x1 = some a1 ∧ (ok M a1 5 ∧ (B_X5_asked_0 (fun r4 M3 => (∃ a5, x2 = some a5 ∧ (ok M3 a5 6 ∧ (B_X6_asked_0 (fun r8 M7 => (((lg_cmp r4 r8) = 0 → K18 h0 x1 x2 (x3 + 7) gc gs M7) ∧ (¬ (lg_cmp r4 r8) = 0 → (0 : Int32) = 1))) a5  M3)))) a1  M)))
set_option maxHeartbeats 4000000 in
set_option maxRecDepth 100000 in
theorem k_L_law_1124 {p : Program} {l : Launch} {e : Env} {s : State} {m : MethodId} {below : List Frame} {meth : Method} {c : Code} {D : va_G} {cy : Nat → ClassId} {b L : Nat} {xs : Nat → Int32} (E : Ex p m c cL_law 4 s #[Value.ref b] RL D cy (fun q : Nat => s.heap.size ≤ q)) (hr : meth.sig.returnType = ret) (hlk : meth.locks = false) (hX : va_X b L xs s s.heap) (hbl : b < s.heap.size) {K18 : Nat → Option Nat → Option Nat → Int32 → Nat → Nat → Mm → Prop} (hK18 : ∀ (h0 : Nat) (x1 : Option Nat) (x2 : Option Nat) (x3 : Int32) (gc : Nat) (gs : Nat) (M : Mm) (H : Heap) (locs : List Loc) (ls : Array Slot) (cells slots : Nat), K18 h0 x1 x2 x3 gc gs M → Wd D cy (fun q : Nat => s.heap.size ≤ q) s M H locs → lh ls 4 [(0, rv (some h0)), (1, rv x1), (2, rv x2), (3, iv x3)] → cells + gc ≤ 600000 ∧ slots + gs ≤ 7302249 → W p l e room_1 s m #[Value.ref b] below meth c H locs cells slots (lw_Z below #[Value.ref b] s) (F0 m 18 ls [])) : ∀ (h0 : Nat) (x1 : Option Nat) (x2 : Option Nat) (x3 : Int32) (gc : Nat) (gs : Nat) (M : Mm) (H : Heap) (locs : List Loc) (ls : Array Slot) (cells slots : Nat), B_L_law_1124 b L xs K18 h0 x1 x2 x3 gc gs M → Wd D cy (fun q : Nat => s.heap.size ≤ q) s M H locs → lh ls 4 [(0, rv (some h0)), (1, rv x1), (2, rv x2), (3, iv x3)] → cells + gc ≤ 600000 ∧ slots + gs ≤ 7302249 → W p l e room_1 s m #[Value.ref b] below meth c H locs cells slots (lw_Z below #[Value.ref b] s) (F0 m 1124 ls []) := by
  obtain ⟨hx, hb, hml, hown, hts⟩ := E.1
  intro h0 x1 x2 x3 gc gs M H locs ls cells slots h w hl hg
  unfold B_L_law_1124 at h
  refine r_aload_n (x := x1) hx hb dL_law_1124 rfl (lh_at hl 1 rfl) ?_
  obtain ⟨a1, ea1, h⟩ := h
  obtain ⟨ho2, h⟩ := h
  refine z_callVl E w ea1 ho2 cl_X5 yk_X5_asked ⟨Nat.le_of_ble_eq_true rfl, Nat.le_of_ble_eq_true rfl⟩ ⟨(show cells ≤ 600000 by omega), (show slots ≤ 7302249 by omega)⟩ rfl ml_L_133 im_X5_asked sl_X5_asked [] rfl rfl hl [] rfl (Nat.le_of_ble_eq_true rfl) (K_X5_asked h) dL_law_1125 (fun r4 M3 H locs h w => ?_)
  refine r_aload_n (x := x2) hx hb dL_law_1128 rfl (lh_at hl 2 rfl) ?_
  obtain ⟨a5, ea5, h⟩ := h
  obtain ⟨ho6, h⟩ := h
  refine z_callVl E w ea5 ho6 cl_X6 yk_X6_asked ⟨Nat.le_of_ble_eq_true rfl, Nat.le_of_ble_eq_true rfl⟩ ⟨(show cells ≤ 600000 by omega), (show slots ≤ 7302249 by omega)⟩ rfl ml_L_136 im_X6_asked sl_X6_asked [] rfl rfl hl [jv r4] rfl (Nat.le_of_ble_eq_true rfl) (K_X6_asked h) dL_law_1129 (fun r8 M7 H locs h w => ?_)
  refine W.lcmp hx hb dL_law_1132 ?_
  refine lv_if_eq (tgt := 1211) hx hb dL_law_1133 (by decide) (fun c9 => ?_) (fun c9 => ?_)
  · have h := h.1 c9
    refine r_iinc (k := 3) (x := x3) (v := (x3 + 7)) (lv' := [(3, iv (x3 + 7)), (0, rv (some h0)), (1, rv x1), (2, rv x2)]) hx hb dL_law_1211 hl rfl rfl (by decide) rfl (fun ls hl => ?_)
    refine lv_goto (tgt := 18) hx hb dL_law_1214 (by decide) ?_
    exact hK18 _ _ _ _ _ _ _ _ _ _ _ _ h w (lh_sub hl [1, 2, 3, 0] rfl) hg
  · have h := h.2 c9
    refine lv_iconst (v := (0 : Int32)) hx hb dL_law_1136 (by decide) ?_
    exact r_lawret E w hr hlk h (show cells ≤ 600000 by omega) (show slots ≤ 7302249 by omega) dL_law_1137
def B_L_law_1110 (b L : Nat) (xs : Nat → Int32) (K18 : Nat → Option Nat → Option Nat → Int32 → Nat → Nat → Mm → Prop) (h0 : Nat) (x1 : Option Nat) (x2 : Option Nat) (x3 : Int32) (gc : Nat) (gs : Nat) (M : Mm) : Prop := (∃ a1, x1 = some a1 ∧ (ok M a1 5 ∧ (B_X5_lower_0 (fun r4 M3 => (∃ a5, x2 = some a5 ∧ (ok M3 a5 6 ∧ (B_X6_lower_0 (fun r8 M7 => (((lg_cmp r4 r8) = 0 → K18 h0 x1 x2 (x3 + 7) gc gs M7) ∧ (¬ (lg_cmp r4 r8) = 0 → (0 : Int32) = 1))) a5  M3)))) a1  M)))
set_option maxHeartbeats 4000000 in
set_option maxRecDepth 100000 in
theorem k_L_law_1110 {p : Program} {l : Launch} {e : Env} {s : State} {m : MethodId} {below : List Frame} {meth : Method} {c : Code} {D : va_G} {cy : Nat → ClassId} {b L : Nat} {xs : Nat → Int32} (E : Ex p m c cL_law 4 s #[Value.ref b] RL D cy (fun q : Nat => s.heap.size ≤ q)) (hr : meth.sig.returnType = ret) (hlk : meth.locks = false) (hX : va_X b L xs s s.heap) (hbl : b < s.heap.size) {K18 : Nat → Option Nat → Option Nat → Int32 → Nat → Nat → Mm → Prop} (hK18 : ∀ (h0 : Nat) (x1 : Option Nat) (x2 : Option Nat) (x3 : Int32) (gc : Nat) (gs : Nat) (M : Mm) (H : Heap) (locs : List Loc) (ls : Array Slot) (cells slots : Nat), K18 h0 x1 x2 x3 gc gs M → Wd D cy (fun q : Nat => s.heap.size ≤ q) s M H locs → lh ls 4 [(0, rv (some h0)), (1, rv x1), (2, rv x2), (3, iv x3)] → cells + gc ≤ 600000 ∧ slots + gs ≤ 7302249 → W p l e room_1 s m #[Value.ref b] below meth c H locs cells slots (lw_Z below #[Value.ref b] s) (F0 m 18 ls [])) : ∀ (h0 : Nat) (x1 : Option Nat) (x2 : Option Nat) (x3 : Int32) (gc : Nat) (gs : Nat) (M : Mm) (H : Heap) (locs : List Loc) (ls : Array Slot) (cells slots : Nat), B_L_law_1110 b L xs K18 h0 x1 x2 x3 gc gs M → Wd D cy (fun q : Nat => s.heap.size ≤ q) s M H locs → lh ls 4 [(0, rv (some h0)), (1, rv x1), (2, rv x2), (3, iv x3)] → cells + gc ≤ 600000 ∧ slots + gs ≤ 7302249 → W p l e room_1 s m #[Value.ref b] below meth c H locs cells slots (lw_Z below #[Value.ref b] s) (F0 m 1110 ls []) := by
  obtain ⟨hx, hb, hml, hown, hts⟩ := E.1
  intro h0 x1 x2 x3 gc gs M H locs ls cells slots h w hl hg
  unfold B_L_law_1110 at h
  refine r_aload_n (x := x1) hx hb dL_law_1110 rfl (lh_at hl 1 rfl) ?_
  obtain ⟨a1, ea1, h⟩ := h
  obtain ⟨ho2, h⟩ := h
  refine z_callVl E w ea1 ho2 cl_X5 yk_X5_lower ⟨Nat.le_of_ble_eq_true rfl, Nat.le_of_ble_eq_true rfl⟩ ⟨(show cells ≤ 600000 by omega), (show slots ≤ 7302249 by omega)⟩ rfl ml_L_129 im_X5_lower sl_X5_lower [] rfl rfl hl [] rfl (Nat.le_of_ble_eq_true rfl) (K_X5_lower h) dL_law_1111 (fun r4 M3 H locs h w => ?_)
  refine r_aload_n (x := x2) hx hb dL_law_1114 rfl (lh_at hl 2 rfl) ?_
  obtain ⟨a5, ea5, h⟩ := h
  obtain ⟨ho6, h⟩ := h
  refine z_callVl E w ea5 ho6 cl_X6 yk_X6_lower ⟨Nat.le_of_ble_eq_true rfl, Nat.le_of_ble_eq_true rfl⟩ ⟨(show cells ≤ 600000 by omega), (show slots ≤ 7302249 by omega)⟩ rfl ml_L_132 im_X6_lower sl_X6_lower [] rfl rfl hl [jv r4] rfl (Nat.le_of_ble_eq_true rfl) (K_X6_lower h) dL_law_1115 (fun r8 M7 H locs h w => ?_)
  refine W.lcmp hx hb dL_law_1118 ?_
  refine lv_if_eq (tgt := 1211) hx hb dL_law_1119 (by decide) (fun c9 => ?_) (fun c9 => ?_)
  · have h := h.1 c9
    refine r_iinc (k := 3) (x := x3) (v := (x3 + 7)) (lv' := [(3, iv (x3 + 7)), (0, rv (some h0)), (1, rv x1), (2, rv x2)]) hx hb dL_law_1211 hl rfl rfl (by decide) rfl (fun ls hl => ?_)
    refine lv_goto (tgt := 18) hx hb dL_law_1214 (by decide) ?_
    exact hK18 _ _ _ _ _ _ _ _ _ _ _ _ h w (lh_sub hl [1, 2, 3, 0] rfl) hg
  · have h := h.2 c9
    refine lv_iconst (v := (0 : Int32)) hx hb dL_law_1122 (by decide) ?_
    exact r_lawret E w hr hlk h (show cells ≤ 600000 by omega) (show slots ≤ 7302249 by omega) dL_law_1123
def B_L_law_1096 (b L : Nat) (xs : Nat → Int32) (K18 : Nat → Option Nat → Option Nat → Int32 → Nat → Nat → Mm → Prop) (h0 : Nat) (x1 : Option Nat) (x2 : Option Nat) (x3 : Int32) (gc : Nat) (gs : Nat) (M : Mm) : Prop := (∃ a1, x1 = some a1 ∧ (ok M a1 5 ∧ (B_X5_upper_0 (fun r4 M3 => (∃ a5, x2 = some a5 ∧ (ok M3 a5 6 ∧ (B_X6_upper_0 (fun r8 M7 => (((lg_cmp r4 r8) = 0 → K18 h0 x1 x2 (x3 + 7) gc gs M7) ∧ (¬ (lg_cmp r4 r8) = 0 → (0 : Int32) = 1))) a5  M3)))) a1  M)))
set_option maxHeartbeats 4000000 in
set_option maxRecDepth 100000 in
theorem k_L_law_1096 {p : Program} {l : Launch} {e : Env} {s : State} {m : MethodId} {below : List Frame} {meth : Method} {c : Code} {D : va_G} {cy : Nat → ClassId} {b L : Nat} {xs : Nat → Int32} (E : Ex p m c cL_law 4 s #[Value.ref b] RL D cy (fun q : Nat => s.heap.size ≤ q)) (hr : meth.sig.returnType = ret) (hlk : meth.locks = false) (hX : va_X b L xs s s.heap) (hbl : b < s.heap.size) {K18 : Nat → Option Nat → Option Nat → Int32 → Nat → Nat → Mm → Prop} (hK18 : ∀ (h0 : Nat) (x1 : Option Nat) (x2 : Option Nat) (x3 : Int32) (gc : Nat) (gs : Nat) (M : Mm) (H : Heap) (locs : List Loc) (ls : Array Slot) (cells slots : Nat), K18 h0 x1 x2 x3 gc gs M → Wd D cy (fun q : Nat => s.heap.size ≤ q) s M H locs → lh ls 4 [(0, rv (some h0)), (1, rv x1), (2, rv x2), (3, iv x3)] → cells + gc ≤ 600000 ∧ slots + gs ≤ 7302249 → W p l e room_1 s m #[Value.ref b] below meth c H locs cells slots (lw_Z below #[Value.ref b] s) (F0 m 18 ls [])) : ∀ (h0 : Nat) (x1 : Option Nat) (x2 : Option Nat) (x3 : Int32) (gc : Nat) (gs : Nat) (M : Mm) (H : Heap) (locs : List Loc) (ls : Array Slot) (cells slots : Nat), B_L_law_1096 b L xs K18 h0 x1 x2 x3 gc gs M → Wd D cy (fun q : Nat => s.heap.size ≤ q) s M H locs → lh ls 4 [(0, rv (some h0)), (1, rv x1), (2, rv x2), (3, iv x3)] → cells + gc ≤ 600000 ∧ slots + gs ≤ 7302249 → W p l e room_1 s m #[Value.ref b] below meth c H locs cells slots (lw_Z below #[Value.ref b] s) (F0 m 1096 ls []) := by
  obtain ⟨hx, hb, hml, hown, hts⟩ := E.1
  intro h0 x1 x2 x3 gc gs M H locs ls cells slots h w hl hg
  unfold B_L_law_1096 at h
  refine r_aload_n (x := x1) hx hb dL_law_1096 rfl (lh_at hl 1 rfl) ?_
  obtain ⟨a1, ea1, h⟩ := h
  obtain ⟨ho2, h⟩ := h
  refine z_callVl E w ea1 ho2 cl_X5 yk_X5_upper ⟨Nat.le_of_ble_eq_true rfl, Nat.le_of_ble_eq_true rfl⟩ ⟨(show cells ≤ 600000 by omega), (show slots ≤ 7302249 by omega)⟩ rfl ml_L_124 im_X5_upper sl_X5_upper [] rfl rfl hl [] rfl (Nat.le_of_ble_eq_true rfl) (K_X5_upper h) dL_law_1097 (fun r4 M3 H locs h w => ?_)
  refine r_aload_n (x := x2) hx hb dL_law_1100 rfl (lh_at hl 2 rfl) ?_
  obtain ⟨a5, ea5, h⟩ := h
  obtain ⟨ho6, h⟩ := h
  refine z_callVl E w ea5 ho6 cl_X6 yk_X6_upper ⟨Nat.le_of_ble_eq_true rfl, Nat.le_of_ble_eq_true rfl⟩ ⟨(show cells ≤ 600000 by omega), (show slots ≤ 7302249 by omega)⟩ rfl ml_L_128 im_X6_upper sl_X6_upper [] rfl rfl hl [jv r4] rfl (Nat.le_of_ble_eq_true rfl) (K_X6_upper h) dL_law_1101 (fun r8 M7 H locs h w => ?_)
  refine W.lcmp hx hb dL_law_1104 ?_
  refine lv_if_eq (tgt := 1211) hx hb dL_law_1105 (by decide) (fun c9 => ?_) (fun c9 => ?_)
  · have h := h.1 c9
    refine r_iinc (k := 3) (x := x3) (v := (x3 + 7)) (lv' := [(3, iv (x3 + 7)), (0, rv (some h0)), (1, rv x1), (2, rv x2)]) hx hb dL_law_1211 hl rfl rfl (by decide) rfl (fun ls hl => ?_)
    refine lv_goto (tgt := 18) hx hb dL_law_1214 (by decide) ?_
    exact hK18 _ _ _ _ _ _ _ _ _ _ _ _ h w (lh_sub hl [1, 2, 3, 0] rfl) hg
  · have h := h.2 c9
    refine lv_iconst (v := (0 : Int32)) hx hb dL_law_1108 (by decide) ?_
    exact r_lawret E w hr hlk h (show cells ≤ 600000 by omega) (show slots ≤ 7302249 by omega) dL_law_1109
def B_L_law_1083 (b L : Nat) (xs : Nat → Int32) (K18 : Nat → Option Nat → Option Nat → Int32 → Nat → Nat → Mm → Prop) (h0 : Nat) (x1 : Option Nat) (x2 : Option Nat) (x3 : Int32) (gc : Nat) (gs : Nat) (M : Mm) : Prop := (∃ a1, x1 = some a1 ∧ (ok M a1 5 ∧ (B_X5_reruns_0 (fun r4 M3 => (∃ a5, x2 = some a5 ∧ (ok M3 a5 6 ∧ (B_X6_reruns_0 (fun r8 M7 => ((r4 = r8 → K18 h0 x1 x2 (x3 + 7) gc gs M7) ∧ (¬ r4 = r8 → (0 : Int32) = 1))) a5  M3)))) a1  M)))
set_option maxHeartbeats 4000000 in
set_option maxRecDepth 100000 in
theorem k_L_law_1083 {p : Program} {l : Launch} {e : Env} {s : State} {m : MethodId} {below : List Frame} {meth : Method} {c : Code} {D : va_G} {cy : Nat → ClassId} {b L : Nat} {xs : Nat → Int32} (E : Ex p m c cL_law 4 s #[Value.ref b] RL D cy (fun q : Nat => s.heap.size ≤ q)) (hr : meth.sig.returnType = ret) (hlk : meth.locks = false) (hX : va_X b L xs s s.heap) (hbl : b < s.heap.size) {K18 : Nat → Option Nat → Option Nat → Int32 → Nat → Nat → Mm → Prop} (hK18 : ∀ (h0 : Nat) (x1 : Option Nat) (x2 : Option Nat) (x3 : Int32) (gc : Nat) (gs : Nat) (M : Mm) (H : Heap) (locs : List Loc) (ls : Array Slot) (cells slots : Nat), K18 h0 x1 x2 x3 gc gs M → Wd D cy (fun q : Nat => s.heap.size ≤ q) s M H locs → lh ls 4 [(0, rv (some h0)), (1, rv x1), (2, rv x2), (3, iv x3)] → cells + gc ≤ 600000 ∧ slots + gs ≤ 7302249 → W p l e room_1 s m #[Value.ref b] below meth c H locs cells slots (lw_Z below #[Value.ref b] s) (F0 m 18 ls [])) : ∀ (h0 : Nat) (x1 : Option Nat) (x2 : Option Nat) (x3 : Int32) (gc : Nat) (gs : Nat) (M : Mm) (H : Heap) (locs : List Loc) (ls : Array Slot) (cells slots : Nat), B_L_law_1083 b L xs K18 h0 x1 x2 x3 gc gs M → Wd D cy (fun q : Nat => s.heap.size ≤ q) s M H locs → lh ls 4 [(0, rv (some h0)), (1, rv x1), (2, rv x2), (3, iv x3)] → cells + gc ≤ 600000 ∧ slots + gs ≤ 7302249 → W p l e room_1 s m #[Value.ref b] below meth c H locs cells slots (lw_Z below #[Value.ref b] s) (F0 m 1083 ls []) := by
  obtain ⟨hx, hb, hml, hown, hts⟩ := E.1
  intro h0 x1 x2 x3 gc gs M H locs ls cells slots h w hl hg
  unfold B_L_law_1083 at h
  refine r_aload_n (x := x1) hx hb dL_law_1083 rfl (lh_at hl 1 rfl) ?_
  obtain ⟨a1, ea1, h⟩ := h
  obtain ⟨ho2, h⟩ := h
  refine z_callVi E w ea1 ho2 cl_X5 yk_X5_reruns ⟨Nat.le_of_ble_eq_true rfl, Nat.le_of_ble_eq_true rfl⟩ ⟨(show cells ≤ 600000 by omega), (show slots ≤ 7302249 by omega)⟩ rfl ml_L_120 im_X5_reruns sl_X5_reruns [] rfl rfl hl [] rfl (Nat.le_of_ble_eq_true rfl) (K_X5_reruns h) dL_law_1084 (fun r4 M3 H locs h w => ?_)
  refine r_aload_n (x := x2) hx hb dL_law_1087 rfl (lh_at hl 2 rfl) ?_
  obtain ⟨a5, ea5, h⟩ := h
  obtain ⟨ho6, h⟩ := h
  refine z_callVi E w ea5 ho6 cl_X6 yk_X6_reruns ⟨Nat.le_of_ble_eq_true rfl, Nat.le_of_ble_eq_true rfl⟩ ⟨(show cells ≤ 600000 by omega), (show slots ≤ 7302249 by omega)⟩ rfl ml_L_123 im_X6_reruns sl_X6_reruns [] rfl rfl hl [iv r4] rfl (Nat.le_of_ble_eq_true rfl) (K_X6_reruns h) dL_law_1088 (fun r8 M7 H locs h w => ?_)
  refine lv_icmp_eq (tgt := 1211) hx hb dL_law_1091 (by decide) (fun c9 => ?_) (fun c9 => ?_)
  · have h := h.1 c9
    refine r_iinc (k := 3) (x := x3) (v := (x3 + 7)) (lv' := [(3, iv (x3 + 7)), (0, rv (some h0)), (1, rv x1), (2, rv x2)]) hx hb dL_law_1211 hl rfl rfl (by decide) rfl (fun ls hl => ?_)
    refine lv_goto (tgt := 18) hx hb dL_law_1214 (by decide) ?_
    exact hK18 _ _ _ _ _ _ _ _ _ _ _ _ h w (lh_sub hl [1, 2, 3, 0] rfl) hg
  · have h := h.2 c9
    refine lv_iconst (v := (0 : Int32)) hx hb dL_law_1094 (by decide) ?_
    exact r_lawret E w hr hlk h (show cells ≤ 600000 by omega) (show slots ≤ 7302249 by omega) dL_law_1095
def B_L_law_1070 (b L : Nat) (xs : Nat → Int32) (K18 : Nat → Option Nat → Option Nat → Int32 → Nat → Nat → Mm → Prop) (h0 : Nat) (x1 : Option Nat) (x2 : Option Nat) (x3 : Int32) (gc : Nat) (gs : Nat) (M : Mm) : Prop := (∃ a1, x1 = some a1 ∧ (ok M a1 5 ∧ (B_X5_found_0 (fun r4 M3 => (∃ a5, x2 = some a5 ∧ (ok M3 a5 6 ∧ (B_X6_found_0 (fun r8 M7 => ((r4 = r8 → K18 h0 x1 x2 (x3 + 7) gc gs M7) ∧ (¬ r4 = r8 → (0 : Int32) = 1))) a5  M3)))) a1  M)))
set_option maxHeartbeats 4000000 in
set_option maxRecDepth 100000 in
theorem k_L_law_1070 {p : Program} {l : Launch} {e : Env} {s : State} {m : MethodId} {below : List Frame} {meth : Method} {c : Code} {D : va_G} {cy : Nat → ClassId} {b L : Nat} {xs : Nat → Int32} (E : Ex p m c cL_law 4 s #[Value.ref b] RL D cy (fun q : Nat => s.heap.size ≤ q)) (hr : meth.sig.returnType = ret) (hlk : meth.locks = false) (hX : va_X b L xs s s.heap) (hbl : b < s.heap.size) {K18 : Nat → Option Nat → Option Nat → Int32 → Nat → Nat → Mm → Prop} (hK18 : ∀ (h0 : Nat) (x1 : Option Nat) (x2 : Option Nat) (x3 : Int32) (gc : Nat) (gs : Nat) (M : Mm) (H : Heap) (locs : List Loc) (ls : Array Slot) (cells slots : Nat), K18 h0 x1 x2 x3 gc gs M → Wd D cy (fun q : Nat => s.heap.size ≤ q) s M H locs → lh ls 4 [(0, rv (some h0)), (1, rv x1), (2, rv x2), (3, iv x3)] → cells + gc ≤ 600000 ∧ slots + gs ≤ 7302249 → W p l e room_1 s m #[Value.ref b] below meth c H locs cells slots (lw_Z below #[Value.ref b] s) (F0 m 18 ls [])) : ∀ (h0 : Nat) (x1 : Option Nat) (x2 : Option Nat) (x3 : Int32) (gc : Nat) (gs : Nat) (M : Mm) (H : Heap) (locs : List Loc) (ls : Array Slot) (cells slots : Nat), B_L_law_1070 b L xs K18 h0 x1 x2 x3 gc gs M → Wd D cy (fun q : Nat => s.heap.size ≤ q) s M H locs → lh ls 4 [(0, rv (some h0)), (1, rv x1), (2, rv x2), (3, iv x3)] → cells + gc ≤ 600000 ∧ slots + gs ≤ 7302249 → W p l e room_1 s m #[Value.ref b] below meth c H locs cells slots (lw_Z below #[Value.ref b] s) (F0 m 1070 ls []) := by
  obtain ⟨hx, hb, hml, hown, hts⟩ := E.1
  intro h0 x1 x2 x3 gc gs M H locs ls cells slots h w hl hg
  unfold B_L_law_1070 at h
  refine r_aload_n (x := x1) hx hb dL_law_1070 rfl (lh_at hl 1 rfl) ?_
  obtain ⟨a1, ea1, h⟩ := h
  obtain ⟨ho2, h⟩ := h
  refine z_callVi E w ea1 ho2 cl_X5 yk_X5_found ⟨Nat.le_of_ble_eq_true rfl, Nat.le_of_ble_eq_true rfl⟩ ⟨(show cells ≤ 600000 by omega), (show slots ≤ 7302249 by omega)⟩ rfl ml_L_116 im_X5_found sl_X5_found [] rfl rfl hl [] rfl (Nat.le_of_ble_eq_true rfl) (K_X5_found h) dL_law_1071 (fun r4 M3 H locs h w => ?_)
  refine r_aload_n (x := x2) hx hb dL_law_1074 rfl (lh_at hl 2 rfl) ?_
  obtain ⟨a5, ea5, h⟩ := h
  obtain ⟨ho6, h⟩ := h
  refine z_callVi E w ea5 ho6 cl_X6 yk_X6_found ⟨Nat.le_of_ble_eq_true rfl, Nat.le_of_ble_eq_true rfl⟩ ⟨(show cells ≤ 600000 by omega), (show slots ≤ 7302249 by omega)⟩ rfl ml_L_119 im_X6_found sl_X6_found [] rfl rfl hl [iv r4] rfl (Nat.le_of_ble_eq_true rfl) (K_X6_found h) dL_law_1075 (fun r8 M7 H locs h w => ?_)
  refine lv_icmp_eq (tgt := 1211) hx hb dL_law_1078 (by decide) (fun c9 => ?_) (fun c9 => ?_)
  · have h := h.1 c9
    refine r_iinc (k := 3) (x := x3) (v := (x3 + 7)) (lv' := [(3, iv (x3 + 7)), (0, rv (some h0)), (1, rv x1), (2, rv x2)]) hx hb dL_law_1211 hl rfl rfl (by decide) rfl (fun ls hl => ?_)
    refine lv_goto (tgt := 18) hx hb dL_law_1214 (by decide) ?_
    exact hK18 _ _ _ _ _ _ _ _ _ _ _ _ h w (lh_sub hl [1, 2, 3, 0] rfl) hg
  · have h := h.2 c9
    refine lv_iconst (v := (0 : Int32)) hx hb dL_law_1081 (by decide) ?_
    exact r_lawret E w hr hlk h (show cells ≤ 600000 by omega) (show slots ≤ 7302249 by omega) dL_law_1082
def B_L_law_1062 (b L : Nat) (xs : Nat → Int32) (K18 : Nat → Option Nat → Option Nat → Int32 → Nat → Nat → Mm → Prop) (h0 : Nat) (x1 : Option Nat) (x2 : Option Nat) (x3 : Int32) (s0 : Int32) (s1 : Option Nat) (s2 : Int32) (gc : Nat) (gs : Nat) (M : Mm) : Prop := (∃ a1, s1 = some a1 ∧ (ok M a1 6 ∧ (B_X6_rerun_0 (fun r4 M3 => ((s0 = r4 → K18 h0 x1 x2 (x3 + 7) gc gs M3) ∧ (¬ s0 = r4 → (0 : Int32) = 1))) a1 s2 M)))
set_option maxHeartbeats 4000000 in
set_option maxRecDepth 100000 in
theorem k_L_law_1062 {p : Program} {l : Launch} {e : Env} {s : State} {m : MethodId} {below : List Frame} {meth : Method} {c : Code} {D : va_G} {cy : Nat → ClassId} {b L : Nat} {xs : Nat → Int32} (E : Ex p m c cL_law 4 s #[Value.ref b] RL D cy (fun q : Nat => s.heap.size ≤ q)) (hr : meth.sig.returnType = ret) (hlk : meth.locks = false) (hX : va_X b L xs s s.heap) (hbl : b < s.heap.size) {K18 : Nat → Option Nat → Option Nat → Int32 → Nat → Nat → Mm → Prop} (hK18 : ∀ (h0 : Nat) (x1 : Option Nat) (x2 : Option Nat) (x3 : Int32) (gc : Nat) (gs : Nat) (M : Mm) (H : Heap) (locs : List Loc) (ls : Array Slot) (cells slots : Nat), K18 h0 x1 x2 x3 gc gs M → Wd D cy (fun q : Nat => s.heap.size ≤ q) s M H locs → lh ls 4 [(0, rv (some h0)), (1, rv x1), (2, rv x2), (3, iv x3)] → cells + gc ≤ 600000 ∧ slots + gs ≤ 7302249 → W p l e room_1 s m #[Value.ref b] below meth c H locs cells slots (lw_Z below #[Value.ref b] s) (F0 m 18 ls [])) : ∀ (h0 : Nat) (x1 : Option Nat) (x2 : Option Nat) (x3 : Int32) (s0 : Int32) (s1 : Option Nat) (s2 : Int32) (gc : Nat) (gs : Nat) (M : Mm) (H : Heap) (locs : List Loc) (ls : Array Slot) (cells slots : Nat), B_L_law_1062 b L xs K18 h0 x1 x2 x3 s0 s1 s2 gc gs M → Wd D cy (fun q : Nat => s.heap.size ≤ q) s M H locs → lh ls 4 [(0, rv (some h0)), (1, rv x1), (2, rv x2), (3, iv x3)] → cells + gc ≤ 600000 ∧ slots + gs ≤ 7302249 → W p l e room_1 s m #[Value.ref b] below meth c H locs cells slots (lw_Z below #[Value.ref b] s) (F0 m 1062 ls [.int s2, va_rf s1, .int s0]) := by
  obtain ⟨hx, hb, hml, hown, hts⟩ := E.1
  intro h0 x1 x2 x3 s0 s1 s2 gc gs M H locs ls cells slots h w hl hg
  unfold B_L_law_1062 at h
  obtain ⟨a1, ea1, h⟩ := h
  obtain ⟨ho2, h⟩ := h
  refine z_callVi E w ea1 ho2 cl_X6 yk_X6_rerun ⟨Nat.le_of_ble_eq_true rfl, Nat.le_of_ble_eq_true rfl⟩ ⟨(show cells ≤ 600000 by omega), (show slots ≤ 7302249 by omega)⟩ rfl ml_L_115 im_X6_rerun sl_X6_rerun [iv s2] rfl rfl hl [iv s0] rfl (Nat.le_of_ble_eq_true rfl) (K_X6_rerun h) dL_law_1062 (fun r4 M3 H locs h w => ?_)
  refine lv_icmp_eq (tgt := 1211) hx hb dL_law_1065 (by decide) (fun c5 => ?_) (fun c5 => ?_)
  · have h := h.1 c5
    refine r_iinc (k := 3) (x := x3) (v := (x3 + 7)) (lv' := [(3, iv (x3 + 7)), (0, rv (some h0)), (1, rv x1), (2, rv x2)]) hx hb dL_law_1211 hl rfl rfl (by decide) rfl (fun ls hl => ?_)
    refine lv_goto (tgt := 18) hx hb dL_law_1214 (by decide) ?_
    exact hK18 _ _ _ _ _ _ _ _ _ _ _ _ h w (lh_sub hl [1, 2, 3, 0] rfl) hg
  · have h := h.2 c5
    refine lv_iconst (v := (0 : Int32)) hx hb dL_law_1068 (by decide) ?_
    exact r_lawret E w hr hlk h (show cells ≤ 600000 by omega) (show slots ≤ 7302249 by omega) dL_law_1069
def B_L_law_1045 (b L : Nat) (xs : Nat → Int32) (K18 : Nat → Option Nat → Option Nat → Int32 → Nat → Nat → Mm → Prop) (h0 : Nat) (x1 : Option Nat) (x2 : Option Nat) (x3 : Int32) (s0 : Option Nat) (s1 : Int32) (gc : Nat) (gs : Nat) (M : Mm) : Prop := (∃ a1, s0 = some a1 ∧ (ok M a1 5 ∧ (B_X5_rerun_0 (fun r4 M3 => (h0 = b ∧ vp_in (x3 + (1 : Int32)) L ∧ (((xs (Int32.toNatClampNeg (x3 + (1 : Int32)))) = 0 → B_L_law_1062 b L xs K18 h0 x1 x2 x3 r4 x2 (0 : Int32) gc gs M3) ∧ (¬ (xs (Int32.toNatClampNeg (x3 + (1 : Int32)))) = 0 → B_L_law_1062 b L xs K18 h0 x1 x2 x3 r4 x2 (1 : Int32) gc gs M3)))) a1 s1 M)))
set_option maxHeartbeats 4000000 in
set_option maxRecDepth 100000 in
theorem k_L_law_1045 {p : Program} {l : Launch} {e : Env} {s : State} {m : MethodId} {below : List Frame} {meth : Method} {c : Code} {D : va_G} {cy : Nat → ClassId} {b L : Nat} {xs : Nat → Int32} (E : Ex p m c cL_law 4 s #[Value.ref b] RL D cy (fun q : Nat => s.heap.size ≤ q)) (hr : meth.sig.returnType = ret) (hlk : meth.locks = false) (hX : va_X b L xs s s.heap) (hbl : b < s.heap.size) {K18 : Nat → Option Nat → Option Nat → Int32 → Nat → Nat → Mm → Prop} (hK18 : ∀ (h0 : Nat) (x1 : Option Nat) (x2 : Option Nat) (x3 : Int32) (gc : Nat) (gs : Nat) (M : Mm) (H : Heap) (locs : List Loc) (ls : Array Slot) (cells slots : Nat), K18 h0 x1 x2 x3 gc gs M → Wd D cy (fun q : Nat => s.heap.size ≤ q) s M H locs → lh ls 4 [(0, rv (some h0)), (1, rv x1), (2, rv x2), (3, iv x3)] → cells + gc ≤ 600000 ∧ slots + gs ≤ 7302249 → W p l e room_1 s m #[Value.ref b] below meth c H locs cells slots (lw_Z below #[Value.ref b] s) (F0 m 18 ls [])) : ∀ (h0 : Nat) (x1 : Option Nat) (x2 : Option Nat) (x3 : Int32) (s0 : Option Nat) (s1 : Int32) (gc : Nat) (gs : Nat) (M : Mm) (H : Heap) (locs : List Loc) (ls : Array Slot) (cells slots : Nat), B_L_law_1045 b L xs K18 h0 x1 x2 x3 s0 s1 gc gs M → Wd D cy (fun q : Nat => s.heap.size ≤ q) s M H locs → lh ls 4 [(0, rv (some h0)), (1, rv x1), (2, rv x2), (3, iv x3)] → cells + gc ≤ 600000 ∧ slots + gs ≤ 7302249 → W p l e room_1 s m #[Value.ref b] below meth c H locs cells slots (lw_Z below #[Value.ref b] s) (F0 m 1045 ls [.int s1, va_rf s0]) := by
  obtain ⟨hx, hb, hml, hown, hts⟩ := E.1
  intro h0 x1 x2 x3 s0 s1 gc gs M H locs ls cells slots h w hl hg
  unfold B_L_law_1045 at h
  obtain ⟨a1, ea1, h⟩ := h
  obtain ⟨ho2, h⟩ := h
  refine z_callVi E w ea1 ho2 cl_X5 yk_X5_rerun ⟨Nat.le_of_ble_eq_true rfl, Nat.le_of_ble_eq_true rfl⟩ ⟨(show cells ≤ 600000 by omega), (show slots ≤ 7302249 by omega)⟩ rfl ml_L_111 im_X5_rerun sl_X5_rerun [iv s1] rfl rfl hl [] rfl (Nat.le_of_ble_eq_true rfl) (K_X5_rerun h) dL_law_1045 (fun r4 M3 H locs h w => ?_)
  refine r_aload_n (x := x2) hx hb dL_law_1048 rfl (lh_at hl 2 rfl) ?_
  refine r_aload_n (x := (some h0)) hx hb dL_law_1049 rfl (lh_at hl 0 rfl) ?_
  refine lv_iload_n (x := x3) hx hb dL_law_1050 rfl (lh_at hl 3 rfl) ?_
  refine lv_iconst (v := (1 : Int32)) hx hb dL_law_1051 (by decide) ?_
  refine lv_iadd hx hb dL_law_1052 ?_
  obtain ⟨hs5, hs5i, h⟩ := h
  refine r_sld E w (hxa := by rw [hs5]) hX hbl hs5i dL_law_1053 ?_
  refine lv_if_eq (tgt := 1061) hx hb dL_law_1054 (by decide) (fun c6 => ?_) (fun c6 => ?_)
  · have h := h.1 c6
    refine lv_iconst (v := (0 : Int32)) hx hb dL_law_1061 (by decide) ?_
    exact k_L_law_1062 E hr hlk hX hbl hK18 _ _ _ _ _ _ _ _ _ _ _ _ _ _ _ h w (lh_sub hl [0, 1, 2, 3] rfl) hg
  · have h := h.2 c6
    refine lv_iconst (v := (1 : Int32)) hx hb dL_law_1057 (by decide) ?_
    refine lv_goto (tgt := 1062) hx hb dL_law_1058 (by decide) ?_
    exact k_L_law_1062 E hr hlk hX hbl hK18 _ _ _ _ _ _ _ _ _ _ _ _ _ _ _ h w (lh_sub hl [0, 1, 2, 3] rfl) hg
def B_L_law_1031 (b L : Nat) (xs : Nat → Int32) (K18 : Nat → Option Nat → Option Nat → Int32 → Nat → Nat → Mm → Prop) (h0 : Nat) (x1 : Option Nat) (x2 : Option Nat) (x3 : Int32) (gc : Nat) (gs : Nat) (M : Mm) : Prop := (h0 = b ∧ vp_in (x3 + (1 : Int32)) L ∧ (((xs (Int32.toNatClampNeg (x3 + (1 : Int32)))) = 0 → B_L_law_1045 b L xs K18 h0 x1 x2 x3 x1 (0 : Int32) gc gs M) ∧ (¬ (xs (Int32.toNatClampNeg (x3 + (1 : Int32)))) = 0 → B_L_law_1045 b L xs K18 h0 x1 x2 x3 x1 (1 : Int32) gc gs M)))
set_option maxHeartbeats 4000000 in
set_option maxRecDepth 100000 in
theorem k_L_law_1031 {p : Program} {l : Launch} {e : Env} {s : State} {m : MethodId} {below : List Frame} {meth : Method} {c : Code} {D : va_G} {cy : Nat → ClassId} {b L : Nat} {xs : Nat → Int32} (E : Ex p m c cL_law 4 s #[Value.ref b] RL D cy (fun q : Nat => s.heap.size ≤ q)) (hr : meth.sig.returnType = ret) (hlk : meth.locks = false) (hX : va_X b L xs s s.heap) (hbl : b < s.heap.size) {K18 : Nat → Option Nat → Option Nat → Int32 → Nat → Nat → Mm → Prop} (hK18 : ∀ (h0 : Nat) (x1 : Option Nat) (x2 : Option Nat) (x3 : Int32) (gc : Nat) (gs : Nat) (M : Mm) (H : Heap) (locs : List Loc) (ls : Array Slot) (cells slots : Nat), K18 h0 x1 x2 x3 gc gs M → Wd D cy (fun q : Nat => s.heap.size ≤ q) s M H locs → lh ls 4 [(0, rv (some h0)), (1, rv x1), (2, rv x2), (3, iv x3)] → cells + gc ≤ 600000 ∧ slots + gs ≤ 7302249 → W p l e room_1 s m #[Value.ref b] below meth c H locs cells slots (lw_Z below #[Value.ref b] s) (F0 m 18 ls [])) : ∀ (h0 : Nat) (x1 : Option Nat) (x2 : Option Nat) (x3 : Int32) (gc : Nat) (gs : Nat) (M : Mm) (H : Heap) (locs : List Loc) (ls : Array Slot) (cells slots : Nat), B_L_law_1031 b L xs K18 h0 x1 x2 x3 gc gs M → Wd D cy (fun q : Nat => s.heap.size ≤ q) s M H locs → lh ls 4 [(0, rv (some h0)), (1, rv x1), (2, rv x2), (3, iv x3)] → cells + gc ≤ 600000 ∧ slots + gs ≤ 7302249 → W p l e room_1 s m #[Value.ref b] below meth c H locs cells slots (lw_Z below #[Value.ref b] s) (F0 m 1031 ls []) := by
  obtain ⟨hx, hb, hml, hown, hts⟩ := E.1
  intro h0 x1 x2 x3 gc gs M H locs ls cells slots h w hl hg
  unfold B_L_law_1031 at h
  refine r_aload_n (x := x1) hx hb dL_law_1031 rfl (lh_at hl 1 rfl) ?_
  refine r_aload_n (x := (some h0)) hx hb dL_law_1032 rfl (lh_at hl 0 rfl) ?_
  refine lv_iload_n (x := x3) hx hb dL_law_1033 rfl (lh_at hl 3 rfl) ?_
  refine lv_iconst (v := (1 : Int32)) hx hb dL_law_1034 (by decide) ?_
  refine lv_iadd hx hb dL_law_1035 ?_
  obtain ⟨hs1, hs1i, h⟩ := h
  refine r_sld E w (hxa := by rw [hs1]) hX hbl hs1i dL_law_1036 ?_
  refine lv_if_eq (tgt := 1044) hx hb dL_law_1037 (by decide) (fun c2 => ?_) (fun c2 => ?_)
  · have h := h.1 c2
    refine lv_iconst (v := (0 : Int32)) hx hb dL_law_1044 (by decide) ?_
    exact k_L_law_1045 E hr hlk hX hbl hK18 _ _ _ _ _ _ _ _ _ _ _ _ _ _ h w (lh_sub hl [0, 1, 2, 3] rfl) hg
  · have h := h.2 c2
    refine lv_iconst (v := (1 : Int32)) hx hb dL_law_1040 (by decide) ?_
    refine lv_goto (tgt := 1045) hx hb dL_law_1041 (by decide) ?_
    exact k_L_law_1045 E hr hlk hX hbl hK18 _ _ _ _ _ _ _ _ _ _ _ _ _ _ h w (lh_sub hl [0, 1, 2, 3] rfl) hg
def B_L_law_1018 (b L : Nat) (xs : Nat → Int32) (K18 : Nat → Option Nat → Option Nat → Int32 → Nat → Nat → Mm → Prop) (h0 : Nat) (x1 : Option Nat) (x2 : Option Nat) (x3 : Int32) (gc : Nat) (gs : Nat) (M : Mm) : Prop := (∃ a1, x1 = some a1 ∧ (ok M a1 5 ∧ (B_X5_asks_0 (fun r4 M3 => (∃ a5, x2 = some a5 ∧ (ok M3 a5 6 ∧ (B_X6_asks_0 (fun r8 M7 => ((r4 = r8 → K18 h0 x1 x2 (x3 + 7) gc gs M7) ∧ (¬ r4 = r8 → (0 : Int32) = 1))) a5  M3)))) a1  M)))
set_option maxHeartbeats 4000000 in
set_option maxRecDepth 100000 in
theorem k_L_law_1018 {p : Program} {l : Launch} {e : Env} {s : State} {m : MethodId} {below : List Frame} {meth : Method} {c : Code} {D : va_G} {cy : Nat → ClassId} {b L : Nat} {xs : Nat → Int32} (E : Ex p m c cL_law 4 s #[Value.ref b] RL D cy (fun q : Nat => s.heap.size ≤ q)) (hr : meth.sig.returnType = ret) (hlk : meth.locks = false) (hX : va_X b L xs s s.heap) (hbl : b < s.heap.size) {K18 : Nat → Option Nat → Option Nat → Int32 → Nat → Nat → Mm → Prop} (hK18 : ∀ (h0 : Nat) (x1 : Option Nat) (x2 : Option Nat) (x3 : Int32) (gc : Nat) (gs : Nat) (M : Mm) (H : Heap) (locs : List Loc) (ls : Array Slot) (cells slots : Nat), K18 h0 x1 x2 x3 gc gs M → Wd D cy (fun q : Nat => s.heap.size ≤ q) s M H locs → lh ls 4 [(0, rv (some h0)), (1, rv x1), (2, rv x2), (3, iv x3)] → cells + gc ≤ 600000 ∧ slots + gs ≤ 7302249 → W p l e room_1 s m #[Value.ref b] below meth c H locs cells slots (lw_Z below #[Value.ref b] s) (F0 m 18 ls [])) : ∀ (h0 : Nat) (x1 : Option Nat) (x2 : Option Nat) (x3 : Int32) (gc : Nat) (gs : Nat) (M : Mm) (H : Heap) (locs : List Loc) (ls : Array Slot) (cells slots : Nat), B_L_law_1018 b L xs K18 h0 x1 x2 x3 gc gs M → Wd D cy (fun q : Nat => s.heap.size ≤ q) s M H locs → lh ls 4 [(0, rv (some h0)), (1, rv x1), (2, rv x2), (3, iv x3)] → cells + gc ≤ 600000 ∧ slots + gs ≤ 7302249 → W p l e room_1 s m #[Value.ref b] below meth c H locs cells slots (lw_Z below #[Value.ref b] s) (F0 m 1018 ls []) := by
  obtain ⟨hx, hb, hml, hown, hts⟩ := E.1
  intro h0 x1 x2 x3 gc gs M H locs ls cells slots h w hl hg
  unfold B_L_law_1018 at h
  refine r_aload_n (x := x1) hx hb dL_law_1018 rfl (lh_at hl 1 rfl) ?_
  obtain ⟨a1, ea1, h⟩ := h
  obtain ⟨ho2, h⟩ := h
  refine z_callVi E w ea1 ho2 cl_X5 yk_X5_asks ⟨Nat.le_of_ble_eq_true rfl, Nat.le_of_ble_eq_true rfl⟩ ⟨(show cells ≤ 600000 by omega), (show slots ≤ 7302249 by omega)⟩ rfl ml_L_106 im_X5_asks sl_X5_asks [] rfl rfl hl [] rfl (Nat.le_of_ble_eq_true rfl) (K_X5_asks h) dL_law_1019 (fun r4 M3 H locs h w => ?_)
  refine r_aload_n (x := x2) hx hb dL_law_1022 rfl (lh_at hl 2 rfl) ?_
  obtain ⟨a5, ea5, h⟩ := h
  obtain ⟨ho6, h⟩ := h
  refine z_callVi E w ea5 ho6 cl_X6 yk_X6_asks ⟨Nat.le_of_ble_eq_true rfl, Nat.le_of_ble_eq_true rfl⟩ ⟨(show cells ≤ 600000 by omega), (show slots ≤ 7302249 by omega)⟩ rfl ml_L_110 im_X6_asks sl_X6_asks [] rfl rfl hl [iv r4] rfl (Nat.le_of_ble_eq_true rfl) (K_X6_asks h) dL_law_1023 (fun r8 M7 H locs h w => ?_)
  refine lv_icmp_eq (tgt := 1211) hx hb dL_law_1026 (by decide) (fun c9 => ?_) (fun c9 => ?_)
  · have h := h.1 c9
    refine r_iinc (k := 3) (x := x3) (v := (x3 + 7)) (lv' := [(3, iv (x3 + 7)), (0, rv (some h0)), (1, rv x1), (2, rv x2)]) hx hb dL_law_1211 hl rfl rfl (by decide) rfl (fun ls hl => ?_)
    refine lv_goto (tgt := 18) hx hb dL_law_1214 (by decide) ?_
    exact hK18 _ _ _ _ _ _ _ _ _ _ _ _ h w (lh_sub hl [1, 2, 3, 0] rfl) hg
  · have h := h.2 c9
    refine lv_iconst (v := (0 : Int32)) hx hb dL_law_1029 (by decide) ?_
    exact r_lawret E w hr hlk h (show cells ≤ 600000 by omega) (show slots ≤ 7302249 by omega) dL_law_1030
def B_L_law_975 (b L : Nat) (xs : Nat → Int32) (K18 : Nat → Option Nat → Option Nat → Int32 → Nat → Nat → Mm → Prop) (h0 : Nat) (x1 : Option Nat) (x2 : Option Nat) (x3 : Int32) (gc : Nat) (gs : Nat) (M : Mm) : Prop := (h0 = b ∧ vp_in (x3 + (1 : Int32)) L ∧ (h0 = b ∧ vp_in (x3 + (2 : Int32)) L ∧ (h0 = b ∧ vp_in (x3 + (3 : Int32)) L ∧ (∃ a4, x1 = some a4 ∧ (ok M a4 5 ∧ (B_X5_halve_0 (fun r7 M6 => (h0 = b ∧ vp_in (x3 + (1 : Int32)) L ∧ (h0 = b ∧ vp_in (x3 + (2 : Int32)) L ∧ (h0 = b ∧ vp_in (x3 + (3 : Int32)) L ∧ (∃ a11, x2 = some a11 ∧ (ok M6 a11 6 ∧ (B_X6_halve_0 (fun r14 M13 => ((r7 = r14 → K18 h0 x1 x2 (x3 + 7) gc gs M13) ∧ (¬ r7 = r14 → (0 : Int32) = 1))) a11 (xs (Int32.toNatClampNeg (x3 + (1 : Int32)))) (xs (Int32.toNatClampNeg (x3 + (2 : Int32)))) (xs (Int32.toNatClampNeg (x3 + (3 : Int32)))) M6))))))) a4 (xs (Int32.toNatClampNeg (x3 + (1 : Int32)))) (xs (Int32.toNatClampNeg (x3 + (2 : Int32)))) (xs (Int32.toNatClampNeg (x3 + (3 : Int32)))) M))))))
set_option maxHeartbeats 4000000 in
set_option maxRecDepth 100000 in
theorem k_L_law_975 {p : Program} {l : Launch} {e : Env} {s : State} {m : MethodId} {below : List Frame} {meth : Method} {c : Code} {D : va_G} {cy : Nat → ClassId} {b L : Nat} {xs : Nat → Int32} (E : Ex p m c cL_law 4 s #[Value.ref b] RL D cy (fun q : Nat => s.heap.size ≤ q)) (hr : meth.sig.returnType = ret) (hlk : meth.locks = false) (hX : va_X b L xs s s.heap) (hbl : b < s.heap.size) {K18 : Nat → Option Nat → Option Nat → Int32 → Nat → Nat → Mm → Prop} (hK18 : ∀ (h0 : Nat) (x1 : Option Nat) (x2 : Option Nat) (x3 : Int32) (gc : Nat) (gs : Nat) (M : Mm) (H : Heap) (locs : List Loc) (ls : Array Slot) (cells slots : Nat), K18 h0 x1 x2 x3 gc gs M → Wd D cy (fun q : Nat => s.heap.size ≤ q) s M H locs → lh ls 4 [(0, rv (some h0)), (1, rv x1), (2, rv x2), (3, iv x3)] → cells + gc ≤ 600000 ∧ slots + gs ≤ 7302249 → W p l e room_1 s m #[Value.ref b] below meth c H locs cells slots (lw_Z below #[Value.ref b] s) (F0 m 18 ls [])) : ∀ (h0 : Nat) (x1 : Option Nat) (x2 : Option Nat) (x3 : Int32) (gc : Nat) (gs : Nat) (M : Mm) (H : Heap) (locs : List Loc) (ls : Array Slot) (cells slots : Nat), B_L_law_975 b L xs K18 h0 x1 x2 x3 gc gs M → Wd D cy (fun q : Nat => s.heap.size ≤ q) s M H locs → lh ls 4 [(0, rv (some h0)), (1, rv x1), (2, rv x2), (3, iv x3)] → cells + gc ≤ 600000 ∧ slots + gs ≤ 7302249 → W p l e room_1 s m #[Value.ref b] below meth c H locs cells slots (lw_Z below #[Value.ref b] s) (F0 m 975 ls []) := by
  obtain ⟨hx, hb, hml, hown, hts⟩ := E.1
  intro h0 x1 x2 x3 gc gs M H locs ls cells slots h w hl hg
  unfold B_L_law_975 at h
  refine r_aload_n (x := x1) hx hb dL_law_975 rfl (lh_at hl 1 rfl) ?_
  refine r_aload_n (x := (some h0)) hx hb dL_law_976 rfl (lh_at hl 0 rfl) ?_
  refine lv_iload_n (x := x3) hx hb dL_law_977 rfl (lh_at hl 3 rfl) ?_
  refine lv_iconst (v := (1 : Int32)) hx hb dL_law_978 (by decide) ?_
  refine lv_iadd hx hb dL_law_979 ?_
  obtain ⟨hs1, hs1i, h⟩ := h
  refine r_sld E w (hxa := by rw [hs1]) hX hbl hs1i dL_law_980 ?_
  refine r_aload_n (x := (some h0)) hx hb dL_law_981 rfl (lh_at hl 0 rfl) ?_
  refine lv_iload_n (x := x3) hx hb dL_law_982 rfl (lh_at hl 3 rfl) ?_
  refine lv_iconst (v := (2 : Int32)) hx hb dL_law_983 (by decide) ?_
  refine lv_iadd hx hb dL_law_984 ?_
  obtain ⟨hs2, hs2i, h⟩ := h
  refine r_sld E w (hxa := by rw [hs2]) hX hbl hs2i dL_law_985 ?_
  refine r_aload_n (x := (some h0)) hx hb dL_law_986 rfl (lh_at hl 0 rfl) ?_
  refine lv_iload_n (x := x3) hx hb dL_law_987 rfl (lh_at hl 3 rfl) ?_
  refine lv_iconst (v := (3 : Int32)) hx hb dL_law_988 (by decide) ?_
  refine lv_iadd hx hb dL_law_989 ?_
  obtain ⟨hs3, hs3i, h⟩ := h
  refine r_sld E w (hxa := by rw [hs3]) hX hbl hs3i dL_law_990 ?_
  obtain ⟨a4, ea4, h⟩ := h
  obtain ⟨ho5, h⟩ := h
  refine z_callVi E w ea4 ho5 cl_X5 yk_X5_halve ⟨Nat.le_of_ble_eq_true rfl, Nat.le_of_ble_eq_true rfl⟩ ⟨(show cells ≤ 600000 by omega), (show slots ≤ 7302249 by omega)⟩ rfl ml_L_102 im_X5_halve sl_X5_halve [iv (xs (Int32.toNatClampNeg (x3 + (1 : Int32)))), iv (xs (Int32.toNatClampNeg (x3 + (2 : Int32)))), iv (xs (Int32.toNatClampNeg (x3 + (3 : Int32))))] rfl rfl hl [] rfl (Nat.le_of_ble_eq_true rfl) (K_X5_halve h) dL_law_991 (fun r7 M6 H locs h w => ?_)
  refine r_aload_n (x := x2) hx hb dL_law_994 rfl (lh_at hl 2 rfl) ?_
  refine r_aload_n (x := (some h0)) hx hb dL_law_995 rfl (lh_at hl 0 rfl) ?_
  refine lv_iload_n (x := x3) hx hb dL_law_996 rfl (lh_at hl 3 rfl) ?_
  refine lv_iconst (v := (1 : Int32)) hx hb dL_law_997 (by decide) ?_
  refine lv_iadd hx hb dL_law_998 ?_
  obtain ⟨hs8, hs8i, h⟩ := h
  refine r_sld E w (hxa := by rw [hs8]) hX hbl hs8i dL_law_999 ?_
  refine r_aload_n (x := (some h0)) hx hb dL_law_1000 rfl (lh_at hl 0 rfl) ?_
  refine lv_iload_n (x := x3) hx hb dL_law_1001 rfl (lh_at hl 3 rfl) ?_
  refine lv_iconst (v := (2 : Int32)) hx hb dL_law_1002 (by decide) ?_
  refine lv_iadd hx hb dL_law_1003 ?_
  obtain ⟨hs9, hs9i, h⟩ := h
  refine r_sld E w (hxa := by rw [hs9]) hX hbl hs9i dL_law_1004 ?_
  refine r_aload_n (x := (some h0)) hx hb dL_law_1005 rfl (lh_at hl 0 rfl) ?_
  refine lv_iload_n (x := x3) hx hb dL_law_1006 rfl (lh_at hl 3 rfl) ?_
  refine lv_iconst (v := (3 : Int32)) hx hb dL_law_1007 (by decide) ?_
  refine lv_iadd hx hb dL_law_1008 ?_
  obtain ⟨hs10, hs10i, h⟩ := h
  refine r_sld E w (hxa := by rw [hs10]) hX hbl hs10i dL_law_1009 ?_
  obtain ⟨a11, ea11, h⟩ := h
  obtain ⟨ho12, h⟩ := h
  refine z_callVi E w ea11 ho12 cl_X6 yk_X6_halve ⟨Nat.le_of_ble_eq_true rfl, Nat.le_of_ble_eq_true rfl⟩ ⟨(show cells ≤ 600000 by omega), (show slots ≤ 7302249 by omega)⟩ rfl ml_L_105 im_X6_halve sl_X6_halve [iv (xs (Int32.toNatClampNeg (x3 + (1 : Int32)))), iv (xs (Int32.toNatClampNeg (x3 + (2 : Int32)))), iv (xs (Int32.toNatClampNeg (x3 + (3 : Int32))))] rfl rfl hl [iv r7] rfl (Nat.le_of_ble_eq_true rfl) (K_X6_halve h) dL_law_1010 (fun r14 M13 H locs h w => ?_)
  refine lv_icmp_eq (tgt := 1211) hx hb dL_law_1013 (by decide) (fun c15 => ?_) (fun c15 => ?_)
  · have h := h.1 c15
    refine r_iinc (k := 3) (x := x3) (v := (x3 + 7)) (lv' := [(3, iv (x3 + 7)), (0, rv (some h0)), (1, rv x1), (2, rv x2)]) hx hb dL_law_1211 hl rfl rfl (by decide) rfl (fun ls hl => ?_)
    refine lv_goto (tgt := 18) hx hb dL_law_1214 (by decide) ?_
    exact hK18 _ _ _ _ _ _ _ _ _ _ _ _ h w (lh_sub hl [1, 2, 3, 0] rfl) hg
  · have h := h.2 c15
    refine lv_iconst (v := (0 : Int32)) hx hb dL_law_1016 (by decide) ?_
    exact r_lawret E w hr hlk h (show cells ≤ 600000 by omega) (show slots ≤ 7302249 by omega) dL_law_1017
def B_L_law_952 (b L : Nat) (xs : Nat → Int32) (K18 : Nat → Option Nat → Option Nat → Int32 → Nat → Nat → Mm → Prop) (h0 : Nat) (x1 : Option Nat) (x2 : Option Nat) (x3 : Int32) (gc : Nat) (gs : Nat) (M : Mm) : Prop := (h0 = b ∧ vp_in (x3 + (1 : Int32)) L ∧ (∃ a2, x1 = some a2 ∧ (ok M a2 5 ∧ (B_X5_cried_0 (fun r5 M4 => (h0 = b ∧ vp_in (x3 + (1 : Int32)) L ∧ (∃ a7, x2 = some a7 ∧ (ok M4 a7 6 ∧ (B_X6_cried_0 (fun r10 M9 => ((r5 = r10 → K18 h0 x1 x2 (x3 + 7) gc gs M9) ∧ (¬ r5 = r10 → (0 : Int32) = 1))) a7 (xs (Int32.toNatClampNeg (x3 + (1 : Int32)))) M4))))) a2 (xs (Int32.toNatClampNeg (x3 + (1 : Int32)))) M))))
set_option maxHeartbeats 4000000 in
set_option maxRecDepth 100000 in
theorem k_L_law_952 {p : Program} {l : Launch} {e : Env} {s : State} {m : MethodId} {below : List Frame} {meth : Method} {c : Code} {D : va_G} {cy : Nat → ClassId} {b L : Nat} {xs : Nat → Int32} (E : Ex p m c cL_law 4 s #[Value.ref b] RL D cy (fun q : Nat => s.heap.size ≤ q)) (hr : meth.sig.returnType = ret) (hlk : meth.locks = false) (hX : va_X b L xs s s.heap) (hbl : b < s.heap.size) {K18 : Nat → Option Nat → Option Nat → Int32 → Nat → Nat → Mm → Prop} (hK18 : ∀ (h0 : Nat) (x1 : Option Nat) (x2 : Option Nat) (x3 : Int32) (gc : Nat) (gs : Nat) (M : Mm) (H : Heap) (locs : List Loc) (ls : Array Slot) (cells slots : Nat), K18 h0 x1 x2 x3 gc gs M → Wd D cy (fun q : Nat => s.heap.size ≤ q) s M H locs → lh ls 4 [(0, rv (some h0)), (1, rv x1), (2, rv x2), (3, iv x3)] → cells + gc ≤ 600000 ∧ slots + gs ≤ 7302249 → W p l e room_1 s m #[Value.ref b] below meth c H locs cells slots (lw_Z below #[Value.ref b] s) (F0 m 18 ls [])) : ∀ (h0 : Nat) (x1 : Option Nat) (x2 : Option Nat) (x3 : Int32) (gc : Nat) (gs : Nat) (M : Mm) (H : Heap) (locs : List Loc) (ls : Array Slot) (cells slots : Nat), B_L_law_952 b L xs K18 h0 x1 x2 x3 gc gs M → Wd D cy (fun q : Nat => s.heap.size ≤ q) s M H locs → lh ls 4 [(0, rv (some h0)), (1, rv x1), (2, rv x2), (3, iv x3)] → cells + gc ≤ 600000 ∧ slots + gs ≤ 7302249 → W p l e room_1 s m #[Value.ref b] below meth c H locs cells slots (lw_Z below #[Value.ref b] s) (F0 m 952 ls []) := by
  obtain ⟨hx, hb, hml, hown, hts⟩ := E.1
  intro h0 x1 x2 x3 gc gs M H locs ls cells slots h w hl hg
  unfold B_L_law_952 at h
  refine r_aload_n (x := x1) hx hb dL_law_952 rfl (lh_at hl 1 rfl) ?_
  refine r_aload_n (x := (some h0)) hx hb dL_law_953 rfl (lh_at hl 0 rfl) ?_
  refine lv_iload_n (x := x3) hx hb dL_law_954 rfl (lh_at hl 3 rfl) ?_
  refine lv_iconst (v := (1 : Int32)) hx hb dL_law_955 (by decide) ?_
  refine lv_iadd hx hb dL_law_956 ?_
  obtain ⟨hs1, hs1i, h⟩ := h
  refine r_sld E w (hxa := by rw [hs1]) hX hbl hs1i dL_law_957 ?_
  obtain ⟨a2, ea2, h⟩ := h
  obtain ⟨ho3, h⟩ := h
  refine z_callVi E w ea2 ho3 cl_X5 yk_X5_cried ⟨Nat.le_of_ble_eq_true rfl, Nat.le_of_ble_eq_true rfl⟩ ⟨(show cells ≤ 600000 by omega), (show slots ≤ 7302249 by omega)⟩ rfl ml_L_98 im_X5_cried sl_X5_cried [iv (xs (Int32.toNatClampNeg (x3 + (1 : Int32))))] rfl rfl hl [] rfl (Nat.le_of_ble_eq_true rfl) (K_X5_cried h) dL_law_958 (fun r5 M4 H locs h w => ?_)
  refine r_aload_n (x := x2) hx hb dL_law_961 rfl (lh_at hl 2 rfl) ?_
  refine r_aload_n (x := (some h0)) hx hb dL_law_962 rfl (lh_at hl 0 rfl) ?_
  refine lv_iload_n (x := x3) hx hb dL_law_963 rfl (lh_at hl 3 rfl) ?_
  refine lv_iconst (v := (1 : Int32)) hx hb dL_law_964 (by decide) ?_
  refine lv_iadd hx hb dL_law_965 ?_
  obtain ⟨hs6, hs6i, h⟩ := h
  refine r_sld E w (hxa := by rw [hs6]) hX hbl hs6i dL_law_966 ?_
  obtain ⟨a7, ea7, h⟩ := h
  obtain ⟨ho8, h⟩ := h
  refine z_callVi E w ea7 ho8 cl_X6 yk_X6_cried ⟨Nat.le_of_ble_eq_true rfl, Nat.le_of_ble_eq_true rfl⟩ ⟨(show cells ≤ 600000 by omega), (show slots ≤ 7302249 by omega)⟩ rfl ml_L_101 im_X6_cried sl_X6_cried [iv (xs (Int32.toNatClampNeg (x3 + (1 : Int32))))] rfl rfl hl [iv r5] rfl (Nat.le_of_ble_eq_true rfl) (K_X6_cried h) dL_law_967 (fun r10 M9 H locs h w => ?_)
  refine lv_icmp_eq (tgt := 1211) hx hb dL_law_970 (by decide) (fun c11 => ?_) (fun c11 => ?_)
  · have h := h.1 c11
    refine r_iinc (k := 3) (x := x3) (v := (x3 + 7)) (lv' := [(3, iv (x3 + 7)), (0, rv (some h0)), (1, rv x1), (2, rv x2)]) hx hb dL_law_1211 hl rfl rfl (by decide) rfl (fun ls hl => ?_)
    refine lv_goto (tgt := 18) hx hb dL_law_1214 (by decide) ?_
    exact hK18 _ _ _ _ _ _ _ _ _ _ _ _ h w (lh_sub hl [1, 2, 3, 0] rfl) hg
  · have h := h.2 c11
    refine lv_iconst (v := (0 : Int32)) hx hb dL_law_973 (by decide) ?_
    exact r_lawret E w hr hlk h (show cells ≤ 600000 by omega) (show slots ≤ 7302249 by omega) dL_law_974
def B_L_law_909 (b L : Nat) (xs : Nat → Int32) (K18 : Nat → Option Nat → Option Nat → Int32 → Nat → Nat → Mm → Prop) (h0 : Nat) (x1 : Option Nat) (x2 : Option Nat) (x3 : Int32) (gc : Nat) (gs : Nat) (M : Mm) : Prop := (h0 = b ∧ vp_in (x3 + (1 : Int32)) L ∧ (h0 = b ∧ vp_in (x3 + (2 : Int32)) L ∧ (h0 = b ∧ vp_in (x3 + (3 : Int32)) L ∧ (∃ a4, x1 = some a4 ∧ (ok M a4 5 ∧ (∃ b8 b8s : Nat, b8 ≤ gc ∧ b8s ≤ gs ∧ (B_X5_cry_0 (fun r7 M6 => (h0 = b ∧ vp_in (x3 + (1 : Int32)) L ∧ (h0 = b ∧ vp_in (x3 + (2 : Int32)) L ∧ (h0 = b ∧ vp_in (x3 + (3 : Int32)) L ∧ (∃ a12, x2 = some a12 ∧ (ok M6 a12 6 ∧ (B_X6_cry_0 (fun r15 M14 => ((r7 = r15 → K18 h0 x1 x2 (x3 + 7) (gc - b8) (gs - b8s) M14) ∧ (¬ r7 = r15 → (0 : Int32) = 1))) a12 (xs (Int32.toNatClampNeg (x3 + (1 : Int32)))) (xs (Int32.toNatClampNeg (x3 + (2 : Int32)))) (xs (Int32.toNatClampNeg (x3 + (3 : Int32)))) M6))))))) a4 (xs (Int32.toNatClampNeg (x3 + (1 : Int32)))) (xs (Int32.toNatClampNeg (x3 + (2 : Int32)))) (xs (Int32.toNatClampNeg (x3 + (3 : Int32)))) b8 b8s M)))))))
set_option maxHeartbeats 4000000 in
set_option maxRecDepth 100000 in
theorem k_L_law_909 {p : Program} {l : Launch} {e : Env} {s : State} {m : MethodId} {below : List Frame} {meth : Method} {c : Code} {D : va_G} {cy : Nat → ClassId} {b L : Nat} {xs : Nat → Int32} (E : Ex p m c cL_law 4 s #[Value.ref b] RL D cy (fun q : Nat => s.heap.size ≤ q)) (hr : meth.sig.returnType = ret) (hlk : meth.locks = false) (hX : va_X b L xs s s.heap) (hbl : b < s.heap.size) {K18 : Nat → Option Nat → Option Nat → Int32 → Nat → Nat → Mm → Prop} (hK18 : ∀ (h0 : Nat) (x1 : Option Nat) (x2 : Option Nat) (x3 : Int32) (gc : Nat) (gs : Nat) (M : Mm) (H : Heap) (locs : List Loc) (ls : Array Slot) (cells slots : Nat), K18 h0 x1 x2 x3 gc gs M → Wd D cy (fun q : Nat => s.heap.size ≤ q) s M H locs → lh ls 4 [(0, rv (some h0)), (1, rv x1), (2, rv x2), (3, iv x3)] → cells + gc ≤ 600000 ∧ slots + gs ≤ 7302249 → W p l e room_1 s m #[Value.ref b] below meth c H locs cells slots (lw_Z below #[Value.ref b] s) (F0 m 18 ls [])) : ∀ (h0 : Nat) (x1 : Option Nat) (x2 : Option Nat) (x3 : Int32) (gc : Nat) (gs : Nat) (M : Mm) (H : Heap) (locs : List Loc) (ls : Array Slot) (cells slots : Nat), B_L_law_909 b L xs K18 h0 x1 x2 x3 gc gs M → Wd D cy (fun q : Nat => s.heap.size ≤ q) s M H locs → lh ls 4 [(0, rv (some h0)), (1, rv x1), (2, rv x2), (3, iv x3)] → cells + gc ≤ 600000 ∧ slots + gs ≤ 7302249 → W p l e room_1 s m #[Value.ref b] below meth c H locs cells slots (lw_Z below #[Value.ref b] s) (F0 m 909 ls []) := by
  obtain ⟨hx, hb, hml, hown, hts⟩ := E.1
  intro h0 x1 x2 x3 gc gs M H locs ls cells slots h w hl hg
  unfold B_L_law_909 at h
  refine r_aload_n (x := x1) hx hb dL_law_909 rfl (lh_at hl 1 rfl) ?_
  refine r_aload_n (x := (some h0)) hx hb dL_law_910 rfl (lh_at hl 0 rfl) ?_
  refine lv_iload_n (x := x3) hx hb dL_law_911 rfl (lh_at hl 3 rfl) ?_
  refine lv_iconst (v := (1 : Int32)) hx hb dL_law_912 (by decide) ?_
  refine lv_iadd hx hb dL_law_913 ?_
  obtain ⟨hs1, hs1i, h⟩ := h
  refine r_sld E w (hxa := by rw [hs1]) hX hbl hs1i dL_law_914 ?_
  refine r_aload_n (x := (some h0)) hx hb dL_law_915 rfl (lh_at hl 0 rfl) ?_
  refine lv_iload_n (x := x3) hx hb dL_law_916 rfl (lh_at hl 3 rfl) ?_
  refine lv_iconst (v := (2 : Int32)) hx hb dL_law_917 (by decide) ?_
  refine lv_iadd hx hb dL_law_918 ?_
  obtain ⟨hs2, hs2i, h⟩ := h
  refine r_sld E w (hxa := by rw [hs2]) hX hbl hs2i dL_law_919 ?_
  refine r_aload_n (x := (some h0)) hx hb dL_law_920 rfl (lh_at hl 0 rfl) ?_
  refine lv_iload_n (x := x3) hx hb dL_law_921 rfl (lh_at hl 3 rfl) ?_
  refine lv_iconst (v := (3 : Int32)) hx hb dL_law_922 (by decide) ?_
  refine lv_iadd hx hb dL_law_923 ?_
  obtain ⟨hs3, hs3i, h⟩ := h
  refine r_sld E w (hxa := by rw [hs3]) hX hbl hs3i dL_law_924 ?_
  obtain ⟨a4, ea4, h⟩ := h
  obtain ⟨ho5, h⟩ := h
  obtain ⟨b8, b8s, b8c, b8d, h⟩ := h
  refine r_callVi (rm := rmm 6 b8 b8s) E w ea4 ho5 cl_X5 yk_X5_cry ⟨Nat.le_of_ble_eq_true rfl, Nat.le_of_ble_eq_true rfl⟩ ⟨show cells + b8 ≤ 600000 by omega, show slots + b8s ≤ 7302249 by omega⟩ rfl ml_L_94 im_X5_cry sl_X5_cry [iv (xs (Int32.toNatClampNeg (x3 + (1 : Int32)))), iv (xs (Int32.toNatClampNeg (x3 + (2 : Int32)))), iv (xs (Int32.toNatClampNeg (x3 + (3 : Int32))))] rfl rfl hl [] rfl (Nat.le_of_ble_eq_true rfl) (K_X5_cry h) dL_law_925 (fun r7 M6 H locs h w => ?_)
  have hg : (cells + b8) + (gc - b8) ≤ 600000 ∧ (slots + b8s) + (gs - b8s) ≤ 7302249 := ⟨by omega, by omega⟩
  refine r_aload_n (x := x2) hx hb dL_law_928 rfl (lh_at hl 2 rfl) ?_
  refine r_aload_n (x := (some h0)) hx hb dL_law_929 rfl (lh_at hl 0 rfl) ?_
  refine lv_iload_n (x := x3) hx hb dL_law_930 rfl (lh_at hl 3 rfl) ?_
  refine lv_iconst (v := (1 : Int32)) hx hb dL_law_931 (by decide) ?_
  refine lv_iadd hx hb dL_law_932 ?_
  obtain ⟨hs9, hs9i, h⟩ := h
  refine r_sld E w (hxa := by rw [hs9]) hX hbl hs9i dL_law_933 ?_
  refine r_aload_n (x := (some h0)) hx hb dL_law_934 rfl (lh_at hl 0 rfl) ?_
  refine lv_iload_n (x := x3) hx hb dL_law_935 rfl (lh_at hl 3 rfl) ?_
  refine lv_iconst (v := (2 : Int32)) hx hb dL_law_936 (by decide) ?_
  refine lv_iadd hx hb dL_law_937 ?_
  obtain ⟨hs10, hs10i, h⟩ := h
  refine r_sld E w (hxa := by rw [hs10]) hX hbl hs10i dL_law_938 ?_
  refine r_aload_n (x := (some h0)) hx hb dL_law_939 rfl (lh_at hl 0 rfl) ?_
  refine lv_iload_n (x := x3) hx hb dL_law_940 rfl (lh_at hl 3 rfl) ?_
  refine lv_iconst (v := (3 : Int32)) hx hb dL_law_941 (by decide) ?_
  refine lv_iadd hx hb dL_law_942 ?_
  obtain ⟨hs11, hs11i, h⟩ := h
  refine r_sld E w (hxa := by rw [hs11]) hX hbl hs11i dL_law_943 ?_
  obtain ⟨a12, ea12, h⟩ := h
  obtain ⟨ho13, h⟩ := h
  refine z_callVi E w ea12 ho13 cl_X6 yk_X6_cry ⟨Nat.le_of_ble_eq_true rfl, Nat.le_of_ble_eq_true rfl⟩ ⟨(show (cells + b8) ≤ 600000 by omega), (show (slots + b8s) ≤ 7302249 by omega)⟩ rfl ml_L_97 im_X6_cry sl_X6_cry [iv (xs (Int32.toNatClampNeg (x3 + (1 : Int32)))), iv (xs (Int32.toNatClampNeg (x3 + (2 : Int32)))), iv (xs (Int32.toNatClampNeg (x3 + (3 : Int32))))] rfl rfl hl [iv r7] rfl (Nat.le_of_ble_eq_true rfl) (K_X6_cry h) dL_law_944 (fun r15 M14 H locs h w => ?_)
  refine lv_icmp_eq (tgt := 1211) hx hb dL_law_947 (by decide) (fun c16 => ?_) (fun c16 => ?_)
  · have h := h.1 c16
    refine r_iinc (k := 3) (x := x3) (v := (x3 + 7)) (lv' := [(3, iv (x3 + 7)), (0, rv (some h0)), (1, rv x1), (2, rv x2)]) hx hb dL_law_1211 hl rfl rfl (by decide) rfl (fun ls hl => ?_)
    refine lv_goto (tgt := 18) hx hb dL_law_1214 (by decide) ?_
    exact hK18 _ _ _ _ _ _ _ _ _ _ _ _ h w (lh_sub hl [1, 2, 3, 0] rfl) hg
  · have h := h.2 c16
    refine lv_iconst (v := (0 : Int32)) hx hb dL_law_950 (by decide) ?_
    exact r_lawret E w hr hlk h (show (cells + b8) ≤ 600000 by omega) (show (slots + b8s) ≤ 7302249 by omega) dL_law_951
def B_L_law_866 (b L : Nat) (xs : Nat → Int32) (K18 : Nat → Option Nat → Option Nat → Int32 → Nat → Nat → Mm → Prop) (h0 : Nat) (x1 : Option Nat) (x2 : Option Nat) (x3 : Int32) (gc : Nat) (gs : Nat) (M : Mm) : Prop := (h0 = b ∧ vp_in (x3 + (1 : Int32)) L ∧ (h0 = b ∧ vp_in (x3 + (2 : Int32)) L ∧ (h0 = b ∧ vp_in (x3 + (3 : Int32)) L ∧ (∃ a4, x1 = some a4 ∧ (ok M a4 5 ∧ (∃ b8 b8s : Nat, b8 ≤ gc ∧ b8s ≤ gs ∧ (B_X5_odds_0 (fun r7 M6 => (h0 = b ∧ vp_in (x3 + (1 : Int32)) L ∧ (h0 = b ∧ vp_in (x3 + (2 : Int32)) L ∧ (h0 = b ∧ vp_in (x3 + (3 : Int32)) L ∧ (∃ a12, x2 = some a12 ∧ (ok M6 a12 6 ∧ (B_X6_odds_0 (fun r15 M14 => ((r7 = r15 → K18 h0 x1 x2 (x3 + 7) (gc - b8) (gs - b8s) M14) ∧ (¬ r7 = r15 → (0 : Int32) = 1))) a12 (xs (Int32.toNatClampNeg (x3 + (1 : Int32)))) (xs (Int32.toNatClampNeg (x3 + (2 : Int32)))) (xs (Int32.toNatClampNeg (x3 + (3 : Int32)))) M6))))))) a4 (xs (Int32.toNatClampNeg (x3 + (1 : Int32)))) (xs (Int32.toNatClampNeg (x3 + (2 : Int32)))) (xs (Int32.toNatClampNeg (x3 + (3 : Int32)))) b8 b8s M)))))))
set_option maxHeartbeats 4000000 in
set_option maxRecDepth 100000 in
theorem k_L_law_866 {p : Program} {l : Launch} {e : Env} {s : State} {m : MethodId} {below : List Frame} {meth : Method} {c : Code} {D : va_G} {cy : Nat → ClassId} {b L : Nat} {xs : Nat → Int32} (E : Ex p m c cL_law 4 s #[Value.ref b] RL D cy (fun q : Nat => s.heap.size ≤ q)) (hr : meth.sig.returnType = ret) (hlk : meth.locks = false) (hX : va_X b L xs s s.heap) (hbl : b < s.heap.size) {K18 : Nat → Option Nat → Option Nat → Int32 → Nat → Nat → Mm → Prop} (hK18 : ∀ (h0 : Nat) (x1 : Option Nat) (x2 : Option Nat) (x3 : Int32) (gc : Nat) (gs : Nat) (M : Mm) (H : Heap) (locs : List Loc) (ls : Array Slot) (cells slots : Nat), K18 h0 x1 x2 x3 gc gs M → Wd D cy (fun q : Nat => s.heap.size ≤ q) s M H locs → lh ls 4 [(0, rv (some h0)), (1, rv x1), (2, rv x2), (3, iv x3)] → cells + gc ≤ 600000 ∧ slots + gs ≤ 7302249 → W p l e room_1 s m #[Value.ref b] below meth c H locs cells slots (lw_Z below #[Value.ref b] s) (F0 m 18 ls [])) : ∀ (h0 : Nat) (x1 : Option Nat) (x2 : Option Nat) (x3 : Int32) (gc : Nat) (gs : Nat) (M : Mm) (H : Heap) (locs : List Loc) (ls : Array Slot) (cells slots : Nat), B_L_law_866 b L xs K18 h0 x1 x2 x3 gc gs M → Wd D cy (fun q : Nat => s.heap.size ≤ q) s M H locs → lh ls 4 [(0, rv (some h0)), (1, rv x1), (2, rv x2), (3, iv x3)] → cells + gc ≤ 600000 ∧ slots + gs ≤ 7302249 → W p l e room_1 s m #[Value.ref b] below meth c H locs cells slots (lw_Z below #[Value.ref b] s) (F0 m 866 ls []) := by
  obtain ⟨hx, hb, hml, hown, hts⟩ := E.1
  intro h0 x1 x2 x3 gc gs M H locs ls cells slots h w hl hg
  unfold B_L_law_866 at h
  refine r_aload_n (x := x1) hx hb dL_law_866 rfl (lh_at hl 1 rfl) ?_
  refine r_aload_n (x := (some h0)) hx hb dL_law_867 rfl (lh_at hl 0 rfl) ?_
  refine lv_iload_n (x := x3) hx hb dL_law_868 rfl (lh_at hl 3 rfl) ?_
  refine lv_iconst (v := (1 : Int32)) hx hb dL_law_869 (by decide) ?_
  refine lv_iadd hx hb dL_law_870 ?_
  obtain ⟨hs1, hs1i, h⟩ := h
  refine r_sld E w (hxa := by rw [hs1]) hX hbl hs1i dL_law_871 ?_
  refine r_aload_n (x := (some h0)) hx hb dL_law_872 rfl (lh_at hl 0 rfl) ?_
  refine lv_iload_n (x := x3) hx hb dL_law_873 rfl (lh_at hl 3 rfl) ?_
  refine lv_iconst (v := (2 : Int32)) hx hb dL_law_874 (by decide) ?_
  refine lv_iadd hx hb dL_law_875 ?_
  obtain ⟨hs2, hs2i, h⟩ := h
  refine r_sld E w (hxa := by rw [hs2]) hX hbl hs2i dL_law_876 ?_
  refine r_aload_n (x := (some h0)) hx hb dL_law_877 rfl (lh_at hl 0 rfl) ?_
  refine lv_iload_n (x := x3) hx hb dL_law_878 rfl (lh_at hl 3 rfl) ?_
  refine lv_iconst (v := (3 : Int32)) hx hb dL_law_879 (by decide) ?_
  refine lv_iadd hx hb dL_law_880 ?_
  obtain ⟨hs3, hs3i, h⟩ := h
  refine r_sld E w (hxa := by rw [hs3]) hX hbl hs3i dL_law_881 ?_
  obtain ⟨a4, ea4, h⟩ := h
  obtain ⟨ho5, h⟩ := h
  obtain ⟨b8, b8s, b8c, b8d, h⟩ := h
  refine r_callVi (rm := rmm 5 b8 b8s) E w ea4 ho5 cl_X5 yk_X5_odds ⟨Nat.le_of_ble_eq_true rfl, Nat.le_of_ble_eq_true rfl⟩ ⟨show cells + b8 ≤ 600000 by omega, show slots + b8s ≤ 7302249 by omega⟩ rfl ml_L_90 im_X5_odds sl_X5_odds [iv (xs (Int32.toNatClampNeg (x3 + (1 : Int32)))), iv (xs (Int32.toNatClampNeg (x3 + (2 : Int32)))), iv (xs (Int32.toNatClampNeg (x3 + (3 : Int32))))] rfl rfl hl [] rfl (Nat.le_of_ble_eq_true rfl) (K_X5_odds h) dL_law_882 (fun r7 M6 H locs h w => ?_)
  have hg : (cells + b8) + (gc - b8) ≤ 600000 ∧ (slots + b8s) + (gs - b8s) ≤ 7302249 := ⟨by omega, by omega⟩
  refine r_aload_n (x := x2) hx hb dL_law_885 rfl (lh_at hl 2 rfl) ?_
  refine r_aload_n (x := (some h0)) hx hb dL_law_886 rfl (lh_at hl 0 rfl) ?_
  refine lv_iload_n (x := x3) hx hb dL_law_887 rfl (lh_at hl 3 rfl) ?_
  refine lv_iconst (v := (1 : Int32)) hx hb dL_law_888 (by decide) ?_
  refine lv_iadd hx hb dL_law_889 ?_
  obtain ⟨hs9, hs9i, h⟩ := h
  refine r_sld E w (hxa := by rw [hs9]) hX hbl hs9i dL_law_890 ?_
  refine r_aload_n (x := (some h0)) hx hb dL_law_891 rfl (lh_at hl 0 rfl) ?_
  refine lv_iload_n (x := x3) hx hb dL_law_892 rfl (lh_at hl 3 rfl) ?_
  refine lv_iconst (v := (2 : Int32)) hx hb dL_law_893 (by decide) ?_
  refine lv_iadd hx hb dL_law_894 ?_
  obtain ⟨hs10, hs10i, h⟩ := h
  refine r_sld E w (hxa := by rw [hs10]) hX hbl hs10i dL_law_895 ?_
  refine r_aload_n (x := (some h0)) hx hb dL_law_896 rfl (lh_at hl 0 rfl) ?_
  refine lv_iload_n (x := x3) hx hb dL_law_897 rfl (lh_at hl 3 rfl) ?_
  refine lv_iconst (v := (3 : Int32)) hx hb dL_law_898 (by decide) ?_
  refine lv_iadd hx hb dL_law_899 ?_
  obtain ⟨hs11, hs11i, h⟩ := h
  refine r_sld E w (hxa := by rw [hs11]) hX hbl hs11i dL_law_900 ?_
  obtain ⟨a12, ea12, h⟩ := h
  obtain ⟨ho13, h⟩ := h
  refine z_callVi E w ea12 ho13 cl_X6 yk_X6_odds ⟨Nat.le_of_ble_eq_true rfl, Nat.le_of_ble_eq_true rfl⟩ ⟨(show (cells + b8) ≤ 600000 by omega), (show (slots + b8s) ≤ 7302249 by omega)⟩ rfl ml_L_93 im_X6_odds sl_X6_odds [iv (xs (Int32.toNatClampNeg (x3 + (1 : Int32)))), iv (xs (Int32.toNatClampNeg (x3 + (2 : Int32)))), iv (xs (Int32.toNatClampNeg (x3 + (3 : Int32))))] rfl rfl hl [iv r7] rfl (Nat.le_of_ble_eq_true rfl) (K_X6_odds h) dL_law_901 (fun r15 M14 H locs h w => ?_)
  refine lv_icmp_eq (tgt := 1211) hx hb dL_law_904 (by decide) (fun c16 => ?_) (fun c16 => ?_)
  · have h := h.1 c16
    refine r_iinc (k := 3) (x := x3) (v := (x3 + 7)) (lv' := [(3, iv (x3 + 7)), (0, rv (some h0)), (1, rv x1), (2, rv x2)]) hx hb dL_law_1211 hl rfl rfl (by decide) rfl (fun ls hl => ?_)
    refine lv_goto (tgt := 18) hx hb dL_law_1214 (by decide) ?_
    exact hK18 _ _ _ _ _ _ _ _ _ _ _ _ h w (lh_sub hl [1, 2, 3, 0] rfl) hg
  · have h := h.2 c16
    refine lv_iconst (v := (0 : Int32)) hx hb dL_law_907 (by decide) ?_
    exact r_lawret E w hr hlk h (show (cells + b8) ≤ 600000 by omega) (show (slots + b8s) ≤ 7302249 by omega) dL_law_908
def B_L_law_823 (b L : Nat) (xs : Nat → Int32) (K18 : Nat → Option Nat → Option Nat → Int32 → Nat → Nat → Mm → Prop) (h0 : Nat) (x1 : Option Nat) (x2 : Option Nat) (x3 : Int32) (gc : Nat) (gs : Nat) (M : Mm) : Prop := (h0 = b ∧ vp_in (x3 + (1 : Int32)) L ∧ (h0 = b ∧ vp_in (x3 + (2 : Int32)) L ∧ (h0 = b ∧ vp_in (x3 + (3 : Int32)) L ∧ (∃ a4, x1 = some a4 ∧ (ok M a4 5 ∧ (B_X5_undone_0 (fun r7 M6 => (h0 = b ∧ vp_in (x3 + (1 : Int32)) L ∧ (h0 = b ∧ vp_in (x3 + (2 : Int32)) L ∧ (h0 = b ∧ vp_in (x3 + (3 : Int32)) L ∧ (∃ a11, x2 = some a11 ∧ (ok M6 a11 6 ∧ (B_X6_undone_0 (fun r14 M13 => ((r7 = r14 → K18 h0 x1 x2 (x3 + 7) gc gs M13) ∧ (¬ r7 = r14 → (0 : Int32) = 1))) a11 (xs (Int32.toNatClampNeg (x3 + (1 : Int32)))) (xs (Int32.toNatClampNeg (x3 + (2 : Int32)))) (xs (Int32.toNatClampNeg (x3 + (3 : Int32)))) M6))))))) a4 (xs (Int32.toNatClampNeg (x3 + (1 : Int32)))) (xs (Int32.toNatClampNeg (x3 + (2 : Int32)))) (xs (Int32.toNatClampNeg (x3 + (3 : Int32)))) M))))))
set_option maxHeartbeats 4000000 in
set_option maxRecDepth 100000 in
theorem k_L_law_823 {p : Program} {l : Launch} {e : Env} {s : State} {m : MethodId} {below : List Frame} {meth : Method} {c : Code} {D : va_G} {cy : Nat → ClassId} {b L : Nat} {xs : Nat → Int32} (E : Ex p m c cL_law 4 s #[Value.ref b] RL D cy (fun q : Nat => s.heap.size ≤ q)) (hr : meth.sig.returnType = ret) (hlk : meth.locks = false) (hX : va_X b L xs s s.heap) (hbl : b < s.heap.size) {K18 : Nat → Option Nat → Option Nat → Int32 → Nat → Nat → Mm → Prop} (hK18 : ∀ (h0 : Nat) (x1 : Option Nat) (x2 : Option Nat) (x3 : Int32) (gc : Nat) (gs : Nat) (M : Mm) (H : Heap) (locs : List Loc) (ls : Array Slot) (cells slots : Nat), K18 h0 x1 x2 x3 gc gs M → Wd D cy (fun q : Nat => s.heap.size ≤ q) s M H locs → lh ls 4 [(0, rv (some h0)), (1, rv x1), (2, rv x2), (3, iv x3)] → cells + gc ≤ 600000 ∧ slots + gs ≤ 7302249 → W p l e room_1 s m #[Value.ref b] below meth c H locs cells slots (lw_Z below #[Value.ref b] s) (F0 m 18 ls [])) : ∀ (h0 : Nat) (x1 : Option Nat) (x2 : Option Nat) (x3 : Int32) (gc : Nat) (gs : Nat) (M : Mm) (H : Heap) (locs : List Loc) (ls : Array Slot) (cells slots : Nat), B_L_law_823 b L xs K18 h0 x1 x2 x3 gc gs M → Wd D cy (fun q : Nat => s.heap.size ≤ q) s M H locs → lh ls 4 [(0, rv (some h0)), (1, rv x1), (2, rv x2), (3, iv x3)] → cells + gc ≤ 600000 ∧ slots + gs ≤ 7302249 → W p l e room_1 s m #[Value.ref b] below meth c H locs cells slots (lw_Z below #[Value.ref b] s) (F0 m 823 ls []) := by
  obtain ⟨hx, hb, hml, hown, hts⟩ := E.1
  intro h0 x1 x2 x3 gc gs M H locs ls cells slots h w hl hg
  unfold B_L_law_823 at h
  refine r_aload_n (x := x1) hx hb dL_law_823 rfl (lh_at hl 1 rfl) ?_
  refine r_aload_n (x := (some h0)) hx hb dL_law_824 rfl (lh_at hl 0 rfl) ?_
  refine lv_iload_n (x := x3) hx hb dL_law_825 rfl (lh_at hl 3 rfl) ?_
  refine lv_iconst (v := (1 : Int32)) hx hb dL_law_826 (by decide) ?_
  refine lv_iadd hx hb dL_law_827 ?_
  obtain ⟨hs1, hs1i, h⟩ := h
  refine r_sld E w (hxa := by rw [hs1]) hX hbl hs1i dL_law_828 ?_
  refine r_aload_n (x := (some h0)) hx hb dL_law_829 rfl (lh_at hl 0 rfl) ?_
  refine lv_iload_n (x := x3) hx hb dL_law_830 rfl (lh_at hl 3 rfl) ?_
  refine lv_iconst (v := (2 : Int32)) hx hb dL_law_831 (by decide) ?_
  refine lv_iadd hx hb dL_law_832 ?_
  obtain ⟨hs2, hs2i, h⟩ := h
  refine r_sld E w (hxa := by rw [hs2]) hX hbl hs2i dL_law_833 ?_
  refine r_aload_n (x := (some h0)) hx hb dL_law_834 rfl (lh_at hl 0 rfl) ?_
  refine lv_iload_n (x := x3) hx hb dL_law_835 rfl (lh_at hl 3 rfl) ?_
  refine lv_iconst (v := (3 : Int32)) hx hb dL_law_836 (by decide) ?_
  refine lv_iadd hx hb dL_law_837 ?_
  obtain ⟨hs3, hs3i, h⟩ := h
  refine r_sld E w (hxa := by rw [hs3]) hX hbl hs3i dL_law_838 ?_
  obtain ⟨a4, ea4, h⟩ := h
  obtain ⟨ho5, h⟩ := h
  refine z_callVi E w ea4 ho5 cl_X5 yk_X5_undone ⟨Nat.le_of_ble_eq_true rfl, Nat.le_of_ble_eq_true rfl⟩ ⟨(show cells ≤ 600000 by omega), (show slots ≤ 7302249 by omega)⟩ rfl ml_L_86 im_X5_undone sl_X5_undone [iv (xs (Int32.toNatClampNeg (x3 + (1 : Int32)))), iv (xs (Int32.toNatClampNeg (x3 + (2 : Int32)))), iv (xs (Int32.toNatClampNeg (x3 + (3 : Int32))))] rfl rfl hl [] rfl (Nat.le_of_ble_eq_true rfl) (K_X5_undone h) dL_law_839 (fun r7 M6 H locs h w => ?_)
  refine r_aload_n (x := x2) hx hb dL_law_842 rfl (lh_at hl 2 rfl) ?_
  refine r_aload_n (x := (some h0)) hx hb dL_law_843 rfl (lh_at hl 0 rfl) ?_
  refine lv_iload_n (x := x3) hx hb dL_law_844 rfl (lh_at hl 3 rfl) ?_
  refine lv_iconst (v := (1 : Int32)) hx hb dL_law_845 (by decide) ?_
  refine lv_iadd hx hb dL_law_846 ?_
  obtain ⟨hs8, hs8i, h⟩ := h
  refine r_sld E w (hxa := by rw [hs8]) hX hbl hs8i dL_law_847 ?_
  refine r_aload_n (x := (some h0)) hx hb dL_law_848 rfl (lh_at hl 0 rfl) ?_
  refine lv_iload_n (x := x3) hx hb dL_law_849 rfl (lh_at hl 3 rfl) ?_
  refine lv_iconst (v := (2 : Int32)) hx hb dL_law_850 (by decide) ?_
  refine lv_iadd hx hb dL_law_851 ?_
  obtain ⟨hs9, hs9i, h⟩ := h
  refine r_sld E w (hxa := by rw [hs9]) hX hbl hs9i dL_law_852 ?_
  refine r_aload_n (x := (some h0)) hx hb dL_law_853 rfl (lh_at hl 0 rfl) ?_
  refine lv_iload_n (x := x3) hx hb dL_law_854 rfl (lh_at hl 3 rfl) ?_
  refine lv_iconst (v := (3 : Int32)) hx hb dL_law_855 (by decide) ?_
  refine lv_iadd hx hb dL_law_856 ?_
  obtain ⟨hs10, hs10i, h⟩ := h
  refine r_sld E w (hxa := by rw [hs10]) hX hbl hs10i dL_law_857 ?_
  obtain ⟨a11, ea11, h⟩ := h
  obtain ⟨ho12, h⟩ := h
  refine z_callVi E w ea11 ho12 cl_X6 yk_X6_undone ⟨Nat.le_of_ble_eq_true rfl, Nat.le_of_ble_eq_true rfl⟩ ⟨(show cells ≤ 600000 by omega), (show slots ≤ 7302249 by omega)⟩ rfl ml_L_89 im_X6_undone sl_X6_undone [iv (xs (Int32.toNatClampNeg (x3 + (1 : Int32)))), iv (xs (Int32.toNatClampNeg (x3 + (2 : Int32)))), iv (xs (Int32.toNatClampNeg (x3 + (3 : Int32))))] rfl rfl hl [iv r7] rfl (Nat.le_of_ble_eq_true rfl) (K_X6_undone h) dL_law_858 (fun r14 M13 H locs h w => ?_)
  refine lv_icmp_eq (tgt := 1211) hx hb dL_law_861 (by decide) (fun c15 => ?_) (fun c15 => ?_)
  · have h := h.1 c15
    refine r_iinc (k := 3) (x := x3) (v := (x3 + 7)) (lv' := [(3, iv (x3 + 7)), (0, rv (some h0)), (1, rv x1), (2, rv x2)]) hx hb dL_law_1211 hl rfl rfl (by decide) rfl (fun ls hl => ?_)
    refine lv_goto (tgt := 18) hx hb dL_law_1214 (by decide) ?_
    exact hK18 _ _ _ _ _ _ _ _ _ _ _ _ h w (lh_sub hl [1, 2, 3, 0] rfl) hg
  · have h := h.2 c15
    refine lv_iconst (v := (0 : Int32)) hx hb dL_law_864 (by decide) ?_
    exact r_lawret E w hr hlk h (show cells ≤ 600000 by omega) (show slots ≤ 7302249 by omega) dL_law_865
def B_L_law_780 (b L : Nat) (xs : Nat → Int32) (K18 : Nat → Option Nat → Option Nat → Int32 → Nat → Nat → Mm → Prop) (h0 : Nat) (x1 : Option Nat) (x2 : Option Nat) (x3 : Int32) (gc : Nat) (gs : Nat) (M : Mm) : Prop := (h0 = b ∧ vp_in (x3 + (1 : Int32)) L ∧ (h0 = b ∧ vp_in (x3 + (2 : Int32)) L ∧ (h0 = b ∧ vp_in (x3 + (3 : Int32)) L ∧ (∃ a4, x1 = some a4 ∧ (ok M a4 5 ∧ (B_X5_own_0 (fun r7 M6 => (h0 = b ∧ vp_in (x3 + (1 : Int32)) L ∧ (h0 = b ∧ vp_in (x3 + (2 : Int32)) L ∧ (h0 = b ∧ vp_in (x3 + (3 : Int32)) L ∧ (∃ a11, x2 = some a11 ∧ (ok M6 a11 6 ∧ (B_X6_own_0 (fun r14 M13 => ((r7 = r14 → K18 h0 x1 x2 (x3 + 7) gc gs M13) ∧ (¬ r7 = r14 → (0 : Int32) = 1))) a11 (xs (Int32.toNatClampNeg (x3 + (1 : Int32)))) (xs (Int32.toNatClampNeg (x3 + (2 : Int32)))) (xs (Int32.toNatClampNeg (x3 + (3 : Int32)))) M6))))))) a4 (xs (Int32.toNatClampNeg (x3 + (1 : Int32)))) (xs (Int32.toNatClampNeg (x3 + (2 : Int32)))) (xs (Int32.toNatClampNeg (x3 + (3 : Int32)))) M))))))
set_option maxHeartbeats 4000000 in
set_option maxRecDepth 100000 in
theorem k_L_law_780 {p : Program} {l : Launch} {e : Env} {s : State} {m : MethodId} {below : List Frame} {meth : Method} {c : Code} {D : va_G} {cy : Nat → ClassId} {b L : Nat} {xs : Nat → Int32} (E : Ex p m c cL_law 4 s #[Value.ref b] RL D cy (fun q : Nat => s.heap.size ≤ q)) (hr : meth.sig.returnType = ret) (hlk : meth.locks = false) (hX : va_X b L xs s s.heap) (hbl : b < s.heap.size) {K18 : Nat → Option Nat → Option Nat → Int32 → Nat → Nat → Mm → Prop} (hK18 : ∀ (h0 : Nat) (x1 : Option Nat) (x2 : Option Nat) (x3 : Int32) (gc : Nat) (gs : Nat) (M : Mm) (H : Heap) (locs : List Loc) (ls : Array Slot) (cells slots : Nat), K18 h0 x1 x2 x3 gc gs M → Wd D cy (fun q : Nat => s.heap.size ≤ q) s M H locs → lh ls 4 [(0, rv (some h0)), (1, rv x1), (2, rv x2), (3, iv x3)] → cells + gc ≤ 600000 ∧ slots + gs ≤ 7302249 → W p l e room_1 s m #[Value.ref b] below meth c H locs cells slots (lw_Z below #[Value.ref b] s) (F0 m 18 ls [])) : ∀ (h0 : Nat) (x1 : Option Nat) (x2 : Option Nat) (x3 : Int32) (gc : Nat) (gs : Nat) (M : Mm) (H : Heap) (locs : List Loc) (ls : Array Slot) (cells slots : Nat), B_L_law_780 b L xs K18 h0 x1 x2 x3 gc gs M → Wd D cy (fun q : Nat => s.heap.size ≤ q) s M H locs → lh ls 4 [(0, rv (some h0)), (1, rv x1), (2, rv x2), (3, iv x3)] → cells + gc ≤ 600000 ∧ slots + gs ≤ 7302249 → W p l e room_1 s m #[Value.ref b] below meth c H locs cells slots (lw_Z below #[Value.ref b] s) (F0 m 780 ls []) := by
  obtain ⟨hx, hb, hml, hown, hts⟩ := E.1
  intro h0 x1 x2 x3 gc gs M H locs ls cells slots h w hl hg
  unfold B_L_law_780 at h
  refine r_aload_n (x := x1) hx hb dL_law_780 rfl (lh_at hl 1 rfl) ?_
  refine r_aload_n (x := (some h0)) hx hb dL_law_781 rfl (lh_at hl 0 rfl) ?_
  refine lv_iload_n (x := x3) hx hb dL_law_782 rfl (lh_at hl 3 rfl) ?_
  refine lv_iconst (v := (1 : Int32)) hx hb dL_law_783 (by decide) ?_
  refine lv_iadd hx hb dL_law_784 ?_
  obtain ⟨hs1, hs1i, h⟩ := h
  refine r_sld E w (hxa := by rw [hs1]) hX hbl hs1i dL_law_785 ?_
  refine r_aload_n (x := (some h0)) hx hb dL_law_786 rfl (lh_at hl 0 rfl) ?_
  refine lv_iload_n (x := x3) hx hb dL_law_787 rfl (lh_at hl 3 rfl) ?_
  refine lv_iconst (v := (2 : Int32)) hx hb dL_law_788 (by decide) ?_
  refine lv_iadd hx hb dL_law_789 ?_
  obtain ⟨hs2, hs2i, h⟩ := h
  refine r_sld E w (hxa := by rw [hs2]) hX hbl hs2i dL_law_790 ?_
  refine r_aload_n (x := (some h0)) hx hb dL_law_791 rfl (lh_at hl 0 rfl) ?_
  refine lv_iload_n (x := x3) hx hb dL_law_792 rfl (lh_at hl 3 rfl) ?_
  refine lv_iconst (v := (3 : Int32)) hx hb dL_law_793 (by decide) ?_
  refine lv_iadd hx hb dL_law_794 ?_
  obtain ⟨hs3, hs3i, h⟩ := h
  refine r_sld E w (hxa := by rw [hs3]) hX hbl hs3i dL_law_795 ?_
  obtain ⟨a4, ea4, h⟩ := h
  obtain ⟨ho5, h⟩ := h
  refine z_callVi E w ea4 ho5 cl_X5 yk_X5_own ⟨Nat.le_of_ble_eq_true rfl, Nat.le_of_ble_eq_true rfl⟩ ⟨(show cells ≤ 600000 by omega), (show slots ≤ 7302249 by omega)⟩ rfl ml_L_82 im_X5_own sl_X5_own [iv (xs (Int32.toNatClampNeg (x3 + (1 : Int32)))), iv (xs (Int32.toNatClampNeg (x3 + (2 : Int32)))), iv (xs (Int32.toNatClampNeg (x3 + (3 : Int32))))] rfl rfl hl [] rfl (Nat.le_of_ble_eq_true rfl) (K_X5_own h) dL_law_796 (fun r7 M6 H locs h w => ?_)
  refine r_aload_n (x := x2) hx hb dL_law_799 rfl (lh_at hl 2 rfl) ?_
  refine r_aload_n (x := (some h0)) hx hb dL_law_800 rfl (lh_at hl 0 rfl) ?_
  refine lv_iload_n (x := x3) hx hb dL_law_801 rfl (lh_at hl 3 rfl) ?_
  refine lv_iconst (v := (1 : Int32)) hx hb dL_law_802 (by decide) ?_
  refine lv_iadd hx hb dL_law_803 ?_
  obtain ⟨hs8, hs8i, h⟩ := h
  refine r_sld E w (hxa := by rw [hs8]) hX hbl hs8i dL_law_804 ?_
  refine r_aload_n (x := (some h0)) hx hb dL_law_805 rfl (lh_at hl 0 rfl) ?_
  refine lv_iload_n (x := x3) hx hb dL_law_806 rfl (lh_at hl 3 rfl) ?_
  refine lv_iconst (v := (2 : Int32)) hx hb dL_law_807 (by decide) ?_
  refine lv_iadd hx hb dL_law_808 ?_
  obtain ⟨hs9, hs9i, h⟩ := h
  refine r_sld E w (hxa := by rw [hs9]) hX hbl hs9i dL_law_809 ?_
  refine r_aload_n (x := (some h0)) hx hb dL_law_810 rfl (lh_at hl 0 rfl) ?_
  refine lv_iload_n (x := x3) hx hb dL_law_811 rfl (lh_at hl 3 rfl) ?_
  refine lv_iconst (v := (3 : Int32)) hx hb dL_law_812 (by decide) ?_
  refine lv_iadd hx hb dL_law_813 ?_
  obtain ⟨hs10, hs10i, h⟩ := h
  refine r_sld E w (hxa := by rw [hs10]) hX hbl hs10i dL_law_814 ?_
  obtain ⟨a11, ea11, h⟩ := h
  obtain ⟨ho12, h⟩ := h
  refine z_callVi E w ea11 ho12 cl_X6 yk_X6_own ⟨Nat.le_of_ble_eq_true rfl, Nat.le_of_ble_eq_true rfl⟩ ⟨(show cells ≤ 600000 by omega), (show slots ≤ 7302249 by omega)⟩ rfl ml_L_85 im_X6_own sl_X6_own [iv (xs (Int32.toNatClampNeg (x3 + (1 : Int32)))), iv (xs (Int32.toNatClampNeg (x3 + (2 : Int32)))), iv (xs (Int32.toNatClampNeg (x3 + (3 : Int32))))] rfl rfl hl [iv r7] rfl (Nat.le_of_ble_eq_true rfl) (K_X6_own h) dL_law_815 (fun r14 M13 H locs h w => ?_)
  refine lv_icmp_eq (tgt := 1211) hx hb dL_law_818 (by decide) (fun c15 => ?_) (fun c15 => ?_)
  · have h := h.1 c15
    refine r_iinc (k := 3) (x := x3) (v := (x3 + 7)) (lv' := [(3, iv (x3 + 7)), (0, rv (some h0)), (1, rv x1), (2, rv x2)]) hx hb dL_law_1211 hl rfl rfl (by decide) rfl (fun ls hl => ?_)
    refine lv_goto (tgt := 18) hx hb dL_law_1214 (by decide) ?_
    exact hK18 _ _ _ _ _ _ _ _ _ _ _ _ h w (lh_sub hl [1, 2, 3, 0] rfl) hg
  · have h := h.2 c15
    refine lv_iconst (v := (0 : Int32)) hx hb dL_law_821 (by decide) ?_
    exact r_lawret E w hr hlk h (show cells ≤ 600000 by omega) (show slots ≤ 7302249 by omega) dL_law_822
def B_L_law_757 (b L : Nat) (xs : Nat → Int32) (K18 : Nat → Option Nat → Option Nat → Int32 → Nat → Nat → Mm → Prop) (h0 : Nat) (x1 : Option Nat) (x2 : Option Nat) (x3 : Int32) (gc : Nat) (gs : Nat) (M : Mm) : Prop := (h0 = b ∧ vp_in (x3 + (1 : Int32)) L ∧ (∃ a2, x1 = some a2 ∧ (ok M a2 5 ∧ (B_X5_reach_0 (fun r5 M4 => (h0 = b ∧ vp_in (x3 + (1 : Int32)) L ∧ (∃ a7, x2 = some a7 ∧ (ok M4 a7 6 ∧ (B_X6_reach_0 (fun r10 M9 => ((r5 = r10 → K18 h0 x1 x2 (x3 + 7) gc gs M9) ∧ (¬ r5 = r10 → (0 : Int32) = 1))) a7 (xs (Int32.toNatClampNeg (x3 + (1 : Int32)))) M4))))) a2 (xs (Int32.toNatClampNeg (x3 + (1 : Int32)))) M))))
set_option maxHeartbeats 4000000 in
set_option maxRecDepth 100000 in
theorem k_L_law_757 {p : Program} {l : Launch} {e : Env} {s : State} {m : MethodId} {below : List Frame} {meth : Method} {c : Code} {D : va_G} {cy : Nat → ClassId} {b L : Nat} {xs : Nat → Int32} (E : Ex p m c cL_law 4 s #[Value.ref b] RL D cy (fun q : Nat => s.heap.size ≤ q)) (hr : meth.sig.returnType = ret) (hlk : meth.locks = false) (hX : va_X b L xs s s.heap) (hbl : b < s.heap.size) {K18 : Nat → Option Nat → Option Nat → Int32 → Nat → Nat → Mm → Prop} (hK18 : ∀ (h0 : Nat) (x1 : Option Nat) (x2 : Option Nat) (x3 : Int32) (gc : Nat) (gs : Nat) (M : Mm) (H : Heap) (locs : List Loc) (ls : Array Slot) (cells slots : Nat), K18 h0 x1 x2 x3 gc gs M → Wd D cy (fun q : Nat => s.heap.size ≤ q) s M H locs → lh ls 4 [(0, rv (some h0)), (1, rv x1), (2, rv x2), (3, iv x3)] → cells + gc ≤ 600000 ∧ slots + gs ≤ 7302249 → W p l e room_1 s m #[Value.ref b] below meth c H locs cells slots (lw_Z below #[Value.ref b] s) (F0 m 18 ls [])) : ∀ (h0 : Nat) (x1 : Option Nat) (x2 : Option Nat) (x3 : Int32) (gc : Nat) (gs : Nat) (M : Mm) (H : Heap) (locs : List Loc) (ls : Array Slot) (cells slots : Nat), B_L_law_757 b L xs K18 h0 x1 x2 x3 gc gs M → Wd D cy (fun q : Nat => s.heap.size ≤ q) s M H locs → lh ls 4 [(0, rv (some h0)), (1, rv x1), (2, rv x2), (3, iv x3)] → cells + gc ≤ 600000 ∧ slots + gs ≤ 7302249 → W p l e room_1 s m #[Value.ref b] below meth c H locs cells slots (lw_Z below #[Value.ref b] s) (F0 m 757 ls []) := by
  obtain ⟨hx, hb, hml, hown, hts⟩ := E.1
  intro h0 x1 x2 x3 gc gs M H locs ls cells slots h w hl hg
  unfold B_L_law_757 at h
  refine r_aload_n (x := x1) hx hb dL_law_757 rfl (lh_at hl 1 rfl) ?_
  refine r_aload_n (x := (some h0)) hx hb dL_law_758 rfl (lh_at hl 0 rfl) ?_
  refine lv_iload_n (x := x3) hx hb dL_law_759 rfl (lh_at hl 3 rfl) ?_
  refine lv_iconst (v := (1 : Int32)) hx hb dL_law_760 (by decide) ?_
  refine lv_iadd hx hb dL_law_761 ?_
  obtain ⟨hs1, hs1i, h⟩ := h
  refine r_sld E w (hxa := by rw [hs1]) hX hbl hs1i dL_law_762 ?_
  obtain ⟨a2, ea2, h⟩ := h
  obtain ⟨ho3, h⟩ := h
  refine z_callVi E w ea2 ho3 cl_X5 yk_X5_reach ⟨Nat.le_of_ble_eq_true rfl, Nat.le_of_ble_eq_true rfl⟩ ⟨(show cells ≤ 600000 by omega), (show slots ≤ 7302249 by omega)⟩ rfl ml_L_78 im_X5_reach sl_X5_reach [iv (xs (Int32.toNatClampNeg (x3 + (1 : Int32))))] rfl rfl hl [] rfl (Nat.le_of_ble_eq_true rfl) (K_X5_reach h) dL_law_763 (fun r5 M4 H locs h w => ?_)
  refine r_aload_n (x := x2) hx hb dL_law_766 rfl (lh_at hl 2 rfl) ?_
  refine r_aload_n (x := (some h0)) hx hb dL_law_767 rfl (lh_at hl 0 rfl) ?_
  refine lv_iload_n (x := x3) hx hb dL_law_768 rfl (lh_at hl 3 rfl) ?_
  refine lv_iconst (v := (1 : Int32)) hx hb dL_law_769 (by decide) ?_
  refine lv_iadd hx hb dL_law_770 ?_
  obtain ⟨hs6, hs6i, h⟩ := h
  refine r_sld E w (hxa := by rw [hs6]) hX hbl hs6i dL_law_771 ?_
  obtain ⟨a7, ea7, h⟩ := h
  obtain ⟨ho8, h⟩ := h
  refine z_callVi E w ea7 ho8 cl_X6 yk_X6_reach ⟨Nat.le_of_ble_eq_true rfl, Nat.le_of_ble_eq_true rfl⟩ ⟨(show cells ≤ 600000 by omega), (show slots ≤ 7302249 by omega)⟩ rfl ml_L_81 im_X6_reach sl_X6_reach [iv (xs (Int32.toNatClampNeg (x3 + (1 : Int32))))] rfl rfl hl [iv r5] rfl (Nat.le_of_ble_eq_true rfl) (K_X6_reach h) dL_law_772 (fun r10 M9 H locs h w => ?_)
  refine lv_icmp_eq (tgt := 1211) hx hb dL_law_775 (by decide) (fun c11 => ?_) (fun c11 => ?_)
  · have h := h.1 c11
    refine r_iinc (k := 3) (x := x3) (v := (x3 + 7)) (lv' := [(3, iv (x3 + 7)), (0, rv (some h0)), (1, rv x1), (2, rv x2)]) hx hb dL_law_1211 hl rfl rfl (by decide) rfl (fun ls hl => ?_)
    refine lv_goto (tgt := 18) hx hb dL_law_1214 (by decide) ?_
    exact hK18 _ _ _ _ _ _ _ _ _ _ _ _ h w (lh_sub hl [1, 2, 3, 0] rfl) hg
  · have h := h.2 c11
    refine lv_iconst (v := (0 : Int32)) hx hb dL_law_778 (by decide) ?_
    exact r_lawret E w hr hlk h (show cells ≤ 600000 by omega) (show slots ≤ 7302249 by omega) dL_law_779
def B_L_law_714 (b L : Nat) (xs : Nat → Int32) (K18 : Nat → Option Nat → Option Nat → Int32 → Nat → Nat → Mm → Prop) (h0 : Nat) (x1 : Option Nat) (x2 : Option Nat) (x3 : Int32) (gc : Nat) (gs : Nat) (M : Mm) : Prop := (h0 = b ∧ vp_in (x3 + (1 : Int32)) L ∧ (h0 = b ∧ vp_in (x3 + (2 : Int32)) L ∧ (h0 = b ∧ vp_in (x3 + (3 : Int32)) L ∧ (∃ a4, x1 = some a4 ∧ (ok M a4 5 ∧ (B_X5_size_0 (fun r7 M6 => (h0 = b ∧ vp_in (x3 + (1 : Int32)) L ∧ (h0 = b ∧ vp_in (x3 + (2 : Int32)) L ∧ (h0 = b ∧ vp_in (x3 + (3 : Int32)) L ∧ (∃ a11, x2 = some a11 ∧ (ok M6 a11 6 ∧ (B_X6_size_0 (fun r14 M13 => ((r7 = r14 → K18 h0 x1 x2 (x3 + 7) gc gs M13) ∧ (¬ r7 = r14 → (0 : Int32) = 1))) a11 (xs (Int32.toNatClampNeg (x3 + (1 : Int32)))) (xs (Int32.toNatClampNeg (x3 + (2 : Int32)))) (xs (Int32.toNatClampNeg (x3 + (3 : Int32)))) M6))))))) a4 (xs (Int32.toNatClampNeg (x3 + (1 : Int32)))) (xs (Int32.toNatClampNeg (x3 + (2 : Int32)))) (xs (Int32.toNatClampNeg (x3 + (3 : Int32)))) M))))))
set_option maxHeartbeats 4000000 in
set_option maxRecDepth 100000 in
theorem k_L_law_714 {p : Program} {l : Launch} {e : Env} {s : State} {m : MethodId} {below : List Frame} {meth : Method} {c : Code} {D : va_G} {cy : Nat → ClassId} {b L : Nat} {xs : Nat → Int32} (E : Ex p m c cL_law 4 s #[Value.ref b] RL D cy (fun q : Nat => s.heap.size ≤ q)) (hr : meth.sig.returnType = ret) (hlk : meth.locks = false) (hX : va_X b L xs s s.heap) (hbl : b < s.heap.size) {K18 : Nat → Option Nat → Option Nat → Int32 → Nat → Nat → Mm → Prop} (hK18 : ∀ (h0 : Nat) (x1 : Option Nat) (x2 : Option Nat) (x3 : Int32) (gc : Nat) (gs : Nat) (M : Mm) (H : Heap) (locs : List Loc) (ls : Array Slot) (cells slots : Nat), K18 h0 x1 x2 x3 gc gs M → Wd D cy (fun q : Nat => s.heap.size ≤ q) s M H locs → lh ls 4 [(0, rv (some h0)), (1, rv x1), (2, rv x2), (3, iv x3)] → cells + gc ≤ 600000 ∧ slots + gs ≤ 7302249 → W p l e room_1 s m #[Value.ref b] below meth c H locs cells slots (lw_Z below #[Value.ref b] s) (F0 m 18 ls [])) : ∀ (h0 : Nat) (x1 : Option Nat) (x2 : Option Nat) (x3 : Int32) (gc : Nat) (gs : Nat) (M : Mm) (H : Heap) (locs : List Loc) (ls : Array Slot) (cells slots : Nat), B_L_law_714 b L xs K18 h0 x1 x2 x3 gc gs M → Wd D cy (fun q : Nat => s.heap.size ≤ q) s M H locs → lh ls 4 [(0, rv (some h0)), (1, rv x1), (2, rv x2), (3, iv x3)] → cells + gc ≤ 600000 ∧ slots + gs ≤ 7302249 → W p l e room_1 s m #[Value.ref b] below meth c H locs cells slots (lw_Z below #[Value.ref b] s) (F0 m 714 ls []) := by
  obtain ⟨hx, hb, hml, hown, hts⟩ := E.1
  intro h0 x1 x2 x3 gc gs M H locs ls cells slots h w hl hg
  unfold B_L_law_714 at h
  refine r_aload_n (x := x1) hx hb dL_law_714 rfl (lh_at hl 1 rfl) ?_
  refine r_aload_n (x := (some h0)) hx hb dL_law_715 rfl (lh_at hl 0 rfl) ?_
  refine lv_iload_n (x := x3) hx hb dL_law_716 rfl (lh_at hl 3 rfl) ?_
  refine lv_iconst (v := (1 : Int32)) hx hb dL_law_717 (by decide) ?_
  refine lv_iadd hx hb dL_law_718 ?_
  obtain ⟨hs1, hs1i, h⟩ := h
  refine r_sld E w (hxa := by rw [hs1]) hX hbl hs1i dL_law_719 ?_
  refine r_aload_n (x := (some h0)) hx hb dL_law_720 rfl (lh_at hl 0 rfl) ?_
  refine lv_iload_n (x := x3) hx hb dL_law_721 rfl (lh_at hl 3 rfl) ?_
  refine lv_iconst (v := (2 : Int32)) hx hb dL_law_722 (by decide) ?_
  refine lv_iadd hx hb dL_law_723 ?_
  obtain ⟨hs2, hs2i, h⟩ := h
  refine r_sld E w (hxa := by rw [hs2]) hX hbl hs2i dL_law_724 ?_
  refine r_aload_n (x := (some h0)) hx hb dL_law_725 rfl (lh_at hl 0 rfl) ?_
  refine lv_iload_n (x := x3) hx hb dL_law_726 rfl (lh_at hl 3 rfl) ?_
  refine lv_iconst (v := (3 : Int32)) hx hb dL_law_727 (by decide) ?_
  refine lv_iadd hx hb dL_law_728 ?_
  obtain ⟨hs3, hs3i, h⟩ := h
  refine r_sld E w (hxa := by rw [hs3]) hX hbl hs3i dL_law_729 ?_
  obtain ⟨a4, ea4, h⟩ := h
  obtain ⟨ho5, h⟩ := h
  refine z_callVi E w ea4 ho5 cl_X5 yk_X5_size ⟨Nat.le_of_ble_eq_true rfl, Nat.le_of_ble_eq_true rfl⟩ ⟨(show cells ≤ 600000 by omega), (show slots ≤ 7302249 by omega)⟩ rfl ml_L_74 im_X5_size sl_X5_size [iv (xs (Int32.toNatClampNeg (x3 + (1 : Int32)))), iv (xs (Int32.toNatClampNeg (x3 + (2 : Int32)))), iv (xs (Int32.toNatClampNeg (x3 + (3 : Int32))))] rfl rfl hl [] rfl (Nat.le_of_ble_eq_true rfl) (K_X5_size h) dL_law_730 (fun r7 M6 H locs h w => ?_)
  refine r_aload_n (x := x2) hx hb dL_law_733 rfl (lh_at hl 2 rfl) ?_
  refine r_aload_n (x := (some h0)) hx hb dL_law_734 rfl (lh_at hl 0 rfl) ?_
  refine lv_iload_n (x := x3) hx hb dL_law_735 rfl (lh_at hl 3 rfl) ?_
  refine lv_iconst (v := (1 : Int32)) hx hb dL_law_736 (by decide) ?_
  refine lv_iadd hx hb dL_law_737 ?_
  obtain ⟨hs8, hs8i, h⟩ := h
  refine r_sld E w (hxa := by rw [hs8]) hX hbl hs8i dL_law_738 ?_
  refine r_aload_n (x := (some h0)) hx hb dL_law_739 rfl (lh_at hl 0 rfl) ?_
  refine lv_iload_n (x := x3) hx hb dL_law_740 rfl (lh_at hl 3 rfl) ?_
  refine lv_iconst (v := (2 : Int32)) hx hb dL_law_741 (by decide) ?_
  refine lv_iadd hx hb dL_law_742 ?_
  obtain ⟨hs9, hs9i, h⟩ := h
  refine r_sld E w (hxa := by rw [hs9]) hX hbl hs9i dL_law_743 ?_
  refine r_aload_n (x := (some h0)) hx hb dL_law_744 rfl (lh_at hl 0 rfl) ?_
  refine lv_iload_n (x := x3) hx hb dL_law_745 rfl (lh_at hl 3 rfl) ?_
  refine lv_iconst (v := (3 : Int32)) hx hb dL_law_746 (by decide) ?_
  refine lv_iadd hx hb dL_law_747 ?_
  obtain ⟨hs10, hs10i, h⟩ := h
  refine r_sld E w (hxa := by rw [hs10]) hX hbl hs10i dL_law_748 ?_
  obtain ⟨a11, ea11, h⟩ := h
  obtain ⟨ho12, h⟩ := h
  refine z_callVi E w ea11 ho12 cl_X6 yk_X6_size ⟨Nat.le_of_ble_eq_true rfl, Nat.le_of_ble_eq_true rfl⟩ ⟨(show cells ≤ 600000 by omega), (show slots ≤ 7302249 by omega)⟩ rfl ml_L_77 im_X6_size sl_X6_size [iv (xs (Int32.toNatClampNeg (x3 + (1 : Int32)))), iv (xs (Int32.toNatClampNeg (x3 + (2 : Int32)))), iv (xs (Int32.toNatClampNeg (x3 + (3 : Int32))))] rfl rfl hl [iv r7] rfl (Nat.le_of_ble_eq_true rfl) (K_X6_size h) dL_law_749 (fun r14 M13 H locs h w => ?_)
  refine lv_icmp_eq (tgt := 1211) hx hb dL_law_752 (by decide) (fun c15 => ?_) (fun c15 => ?_)
  · have h := h.1 c15
    refine r_iinc (k := 3) (x := x3) (v := (x3 + 7)) (lv' := [(3, iv (x3 + 7)), (0, rv (some h0)), (1, rv x1), (2, rv x2)]) hx hb dL_law_1211 hl rfl rfl (by decide) rfl (fun ls hl => ?_)
    refine lv_goto (tgt := 18) hx hb dL_law_1214 (by decide) ?_
    exact hK18 _ _ _ _ _ _ _ _ _ _ _ _ h w (lh_sub hl [1, 2, 3, 0] rfl) hg
  · have h := h.2 c15
    refine lv_iconst (v := (0 : Int32)) hx hb dL_law_755 (by decide) ?_
    exact r_lawret E w hr hlk h (show cells ≤ 600000 by omega) (show slots ≤ 7302249 by omega) dL_law_756
def B_L_law_671 (b L : Nat) (xs : Nat → Int32) (K18 : Nat → Option Nat → Option Nat → Int32 → Nat → Nat → Mm → Prop) (h0 : Nat) (x1 : Option Nat) (x2 : Option Nat) (x3 : Int32) (gc : Nat) (gs : Nat) (M : Mm) : Prop := (h0 = b ∧ vp_in (x3 + (1 : Int32)) L ∧ (h0 = b ∧ vp_in (x3 + (2 : Int32)) L ∧ (h0 = b ∧ vp_in (x3 + (3 : Int32)) L ∧ (∃ a4, x1 = some a4 ∧ (ok M a4 5 ∧ (B_X5_middle_0 (fun r7 M6 => (h0 = b ∧ vp_in (x3 + (1 : Int32)) L ∧ (h0 = b ∧ vp_in (x3 + (2 : Int32)) L ∧ (h0 = b ∧ vp_in (x3 + (3 : Int32)) L ∧ (∃ a11, x2 = some a11 ∧ (ok M6 a11 6 ∧ (B_X6_middle_0 (fun r14 M13 => ((r7 = r14 → K18 h0 x1 x2 (x3 + 7) gc gs M13) ∧ (¬ r7 = r14 → (0 : Int32) = 1))) a11 (xs (Int32.toNatClampNeg (x3 + (1 : Int32)))) (xs (Int32.toNatClampNeg (x3 + (2 : Int32)))) (xs (Int32.toNatClampNeg (x3 + (3 : Int32)))) M6))))))) a4 (xs (Int32.toNatClampNeg (x3 + (1 : Int32)))) (xs (Int32.toNatClampNeg (x3 + (2 : Int32)))) (xs (Int32.toNatClampNeg (x3 + (3 : Int32)))) M))))))
set_option maxHeartbeats 4000000 in
set_option maxRecDepth 100000 in
theorem k_L_law_671 {p : Program} {l : Launch} {e : Env} {s : State} {m : MethodId} {below : List Frame} {meth : Method} {c : Code} {D : va_G} {cy : Nat → ClassId} {b L : Nat} {xs : Nat → Int32} (E : Ex p m c cL_law 4 s #[Value.ref b] RL D cy (fun q : Nat => s.heap.size ≤ q)) (hr : meth.sig.returnType = ret) (hlk : meth.locks = false) (hX : va_X b L xs s s.heap) (hbl : b < s.heap.size) {K18 : Nat → Option Nat → Option Nat → Int32 → Nat → Nat → Mm → Prop} (hK18 : ∀ (h0 : Nat) (x1 : Option Nat) (x2 : Option Nat) (x3 : Int32) (gc : Nat) (gs : Nat) (M : Mm) (H : Heap) (locs : List Loc) (ls : Array Slot) (cells slots : Nat), K18 h0 x1 x2 x3 gc gs M → Wd D cy (fun q : Nat => s.heap.size ≤ q) s M H locs → lh ls 4 [(0, rv (some h0)), (1, rv x1), (2, rv x2), (3, iv x3)] → cells + gc ≤ 600000 ∧ slots + gs ≤ 7302249 → W p l e room_1 s m #[Value.ref b] below meth c H locs cells slots (lw_Z below #[Value.ref b] s) (F0 m 18 ls [])) : ∀ (h0 : Nat) (x1 : Option Nat) (x2 : Option Nat) (x3 : Int32) (gc : Nat) (gs : Nat) (M : Mm) (H : Heap) (locs : List Loc) (ls : Array Slot) (cells slots : Nat), B_L_law_671 b L xs K18 h0 x1 x2 x3 gc gs M → Wd D cy (fun q : Nat => s.heap.size ≤ q) s M H locs → lh ls 4 [(0, rv (some h0)), (1, rv x1), (2, rv x2), (3, iv x3)] → cells + gc ≤ 600000 ∧ slots + gs ≤ 7302249 → W p l e room_1 s m #[Value.ref b] below meth c H locs cells slots (lw_Z below #[Value.ref b] s) (F0 m 671 ls []) := by
  obtain ⟨hx, hb, hml, hown, hts⟩ := E.1
  intro h0 x1 x2 x3 gc gs M H locs ls cells slots h w hl hg
  unfold B_L_law_671 at h
  refine r_aload_n (x := x1) hx hb dL_law_671 rfl (lh_at hl 1 rfl) ?_
  refine r_aload_n (x := (some h0)) hx hb dL_law_672 rfl (lh_at hl 0 rfl) ?_
  refine lv_iload_n (x := x3) hx hb dL_law_673 rfl (lh_at hl 3 rfl) ?_
  refine lv_iconst (v := (1 : Int32)) hx hb dL_law_674 (by decide) ?_
  refine lv_iadd hx hb dL_law_675 ?_
  obtain ⟨hs1, hs1i, h⟩ := h
  refine r_sld E w (hxa := by rw [hs1]) hX hbl hs1i dL_law_676 ?_
  refine r_aload_n (x := (some h0)) hx hb dL_law_677 rfl (lh_at hl 0 rfl) ?_
  refine lv_iload_n (x := x3) hx hb dL_law_678 rfl (lh_at hl 3 rfl) ?_
  refine lv_iconst (v := (2 : Int32)) hx hb dL_law_679 (by decide) ?_
  refine lv_iadd hx hb dL_law_680 ?_
  obtain ⟨hs2, hs2i, h⟩ := h
  refine r_sld E w (hxa := by rw [hs2]) hX hbl hs2i dL_law_681 ?_
  refine r_aload_n (x := (some h0)) hx hb dL_law_682 rfl (lh_at hl 0 rfl) ?_
  refine lv_iload_n (x := x3) hx hb dL_law_683 rfl (lh_at hl 3 rfl) ?_
  refine lv_iconst (v := (3 : Int32)) hx hb dL_law_684 (by decide) ?_
  refine lv_iadd hx hb dL_law_685 ?_
  obtain ⟨hs3, hs3i, h⟩ := h
  refine r_sld E w (hxa := by rw [hs3]) hX hbl hs3i dL_law_686 ?_
  obtain ⟨a4, ea4, h⟩ := h
  obtain ⟨ho5, h⟩ := h
  refine z_callVi E w ea4 ho5 cl_X5 yk_X5_middle ⟨Nat.le_of_ble_eq_true rfl, Nat.le_of_ble_eq_true rfl⟩ ⟨(show cells ≤ 600000 by omega), (show slots ≤ 7302249 by omega)⟩ rfl ml_L_70 im_X5_middle sl_X5_middle [iv (xs (Int32.toNatClampNeg (x3 + (1 : Int32)))), iv (xs (Int32.toNatClampNeg (x3 + (2 : Int32)))), iv (xs (Int32.toNatClampNeg (x3 + (3 : Int32))))] rfl rfl hl [] rfl (Nat.le_of_ble_eq_true rfl) (K_X5_middle h) dL_law_687 (fun r7 M6 H locs h w => ?_)
  refine r_aload_n (x := x2) hx hb dL_law_690 rfl (lh_at hl 2 rfl) ?_
  refine r_aload_n (x := (some h0)) hx hb dL_law_691 rfl (lh_at hl 0 rfl) ?_
  refine lv_iload_n (x := x3) hx hb dL_law_692 rfl (lh_at hl 3 rfl) ?_
  refine lv_iconst (v := (1 : Int32)) hx hb dL_law_693 (by decide) ?_
  refine lv_iadd hx hb dL_law_694 ?_
  obtain ⟨hs8, hs8i, h⟩ := h
  refine r_sld E w (hxa := by rw [hs8]) hX hbl hs8i dL_law_695 ?_
  refine r_aload_n (x := (some h0)) hx hb dL_law_696 rfl (lh_at hl 0 rfl) ?_
  refine lv_iload_n (x := x3) hx hb dL_law_697 rfl (lh_at hl 3 rfl) ?_
  refine lv_iconst (v := (2 : Int32)) hx hb dL_law_698 (by decide) ?_
  refine lv_iadd hx hb dL_law_699 ?_
  obtain ⟨hs9, hs9i, h⟩ := h
  refine r_sld E w (hxa := by rw [hs9]) hX hbl hs9i dL_law_700 ?_
  refine r_aload_n (x := (some h0)) hx hb dL_law_701 rfl (lh_at hl 0 rfl) ?_
  refine lv_iload_n (x := x3) hx hb dL_law_702 rfl (lh_at hl 3 rfl) ?_
  refine lv_iconst (v := (3 : Int32)) hx hb dL_law_703 (by decide) ?_
  refine lv_iadd hx hb dL_law_704 ?_
  obtain ⟨hs10, hs10i, h⟩ := h
  refine r_sld E w (hxa := by rw [hs10]) hX hbl hs10i dL_law_705 ?_
  obtain ⟨a11, ea11, h⟩ := h
  obtain ⟨ho12, h⟩ := h
  refine z_callVi E w ea11 ho12 cl_X6 yk_X6_middle ⟨Nat.le_of_ble_eq_true rfl, Nat.le_of_ble_eq_true rfl⟩ ⟨(show cells ≤ 600000 by omega), (show slots ≤ 7302249 by omega)⟩ rfl ml_L_73 im_X6_middle sl_X6_middle [iv (xs (Int32.toNatClampNeg (x3 + (1 : Int32)))), iv (xs (Int32.toNatClampNeg (x3 + (2 : Int32)))), iv (xs (Int32.toNatClampNeg (x3 + (3 : Int32))))] rfl rfl hl [iv r7] rfl (Nat.le_of_ble_eq_true rfl) (K_X6_middle h) dL_law_706 (fun r14 M13 H locs h w => ?_)
  refine lv_icmp_eq (tgt := 1211) hx hb dL_law_709 (by decide) (fun c15 => ?_) (fun c15 => ?_)
  · have h := h.1 c15
    refine r_iinc (k := 3) (x := x3) (v := (x3 + 7)) (lv' := [(3, iv (x3 + 7)), (0, rv (some h0)), (1, rv x1), (2, rv x2)]) hx hb dL_law_1211 hl rfl rfl (by decide) rfl (fun ls hl => ?_)
    refine lv_goto (tgt := 18) hx hb dL_law_1214 (by decide) ?_
    exact hK18 _ _ _ _ _ _ _ _ _ _ _ _ h w (lh_sub hl [1, 2, 3, 0] rfl) hg
  · have h := h.2 c15
    refine lv_iconst (v := (0 : Int32)) hx hb dL_law_712 (by decide) ?_
    exact r_lawret E w hr hlk h (show cells ≤ 600000 by omega) (show slots ≤ 7302249 by omega) dL_law_713
def B_L_law_628 (b L : Nat) (xs : Nat → Int32) (K18 : Nat → Option Nat → Option Nat → Int32 → Nat → Nat → Mm → Prop) (h0 : Nat) (x1 : Option Nat) (x2 : Option Nat) (x3 : Int32) (gc : Nat) (gs : Nat) (M : Mm) : Prop := (h0 = b ∧ vp_in (x3 + (1 : Int32)) L ∧ (h0 = b ∧ vp_in (x3 + (2 : Int32)) L ∧ (h0 = b ∧ vp_in (x3 + (3 : Int32)) L ∧ (∃ a4, x1 = some a4 ∧ (ok M a4 5 ∧ (B_X5_cut_0 (fun r7 M6 => (h0 = b ∧ vp_in (x3 + (1 : Int32)) L ∧ (h0 = b ∧ vp_in (x3 + (2 : Int32)) L ∧ (h0 = b ∧ vp_in (x3 + (3 : Int32)) L ∧ (∃ a11, x2 = some a11 ∧ (ok M6 a11 6 ∧ (B_X6_cut_0 (fun r14 M13 => ((r7 = r14 → K18 h0 x1 x2 (x3 + 7) gc gs M13) ∧ (¬ r7 = r14 → (0 : Int32) = 1))) a11 (xs (Int32.toNatClampNeg (x3 + (1 : Int32)))) (xs (Int32.toNatClampNeg (x3 + (2 : Int32)))) (xs (Int32.toNatClampNeg (x3 + (3 : Int32)))) M6))))))) a4 (xs (Int32.toNatClampNeg (x3 + (1 : Int32)))) (xs (Int32.toNatClampNeg (x3 + (2 : Int32)))) (xs (Int32.toNatClampNeg (x3 + (3 : Int32)))) M))))))
set_option maxHeartbeats 4000000 in
set_option maxRecDepth 100000 in
theorem k_L_law_628 {p : Program} {l : Launch} {e : Env} {s : State} {m : MethodId} {below : List Frame} {meth : Method} {c : Code} {D : va_G} {cy : Nat → ClassId} {b L : Nat} {xs : Nat → Int32} (E : Ex p m c cL_law 4 s #[Value.ref b] RL D cy (fun q : Nat => s.heap.size ≤ q)) (hr : meth.sig.returnType = ret) (hlk : meth.locks = false) (hX : va_X b L xs s s.heap) (hbl : b < s.heap.size) {K18 : Nat → Option Nat → Option Nat → Int32 → Nat → Nat → Mm → Prop} (hK18 : ∀ (h0 : Nat) (x1 : Option Nat) (x2 : Option Nat) (x3 : Int32) (gc : Nat) (gs : Nat) (M : Mm) (H : Heap) (locs : List Loc) (ls : Array Slot) (cells slots : Nat), K18 h0 x1 x2 x3 gc gs M → Wd D cy (fun q : Nat => s.heap.size ≤ q) s M H locs → lh ls 4 [(0, rv (some h0)), (1, rv x1), (2, rv x2), (3, iv x3)] → cells + gc ≤ 600000 ∧ slots + gs ≤ 7302249 → W p l e room_1 s m #[Value.ref b] below meth c H locs cells slots (lw_Z below #[Value.ref b] s) (F0 m 18 ls [])) : ∀ (h0 : Nat) (x1 : Option Nat) (x2 : Option Nat) (x3 : Int32) (gc : Nat) (gs : Nat) (M : Mm) (H : Heap) (locs : List Loc) (ls : Array Slot) (cells slots : Nat), B_L_law_628 b L xs K18 h0 x1 x2 x3 gc gs M → Wd D cy (fun q : Nat => s.heap.size ≤ q) s M H locs → lh ls 4 [(0, rv (some h0)), (1, rv x1), (2, rv x2), (3, iv x3)] → cells + gc ≤ 600000 ∧ slots + gs ≤ 7302249 → W p l e room_1 s m #[Value.ref b] below meth c H locs cells slots (lw_Z below #[Value.ref b] s) (F0 m 628 ls []) := by
  obtain ⟨hx, hb, hml, hown, hts⟩ := E.1
  intro h0 x1 x2 x3 gc gs M H locs ls cells slots h w hl hg
  unfold B_L_law_628 at h
  refine r_aload_n (x := x1) hx hb dL_law_628 rfl (lh_at hl 1 rfl) ?_
  refine r_aload_n (x := (some h0)) hx hb dL_law_629 rfl (lh_at hl 0 rfl) ?_
  refine lv_iload_n (x := x3) hx hb dL_law_630 rfl (lh_at hl 3 rfl) ?_
  refine lv_iconst (v := (1 : Int32)) hx hb dL_law_631 (by decide) ?_
  refine lv_iadd hx hb dL_law_632 ?_
  obtain ⟨hs1, hs1i, h⟩ := h
  refine r_sld E w (hxa := by rw [hs1]) hX hbl hs1i dL_law_633 ?_
  refine r_aload_n (x := (some h0)) hx hb dL_law_634 rfl (lh_at hl 0 rfl) ?_
  refine lv_iload_n (x := x3) hx hb dL_law_635 rfl (lh_at hl 3 rfl) ?_
  refine lv_iconst (v := (2 : Int32)) hx hb dL_law_636 (by decide) ?_
  refine lv_iadd hx hb dL_law_637 ?_
  obtain ⟨hs2, hs2i, h⟩ := h
  refine r_sld E w (hxa := by rw [hs2]) hX hbl hs2i dL_law_638 ?_
  refine r_aload_n (x := (some h0)) hx hb dL_law_639 rfl (lh_at hl 0 rfl) ?_
  refine lv_iload_n (x := x3) hx hb dL_law_640 rfl (lh_at hl 3 rfl) ?_
  refine lv_iconst (v := (3 : Int32)) hx hb dL_law_641 (by decide) ?_
  refine lv_iadd hx hb dL_law_642 ?_
  obtain ⟨hs3, hs3i, h⟩ := h
  refine r_sld E w (hxa := by rw [hs3]) hX hbl hs3i dL_law_643 ?_
  obtain ⟨a4, ea4, h⟩ := h
  obtain ⟨ho5, h⟩ := h
  refine z_callVi E w ea4 ho5 cl_X5 yk_X5_cut ⟨Nat.le_of_ble_eq_true rfl, Nat.le_of_ble_eq_true rfl⟩ ⟨(show cells ≤ 600000 by omega), (show slots ≤ 7302249 by omega)⟩ rfl ml_L_66 im_X5_cut sl_X5_cut [iv (xs (Int32.toNatClampNeg (x3 + (1 : Int32)))), iv (xs (Int32.toNatClampNeg (x3 + (2 : Int32)))), iv (xs (Int32.toNatClampNeg (x3 + (3 : Int32))))] rfl rfl hl [] rfl (Nat.le_of_ble_eq_true rfl) (K_X5_cut h) dL_law_644 (fun r7 M6 H locs h w => ?_)
  refine r_aload_n (x := x2) hx hb dL_law_647 rfl (lh_at hl 2 rfl) ?_
  refine r_aload_n (x := (some h0)) hx hb dL_law_648 rfl (lh_at hl 0 rfl) ?_
  refine lv_iload_n (x := x3) hx hb dL_law_649 rfl (lh_at hl 3 rfl) ?_
  refine lv_iconst (v := (1 : Int32)) hx hb dL_law_650 (by decide) ?_
  refine lv_iadd hx hb dL_law_651 ?_
  obtain ⟨hs8, hs8i, h⟩ := h
  refine r_sld E w (hxa := by rw [hs8]) hX hbl hs8i dL_law_652 ?_
  refine r_aload_n (x := (some h0)) hx hb dL_law_653 rfl (lh_at hl 0 rfl) ?_
  refine lv_iload_n (x := x3) hx hb dL_law_654 rfl (lh_at hl 3 rfl) ?_
  refine lv_iconst (v := (2 : Int32)) hx hb dL_law_655 (by decide) ?_
  refine lv_iadd hx hb dL_law_656 ?_
  obtain ⟨hs9, hs9i, h⟩ := h
  refine r_sld E w (hxa := by rw [hs9]) hX hbl hs9i dL_law_657 ?_
  refine r_aload_n (x := (some h0)) hx hb dL_law_658 rfl (lh_at hl 0 rfl) ?_
  refine lv_iload_n (x := x3) hx hb dL_law_659 rfl (lh_at hl 3 rfl) ?_
  refine lv_iconst (v := (3 : Int32)) hx hb dL_law_660 (by decide) ?_
  refine lv_iadd hx hb dL_law_661 ?_
  obtain ⟨hs10, hs10i, h⟩ := h
  refine r_sld E w (hxa := by rw [hs10]) hX hbl hs10i dL_law_662 ?_
  obtain ⟨a11, ea11, h⟩ := h
  obtain ⟨ho12, h⟩ := h
  refine z_callVi E w ea11 ho12 cl_X6 yk_X6_cut ⟨Nat.le_of_ble_eq_true rfl, Nat.le_of_ble_eq_true rfl⟩ ⟨(show cells ≤ 600000 by omega), (show slots ≤ 7302249 by omega)⟩ rfl ml_L_69 im_X6_cut sl_X6_cut [iv (xs (Int32.toNatClampNeg (x3 + (1 : Int32)))), iv (xs (Int32.toNatClampNeg (x3 + (2 : Int32)))), iv (xs (Int32.toNatClampNeg (x3 + (3 : Int32))))] rfl rfl hl [iv r7] rfl (Nat.le_of_ble_eq_true rfl) (K_X6_cut h) dL_law_663 (fun r14 M13 H locs h w => ?_)
  refine lv_icmp_eq (tgt := 1211) hx hb dL_law_666 (by decide) (fun c15 => ?_) (fun c15 => ?_)
  · have h := h.1 c15
    refine r_iinc (k := 3) (x := x3) (v := (x3 + 7)) (lv' := [(3, iv (x3 + 7)), (0, rv (some h0)), (1, rv x1), (2, rv x2)]) hx hb dL_law_1211 hl rfl rfl (by decide) rfl (fun ls hl => ?_)
    refine lv_goto (tgt := 18) hx hb dL_law_1214 (by decide) ?_
    exact hK18 _ _ _ _ _ _ _ _ _ _ _ _ h w (lh_sub hl [1, 2, 3, 0] rfl) hg
  · have h := h.2 c15
    refine lv_iconst (v := (0 : Int32)) hx hb dL_law_669 (by decide) ?_
    exact r_lawret E w hr hlk h (show cells ≤ 600000 by omega) (show slots ≤ 7302249 by omega) dL_law_670
def B_L_law_595 (b L : Nat) (xs : Nat → Int32) (K18 : Nat → Option Nat → Option Nat → Int32 → Nat → Nat → Mm → Prop) (h0 : Nat) (x1 : Option Nat) (x2 : Option Nat) (x3 : Int32) (gc : Nat) (gs : Nat) (M : Mm) : Prop := (h0 = b ∧ vp_in (x3 + (1 : Int32)) L ∧ (h0 = b ∧ vp_in (x3 + (2 : Int32)) L ∧ (∃ a3, x1 = some a3 ∧ (ok M a3 5 ∧ (B_X5_cuts_0 (fun r6 M5 => (h0 = b ∧ vp_in (x3 + (1 : Int32)) L ∧ (h0 = b ∧ vp_in (x3 + (2 : Int32)) L ∧ (∃ a9, x2 = some a9 ∧ (ok M5 a9 6 ∧ (B_X6_cuts_0 (fun r12 M11 => ((r6 = r12 → K18 h0 x1 x2 (x3 + 7) gc gs M11) ∧ (¬ r6 = r12 → (0 : Int32) = 1))) a9 (xs (Int32.toNatClampNeg (x3 + (1 : Int32)))) (xs (Int32.toNatClampNeg (x3 + (2 : Int32)))) M5)))))) a3 (xs (Int32.toNatClampNeg (x3 + (1 : Int32)))) (xs (Int32.toNatClampNeg (x3 + (2 : Int32)))) M)))))
set_option maxHeartbeats 4000000 in
set_option maxRecDepth 100000 in
theorem k_L_law_595 {p : Program} {l : Launch} {e : Env} {s : State} {m : MethodId} {below : List Frame} {meth : Method} {c : Code} {D : va_G} {cy : Nat → ClassId} {b L : Nat} {xs : Nat → Int32} (E : Ex p m c cL_law 4 s #[Value.ref b] RL D cy (fun q : Nat => s.heap.size ≤ q)) (hr : meth.sig.returnType = ret) (hlk : meth.locks = false) (hX : va_X b L xs s s.heap) (hbl : b < s.heap.size) {K18 : Nat → Option Nat → Option Nat → Int32 → Nat → Nat → Mm → Prop} (hK18 : ∀ (h0 : Nat) (x1 : Option Nat) (x2 : Option Nat) (x3 : Int32) (gc : Nat) (gs : Nat) (M : Mm) (H : Heap) (locs : List Loc) (ls : Array Slot) (cells slots : Nat), K18 h0 x1 x2 x3 gc gs M → Wd D cy (fun q : Nat => s.heap.size ≤ q) s M H locs → lh ls 4 [(0, rv (some h0)), (1, rv x1), (2, rv x2), (3, iv x3)] → cells + gc ≤ 600000 ∧ slots + gs ≤ 7302249 → W p l e room_1 s m #[Value.ref b] below meth c H locs cells slots (lw_Z below #[Value.ref b] s) (F0 m 18 ls [])) : ∀ (h0 : Nat) (x1 : Option Nat) (x2 : Option Nat) (x3 : Int32) (gc : Nat) (gs : Nat) (M : Mm) (H : Heap) (locs : List Loc) (ls : Array Slot) (cells slots : Nat), B_L_law_595 b L xs K18 h0 x1 x2 x3 gc gs M → Wd D cy (fun q : Nat => s.heap.size ≤ q) s M H locs → lh ls 4 [(0, rv (some h0)), (1, rv x1), (2, rv x2), (3, iv x3)] → cells + gc ≤ 600000 ∧ slots + gs ≤ 7302249 → W p l e room_1 s m #[Value.ref b] below meth c H locs cells slots (lw_Z below #[Value.ref b] s) (F0 m 595 ls []) := by
  obtain ⟨hx, hb, hml, hown, hts⟩ := E.1
  intro h0 x1 x2 x3 gc gs M H locs ls cells slots h w hl hg
  unfold B_L_law_595 at h
  refine r_aload_n (x := x1) hx hb dL_law_595 rfl (lh_at hl 1 rfl) ?_
  refine r_aload_n (x := (some h0)) hx hb dL_law_596 rfl (lh_at hl 0 rfl) ?_
  refine lv_iload_n (x := x3) hx hb dL_law_597 rfl (lh_at hl 3 rfl) ?_
  refine lv_iconst (v := (1 : Int32)) hx hb dL_law_598 (by decide) ?_
  refine lv_iadd hx hb dL_law_599 ?_
  obtain ⟨hs1, hs1i, h⟩ := h
  refine r_sld E w (hxa := by rw [hs1]) hX hbl hs1i dL_law_600 ?_
  refine r_aload_n (x := (some h0)) hx hb dL_law_601 rfl (lh_at hl 0 rfl) ?_
  refine lv_iload_n (x := x3) hx hb dL_law_602 rfl (lh_at hl 3 rfl) ?_
  refine lv_iconst (v := (2 : Int32)) hx hb dL_law_603 (by decide) ?_
  refine lv_iadd hx hb dL_law_604 ?_
  obtain ⟨hs2, hs2i, h⟩ := h
  refine r_sld E w (hxa := by rw [hs2]) hX hbl hs2i dL_law_605 ?_
  obtain ⟨a3, ea3, h⟩ := h
  obtain ⟨ho4, h⟩ := h
  refine z_callVi E w ea3 ho4 cl_X5 yk_X5_cuts ⟨Nat.le_of_ble_eq_true rfl, Nat.le_of_ble_eq_true rfl⟩ ⟨(show cells ≤ 600000 by omega), (show slots ≤ 7302249 by omega)⟩ rfl ml_L_62 im_X5_cuts sl_X5_cuts [iv (xs (Int32.toNatClampNeg (x3 + (1 : Int32)))), iv (xs (Int32.toNatClampNeg (x3 + (2 : Int32))))] rfl rfl hl [] rfl (Nat.le_of_ble_eq_true rfl) (K_X5_cuts h) dL_law_606 (fun r6 M5 H locs h w => ?_)
  refine r_aload_n (x := x2) hx hb dL_law_609 rfl (lh_at hl 2 rfl) ?_
  refine r_aload_n (x := (some h0)) hx hb dL_law_610 rfl (lh_at hl 0 rfl) ?_
  refine lv_iload_n (x := x3) hx hb dL_law_611 rfl (lh_at hl 3 rfl) ?_
  refine lv_iconst (v := (1 : Int32)) hx hb dL_law_612 (by decide) ?_
  refine lv_iadd hx hb dL_law_613 ?_
  obtain ⟨hs7, hs7i, h⟩ := h
  refine r_sld E w (hxa := by rw [hs7]) hX hbl hs7i dL_law_614 ?_
  refine r_aload_n (x := (some h0)) hx hb dL_law_615 rfl (lh_at hl 0 rfl) ?_
  refine lv_iload_n (x := x3) hx hb dL_law_616 rfl (lh_at hl 3 rfl) ?_
  refine lv_iconst (v := (2 : Int32)) hx hb dL_law_617 (by decide) ?_
  refine lv_iadd hx hb dL_law_618 ?_
  obtain ⟨hs8, hs8i, h⟩ := h
  refine r_sld E w (hxa := by rw [hs8]) hX hbl hs8i dL_law_619 ?_
  obtain ⟨a9, ea9, h⟩ := h
  obtain ⟨ho10, h⟩ := h
  refine z_callVi E w ea9 ho10 cl_X6 yk_X6_cuts ⟨Nat.le_of_ble_eq_true rfl, Nat.le_of_ble_eq_true rfl⟩ ⟨(show cells ≤ 600000 by omega), (show slots ≤ 7302249 by omega)⟩ rfl ml_L_65 im_X6_cuts sl_X6_cuts [iv (xs (Int32.toNatClampNeg (x3 + (1 : Int32)))), iv (xs (Int32.toNatClampNeg (x3 + (2 : Int32))))] rfl rfl hl [iv r6] rfl (Nat.le_of_ble_eq_true rfl) (K_X6_cuts h) dL_law_620 (fun r12 M11 H locs h w => ?_)
  refine lv_icmp_eq (tgt := 1211) hx hb dL_law_623 (by decide) (fun c13 => ?_) (fun c13 => ?_)
  · have h := h.1 c13
    refine r_iinc (k := 3) (x := x3) (v := (x3 + 7)) (lv' := [(3, iv (x3 + 7)), (0, rv (some h0)), (1, rv x1), (2, rv x2)]) hx hb dL_law_1211 hl rfl rfl (by decide) rfl (fun ls hl => ?_)
    refine lv_goto (tgt := 18) hx hb dL_law_1214 (by decide) ?_
    exact hK18 _ _ _ _ _ _ _ _ _ _ _ _ h w (lh_sub hl [1, 2, 3, 0] rfl) hg
  · have h := h.2 c13
    refine lv_iconst (v := (0 : Int32)) hx hb dL_law_626 (by decide) ?_
    exact r_lawret E w hr hlk h (show cells ≤ 600000 by omega) (show slots ≤ 7302249 by omega) dL_law_627
def B_L_law_572 (b L : Nat) (xs : Nat → Int32) (K18 : Nat → Option Nat → Option Nat → Int32 → Nat → Nat → Mm → Prop) (h0 : Nat) (x1 : Option Nat) (x2 : Option Nat) (x3 : Int32) (gc : Nat) (gs : Nat) (M : Mm) : Prop := (h0 = b ∧ vp_in (x3 + (1 : Int32)) L ∧ (∃ a2, x1 = some a2 ∧ (ok M a2 5 ∧ (B_X5_price_0 (fun r5 M4 => (h0 = b ∧ vp_in (x3 + (1 : Int32)) L ∧ (∃ a7, x2 = some a7 ∧ (ok M4 a7 6 ∧ (B_X6_price_0 (fun r10 M9 => ((r5 = r10 → K18 h0 x1 x2 (x3 + 7) gc gs M9) ∧ (¬ r5 = r10 → (0 : Int32) = 1))) a7 (xs (Int32.toNatClampNeg (x3 + (1 : Int32)))) M4))))) a2 (xs (Int32.toNatClampNeg (x3 + (1 : Int32)))) M))))
set_option maxHeartbeats 4000000 in
set_option maxRecDepth 100000 in
theorem k_L_law_572 {p : Program} {l : Launch} {e : Env} {s : State} {m : MethodId} {below : List Frame} {meth : Method} {c : Code} {D : va_G} {cy : Nat → ClassId} {b L : Nat} {xs : Nat → Int32} (E : Ex p m c cL_law 4 s #[Value.ref b] RL D cy (fun q : Nat => s.heap.size ≤ q)) (hr : meth.sig.returnType = ret) (hlk : meth.locks = false) (hX : va_X b L xs s s.heap) (hbl : b < s.heap.size) {K18 : Nat → Option Nat → Option Nat → Int32 → Nat → Nat → Mm → Prop} (hK18 : ∀ (h0 : Nat) (x1 : Option Nat) (x2 : Option Nat) (x3 : Int32) (gc : Nat) (gs : Nat) (M : Mm) (H : Heap) (locs : List Loc) (ls : Array Slot) (cells slots : Nat), K18 h0 x1 x2 x3 gc gs M → Wd D cy (fun q : Nat => s.heap.size ≤ q) s M H locs → lh ls 4 [(0, rv (some h0)), (1, rv x1), (2, rv x2), (3, iv x3)] → cells + gc ≤ 600000 ∧ slots + gs ≤ 7302249 → W p l e room_1 s m #[Value.ref b] below meth c H locs cells slots (lw_Z below #[Value.ref b] s) (F0 m 18 ls [])) : ∀ (h0 : Nat) (x1 : Option Nat) (x2 : Option Nat) (x3 : Int32) (gc : Nat) (gs : Nat) (M : Mm) (H : Heap) (locs : List Loc) (ls : Array Slot) (cells slots : Nat), B_L_law_572 b L xs K18 h0 x1 x2 x3 gc gs M → Wd D cy (fun q : Nat => s.heap.size ≤ q) s M H locs → lh ls 4 [(0, rv (some h0)), (1, rv x1), (2, rv x2), (3, iv x3)] → cells + gc ≤ 600000 ∧ slots + gs ≤ 7302249 → W p l e room_1 s m #[Value.ref b] below meth c H locs cells slots (lw_Z below #[Value.ref b] s) (F0 m 572 ls []) := by
  obtain ⟨hx, hb, hml, hown, hts⟩ := E.1
  intro h0 x1 x2 x3 gc gs M H locs ls cells slots h w hl hg
  unfold B_L_law_572 at h
  refine r_aload_n (x := x1) hx hb dL_law_572 rfl (lh_at hl 1 rfl) ?_
  refine r_aload_n (x := (some h0)) hx hb dL_law_573 rfl (lh_at hl 0 rfl) ?_
  refine lv_iload_n (x := x3) hx hb dL_law_574 rfl (lh_at hl 3 rfl) ?_
  refine lv_iconst (v := (1 : Int32)) hx hb dL_law_575 (by decide) ?_
  refine lv_iadd hx hb dL_law_576 ?_
  obtain ⟨hs1, hs1i, h⟩ := h
  refine r_sld E w (hxa := by rw [hs1]) hX hbl hs1i dL_law_577 ?_
  obtain ⟨a2, ea2, h⟩ := h
  obtain ⟨ho3, h⟩ := h
  refine z_callVi E w ea2 ho3 cl_X5 yk_X5_price ⟨Nat.le_of_ble_eq_true rfl, Nat.le_of_ble_eq_true rfl⟩ ⟨(show cells ≤ 600000 by omega), (show slots ≤ 7302249 by omega)⟩ rfl ml_L_58 im_X5_price sl_X5_price [iv (xs (Int32.toNatClampNeg (x3 + (1 : Int32))))] rfl rfl hl [] rfl (Nat.le_of_ble_eq_true rfl) (K_X5_price h) dL_law_578 (fun r5 M4 H locs h w => ?_)
  refine r_aload_n (x := x2) hx hb dL_law_581 rfl (lh_at hl 2 rfl) ?_
  refine r_aload_n (x := (some h0)) hx hb dL_law_582 rfl (lh_at hl 0 rfl) ?_
  refine lv_iload_n (x := x3) hx hb dL_law_583 rfl (lh_at hl 3 rfl) ?_
  refine lv_iconst (v := (1 : Int32)) hx hb dL_law_584 (by decide) ?_
  refine lv_iadd hx hb dL_law_585 ?_
  obtain ⟨hs6, hs6i, h⟩ := h
  refine r_sld E w (hxa := by rw [hs6]) hX hbl hs6i dL_law_586 ?_
  obtain ⟨a7, ea7, h⟩ := h
  obtain ⟨ho8, h⟩ := h
  refine z_callVi E w ea7 ho8 cl_X6 yk_X6_price ⟨Nat.le_of_ble_eq_true rfl, Nat.le_of_ble_eq_true rfl⟩ ⟨(show cells ≤ 600000 by omega), (show slots ≤ 7302249 by omega)⟩ rfl ml_L_61 im_X6_price sl_X6_price [iv (xs (Int32.toNatClampNeg (x3 + (1 : Int32))))] rfl rfl hl [iv r5] rfl (Nat.le_of_ble_eq_true rfl) (K_X6_price h) dL_law_587 (fun r10 M9 H locs h w => ?_)
  refine lv_icmp_eq (tgt := 1211) hx hb dL_law_590 (by decide) (fun c11 => ?_) (fun c11 => ?_)
  · have h := h.1 c11
    refine r_iinc (k := 3) (x := x3) (v := (x3 + 7)) (lv' := [(3, iv (x3 + 7)), (0, rv (some h0)), (1, rv x1), (2, rv x2)]) hx hb dL_law_1211 hl rfl rfl (by decide) rfl (fun ls hl => ?_)
    refine lv_goto (tgt := 18) hx hb dL_law_1214 (by decide) ?_
    exact hK18 _ _ _ _ _ _ _ _ _ _ _ _ h w (lh_sub hl [1, 2, 3, 0] rfl) hg
  · have h := h.2 c11
    refine lv_iconst (v := (0 : Int32)) hx hb dL_law_593 (by decide) ?_
    exact r_lawret E w hr hlk h (show cells ≤ 600000 by omega) (show slots ≤ 7302249 by omega) dL_law_594
def B_L_law_539 (b L : Nat) (xs : Nat → Int32) (K18 : Nat → Option Nat → Option Nat → Int32 → Nat → Nat → Mm → Prop) (h0 : Nat) (x1 : Option Nat) (x2 : Option Nat) (x3 : Int32) (gc : Nat) (gs : Nat) (M : Mm) : Prop := (h0 = b ∧ vp_in (x3 + (1 : Int32)) L ∧ (h0 = b ∧ vp_in (x3 + (2 : Int32)) L ∧ (∃ a3, x1 = some a3 ∧ (ok M a3 5 ∧ (B_X5_mean_0 (fun r6 M5 => (h0 = b ∧ vp_in (x3 + (1 : Int32)) L ∧ (h0 = b ∧ vp_in (x3 + (2 : Int32)) L ∧ (∃ a9, x2 = some a9 ∧ (ok M5 a9 6 ∧ (B_X6_mean_0 (fun r12 M11 => ((r6 = r12 → K18 h0 x1 x2 (x3 + 7) gc gs M11) ∧ (¬ r6 = r12 → (0 : Int32) = 1))) a9 (xs (Int32.toNatClampNeg (x3 + (1 : Int32)))) (xs (Int32.toNatClampNeg (x3 + (2 : Int32)))) M5)))))) a3 (xs (Int32.toNatClampNeg (x3 + (1 : Int32)))) (xs (Int32.toNatClampNeg (x3 + (2 : Int32)))) M)))))
set_option maxHeartbeats 4000000 in
set_option maxRecDepth 100000 in
theorem k_L_law_539 {p : Program} {l : Launch} {e : Env} {s : State} {m : MethodId} {below : List Frame} {meth : Method} {c : Code} {D : va_G} {cy : Nat → ClassId} {b L : Nat} {xs : Nat → Int32} (E : Ex p m c cL_law 4 s #[Value.ref b] RL D cy (fun q : Nat => s.heap.size ≤ q)) (hr : meth.sig.returnType = ret) (hlk : meth.locks = false) (hX : va_X b L xs s s.heap) (hbl : b < s.heap.size) {K18 : Nat → Option Nat → Option Nat → Int32 → Nat → Nat → Mm → Prop} (hK18 : ∀ (h0 : Nat) (x1 : Option Nat) (x2 : Option Nat) (x3 : Int32) (gc : Nat) (gs : Nat) (M : Mm) (H : Heap) (locs : List Loc) (ls : Array Slot) (cells slots : Nat), K18 h0 x1 x2 x3 gc gs M → Wd D cy (fun q : Nat => s.heap.size ≤ q) s M H locs → lh ls 4 [(0, rv (some h0)), (1, rv x1), (2, rv x2), (3, iv x3)] → cells + gc ≤ 600000 ∧ slots + gs ≤ 7302249 → W p l e room_1 s m #[Value.ref b] below meth c H locs cells slots (lw_Z below #[Value.ref b] s) (F0 m 18 ls [])) : ∀ (h0 : Nat) (x1 : Option Nat) (x2 : Option Nat) (x3 : Int32) (gc : Nat) (gs : Nat) (M : Mm) (H : Heap) (locs : List Loc) (ls : Array Slot) (cells slots : Nat), B_L_law_539 b L xs K18 h0 x1 x2 x3 gc gs M → Wd D cy (fun q : Nat => s.heap.size ≤ q) s M H locs → lh ls 4 [(0, rv (some h0)), (1, rv x1), (2, rv x2), (3, iv x3)] → cells + gc ≤ 600000 ∧ slots + gs ≤ 7302249 → W p l e room_1 s m #[Value.ref b] below meth c H locs cells slots (lw_Z below #[Value.ref b] s) (F0 m 539 ls []) := by
  obtain ⟨hx, hb, hml, hown, hts⟩ := E.1
  intro h0 x1 x2 x3 gc gs M H locs ls cells slots h w hl hg
  unfold B_L_law_539 at h
  refine r_aload_n (x := x1) hx hb dL_law_539 rfl (lh_at hl 1 rfl) ?_
  refine r_aload_n (x := (some h0)) hx hb dL_law_540 rfl (lh_at hl 0 rfl) ?_
  refine lv_iload_n (x := x3) hx hb dL_law_541 rfl (lh_at hl 3 rfl) ?_
  refine lv_iconst (v := (1 : Int32)) hx hb dL_law_542 (by decide) ?_
  refine lv_iadd hx hb dL_law_543 ?_
  obtain ⟨hs1, hs1i, h⟩ := h
  refine r_sld E w (hxa := by rw [hs1]) hX hbl hs1i dL_law_544 ?_
  refine r_aload_n (x := (some h0)) hx hb dL_law_545 rfl (lh_at hl 0 rfl) ?_
  refine lv_iload_n (x := x3) hx hb dL_law_546 rfl (lh_at hl 3 rfl) ?_
  refine lv_iconst (v := (2 : Int32)) hx hb dL_law_547 (by decide) ?_
  refine lv_iadd hx hb dL_law_548 ?_
  obtain ⟨hs2, hs2i, h⟩ := h
  refine r_sld E w (hxa := by rw [hs2]) hX hbl hs2i dL_law_549 ?_
  obtain ⟨a3, ea3, h⟩ := h
  obtain ⟨ho4, h⟩ := h
  refine z_callVi E w ea3 ho4 cl_X5 yk_X5_mean ⟨Nat.le_of_ble_eq_true rfl, Nat.le_of_ble_eq_true rfl⟩ ⟨(show cells ≤ 600000 by omega), (show slots ≤ 7302249 by omega)⟩ rfl ml_L_54 im_X5_mean sl_X5_mean [iv (xs (Int32.toNatClampNeg (x3 + (1 : Int32)))), iv (xs (Int32.toNatClampNeg (x3 + (2 : Int32))))] rfl rfl hl [] rfl (Nat.le_of_ble_eq_true rfl) (K_X5_mean h) dL_law_550 (fun r6 M5 H locs h w => ?_)
  refine r_aload_n (x := x2) hx hb dL_law_553 rfl (lh_at hl 2 rfl) ?_
  refine r_aload_n (x := (some h0)) hx hb dL_law_554 rfl (lh_at hl 0 rfl) ?_
  refine lv_iload_n (x := x3) hx hb dL_law_555 rfl (lh_at hl 3 rfl) ?_
  refine lv_iconst (v := (1 : Int32)) hx hb dL_law_556 (by decide) ?_
  refine lv_iadd hx hb dL_law_557 ?_
  obtain ⟨hs7, hs7i, h⟩ := h
  refine r_sld E w (hxa := by rw [hs7]) hX hbl hs7i dL_law_558 ?_
  refine r_aload_n (x := (some h0)) hx hb dL_law_559 rfl (lh_at hl 0 rfl) ?_
  refine lv_iload_n (x := x3) hx hb dL_law_560 rfl (lh_at hl 3 rfl) ?_
  refine lv_iconst (v := (2 : Int32)) hx hb dL_law_561 (by decide) ?_
  refine lv_iadd hx hb dL_law_562 ?_
  obtain ⟨hs8, hs8i, h⟩ := h
  refine r_sld E w (hxa := by rw [hs8]) hX hbl hs8i dL_law_563 ?_
  obtain ⟨a9, ea9, h⟩ := h
  obtain ⟨ho10, h⟩ := h
  refine z_callVi E w ea9 ho10 cl_X6 yk_X6_mean ⟨Nat.le_of_ble_eq_true rfl, Nat.le_of_ble_eq_true rfl⟩ ⟨(show cells ≤ 600000 by omega), (show slots ≤ 7302249 by omega)⟩ rfl ml_L_57 im_X6_mean sl_X6_mean [iv (xs (Int32.toNatClampNeg (x3 + (1 : Int32)))), iv (xs (Int32.toNatClampNeg (x3 + (2 : Int32))))] rfl rfl hl [iv r6] rfl (Nat.le_of_ble_eq_true rfl) (K_X6_mean h) dL_law_564 (fun r12 M11 H locs h w => ?_)
  refine lv_icmp_eq (tgt := 1211) hx hb dL_law_567 (by decide) (fun c13 => ?_) (fun c13 => ?_)
  · have h := h.1 c13
    refine r_iinc (k := 3) (x := x3) (v := (x3 + 7)) (lv' := [(3, iv (x3 + 7)), (0, rv (some h0)), (1, rv x1), (2, rv x2)]) hx hb dL_law_1211 hl rfl rfl (by decide) rfl (fun ls hl => ?_)
    refine lv_goto (tgt := 18) hx hb dL_law_1214 (by decide) ?_
    exact hK18 _ _ _ _ _ _ _ _ _ _ _ _ h w (lh_sub hl [1, 2, 3, 0] rfl) hg
  · have h := h.2 c13
    refine lv_iconst (v := (0 : Int32)) hx hb dL_law_570 (by decide) ?_
    exact r_lawret E w hr hlk h (show cells ≤ 600000 by omega) (show slots ≤ 7302249 by omega) dL_law_571
def B_L_law_496 (b L : Nat) (xs : Nat → Int32) (K18 : Nat → Option Nat → Option Nat → Int32 → Nat → Nat → Mm → Prop) (h0 : Nat) (x1 : Option Nat) (x2 : Option Nat) (x3 : Int32) (gc : Nat) (gs : Nat) (M : Mm) : Prop := (h0 = b ∧ vp_in (x3 + (1 : Int32)) L ∧ (h0 = b ∧ vp_in (x3 + (2 : Int32)) L ∧ (h0 = b ∧ vp_in (x3 + (3 : Int32)) L ∧ (∃ a4, x1 = some a4 ∧ (ok M a4 5 ∧ (B_X5_rank_0 (fun r7 M6 => (h0 = b ∧ vp_in (x3 + (1 : Int32)) L ∧ (h0 = b ∧ vp_in (x3 + (2 : Int32)) L ∧ (h0 = b ∧ vp_in (x3 + (3 : Int32)) L ∧ (∃ a11, x2 = some a11 ∧ (ok M6 a11 6 ∧ (B_X6_rank_0 (fun r14 M13 => ((r7 = r14 → K18 h0 x1 x2 (x3 + 7) gc gs M13) ∧ (¬ r7 = r14 → (0 : Int32) = 1))) a11 (xs (Int32.toNatClampNeg (x3 + (1 : Int32)))) (xs (Int32.toNatClampNeg (x3 + (2 : Int32)))) (xs (Int32.toNatClampNeg (x3 + (3 : Int32)))) M6))))))) a4 (xs (Int32.toNatClampNeg (x3 + (1 : Int32)))) (xs (Int32.toNatClampNeg (x3 + (2 : Int32)))) (xs (Int32.toNatClampNeg (x3 + (3 : Int32)))) M))))))
set_option maxHeartbeats 4000000 in
set_option maxRecDepth 100000 in
theorem k_L_law_496 {p : Program} {l : Launch} {e : Env} {s : State} {m : MethodId} {below : List Frame} {meth : Method} {c : Code} {D : va_G} {cy : Nat → ClassId} {b L : Nat} {xs : Nat → Int32} (E : Ex p m c cL_law 4 s #[Value.ref b] RL D cy (fun q : Nat => s.heap.size ≤ q)) (hr : meth.sig.returnType = ret) (hlk : meth.locks = false) (hX : va_X b L xs s s.heap) (hbl : b < s.heap.size) {K18 : Nat → Option Nat → Option Nat → Int32 → Nat → Nat → Mm → Prop} (hK18 : ∀ (h0 : Nat) (x1 : Option Nat) (x2 : Option Nat) (x3 : Int32) (gc : Nat) (gs : Nat) (M : Mm) (H : Heap) (locs : List Loc) (ls : Array Slot) (cells slots : Nat), K18 h0 x1 x2 x3 gc gs M → Wd D cy (fun q : Nat => s.heap.size ≤ q) s M H locs → lh ls 4 [(0, rv (some h0)), (1, rv x1), (2, rv x2), (3, iv x3)] → cells + gc ≤ 600000 ∧ slots + gs ≤ 7302249 → W p l e room_1 s m #[Value.ref b] below meth c H locs cells slots (lw_Z below #[Value.ref b] s) (F0 m 18 ls [])) : ∀ (h0 : Nat) (x1 : Option Nat) (x2 : Option Nat) (x3 : Int32) (gc : Nat) (gs : Nat) (M : Mm) (H : Heap) (locs : List Loc) (ls : Array Slot) (cells slots : Nat), B_L_law_496 b L xs K18 h0 x1 x2 x3 gc gs M → Wd D cy (fun q : Nat => s.heap.size ≤ q) s M H locs → lh ls 4 [(0, rv (some h0)), (1, rv x1), (2, rv x2), (3, iv x3)] → cells + gc ≤ 600000 ∧ slots + gs ≤ 7302249 → W p l e room_1 s m #[Value.ref b] below meth c H locs cells slots (lw_Z below #[Value.ref b] s) (F0 m 496 ls []) := by
  obtain ⟨hx, hb, hml, hown, hts⟩ := E.1
  intro h0 x1 x2 x3 gc gs M H locs ls cells slots h w hl hg
  unfold B_L_law_496 at h
  refine r_aload_n (x := x1) hx hb dL_law_496 rfl (lh_at hl 1 rfl) ?_
  refine r_aload_n (x := (some h0)) hx hb dL_law_497 rfl (lh_at hl 0 rfl) ?_
  refine lv_iload_n (x := x3) hx hb dL_law_498 rfl (lh_at hl 3 rfl) ?_
  refine lv_iconst (v := (1 : Int32)) hx hb dL_law_499 (by decide) ?_
  refine lv_iadd hx hb dL_law_500 ?_
  obtain ⟨hs1, hs1i, h⟩ := h
  refine r_sld E w (hxa := by rw [hs1]) hX hbl hs1i dL_law_501 ?_
  refine r_aload_n (x := (some h0)) hx hb dL_law_502 rfl (lh_at hl 0 rfl) ?_
  refine lv_iload_n (x := x3) hx hb dL_law_503 rfl (lh_at hl 3 rfl) ?_
  refine lv_iconst (v := (2 : Int32)) hx hb dL_law_504 (by decide) ?_
  refine lv_iadd hx hb dL_law_505 ?_
  obtain ⟨hs2, hs2i, h⟩ := h
  refine r_sld E w (hxa := by rw [hs2]) hX hbl hs2i dL_law_506 ?_
  refine r_aload_n (x := (some h0)) hx hb dL_law_507 rfl (lh_at hl 0 rfl) ?_
  refine lv_iload_n (x := x3) hx hb dL_law_508 rfl (lh_at hl 3 rfl) ?_
  refine lv_iconst (v := (3 : Int32)) hx hb dL_law_509 (by decide) ?_
  refine lv_iadd hx hb dL_law_510 ?_
  obtain ⟨hs3, hs3i, h⟩ := h
  refine r_sld E w (hxa := by rw [hs3]) hX hbl hs3i dL_law_511 ?_
  obtain ⟨a4, ea4, h⟩ := h
  obtain ⟨ho5, h⟩ := h
  refine z_callVi E w ea4 ho5 cl_X5 yk_X5_rank ⟨Nat.le_of_ble_eq_true rfl, Nat.le_of_ble_eq_true rfl⟩ ⟨(show cells ≤ 600000 by omega), (show slots ≤ 7302249 by omega)⟩ rfl ml_L_50 im_X5_rank sl_X5_rank [iv (xs (Int32.toNatClampNeg (x3 + (1 : Int32)))), iv (xs (Int32.toNatClampNeg (x3 + (2 : Int32)))), iv (xs (Int32.toNatClampNeg (x3 + (3 : Int32))))] rfl rfl hl [] rfl (Nat.le_of_ble_eq_true rfl) (K_X5_rank h) dL_law_512 (fun r7 M6 H locs h w => ?_)
  refine r_aload_n (x := x2) hx hb dL_law_515 rfl (lh_at hl 2 rfl) ?_
  refine r_aload_n (x := (some h0)) hx hb dL_law_516 rfl (lh_at hl 0 rfl) ?_
  refine lv_iload_n (x := x3) hx hb dL_law_517 rfl (lh_at hl 3 rfl) ?_
  refine lv_iconst (v := (1 : Int32)) hx hb dL_law_518 (by decide) ?_
  refine lv_iadd hx hb dL_law_519 ?_
  obtain ⟨hs8, hs8i, h⟩ := h
  refine r_sld E w (hxa := by rw [hs8]) hX hbl hs8i dL_law_520 ?_
  refine r_aload_n (x := (some h0)) hx hb dL_law_521 rfl (lh_at hl 0 rfl) ?_
  refine lv_iload_n (x := x3) hx hb dL_law_522 rfl (lh_at hl 3 rfl) ?_
  refine lv_iconst (v := (2 : Int32)) hx hb dL_law_523 (by decide) ?_
  refine lv_iadd hx hb dL_law_524 ?_
  obtain ⟨hs9, hs9i, h⟩ := h
  refine r_sld E w (hxa := by rw [hs9]) hX hbl hs9i dL_law_525 ?_
  refine r_aload_n (x := (some h0)) hx hb dL_law_526 rfl (lh_at hl 0 rfl) ?_
  refine lv_iload_n (x := x3) hx hb dL_law_527 rfl (lh_at hl 3 rfl) ?_
  refine lv_iconst (v := (3 : Int32)) hx hb dL_law_528 (by decide) ?_
  refine lv_iadd hx hb dL_law_529 ?_
  obtain ⟨hs10, hs10i, h⟩ := h
  refine r_sld E w (hxa := by rw [hs10]) hX hbl hs10i dL_law_530 ?_
  obtain ⟨a11, ea11, h⟩ := h
  obtain ⟨ho12, h⟩ := h
  refine z_callVi E w ea11 ho12 cl_X6 yk_X6_rank ⟨Nat.le_of_ble_eq_true rfl, Nat.le_of_ble_eq_true rfl⟩ ⟨(show cells ≤ 600000 by omega), (show slots ≤ 7302249 by omega)⟩ rfl ml_L_53 im_X6_rank sl_X6_rank [iv (xs (Int32.toNatClampNeg (x3 + (1 : Int32)))), iv (xs (Int32.toNatClampNeg (x3 + (2 : Int32)))), iv (xs (Int32.toNatClampNeg (x3 + (3 : Int32))))] rfl rfl hl [iv r7] rfl (Nat.le_of_ble_eq_true rfl) (K_X6_rank h) dL_law_531 (fun r14 M13 H locs h w => ?_)
  refine lv_icmp_eq (tgt := 1211) hx hb dL_law_534 (by decide) (fun c15 => ?_) (fun c15 => ?_)
  · have h := h.1 c15
    refine r_iinc (k := 3) (x := x3) (v := (x3 + 7)) (lv' := [(3, iv (x3 + 7)), (0, rv (some h0)), (1, rv x1), (2, rv x2)]) hx hb dL_law_1211 hl rfl rfl (by decide) rfl (fun ls hl => ?_)
    refine lv_goto (tgt := 18) hx hb dL_law_1214 (by decide) ?_
    exact hK18 _ _ _ _ _ _ _ _ _ _ _ _ h w (lh_sub hl [1, 2, 3, 0] rfl) hg
  · have h := h.2 c15
    refine lv_iconst (v := (0 : Int32)) hx hb dL_law_537 (by decide) ?_
    exact r_lawret E w hr hlk h (show cells ≤ 600000 by omega) (show slots ≤ 7302249 by omega) dL_law_538
def B_L_law_421 (b L : Nat) (xs : Nat → Int32) (K18 : Nat → Option Nat → Option Nat → Int32 → Nat → Nat → Mm → Prop) (h0 : Nat) (x1 : Option Nat) (x2 : Option Nat) (x3 : Int32) (gc : Nat) (gs : Nat) (M : Mm) : Prop := (h0 = b ∧ vp_in (x3 + (1 : Int32)) L ∧ (h0 = b ∧ vp_in (x3 + (2 : Int32)) L ∧ (h0 = b ∧ vp_in (x3 + (3 : Int32)) L ∧ (h0 = b ∧ vp_in (x3 + (4 : Int32)) L ∧ (h0 = b ∧ vp_in (x3 + (5 : Int32)) L ∧ (h0 = b ∧ vp_in (x3 + (6 : Int32)) L ∧ (∃ a7, x1 = some a7 ∧ (ok M a7 5 ∧ (B_X5_copy_0 (fun r10 M9 => (h0 = b ∧ vp_in (x3 + (1 : Int32)) L ∧ (h0 = b ∧ vp_in (x3 + (2 : Int32)) L ∧ (h0 = b ∧ vp_in (x3 + (3 : Int32)) L ∧ (h0 = b ∧ vp_in (x3 + (4 : Int32)) L ∧ (h0 = b ∧ vp_in (x3 + (5 : Int32)) L ∧ (h0 = b ∧ vp_in (x3 + (6 : Int32)) L ∧ (∃ a17, x2 = some a17 ∧ (ok M9 a17 6 ∧ (B_X6_copy_0 (fun r20 M19 => ((r10 = r20 → K18 h0 x1 x2 (x3 + 7) gc gs M19) ∧ (¬ r10 = r20 → (0 : Int32) = 1))) a17 (xs (Int32.toNatClampNeg (x3 + (1 : Int32)))) (xs (Int32.toNatClampNeg (x3 + (2 : Int32)))) (xs (Int32.toNatClampNeg (x3 + (3 : Int32)))) (xs (Int32.toNatClampNeg (x3 + (4 : Int32)))) (xs (Int32.toNatClampNeg (x3 + (5 : Int32)))) (xs (Int32.toNatClampNeg (x3 + (6 : Int32)))) M9)))))))))) a7 (xs (Int32.toNatClampNeg (x3 + (1 : Int32)))) (xs (Int32.toNatClampNeg (x3 + (2 : Int32)))) (xs (Int32.toNatClampNeg (x3 + (3 : Int32)))) (xs (Int32.toNatClampNeg (x3 + (4 : Int32)))) (xs (Int32.toNatClampNeg (x3 + (5 : Int32)))) (xs (Int32.toNatClampNeg (x3 + (6 : Int32)))) M)))))))))
set_option maxHeartbeats 4000000 in
set_option maxRecDepth 100000 in
theorem k_L_law_421 {p : Program} {l : Launch} {e : Env} {s : State} {m : MethodId} {below : List Frame} {meth : Method} {c : Code} {D : va_G} {cy : Nat → ClassId} {b L : Nat} {xs : Nat → Int32} (E : Ex p m c cL_law 4 s #[Value.ref b] RL D cy (fun q : Nat => s.heap.size ≤ q)) (hr : meth.sig.returnType = ret) (hlk : meth.locks = false) (hX : va_X b L xs s s.heap) (hbl : b < s.heap.size) {K18 : Nat → Option Nat → Option Nat → Int32 → Nat → Nat → Mm → Prop} (hK18 : ∀ (h0 : Nat) (x1 : Option Nat) (x2 : Option Nat) (x3 : Int32) (gc : Nat) (gs : Nat) (M : Mm) (H : Heap) (locs : List Loc) (ls : Array Slot) (cells slots : Nat), K18 h0 x1 x2 x3 gc gs M → Wd D cy (fun q : Nat => s.heap.size ≤ q) s M H locs → lh ls 4 [(0, rv (some h0)), (1, rv x1), (2, rv x2), (3, iv x3)] → cells + gc ≤ 600000 ∧ slots + gs ≤ 7302249 → W p l e room_1 s m #[Value.ref b] below meth c H locs cells slots (lw_Z below #[Value.ref b] s) (F0 m 18 ls [])) : ∀ (h0 : Nat) (x1 : Option Nat) (x2 : Option Nat) (x3 : Int32) (gc : Nat) (gs : Nat) (M : Mm) (H : Heap) (locs : List Loc) (ls : Array Slot) (cells slots : Nat), B_L_law_421 b L xs K18 h0 x1 x2 x3 gc gs M → Wd D cy (fun q : Nat => s.heap.size ≤ q) s M H locs → lh ls 4 [(0, rv (some h0)), (1, rv x1), (2, rv x2), (3, iv x3)] → cells + gc ≤ 600000 ∧ slots + gs ≤ 7302249 → W p l e room_1 s m #[Value.ref b] below meth c H locs cells slots (lw_Z below #[Value.ref b] s) (F0 m 421 ls []) := by
  obtain ⟨hx, hb, hml, hown, hts⟩ := E.1
  intro h0 x1 x2 x3 gc gs M H locs ls cells slots h w hl hg
  unfold B_L_law_421 at h
  refine r_aload_n (x := x1) hx hb dL_law_421 rfl (lh_at hl 1 rfl) ?_
  refine r_aload_n (x := (some h0)) hx hb dL_law_422 rfl (lh_at hl 0 rfl) ?_
  refine lv_iload_n (x := x3) hx hb dL_law_423 rfl (lh_at hl 3 rfl) ?_
  refine lv_iconst (v := (1 : Int32)) hx hb dL_law_424 (by decide) ?_
  refine lv_iadd hx hb dL_law_425 ?_
  obtain ⟨hs1, hs1i, h⟩ := h
  refine r_sld E w (hxa := by rw [hs1]) hX hbl hs1i dL_law_426 ?_
  refine r_aload_n (x := (some h0)) hx hb dL_law_427 rfl (lh_at hl 0 rfl) ?_
  refine lv_iload_n (x := x3) hx hb dL_law_428 rfl (lh_at hl 3 rfl) ?_
  refine lv_iconst (v := (2 : Int32)) hx hb dL_law_429 (by decide) ?_
  refine lv_iadd hx hb dL_law_430 ?_
  obtain ⟨hs2, hs2i, h⟩ := h
  refine r_sld E w (hxa := by rw [hs2]) hX hbl hs2i dL_law_431 ?_
  refine r_aload_n (x := (some h0)) hx hb dL_law_432 rfl (lh_at hl 0 rfl) ?_
  refine lv_iload_n (x := x3) hx hb dL_law_433 rfl (lh_at hl 3 rfl) ?_
  refine lv_iconst (v := (3 : Int32)) hx hb dL_law_434 (by decide) ?_
  refine lv_iadd hx hb dL_law_435 ?_
  obtain ⟨hs3, hs3i, h⟩ := h
  refine r_sld E w (hxa := by rw [hs3]) hX hbl hs3i dL_law_436 ?_
  refine r_aload_n (x := (some h0)) hx hb dL_law_437 rfl (lh_at hl 0 rfl) ?_
  refine lv_iload_n (x := x3) hx hb dL_law_438 rfl (lh_at hl 3 rfl) ?_
  refine lv_iconst (v := (4 : Int32)) hx hb dL_law_439 (by decide) ?_
  refine lv_iadd hx hb dL_law_440 ?_
  obtain ⟨hs4, hs4i, h⟩ := h
  refine r_sld E w (hxa := by rw [hs4]) hX hbl hs4i dL_law_441 ?_
  refine r_aload_n (x := (some h0)) hx hb dL_law_442 rfl (lh_at hl 0 rfl) ?_
  refine lv_iload_n (x := x3) hx hb dL_law_443 rfl (lh_at hl 3 rfl) ?_
  refine lv_iconst (v := (5 : Int32)) hx hb dL_law_444 (by decide) ?_
  refine lv_iadd hx hb dL_law_445 ?_
  obtain ⟨hs5, hs5i, h⟩ := h
  refine r_sld E w (hxa := by rw [hs5]) hX hbl hs5i dL_law_446 ?_
  refine r_aload_n (x := (some h0)) hx hb dL_law_447 rfl (lh_at hl 0 rfl) ?_
  refine lv_iload_n (x := x3) hx hb dL_law_448 rfl (lh_at hl 3 rfl) ?_
  refine lv_bipush (v := (6 : Int32)) hx hb dL_law_449 (by decide) ?_
  refine lv_iadd hx hb dL_law_451 ?_
  obtain ⟨hs6, hs6i, h⟩ := h
  refine r_sld E w (hxa := by rw [hs6]) hX hbl hs6i dL_law_452 ?_
  obtain ⟨a7, ea7, h⟩ := h
  obtain ⟨ho8, h⟩ := h
  refine z_callVi E w ea7 ho8 cl_X5 yk_X5_copy ⟨Nat.le_of_ble_eq_true rfl, Nat.le_of_ble_eq_true rfl⟩ ⟨(show cells ≤ 600000 by omega), (show slots ≤ 7302249 by omega)⟩ rfl ml_L_45 im_X5_copy sl_X5_copy [iv (xs (Int32.toNatClampNeg (x3 + (1 : Int32)))), iv (xs (Int32.toNatClampNeg (x3 + (2 : Int32)))), iv (xs (Int32.toNatClampNeg (x3 + (3 : Int32)))), iv (xs (Int32.toNatClampNeg (x3 + (4 : Int32)))), iv (xs (Int32.toNatClampNeg (x3 + (5 : Int32)))), iv (xs (Int32.toNatClampNeg (x3 + (6 : Int32))))] rfl rfl hl [] rfl (Nat.le_of_ble_eq_true rfl) (K_X5_copy h) dL_law_453 (fun r10 M9 H locs h w => ?_)
  refine r_aload_n (x := x2) hx hb dL_law_456 rfl (lh_at hl 2 rfl) ?_
  refine r_aload_n (x := (some h0)) hx hb dL_law_457 rfl (lh_at hl 0 rfl) ?_
  refine lv_iload_n (x := x3) hx hb dL_law_458 rfl (lh_at hl 3 rfl) ?_
  refine lv_iconst (v := (1 : Int32)) hx hb dL_law_459 (by decide) ?_
  refine lv_iadd hx hb dL_law_460 ?_
  obtain ⟨hs11, hs11i, h⟩ := h
  refine r_sld E w (hxa := by rw [hs11]) hX hbl hs11i dL_law_461 ?_
  refine r_aload_n (x := (some h0)) hx hb dL_law_462 rfl (lh_at hl 0 rfl) ?_
  refine lv_iload_n (x := x3) hx hb dL_law_463 rfl (lh_at hl 3 rfl) ?_
  refine lv_iconst (v := (2 : Int32)) hx hb dL_law_464 (by decide) ?_
  refine lv_iadd hx hb dL_law_465 ?_
  obtain ⟨hs12, hs12i, h⟩ := h
  refine r_sld E w (hxa := by rw [hs12]) hX hbl hs12i dL_law_466 ?_
  refine r_aload_n (x := (some h0)) hx hb dL_law_467 rfl (lh_at hl 0 rfl) ?_
  refine lv_iload_n (x := x3) hx hb dL_law_468 rfl (lh_at hl 3 rfl) ?_
  refine lv_iconst (v := (3 : Int32)) hx hb dL_law_469 (by decide) ?_
  refine lv_iadd hx hb dL_law_470 ?_
  obtain ⟨hs13, hs13i, h⟩ := h
  refine r_sld E w (hxa := by rw [hs13]) hX hbl hs13i dL_law_471 ?_
  refine r_aload_n (x := (some h0)) hx hb dL_law_472 rfl (lh_at hl 0 rfl) ?_
  refine lv_iload_n (x := x3) hx hb dL_law_473 rfl (lh_at hl 3 rfl) ?_
  refine lv_iconst (v := (4 : Int32)) hx hb dL_law_474 (by decide) ?_
  refine lv_iadd hx hb dL_law_475 ?_
  obtain ⟨hs14, hs14i, h⟩ := h
  refine r_sld E w (hxa := by rw [hs14]) hX hbl hs14i dL_law_476 ?_
  refine r_aload_n (x := (some h0)) hx hb dL_law_477 rfl (lh_at hl 0 rfl) ?_
  refine lv_iload_n (x := x3) hx hb dL_law_478 rfl (lh_at hl 3 rfl) ?_
  refine lv_iconst (v := (5 : Int32)) hx hb dL_law_479 (by decide) ?_
  refine lv_iadd hx hb dL_law_480 ?_
  obtain ⟨hs15, hs15i, h⟩ := h
  refine r_sld E w (hxa := by rw [hs15]) hX hbl hs15i dL_law_481 ?_
  refine r_aload_n (x := (some h0)) hx hb dL_law_482 rfl (lh_at hl 0 rfl) ?_
  refine lv_iload_n (x := x3) hx hb dL_law_483 rfl (lh_at hl 3 rfl) ?_
  refine lv_bipush (v := (6 : Int32)) hx hb dL_law_484 (by decide) ?_
  refine lv_iadd hx hb dL_law_486 ?_
  obtain ⟨hs16, hs16i, h⟩ := h
  refine r_sld E w (hxa := by rw [hs16]) hX hbl hs16i dL_law_487 ?_
  obtain ⟨a17, ea17, h⟩ := h
  obtain ⟨ho18, h⟩ := h
  refine z_callVi E w ea17 ho18 cl_X6 yk_X6_copy ⟨Nat.le_of_ble_eq_true rfl, Nat.le_of_ble_eq_true rfl⟩ ⟨(show cells ≤ 600000 by omega), (show slots ≤ 7302249 by omega)⟩ rfl ml_L_49 im_X6_copy sl_X6_copy [iv (xs (Int32.toNatClampNeg (x3 + (1 : Int32)))), iv (xs (Int32.toNatClampNeg (x3 + (2 : Int32)))), iv (xs (Int32.toNatClampNeg (x3 + (3 : Int32)))), iv (xs (Int32.toNatClampNeg (x3 + (4 : Int32)))), iv (xs (Int32.toNatClampNeg (x3 + (5 : Int32)))), iv (xs (Int32.toNatClampNeg (x3 + (6 : Int32))))] rfl rfl hl [iv r10] rfl (Nat.le_of_ble_eq_true rfl) (K_X6_copy h) dL_law_488 (fun r20 M19 H locs h w => ?_)
  refine lv_icmp_eq (tgt := 1211) hx hb dL_law_491 (by decide) (fun c21 => ?_) (fun c21 => ?_)
  · have h := h.1 c21
    refine r_iinc (k := 3) (x := x3) (v := (x3 + 7)) (lv' := [(3, iv (x3 + 7)), (0, rv (some h0)), (1, rv x1), (2, rv x2)]) hx hb dL_law_1211 hl rfl rfl (by decide) rfl (fun ls hl => ?_)
    refine lv_goto (tgt := 18) hx hb dL_law_1214 (by decide) ?_
    exact hK18 _ _ _ _ _ _ _ _ _ _ _ _ h w (lh_sub hl [1, 2, 3, 0] rfl) hg
  · have h := h.2 c21
    refine lv_iconst (v := (0 : Int32)) hx hb dL_law_494 (by decide) ?_
    exact r_lawret E w hr hlk h (show cells ≤ 600000 by omega) (show slots ≤ 7302249 by omega) dL_law_495
def B_L_law_388 (b L : Nat) (xs : Nat → Int32) (K18 : Nat → Option Nat → Option Nat → Int32 → Nat → Nat → Mm → Prop) (h0 : Nat) (x1 : Option Nat) (x2 : Option Nat) (x3 : Int32) (gc : Nat) (gs : Nat) (M : Mm) : Prop := (h0 = b ∧ vp_in (x3 + (1 : Int32)) L ∧ (h0 = b ∧ vp_in (x3 + (2 : Int32)) L ∧ (∃ a3, x1 = some a3 ∧ (ok M a3 5 ∧ (B_X5_tear_0 (fun r6 M5 => (h0 = b ∧ vp_in (x3 + (1 : Int32)) L ∧ (h0 = b ∧ vp_in (x3 + (2 : Int32)) L ∧ (∃ a9, x2 = some a9 ∧ (ok M5 a9 6 ∧ (B_X6_tear_0 (fun r12 M11 => ((r6 = r12 → K18 h0 x1 x2 (x3 + 7) gc gs M11) ∧ (¬ r6 = r12 → (0 : Int32) = 1))) a9 (xs (Int32.toNatClampNeg (x3 + (1 : Int32)))) (xs (Int32.toNatClampNeg (x3 + (2 : Int32)))) M5)))))) a3 (xs (Int32.toNatClampNeg (x3 + (1 : Int32)))) (xs (Int32.toNatClampNeg (x3 + (2 : Int32)))) M)))))
set_option maxHeartbeats 4000000 in
set_option maxRecDepth 100000 in
theorem k_L_law_388 {p : Program} {l : Launch} {e : Env} {s : State} {m : MethodId} {below : List Frame} {meth : Method} {c : Code} {D : va_G} {cy : Nat → ClassId} {b L : Nat} {xs : Nat → Int32} (E : Ex p m c cL_law 4 s #[Value.ref b] RL D cy (fun q : Nat => s.heap.size ≤ q)) (hr : meth.sig.returnType = ret) (hlk : meth.locks = false) (hX : va_X b L xs s s.heap) (hbl : b < s.heap.size) {K18 : Nat → Option Nat → Option Nat → Int32 → Nat → Nat → Mm → Prop} (hK18 : ∀ (h0 : Nat) (x1 : Option Nat) (x2 : Option Nat) (x3 : Int32) (gc : Nat) (gs : Nat) (M : Mm) (H : Heap) (locs : List Loc) (ls : Array Slot) (cells slots : Nat), K18 h0 x1 x2 x3 gc gs M → Wd D cy (fun q : Nat => s.heap.size ≤ q) s M H locs → lh ls 4 [(0, rv (some h0)), (1, rv x1), (2, rv x2), (3, iv x3)] → cells + gc ≤ 600000 ∧ slots + gs ≤ 7302249 → W p l e room_1 s m #[Value.ref b] below meth c H locs cells slots (lw_Z below #[Value.ref b] s) (F0 m 18 ls [])) : ∀ (h0 : Nat) (x1 : Option Nat) (x2 : Option Nat) (x3 : Int32) (gc : Nat) (gs : Nat) (M : Mm) (H : Heap) (locs : List Loc) (ls : Array Slot) (cells slots : Nat), B_L_law_388 b L xs K18 h0 x1 x2 x3 gc gs M → Wd D cy (fun q : Nat => s.heap.size ≤ q) s M H locs → lh ls 4 [(0, rv (some h0)), (1, rv x1), (2, rv x2), (3, iv x3)] → cells + gc ≤ 600000 ∧ slots + gs ≤ 7302249 → W p l e room_1 s m #[Value.ref b] below meth c H locs cells slots (lw_Z below #[Value.ref b] s) (F0 m 388 ls []) := by
  obtain ⟨hx, hb, hml, hown, hts⟩ := E.1
  intro h0 x1 x2 x3 gc gs M H locs ls cells slots h w hl hg
  unfold B_L_law_388 at h
  refine r_aload_n (x := x1) hx hb dL_law_388 rfl (lh_at hl 1 rfl) ?_
  refine r_aload_n (x := (some h0)) hx hb dL_law_389 rfl (lh_at hl 0 rfl) ?_
  refine lv_iload_n (x := x3) hx hb dL_law_390 rfl (lh_at hl 3 rfl) ?_
  refine lv_iconst (v := (1 : Int32)) hx hb dL_law_391 (by decide) ?_
  refine lv_iadd hx hb dL_law_392 ?_
  obtain ⟨hs1, hs1i, h⟩ := h
  refine r_sld E w (hxa := by rw [hs1]) hX hbl hs1i dL_law_393 ?_
  refine r_aload_n (x := (some h0)) hx hb dL_law_394 rfl (lh_at hl 0 rfl) ?_
  refine lv_iload_n (x := x3) hx hb dL_law_395 rfl (lh_at hl 3 rfl) ?_
  refine lv_iconst (v := (2 : Int32)) hx hb dL_law_396 (by decide) ?_
  refine lv_iadd hx hb dL_law_397 ?_
  obtain ⟨hs2, hs2i, h⟩ := h
  refine r_sld E w (hxa := by rw [hs2]) hX hbl hs2i dL_law_398 ?_
  obtain ⟨a3, ea3, h⟩ := h
  obtain ⟨ho4, h⟩ := h
  refine z_callVi E w ea3 ho4 cl_X5 yk_X5_tear ⟨Nat.le_of_ble_eq_true rfl, Nat.le_of_ble_eq_true rfl⟩ ⟨(show cells ≤ 600000 by omega), (show slots ≤ 7302249 by omega)⟩ rfl ml_L_41 im_X5_tear sl_X5_tear [iv (xs (Int32.toNatClampNeg (x3 + (1 : Int32)))), iv (xs (Int32.toNatClampNeg (x3 + (2 : Int32))))] rfl rfl hl [] rfl (Nat.le_of_ble_eq_true rfl) (K_X5_tear h) dL_law_399 (fun r6 M5 H locs h w => ?_)
  refine r_aload_n (x := x2) hx hb dL_law_402 rfl (lh_at hl 2 rfl) ?_
  refine r_aload_n (x := (some h0)) hx hb dL_law_403 rfl (lh_at hl 0 rfl) ?_
  refine lv_iload_n (x := x3) hx hb dL_law_404 rfl (lh_at hl 3 rfl) ?_
  refine lv_iconst (v := (1 : Int32)) hx hb dL_law_405 (by decide) ?_
  refine lv_iadd hx hb dL_law_406 ?_
  obtain ⟨hs7, hs7i, h⟩ := h
  refine r_sld E w (hxa := by rw [hs7]) hX hbl hs7i dL_law_407 ?_
  refine r_aload_n (x := (some h0)) hx hb dL_law_408 rfl (lh_at hl 0 rfl) ?_
  refine lv_iload_n (x := x3) hx hb dL_law_409 rfl (lh_at hl 3 rfl) ?_
  refine lv_iconst (v := (2 : Int32)) hx hb dL_law_410 (by decide) ?_
  refine lv_iadd hx hb dL_law_411 ?_
  obtain ⟨hs8, hs8i, h⟩ := h
  refine r_sld E w (hxa := by rw [hs8]) hX hbl hs8i dL_law_412 ?_
  obtain ⟨a9, ea9, h⟩ := h
  obtain ⟨ho10, h⟩ := h
  refine z_callVi E w ea9 ho10 cl_X6 yk_X6_tear ⟨Nat.le_of_ble_eq_true rfl, Nat.le_of_ble_eq_true rfl⟩ ⟨(show cells ≤ 600000 by omega), (show slots ≤ 7302249 by omega)⟩ rfl ml_L_44 im_X6_tear sl_X6_tear [iv (xs (Int32.toNatClampNeg (x3 + (1 : Int32)))), iv (xs (Int32.toNatClampNeg (x3 + (2 : Int32))))] rfl rfl hl [iv r6] rfl (Nat.le_of_ble_eq_true rfl) (K_X6_tear h) dL_law_413 (fun r12 M11 H locs h w => ?_)
  refine lv_icmp_eq (tgt := 1211) hx hb dL_law_416 (by decide) (fun c13 => ?_) (fun c13 => ?_)
  · have h := h.1 c13
    refine r_iinc (k := 3) (x := x3) (v := (x3 + 7)) (lv' := [(3, iv (x3 + 7)), (0, rv (some h0)), (1, rv x1), (2, rv x2)]) hx hb dL_law_1211 hl rfl rfl (by decide) rfl (fun ls hl => ?_)
    refine lv_goto (tgt := 18) hx hb dL_law_1214 (by decide) ?_
    exact hK18 _ _ _ _ _ _ _ _ _ _ _ _ h w (lh_sub hl [1, 2, 3, 0] rfl) hg
  · have h := h.2 c13
    refine lv_iconst (v := (0 : Int32)) hx hb dL_law_419 (by decide) ?_
    exact r_lawret E w hr hlk h (show cells ≤ 600000 by omega) (show slots ≤ 7302249 by omega) dL_law_420
def B_L_law_345 (b L : Nat) (xs : Nat → Int32) (K18 : Nat → Option Nat → Option Nat → Int32 → Nat → Nat → Mm → Prop) (h0 : Nat) (x1 : Option Nat) (x2 : Option Nat) (x3 : Int32) (gc : Nat) (gs : Nat) (M : Mm) : Prop := (h0 = b ∧ vp_in (x3 + (1 : Int32)) L ∧ (h0 = b ∧ vp_in (x3 + (2 : Int32)) L ∧ (h0 = b ∧ vp_in (x3 + (3 : Int32)) L ∧ (∃ a4, x1 = some a4 ∧ (ok M a4 5 ∧ (B_X5_at_0 (fun r7 M6 => (h0 = b ∧ vp_in (x3 + (1 : Int32)) L ∧ (h0 = b ∧ vp_in (x3 + (2 : Int32)) L ∧ (h0 = b ∧ vp_in (x3 + (3 : Int32)) L ∧ (∃ a11, x2 = some a11 ∧ (ok M6 a11 6 ∧ (B_X6_at_0 (fun r14 M13 => ((r7 = r14 → K18 h0 x1 x2 (x3 + 7) gc gs M13) ∧ (¬ r7 = r14 → (0 : Int32) = 1))) a11 (xs (Int32.toNatClampNeg (x3 + (1 : Int32)))) (xs (Int32.toNatClampNeg (x3 + (2 : Int32)))) (xs (Int32.toNatClampNeg (x3 + (3 : Int32)))) M6))))))) a4 (xs (Int32.toNatClampNeg (x3 + (1 : Int32)))) (xs (Int32.toNatClampNeg (x3 + (2 : Int32)))) (xs (Int32.toNatClampNeg (x3 + (3 : Int32)))) M))))))
set_option maxHeartbeats 4000000 in
set_option maxRecDepth 100000 in
theorem k_L_law_345 {p : Program} {l : Launch} {e : Env} {s : State} {m : MethodId} {below : List Frame} {meth : Method} {c : Code} {D : va_G} {cy : Nat → ClassId} {b L : Nat} {xs : Nat → Int32} (E : Ex p m c cL_law 4 s #[Value.ref b] RL D cy (fun q : Nat => s.heap.size ≤ q)) (hr : meth.sig.returnType = ret) (hlk : meth.locks = false) (hX : va_X b L xs s s.heap) (hbl : b < s.heap.size) {K18 : Nat → Option Nat → Option Nat → Int32 → Nat → Nat → Mm → Prop} (hK18 : ∀ (h0 : Nat) (x1 : Option Nat) (x2 : Option Nat) (x3 : Int32) (gc : Nat) (gs : Nat) (M : Mm) (H : Heap) (locs : List Loc) (ls : Array Slot) (cells slots : Nat), K18 h0 x1 x2 x3 gc gs M → Wd D cy (fun q : Nat => s.heap.size ≤ q) s M H locs → lh ls 4 [(0, rv (some h0)), (1, rv x1), (2, rv x2), (3, iv x3)] → cells + gc ≤ 600000 ∧ slots + gs ≤ 7302249 → W p l e room_1 s m #[Value.ref b] below meth c H locs cells slots (lw_Z below #[Value.ref b] s) (F0 m 18 ls [])) : ∀ (h0 : Nat) (x1 : Option Nat) (x2 : Option Nat) (x3 : Int32) (gc : Nat) (gs : Nat) (M : Mm) (H : Heap) (locs : List Loc) (ls : Array Slot) (cells slots : Nat), B_L_law_345 b L xs K18 h0 x1 x2 x3 gc gs M → Wd D cy (fun q : Nat => s.heap.size ≤ q) s M H locs → lh ls 4 [(0, rv (some h0)), (1, rv x1), (2, rv x2), (3, iv x3)] → cells + gc ≤ 600000 ∧ slots + gs ≤ 7302249 → W p l e room_1 s m #[Value.ref b] below meth c H locs cells slots (lw_Z below #[Value.ref b] s) (F0 m 345 ls []) := by
  obtain ⟨hx, hb, hml, hown, hts⟩ := E.1
  intro h0 x1 x2 x3 gc gs M H locs ls cells slots h w hl hg
  unfold B_L_law_345 at h
  refine r_aload_n (x := x1) hx hb dL_law_345 rfl (lh_at hl 1 rfl) ?_
  refine r_aload_n (x := (some h0)) hx hb dL_law_346 rfl (lh_at hl 0 rfl) ?_
  refine lv_iload_n (x := x3) hx hb dL_law_347 rfl (lh_at hl 3 rfl) ?_
  refine lv_iconst (v := (1 : Int32)) hx hb dL_law_348 (by decide) ?_
  refine lv_iadd hx hb dL_law_349 ?_
  obtain ⟨hs1, hs1i, h⟩ := h
  refine r_sld E w (hxa := by rw [hs1]) hX hbl hs1i dL_law_350 ?_
  refine r_aload_n (x := (some h0)) hx hb dL_law_351 rfl (lh_at hl 0 rfl) ?_
  refine lv_iload_n (x := x3) hx hb dL_law_352 rfl (lh_at hl 3 rfl) ?_
  refine lv_iconst (v := (2 : Int32)) hx hb dL_law_353 (by decide) ?_
  refine lv_iadd hx hb dL_law_354 ?_
  obtain ⟨hs2, hs2i, h⟩ := h
  refine r_sld E w (hxa := by rw [hs2]) hX hbl hs2i dL_law_355 ?_
  refine r_aload_n (x := (some h0)) hx hb dL_law_356 rfl (lh_at hl 0 rfl) ?_
  refine lv_iload_n (x := x3) hx hb dL_law_357 rfl (lh_at hl 3 rfl) ?_
  refine lv_iconst (v := (3 : Int32)) hx hb dL_law_358 (by decide) ?_
  refine lv_iadd hx hb dL_law_359 ?_
  obtain ⟨hs3, hs3i, h⟩ := h
  refine r_sld E w (hxa := by rw [hs3]) hX hbl hs3i dL_law_360 ?_
  obtain ⟨a4, ea4, h⟩ := h
  obtain ⟨ho5, h⟩ := h
  refine z_callVi E w ea4 ho5 cl_X5 yk_X5_at ⟨Nat.le_of_ble_eq_true rfl, Nat.le_of_ble_eq_true rfl⟩ ⟨(show cells ≤ 600000 by omega), (show slots ≤ 7302249 by omega)⟩ rfl ml_L_36 im_X5_at sl_X5_at [iv (xs (Int32.toNatClampNeg (x3 + (1 : Int32)))), iv (xs (Int32.toNatClampNeg (x3 + (2 : Int32)))), iv (xs (Int32.toNatClampNeg (x3 + (3 : Int32))))] rfl rfl hl [] rfl (Nat.le_of_ble_eq_true rfl) (K_X5_at h) dL_law_361 (fun r7 M6 H locs h w => ?_)
  refine r_aload_n (x := x2) hx hb dL_law_364 rfl (lh_at hl 2 rfl) ?_
  refine r_aload_n (x := (some h0)) hx hb dL_law_365 rfl (lh_at hl 0 rfl) ?_
  refine lv_iload_n (x := x3) hx hb dL_law_366 rfl (lh_at hl 3 rfl) ?_
  refine lv_iconst (v := (1 : Int32)) hx hb dL_law_367 (by decide) ?_
  refine lv_iadd hx hb dL_law_368 ?_
  obtain ⟨hs8, hs8i, h⟩ := h
  refine r_sld E w (hxa := by rw [hs8]) hX hbl hs8i dL_law_369 ?_
  refine r_aload_n (x := (some h0)) hx hb dL_law_370 rfl (lh_at hl 0 rfl) ?_
  refine lv_iload_n (x := x3) hx hb dL_law_371 rfl (lh_at hl 3 rfl) ?_
  refine lv_iconst (v := (2 : Int32)) hx hb dL_law_372 (by decide) ?_
  refine lv_iadd hx hb dL_law_373 ?_
  obtain ⟨hs9, hs9i, h⟩ := h
  refine r_sld E w (hxa := by rw [hs9]) hX hbl hs9i dL_law_374 ?_
  refine r_aload_n (x := (some h0)) hx hb dL_law_375 rfl (lh_at hl 0 rfl) ?_
  refine lv_iload_n (x := x3) hx hb dL_law_376 rfl (lh_at hl 3 rfl) ?_
  refine lv_iconst (v := (3 : Int32)) hx hb dL_law_377 (by decide) ?_
  refine lv_iadd hx hb dL_law_378 ?_
  obtain ⟨hs10, hs10i, h⟩ := h
  refine r_sld E w (hxa := by rw [hs10]) hX hbl hs10i dL_law_379 ?_
  obtain ⟨a11, ea11, h⟩ := h
  obtain ⟨ho12, h⟩ := h
  refine z_callVi E w ea11 ho12 cl_X6 yk_X6_at ⟨Nat.le_of_ble_eq_true rfl, Nat.le_of_ble_eq_true rfl⟩ ⟨(show cells ≤ 600000 by omega), (show slots ≤ 7302249 by omega)⟩ rfl ml_L_40 im_X6_at sl_X6_at [iv (xs (Int32.toNatClampNeg (x3 + (1 : Int32)))), iv (xs (Int32.toNatClampNeg (x3 + (2 : Int32)))), iv (xs (Int32.toNatClampNeg (x3 + (3 : Int32))))] rfl rfl hl [iv r7] rfl (Nat.le_of_ble_eq_true rfl) (K_X6_at h) dL_law_380 (fun r14 M13 H locs h w => ?_)
  refine lv_icmp_eq (tgt := 1211) hx hb dL_law_383 (by decide) (fun c15 => ?_) (fun c15 => ?_)
  · have h := h.1 c15
    refine r_iinc (k := 3) (x := x3) (v := (x3 + 7)) (lv' := [(3, iv (x3 + 7)), (0, rv (some h0)), (1, rv x1), (2, rv x2)]) hx hb dL_law_1211 hl rfl rfl (by decide) rfl (fun ls hl => ?_)
    refine lv_goto (tgt := 18) hx hb dL_law_1214 (by decide) ?_
    exact hK18 _ _ _ _ _ _ _ _ _ _ _ _ h w (lh_sub hl [1, 2, 3, 0] rfl) hg
  · have h := h.2 c15
    refine lv_iconst (v := (0 : Int32)) hx hb dL_law_386 (by decide) ?_
    exact r_lawret E w hr hlk h (show cells ≤ 600000 by omega) (show slots ≤ 7302249 by omega) dL_law_387
def B_L_law_292 (b L : Nat) (xs : Nat → Int32) (K18 : Nat → Option Nat → Option Nat → Int32 → Nat → Nat → Mm → Prop) (h0 : Nat) (x1 : Option Nat) (x2 : Option Nat) (x3 : Int32) (gc : Nat) (gs : Nat) (M : Mm) : Prop := (h0 = b ∧ vp_in (x3 + (1 : Int32)) L ∧ (h0 = b ∧ vp_in (x3 + (2 : Int32)) L ∧ (h0 = b ∧ vp_in (x3 + (3 : Int32)) L ∧ (h0 = b ∧ vp_in (x3 + (4 : Int32)) L ∧ (∃ a5, x1 = some a5 ∧ (ok M a5 5 ∧ (B_X5_lay_0 (fun r8 M7 => (h0 = b ∧ vp_in (x3 + (1 : Int32)) L ∧ (h0 = b ∧ vp_in (x3 + (2 : Int32)) L ∧ (h0 = b ∧ vp_in (x3 + (3 : Int32)) L ∧ (h0 = b ∧ vp_in (x3 + (4 : Int32)) L ∧ (∃ a13, x2 = some a13 ∧ (ok M7 a13 6 ∧ (B_X6_lay_0 (fun r16 M15 => ((r8 = r16 → K18 h0 x1 x2 (x3 + 7) gc gs M15) ∧ (¬ r8 = r16 → (0 : Int32) = 1))) a13 (xs (Int32.toNatClampNeg (x3 + (1 : Int32)))) (xs (Int32.toNatClampNeg (x3 + (2 : Int32)))) (xs (Int32.toNatClampNeg (x3 + (3 : Int32)))) (xs (Int32.toNatClampNeg (x3 + (4 : Int32)))) M7)))))))) a5 (xs (Int32.toNatClampNeg (x3 + (1 : Int32)))) (xs (Int32.toNatClampNeg (x3 + (2 : Int32)))) (xs (Int32.toNatClampNeg (x3 + (3 : Int32)))) (xs (Int32.toNatClampNeg (x3 + (4 : Int32)))) M)))))))
set_option maxHeartbeats 4000000 in
set_option maxRecDepth 100000 in
theorem k_L_law_292 {p : Program} {l : Launch} {e : Env} {s : State} {m : MethodId} {below : List Frame} {meth : Method} {c : Code} {D : va_G} {cy : Nat → ClassId} {b L : Nat} {xs : Nat → Int32} (E : Ex p m c cL_law 4 s #[Value.ref b] RL D cy (fun q : Nat => s.heap.size ≤ q)) (hr : meth.sig.returnType = ret) (hlk : meth.locks = false) (hX : va_X b L xs s s.heap) (hbl : b < s.heap.size) {K18 : Nat → Option Nat → Option Nat → Int32 → Nat → Nat → Mm → Prop} (hK18 : ∀ (h0 : Nat) (x1 : Option Nat) (x2 : Option Nat) (x3 : Int32) (gc : Nat) (gs : Nat) (M : Mm) (H : Heap) (locs : List Loc) (ls : Array Slot) (cells slots : Nat), K18 h0 x1 x2 x3 gc gs M → Wd D cy (fun q : Nat => s.heap.size ≤ q) s M H locs → lh ls 4 [(0, rv (some h0)), (1, rv x1), (2, rv x2), (3, iv x3)] → cells + gc ≤ 600000 ∧ slots + gs ≤ 7302249 → W p l e room_1 s m #[Value.ref b] below meth c H locs cells slots (lw_Z below #[Value.ref b] s) (F0 m 18 ls [])) : ∀ (h0 : Nat) (x1 : Option Nat) (x2 : Option Nat) (x3 : Int32) (gc : Nat) (gs : Nat) (M : Mm) (H : Heap) (locs : List Loc) (ls : Array Slot) (cells slots : Nat), B_L_law_292 b L xs K18 h0 x1 x2 x3 gc gs M → Wd D cy (fun q : Nat => s.heap.size ≤ q) s M H locs → lh ls 4 [(0, rv (some h0)), (1, rv x1), (2, rv x2), (3, iv x3)] → cells + gc ≤ 600000 ∧ slots + gs ≤ 7302249 → W p l e room_1 s m #[Value.ref b] below meth c H locs cells slots (lw_Z below #[Value.ref b] s) (F0 m 292 ls []) := by
  obtain ⟨hx, hb, hml, hown, hts⟩ := E.1
  intro h0 x1 x2 x3 gc gs M H locs ls cells slots h w hl hg
  unfold B_L_law_292 at h
  refine r_aload_n (x := x1) hx hb dL_law_292 rfl (lh_at hl 1 rfl) ?_
  refine r_aload_n (x := (some h0)) hx hb dL_law_293 rfl (lh_at hl 0 rfl) ?_
  refine lv_iload_n (x := x3) hx hb dL_law_294 rfl (lh_at hl 3 rfl) ?_
  refine lv_iconst (v := (1 : Int32)) hx hb dL_law_295 (by decide) ?_
  refine lv_iadd hx hb dL_law_296 ?_
  obtain ⟨hs1, hs1i, h⟩ := h
  refine r_sld E w (hxa := by rw [hs1]) hX hbl hs1i dL_law_297 ?_
  refine r_aload_n (x := (some h0)) hx hb dL_law_298 rfl (lh_at hl 0 rfl) ?_
  refine lv_iload_n (x := x3) hx hb dL_law_299 rfl (lh_at hl 3 rfl) ?_
  refine lv_iconst (v := (2 : Int32)) hx hb dL_law_300 (by decide) ?_
  refine lv_iadd hx hb dL_law_301 ?_
  obtain ⟨hs2, hs2i, h⟩ := h
  refine r_sld E w (hxa := by rw [hs2]) hX hbl hs2i dL_law_302 ?_
  refine r_aload_n (x := (some h0)) hx hb dL_law_303 rfl (lh_at hl 0 rfl) ?_
  refine lv_iload_n (x := x3) hx hb dL_law_304 rfl (lh_at hl 3 rfl) ?_
  refine lv_iconst (v := (3 : Int32)) hx hb dL_law_305 (by decide) ?_
  refine lv_iadd hx hb dL_law_306 ?_
  obtain ⟨hs3, hs3i, h⟩ := h
  refine r_sld E w (hxa := by rw [hs3]) hX hbl hs3i dL_law_307 ?_
  refine r_aload_n (x := (some h0)) hx hb dL_law_308 rfl (lh_at hl 0 rfl) ?_
  refine lv_iload_n (x := x3) hx hb dL_law_309 rfl (lh_at hl 3 rfl) ?_
  refine lv_iconst (v := (4 : Int32)) hx hb dL_law_310 (by decide) ?_
  refine lv_iadd hx hb dL_law_311 ?_
  obtain ⟨hs4, hs4i, h⟩ := h
  refine r_sld E w (hxa := by rw [hs4]) hX hbl hs4i dL_law_312 ?_
  obtain ⟨a5, ea5, h⟩ := h
  obtain ⟨ho6, h⟩ := h
  refine z_callVi E w ea5 ho6 cl_X5 yk_X5_lay ⟨Nat.le_of_ble_eq_true rfl, Nat.le_of_ble_eq_true rfl⟩ ⟨(show cells ≤ 600000 by omega), (show slots ≤ 7302249 by omega)⟩ rfl ml_L_31 im_X5_lay sl_X5_lay [iv (xs (Int32.toNatClampNeg (x3 + (1 : Int32)))), iv (xs (Int32.toNatClampNeg (x3 + (2 : Int32)))), iv (xs (Int32.toNatClampNeg (x3 + (3 : Int32)))), iv (xs (Int32.toNatClampNeg (x3 + (4 : Int32))))] rfl rfl hl [] rfl (Nat.le_of_ble_eq_true rfl) (K_X5_lay h) dL_law_313 (fun r8 M7 H locs h w => ?_)
  refine r_aload_n (x := x2) hx hb dL_law_316 rfl (lh_at hl 2 rfl) ?_
  refine r_aload_n (x := (some h0)) hx hb dL_law_317 rfl (lh_at hl 0 rfl) ?_
  refine lv_iload_n (x := x3) hx hb dL_law_318 rfl (lh_at hl 3 rfl) ?_
  refine lv_iconst (v := (1 : Int32)) hx hb dL_law_319 (by decide) ?_
  refine lv_iadd hx hb dL_law_320 ?_
  obtain ⟨hs9, hs9i, h⟩ := h
  refine r_sld E w (hxa := by rw [hs9]) hX hbl hs9i dL_law_321 ?_
  refine r_aload_n (x := (some h0)) hx hb dL_law_322 rfl (lh_at hl 0 rfl) ?_
  refine lv_iload_n (x := x3) hx hb dL_law_323 rfl (lh_at hl 3 rfl) ?_
  refine lv_iconst (v := (2 : Int32)) hx hb dL_law_324 (by decide) ?_
  refine lv_iadd hx hb dL_law_325 ?_
  obtain ⟨hs10, hs10i, h⟩ := h
  refine r_sld E w (hxa := by rw [hs10]) hX hbl hs10i dL_law_326 ?_
  refine r_aload_n (x := (some h0)) hx hb dL_law_327 rfl (lh_at hl 0 rfl) ?_
  refine lv_iload_n (x := x3) hx hb dL_law_328 rfl (lh_at hl 3 rfl) ?_
  refine lv_iconst (v := (3 : Int32)) hx hb dL_law_329 (by decide) ?_
  refine lv_iadd hx hb dL_law_330 ?_
  obtain ⟨hs11, hs11i, h⟩ := h
  refine r_sld E w (hxa := by rw [hs11]) hX hbl hs11i dL_law_331 ?_
  refine r_aload_n (x := (some h0)) hx hb dL_law_332 rfl (lh_at hl 0 rfl) ?_
  refine lv_iload_n (x := x3) hx hb dL_law_333 rfl (lh_at hl 3 rfl) ?_
  refine lv_iconst (v := (4 : Int32)) hx hb dL_law_334 (by decide) ?_
  refine lv_iadd hx hb dL_law_335 ?_
  obtain ⟨hs12, hs12i, h⟩ := h
  refine r_sld E w (hxa := by rw [hs12]) hX hbl hs12i dL_law_336 ?_
  obtain ⟨a13, ea13, h⟩ := h
  obtain ⟨ho14, h⟩ := h
  refine z_callVi E w ea13 ho14 cl_X6 yk_X6_lay ⟨Nat.le_of_ble_eq_true rfl, Nat.le_of_ble_eq_true rfl⟩ ⟨(show cells ≤ 600000 by omega), (show slots ≤ 7302249 by omega)⟩ rfl ml_L_35 im_X6_lay sl_X6_lay [iv (xs (Int32.toNatClampNeg (x3 + (1 : Int32)))), iv (xs (Int32.toNatClampNeg (x3 + (2 : Int32)))), iv (xs (Int32.toNatClampNeg (x3 + (3 : Int32)))), iv (xs (Int32.toNatClampNeg (x3 + (4 : Int32))))] rfl rfl hl [iv r8] rfl (Nat.le_of_ble_eq_true rfl) (K_X6_lay h) dL_law_337 (fun r16 M15 H locs h w => ?_)
  refine lv_icmp_eq (tgt := 1211) hx hb dL_law_340 (by decide) (fun c17 => ?_) (fun c17 => ?_)
  · have h := h.1 c17
    refine r_iinc (k := 3) (x := x3) (v := (x3 + 7)) (lv' := [(3, iv (x3 + 7)), (0, rv (some h0)), (1, rv x1), (2, rv x2)]) hx hb dL_law_1211 hl rfl rfl (by decide) rfl (fun ls hl => ?_)
    refine lv_goto (tgt := 18) hx hb dL_law_1214 (by decide) ?_
    exact hK18 _ _ _ _ _ _ _ _ _ _ _ _ h w (lh_sub hl [1, 2, 3, 0] rfl) hg
  · have h := h.2 c17
    refine lv_iconst (v := (0 : Int32)) hx hb dL_law_343 (by decide) ?_
    exact r_lawret E w hr hlk h (show cells ≤ 600000 by omega) (show slots ≤ 7302249 by omega) dL_law_344
def B_L_law_259 (b L : Nat) (xs : Nat → Int32) (K18 : Nat → Option Nat → Option Nat → Int32 → Nat → Nat → Mm → Prop) (h0 : Nat) (x1 : Option Nat) (x2 : Option Nat) (x3 : Int32) (gc : Nat) (gs : Nat) (M : Mm) : Prop := (h0 = b ∧ vp_in (x3 + (1 : Int32)) L ∧ (h0 = b ∧ vp_in (x3 + (2 : Int32)) L ∧ (∃ a3, x1 = some a3 ∧ (ok M a3 5 ∧ (B_X5_row_0 (fun r6 M5 => (h0 = b ∧ vp_in (x3 + (1 : Int32)) L ∧ (h0 = b ∧ vp_in (x3 + (2 : Int32)) L ∧ (∃ a9, x2 = some a9 ∧ (ok M5 a9 6 ∧ (B_X6_row_0 (fun r12 M11 => ((r6 = r12 → K18 h0 x1 x2 (x3 + 7) gc gs M11) ∧ (¬ r6 = r12 → (0 : Int32) = 1))) a9 (xs (Int32.toNatClampNeg (x3 + (1 : Int32)))) (xs (Int32.toNatClampNeg (x3 + (2 : Int32)))) M5)))))) a3 (xs (Int32.toNatClampNeg (x3 + (1 : Int32)))) (xs (Int32.toNatClampNeg (x3 + (2 : Int32)))) M)))))
set_option maxHeartbeats 4000000 in
set_option maxRecDepth 100000 in
theorem k_L_law_259 {p : Program} {l : Launch} {e : Env} {s : State} {m : MethodId} {below : List Frame} {meth : Method} {c : Code} {D : va_G} {cy : Nat → ClassId} {b L : Nat} {xs : Nat → Int32} (E : Ex p m c cL_law 4 s #[Value.ref b] RL D cy (fun q : Nat => s.heap.size ≤ q)) (hr : meth.sig.returnType = ret) (hlk : meth.locks = false) (hX : va_X b L xs s s.heap) (hbl : b < s.heap.size) {K18 : Nat → Option Nat → Option Nat → Int32 → Nat → Nat → Mm → Prop} (hK18 : ∀ (h0 : Nat) (x1 : Option Nat) (x2 : Option Nat) (x3 : Int32) (gc : Nat) (gs : Nat) (M : Mm) (H : Heap) (locs : List Loc) (ls : Array Slot) (cells slots : Nat), K18 h0 x1 x2 x3 gc gs M → Wd D cy (fun q : Nat => s.heap.size ≤ q) s M H locs → lh ls 4 [(0, rv (some h0)), (1, rv x1), (2, rv x2), (3, iv x3)] → cells + gc ≤ 600000 ∧ slots + gs ≤ 7302249 → W p l e room_1 s m #[Value.ref b] below meth c H locs cells slots (lw_Z below #[Value.ref b] s) (F0 m 18 ls [])) : ∀ (h0 : Nat) (x1 : Option Nat) (x2 : Option Nat) (x3 : Int32) (gc : Nat) (gs : Nat) (M : Mm) (H : Heap) (locs : List Loc) (ls : Array Slot) (cells slots : Nat), B_L_law_259 b L xs K18 h0 x1 x2 x3 gc gs M → Wd D cy (fun q : Nat => s.heap.size ≤ q) s M H locs → lh ls 4 [(0, rv (some h0)), (1, rv x1), (2, rv x2), (3, iv x3)] → cells + gc ≤ 600000 ∧ slots + gs ≤ 7302249 → W p l e room_1 s m #[Value.ref b] below meth c H locs cells slots (lw_Z below #[Value.ref b] s) (F0 m 259 ls []) := by
  obtain ⟨hx, hb, hml, hown, hts⟩ := E.1
  intro h0 x1 x2 x3 gc gs M H locs ls cells slots h w hl hg
  unfold B_L_law_259 at h
  refine r_aload_n (x := x1) hx hb dL_law_259 rfl (lh_at hl 1 rfl) ?_
  refine r_aload_n (x := (some h0)) hx hb dL_law_260 rfl (lh_at hl 0 rfl) ?_
  refine lv_iload_n (x := x3) hx hb dL_law_261 rfl (lh_at hl 3 rfl) ?_
  refine lv_iconst (v := (1 : Int32)) hx hb dL_law_262 (by decide) ?_
  refine lv_iadd hx hb dL_law_263 ?_
  obtain ⟨hs1, hs1i, h⟩ := h
  refine r_sld E w (hxa := by rw [hs1]) hX hbl hs1i dL_law_264 ?_
  refine r_aload_n (x := (some h0)) hx hb dL_law_265 rfl (lh_at hl 0 rfl) ?_
  refine lv_iload_n (x := x3) hx hb dL_law_266 rfl (lh_at hl 3 rfl) ?_
  refine lv_iconst (v := (2 : Int32)) hx hb dL_law_267 (by decide) ?_
  refine lv_iadd hx hb dL_law_268 ?_
  obtain ⟨hs2, hs2i, h⟩ := h
  refine r_sld E w (hxa := by rw [hs2]) hX hbl hs2i dL_law_269 ?_
  obtain ⟨a3, ea3, h⟩ := h
  obtain ⟨ho4, h⟩ := h
  refine z_callVi E w ea3 ho4 cl_X5 yk_X5_row ⟨Nat.le_of_ble_eq_true rfl, Nat.le_of_ble_eq_true rfl⟩ ⟨(show cells ≤ 600000 by omega), (show slots ≤ 7302249 by omega)⟩ rfl ml_L_27 im_X5_row sl_X5_row [iv (xs (Int32.toNatClampNeg (x3 + (1 : Int32)))), iv (xs (Int32.toNatClampNeg (x3 + (2 : Int32))))] rfl rfl hl [] rfl (Nat.le_of_ble_eq_true rfl) (K_X5_row h) dL_law_270 (fun r6 M5 H locs h w => ?_)
  refine r_aload_n (x := x2) hx hb dL_law_273 rfl (lh_at hl 2 rfl) ?_
  refine r_aload_n (x := (some h0)) hx hb dL_law_274 rfl (lh_at hl 0 rfl) ?_
  refine lv_iload_n (x := x3) hx hb dL_law_275 rfl (lh_at hl 3 rfl) ?_
  refine lv_iconst (v := (1 : Int32)) hx hb dL_law_276 (by decide) ?_
  refine lv_iadd hx hb dL_law_277 ?_
  obtain ⟨hs7, hs7i, h⟩ := h
  refine r_sld E w (hxa := by rw [hs7]) hX hbl hs7i dL_law_278 ?_
  refine r_aload_n (x := (some h0)) hx hb dL_law_279 rfl (lh_at hl 0 rfl) ?_
  refine lv_iload_n (x := x3) hx hb dL_law_280 rfl (lh_at hl 3 rfl) ?_
  refine lv_iconst (v := (2 : Int32)) hx hb dL_law_281 (by decide) ?_
  refine lv_iadd hx hb dL_law_282 ?_
  obtain ⟨hs8, hs8i, h⟩ := h
  refine r_sld E w (hxa := by rw [hs8]) hX hbl hs8i dL_law_283 ?_
  obtain ⟨a9, ea9, h⟩ := h
  obtain ⟨ho10, h⟩ := h
  refine z_callVi E w ea9 ho10 cl_X6 yk_X6_row ⟨Nat.le_of_ble_eq_true rfl, Nat.le_of_ble_eq_true rfl⟩ ⟨(show cells ≤ 600000 by omega), (show slots ≤ 7302249 by omega)⟩ rfl ml_L_30 im_X6_row sl_X6_row [iv (xs (Int32.toNatClampNeg (x3 + (1 : Int32)))), iv (xs (Int32.toNatClampNeg (x3 + (2 : Int32))))] rfl rfl hl [iv r6] rfl (Nat.le_of_ble_eq_true rfl) (K_X6_row h) dL_law_284 (fun r12 M11 H locs h w => ?_)
  refine lv_icmp_eq (tgt := 1211) hx hb dL_law_287 (by decide) (fun c13 => ?_) (fun c13 => ?_)
  · have h := h.1 c13
    refine r_iinc (k := 3) (x := x3) (v := (x3 + 7)) (lv' := [(3, iv (x3 + 7)), (0, rv (some h0)), (1, rv x1), (2, rv x2)]) hx hb dL_law_1211 hl rfl rfl (by decide) rfl (fun ls hl => ?_)
    refine lv_goto (tgt := 18) hx hb dL_law_1214 (by decide) ?_
    exact hK18 _ _ _ _ _ _ _ _ _ _ _ _ h w (lh_sub hl [1, 2, 3, 0] rfl) hg
  · have h := h.2 c13
    refine lv_iconst (v := (0 : Int32)) hx hb dL_law_290 (by decide) ?_
    exact r_lawret E w hr hlk h (show cells ≤ 600000 by omega) (show slots ≤ 7302249 by omega) dL_law_291
def B_L_law_226 (b L : Nat) (xs : Nat → Int32) (K18 : Nat → Option Nat → Option Nat → Int32 → Nat → Nat → Mm → Prop) (h0 : Nat) (x1 : Option Nat) (x2 : Option Nat) (x3 : Int32) (gc : Nat) (gs : Nat) (M : Mm) : Prop := (h0 = b ∧ vp_in (x3 + (1 : Int32)) L ∧ (h0 = b ∧ vp_in (x3 + (2 : Int32)) L ∧ (∃ a3, x1 = some a3 ∧ (ok M a3 5 ∧ (B_X5_is_0 (fun r6 M5 => (h0 = b ∧ vp_in (x3 + (1 : Int32)) L ∧ (h0 = b ∧ vp_in (x3 + (2 : Int32)) L ∧ (∃ a9, x2 = some a9 ∧ (ok M5 a9 6 ∧ (B_X6_is_0 (fun r12 M11 => ((r6 = r12 → K18 h0 x1 x2 (x3 + 7) gc gs M11) ∧ (¬ r6 = r12 → (0 : Int32) = 1))) a9 (xs (Int32.toNatClampNeg (x3 + (1 : Int32)))) (xs (Int32.toNatClampNeg (x3 + (2 : Int32)))) M5)))))) a3 (xs (Int32.toNatClampNeg (x3 + (1 : Int32)))) (xs (Int32.toNatClampNeg (x3 + (2 : Int32)))) M)))))
set_option maxHeartbeats 4000000 in
set_option maxRecDepth 100000 in
theorem k_L_law_226 {p : Program} {l : Launch} {e : Env} {s : State} {m : MethodId} {below : List Frame} {meth : Method} {c : Code} {D : va_G} {cy : Nat → ClassId} {b L : Nat} {xs : Nat → Int32} (E : Ex p m c cL_law 4 s #[Value.ref b] RL D cy (fun q : Nat => s.heap.size ≤ q)) (hr : meth.sig.returnType = ret) (hlk : meth.locks = false) (hX : va_X b L xs s s.heap) (hbl : b < s.heap.size) {K18 : Nat → Option Nat → Option Nat → Int32 → Nat → Nat → Mm → Prop} (hK18 : ∀ (h0 : Nat) (x1 : Option Nat) (x2 : Option Nat) (x3 : Int32) (gc : Nat) (gs : Nat) (M : Mm) (H : Heap) (locs : List Loc) (ls : Array Slot) (cells slots : Nat), K18 h0 x1 x2 x3 gc gs M → Wd D cy (fun q : Nat => s.heap.size ≤ q) s M H locs → lh ls 4 [(0, rv (some h0)), (1, rv x1), (2, rv x2), (3, iv x3)] → cells + gc ≤ 600000 ∧ slots + gs ≤ 7302249 → W p l e room_1 s m #[Value.ref b] below meth c H locs cells slots (lw_Z below #[Value.ref b] s) (F0 m 18 ls [])) : ∀ (h0 : Nat) (x1 : Option Nat) (x2 : Option Nat) (x3 : Int32) (gc : Nat) (gs : Nat) (M : Mm) (H : Heap) (locs : List Loc) (ls : Array Slot) (cells slots : Nat), B_L_law_226 b L xs K18 h0 x1 x2 x3 gc gs M → Wd D cy (fun q : Nat => s.heap.size ≤ q) s M H locs → lh ls 4 [(0, rv (some h0)), (1, rv x1), (2, rv x2), (3, iv x3)] → cells + gc ≤ 600000 ∧ slots + gs ≤ 7302249 → W p l e room_1 s m #[Value.ref b] below meth c H locs cells slots (lw_Z below #[Value.ref b] s) (F0 m 226 ls []) := by
  obtain ⟨hx, hb, hml, hown, hts⟩ := E.1
  intro h0 x1 x2 x3 gc gs M H locs ls cells slots h w hl hg
  unfold B_L_law_226 at h
  refine r_aload_n (x := x1) hx hb dL_law_226 rfl (lh_at hl 1 rfl) ?_
  refine r_aload_n (x := (some h0)) hx hb dL_law_227 rfl (lh_at hl 0 rfl) ?_
  refine lv_iload_n (x := x3) hx hb dL_law_228 rfl (lh_at hl 3 rfl) ?_
  refine lv_iconst (v := (1 : Int32)) hx hb dL_law_229 (by decide) ?_
  refine lv_iadd hx hb dL_law_230 ?_
  obtain ⟨hs1, hs1i, h⟩ := h
  refine r_sld E w (hxa := by rw [hs1]) hX hbl hs1i dL_law_231 ?_
  refine r_aload_n (x := (some h0)) hx hb dL_law_232 rfl (lh_at hl 0 rfl) ?_
  refine lv_iload_n (x := x3) hx hb dL_law_233 rfl (lh_at hl 3 rfl) ?_
  refine lv_iconst (v := (2 : Int32)) hx hb dL_law_234 (by decide) ?_
  refine lv_iadd hx hb dL_law_235 ?_
  obtain ⟨hs2, hs2i, h⟩ := h
  refine r_sld E w (hxa := by rw [hs2]) hX hbl hs2i dL_law_236 ?_
  obtain ⟨a3, ea3, h⟩ := h
  obtain ⟨ho4, h⟩ := h
  refine z_callVi E w ea3 ho4 cl_X5 yk_X5_is ⟨Nat.le_of_ble_eq_true rfl, Nat.le_of_ble_eq_true rfl⟩ ⟨(show cells ≤ 600000 by omega), (show slots ≤ 7302249 by omega)⟩ rfl ml_L_22 im_X5_is sl_X5_is [iv (xs (Int32.toNatClampNeg (x3 + (1 : Int32)))), iv (xs (Int32.toNatClampNeg (x3 + (2 : Int32))))] rfl rfl hl [] rfl (Nat.le_of_ble_eq_true rfl) (K_X5_is h) dL_law_237 (fun r6 M5 H locs h w => ?_)
  refine r_aload_n (x := x2) hx hb dL_law_240 rfl (lh_at hl 2 rfl) ?_
  refine r_aload_n (x := (some h0)) hx hb dL_law_241 rfl (lh_at hl 0 rfl) ?_
  refine lv_iload_n (x := x3) hx hb dL_law_242 rfl (lh_at hl 3 rfl) ?_
  refine lv_iconst (v := (1 : Int32)) hx hb dL_law_243 (by decide) ?_
  refine lv_iadd hx hb dL_law_244 ?_
  obtain ⟨hs7, hs7i, h⟩ := h
  refine r_sld E w (hxa := by rw [hs7]) hX hbl hs7i dL_law_245 ?_
  refine r_aload_n (x := (some h0)) hx hb dL_law_246 rfl (lh_at hl 0 rfl) ?_
  refine lv_iload_n (x := x3) hx hb dL_law_247 rfl (lh_at hl 3 rfl) ?_
  refine lv_iconst (v := (2 : Int32)) hx hb dL_law_248 (by decide) ?_
  refine lv_iadd hx hb dL_law_249 ?_
  obtain ⟨hs8, hs8i, h⟩ := h
  refine r_sld E w (hxa := by rw [hs8]) hX hbl hs8i dL_law_250 ?_
  obtain ⟨a9, ea9, h⟩ := h
  obtain ⟨ho10, h⟩ := h
  refine z_callVi E w ea9 ho10 cl_X6 yk_X6_is ⟨Nat.le_of_ble_eq_true rfl, Nat.le_of_ble_eq_true rfl⟩ ⟨(show cells ≤ 600000 by omega), (show slots ≤ 7302249 by omega)⟩ rfl ml_L_26 im_X6_is sl_X6_is [iv (xs (Int32.toNatClampNeg (x3 + (1 : Int32)))), iv (xs (Int32.toNatClampNeg (x3 + (2 : Int32))))] rfl rfl hl [iv r6] rfl (Nat.le_of_ble_eq_true rfl) (K_X6_is h) dL_law_251 (fun r12 M11 H locs h w => ?_)
  refine lv_icmp_eq (tgt := 1211) hx hb dL_law_254 (by decide) (fun c13 => ?_) (fun c13 => ?_)
  · have h := h.1 c13
    refine r_iinc (k := 3) (x := x3) (v := (x3 + 7)) (lv' := [(3, iv (x3 + 7)), (0, rv (some h0)), (1, rv x1), (2, rv x2)]) hx hb dL_law_1211 hl rfl rfl (by decide) rfl (fun ls hl => ?_)
    refine lv_goto (tgt := 18) hx hb dL_law_1214 (by decide) ?_
    exact hK18 _ _ _ _ _ _ _ _ _ _ _ _ h w (lh_sub hl [1, 2, 3, 0] rfl) hg
  · have h := h.2 c13
    refine lv_iconst (v := (0 : Int32)) hx hb dL_law_257 (by decide) ?_
    exact r_lawret E w hr hlk h (show cells ≤ 600000 by omega) (show slots ≤ 7302249 by omega) dL_law_258
def B_L_law_203 (b L : Nat) (xs : Nat → Int32) (K18 : Nat → Option Nat → Option Nat → Int32 → Nat → Nat → Mm → Prop) (h0 : Nat) (x1 : Option Nat) (x2 : Option Nat) (x3 : Int32) (gc : Nat) (gs : Nat) (M : Mm) : Prop := (h0 = b ∧ vp_in (x3 + (1 : Int32)) L ∧ (∃ a2, x1 = some a2 ∧ (ok M a2 5 ∧ (∃ b6 b6s : Nat, b6 ≤ gc ∧ b6s ≤ gs ∧ (B_X5_test_0 (fun r5 M4 => (h0 = b ∧ vp_in (x3 + (1 : Int32)) L ∧ (∃ a8, x2 = some a8 ∧ (ok M4 a8 6 ∧ (B_X6_test_0 (fun r11 M10 => ((r5 = r11 → K18 h0 x1 x2 (x3 + 7) (gc - b6) (gs - b6s) M10) ∧ (¬ r5 = r11 → (0 : Int32) = 1))) a8 (xs (Int32.toNatClampNeg (x3 + (1 : Int32)))) M4))))) a2 (xs (Int32.toNatClampNeg (x3 + (1 : Int32)))) b6 b6s M)))))
set_option maxHeartbeats 4000000 in
set_option maxRecDepth 100000 in
theorem k_L_law_203 {p : Program} {l : Launch} {e : Env} {s : State} {m : MethodId} {below : List Frame} {meth : Method} {c : Code} {D : va_G} {cy : Nat → ClassId} {b L : Nat} {xs : Nat → Int32} (E : Ex p m c cL_law 4 s #[Value.ref b] RL D cy (fun q : Nat => s.heap.size ≤ q)) (hr : meth.sig.returnType = ret) (hlk : meth.locks = false) (hX : va_X b L xs s s.heap) (hbl : b < s.heap.size) {K18 : Nat → Option Nat → Option Nat → Int32 → Nat → Nat → Mm → Prop} (hK18 : ∀ (h0 : Nat) (x1 : Option Nat) (x2 : Option Nat) (x3 : Int32) (gc : Nat) (gs : Nat) (M : Mm) (H : Heap) (locs : List Loc) (ls : Array Slot) (cells slots : Nat), K18 h0 x1 x2 x3 gc gs M → Wd D cy (fun q : Nat => s.heap.size ≤ q) s M H locs → lh ls 4 [(0, rv (some h0)), (1, rv x1), (2, rv x2), (3, iv x3)] → cells + gc ≤ 600000 ∧ slots + gs ≤ 7302249 → W p l e room_1 s m #[Value.ref b] below meth c H locs cells slots (lw_Z below #[Value.ref b] s) (F0 m 18 ls [])) : ∀ (h0 : Nat) (x1 : Option Nat) (x2 : Option Nat) (x3 : Int32) (gc : Nat) (gs : Nat) (M : Mm) (H : Heap) (locs : List Loc) (ls : Array Slot) (cells slots : Nat), B_L_law_203 b L xs K18 h0 x1 x2 x3 gc gs M → Wd D cy (fun q : Nat => s.heap.size ≤ q) s M H locs → lh ls 4 [(0, rv (some h0)), (1, rv x1), (2, rv x2), (3, iv x3)] → cells + gc ≤ 600000 ∧ slots + gs ≤ 7302249 → W p l e room_1 s m #[Value.ref b] below meth c H locs cells slots (lw_Z below #[Value.ref b] s) (F0 m 203 ls []) := by
  obtain ⟨hx, hb, hml, hown, hts⟩ := E.1
  intro h0 x1 x2 x3 gc gs M H locs ls cells slots h w hl hg
  unfold B_L_law_203 at h
  refine r_aload_n (x := x1) hx hb dL_law_203 rfl (lh_at hl 1 rfl) ?_
  refine r_aload_n (x := (some h0)) hx hb dL_law_204 rfl (lh_at hl 0 rfl) ?_
  refine lv_iload_n (x := x3) hx hb dL_law_205 rfl (lh_at hl 3 rfl) ?_
  refine lv_iconst (v := (1 : Int32)) hx hb dL_law_206 (by decide) ?_
  refine lv_iadd hx hb dL_law_207 ?_
  obtain ⟨hs1, hs1i, h⟩ := h
  refine r_sld E w (hxa := by rw [hs1]) hX hbl hs1i dL_law_208 ?_
  obtain ⟨a2, ea2, h⟩ := h
  obtain ⟨ho3, h⟩ := h
  obtain ⟨b6, b6s, b6c, b6d, h⟩ := h
  refine r_callVi (rm := rmm 3 b6 b6s) E w ea2 ho3 cl_X5 yk_X5_test ⟨Nat.le_of_ble_eq_true rfl, Nat.le_of_ble_eq_true rfl⟩ ⟨show cells + b6 ≤ 600000 by omega, show slots + b6s ≤ 7302249 by omega⟩ rfl ml_L_18 im_X5_test sl_X5_test [iv (xs (Int32.toNatClampNeg (x3 + (1 : Int32))))] rfl rfl hl [] rfl (Nat.le_of_ble_eq_true rfl) (K_X5_test h) dL_law_209 (fun r5 M4 H locs h w => ?_)
  have hg : (cells + b6) + (gc - b6) ≤ 600000 ∧ (slots + b6s) + (gs - b6s) ≤ 7302249 := ⟨by omega, by omega⟩
  refine r_aload_n (x := x2) hx hb dL_law_212 rfl (lh_at hl 2 rfl) ?_
  refine r_aload_n (x := (some h0)) hx hb dL_law_213 rfl (lh_at hl 0 rfl) ?_
  refine lv_iload_n (x := x3) hx hb dL_law_214 rfl (lh_at hl 3 rfl) ?_
  refine lv_iconst (v := (1 : Int32)) hx hb dL_law_215 (by decide) ?_
  refine lv_iadd hx hb dL_law_216 ?_
  obtain ⟨hs7, hs7i, h⟩ := h
  refine r_sld E w (hxa := by rw [hs7]) hX hbl hs7i dL_law_217 ?_
  obtain ⟨a8, ea8, h⟩ := h
  obtain ⟨ho9, h⟩ := h
  refine z_callVi E w ea8 ho9 cl_X6 yk_X6_test ⟨Nat.le_of_ble_eq_true rfl, Nat.le_of_ble_eq_true rfl⟩ ⟨(show (cells + b6) ≤ 600000 by omega), (show (slots + b6s) ≤ 7302249 by omega)⟩ rfl ml_L_21 im_X6_test sl_X6_test [iv (xs (Int32.toNatClampNeg (x3 + (1 : Int32))))] rfl rfl hl [iv r5] rfl (Nat.le_of_ble_eq_true rfl) (K_X6_test h) dL_law_218 (fun r11 M10 H locs h w => ?_)
  refine lv_icmp_eq (tgt := 1211) hx hb dL_law_221 (by decide) (fun c12 => ?_) (fun c12 => ?_)
  · have h := h.1 c12
    refine r_iinc (k := 3) (x := x3) (v := (x3 + 7)) (lv' := [(3, iv (x3 + 7)), (0, rv (some h0)), (1, rv x1), (2, rv x2)]) hx hb dL_law_1211 hl rfl rfl (by decide) rfl (fun ls hl => ?_)
    refine lv_goto (tgt := 18) hx hb dL_law_1214 (by decide) ?_
    exact hK18 _ _ _ _ _ _ _ _ _ _ _ _ h w (lh_sub hl [1, 2, 3, 0] rfl) hg
  · have h := h.2 c12
    refine lv_iconst (v := (0 : Int32)) hx hb dL_law_224 (by decide) ?_
    exact r_lawret E w hr hlk h (show (cells + b6) ≤ 600000 by omega) (show (slots + b6s) ≤ 7302249 by omega) dL_law_225
def B_L_law_180 (b L : Nat) (xs : Nat → Int32) (K18 : Nat → Option Nat → Option Nat → Int32 → Nat → Nat → Mm → Prop) (h0 : Nat) (x1 : Option Nat) (x2 : Option Nat) (x3 : Int32) (gc : Nat) (gs : Nat) (M : Mm) : Prop := (h0 = b ∧ vp_in (x3 + (1 : Int32)) L ∧ (∃ a2, x1 = some a2 ∧ (ok M a2 5 ∧ (B_X5_builds_0 (fun r5 M4 => (h0 = b ∧ vp_in (x3 + (1 : Int32)) L ∧ (∃ a7, x2 = some a7 ∧ (ok M4 a7 6 ∧ (B_X6_builds_0 (fun r10 M9 => ((r5 = r10 → K18 h0 x1 x2 (x3 + 7) gc gs M9) ∧ (¬ r5 = r10 → (0 : Int32) = 1))) a7 (xs (Int32.toNatClampNeg (x3 + (1 : Int32)))) M4))))) a2 (xs (Int32.toNatClampNeg (x3 + (1 : Int32)))) M))))
set_option maxHeartbeats 4000000 in
set_option maxRecDepth 100000 in
theorem k_L_law_180 {p : Program} {l : Launch} {e : Env} {s : State} {m : MethodId} {below : List Frame} {meth : Method} {c : Code} {D : va_G} {cy : Nat → ClassId} {b L : Nat} {xs : Nat → Int32} (E : Ex p m c cL_law 4 s #[Value.ref b] RL D cy (fun q : Nat => s.heap.size ≤ q)) (hr : meth.sig.returnType = ret) (hlk : meth.locks = false) (hX : va_X b L xs s s.heap) (hbl : b < s.heap.size) {K18 : Nat → Option Nat → Option Nat → Int32 → Nat → Nat → Mm → Prop} (hK18 : ∀ (h0 : Nat) (x1 : Option Nat) (x2 : Option Nat) (x3 : Int32) (gc : Nat) (gs : Nat) (M : Mm) (H : Heap) (locs : List Loc) (ls : Array Slot) (cells slots : Nat), K18 h0 x1 x2 x3 gc gs M → Wd D cy (fun q : Nat => s.heap.size ≤ q) s M H locs → lh ls 4 [(0, rv (some h0)), (1, rv x1), (2, rv x2), (3, iv x3)] → cells + gc ≤ 600000 ∧ slots + gs ≤ 7302249 → W p l e room_1 s m #[Value.ref b] below meth c H locs cells slots (lw_Z below #[Value.ref b] s) (F0 m 18 ls [])) : ∀ (h0 : Nat) (x1 : Option Nat) (x2 : Option Nat) (x3 : Int32) (gc : Nat) (gs : Nat) (M : Mm) (H : Heap) (locs : List Loc) (ls : Array Slot) (cells slots : Nat), B_L_law_180 b L xs K18 h0 x1 x2 x3 gc gs M → Wd D cy (fun q : Nat => s.heap.size ≤ q) s M H locs → lh ls 4 [(0, rv (some h0)), (1, rv x1), (2, rv x2), (3, iv x3)] → cells + gc ≤ 600000 ∧ slots + gs ≤ 7302249 → W p l e room_1 s m #[Value.ref b] below meth c H locs cells slots (lw_Z below #[Value.ref b] s) (F0 m 180 ls []) := by
  obtain ⟨hx, hb, hml, hown, hts⟩ := E.1
  intro h0 x1 x2 x3 gc gs M H locs ls cells slots h w hl hg
  unfold B_L_law_180 at h
  refine r_aload_n (x := x1) hx hb dL_law_180 rfl (lh_at hl 1 rfl) ?_
  refine r_aload_n (x := (some h0)) hx hb dL_law_181 rfl (lh_at hl 0 rfl) ?_
  refine lv_iload_n (x := x3) hx hb dL_law_182 rfl (lh_at hl 3 rfl) ?_
  refine lv_iconst (v := (1 : Int32)) hx hb dL_law_183 (by decide) ?_
  refine lv_iadd hx hb dL_law_184 ?_
  obtain ⟨hs1, hs1i, h⟩ := h
  refine r_sld E w (hxa := by rw [hs1]) hX hbl hs1i dL_law_185 ?_
  obtain ⟨a2, ea2, h⟩ := h
  obtain ⟨ho3, h⟩ := h
  refine z_callVi E w ea2 ho3 cl_X5 yk_X5_builds ⟨Nat.le_of_ble_eq_true rfl, Nat.le_of_ble_eq_true rfl⟩ ⟨(show cells ≤ 600000 by omega), (show slots ≤ 7302249 by omega)⟩ rfl ml_L_13 im_X5_builds sl_X5_builds [iv (xs (Int32.toNatClampNeg (x3 + (1 : Int32))))] rfl rfl hl [] rfl (Nat.le_of_ble_eq_true rfl) (K_X5_builds h) dL_law_186 (fun r5 M4 H locs h w => ?_)
  refine r_aload_n (x := x2) hx hb dL_law_189 rfl (lh_at hl 2 rfl) ?_
  refine r_aload_n (x := (some h0)) hx hb dL_law_190 rfl (lh_at hl 0 rfl) ?_
  refine lv_iload_n (x := x3) hx hb dL_law_191 rfl (lh_at hl 3 rfl) ?_
  refine lv_iconst (v := (1 : Int32)) hx hb dL_law_192 (by decide) ?_
  refine lv_iadd hx hb dL_law_193 ?_
  obtain ⟨hs6, hs6i, h⟩ := h
  refine r_sld E w (hxa := by rw [hs6]) hX hbl hs6i dL_law_194 ?_
  obtain ⟨a7, ea7, h⟩ := h
  obtain ⟨ho8, h⟩ := h
  refine z_callVi E w ea7 ho8 cl_X6 yk_X6_builds ⟨Nat.le_of_ble_eq_true rfl, Nat.le_of_ble_eq_true rfl⟩ ⟨(show cells ≤ 600000 by omega), (show slots ≤ 7302249 by omega)⟩ rfl ml_L_17 im_X6_builds sl_X6_builds [iv (xs (Int32.toNatClampNeg (x3 + (1 : Int32))))] rfl rfl hl [iv r5] rfl (Nat.le_of_ble_eq_true rfl) (K_X6_builds h) dL_law_195 (fun r10 M9 H locs h w => ?_)
  refine lv_icmp_eq (tgt := 1211) hx hb dL_law_198 (by decide) (fun c11 => ?_) (fun c11 => ?_)
  · have h := h.1 c11
    refine r_iinc (k := 3) (x := x3) (v := (x3 + 7)) (lv' := [(3, iv (x3 + 7)), (0, rv (some h0)), (1, rv x1), (2, rv x2)]) hx hb dL_law_1211 hl rfl rfl (by decide) rfl (fun ls hl => ?_)
    refine lv_goto (tgt := 18) hx hb dL_law_1214 (by decide) ?_
    exact hK18 _ _ _ _ _ _ _ _ _ _ _ _ h w (lh_sub hl [1, 2, 3, 0] rfl) hg
  · have h := h.2 c11
    refine lv_iconst (v := (0 : Int32)) hx hb dL_law_201 (by decide) ?_
    exact r_lawret E w hr hlk h (show cells ≤ 600000 by omega) (show slots ≤ 7302249 by omega) dL_law_202
def B_L_law_18 (b L : Nat) (xs : Nat → Int32)  : Nat → Nat → Option Nat → Option Nat → Int32 → Nat → Nat → Mm → Prop
  | 0, _, _, _, _, _, _, _ => False
  | n + 1, h0, x1, x2, x3, gc, gs, M => (h0 = b ∧ ((((nI L) - (7 : Int32)) < x3 → (1 : Int32) = 1) ∧ (¬ ((nI L) - (7 : Int32)) < x3 → (h0 = b ∧ vp_in x3 L ∧ ((Int32.toInt ((xs (Int32.toNatClampNeg x3)) &&& (63 : Int32)) < 0 ∨ 32 < Int32.toInt ((xs (Int32.toNatClampNeg x3)) &&& (63 : Int32)) → B_L_law_18 b L xs  n h0 x1 x2 (x3 + 7) gc gs M) ∧ ((((xs (Int32.toNatClampNeg x3)) &&& (63 : Int32)) = nI 0 → B_L_law_180 b L xs (fun y0 y1 y2 y3 y4 y5 My => B_L_law_18 b L xs n y0 y1 y2 y3 y4 y5 My) h0 x1 x2 x3 gc gs M) ∧ (((xs (Int32.toNatClampNeg x3)) &&& (63 : Int32)) = nI 1 → B_L_law_203 b L xs (fun y0 y1 y2 y3 y4 y5 My => B_L_law_18 b L xs n y0 y1 y2 y3 y4 y5 My) h0 x1 x2 x3 gc gs M) ∧ (((xs (Int32.toNatClampNeg x3)) &&& (63 : Int32)) = nI 2 → B_L_law_226 b L xs (fun y0 y1 y2 y3 y4 y5 My => B_L_law_18 b L xs n y0 y1 y2 y3 y4 y5 My) h0 x1 x2 x3 gc gs M) ∧ (((xs (Int32.toNatClampNeg x3)) &&& (63 : Int32)) = nI 3 → B_L_law_259 b L xs (fun y0 y1 y2 y3 y4 y5 My => B_L_law_18 b L xs n y0 y1 y2 y3 y4 y5 My) h0 x1 x2 x3 gc gs M) ∧ (((xs (Int32.toNatClampNeg x3)) &&& (63 : Int32)) = nI 4 → B_L_law_292 b L xs (fun y0 y1 y2 y3 y4 y5 My => B_L_law_18 b L xs n y0 y1 y2 y3 y4 y5 My) h0 x1 x2 x3 gc gs M) ∧ (((xs (Int32.toNatClampNeg x3)) &&& (63 : Int32)) = nI 5 → B_L_law_345 b L xs (fun y0 y1 y2 y3 y4 y5 My => B_L_law_18 b L xs n y0 y1 y2 y3 y4 y5 My) h0 x1 x2 x3 gc gs M) ∧ (((xs (Int32.toNatClampNeg x3)) &&& (63 : Int32)) = nI 6 → B_L_law_388 b L xs (fun y0 y1 y2 y3 y4 y5 My => B_L_law_18 b L xs n y0 y1 y2 y3 y4 y5 My) h0 x1 x2 x3 gc gs M) ∧ (((xs (Int32.toNatClampNeg x3)) &&& (63 : Int32)) = nI 7 → B_L_law_421 b L xs (fun y0 y1 y2 y3 y4 y5 My => B_L_law_18 b L xs n y0 y1 y2 y3 y4 y5 My) h0 x1 x2 x3 gc gs M) ∧ (((xs (Int32.toNatClampNeg x3)) &&& (63 : Int32)) = nI 8 → B_L_law_496 b L xs (fun y0 y1 y2 y3 y4 y5 My => B_L_law_18 b L xs n y0 y1 y2 y3 y4 y5 My) h0 x1 x2 x3 gc gs M) ∧ (((xs (Int32.toNatClampNeg x3)) &&& (63 : Int32)) = nI 9 → B_L_law_539 b L xs (fun y0 y1 y2 y3 y4 y5 My => B_L_law_18 b L xs n y0 y1 y2 y3 y4 y5 My) h0 x1 x2 x3 gc gs M) ∧ (((xs (Int32.toNatClampNeg x3)) &&& (63 : Int32)) = nI 10 → B_L_law_572 b L xs (fun y0 y1 y2 y3 y4 y5 My => B_L_law_18 b L xs n y0 y1 y2 y3 y4 y5 My) h0 x1 x2 x3 gc gs M) ∧ (((xs (Int32.toNatClampNeg x3)) &&& (63 : Int32)) = nI 11 → B_L_law_595 b L xs (fun y0 y1 y2 y3 y4 y5 My => B_L_law_18 b L xs n y0 y1 y2 y3 y4 y5 My) h0 x1 x2 x3 gc gs M) ∧ (((xs (Int32.toNatClampNeg x3)) &&& (63 : Int32)) = nI 12 → B_L_law_628 b L xs (fun y0 y1 y2 y3 y4 y5 My => B_L_law_18 b L xs n y0 y1 y2 y3 y4 y5 My) h0 x1 x2 x3 gc gs M) ∧ (((xs (Int32.toNatClampNeg x3)) &&& (63 : Int32)) = nI 13 → B_L_law_671 b L xs (fun y0 y1 y2 y3 y4 y5 My => B_L_law_18 b L xs n y0 y1 y2 y3 y4 y5 My) h0 x1 x2 x3 gc gs M) ∧ (((xs (Int32.toNatClampNeg x3)) &&& (63 : Int32)) = nI 14 → B_L_law_714 b L xs (fun y0 y1 y2 y3 y4 y5 My => B_L_law_18 b L xs n y0 y1 y2 y3 y4 y5 My) h0 x1 x2 x3 gc gs M) ∧ (((xs (Int32.toNatClampNeg x3)) &&& (63 : Int32)) = nI 15 → B_L_law_757 b L xs (fun y0 y1 y2 y3 y4 y5 My => B_L_law_18 b L xs n y0 y1 y2 y3 y4 y5 My) h0 x1 x2 x3 gc gs M) ∧ (((xs (Int32.toNatClampNeg x3)) &&& (63 : Int32)) = nI 16 → B_L_law_780 b L xs (fun y0 y1 y2 y3 y4 y5 My => B_L_law_18 b L xs n y0 y1 y2 y3 y4 y5 My) h0 x1 x2 x3 gc gs M) ∧ (((xs (Int32.toNatClampNeg x3)) &&& (63 : Int32)) = nI 17 → B_L_law_823 b L xs (fun y0 y1 y2 y3 y4 y5 My => B_L_law_18 b L xs n y0 y1 y2 y3 y4 y5 My) h0 x1 x2 x3 gc gs M) ∧ (((xs (Int32.toNatClampNeg x3)) &&& (63 : Int32)) = nI 18 → B_L_law_866 b L xs (fun y0 y1 y2 y3 y4 y5 My => B_L_law_18 b L xs n y0 y1 y2 y3 y4 y5 My) h0 x1 x2 x3 gc gs M) ∧ (((xs (Int32.toNatClampNeg x3)) &&& (63 : Int32)) = nI 19 → B_L_law_909 b L xs (fun y0 y1 y2 y3 y4 y5 My => B_L_law_18 b L xs n y0 y1 y2 y3 y4 y5 My) h0 x1 x2 x3 gc gs M) ∧ (((xs (Int32.toNatClampNeg x3)) &&& (63 : Int32)) = nI 20 → B_L_law_952 b L xs (fun y0 y1 y2 y3 y4 y5 My => B_L_law_18 b L xs n y0 y1 y2 y3 y4 y5 My) h0 x1 x2 x3 gc gs M) ∧ (((xs (Int32.toNatClampNeg x3)) &&& (63 : Int32)) = nI 21 → B_L_law_975 b L xs (fun y0 y1 y2 y3 y4 y5 My => B_L_law_18 b L xs n y0 y1 y2 y3 y4 y5 My) h0 x1 x2 x3 gc gs M) ∧ (((xs (Int32.toNatClampNeg x3)) &&& (63 : Int32)) = nI 22 → B_L_law_1018 b L xs (fun y0 y1 y2 y3 y4 y5 My => B_L_law_18 b L xs n y0 y1 y2 y3 y4 y5 My) h0 x1 x2 x3 gc gs M) ∧ (((xs (Int32.toNatClampNeg x3)) &&& (63 : Int32)) = nI 23 → B_L_law_1031 b L xs (fun y0 y1 y2 y3 y4 y5 My => B_L_law_18 b L xs n y0 y1 y2 y3 y4 y5 My) h0 x1 x2 x3 gc gs M) ∧ (((xs (Int32.toNatClampNeg x3)) &&& (63 : Int32)) = nI 24 → B_L_law_1070 b L xs (fun y0 y1 y2 y3 y4 y5 My => B_L_law_18 b L xs n y0 y1 y2 y3 y4 y5 My) h0 x1 x2 x3 gc gs M) ∧ (((xs (Int32.toNatClampNeg x3)) &&& (63 : Int32)) = nI 25 → B_L_law_1083 b L xs (fun y0 y1 y2 y3 y4 y5 My => B_L_law_18 b L xs n y0 y1 y2 y3 y4 y5 My) h0 x1 x2 x3 gc gs M) ∧ (((xs (Int32.toNatClampNeg x3)) &&& (63 : Int32)) = nI 26 → B_L_law_1096 b L xs (fun y0 y1 y2 y3 y4 y5 My => B_L_law_18 b L xs n y0 y1 y2 y3 y4 y5 My) h0 x1 x2 x3 gc gs M) ∧ (((xs (Int32.toNatClampNeg x3)) &&& (63 : Int32)) = nI 27 → B_L_law_1110 b L xs (fun y0 y1 y2 y3 y4 y5 My => B_L_law_18 b L xs n y0 y1 y2 y3 y4 y5 My) h0 x1 x2 x3 gc gs M) ∧ (((xs (Int32.toNatClampNeg x3)) &&& (63 : Int32)) = nI 28 → B_L_law_1124 b L xs (fun y0 y1 y2 y3 y4 y5 My => B_L_law_18 b L xs n y0 y1 y2 y3 y4 y5 My) h0 x1 x2 x3 gc gs M) ∧ (((xs (Int32.toNatClampNeg x3)) &&& (63 : Int32)) = nI 29 → B_L_law_1138 b L xs (fun y0 y1 y2 y3 y4 y5 My => B_L_law_18 b L xs n y0 y1 y2 y3 y4 y5 My) h0 x1 x2 x3 gc gs M) ∧ (((xs (Int32.toNatClampNeg x3)) &&& (63 : Int32)) = nI 30 → B_L_law_1161 b L xs (fun y0 y1 y2 y3 y4 y5 My => B_L_law_18 b L xs n y0 y1 y2 y3 y4 y5 My) h0 x1 x2 x3 gc gs M) ∧ (((xs (Int32.toNatClampNeg x3)) &&& (63 : Int32)) = nI 31 → B_L_law_1174 b L xs (fun y0 y1 y2 y3 y4 y5 My => B_L_law_18 b L xs n y0 y1 y2 y3 y4 y5 My) h0 x1 x2 x3 gc gs M) ∧ (((xs (Int32.toNatClampNeg x3)) &&& (63 : Int32)) = nI 32 → B_L_law_1197 b L xs (fun y0 y1 y2 y3 y4 y5 My => B_L_law_18 b L xs n y0 y1 y2 y3 y4 y5 My) h0 x1 x2 x3 gc gs M)))))))
set_option maxHeartbeats 4000000 in
set_option maxRecDepth 100000 in
theorem k_L_law_18 {p : Program} {l : Launch} {e : Env} {s : State} {m : MethodId} {below : List Frame} {meth : Method} {c : Code} {D : va_G} {cy : Nat → ClassId} {b L : Nat} {xs : Nat → Int32} (E : Ex p m c cL_law 4 s #[Value.ref b] RL D cy (fun q : Nat => s.heap.size ≤ q)) (hr : meth.sig.returnType = ret) (hlk : meth.locks = false) (hX : va_X b L xs s s.heap) (hbl : b < s.heap.size) : ∀ (n : Nat), ∀ (h0 : Nat) (x1 : Option Nat) (x2 : Option Nat) (x3 : Int32) (gc : Nat) (gs : Nat) (M : Mm) (H : Heap) (locs : List Loc) (ls : Array Slot) (cells slots : Nat), B_L_law_18 b L xs  n h0 x1 x2 x3 gc gs M → Wd D cy (fun q : Nat => s.heap.size ≤ q) s M H locs → lh ls 4 [(0, rv (some h0)), (1, rv x1), (2, rv x2), (3, iv x3)] → cells + gc ≤ 600000 ∧ slots + gs ≤ 7302249 → W p l e room_1 s m #[Value.ref b] below meth c H locs cells slots (lw_Z below #[Value.ref b] s) (F0 m 18 ls []) := by
  obtain ⟨hx, hb, hml, hown, hts⟩ := E.1
  intro n
  induction n with
  | zero => intro h0 x1 x2 x3 gc gs M H locs ls cells slots h; exact False.elim h
  | succ n ih =>
    intro h0 x1 x2 x3 gc gs M H locs ls cells slots h w hl hg
    unfold B_L_law_18 at h
    refine lv_iload_n (x := x3) hx hb dL_law_18 rfl (lh_at hl 3 rfl) ?_
    refine r_aload_n (x := (some h0)) hx hb dL_law_19 rfl (lh_at hl 0 rfl) ?_
    obtain ⟨hs1, h⟩ := h
    refine r_slen E w (hxa := by rw [hs1]) hX hbl dL_law_20 ?_
    refine lv_bipush (v := (7 : Int32)) hx hb dL_law_21 (by decide) ?_
    refine lv_isub hx hb dL_law_23 ?_
    refine lv_icmp_gt (tgt := 1217) hx hb dL_law_24 (by decide) (fun c2 => ?_) (fun c2 => ?_)
    · have h := h.1 c2
      refine lv_iconst (v := (1 : Int32)) hx hb dL_law_1217 (by decide) ?_
      exact r_lawret E w hr hlk h (show cells ≤ 600000 by omega) (show slots ≤ 7302249 by omega) dL_law_1218
    · have h := h.2 c2
      refine r_aload_n (x := (some h0)) hx hb dL_law_27 rfl (lh_at hl 0 rfl) ?_
      refine lv_iload_n (x := x3) hx hb dL_law_28 rfl (lh_at hl 3 rfl) ?_
      obtain ⟨hs3, hs3i, h⟩ := h
      refine r_sld E w (hxa := by rw [hs3]) hX hbl hs3i dL_law_29 ?_
      refine lv_bipush (v := (63 : Int32)) hx hb dL_law_30 (by decide) ?_
      refine lv_iand hx hb dL_law_32 ?_
      by_cases cd : Int32.toInt ((xs (Int32.toNatClampNeg x3)) &&& (63 : Int32)) < 0 ∨ 32 < Int32.toInt ((xs (Int32.toNatClampNeg x3)) &&& (63 : Int32))
      · have h := h.1 cd
        refine lv_tableOut (tgt := 1211) hx hb dL_law_33 cd (by decide) ?_
        refine r_iinc (k := 3) (x := x3) (v := (x3 + 7)) (lv' := [(3, iv (x3 + 7)), (0, rv (some h0)), (1, rv x1), (2, rv x2)]) hx hb dL_law_1211 hl rfl rfl (by decide) rfl (fun ls hl => ?_)
        refine lv_goto (tgt := 18) hx hb dL_law_1214 (by decide) ?_
        exact ih _ _ _ _ _ _ _ _ _ _ _ _ h w (lh_sub hl [1, 2, 3, 0] rfl) hg
      · have hj : ∃ j : Nat, j < 33 ∧ ((xs (Int32.toNatClampNeg x3)) &&& (63 : Int32)) = nI j := sw_in 32 (by decide) cd
        obtain ⟨j, hj, ej⟩ := hj
        have h := h.2
        rcases (show j = 0 ∨ j = 1 ∨ j = 2 ∨ j = 3 ∨ j = 4 ∨ j = 5 ∨ j = 6 ∨ j = 7 ∨ j = 8 ∨ j = 9 ∨ j = 10 ∨ j = 11 ∨ j = 12 ∨ j = 13 ∨ j = 14 ∨ j = 15 ∨ j = 16 ∨ j = 17 ∨ j = 18 ∨ j = 19 ∨ j = 20 ∨ j = 21 ∨ j = 22 ∨ j = 23 ∨ j = 24 ∨ j = 25 ∨ j = 26 ∨ j = 27 ∨ j = 28 ∨ j = 29 ∨ j = 30 ∨ j = 31 ∨ j = 32 by omega) with rfl | rfl | rfl | rfl | rfl | rfl | rfl | rfl | rfl | rfl | rfl | rfl | rfl | rfl | rfl | rfl | rfl | rfl | rfl | rfl | rfl | rfl | rfl | rfl | rfl | rfl | rfl | rfl | rfl | rfl | rfl | rfl | rfl
        · have h := h.1 ej
          refine lv_tableIn (off := 147) (tgt := 180) hx hb dL_law_33 (by rw [ej]; decide) (by rw [ej]; decide) (by rw [ej]; decide) (by decide) ?_
          exact k_L_law_180 E hr hlk hX hbl ih _ _ _ _ _ _ _ _ _ _ _ _ h w (lh_sub hl [0, 1, 2, 3] rfl) hg
        · have h := h.2.1 ej
          refine lv_tableIn (off := 170) (tgt := 203) hx hb dL_law_33 (by rw [ej]; decide) (by rw [ej]; decide) (by rw [ej]; decide) (by decide) ?_
          exact k_L_law_203 E hr hlk hX hbl ih _ _ _ _ _ _ _ _ _ _ _ _ h w (lh_sub hl [0, 1, 2, 3] rfl) hg
        · have h := h.2.2.1 ej
          refine lv_tableIn (off := 193) (tgt := 226) hx hb dL_law_33 (by rw [ej]; decide) (by rw [ej]; decide) (by rw [ej]; decide) (by decide) ?_
          exact k_L_law_226 E hr hlk hX hbl ih _ _ _ _ _ _ _ _ _ _ _ _ h w (lh_sub hl [0, 1, 2, 3] rfl) hg
        · have h := h.2.2.2.1 ej
          refine lv_tableIn (off := 226) (tgt := 259) hx hb dL_law_33 (by rw [ej]; decide) (by rw [ej]; decide) (by rw [ej]; decide) (by decide) ?_
          exact k_L_law_259 E hr hlk hX hbl ih _ _ _ _ _ _ _ _ _ _ _ _ h w (lh_sub hl [0, 1, 2, 3] rfl) hg
        · have h := h.2.2.2.2.1 ej
          refine lv_tableIn (off := 259) (tgt := 292) hx hb dL_law_33 (by rw [ej]; decide) (by rw [ej]; decide) (by rw [ej]; decide) (by decide) ?_
          exact k_L_law_292 E hr hlk hX hbl ih _ _ _ _ _ _ _ _ _ _ _ _ h w (lh_sub hl [0, 1, 2, 3] rfl) hg
        · have h := h.2.2.2.2.2.1 ej
          refine lv_tableIn (off := 312) (tgt := 345) hx hb dL_law_33 (by rw [ej]; decide) (by rw [ej]; decide) (by rw [ej]; decide) (by decide) ?_
          exact k_L_law_345 E hr hlk hX hbl ih _ _ _ _ _ _ _ _ _ _ _ _ h w (lh_sub hl [0, 1, 2, 3] rfl) hg
        · have h := h.2.2.2.2.2.2.1 ej
          refine lv_tableIn (off := 355) (tgt := 388) hx hb dL_law_33 (by rw [ej]; decide) (by rw [ej]; decide) (by rw [ej]; decide) (by decide) ?_
          exact k_L_law_388 E hr hlk hX hbl ih _ _ _ _ _ _ _ _ _ _ _ _ h w (lh_sub hl [0, 1, 2, 3] rfl) hg
        · have h := h.2.2.2.2.2.2.2.1 ej
          refine lv_tableIn (off := 388) (tgt := 421) hx hb dL_law_33 (by rw [ej]; decide) (by rw [ej]; decide) (by rw [ej]; decide) (by decide) ?_
          exact k_L_law_421 E hr hlk hX hbl ih _ _ _ _ _ _ _ _ _ _ _ _ h w (lh_sub hl [0, 1, 2, 3] rfl) hg
        · have h := h.2.2.2.2.2.2.2.2.1 ej
          refine lv_tableIn (off := 463) (tgt := 496) hx hb dL_law_33 (by rw [ej]; decide) (by rw [ej]; decide) (by rw [ej]; decide) (by decide) ?_
          exact k_L_law_496 E hr hlk hX hbl ih _ _ _ _ _ _ _ _ _ _ _ _ h w (lh_sub hl [0, 1, 2, 3] rfl) hg
        · have h := h.2.2.2.2.2.2.2.2.2.1 ej
          refine lv_tableIn (off := 506) (tgt := 539) hx hb dL_law_33 (by rw [ej]; decide) (by rw [ej]; decide) (by rw [ej]; decide) (by decide) ?_
          exact k_L_law_539 E hr hlk hX hbl ih _ _ _ _ _ _ _ _ _ _ _ _ h w (lh_sub hl [0, 1, 2, 3] rfl) hg
        · have h := h.2.2.2.2.2.2.2.2.2.2.1 ej
          refine lv_tableIn (off := 539) (tgt := 572) hx hb dL_law_33 (by rw [ej]; decide) (by rw [ej]; decide) (by rw [ej]; decide) (by decide) ?_
          exact k_L_law_572 E hr hlk hX hbl ih _ _ _ _ _ _ _ _ _ _ _ _ h w (lh_sub hl [0, 1, 2, 3] rfl) hg
        · have h := h.2.2.2.2.2.2.2.2.2.2.2.1 ej
          refine lv_tableIn (off := 562) (tgt := 595) hx hb dL_law_33 (by rw [ej]; decide) (by rw [ej]; decide) (by rw [ej]; decide) (by decide) ?_
          exact k_L_law_595 E hr hlk hX hbl ih _ _ _ _ _ _ _ _ _ _ _ _ h w (lh_sub hl [0, 1, 2, 3] rfl) hg
        · have h := h.2.2.2.2.2.2.2.2.2.2.2.2.1 ej
          refine lv_tableIn (off := 595) (tgt := 628) hx hb dL_law_33 (by rw [ej]; decide) (by rw [ej]; decide) (by rw [ej]; decide) (by decide) ?_
          exact k_L_law_628 E hr hlk hX hbl ih _ _ _ _ _ _ _ _ _ _ _ _ h w (lh_sub hl [0, 1, 2, 3] rfl) hg
        · have h := h.2.2.2.2.2.2.2.2.2.2.2.2.2.1 ej
          refine lv_tableIn (off := 638) (tgt := 671) hx hb dL_law_33 (by rw [ej]; decide) (by rw [ej]; decide) (by rw [ej]; decide) (by decide) ?_
          exact k_L_law_671 E hr hlk hX hbl ih _ _ _ _ _ _ _ _ _ _ _ _ h w (lh_sub hl [0, 1, 2, 3] rfl) hg
        · have h := h.2.2.2.2.2.2.2.2.2.2.2.2.2.2.1 ej
          refine lv_tableIn (off := 681) (tgt := 714) hx hb dL_law_33 (by rw [ej]; decide) (by rw [ej]; decide) (by rw [ej]; decide) (by decide) ?_
          exact k_L_law_714 E hr hlk hX hbl ih _ _ _ _ _ _ _ _ _ _ _ _ h w (lh_sub hl [0, 1, 2, 3] rfl) hg
        · have h := h.2.2.2.2.2.2.2.2.2.2.2.2.2.2.2.1 ej
          refine lv_tableIn (off := 724) (tgt := 757) hx hb dL_law_33 (by rw [ej]; decide) (by rw [ej]; decide) (by rw [ej]; decide) (by decide) ?_
          exact k_L_law_757 E hr hlk hX hbl ih _ _ _ _ _ _ _ _ _ _ _ _ h w (lh_sub hl [0, 1, 2, 3] rfl) hg
        · have h := h.2.2.2.2.2.2.2.2.2.2.2.2.2.2.2.2.1 ej
          refine lv_tableIn (off := 747) (tgt := 780) hx hb dL_law_33 (by rw [ej]; decide) (by rw [ej]; decide) (by rw [ej]; decide) (by decide) ?_
          exact k_L_law_780 E hr hlk hX hbl ih _ _ _ _ _ _ _ _ _ _ _ _ h w (lh_sub hl [0, 1, 2, 3] rfl) hg
        · have h := h.2.2.2.2.2.2.2.2.2.2.2.2.2.2.2.2.2.1 ej
          refine lv_tableIn (off := 790) (tgt := 823) hx hb dL_law_33 (by rw [ej]; decide) (by rw [ej]; decide) (by rw [ej]; decide) (by decide) ?_
          exact k_L_law_823 E hr hlk hX hbl ih _ _ _ _ _ _ _ _ _ _ _ _ h w (lh_sub hl [0, 1, 2, 3] rfl) hg
        · have h := h.2.2.2.2.2.2.2.2.2.2.2.2.2.2.2.2.2.2.1 ej
          refine lv_tableIn (off := 833) (tgt := 866) hx hb dL_law_33 (by rw [ej]; decide) (by rw [ej]; decide) (by rw [ej]; decide) (by decide) ?_
          exact k_L_law_866 E hr hlk hX hbl ih _ _ _ _ _ _ _ _ _ _ _ _ h w (lh_sub hl [0, 1, 2, 3] rfl) hg
        · have h := h.2.2.2.2.2.2.2.2.2.2.2.2.2.2.2.2.2.2.2.1 ej
          refine lv_tableIn (off := 876) (tgt := 909) hx hb dL_law_33 (by rw [ej]; decide) (by rw [ej]; decide) (by rw [ej]; decide) (by decide) ?_
          exact k_L_law_909 E hr hlk hX hbl ih _ _ _ _ _ _ _ _ _ _ _ _ h w (lh_sub hl [0, 1, 2, 3] rfl) hg
        · have h := h.2.2.2.2.2.2.2.2.2.2.2.2.2.2.2.2.2.2.2.2.1 ej
          refine lv_tableIn (off := 919) (tgt := 952) hx hb dL_law_33 (by rw [ej]; decide) (by rw [ej]; decide) (by rw [ej]; decide) (by decide) ?_
          exact k_L_law_952 E hr hlk hX hbl ih _ _ _ _ _ _ _ _ _ _ _ _ h w (lh_sub hl [0, 1, 2, 3] rfl) hg
        · have h := h.2.2.2.2.2.2.2.2.2.2.2.2.2.2.2.2.2.2.2.2.2.1 ej
          refine lv_tableIn (off := 942) (tgt := 975) hx hb dL_law_33 (by rw [ej]; decide) (by rw [ej]; decide) (by rw [ej]; decide) (by decide) ?_
          exact k_L_law_975 E hr hlk hX hbl ih _ _ _ _ _ _ _ _ _ _ _ _ h w (lh_sub hl [0, 1, 2, 3] rfl) hg
        · have h := h.2.2.2.2.2.2.2.2.2.2.2.2.2.2.2.2.2.2.2.2.2.2.1 ej
          refine lv_tableIn (off := 985) (tgt := 1018) hx hb dL_law_33 (by rw [ej]; decide) (by rw [ej]; decide) (by rw [ej]; decide) (by decide) ?_
          exact k_L_law_1018 E hr hlk hX hbl ih _ _ _ _ _ _ _ _ _ _ _ _ h w (lh_sub hl [0, 1, 2, 3] rfl) hg
        · have h := h.2.2.2.2.2.2.2.2.2.2.2.2.2.2.2.2.2.2.2.2.2.2.2.1 ej
          refine lv_tableIn (off := 998) (tgt := 1031) hx hb dL_law_33 (by rw [ej]; decide) (by rw [ej]; decide) (by rw [ej]; decide) (by decide) ?_
          exact k_L_law_1031 E hr hlk hX hbl ih _ _ _ _ _ _ _ _ _ _ _ _ h w (lh_sub hl [0, 1, 2, 3] rfl) hg
        · have h := h.2.2.2.2.2.2.2.2.2.2.2.2.2.2.2.2.2.2.2.2.2.2.2.2.1 ej
          refine lv_tableIn (off := 1037) (tgt := 1070) hx hb dL_law_33 (by rw [ej]; decide) (by rw [ej]; decide) (by rw [ej]; decide) (by decide) ?_
          exact k_L_law_1070 E hr hlk hX hbl ih _ _ _ _ _ _ _ _ _ _ _ _ h w (lh_sub hl [0, 1, 2, 3] rfl) hg
        · have h := h.2.2.2.2.2.2.2.2.2.2.2.2.2.2.2.2.2.2.2.2.2.2.2.2.2.1 ej
          refine lv_tableIn (off := 1050) (tgt := 1083) hx hb dL_law_33 (by rw [ej]; decide) (by rw [ej]; decide) (by rw [ej]; decide) (by decide) ?_
          exact k_L_law_1083 E hr hlk hX hbl ih _ _ _ _ _ _ _ _ _ _ _ _ h w (lh_sub hl [0, 1, 2, 3] rfl) hg
        · have h := h.2.2.2.2.2.2.2.2.2.2.2.2.2.2.2.2.2.2.2.2.2.2.2.2.2.2.1 ej
          refine lv_tableIn (off := 1063) (tgt := 1096) hx hb dL_law_33 (by rw [ej]; decide) (by rw [ej]; decide) (by rw [ej]; decide) (by decide) ?_
          exact k_L_law_1096 E hr hlk hX hbl ih _ _ _ _ _ _ _ _ _ _ _ _ h w (lh_sub hl [0, 1, 2, 3] rfl) hg
        · have h := h.2.2.2.2.2.2.2.2.2.2.2.2.2.2.2.2.2.2.2.2.2.2.2.2.2.2.2.1 ej
          refine lv_tableIn (off := 1077) (tgt := 1110) hx hb dL_law_33 (by rw [ej]; decide) (by rw [ej]; decide) (by rw [ej]; decide) (by decide) ?_
          exact k_L_law_1110 E hr hlk hX hbl ih _ _ _ _ _ _ _ _ _ _ _ _ h w (lh_sub hl [0, 1, 2, 3] rfl) hg
        · have h := h.2.2.2.2.2.2.2.2.2.2.2.2.2.2.2.2.2.2.2.2.2.2.2.2.2.2.2.2.1 ej
          refine lv_tableIn (off := 1091) (tgt := 1124) hx hb dL_law_33 (by rw [ej]; decide) (by rw [ej]; decide) (by rw [ej]; decide) (by decide) ?_
          exact k_L_law_1124 E hr hlk hX hbl ih _ _ _ _ _ _ _ _ _ _ _ _ h w (lh_sub hl [0, 1, 2, 3] rfl) hg
        · have h := h.2.2.2.2.2.2.2.2.2.2.2.2.2.2.2.2.2.2.2.2.2.2.2.2.2.2.2.2.2.1 ej
          refine lv_tableIn (off := 1105) (tgt := 1138) hx hb dL_law_33 (by rw [ej]; decide) (by rw [ej]; decide) (by rw [ej]; decide) (by decide) ?_
          exact k_L_law_1138 E hr hlk hX hbl ih _ _ _ _ _ _ _ _ _ _ _ _ h w (lh_sub hl [0, 1, 2, 3] rfl) hg
        · have h := h.2.2.2.2.2.2.2.2.2.2.2.2.2.2.2.2.2.2.2.2.2.2.2.2.2.2.2.2.2.2.1 ej
          refine lv_tableIn (off := 1128) (tgt := 1161) hx hb dL_law_33 (by rw [ej]; decide) (by rw [ej]; decide) (by rw [ej]; decide) (by decide) ?_
          exact k_L_law_1161 E hr hlk hX hbl ih _ _ _ _ _ _ _ _ _ _ _ _ h w (lh_sub hl [0, 1, 2, 3] rfl) hg
        · have h := h.2.2.2.2.2.2.2.2.2.2.2.2.2.2.2.2.2.2.2.2.2.2.2.2.2.2.2.2.2.2.2.1 ej
          refine lv_tableIn (off := 1141) (tgt := 1174) hx hb dL_law_33 (by rw [ej]; decide) (by rw [ej]; decide) (by rw [ej]; decide) (by decide) ?_
          exact k_L_law_1174 E hr hlk hX hbl ih _ _ _ _ _ _ _ _ _ _ _ _ h w (lh_sub hl [0, 1, 2, 3] rfl) hg
        · have h := h.2.2.2.2.2.2.2.2.2.2.2.2.2.2.2.2.2.2.2.2.2.2.2.2.2.2.2.2.2.2.2.2 ej
          refine lv_tableIn (off := 1164) (tgt := 1197) hx hb dL_law_33 (by rw [ej]; decide) (by rw [ej]; decide) (by rw [ej]; decide) (by decide) ?_
          exact k_L_law_1197 E hr hlk hX hbl ih _ _ _ _ _ _ _ _ _ _ _ _ h w (lh_sub hl [0, 1, 2, 3] rfl) hg
def B_L_law_0 (b L : Nat) (xs : Nat → Int32)  (h0 : Nat) (gc : Nat) (gs : Nat) (M : Mm) : Prop := (1 ≤ gc ∧ 15 ≤ gs ∧ (∀ q2, q2 ∉ gL M → (∀ M3, M3 = nC M q2 5 0 → (∃ b5 b5s : Nat, b5 ≤ (gc - 1) ∧ b5s ≤ (gs - 15) ∧ (B_X5_init_0 (fun  M4 => (1 ≤ ((gc - 1) - b5) ∧ 41 ≤ ((gs - 15) - b5s) ∧ (∀ q7, q7 ∉ gL M4 → (∀ M8, M8 = nC M4 q7 6 0 → (∃ b10 b10s : Nat, b10 ≤ (((gc - 1) - b5) - 1) ∧ b10s ≤ (((gs - 15) - b5s) - 41) ∧ (B_X6_init_0 (fun  M9 => (∃ n11, B_L_law_18 b L xs  n11 h0 (some q2) (some q7) (0 : Int32) ((((gc - 1) - b5) - 1) - b10) ((((gs - 15) - b5s) - 41) - b10s) M9)) q7  b10 b10s M8)))))) q2  b5 b5s M3)))))
set_option maxHeartbeats 4000000 in
set_option maxRecDepth 100000 in
theorem k_L_law_0 {p : Program} {l : Launch} {e : Env} {s : State} {m : MethodId} {below : List Frame} {meth : Method} {c : Code} {D : va_G} {cy : Nat → ClassId} {b L : Nat} {xs : Nat → Int32} (E : Ex p m c cL_law 4 s #[Value.ref b] RL D cy (fun q : Nat => s.heap.size ≤ q)) (hr : meth.sig.returnType = ret) (hlk : meth.locks = false) (hX : va_X b L xs s s.heap) (hbl : b < s.heap.size) : ∀ (h0 : Nat) (gc : Nat) (gs : Nat) (M : Mm) (H : Heap) (locs : List Loc) (ls : Array Slot) (cells slots : Nat), B_L_law_0 b L xs  h0 gc gs M → Wd D cy (fun q : Nat => s.heap.size ≤ q) s M H locs → lh ls 4 [(0, rv (some h0))] → cells + gc ≤ 600000 ∧ slots + gs ≤ 7302249 → W p l e room_1 s m #[Value.ref b] below meth c H locs cells slots (lw_Z below #[Value.ref b] s) (F0 m 0 ls []) := by
  obtain ⟨hx, hb, hml, hown, hts⟩ := E.1
  intro h0 gc gs M H locs ls cells slots h w hl hg
  unfold B_L_law_0 at h
  obtain ⟨g1a, g1b, h⟩ := h
  refine r_new E w cl_X5 kl_L_7 ins_X5 ini_X5 (show cells + 1 ≤ 600000 by omega) (show slots + 15 ≤ 7302249 by omega) dL_law_0 (fun q2 H hq2 w => ?_)
  have h := h q2 hq2
  obtain ⟨M3, eM3⟩ : ∃ z, z = nC M q2 5 0 := ⟨_, rfl⟩
  rw [← eM3] at w
  have h := h M3 eM3
  have hg : (cells + 1) + (gc - 1) ≤ 600000 ∧ (slots + 15) + (gs - 15) ≤ 7302249 := ⟨by omega, by omega⟩
  refine r_dupr hx hb dL_law_3 ?_
  obtain ⟨b5, b5s, b5c, b5d, h⟩ := h
  refine r_callI (rm := rmm 2 b5 b5s) E w rfl yk_X5_init ⟨Nat.le_of_ble_eq_true rfl, Nat.le_of_ble_eq_true rfl⟩ ⟨show (cells + 1) + b5 ≤ 600000 by omega, show (slots + 15) + b5s ≤ 7302249 by omega⟩ rfl ml_L_9 im_X5_init [] rfl rfl hl [rv (some q2)] rfl (Nat.le_of_ble_eq_true rfl) (K_X5_init h) dL_law_4 (fun M4 H locs h w => ?_)
  have hg : ((cells + 1) + b5) + ((gc - 1) - b5) ≤ 600000 ∧ ((slots + 15) + b5s) + ((gs - 15) - b5s) ≤ 7302249 := ⟨by omega, by omega⟩
  refine r_astore_n (lv' := [(1, rv (some q2)), (0, rv (some h0))]) hx hb dL_law_7 rfl hl (by decide) rfl (fun ls hl => ?_)
  obtain ⟨g6a, g6b, h⟩ := h
  refine r_new E w cl_X6 kl_L_10 ins_X6 ini_X6 (show ((cells + 1) + b5) + 1 ≤ 600000 by omega) (show ((slots + 15) + b5s) + 41 ≤ 7302249 by omega) dL_law_8 (fun q7 H hq7 w => ?_)
  have h := h q7 hq7
  obtain ⟨M8, eM8⟩ : ∃ z, z = nC M4 q7 6 0 := ⟨_, rfl⟩
  rw [← eM8] at w
  have h := h M8 eM8
  have hg : (((cells + 1) + b5) + 1) + (((gc - 1) - b5) - 1) ≤ 600000 ∧ (((slots + 15) + b5s) + 41) + (((gs - 15) - b5s) - 41) ≤ 7302249 := ⟨by omega, by omega⟩
  refine r_dupr hx hb dL_law_11 ?_
  obtain ⟨b10, b10s, b10c, b10d, h⟩ := h
  refine r_callI (rm := rmm 1 b10 b10s) E w rfl yk_X6_init ⟨Nat.le_of_ble_eq_true rfl, Nat.le_of_ble_eq_true rfl⟩ ⟨show (((cells + 1) + b5) + 1) + b10 ≤ 600000 by omega, show (((slots + 15) + b5s) + 41) + b10s ≤ 7302249 by omega⟩ rfl ml_L_12 im_X6_init [] rfl rfl hl [rv (some q7)] rfl (Nat.le_of_ble_eq_true rfl) (K_X6_init h) dL_law_12 (fun M9 H locs h w => ?_)
  have hg : ((((cells + 1) + b5) + 1) + b10) + ((((gc - 1) - b5) - 1) - b10) ≤ 600000 ∧ ((((slots + 15) + b5s) + 41) + b10s) + ((((gs - 15) - b5s) - 41) - b10s) ≤ 7302249 := ⟨by omega, by omega⟩
  refine r_astore_n (lv' := [(2, rv (some q7)), (1, rv (some q2)), (0, rv (some h0))]) hx hb dL_law_15 rfl hl (by decide) rfl (fun ls hl => ?_)
  refine lv_iconst (v := (0 : Int32)) hx hb dL_law_16 (by decide) ?_
  refine r_istore_n (lv' := [(3, iv (0 : Int32)), (2, rv (some q7)), (1, rv (some q2)), (0, rv (some h0))]) hx hb dL_law_17 rfl hl (by decide) rfl (fun ls hl => ?_)
  obtain ⟨n11, h⟩ := h
  exact k_L_law_18 E hr hlk hX hbl  n11 _ _ _ _ _ _ _ _ _ _ _ _ h w (lh_sub hl [3, 2, 1, 0] rfl) hg
