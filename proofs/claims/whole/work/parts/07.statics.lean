/-! WHAT THE TABLES SAY, a row a word that an instruction links -/
theorem mt1 (j : Nat) {w : Cond} (h : tables_1_1[j]? = some w) (g : goodWord w = true) : w ∈ lwt := List.mem_filter.mpr ⟨List.mem_append_right _ (show w ∈ tables_1_1 ++ (tables_1_2 ++ (tables_1_3 ++ tables_1_4)) by have h := List.mem_of_getElem? h; exact List.mem_append_left _ h), g⟩
theorem mt2 (j : Nat) {w : Cond} (h : tables_1_2[j]? = some w) (g : goodWord w = true) : w ∈ lwt := List.mem_filter.mpr ⟨List.mem_append_right _ (show w ∈ tables_1_1 ++ (tables_1_2 ++ (tables_1_3 ++ tables_1_4)) by have h := List.mem_of_getElem? h; exact List.mem_append_right _ (List.mem_append_left _ h)), g⟩
theorem mt3 (j : Nat) {w : Cond} (h : tables_1_3[j]? = some w) (g : goodWord w = true) : w ∈ lwt := List.mem_filter.mpr ⟨List.mem_append_right _ (show w ∈ tables_1_1 ++ (tables_1_2 ++ (tables_1_3 ++ tables_1_4)) by have h := List.mem_of_getElem? h; exact List.mem_append_right _ (List.mem_append_right _ (List.mem_append_left _ h))), g⟩
theorem mt4 (j : Nat) {w : Cond} (h : tables_1_4[j]? = some w) (g : goodWord w = true) : w ∈ lwt := List.mem_filter.mpr ⟨List.mem_append_right _ (show w ∈ tables_1_1 ++ (tables_1_2 ++ (tables_1_3 ++ tables_1_4)) by have h := List.mem_of_getElem? h; exact List.mem_append_right _ (List.mem_append_right _ (List.mem_append_right _ h))), g⟩
theorem mtp (j : Nat) {q : MethodName × Nat} (h : lw_privs[j]? = some q) : Cond.selects q.1.cls q.1 q.1 ∈ lwt := List.mem_filter.mpr ⟨List.mem_append_left _ (List.mem_map.mpr ⟨q, List.mem_of_getElem? h, rfl⟩), rfl⟩
set_option maxRecDepth 20000 in
theorem ini_L : Cond.initialized RL ∈ lwt := mt1 0 rfl rfl
set_option maxRecDepth 20000 in
theorem ini_X5 : Cond.initialized RX5 ∈ lwt := mt1 1 rfl rfl
set_option maxRecDepth 20000 in
theorem ini_X1 : Cond.initialized RX1 ∈ lwt := mt1 2 rfl rfl
set_option maxRecDepth 20000 in
theorem ini_X2 : Cond.initialized RX2 ∈ lwt := mt1 3 rfl rfl
set_option maxRecDepth 20000 in
theorem ini_X6 : Cond.initialized RX6 ∈ lwt := mt1 4 rfl rfl
set_option maxRecDepth 20000 in
theorem ini_X4 : Cond.initialized RX4 ∈ lwt := mt1 5 rfl rfl
set_option maxRecDepth 20000 in
theorem ini_X3 : Cond.initialized RX3 ∈ lwt := mt1 6 rfl rfl
set_option maxRecDepth 20000 in
theorem ini_J7 : Cond.initialized RJ7 ∈ lwt := mt1 7 rfl rfl
set_option maxRecDepth 20000 in
theorem ini_J10 : Cond.initialized RJ10 ∈ lwt := mt1 8 rfl rfl
set_option maxRecDepth 20000 in
theorem ini_J9 : Cond.initialized RJ9 ∈ lwt := mt1 9 rfl rfl
set_option maxRecDepth 20000 in
theorem ini_J6 : Cond.initialized RJ6 ∈ lwt := mt1 10 rfl rfl
set_option maxRecDepth 20000 in
theorem ini_X0 : Cond.initialized RX0 ∈ lwt := mt1 11 rfl rfl
set_option maxRecDepth 20000 in
theorem ins_X5 : Cond.instantiable RX5 15 ∈ lwt := mt1 13 rfl rfl
set_option maxRecDepth 20000 in
theorem ins_X1 : Cond.instantiable RX1 4 ∈ lwt := mt1 23 rfl rfl
set_option maxRecDepth 20000 in
theorem acl_int : Cond.arrayClass .int ∈ lwt := mt1 41 rfl rfl
set_option maxRecDepth 20000 in
theorem ins_X2 : Cond.instantiable RX2 7 ∈ lwt := mt1 43 rfl rfl
set_option maxRecDepth 20000 in
theorem ins_X4 : Cond.instantiable RX4 2 ∈ lwt := mt1 133 rfl rfl
set_option maxRecDepth 20000 in
theorem ins_X3 : Cond.instantiable RX3 14 ∈ lwt := mt1 140 rfl rfl
set_option maxRecDepth 20000 in
theorem nat_arraycopy : Cond.native arraycopyName ∈ lwt := mt2 31 rfl rfl
set_option maxRecDepth 20000 in
theorem ins_X0 : Cond.instantiable RX0 3 ∈ lwt := mt2 172 rfl rfl
set_option maxRecDepth 20000 in
theorem ins_X6 : Cond.instantiable RX6 41 ∈ lwt := mt3 102 rfl rfl
set_option maxRecDepth 20000 in
theorem acl_boolean : Cond.arrayClass .boolean ∈ lwt := mt3 232 rfl rfl
set_option maxRecDepth 20000 in
theorem acl_long : Cond.arrayClass .long ∈ lwt := mt3 233 rfl rfl
set_option maxRecDepth 20000 in
theorem cl_X0 : Cls 0 RX0 TX0 3 tyX0 := ⟨rfl, lwt_sub (by decide +kernel) (by decide +kernel), tyX0_ok, nmX0, by decide, rfl, by decide⟩
set_option maxRecDepth 20000 in
theorem cl_X1 : Cls 1 RX1 TX1 4 tyX1 := ⟨rfl, lwt_sub (by decide +kernel) (by decide +kernel), tyX1_ok, nmX1, by decide, rfl, by decide⟩
set_option maxRecDepth 20000 in
theorem cl_X2 : Cls 2 RX2 TX2 7 tyX2 := ⟨rfl, lwt_sub (by decide +kernel) (by decide +kernel), tyX2_ok, nmX2, by decide, rfl, by decide⟩
set_option maxRecDepth 20000 in
theorem cl_X3 : Cls 3 RX3 TX3 14 tyX3 := ⟨rfl, lwt_sub (by decide +kernel) (by decide +kernel), tyX3_ok, nmX3, by decide, rfl, by decide⟩
set_option maxRecDepth 20000 in
theorem cl_X4 : Cls 4 RX4 TX4 2 tyX4 := ⟨rfl, lwt_sub (by decide +kernel) (by decide +kernel), tyX4_ok, nmX4, by decide, rfl, by decide⟩
set_option maxRecDepth 20000 in
theorem cl_X5 : Cls 5 RX5 TX5 15 tyX5 := ⟨rfl, lwt_sub (by decide +kernel) (by decide +kernel), tyX5_ok, nmX5, by decide, rfl, by decide⟩
set_option maxRecDepth 20000 in
theorem cl_X6 : Cls 6 RX6 TX6 41 tyX6 := ⟨rfl, lwt_sub (by decide +kernel) (by decide +kernel), tyX6_ok, nmX6, by decide, rfl, by decide⟩
set_option maxRecDepth 20000 in
theorem fl_X1_9 : Cond.fieldLink RX1 9 (TX1 0).1 (TX1 0).2.1 (TX1 0).2.2.1 ∈ lwt := mt1 28 rfl rfl
set_option maxRecDepth 20000 in
theorem fl_X1_15 : Cond.fieldLink RX1 15 (TX1 1).1 (TX1 1).2.1 (TX1 1).2.2.1 ∈ lwt := mt1 29 rfl rfl
set_option maxRecDepth 20000 in
theorem fl_X1_18 : Cond.fieldLink RX1 18 (TX1 2).1 (TX1 2).2.1 (TX1 2).2.2.1 ∈ lwt := mt1 30 rfl rfl
set_option maxRecDepth 20000 in
theorem fl_X1_21 : Cond.fieldLink RX1 21 (TX1 3).1 (TX1 3).2.1 (TX1 3).2.2.1 ∈ lwt := mt1 31 rfl rfl
set_option maxRecDepth 20000 in
theorem fl_X2_7 : Cond.fieldLink RX2 7 (TX2 0).1 (TX2 0).2.1 (TX2 0).2.2.1 ∈ lwt := mt1 48 rfl rfl
set_option maxRecDepth 20000 in
theorem fl_X5_188 : Cond.fieldLink RX5 188 (TX2 0).1 (TX2 0).2.1 (TX2 0).2.2.1 ∈ lwt := mt1 49 rfl rfl
set_option maxRecDepth 20000 in
theorem fl_X2_13 : Cond.fieldLink RX2 13 (TX2 1).1 (TX2 1).2.1 (TX2 1).2.2.1 ∈ lwt := mt1 50 rfl rfl
set_option maxRecDepth 20000 in
theorem fl_X2_17 : Cond.fieldLink RX2 17 (TX2 2).1 (TX2 2).2.1 (TX2 2).2.2.1 ∈ lwt := mt1 51 rfl rfl
set_option maxRecDepth 20000 in
theorem fl_X5_202 : Cond.fieldLink RX5 202 (TX2 2).1 (TX2 2).2.1 (TX2 2).2.2.1 ∈ lwt := mt1 52 rfl rfl
set_option maxRecDepth 20000 in
theorem fl_X2_20 : Cond.fieldLink RX2 20 (TX2 3).1 (TX2 3).2.1 (TX2 3).2.2.1 ∈ lwt := mt1 53 rfl rfl
set_option maxRecDepth 20000 in
theorem fl_X2_23 : Cond.fieldLink RX2 23 (TX2 4).1 (TX2 4).2.1 (TX2 4).2.2.1 ∈ lwt := mt1 54 rfl rfl
set_option maxRecDepth 20000 in
theorem fl_X5_205 : Cond.fieldLink RX5 205 (TX2 4).1 (TX2 4).2.1 (TX2 4).2.2.1 ∈ lwt := mt1 55 rfl rfl
set_option maxRecDepth 20000 in
theorem fl_X2_26 : Cond.fieldLink RX2 26 (TX2 5).1 (TX2 5).2.1 (TX2 5).2.2.1 ∈ lwt := mt1 56 rfl rfl
set_option maxRecDepth 20000 in
theorem fl_X2_29 : Cond.fieldLink RX2 29 (TX2 6).1 (TX2 6).2.1 (TX2 6).2.2.1 ∈ lwt := mt1 57 rfl rfl
set_option maxRecDepth 20000 in
theorem fl_X5_11 : Cond.fieldLink RX5 11 (TX5 0).1 (TX5 0).2.1 (TX5 0).2.2.1 ∈ lwt := mt1 73 rfl rfl
set_option maxRecDepth 20000 in
theorem fl_X5_15 : Cond.fieldLink RX5 15 (TX5 1).1 (TX5 1).2.1 (TX5 1).2.2.1 ∈ lwt := mt1 74 rfl rfl
set_option maxRecDepth 20000 in
theorem fl_X5_19 : Cond.fieldLink RX5 19 (TX5 2).1 (TX5 2).2.1 (TX5 2).2.2.1 ∈ lwt := mt1 75 rfl rfl
set_option maxRecDepth 20000 in
theorem fl_X5_25 : Cond.fieldLink RX5 25 (TX5 3).1 (TX5 3).2.1 (TX5 3).2.2.1 ∈ lwt := mt1 76 rfl rfl
set_option maxRecDepth 20000 in
theorem fl_X5_32 : Cond.fieldLink RX5 32 (TX5 4).1 (TX5 4).2.1 (TX5 4).2.2.1 ∈ lwt := mt1 77 rfl rfl
set_option maxRecDepth 20000 in
theorem fl_X5_243 : Cond.fieldLink RX5 243 (TX5 5).1 (TX5 5).2.1 (TX5 5).2.2.1 ∈ lwt := mt1 78 rfl rfl
set_option maxRecDepth 20000 in
theorem fl_X5_47 : Cond.fieldLink RX5 47 (TX5 6).1 (TX5 6).2.1 (TX5 6).2.2.1 ∈ lwt := mt1 79 rfl rfl
set_option maxRecDepth 20000 in
theorem fl_X5_54 : Cond.fieldLink RX5 54 (TX5 7).1 (TX5 7).2.1 (TX5 7).2.2.1 ∈ lwt := mt1 80 rfl rfl
set_option maxRecDepth 20000 in
theorem fl_X5_36 : Cond.fieldLink RX5 36 (TX5 8).1 (TX5 8).2.1 (TX5 8).2.2.1 ∈ lwt := mt1 81 rfl rfl
set_option maxRecDepth 20000 in
theorem fl_X5_40 : Cond.fieldLink RX5 40 (TX5 9).1 (TX5 9).2.1 (TX5 9).2.2.1 ∈ lwt := mt1 82 rfl rfl
set_option maxRecDepth 20000 in
theorem fl_X5_174 : Cond.fieldLink RX5 174 (TX5 10).1 (TX5 10).2.1 (TX5 10).2.2.1 ∈ lwt := mt1 83 rfl rfl
set_option maxRecDepth 20000 in
theorem fl_X5_211 : Cond.fieldLink RX5 211 (TX5 11).1 (TX5 11).2.1 (TX5 11).2.2.1 ∈ lwt := mt1 84 rfl rfl
set_option maxRecDepth 20000 in
theorem fl_X5_168 : Cond.fieldLink RX5 168 (TX5 12).1 (TX5 12).2.1 (TX5 12).2.2.1 ∈ lwt := mt1 85 rfl rfl
set_option maxRecDepth 20000 in
theorem fl_X5_43 : Cond.fieldLink RX5 43 (TX5 13).1 (TX5 13).2.1 (TX5 13).2.2.1 ∈ lwt := mt1 86 rfl rfl
set_option maxRecDepth 20000 in
theorem fl_X5_122 : Cond.fieldLink RX5 122 (TX5 14).1 (TX5 14).2.1 (TX5 14).2.2.1 ∈ lwt := mt1 87 rfl rfl
set_option maxRecDepth 20000 in
theorem fl_X3_9 : Cond.fieldLink RX3 9 (TX3 0).1 (TX3 0).2.1 (TX3 0).2.2.1 ∈ lwt := mt1 148 rfl rfl
set_option maxRecDepth 20000 in
theorem fl_X5_92 : Cond.fieldLink RX5 92 (TX3 0).1 (TX3 0).2.1 (TX3 0).2.2.1 ∈ lwt := mt1 149 rfl rfl
set_option maxRecDepth 20000 in
theorem fl_X1_78 : Cond.fieldLink RX1 78 (TX3 0).1 (TX3 0).2.1 (TX3 0).2.2.1 ∈ lwt := mt1 150 rfl rfl
set_option maxRecDepth 20000 in
theorem fl_X5_71 : Cond.fieldLink RX5 71 (TX3 1).1 (TX3 1).2.1 (TX3 1).2.2.1 ∈ lwt := mt1 151 rfl rfl
set_option maxRecDepth 20000 in
theorem fl_X3_72 : Cond.fieldLink RX3 72 (TX3 1).1 (TX3 1).2.1 (TX3 1).2.2.1 ∈ lwt := mt1 152 rfl rfl
set_option maxRecDepth 20000 in
theorem fl_X3_68 : Cond.fieldLink RX3 68 (TX3 2).1 (TX3 2).2.1 (TX3 2).2.2.1 ∈ lwt := mt1 153 rfl rfl
set_option maxRecDepth 20000 in
theorem fl_X3_15 : Cond.fieldLink RX3 15 (TX3 3).1 (TX3 3).2.1 (TX3 3).2.2.1 ∈ lwt := mt1 154 rfl rfl
set_option maxRecDepth 20000 in
theorem fl_X1_51 : Cond.fieldLink RX1 51 (TX3 3).1 (TX3 3).2.1 (TX3 3).2.2.1 ∈ lwt := mt1 155 rfl rfl
set_option maxRecDepth 20000 in
theorem fl_X5_95 : Cond.fieldLink RX5 95 (TX3 3).1 (TX3 3).2.1 (TX3 3).2.2.1 ∈ lwt := mt1 156 rfl rfl
set_option maxRecDepth 20000 in
theorem fl_X1_55 : Cond.fieldLink RX1 55 (TX3 4).1 (TX3 4).2.1 (TX3 4).2.2.1 ∈ lwt := mt1 157 rfl rfl
set_option maxRecDepth 20000 in
theorem fl_X5_235 : Cond.fieldLink RX5 235 (TX3 4).1 (TX3 4).2.1 (TX3 4).2.2.1 ∈ lwt := mt1 158 rfl rfl
set_option maxRecDepth 20000 in
theorem fl_X1_58 : Cond.fieldLink RX1 58 (TX3 5).1 (TX3 5).2.1 (TX3 5).2.2.1 ∈ lwt := mt1 159 rfl rfl
set_option maxRecDepth 20000 in
theorem fl_X5_238 : Cond.fieldLink RX5 238 (TX3 5).1 (TX3 5).2.1 (TX3 5).2.2.1 ∈ lwt := mt1 160 rfl rfl
set_option maxRecDepth 20000 in
theorem fl_X1_30 : Cond.fieldLink RX1 30 (TX3 6).1 (TX3 6).2.1 (TX3 6).2.2.1 ∈ lwt := mt1 161 rfl rfl
set_option maxRecDepth 20000 in
theorem fl_X3_65 : Cond.fieldLink RX3 65 (TX3 6).1 (TX3 6).2.1 (TX3 6).2.2.1 ∈ lwt := mt1 162 rfl rfl
set_option maxRecDepth 20000 in
theorem fl_X3_19 : Cond.fieldLink RX3 19 (TX3 7).1 (TX3 7).2.1 (TX3 7).2.2.1 ∈ lwt := mt1 163 rfl rfl
set_option maxRecDepth 20000 in
theorem fl_X1_81 : Cond.fieldLink RX1 81 (TX3 7).1 (TX3 7).2.1 (TX3 7).2.2.1 ∈ lwt := mt1 164 rfl rfl
set_option maxRecDepth 20000 in
theorem fl_X3_22 : Cond.fieldLink RX3 22 (TX3 8).1 (TX3 8).2.1 (TX3 8).2.2.1 ∈ lwt := mt1 165 rfl rfl
set_option maxRecDepth 20000 in
theorem fl_X0_26 : Cond.fieldLink RX0 26 (TX3 8).1 (TX3 8).2.1 (TX3 8).2.2.1 ∈ lwt := mt1 166 rfl rfl
set_option maxRecDepth 20000 in
theorem fl_X1_61 : Cond.fieldLink RX1 61 (TX3 8).1 (TX3 8).2.1 (TX3 8).2.2.1 ∈ lwt := mt1 167 rfl rfl
set_option maxRecDepth 20000 in
theorem fl_X3_40 : Cond.fieldLink RX3 40 (TX3 9).1 (TX3 9).2.1 (TX3 9).2.2.1 ∈ lwt := mt1 168 rfl rfl
set_option maxRecDepth 20000 in
theorem fl_X1_72 : Cond.fieldLink RX1 72 (TX3 9).1 (TX3 9).2.1 (TX3 9).2.2.1 ∈ lwt := mt1 169 rfl rfl
set_option maxRecDepth 20000 in
theorem fl_X5_135 : Cond.fieldLink RX5 135 (TX3 9).1 (TX3 9).2.1 (TX3 9).2.2.1 ∈ lwt := mt1 170 rfl rfl
set_option maxRecDepth 20000 in
theorem fl_X3_25 : Cond.fieldLink RX3 25 (TX3 10).1 (TX3 10).2.1 (TX3 10).2.2.1 ∈ lwt := mt1 171 rfl rfl
set_option maxRecDepth 20000 in
theorem fl_X0_17 : Cond.fieldLink RX0 17 (TX3 10).1 (TX3 10).2.1 (TX3 10).2.2.1 ∈ lwt := mt1 172 rfl rfl
set_option maxRecDepth 20000 in
theorem fl_X1_75 : Cond.fieldLink RX1 75 (TX3 10).1 (TX3 10).2.1 (TX3 10).2.2.1 ∈ lwt := mt1 173 rfl rfl
set_option maxRecDepth 20000 in
theorem fl_X3_28 : Cond.fieldLink RX3 28 (TX3 11).1 (TX3 11).2.1 (TX3 11).2.2.1 ∈ lwt := mt1 174 rfl rfl
set_option maxRecDepth 20000 in
theorem fl_X1_84 : Cond.fieldLink RX1 84 (TX3 11).1 (TX3 11).2.1 (TX3 11).2.2.1 ∈ lwt := mt1 175 rfl rfl
set_option maxRecDepth 20000 in
theorem fl_X5_138 : Cond.fieldLink RX5 138 (TX3 11).1 (TX3 11).2.1 (TX3 11).2.2.1 ∈ lwt := mt1 176 rfl rfl
set_option maxRecDepth 20000 in
theorem fl_X3_31 : Cond.fieldLink RX3 31 (TX3 12).1 (TX3 12).2.1 (TX3 12).2.2.1 ∈ lwt := mt1 177 rfl rfl
set_option maxRecDepth 20000 in
theorem fl_X1_38 : Cond.fieldLink RX1 38 (TX3 13).1 (TX3 13).2.1 (TX3 13).2.2.1 ∈ lwt := mt1 178 rfl rfl
set_option maxRecDepth 20000 in
theorem fl_X5_119 : Cond.fieldLink RX5 119 (TX3 13).1 (TX3 13).2.1 (TX3 13).2.2.1 ∈ lwt := mt1 179 rfl rfl
set_option maxRecDepth 20000 in
theorem fl_X4_17 : Cond.fieldLink RX4 17 (TX4 0).1 (TX4 0).2.1 (TX4 0).2.2.1 ∈ lwt := mt1 209 rfl rfl
set_option maxRecDepth 20000 in
theorem fl_X5_64 : Cond.fieldLink RX5 64 (TX4 0).1 (TX4 0).2.1 (TX4 0).2.2.1 ∈ lwt := mt1 210 rfl rfl
set_option maxRecDepth 20000 in
theorem fl_X4_11 : Cond.fieldLink RX4 11 (TX4 1).1 (TX4 1).2.1 (TX4 1).2.2.1 ∈ lwt := mt1 211 rfl rfl
set_option maxRecDepth 20000 in
theorem fl_X5_218 : Cond.fieldLink RX5 218 (TX4 1).1 (TX4 1).2.1 (TX4 1).2.2.1 ∈ lwt := mt1 212 rfl rfl
set_option maxRecDepth 20000 in
theorem fl_X0_9 : Cond.fieldLink RX0 9 (TX0 0).1 (TX0 0).2.1 (TX0 0).2.2.1 ∈ lwt := mt2 177 rfl rfl
set_option maxRecDepth 20000 in
theorem fl_X0_42 : Cond.fieldLink RX0 42 (TX0 1).1 (TX0 1).2.1 (TX0 1).2.2.1 ∈ lwt := mt2 178 rfl rfl
set_option maxRecDepth 20000 in
theorem fl_X5_165 : Cond.fieldLink RX5 165 (TX0 1).1 (TX0 1).2.1 (TX0 1).2.2.1 ∈ lwt := mt2 179 rfl rfl
set_option maxRecDepth 20000 in
theorem fl_X0_13 : Cond.fieldLink RX0 13 (TX0 2).1 (TX0 2).2.1 (TX0 2).2.2.1 ∈ lwt := mt2 180 rfl rfl
set_option maxRecDepth 20000 in
theorem fl_X5_171 : Cond.fieldLink RX5 171 (TX0 2).1 (TX0 2).2.1 (TX0 2).2.2.1 ∈ lwt := mt2 181 rfl rfl
set_option maxRecDepth 20000 in
theorem fl_X6_81 : Cond.fieldLink RX6 81 (TX6 0).1 (TX6 0).2.1 (TX6 0).2.2.1 ∈ lwt := mt3 108 rfl rfl
set_option maxRecDepth 20000 in
theorem fl_X6_7 : Cond.fieldLink RX6 7 (TX6 1).1 (TX6 1).2.1 (TX6 1).2.2.1 ∈ lwt := mt3 109 rfl rfl
set_option maxRecDepth 20000 in
theorem fl_X6_88 : Cond.fieldLink RX6 88 (TX6 2).1 (TX6 2).2.1 (TX6 2).2.2.1 ∈ lwt := mt3 110 rfl rfl
set_option maxRecDepth 20000 in
theorem fl_X6_91 : Cond.fieldLink RX6 91 (TX6 3).1 (TX6 3).2.1 (TX6 3).2.2.1 ∈ lwt := mt3 111 rfl rfl
set_option maxRecDepth 20000 in
theorem fl_X6_94 : Cond.fieldLink RX6 94 (TX6 4).1 (TX6 4).2.1 (TX6 4).2.2.1 ∈ lwt := mt3 112 rfl rfl
set_option maxRecDepth 20000 in
theorem fl_X6_13 : Cond.fieldLink RX6 13 (TX6 5).1 (TX6 5).2.1 (TX6 5).2.2.1 ∈ lwt := mt3 113 rfl rfl
set_option maxRecDepth 20000 in
theorem fl_X6_16 : Cond.fieldLink RX6 16 (TX6 6).1 (TX6 6).2.1 (TX6 6).2.2.1 ∈ lwt := mt3 114 rfl rfl
set_option maxRecDepth 20000 in
theorem fl_X6_20 : Cond.fieldLink RX6 20 (TX6 7).1 (TX6 7).2.1 (TX6 7).2.2.1 ∈ lwt := mt3 115 rfl rfl
set_option maxRecDepth 20000 in
theorem fl_X6_23 : Cond.fieldLink RX6 23 (TX6 8).1 (TX6 8).2.1 (TX6 8).2.2.1 ∈ lwt := mt3 116 rfl rfl
set_option maxRecDepth 20000 in
theorem fl_X6_112 : Cond.fieldLink RX6 112 (TX6 9).1 (TX6 9).2.1 (TX6 9).2.2.1 ∈ lwt := mt3 117 rfl rfl
set_option maxRecDepth 20000 in
theorem fl_X6_26 : Cond.fieldLink RX6 26 (TX6 10).1 (TX6 10).2.1 (TX6 10).2.2.1 ∈ lwt := mt3 118 rfl rfl
set_option maxRecDepth 20000 in
theorem fl_X6_29 : Cond.fieldLink RX6 29 (TX6 11).1 (TX6 11).2.1 (TX6 11).2.2.1 ∈ lwt := mt3 119 rfl rfl
set_option maxRecDepth 20000 in
theorem fl_X6_32 : Cond.fieldLink RX6 32 (TX6 12).1 (TX6 12).2.1 (TX6 12).2.2.1 ∈ lwt := mt3 120 rfl rfl
set_option maxRecDepth 20000 in
theorem fl_X6_70 : Cond.fieldLink RX6 70 (TX6 13).1 (TX6 13).2.1 (TX6 13).2.2.1 ∈ lwt := mt3 121 rfl rfl
set_option maxRecDepth 20000 in
theorem fl_X6_74 : Cond.fieldLink RX6 74 (TX6 14).1 (TX6 14).2.1 (TX6 14).2.2.1 ∈ lwt := mt3 122 rfl rfl
set_option maxRecDepth 20000 in
theorem fl_X6_35 : Cond.fieldLink RX6 35 (TX6 15).1 (TX6 15).2.1 (TX6 15).2.2.1 ∈ lwt := mt3 123 rfl rfl
set_option maxRecDepth 20000 in
theorem fl_X6_38 : Cond.fieldLink RX6 38 (TX6 16).1 (TX6 16).2.1 (TX6 16).2.2.1 ∈ lwt := mt3 124 rfl rfl
set_option maxRecDepth 20000 in
theorem fl_X6_41 : Cond.fieldLink RX6 41 (TX6 17).1 (TX6 17).2.1 (TX6 17).2.2.1 ∈ lwt := mt3 125 rfl rfl
set_option maxRecDepth 20000 in
theorem fl_X6_132 : Cond.fieldLink RX6 132 (TX6 18).1 (TX6 18).2.1 (TX6 18).2.2.1 ∈ lwt := mt3 126 rfl rfl
set_option maxRecDepth 20000 in
theorem fl_X6_44 : Cond.fieldLink RX6 44 (TX6 19).1 (TX6 19).2.1 (TX6 19).2.2.1 ∈ lwt := mt3 127 rfl rfl
set_option maxRecDepth 20000 in
theorem fl_X6_47 : Cond.fieldLink RX6 47 (TX6 20).1 (TX6 20).2.1 (TX6 20).2.2.1 ∈ lwt := mt3 128 rfl rfl
set_option maxRecDepth 20000 in
theorem fl_X6_50 : Cond.fieldLink RX6 50 (TX6 21).1 (TX6 21).2.1 (TX6 21).2.2.1 ∈ lwt := mt3 129 rfl rfl
set_option maxRecDepth 20000 in
theorem fl_X6_123 : Cond.fieldLink RX6 123 (TX6 22).1 (TX6 22).2.1 (TX6 22).2.2.1 ∈ lwt := mt3 130 rfl rfl
set_option maxRecDepth 20000 in
theorem fl_X6_53 : Cond.fieldLink RX6 53 (TX6 23).1 (TX6 23).2.1 (TX6 23).2.2.1 ∈ lwt := mt3 131 rfl rfl
set_option maxRecDepth 20000 in
theorem fl_X6_56 : Cond.fieldLink RX6 56 (TX6 24).1 (TX6 24).2.1 (TX6 24).2.2.1 ∈ lwt := mt3 132 rfl rfl
set_option maxRecDepth 20000 in
theorem fl_X6_158 : Cond.fieldLink RX6 158 (TX6 25).1 (TX6 25).2.1 (TX6 25).2.2.1 ∈ lwt := mt3 133 rfl rfl
set_option maxRecDepth 20000 in
theorem fl_X6_161 : Cond.fieldLink RX6 161 (TX6 26).1 (TX6 26).2.1 (TX6 26).2.2.1 ∈ lwt := mt3 134 rfl rfl
set_option maxRecDepth 20000 in
theorem fl_X6_171 : Cond.fieldLink RX6 171 (TX6 27).1 (TX6 27).2.1 (TX6 27).2.2.1 ∈ lwt := mt3 135 rfl rfl
set_option maxRecDepth 20000 in
theorem fl_X6_77 : Cond.fieldLink RX6 77 (TX6 28).1 (TX6 28).2.1 (TX6 28).2.2.1 ∈ lwt := mt3 136 rfl rfl
set_option maxRecDepth 20000 in
theorem fl_X6_60 : Cond.fieldLink RX6 60 (TX6 29).1 (TX6 29).2.1 (TX6 29).2.2.1 ∈ lwt := mt3 137 rfl rfl
set_option maxRecDepth 20000 in
theorem fl_X6_178 : Cond.fieldLink RX6 178 (TX6 30).1 (TX6 30).2.1 (TX6 30).2.2.1 ∈ lwt := mt3 138 rfl rfl
set_option maxRecDepth 20000 in
theorem fl_X6_64 : Cond.fieldLink RX6 64 (TX6 31).1 (TX6 31).2.1 (TX6 31).2.2.1 ∈ lwt := mt3 139 rfl rfl
set_option maxRecDepth 20000 in
theorem fl_X6_67 : Cond.fieldLink RX6 67 (TX6 32).1 (TX6 32).2.1 (TX6 32).2.2.1 ∈ lwt := mt3 140 rfl rfl
set_option maxRecDepth 20000 in
theorem fl_X6_181 : Cond.fieldLink RX6 181 (TX6 33).1 (TX6 33).2.1 (TX6 33).2.2.1 ∈ lwt := mt3 141 rfl rfl
set_option maxRecDepth 20000 in
theorem fl_X6_194 : Cond.fieldLink RX6 194 (TX6 34).1 (TX6 34).2.1 (TX6 34).2.2.1 ∈ lwt := mt3 142 rfl rfl
set_option maxRecDepth 20000 in
theorem fl_X6_188 : Cond.fieldLink RX6 188 (TX6 35).1 (TX6 35).2.1 (TX6 35).2.2.1 ∈ lwt := mt3 143 rfl rfl
set_option maxRecDepth 20000 in
theorem fl_X6_191 : Cond.fieldLink RX6 191 (TX6 36).1 (TX6 36).2.1 (TX6 36).2.2.1 ∈ lwt := mt3 144 rfl rfl
set_option maxRecDepth 20000 in
theorem fl_X6_198 : Cond.fieldLink RX6 198 (TX6 37).1 (TX6 37).2.1 (TX6 37).2.2.1 ∈ lwt := mt3 145 rfl rfl
set_option maxRecDepth 20000 in
theorem fl_X6_201 : Cond.fieldLink RX6 201 (TX6 38).1 (TX6 38).2.1 (TX6 38).2.2.1 ∈ lwt := mt3 146 rfl rfl
set_option maxRecDepth 20000 in
theorem fl_X6_204 : Cond.fieldLink RX6 204 (TX6 39).1 (TX6 39).2.1 (TX6 39).2.2.1 ∈ lwt := mt3 147 rfl rfl
set_option maxRecDepth 20000 in
theorem fl_X6_207 : Cond.fieldLink RX6 207 (TX6 40).1 (TX6 40).2.1 (TX6 40).2.2.1 ∈ lwt := mt3 148 rfl rfl
set_option maxRecDepth 20000 in
theorem ml_L_9 : Cond.methodLink RL 9 yX5_init ∈ lwt := mt1 14 rfl rfl
set_option maxRecDepth 20000 in
theorem ml_X5_1 : Cond.methodLink RX5 1 objectInit ∈ lwt := mt1 17 rfl rfl
set_option maxRecDepth 20000 in
theorem ml_X1_3 : Cond.methodLink RX1 3 objectInit ∈ lwt := mt1 27 rfl rfl
set_option maxRecDepth 20000 in
theorem ml_X2_1 : Cond.methodLink RX2 1 objectInit ∈ lwt := mt1 47 rfl rfl
set_option maxRecDepth 20000 in
theorem ml_L_13 : Cond.methodLink RL 13 yX5_builds ∈ lwt := mt1 119 rfl rfl
set_option maxRecDepth 20000 in
theorem ml_L_18 : Cond.methodLink RL 18 yX5_test ∈ lwt := mt1 123 rfl rfl
set_option maxRecDepth 20000 in
theorem ml_X5_50 : Cond.methodLink RX5 50 yX5_isKind ∈ lwt := mt1 127 rfl rfl
set_option maxRecDepth 20000 in
theorem ml_X5_81 : Cond.methodLink RX5 81 yX5_isWithin ∈ lwt := mt1 130 rfl rfl
set_option maxRecDepth 20000 in
theorem ml_X5_57 : Cond.methodLink RX5 57 yX4_init ∈ lwt := mt1 134 rfl rfl
set_option maxRecDepth 20000 in
theorem ml_X4_3 : Cond.methodLink RX4 3 objectInit ∈ lwt := mt1 137 rfl rfl
set_option maxRecDepth 20000 in
theorem ml_X4_21 : Cond.methodLink RX4 21 yX3_init ∈ lwt := mt1 141 rfl rfl
set_option maxRecDepth 20000 in
theorem ml_X3_3 : Cond.methodLink RX3 3 objectInit ∈ lwt := mt1 144 rfl rfl
set_option maxRecDepth 20000 in
theorem ml_X3_34 : Cond.methodLink RX3 34 yJ7_fill_53178 ∈ lwt := mt1 145 rfl rfl
set_option maxRecDepth 20000 in
theorem ml_L_22 : Cond.methodLink RL 22 yX5_is ∈ lwt := mt1 218 rfl rfl
set_option maxRecDepth 20000 in
theorem ml_X5_60 : Cond.methodLink RX5 60 yX5_findTest ∈ lwt := mt1 222 rfl rfl
set_option maxRecDepth 20000 in
theorem ml_L_27 : Cond.methodLink RL 27 yX5_row ∈ lwt := mt1 226 rfl rfl
set_option maxRecDepth 20000 in
theorem ml_X5_67 : Cond.methodLink RX5 67 yX5_findRow ∈ lwt := mt1 230 rfl rfl
set_option maxRecDepth 20000 in
theorem ml_X5_77 : Cond.methodLink RX5 77 yX3_empty ∈ lwt := mt1 234 rfl rfl
set_option maxRecDepth 20000 in
theorem ml_L_31 : Cond.methodLink RL 31 yX5_lay ∈ lwt := mt1 238 rfl rfl
set_option maxRecDepth 20000 in
theorem ml_X5_85 : Cond.methodLink RX5 85 yX5_refuseWith ∈ lwt := mt2 3 rfl rfl
set_option maxRecDepth 20000 in
theorem ml_X5_89 : Cond.methodLink RX5 89 yX5_isPlace ∈ lwt := mt2 7 rfl rfl
set_option maxRecDepth 20000 in
theorem ml_L_36 : Cond.methodLink RL 36 yX5_at ∈ lwt := mt2 10 rfl rfl
set_option maxRecDepth 20000 in
theorem ml_X5_98 : Cond.methodLink RX5 98 yX5_refuseRow ∈ lwt := mt2 14 rfl rfl
set_option maxRecDepth 20000 in
theorem ml_L_41 : Cond.methodLink RL 41 yX5_tear ∈ lwt := mt2 18 rfl rfl
set_option maxRecDepth 20000 in
theorem ml_L_45 : Cond.methodLink RL 45 yX5_copy ∈ lwt := mt2 22 rfl rfl
set_option maxRecDepth 20000 in
theorem ml_X5_102 : Cond.methodLink RX5 102 yX5_holds ∈ lwt := mt2 26 rfl rfl
set_option maxRecDepth 20000 in
theorem ml_X5_105 : Cond.methodLink RX5 105 arraycopyName ∈ lwt := mt2 29 rfl rfl
set_option maxRecDepth 20000 in
theorem ml_L_50 : Cond.methodLink RL 50 yX5_rank ∈ lwt := mt2 32 rfl rfl
set_option maxRecDepth 20000 in
theorem ml_X5_111 : Cond.methodLink RX5 111 yX3_rankOf ∈ lwt := mt2 36 rfl rfl
set_option maxRecDepth 20000 in
theorem ml_L_54 : Cond.methodLink RL 54 yX5_mean ∈ lwt := mt2 40 rfl rfl
set_option maxRecDepth 20000 in
theorem ml_L_58 : Cond.methodLink RL 58 yX5_price ∈ lwt := mt2 44 rfl rfl
set_option maxRecDepth 20000 in
theorem ml_L_62 : Cond.methodLink RL 62 yX5_cuts ∈ lwt := mt2 48 rfl rfl
set_option maxRecDepth 20000 in
theorem ml_X5_115 : Cond.methodLink RX5 115 yX5_bringUpToDate ∈ lwt := mt2 52 rfl rfl
set_option maxRecDepth 20000 in
theorem ml_X5_239 : Cond.methodLink RX5 239 yX1_divide ∈ lwt := mt2 56 rfl rfl
set_option maxRecDepth 20000 in
theorem ml_X1_24 : Cond.methodLink RX1 24 yX3_gatherMeasured ∈ lwt := mt2 60 rfl rfl
set_option maxRecDepth 20000 in
theorem ml_X3_77 : Cond.methodLink RX3 77 yX3_rankOf ∈ lwt := mt2 64 rfl rfl
set_option maxRecDepth 20000 in
theorem ml_X1_34 : Cond.methodLink RX1 34 yX1_solveFrom ∈ lwt := mt2 65 rfl rfl
set_option maxRecDepth 20000 in
theorem ml_X1_64 : Cond.methodLink RX1 64 yX1_farFromMiddle ∈ lwt := mt2 69 rfl rfl
set_option maxRecDepth 20000 in
theorem ml_X1_68 : Cond.methodLink RX1 68 yX1_insert ∈ lwt := mt2 73 rfl rfl
set_option maxRecDepth 20000 in
theorem ml_X1_41 : Cond.methodLink RX1 41 yX1_setSpans ∈ lwt := mt2 77 rfl rfl
set_option maxRecDepth 20000 in
theorem ml_X1_45 : Cond.methodLink RX1 45 yX1_setMiddles ∈ lwt := mt2 81 rfl rfl
set_option maxRecDepth 20000 in
theorem ml_X1_48 : Cond.methodLink RX1 48 yX3_pairSteps ∈ lwt := mt2 85 rfl rfl
set_option maxRecDepth 20000 in
theorem ml_X3_44 : Cond.methodLink RX3 44 yX3_cutCount ∈ lwt := mt2 89 rfl rfl
set_option maxRecDepth 20000 in
theorem ml_X3_48 : Cond.methodLink RX3 48 yX3_stepSize ∈ lwt := mt2 93 rfl rfl
set_option maxRecDepth 20000 in
theorem ml_X3_81 : Cond.methodLink RX3 81 yX3_pairStep ∈ lwt := mt2 97 rfl rfl
set_option maxRecDepth 20000 in
theorem ml_X3_60 : Cond.methodLink RX3 60 Lib.Math.abs.name ∈ lwt := mt2 101 rfl rfl
set_option maxRecDepth 20000 in
theorem ml_X5_125 : Cond.methodLink RX5 125 yX3_cutCount ∈ lwt := mt2 104 rfl rfl
set_option maxRecDepth 20000 in
theorem ml_L_66 : Cond.methodLink RL 66 yX5_cut ∈ lwt := mt2 105 rfl rfl
set_option maxRecDepth 20000 in
theorem ml_X5_129 : Cond.methodLink RX5 129 yX3_hasCut ∈ lwt := mt2 109 rfl rfl
set_option maxRecDepth 20000 in
theorem ml_X5_132 : Cond.methodLink RX5 132 yX3_cutBuild ∈ lwt := mt2 113 rfl rfl
set_option maxRecDepth 20000 in
theorem ml_L_70 : Cond.methodLink RL 70 yX5_middle ∈ lwt := mt2 117 rfl rfl
set_option maxRecDepth 20000 in
theorem ml_L_74 : Cond.methodLink RL 74 yX5_size ∈ lwt := mt2 121 rfl rfl
set_option maxRecDepth 20000 in
theorem ml_X5_141 : Cond.methodLink RX5 141 yX3_stepSize ∈ lwt := mt2 125 rfl rfl
set_option maxRecDepth 20000 in
theorem ml_L_78 : Cond.methodLink RL 78 yX5_reach ∈ lwt := mt2 126 rfl rfl
set_option maxRecDepth 20000 in
theorem ml_L_82 : Cond.methodLink RL 82 yX5_own ∈ lwt := mt2 130 rfl rfl
set_option maxRecDepth 20000 in
theorem ml_X5_144 : Cond.methodLink RX5 144 yX5_bringRowsUpToDate ∈ lwt := mt2 134 rfl rfl
set_option maxRecDepth 20000 in
theorem ml_X5_148 : Cond.methodLink RX5 148 yX5_isItsOwn ∈ lwt := mt2 138 rfl rfl
set_option maxRecDepth 20000 in
theorem ml_X5_248 : Cond.methodLink RX5 248 yJ6_signum_0f7a4 ∈ lwt := mt2 142 rfl rfl
set_option maxRecDepth 20000 in
theorem ml_X5_253 : Cond.methodLink RX5 253 yX3_stepsNear ∈ lwt := mt2 145 rfl rfl
set_option maxRecDepth 20000 in
theorem ml_X3_52 : Cond.methodLink RX3 52 yJ6_signum_0f7a4 ∈ lwt := mt2 149 rfl rfl
set_option maxRecDepth 20000 in
theorem ml_X3_57 : Cond.methodLink RX3 57 yX3_cutBuild ∈ lwt := mt2 150 rfl rfl
set_option maxRecDepth 20000 in
theorem ml_X5_257 : Cond.methodLink RX5 257 yX3_isMeasuredAround ∈ lwt := mt2 151 rfl rfl
set_option maxRecDepth 20000 in
theorem ml_L_86 : Cond.methodLink RL 86 yX5_undone ∈ lwt := mt2 155 rfl rfl
set_option maxRecDepth 20000 in
theorem ml_X5_152 : Cond.methodLink RX5 152 yX3_undoingOf ∈ lwt := mt2 159 rfl rfl
set_option maxRecDepth 20000 in
theorem ml_L_90 : Cond.methodLink RL 90 yX5_odds ∈ lwt := mt2 163 rfl rfl
set_option maxRecDepth 20000 in
theorem ml_X5_155 : Cond.methodLink RX5 155 yX5_readyChances ∈ lwt := mt2 167 rfl rfl
set_option maxRecDepth 20000 in
theorem ml_X0_3 : Cond.methodLink RX0 3 objectInit ∈ lwt := mt2 176 rfl rfl
set_option maxRecDepth 20000 in
theorem ml_X5_159 : Cond.methodLink RX5 159 yX0_reckon ∈ lwt := mt2 189 rfl rfl
set_option maxRecDepth 20000 in
theorem ml_X0_22 : Cond.methodLink RX0 22 yX3_stepSize ∈ lwt := mt2 193 rfl rfl
set_option maxRecDepth 20000 in
theorem ml_X0_29 : Cond.methodLink RX0 29 yX0_outermost ∈ lwt := mt2 194 rfl rfl
set_option maxRecDepth 20000 in
theorem ml_X0_52 : Cond.methodLink RX0 52 Lib.Math.max.name ∈ lwt := mt2 197 rfl rfl
set_option maxRecDepth 20000 in
theorem ml_X0_55 : Cond.methodLink RX0 55 Lib.Math.min.name ∈ lwt := mt2 200 rfl rfl
set_option maxRecDepth 20000 in
theorem ml_X0_33 : Cond.methodLink RX0 33 Lib.Math.abs.name ∈ lwt := mt2 203 rfl rfl
set_option maxRecDepth 20000 in
theorem ml_X0_38 : Cond.methodLink RX0 38 yX0_countUpTo ∈ lwt := mt2 204 rfl rfl
set_option maxRecDepth 20000 in
theorem ml_X0_58 : Cond.methodLink RX0 58 yX0_clear ∈ lwt := mt2 208 rfl rfl
set_option maxRecDepth 20000 in
theorem ml_X0_62 : Cond.methodLink RX0 62 yX0_addOne ∈ lwt := mt2 212 rfl rfl
set_option maxRecDepth 20000 in
theorem ml_X0_45 : Cond.methodLink RX0 45 yX0_choose ∈ lwt := mt2 216 rfl rfl
set_option maxRecDepth 20000 in
theorem ml_X0_49 : Cond.methodLink RX0 49 yX0_commonDivisor ∈ lwt := mt2 219 rfl rfl
set_option maxRecDepth 20000 in
theorem ml_L_94 : Cond.methodLink RL 94 yX5_cry ∈ lwt := mt2 222 rfl rfl
set_option maxRecDepth 20000 in
theorem ml_X5_177 : Cond.methodLink RX5 177 yX5_cryRow ∈ lwt := mt2 226 rfl rfl
set_option maxRecDepth 20000 in
theorem ml_X5_260 : Cond.methodLink RX5 260 yX5_isAlarming ∈ lwt := mt2 230 rfl rfl
set_option maxRecDepth 20000 in
theorem ml_X5_273 : Cond.methodLink RX5 273 yX3_wasAlarmed ∈ lwt := mt2 234 rfl rfl
set_option maxRecDepth 20000 in
theorem ml_X5_263 : Cond.methodLink RX5 263 yX5_isRare ∈ lwt := mt2 238 rfl rfl
set_option maxRecDepth 20000 in
theorem ml_X5_267 : Cond.methodLink RX5 267 yX3_rememberAlarm ∈ lwt := mt3 2 rfl rfl
set_option maxRecDepth 20000 in
theorem ml_X5_270 : Cond.methodLink RX5 270 yX5_keepAlarm ∈ lwt := mt3 6 rfl rfl
set_option maxRecDepth 20000 in
theorem ml_L_98 : Cond.methodLink RL 98 yX5_cried ∈ lwt := mt3 10 rfl rfl
set_option maxRecDepth 20000 in
theorem ml_L_102 : Cond.methodLink RL 102 yX5_halve ∈ lwt := mt3 14 rfl rfl
set_option maxRecDepth 20000 in
theorem ml_X5_181 : Cond.methodLink RX5 181 yX2_begin ∈ lwt := mt3 18 rfl rfl
set_option maxRecDepth 20000 in
theorem ml_X5_185 : Cond.methodLink RX5 185 yX2_mostReruns ∈ lwt := mt3 22 rfl rfl
set_option maxRecDepth 20000 in
theorem ml_L_106 : Cond.methodLink RL 106 yX5_asks ∈ lwt := mt3 26 rfl rfl
set_option maxRecDepth 20000 in
theorem ml_X5_191 : Cond.methodLink RX5 191 yX2_hasEnded ∈ lwt := mt3 30 rfl rfl
set_option maxRecDepth 20000 in
theorem ml_X5_195 : Cond.methodLink RX5 195 yX2_middleBuild ∈ lwt := mt3 34 rfl rfl
set_option maxRecDepth 20000 in
theorem ml_L_111 : Cond.methodLink RL 111 yX5_rerun ∈ lwt := mt3 38 rfl rfl
set_option maxRecDepth 20000 in
theorem ml_X5_198 : Cond.methodLink RX5 198 yX2_take ∈ lwt := mt3 42 rfl rfl
set_option maxRecDepth 20000 in
theorem ml_X2_32 : Cond.methodLink RX2 32 yX2_decide ∈ lwt := mt3 46 rfl rfl
set_option maxRecDepth 20000 in
theorem ml_X2_35 : Cond.methodLink RX2 35 yX2_middleBuild ∈ lwt := mt3 50 rfl rfl
set_option maxRecDepth 20000 in
theorem ml_L_116 : Cond.methodLink RL 116 yX5_found ∈ lwt := mt3 51 rfl rfl
set_option maxRecDepth 20000 in
theorem ml_L_120 : Cond.methodLink RL 120 yX5_reruns ∈ lwt := mt3 55 rfl rfl
set_option maxRecDepth 20000 in
theorem ml_L_124 : Cond.methodLink RL 124 yX5_upper ∈ lwt := mt3 59 rfl rfl
set_option maxRecDepth 20000 in
theorem ml_L_129 : Cond.methodLink RL 129 yX5_lower ∈ lwt := mt3 63 rfl rfl
set_option maxRecDepth 20000 in
theorem ml_L_133 : Cond.methodLink RL 133 yX5_asked ∈ lwt := mt3 67 rfl rfl
set_option maxRecDepth 20000 in
theorem ml_L_137 : Cond.methodLink RL 137 yX5_count ∈ lwt := mt3 71 rfl rfl
set_option maxRecDepth 20000 in
theorem ml_X5_208 : Cond.methodLink RX5 208 yX5_countRows ∈ lwt := mt3 75 rfl rfl
set_option maxRecDepth 20000 in
theorem ml_L_141 : Cond.methodLink RL 141 yX5_finding ∈ lwt := mt3 79 rfl rfl
set_option maxRecDepth 20000 in
theorem ml_L_145 : Cond.methodLink RL 145 yX5_findings ∈ lwt := mt3 83 rfl rfl
set_option maxRecDepth 20000 in
theorem ml_L_149 : Cond.methodLink RL 149 yX5_digest ∈ lwt := mt3 87 rfl rfl
set_option maxRecDepth 20000 in
theorem ml_X5_222 : Cond.methodLink RX5 222 yX3_digestOnto ∈ lwt := mt3 93 rfl rfl
set_option maxRecDepth 20000 in
theorem ml_X5_226 : Cond.methodLink RX5 226 yX5_asks ∈ lwt := mt3 98 rfl rfl
set_option maxRecDepth 20000 in
theorem ml_X5_229 : Cond.methodLink RX5 229 yX5_found ∈ lwt := mt3 99 rfl rfl
set_option maxRecDepth 20000 in
theorem ml_X5_232 : Cond.methodLink RX5 232 yX5_reruns ∈ lwt := mt3 100 rfl rfl
set_option maxRecDepth 20000 in
theorem ml_L_12 : Cond.methodLink RL 12 yX6_init ∈ lwt := mt3 103 rfl rfl
set_option maxRecDepth 20000 in
theorem ml_X6_1 : Cond.methodLink RX6 1 objectInit ∈ lwt := mt3 106 rfl rfl
set_option maxRecDepth 20000 in
theorem ml_L_144 : Cond.methodLink RL 144 yX6_finding ∈ lwt := mt3 234 rfl rfl
set_option maxRecDepth 20000 in
theorem ml_L_148 : Cond.methodLink RL 148 yX6_findings ∈ lwt := mt3 238 rfl rfl
set_option maxRecDepth 20000 in
theorem ml_X6_84 : Cond.methodLink RX6 84 yX6_in ∈ lwt := mt4 2 rfl rfl
set_option maxRecDepth 20000 in
theorem ml_L_136 : Cond.methodLink RL 136 yX6_asked ∈ lwt := mt4 5 rfl rfl
set_option maxRecDepth 20000 in
theorem ml_L_17 : Cond.methodLink RL 17 yX6_builds ∈ lwt := mt4 9 rfl rfl
set_option maxRecDepth 20000 in
theorem ml_L_21 : Cond.methodLink RL 21 yX6_test ∈ lwt := mt4 13 rfl rfl
set_option maxRecDepth 20000 in
theorem ml_L_26 : Cond.methodLink RL 26 yX6_is ∈ lwt := mt4 17 rfl rfl
set_option maxRecDepth 20000 in
theorem ml_X6_97 : Cond.methodLink RX6 97 yX6_isTest ∈ lwt := mt4 21 rfl rfl
set_option maxRecDepth 20000 in
theorem ml_L_30 : Cond.methodLink RL 30 yX6_row ∈ lwt := mt4 25 rfl rfl
set_option maxRecDepth 20000 in
theorem ml_X6_101 : Cond.methodLink RX6 101 yX6_isRow ∈ lwt := mt4 29 rfl rfl
set_option maxRecDepth 20000 in
theorem ml_L_35 : Cond.methodLink RL 35 yX6_lay ∈ lwt := mt4 33 rfl rfl
set_option maxRecDepth 20000 in
theorem ml_X6_106 : Cond.methodLink RX6 106 yX6_meets ∈ lwt := mt4 38 rfl rfl
set_option maxRecDepth 20000 in
theorem ml_L_40 : Cond.methodLink RL 40 yX6_at ∈ lwt := mt4 42 rfl rfl
set_option maxRecDepth 20000 in
theorem ml_L_44 : Cond.methodLink RL 44 yX6_tear ∈ lwt := mt4 46 rfl rfl
set_option maxRecDepth 20000 in
theorem ml_L_49 : Cond.methodLink RL 49 yX6_copy ∈ lwt := mt4 50 rfl rfl
set_option maxRecDepth 20000 in
theorem ml_L_53 : Cond.methodLink RL 53 yX6_rank ∈ lwt := mt4 55 rfl rfl
set_option maxRecDepth 20000 in
theorem ml_X6_119 : Cond.methodLink RX6 119 yX6_need ∈ lwt := mt4 59 rfl rfl
set_option maxRecDepth 20000 in
theorem ml_X6_115 : Cond.methodLink RX6 115 yX6_layCuts ∈ lwt := mt4 63 rfl rfl
set_option maxRecDepth 20000 in
theorem ml_X6_126 : Cond.methodLink RX6 126 yX6_layRow ∈ lwt := mt4 67 rfl rfl
set_option maxRecDepth 20000 in
theorem ml_X6_129 : Cond.methodLink RX6 129 yX6_costOf ∈ lwt := mt4 71 rfl rfl
set_option maxRecDepth 20000 in
theorem ml_L_57 : Cond.methodLink RL 57 yX6_mean ∈ lwt := mt4 75 rfl rfl
set_option maxRecDepth 20000 in
theorem ml_L_61 : Cond.methodLink RL 61 yX6_price ∈ lwt := mt4 79 rfl rfl
set_option maxRecDepth 20000 in
theorem ml_L_65 : Cond.methodLink RL 65 yX6_cuts ∈ lwt := mt4 83 rfl rfl
set_option maxRecDepth 20000 in
theorem ml_L_69 : Cond.methodLink RL 69 yX6_cut ∈ lwt := mt4 87 rfl rfl
set_option maxRecDepth 20000 in
theorem ml_X6_135 : Cond.methodLink RX6 135 yX6_isCut ∈ lwt := mt4 91 rfl rfl
set_option maxRecDepth 20000 in
theorem ml_X6_138 : Cond.methodLink RX6 138 yX6_buildOfCut ∈ lwt := mt4 95 rfl rfl
set_option maxRecDepth 20000 in
theorem ml_L_73 : Cond.methodLink RL 73 yX6_middle ∈ lwt := mt4 99 rfl rfl
set_option maxRecDepth 20000 in
theorem ml_L_77 : Cond.methodLink RL 77 yX6_size ∈ lwt := mt4 103 rfl rfl
set_option maxRecDepth 20000 in
theorem ml_X6_141 : Cond.methodLink RX6 141 yX6_sizeOf ∈ lwt := mt4 107 rfl rfl
set_option maxRecDepth 20000 in
theorem ml_L_81 : Cond.methodLink RL 81 yX6_reach ∈ lwt := mt4 111 rfl rfl
set_option maxRecDepth 20000 in
theorem ml_L_85 : Cond.methodLink RL 85 yX6_own ∈ lwt := mt4 115 rfl rfl
set_option maxRecDepth 20000 in
theorem ml_X6_150 : Cond.methodLink RX6 150 yX6_isOwn ∈ lwt := mt4 119 rfl rfl
set_option maxRecDepth 20000 in
theorem ml_X6_144 : Cond.methodLink RX6 144 yX6_showsNear ∈ lwt := mt4 123 rfl rfl
set_option maxRecDepth 20000 in
theorem ml_X6_147 : Cond.methodLink RX6 147 yX6_couldShow ∈ lwt := mt4 127 rfl rfl
set_option maxRecDepth 20000 in
theorem ml_L_89 : Cond.methodLink RL 89 yX6_undone ∈ lwt := mt4 131 rfl rfl
set_option maxRecDepth 20000 in
theorem ml_X6_155 : Cond.methodLink RX6 155 yX6_layPairs ∈ lwt := mt4 135 rfl rfl
set_option maxRecDepth 20000 in
theorem ml_L_93 : Cond.methodLink RL 93 yX6_odds ∈ lwt := mt4 140 rfl rfl
set_option maxRecDepth 20000 in
theorem ml_X6_164 : Cond.methodLink RX6 164 yX6_layOdds ∈ lwt := mt4 144 rfl rfl
set_option maxRecDepth 20000 in
theorem ml_X6_167 : Cond.methodLink RX6 167 yX6_gcd ∈ lwt := mt4 148 rfl rfl
set_option maxRecDepth 20000 in
theorem ml_L_128 : Cond.methodLink RL 128 yX6_upper ∈ lwt := mt4 151 rfl rfl
set_option maxRecDepth 20000 in
theorem ml_L_132 : Cond.methodLink RL 132 yX6_lower ∈ lwt := mt4 155 rfl rfl
set_option maxRecDepth 20000 in
theorem ml_L_97 : Cond.methodLink RL 97 yX6_cry ∈ lwt := mt4 159 rfl rfl
set_option maxRecDepth 20000 in
theorem ml_X6_184 : Cond.methodLink RX6 184 yX6_cryOf ∈ lwt := mt4 163 rfl rfl
set_option maxRecDepth 20000 in
theorem ml_X6_174 : Cond.methodLink RX6 174 yX6_isLoud ∈ lwt := mt4 167 rfl rfl
set_option maxRecDepth 20000 in
theorem ml_L_101 : Cond.methodLink RL 101 yX6_cried ∈ lwt := mt4 171 rfl rfl
set_option maxRecDepth 20000 in
theorem ml_L_105 : Cond.methodLink RL 105 yX6_halve ∈ lwt := mt4 175 rfl rfl
set_option maxRecDepth 20000 in
theorem ml_L_110 : Cond.methodLink RL 110 yX6_asks ∈ lwt := mt4 179 rfl rfl
set_option maxRecDepth 20000 in
theorem ml_X6_210 : Cond.methodLink RX6 210 yX6_hasEnded ∈ lwt := mt4 183 rfl rfl
set_option maxRecDepth 20000 in
theorem ml_X6_214 : Cond.methodLink RX6 214 yX6_middleBuild ∈ lwt := mt4 187 rfl rfl
set_option maxRecDepth 20000 in
theorem ml_L_115 : Cond.methodLink RL 115 yX6_rerun ∈ lwt := mt4 191 rfl rfl
set_option maxRecDepth 20000 in
theorem ml_L_119 : Cond.methodLink RL 119 yX6_found ∈ lwt := mt4 195 rfl rfl
set_option maxRecDepth 20000 in
theorem ml_L_123 : Cond.methodLink RL 123 yX6_reruns ∈ lwt := mt4 199 rfl rfl
set_option maxRecDepth 20000 in
theorem ml_L_140 : Cond.methodLink RL 140 yX6_count ∈ lwt := mt4 203 rfl rfl
set_option maxRecDepth 20000 in
theorem ml_L_152 : Cond.methodLink RL 152 yX6_digest ∈ lwt := mt4 207 rfl rfl
set_option maxRecDepth 20000 in
theorem ml_X6_222 : Cond.methodLink RX6 222 yX6_asks ∈ lwt := mt4 213 rfl rfl
set_option maxRecDepth 20000 in
theorem ml_X6_225 : Cond.methodLink RX6 225 yX6_found ∈ lwt := mt4 214 rfl rfl
abbrev cdX5_init : Cond := .code yX5_init cX5_init 1 none
set_option maxRecDepth 20000 in
theorem yk_X5_init : Yk yX5_init cdX5_init cX5_init 1 none 0 := ⟨rfl, mt1 16 rfl rfl, ini_X5, by decide +kernel⟩
set_option maxRecDepth 20000 in
theorem cd_object : Cond.code objectInit ⟨#[0xb1]⟩ 1 none ∈ lwt := mt1 19 rfl rfl
abbrev cdX1_init : Cond := .code yX1_init cX1_init 1 none
set_option maxRecDepth 20000 in
theorem yk_X1_init : Yk yX1_init cdX1_init cX1_init 1 none 0 := ⟨rfl, mt1 26 rfl rfl, ini_X1, by decide +kernel⟩
abbrev cdX2_init : Cond := .code yX2_init cX2_init 1 none
set_option maxRecDepth 20000 in
theorem yk_X2_init : Yk yX2_init cdX2_init cX2_init 1 none 0 := ⟨rfl, mt1 46 rfl rfl, ini_X2, by decide +kernel⟩
abbrev cdX5_builds : Cond := .code yX5_builds cX5_builds 2 (some .int)
set_option maxRecDepth 20000 in
theorem yk_X5_builds : Yk yX5_builds cdX5_builds cX5_builds 2 (some .int) 1 := ⟨rfl, mt1 122 rfl rfl, ini_X5, by decide +kernel⟩
abbrev cdX5_test : Cond := .code yX5_test cX5_test 2 (some .int)
set_option maxRecDepth 20000 in
theorem yk_X5_test : Yk yX5_test cdX5_test cX5_test 2 (some .int) 1 := ⟨rfl, mt1 126 rfl rfl, ini_X5, by decide +kernel⟩
abbrev cdX5_isKind : Cond := .code yX5_isKind cX5_isKind 1 (some .boolean)
set_option maxRecDepth 20000 in
theorem yk_X5_isKind : Yk yX5_isKind cdX5_isKind cX5_isKind 1 (some .boolean) 1 := ⟨rfl, mt1 129 rfl rfl, ini_X5, by decide +kernel⟩
abbrev cdX5_isWithin : Cond := .code yX5_isWithin cX5_isWithin 2 (some .boolean)
set_option maxRecDepth 20000 in
theorem yk_X5_isWithin : Yk yX5_isWithin cdX5_isWithin cX5_isWithin 2 (some .boolean) 2 := ⟨rfl, mt1 132 rfl rfl, ini_X5, by decide +kernel⟩
abbrev cdX4_init : Cond := .code yX4_init cX4_init 3 none
set_option maxRecDepth 20000 in
theorem yk_X4_init : Yk yX4_init cdX4_init cX4_init 3 none 1 := ⟨rfl, mt1 136 rfl rfl, ini_X4, by decide +kernel⟩
abbrev cdX3_init : Cond := .code yX3_init cX3_init 1 none
set_option maxRecDepth 20000 in
theorem yk_X3_init : Yk yX3_init cdX3_init cX3_init 1 none 0 := ⟨rfl, mt1 143 rfl rfl, ini_X3, by decide +kernel⟩
abbrev cdJ7_fill_53178 : Cond := .code yJ7_fill_53178 cJ7_fill_53178 4 none
set_option maxRecDepth 20000 in
theorem yk_J7_fill_53178 : Yk yJ7_fill_53178 cdJ7_fill_53178 cJ7_fill_53178 4 none 2 := ⟨rfl, mt1 147 rfl rfl, ini_J7, by decide +kernel⟩
abbrev cdX5_is : Cond := .code yX5_is cX5_is 4 (some .int)
set_option maxRecDepth 20000 in
theorem yk_X5_is : Yk yX5_is cdX5_is cX5_is 4 (some .int) 2 := ⟨rfl, mt1 221 rfl rfl, ini_X5, by decide +kernel⟩
abbrev cdX5_findTest : Cond := .code yX5_findTest cX5_findTest 2 (some (.object "SlowWatch$Test"))
set_option maxRecDepth 20000 in
theorem yk_X5_findTest : Yk yX5_findTest cdX5_findTest cX5_findTest 2 (some (.object "SlowWatch$Test")) 1 := ⟨rfl, mt1 225 rfl rfl, ini_X5, by decide +kernel⟩
abbrev cdX5_row : Cond := .code yX5_row cX5_row 5 (some .int)
set_option maxRecDepth 20000 in
theorem yk_X5_row : Yk yX5_row cdX5_row cX5_row 5 (some .int) 2 := ⟨rfl, mt1 229 rfl rfl, ini_X5, by decide +kernel⟩
abbrev cdX5_findRow : Cond := .code yX5_findRow cX5_findRow 4 (some (.object "SlowWatch$Row"))
set_option maxRecDepth 20000 in
theorem yk_X5_findRow : Yk yX5_findRow cdX5_findRow cX5_findRow 4 (some (.object "SlowWatch$Row")) 2 := ⟨rfl, mt1 233 rfl rfl, ini_X5, by decide +kernel⟩
abbrev cdX3_empty : Cond := .code yX3_empty cX3_empty 1 none
set_option maxRecDepth 20000 in
theorem yk_X3_empty : Yk yX3_empty cdX3_empty cX3_empty 1 none 0 := ⟨rfl, mt1 237 rfl rfl, ini_X3, by decide +kernel⟩
abbrev cdX5_lay : Cond := .code yX5_lay cX5_lay 7 (some .int)
set_option maxRecDepth 20000 in
theorem yk_X5_lay : Yk yX5_lay cdX5_lay cX5_lay 7 (some .int) 4 := ⟨rfl, mt2 1 rfl rfl, ini_X5, by decide +kernel⟩
abbrev cdX5_refuseWith : Cond := .code yX5_refuseWith cX5_refuseWith 2 (some .int)
set_option maxRecDepth 20000 in
theorem yk_X5_refuseWith : Yk yX5_refuseWith cdX5_refuseWith cX5_refuseWith 2 (some .int) 1 := ⟨rfl, mt2 6 rfl rfl, ini_X5, by decide +kernel⟩
abbrev cdX5_isPlace : Cond := .code yX5_isPlace cX5_isPlace 1 (some .boolean)
set_option maxRecDepth 20000 in
theorem yk_X5_isPlace : Yk yX5_isPlace cdX5_isPlace cX5_isPlace 1 (some .boolean) 1 := ⟨rfl, mt2 9 rfl rfl, ini_X5, by decide +kernel⟩
abbrev cdX5_at : Cond := .code yX5_at cX5_at 5 (some .int)
set_option maxRecDepth 20000 in
theorem yk_X5_at : Yk yX5_at cdX5_at cX5_at 5 (some .int) 3 := ⟨rfl, mt2 13 rfl rfl, ini_X5, by decide +kernel⟩
abbrev cdX5_refuseRow : Cond := .code yX5_refuseRow cX5_refuseRow 2 (some .int)
set_option maxRecDepth 20000 in
theorem yk_X5_refuseRow : Yk yX5_refuseRow cdX5_refuseRow cX5_refuseRow 2 (some .int) 1 := ⟨rfl, mt2 17 rfl rfl, ini_X5, by decide +kernel⟩
abbrev cdX5_tear : Cond := .code yX5_tear cX5_tear 4 (some .int)
set_option maxRecDepth 20000 in
theorem yk_X5_tear : Yk yX5_tear cdX5_tear cX5_tear 4 (some .int) 2 := ⟨rfl, mt2 21 rfl rfl, ini_X5, by decide +kernel⟩
abbrev cdX5_copy : Cond := .code yX5_copy cX5_copy 9 (some .int)
set_option maxRecDepth 20000 in
theorem yk_X5_copy : Yk yX5_copy cdX5_copy cX5_copy 9 (some .int) 6 := ⟨rfl, mt2 25 rfl rfl, ini_X5, by decide +kernel⟩
abbrev cdX5_holds : Cond := .code yX5_holds cX5_holds 2 (some .boolean)
set_option maxRecDepth 20000 in
theorem yk_X5_holds : Yk yX5_holds cdX5_holds cX5_holds 2 (some .boolean) 2 := ⟨rfl, mt2 28 rfl rfl, ini_X5, by decide +kernel⟩
abbrev cdX5_rank : Cond := .code yX5_rank cX5_rank 5 (some .int)
set_option maxRecDepth 20000 in
theorem yk_X5_rank : Yk yX5_rank cdX5_rank cX5_rank 5 (some .int) 3 := ⟨rfl, mt2 35 rfl rfl, ini_X5, by decide +kernel⟩
abbrev cdX3_rankOf : Cond := .code yX3_rankOf cX3_rankOf 7 (some .int)
set_option maxRecDepth 20000 in
theorem yk_X3_rankOf : Yk yX3_rankOf cdX3_rankOf cX3_rankOf 7 (some .int) 2 := ⟨rfl, mt2 39 rfl rfl, ini_X3, by decide +kernel⟩
abbrev cdX5_mean : Cond := .code yX5_mean cX5_mean 7 (some .int)
set_option maxRecDepth 20000 in
theorem yk_X5_mean : Yk yX5_mean cdX5_mean cX5_mean 7 (some .int) 2 := ⟨rfl, mt2 43 rfl rfl, ini_X5, by decide +kernel⟩
abbrev cdX5_price : Cond := .code yX5_price cX5_price 3 (some .int)
set_option maxRecDepth 20000 in
theorem yk_X5_price : Yk yX5_price cdX5_price cX5_price 3 (some .int) 1 := ⟨rfl, mt2 47 rfl rfl, ini_X5, by decide +kernel⟩
abbrev cdX5_cuts : Cond := .code yX5_cuts cX5_cuts 4 (some .int)
set_option maxRecDepth 20000 in
theorem yk_X5_cuts : Yk yX5_cuts cdX5_cuts cX5_cuts 4 (some .int) 2 := ⟨rfl, mt2 51 rfl rfl, ini_X5, by decide +kernel⟩
abbrev cdX5_bringUpToDate : Cond := .code yX5_bringUpToDate cX5_bringUpToDate 2 none
set_option maxRecDepth 20000 in
theorem yk_X5_bringUpToDate : Yk yX5_bringUpToDate cdX5_bringUpToDate cX5_bringUpToDate 2 none 1 := ⟨rfl, mt2 55 rfl rfl, ini_X5, by decide +kernel⟩
abbrev cdX1_divide : Cond := .code yX1_divide cX1_divide 5 none
set_option maxRecDepth 20000 in
theorem yk_X1_divide : Yk yX1_divide cdX1_divide cX1_divide 5 none 3 := ⟨rfl, mt2 59 rfl rfl, ini_X1, by decide +kernel⟩
abbrev cdX3_gatherMeasured : Cond := .code yX3_gatherMeasured cX3_gatherMeasured 3 none
set_option maxRecDepth 20000 in
theorem yk_X3_gatherMeasured : Yk yX3_gatherMeasured cdX3_gatherMeasured cX3_gatherMeasured 3 none 1 := ⟨rfl, mt2 63 rfl rfl, ini_X3, by decide +kernel⟩
abbrev cdX1_solveFrom : Cond := .code yX1_solveFrom cX1_solveFrom 12 none
set_option maxRecDepth 20000 in
theorem yk_X1_solveFrom : Yk yX1_solveFrom cdX1_solveFrom cX1_solveFrom 12 none 3 := ⟨rfl, mt2 68 rfl rfl, ini_X1, by decide +kernel⟩
abbrev cdX1_farFromMiddle : Cond := .code yX1_farFromMiddle cX1_farFromMiddle 5 (some .int)
set_option maxRecDepth 20000 in
theorem yk_X1_farFromMiddle : Yk yX1_farFromMiddle cdX1_farFromMiddle cX1_farFromMiddle 5 (some .int) 2 := ⟨rfl, mt2 72 rfl rfl, ini_X1, by decide +kernel⟩
abbrev cdX1_insert : Cond := .code yX1_insert cX1_insert 4 none
set_option maxRecDepth 20000 in
theorem yk_X1_insert : Yk yX1_insert cdX1_insert cX1_insert 4 none 2 := ⟨rfl, mt2 76 rfl rfl, ini_X1, by decide +kernel⟩
abbrev cdX1_setSpans : Cond := .code yX1_setSpans cX1_setSpans 4 none
set_option maxRecDepth 20000 in
theorem yk_X1_setSpans : Yk yX1_setSpans cdX1_setSpans cX1_setSpans 4 none 1 := ⟨rfl, mt2 80 rfl rfl, ini_X1, by decide +kernel⟩
abbrev cdX1_setMiddles : Cond := .code yX1_setMiddles cX1_setMiddles 5 none
set_option maxRecDepth 20000 in
theorem yk_X1_setMiddles : Yk yX1_setMiddles cdX1_setMiddles cX1_setMiddles 5 none 1 := ⟨rfl, mt2 84 rfl rfl, ini_X1, by decide +kernel⟩
abbrev cdX3_pairSteps : Cond := .code yX3_pairSteps cX3_pairSteps 2 none
set_option maxRecDepth 20000 in
theorem yk_X3_pairSteps : Yk yX3_pairSteps cdX3_pairSteps cX3_pairSteps 2 none 0 := ⟨rfl, mt2 88 rfl rfl, ini_X3, by decide +kernel⟩
abbrev cdX3_cutCount : Cond := .code yX3_cutCount cX3_cutCount 1 (some .int)
set_option maxRecDepth 20000 in
theorem yk_X3_cutCount : Yk yX3_cutCount cdX3_cutCount cX3_cutCount 1 (some .int) 0 := ⟨rfl, mt2 92 rfl rfl, ini_X3, by decide +kernel⟩
abbrev cdX3_stepSize : Cond := .code yX3_stepSize cX3_stepSize 2 (some .int)
set_option maxRecDepth 20000 in
theorem yk_X3_stepSize : Yk yX3_stepSize cdX3_stepSize cX3_stepSize 2 (some .int) 1 := ⟨rfl, mt2 96 rfl rfl, ini_X3, by decide +kernel⟩
abbrev cdX3_pairStep : Cond := .code yX3_pairStep cX3_pairStep 6 none
set_option maxRecDepth 20000 in
theorem yk_X3_pairStep : Yk yX3_pairStep cdX3_pairStep cX3_pairStep 6 none 1 := ⟨rfl, mt2 100 rfl rfl, ini_X3, by decide +kernel⟩
set_option maxRecDepth 20000 in
theorem cd_math_abs : Cond.code Lib.Math.abs.name Lib.Math.abs.code 1 (some .int) ∈ lwt := mt2 103 rfl rfl
abbrev cdX5_cut : Cond := .code yX5_cut cX5_cut 5 (some .int)
set_option maxRecDepth 20000 in
theorem yk_X5_cut : Yk yX5_cut cdX5_cut cX5_cut 5 (some .int) 3 := ⟨rfl, mt2 108 rfl rfl, ini_X5, by decide +kernel⟩
abbrev cdX3_hasCut : Cond := .code yX3_hasCut cX3_hasCut 2 (some .boolean)
set_option maxRecDepth 20000 in
theorem yk_X3_hasCut : Yk yX3_hasCut cdX3_hasCut cX3_hasCut 2 (some .boolean) 1 := ⟨rfl, mt2 112 rfl rfl, ini_X3, by decide +kernel⟩
abbrev cdX3_cutBuild : Cond := .code yX3_cutBuild cX3_cutBuild 2 (some .int)
set_option maxRecDepth 20000 in
theorem yk_X3_cutBuild : Yk yX3_cutBuild cdX3_cutBuild cX3_cutBuild 2 (some .int) 1 := ⟨rfl, mt2 116 rfl rfl, ini_X3, by decide +kernel⟩
abbrev cdX5_middle : Cond := .code yX5_middle cX5_middle 5 (some .int)
set_option maxRecDepth 20000 in
theorem yk_X5_middle : Yk yX5_middle cdX5_middle cX5_middle 5 (some .int) 3 := ⟨rfl, mt2 120 rfl rfl, ini_X5, by decide +kernel⟩
abbrev cdX5_size : Cond := .code yX5_size cX5_size 5 (some .int)
set_option maxRecDepth 20000 in
theorem yk_X5_size : Yk yX5_size cdX5_size cX5_size 5 (some .int) 3 := ⟨rfl, mt2 124 rfl rfl, ini_X5, by decide +kernel⟩
abbrev cdX5_reach : Cond := .code yX5_reach cX5_reach 3 (some .int)
set_option maxRecDepth 20000 in
theorem yk_X5_reach : Yk yX5_reach cdX5_reach cX5_reach 3 (some .int) 1 := ⟨rfl, mt2 129 rfl rfl, ini_X5, by decide +kernel⟩
abbrev cdX5_own : Cond := .code yX5_own cX5_own 6 (some .int)
set_option maxRecDepth 20000 in
theorem yk_X5_own : Yk yX5_own cdX5_own cX5_own 6 (some .int) 3 := ⟨rfl, mt2 133 rfl rfl, ini_X5, by decide +kernel⟩
abbrev cdX5_bringRowsUpToDate : Cond := .code yX5_bringRowsUpToDate cX5_bringRowsUpToDate 3 none
set_option maxRecDepth 20000 in
theorem yk_X5_bringRowsUpToDate : Yk yX5_bringRowsUpToDate cdX5_bringRowsUpToDate cX5_bringRowsUpToDate 3 none 1 := ⟨rfl, mt2 137 rfl rfl, ini_X5, by decide +kernel⟩
abbrev cdX5_isItsOwn : Cond := .code yX5_isItsOwn cX5_isItsOwn 10 (some .boolean)
set_option maxRecDepth 20000 in
theorem yk_X5_isItsOwn : Yk yX5_isItsOwn cdX5_isItsOwn cX5_isItsOwn 10 (some .boolean) 3 := ⟨rfl, mt2 141 rfl rfl, ini_X5, by decide +kernel⟩
abbrev cdJ6_signum_0f7a4 : Cond := .code yJ6_signum_0f7a4 cJ6_signum_0f7a4 1 (some .int)
set_option maxRecDepth 20000 in
theorem yk_J6_signum_0f7a4 : Yk yJ6_signum_0f7a4 cdJ6_signum_0f7a4 cJ6_signum_0f7a4 1 (some .int) 1 := ⟨rfl, mt2 144 rfl rfl, ini_J6, by decide +kernel⟩
abbrev cdX3_stepsNear : Cond := .code yX3_stepsNear cX3_stepsNear 6 (some .boolean)
set_option maxRecDepth 20000 in
theorem yk_X3_stepsNear : Yk yX3_stepsNear cdX3_stepsNear cX3_stepsNear 6 (some .boolean) 3 := ⟨rfl, mt2 148 rfl rfl, ini_X3, by decide +kernel⟩
abbrev cdX3_isMeasuredAround : Cond := .code yX3_isMeasuredAround cX3_isMeasuredAround 2 (some .boolean)
set_option maxRecDepth 20000 in
theorem yk_X3_isMeasuredAround : Yk yX3_isMeasuredAround cdX3_isMeasuredAround cX3_isMeasuredAround 2 (some .boolean) 1 := ⟨rfl, mt2 154 rfl rfl, ini_X3, by decide +kernel⟩
abbrev cdX5_undone : Cond := .code yX5_undone cX5_undone 6 (some .int)
set_option maxRecDepth 20000 in
theorem yk_X5_undone : Yk yX5_undone cdX5_undone cX5_undone 6 (some .int) 3 := ⟨rfl, mt2 158 rfl rfl, ini_X5, by decide +kernel⟩
abbrev cdX3_undoingOf : Cond := .code yX3_undoingOf cX3_undoingOf 2 (some .int)
set_option maxRecDepth 20000 in
theorem yk_X3_undoingOf : Yk yX3_undoingOf cdX3_undoingOf cX3_undoingOf 2 (some .int) 1 := ⟨rfl, mt2 162 rfl rfl, ini_X3, by decide +kernel⟩
abbrev cdX5_odds : Cond := .code yX5_odds cX5_odds 6 (some .int)
set_option maxRecDepth 20000 in
theorem yk_X5_odds : Yk yX5_odds cdX5_odds cX5_odds 6 (some .int) 3 := ⟨rfl, mt2 166 rfl rfl, ini_X5, by decide +kernel⟩
abbrev cdX5_readyChances : Cond := .code yX5_readyChances cX5_readyChances 1 (some (.object "SlowWatch$Chances"))
set_option maxRecDepth 20000 in
theorem yk_X5_readyChances : Yk yX5_readyChances cdX5_readyChances cX5_readyChances 1 (some (.object "SlowWatch$Chances")) 0 := ⟨rfl, mt2 170 rfl rfl, ini_X5, by decide +kernel⟩
abbrev cdX0_init : Cond := .code yX0_init cX0_init 1 none
set_option maxRecDepth 20000 in
theorem yk_X0_init : Yk yX0_init cdX0_init cX0_init 1 none 0 := ⟨rfl, mt2 175 rfl rfl, ini_X0, by decide +kernel⟩
abbrev cdX0_reckon : Cond := .code yX0_reckon cX0_reckon 14 (some .boolean)
set_option maxRecDepth 20000 in
theorem yk_X0_reckon : Yk yX0_reckon cdX0_reckon cX0_reckon 14 (some .boolean) 2 := ⟨rfl, mt2 192 rfl rfl, ini_X0, by decide +kernel⟩
abbrev cdX0_outermost : Cond := .code yX0_outermost cX0_outermost 6 (some .int)
set_option maxRecDepth 20000 in
theorem yk_X0_outermost : Yk yX0_outermost cdX0_outermost cX0_outermost 6 (some .int) 4 := ⟨rfl, mt2 196 rfl rfl, ini_X0, by decide +kernel⟩
set_option maxRecDepth 20000 in
theorem cd_math_max : Cond.code Lib.Math.max.name Lib.Math.max.code 2 (some .int) ∈ lwt := mt2 199 rfl rfl
set_option maxRecDepth 20000 in
theorem cd_math_min : Cond.code Lib.Math.min.name Lib.Math.min.code 2 (some .int) ∈ lwt := mt2 202 rfl rfl
abbrev cdX0_countUpTo : Cond := .code yX0_countUpTo cX0_countUpTo 9 (some .int)
set_option maxRecDepth 20000 in
theorem yk_X0_countUpTo : Yk yX0_countUpTo cdX0_countUpTo cX0_countUpTo 9 (some .int) 6 := ⟨rfl, mt2 207 rfl rfl, ini_X0, by decide +kernel⟩
abbrev cdX0_clear : Cond := .code yX0_clear cX0_clear 5 none
set_option maxRecDepth 20000 in
theorem yk_X0_clear : Yk yX0_clear cdX0_clear cX0_clear 5 none 2 := ⟨rfl, mt2 211 rfl rfl, ini_X0, by decide +kernel⟩
abbrev cdX0_addOne : Cond := .code yX0_addOne cX0_addOne 8 none
set_option maxRecDepth 20000 in
theorem yk_X0_addOne : Yk yX0_addOne cdX0_addOne cX0_addOne 8 none 3 := ⟨rfl, mt2 215 rfl rfl, ini_X0, by decide +kernel⟩
abbrev cdX0_choose : Cond := .code yX0_choose cX0_choose 4 (some .int)
set_option maxRecDepth 20000 in
theorem yk_X0_choose : Yk yX0_choose cdX0_choose cX0_choose 4 (some .int) 2 := ⟨rfl, mt2 218 rfl rfl, ini_X0, by decide +kernel⟩
abbrev cdX0_commonDivisor : Cond := .code yX0_commonDivisor cX0_commonDivisor 6 (some .int)
set_option maxRecDepth 20000 in
theorem yk_X0_commonDivisor : Yk yX0_commonDivisor cdX0_commonDivisor cX0_commonDivisor 6 (some .int) 2 := ⟨rfl, mt2 221 rfl rfl, ini_X0, by decide +kernel⟩
abbrev cdX5_cry : Cond := .code yX5_cry cX5_cry 9 (some .int)
set_option maxRecDepth 20000 in
theorem yk_X5_cry : Yk yX5_cry cdX5_cry cX5_cry 9 (some .int) 3 := ⟨rfl, mt2 225 rfl rfl, ini_X5, by decide +kernel⟩
abbrev cdX5_cryRow : Cond := .code yX5_cryRow cX5_cryRow 10 (some .int)
set_option maxRecDepth 20000 in
theorem yk_X5_cryRow : Yk yX5_cryRow cdX5_cryRow cX5_cryRow 10 (some .int) 5 := ⟨rfl, mt2 229 rfl rfl, ini_X5, by decide +kernel⟩
abbrev cdX5_isAlarming : Cond := .code yX5_isAlarming cX5_isAlarming 6 (some .boolean)
set_option maxRecDepth 20000 in
theorem yk_X5_isAlarming : Yk yX5_isAlarming cdX5_isAlarming cX5_isAlarming 6 (some .boolean) 3 := ⟨rfl, mt2 233 rfl rfl, ini_X5, by decide +kernel⟩
abbrev cdX3_wasAlarmed : Cond := .code yX3_wasAlarmed cX3_wasAlarmed 2 (some .boolean)
set_option maxRecDepth 20000 in
theorem yk_X3_wasAlarmed : Yk yX3_wasAlarmed cdX3_wasAlarmed cX3_wasAlarmed 2 (some .boolean) 1 := ⟨rfl, mt2 237 rfl rfl, ini_X3, by decide +kernel⟩
abbrev cdX5_isRare : Cond := .code yX5_isRare cX5_isRare 6 (some .boolean)
set_option maxRecDepth 20000 in
theorem yk_X5_isRare : Yk yX5_isRare cdX5_isRare cX5_isRare 6 (some .boolean) 4 := ⟨rfl, mt3 1 rfl rfl, ini_X5, by decide +kernel⟩
abbrev cdX3_rememberAlarm : Cond := .code yX3_rememberAlarm cX3_rememberAlarm 2 none
set_option maxRecDepth 20000 in
theorem yk_X3_rememberAlarm : Yk yX3_rememberAlarm cdX3_rememberAlarm cX3_rememberAlarm 2 none 1 := ⟨rfl, mt3 5 rfl rfl, ini_X3, by decide +kernel⟩
abbrev cdX5_keepAlarm : Cond := .code yX5_keepAlarm cX5_keepAlarm 2 none
set_option maxRecDepth 20000 in
theorem yk_X5_keepAlarm : Yk yX5_keepAlarm cdX5_keepAlarm cX5_keepAlarm 2 none 1 := ⟨rfl, mt3 9 rfl rfl, ini_X5, by decide +kernel⟩
abbrev cdX5_cried : Cond := .code yX5_cried cX5_cried 2 (some .int)
set_option maxRecDepth 20000 in
theorem yk_X5_cried : Yk yX5_cried cdX5_cried cX5_cried 2 (some .int) 1 := ⟨rfl, mt3 13 rfl rfl, ini_X5, by decide +kernel⟩
abbrev cdX5_halve : Cond := .code yX5_halve cX5_halve 4 (some .int)
set_option maxRecDepth 20000 in
theorem yk_X5_halve : Yk yX5_halve cdX5_halve cX5_halve 4 (some .int) 3 := ⟨rfl, mt3 17 rfl rfl, ini_X5, by decide +kernel⟩
abbrev cdX2_begin : Cond := .code yX2_begin cX2_begin 4 none
set_option maxRecDepth 20000 in
theorem yk_X2_begin : Yk yX2_begin cdX2_begin cX2_begin 4 none 3 := ⟨rfl, mt3 21 rfl rfl, ini_X2, by decide +kernel⟩
abbrev cdX2_mostReruns : Cond := .code yX2_mostReruns cX2_mostReruns 3 (some .int)
set_option maxRecDepth 20000 in
theorem yk_X2_mostReruns : Yk yX2_mostReruns cdX2_mostReruns cX2_mostReruns 3 (some .int) 0 := ⟨rfl, mt3 25 rfl rfl, ini_X2, by decide +kernel⟩
abbrev cdX5_asks : Cond := .code yX5_asks cX5_asks 1 (some .int)
set_option maxRecDepth 20000 in
theorem yk_X5_asks : Yk yX5_asks cdX5_asks cX5_asks 1 (some .int) 0 := ⟨rfl, mt3 29 rfl rfl, ini_X5, by decide +kernel⟩
abbrev cdX2_hasEnded : Cond := .code yX2_hasEnded cX2_hasEnded 1 (some .boolean)
set_option maxRecDepth 20000 in
theorem yk_X2_hasEnded : Yk yX2_hasEnded cdX2_hasEnded cX2_hasEnded 1 (some .boolean) 0 := ⟨rfl, mt3 33 rfl rfl, ini_X2, by decide +kernel⟩
abbrev cdX2_middleBuild : Cond := .code yX2_middleBuild cX2_middleBuild 1 (some .int)
set_option maxRecDepth 20000 in
theorem yk_X2_middleBuild : Yk yX2_middleBuild cdX2_middleBuild cX2_middleBuild 1 (some .int) 0 := ⟨rfl, mt3 37 rfl rfl, ini_X2, by decide +kernel⟩
abbrev cdX5_rerun : Cond := .code yX5_rerun cX5_rerun 2 (some .int)
set_option maxRecDepth 20000 in
theorem yk_X5_rerun : Yk yX5_rerun cdX5_rerun cX5_rerun 2 (some .int) 1 := ⟨rfl, mt3 41 rfl rfl, ini_X5, by decide +kernel⟩
abbrev cdX2_take : Cond := .code yX2_take cX2_take 2 (some .int)
set_option maxRecDepth 20000 in
theorem yk_X2_take : Yk yX2_take cdX2_take cX2_take 2 (some .int) 1 := ⟨rfl, mt3 45 rfl rfl, ini_X2, by decide +kernel⟩
abbrev cdX2_decide : Cond := .code yX2_decide cX2_decide 2 none
set_option maxRecDepth 20000 in
theorem yk_X2_decide : Yk yX2_decide cdX2_decide cX2_decide 2 none 0 := ⟨rfl, mt3 49 rfl rfl, ini_X2, by decide +kernel⟩
abbrev cdX5_found : Cond := .code yX5_found cX5_found 1 (some .int)
set_option maxRecDepth 20000 in
theorem yk_X5_found : Yk yX5_found cdX5_found cX5_found 1 (some .int) 0 := ⟨rfl, mt3 54 rfl rfl, ini_X5, by decide +kernel⟩
abbrev cdX5_reruns : Cond := .code yX5_reruns cX5_reruns 1 (some .int)
set_option maxRecDepth 20000 in
theorem yk_X5_reruns : Yk yX5_reruns cdX5_reruns cX5_reruns 1 (some .int) 0 := ⟨rfl, mt3 58 rfl rfl, ini_X5, by decide +kernel⟩
abbrev cdX5_upper : Cond := .code yX5_upper cX5_upper 1 (some .long)
set_option maxRecDepth 20000 in
theorem yk_X5_upper : Yk yX5_upper cdX5_upper cX5_upper 1 (some .long) 0 := ⟨rfl, mt3 62 rfl rfl, ini_X5, by decide +kernel⟩
abbrev cdX5_lower : Cond := .code yX5_lower cX5_lower 1 (some .long)
set_option maxRecDepth 20000 in
theorem yk_X5_lower : Yk yX5_lower cdX5_lower cX5_lower 1 (some .long) 0 := ⟨rfl, mt3 66 rfl rfl, ini_X5, by decide +kernel⟩
abbrev cdX5_asked : Cond := .code yX5_asked cX5_asked 1 (some .long)
set_option maxRecDepth 20000 in
theorem yk_X5_asked : Yk yX5_asked cdX5_asked cX5_asked 1 (some .long) 0 := ⟨rfl, mt3 70 rfl rfl, ini_X5, by decide +kernel⟩
abbrev cdX5_count : Cond := .code yX5_count cX5_count 2 (some .int)
set_option maxRecDepth 20000 in
theorem yk_X5_count : Yk yX5_count cdX5_count cX5_count 2 (some .int) 1 := ⟨rfl, mt3 74 rfl rfl, ini_X5, by decide +kernel⟩
abbrev cdX5_countRows : Cond := .code yX5_countRows cX5_countRows 4 (some .int)
set_option maxRecDepth 20000 in
theorem yk_X5_countRows : Yk yX5_countRows cdX5_countRows cX5_countRows 4 (some .int) 0 := ⟨rfl, mt3 78 rfl rfl, ini_X5, by decide +kernel⟩
abbrev cdX5_finding : Cond := .code yX5_finding cX5_finding 1 (some .int)
set_option maxRecDepth 20000 in
theorem yk_X5_finding : Yk yX5_finding cdX5_finding cX5_finding 1 (some .int) 0 := ⟨rfl, mt3 82 rfl rfl, ini_X5, by decide +kernel⟩
abbrev cdX5_findings : Cond := .code yX5_findings cX5_findings 2 (some .int)
set_option maxRecDepth 20000 in
theorem yk_X5_findings : Yk yX5_findings cdX5_findings cX5_findings 2 (some .int) 1 := ⟨rfl, mt3 86 rfl rfl, ini_X5, by decide +kernel⟩
abbrev cdX5_digest : Cond := .code yX5_digest cX5_digest 5 (some .long)
set_option maxRecDepth 20000 in
theorem yk_X5_digest : Yk yX5_digest cdX5_digest cX5_digest 5 (some .long) 0 := ⟨rfl, mt3 90 rfl rfl, ini_X5, by decide +kernel⟩
abbrev cdX3_digestOnto : Cond := .code yX3_digestOnto cX3_digestOnto 6 (some .long)
set_option maxRecDepth 20000 in
theorem yk_X3_digestOnto : Yk yX3_digestOnto cdX3_digestOnto cX3_digestOnto 6 (some .long) 1 := ⟨rfl, mt3 96 rfl rfl, ini_X3, by decide +kernel⟩
abbrev cdX6_init : Cond := .code yX6_init cX6_init 1 none
set_option maxRecDepth 20000 in
theorem yk_X6_init : Yk yX6_init cdX6_init cX6_init 1 none 0 := ⟨rfl, mt3 105 rfl rfl, ini_X6, by decide +kernel⟩
abbrev cdX6_finding : Cond := .code yX6_finding cX6_finding 1 (some .int)
set_option maxRecDepth 20000 in
theorem yk_X6_finding : Yk yX6_finding cdX6_finding cX6_finding 1 (some .int) 0 := ⟨rfl, mt3 237 rfl rfl, ini_X6, by decide +kernel⟩
abbrev cdX6_findings : Cond := .code yX6_findings cX6_findings 2 (some .int)
set_option maxRecDepth 20000 in
theorem yk_X6_findings : Yk yX6_findings cdX6_findings cX6_findings 2 (some .int) 1 := ⟨rfl, mt4 1 rfl rfl, ini_X6, by decide +kernel⟩
abbrev cdX6_in : Cond := .code yX6_in cX6_in 3 (some .boolean)
set_option maxRecDepth 20000 in
theorem yk_X6_in : Yk yX6_in cdX6_in cX6_in 3 (some .boolean) 3 := ⟨rfl, mt4 4 rfl rfl, ini_X6, by decide +kernel⟩
abbrev cdX6_asked : Cond := .code yX6_asked cX6_asked 1 (some .long)
set_option maxRecDepth 20000 in
theorem yk_X6_asked : Yk yX6_asked cdX6_asked cX6_asked 1 (some .long) 0 := ⟨rfl, mt4 8 rfl rfl, ini_X6, by decide +kernel⟩
abbrev cdX6_builds : Cond := .code yX6_builds cX6_builds 2 (some .int)
set_option maxRecDepth 20000 in
theorem yk_X6_builds : Yk yX6_builds cdX6_builds cX6_builds 2 (some .int) 1 := ⟨rfl, mt4 12 rfl rfl, ini_X6, by decide +kernel⟩
abbrev cdX6_test : Cond := .code yX6_test cX6_test 2 (some .int)
set_option maxRecDepth 20000 in
theorem yk_X6_test : Yk yX6_test cdX6_test cX6_test 2 (some .int) 1 := ⟨rfl, mt4 16 rfl rfl, ini_X6, by decide +kernel⟩
abbrev cdX6_is : Cond := .code yX6_is cX6_is 3 (some .int)
set_option maxRecDepth 20000 in
theorem yk_X6_is : Yk yX6_is cdX6_is cX6_is 3 (some .int) 2 := ⟨rfl, mt4 20 rfl rfl, ini_X6, by decide +kernel⟩
abbrev cdX6_isTest : Cond := .code yX6_isTest cX6_isTest 2 (some .boolean)
set_option maxRecDepth 20000 in
theorem yk_X6_isTest : Yk yX6_isTest cdX6_isTest cX6_isTest 2 (some .boolean) 1 := ⟨rfl, mt4 24 rfl rfl, ini_X6, by decide +kernel⟩
abbrev cdX6_row : Cond := .code yX6_row cX6_row 6 (some .int)
set_option maxRecDepth 20000 in
theorem yk_X6_row : Yk yX6_row cdX6_row cX6_row 6 (some .int) 2 := ⟨rfl, mt4 28 rfl rfl, ini_X6, by decide +kernel⟩
abbrev cdX6_isRow : Cond := .code yX6_isRow cX6_isRow 3 (some .boolean)
set_option maxRecDepth 20000 in
theorem yk_X6_isRow : Yk yX6_isRow cdX6_isRow cX6_isRow 3 (some .boolean) 2 := ⟨rfl, mt4 32 rfl rfl, ini_X6, by decide +kernel⟩
abbrev cdX6_lay : Cond := .code yX6_lay cX6_lay 7 (some .int)
set_option maxRecDepth 20000 in
theorem yk_X6_lay : Yk yX6_lay cdX6_lay cX6_lay 7 (some .int) 4 := ⟨rfl, mt4 36 rfl rfl, ini_X6, by decide +kernel⟩
abbrev cdX6_meets : Cond := .code yX6_meets cX6_meets 2 (some .int)
set_option maxRecDepth 20000 in
theorem yk_X6_meets : Yk yX6_meets cdX6_meets cX6_meets 2 (some .int) 1 := ⟨rfl, mt4 41 rfl rfl, ini_X6, by decide +kernel⟩
abbrev cdX6_at : Cond := .code yX6_at cX6_at 5 (some .int)
set_option maxRecDepth 20000 in
theorem yk_X6_at : Yk yX6_at cdX6_at cX6_at 5 (some .int) 3 := ⟨rfl, mt4 45 rfl rfl, ini_X6, by decide +kernel⟩
abbrev cdX6_tear : Cond := .code yX6_tear cX6_tear 3 (some .int)
set_option maxRecDepth 20000 in
theorem yk_X6_tear : Yk yX6_tear cdX6_tear cX6_tear 3 (some .int) 2 := ⟨rfl, mt4 49 rfl rfl, ini_X6, by decide +kernel⟩
abbrev cdX6_copy : Cond := .code yX6_copy cX6_copy 10 (some .int)
set_option maxRecDepth 20000 in
theorem yk_X6_copy : Yk yX6_copy cdX6_copy cX6_copy 10 (some .int) 6 := ⟨rfl, mt4 53 rfl rfl, ini_X6, by decide +kernel⟩
abbrev cdX6_rank : Cond := .code yX6_rank cX6_rank 6 (some .int)
set_option maxRecDepth 20000 in
theorem yk_X6_rank : Yk yX6_rank cdX6_rank cX6_rank 6 (some .int) 3 := ⟨rfl, mt4 58 rfl rfl, ini_X6, by decide +kernel⟩
abbrev cdX6_need : Cond := .code yX6_need cX6_need 3 (some .int)
set_option maxRecDepth 20000 in
theorem yk_X6_need : Yk yX6_need cdX6_need cX6_need 3 (some .int) 2 := ⟨rfl, mt4 62 rfl rfl, ini_X6, by decide +kernel⟩
abbrev cdX6_layCuts : Cond := .code yX6_layCuts cX6_layCuts 6 none
set_option maxRecDepth 20000 in
theorem yk_X6_layCuts : Yk yX6_layCuts cdX6_layCuts cX6_layCuts 6 none 1 := ⟨rfl, mt4 66 rfl rfl, ini_X6, by decide +kernel⟩
abbrev cdX6_layRow : Cond := .code yX6_layRow cX6_layRow 4 none
set_option maxRecDepth 20000 in
theorem yk_X6_layRow : Yk yX6_layRow cdX6_layRow cX6_layRow 4 none 1 := ⟨rfl, mt4 70 rfl rfl, ini_X6, by decide +kernel⟩
abbrev cdX6_costOf : Cond := .code yX6_costOf cX6_costOf 7 (some .int)
set_option maxRecDepth 20000 in
theorem yk_X6_costOf : Yk yX6_costOf cdX6_costOf cX6_costOf 7 (some .int) 2 := ⟨rfl, mt4 74 rfl rfl, ini_X6, by decide +kernel⟩
abbrev cdX6_mean : Cond := .code yX6_mean cX6_mean 6 (some .int)
set_option maxRecDepth 20000 in
theorem yk_X6_mean : Yk yX6_mean cdX6_mean cX6_mean 6 (some .int) 2 := ⟨rfl, mt4 78 rfl rfl, ini_X6, by decide +kernel⟩
abbrev cdX6_price : Cond := .code yX6_price cX6_price 3 (some .int)
set_option maxRecDepth 20000 in
theorem yk_X6_price : Yk yX6_price cdX6_price cX6_price 3 (some .int) 1 := ⟨rfl, mt4 82 rfl rfl, ini_X6, by decide +kernel⟩
abbrev cdX6_cuts : Cond := .code yX6_cuts cX6_cuts 4 (some .int)
set_option maxRecDepth 20000 in
theorem yk_X6_cuts : Yk yX6_cuts cdX6_cuts cX6_cuts 4 (some .int) 2 := ⟨rfl, mt4 86 rfl rfl, ini_X6, by decide +kernel⟩
abbrev cdX6_cut : Cond := .code yX6_cut cX6_cut 5 (some .int)
set_option maxRecDepth 20000 in
theorem yk_X6_cut : Yk yX6_cut cdX6_cut cX6_cut 5 (some .int) 3 := ⟨rfl, mt4 90 rfl rfl, ini_X6, by decide +kernel⟩
abbrev cdX6_isCut : Cond := .code yX6_isCut cX6_isCut 2 (some .boolean)
set_option maxRecDepth 20000 in
theorem yk_X6_isCut : Yk yX6_isCut cdX6_isCut cX6_isCut 2 (some .boolean) 1 := ⟨rfl, mt4 94 rfl rfl, ini_X6, by decide +kernel⟩
abbrev cdX6_buildOfCut : Cond := .code yX6_buildOfCut cX6_buildOfCut 2 (some .int)
set_option maxRecDepth 20000 in
theorem yk_X6_buildOfCut : Yk yX6_buildOfCut cdX6_buildOfCut cX6_buildOfCut 2 (some .int) 1 := ⟨rfl, mt4 98 rfl rfl, ini_X6, by decide +kernel⟩
abbrev cdX6_middle : Cond := .code yX6_middle cX6_middle 5 (some .int)
set_option maxRecDepth 20000 in
theorem yk_X6_middle : Yk yX6_middle cdX6_middle cX6_middle 5 (some .int) 3 := ⟨rfl, mt4 102 rfl rfl, ini_X6, by decide +kernel⟩
abbrev cdX6_size : Cond := .code yX6_size cX6_size 5 (some .int)
set_option maxRecDepth 20000 in
theorem yk_X6_size : Yk yX6_size cdX6_size cX6_size 5 (some .int) 3 := ⟨rfl, mt4 106 rfl rfl, ini_X6, by decide +kernel⟩
abbrev cdX6_sizeOf : Cond := .code yX6_sizeOf cX6_sizeOf 2 (some .int)
set_option maxRecDepth 20000 in
theorem yk_X6_sizeOf : Yk yX6_sizeOf cdX6_sizeOf cX6_sizeOf 2 (some .int) 1 := ⟨rfl, mt4 110 rfl rfl, ini_X6, by decide +kernel⟩
abbrev cdX6_reach : Cond := .code yX6_reach cX6_reach 3 (some .int)
set_option maxRecDepth 20000 in
theorem yk_X6_reach : Yk yX6_reach cdX6_reach cX6_reach 3 (some .int) 1 := ⟨rfl, mt4 114 rfl rfl, ini_X6, by decide +kernel⟩
abbrev cdX6_own : Cond := .code yX6_own cX6_own 5 (some .int)
set_option maxRecDepth 20000 in
theorem yk_X6_own : Yk yX6_own cdX6_own cX6_own 5 (some .int) 3 := ⟨rfl, mt4 118 rfl rfl, ini_X6, by decide +kernel⟩
abbrev cdX6_isOwn : Cond := .code yX6_isOwn cX6_isOwn 9 (some .boolean)
set_option maxRecDepth 20000 in
theorem yk_X6_isOwn : Yk yX6_isOwn cdX6_isOwn cX6_isOwn 9 (some .boolean) 3 := ⟨rfl, mt4 122 rfl rfl, ini_X6, by decide +kernel⟩
abbrev cdX6_showsNear : Cond := .code yX6_showsNear cX6_showsNear 7 (some .boolean)
set_option maxRecDepth 20000 in
theorem yk_X6_showsNear : Yk yX6_showsNear cdX6_showsNear cX6_showsNear 7 (some .boolean) 2 := ⟨rfl, mt4 126 rfl rfl, ini_X6, by decide +kernel⟩
abbrev cdX6_couldShow : Cond := .code yX6_couldShow cX6_couldShow 2 (some .boolean)
set_option maxRecDepth 20000 in
theorem yk_X6_couldShow : Yk yX6_couldShow cdX6_couldShow cX6_couldShow 2 (some .boolean) 1 := ⟨rfl, mt4 130 rfl rfl, ini_X6, by decide +kernel⟩
abbrev cdX6_undone : Cond := .code yX6_undone cX6_undone 5 (some .int)
set_option maxRecDepth 20000 in
theorem yk_X6_undone : Yk yX6_undone cdX6_undone cX6_undone 5 (some .int) 3 := ⟨rfl, mt4 134 rfl rfl, ini_X6, by decide +kernel⟩
abbrev cdX6_layPairs : Cond := .code yX6_layPairs cX6_layPairs 5 none
set_option maxRecDepth 20000 in
theorem yk_X6_layPairs : Yk yX6_layPairs cdX6_layPairs cX6_layPairs 5 none 0 := ⟨rfl, mt4 138 rfl rfl, ini_X6, by decide +kernel⟩
abbrev cdX6_odds : Cond := .code yX6_odds cX6_odds 7 (some .int)
set_option maxRecDepth 20000 in
theorem yk_X6_odds : Yk yX6_odds cdX6_odds cX6_odds 7 (some .int) 3 := ⟨rfl, mt4 143 rfl rfl, ini_X6, by decide +kernel⟩
abbrev cdX6_layOdds : Cond := .code yX6_layOdds cX6_layOdds 11 (some .boolean)
set_option maxRecDepth 20000 in
theorem yk_X6_layOdds : Yk yX6_layOdds cdX6_layOdds cX6_layOdds 11 (some .boolean) 1 := ⟨rfl, mt4 147 rfl rfl, ini_X6, by decide +kernel⟩
abbrev cdX6_gcd : Cond := .code yX6_gcd cX6_gcd 10 (some .long)
set_option maxRecDepth 20000 in
theorem yk_X6_gcd : Yk yX6_gcd cdX6_gcd cX6_gcd 10 (some .long) 2 := ⟨rfl, mt4 150 rfl rfl, ini_X6, by decide +kernel⟩
abbrev cdX6_upper : Cond := .code yX6_upper cX6_upper 1 (some .long)
set_option maxRecDepth 20000 in
theorem yk_X6_upper : Yk yX6_upper cdX6_upper cX6_upper 1 (some .long) 0 := ⟨rfl, mt4 154 rfl rfl, ini_X6, by decide +kernel⟩
abbrev cdX6_lower : Cond := .code yX6_lower cX6_lower 1 (some .long)
set_option maxRecDepth 20000 in
theorem yk_X6_lower : Yk yX6_lower cdX6_lower cX6_lower 1 (some .long) 0 := ⟨rfl, mt4 158 rfl rfl, ini_X6, by decide +kernel⟩
abbrev cdX6_cry : Cond := .code yX6_cry cX6_cry 7 (some .int)
set_option maxRecDepth 20000 in
theorem yk_X6_cry : Yk yX6_cry cdX6_cry cX6_cry 7 (some .int) 3 := ⟨rfl, mt4 162 rfl rfl, ini_X6, by decide +kernel⟩
abbrev cdX6_cryOf : Cond := .code yX6_cryOf cX6_cryOf 11 (some .int)
set_option maxRecDepth 20000 in
theorem yk_X6_cryOf : Yk yX6_cryOf cdX6_cryOf cX6_cryOf 11 (some .int) 5 := ⟨rfl, mt4 166 rfl rfl, ini_X6, by decide +kernel⟩
abbrev cdX6_isLoud : Cond := .code yX6_isLoud cX6_isLoud 7 (some .boolean)
set_option maxRecDepth 20000 in
theorem yk_X6_isLoud : Yk yX6_isLoud cdX6_isLoud cX6_isLoud 7 (some .boolean) 6 := ⟨rfl, mt4 170 rfl rfl, ini_X6, by decide +kernel⟩
abbrev cdX6_cried : Cond := .code yX6_cried cX6_cried 2 (some .int)
set_option maxRecDepth 20000 in
theorem yk_X6_cried : Yk yX6_cried cdX6_cried cX6_cried 2 (some .int) 1 := ⟨rfl, mt4 174 rfl rfl, ini_X6, by decide +kernel⟩
abbrev cdX6_halve : Cond := .code yX6_halve cX6_halve 6 (some .int)
set_option maxRecDepth 20000 in
theorem yk_X6_halve : Yk yX6_halve cdX6_halve cX6_halve 6 (some .int) 3 := ⟨rfl, mt4 178 rfl rfl, ini_X6, by decide +kernel⟩
abbrev cdX6_asks : Cond := .code yX6_asks cX6_asks 1 (some .int)
set_option maxRecDepth 20000 in
theorem yk_X6_asks : Yk yX6_asks cdX6_asks cX6_asks 1 (some .int) 0 := ⟨rfl, mt4 182 rfl rfl, ini_X6, by decide +kernel⟩
abbrev cdX6_hasEnded : Cond := .code yX6_hasEnded cX6_hasEnded 1 (some .boolean)
set_option maxRecDepth 20000 in
theorem yk_X6_hasEnded : Yk yX6_hasEnded cdX6_hasEnded cX6_hasEnded 1 (some .boolean) 0 := ⟨rfl, mt4 186 rfl rfl, ini_X6, by decide +kernel⟩
abbrev cdX6_middleBuild : Cond := .code yX6_middleBuild cX6_middleBuild 1 (some .int)
set_option maxRecDepth 20000 in
theorem yk_X6_middleBuild : Yk yX6_middleBuild cdX6_middleBuild cX6_middleBuild 1 (some .int) 0 := ⟨rfl, mt4 190 rfl rfl, ini_X6, by decide +kernel⟩
abbrev cdX6_rerun : Cond := .code yX6_rerun cX6_rerun 2 (some .int)
set_option maxRecDepth 20000 in
theorem yk_X6_rerun : Yk yX6_rerun cdX6_rerun cX6_rerun 2 (some .int) 1 := ⟨rfl, mt4 194 rfl rfl, ini_X6, by decide +kernel⟩
abbrev cdX6_found : Cond := .code yX6_found cX6_found 1 (some .int)
set_option maxRecDepth 20000 in
theorem yk_X6_found : Yk yX6_found cdX6_found cX6_found 1 (some .int) 0 := ⟨rfl, mt4 198 rfl rfl, ini_X6, by decide +kernel⟩
abbrev cdX6_reruns : Cond := .code yX6_reruns cX6_reruns 1 (some .int)
set_option maxRecDepth 20000 in
theorem yk_X6_reruns : Yk yX6_reruns cdX6_reruns cX6_reruns 1 (some .int) 0 := ⟨rfl, mt4 202 rfl rfl, ini_X6, by decide +kernel⟩
abbrev cdX6_count : Cond := .code yX6_count cX6_count 4 (some .int)
set_option maxRecDepth 20000 in
theorem yk_X6_count : Yk yX6_count cdX6_count cX6_count 4 (some .int) 1 := ⟨rfl, mt4 206 rfl rfl, ini_X6, by decide +kernel⟩
abbrev cdX6_digest : Cond := .code yX6_digest cX6_digest 7 (some .long)
set_option maxRecDepth 20000 in
theorem yk_X6_digest : Yk yX6_digest cdX6_digest cX6_digest 7 (some .long) 0 := ⟨rfl, mt4 210 rfl rfl, ini_X6, by decide +kernel⟩
set_option maxRecDepth 20000 in
theorem im_X5_init : Cond.instanceMethod yX5_init ∈ lwt := mt1 15 rfl rfl
set_option maxRecDepth 20000 in
theorem im_object : Cond.instanceMethod objectInit ∈ lwt := mt1 18 rfl rfl
set_option maxRecDepth 20000 in
theorem im_X1_init : Cond.instanceMethod yX1_init ∈ lwt := mt1 25 rfl rfl
set_option maxRecDepth 20000 in
theorem im_X2_init : Cond.instanceMethod yX2_init ∈ lwt := mt1 45 rfl rfl
set_option maxRecDepth 20000 in
theorem im_X5_builds : Cond.instanceMethod yX5_builds ∈ lwt := mt1 120 rfl rfl
set_option maxRecDepth 20000 in
theorem im_X5_test : Cond.instanceMethod yX5_test ∈ lwt := mt1 124 rfl rfl
set_option maxRecDepth 20000 in
theorem im_X4_init : Cond.instanceMethod yX4_init ∈ lwt := mt1 135 rfl rfl
set_option maxRecDepth 20000 in
theorem im_X3_init : Cond.instanceMethod yX3_init ∈ lwt := mt1 142 rfl rfl
set_option maxRecDepth 20000 in
theorem im_X5_is : Cond.instanceMethod yX5_is ∈ lwt := mt1 219 rfl rfl
set_option maxRecDepth 20000 in
theorem im_X5_findTest : Cond.instanceMethod yX5_findTest ∈ lwt := mt1 224 rfl rfl
set_option maxRecDepth 20000 in
theorem im_X5_row : Cond.instanceMethod yX5_row ∈ lwt := mt1 227 rfl rfl
set_option maxRecDepth 20000 in
theorem im_X5_findRow : Cond.instanceMethod yX5_findRow ∈ lwt := mt1 232 rfl rfl
set_option maxRecDepth 20000 in
theorem im_X3_empty : Cond.instanceMethod yX3_empty ∈ lwt := mt1 235 rfl rfl
set_option maxRecDepth 20000 in
theorem im_X5_lay : Cond.instanceMethod yX5_lay ∈ lwt := mt1 239 rfl rfl
set_option maxRecDepth 20000 in
theorem im_X5_refuseWith : Cond.instanceMethod yX5_refuseWith ∈ lwt := mt2 5 rfl rfl
set_option maxRecDepth 20000 in
theorem im_X5_at : Cond.instanceMethod yX5_at ∈ lwt := mt2 11 rfl rfl
set_option maxRecDepth 20000 in
theorem im_X5_refuseRow : Cond.instanceMethod yX5_refuseRow ∈ lwt := mt2 16 rfl rfl
set_option maxRecDepth 20000 in
theorem im_X5_tear : Cond.instanceMethod yX5_tear ∈ lwt := mt2 19 rfl rfl
set_option maxRecDepth 20000 in
theorem im_X5_copy : Cond.instanceMethod yX5_copy ∈ lwt := mt2 23 rfl rfl
set_option maxRecDepth 20000 in
theorem im_X5_rank : Cond.instanceMethod yX5_rank ∈ lwt := mt2 33 rfl rfl
set_option maxRecDepth 20000 in
theorem im_X3_rankOf : Cond.instanceMethod yX3_rankOf ∈ lwt := mt2 37 rfl rfl
set_option maxRecDepth 20000 in
theorem im_X5_mean : Cond.instanceMethod yX5_mean ∈ lwt := mt2 41 rfl rfl
set_option maxRecDepth 20000 in
theorem im_X5_price : Cond.instanceMethod yX5_price ∈ lwt := mt2 45 rfl rfl
set_option maxRecDepth 20000 in
theorem im_X5_cuts : Cond.instanceMethod yX5_cuts ∈ lwt := mt2 49 rfl rfl
set_option maxRecDepth 20000 in
theorem im_X5_bringUpToDate : Cond.instanceMethod yX5_bringUpToDate ∈ lwt := mt2 54 rfl rfl
set_option maxRecDepth 20000 in
theorem im_X1_divide : Cond.instanceMethod yX1_divide ∈ lwt := mt2 57 rfl rfl
set_option maxRecDepth 20000 in
theorem im_X3_gatherMeasured : Cond.instanceMethod yX3_gatherMeasured ∈ lwt := mt2 61 rfl rfl
set_option maxRecDepth 20000 in
theorem im_X1_solveFrom : Cond.instanceMethod yX1_solveFrom ∈ lwt := mt2 67 rfl rfl
set_option maxRecDepth 20000 in
theorem im_X1_farFromMiddle : Cond.instanceMethod yX1_farFromMiddle ∈ lwt := mt2 71 rfl rfl
set_option maxRecDepth 20000 in
theorem im_X1_insert : Cond.instanceMethod yX1_insert ∈ lwt := mt2 75 rfl rfl
set_option maxRecDepth 20000 in
theorem im_X1_setSpans : Cond.instanceMethod yX1_setSpans ∈ lwt := mt2 79 rfl rfl
set_option maxRecDepth 20000 in
theorem im_X1_setMiddles : Cond.instanceMethod yX1_setMiddles ∈ lwt := mt2 83 rfl rfl
set_option maxRecDepth 20000 in
theorem im_X3_pairSteps : Cond.instanceMethod yX3_pairSteps ∈ lwt := mt2 86 rfl rfl
set_option maxRecDepth 20000 in
theorem im_X3_cutCount : Cond.instanceMethod yX3_cutCount ∈ lwt := mt2 90 rfl rfl
set_option maxRecDepth 20000 in
theorem im_X3_stepSize : Cond.instanceMethod yX3_stepSize ∈ lwt := mt2 94 rfl rfl
set_option maxRecDepth 20000 in
theorem im_X3_pairStep : Cond.instanceMethod yX3_pairStep ∈ lwt := mt2 99 rfl rfl
set_option maxRecDepth 20000 in
theorem im_X5_cut : Cond.instanceMethod yX5_cut ∈ lwt := mt2 106 rfl rfl
set_option maxRecDepth 20000 in
theorem im_X3_hasCut : Cond.instanceMethod yX3_hasCut ∈ lwt := mt2 110 rfl rfl
set_option maxRecDepth 20000 in
theorem im_X3_cutBuild : Cond.instanceMethod yX3_cutBuild ∈ lwt := mt2 114 rfl rfl
set_option maxRecDepth 20000 in
theorem im_X5_middle : Cond.instanceMethod yX5_middle ∈ lwt := mt2 118 rfl rfl
set_option maxRecDepth 20000 in
theorem im_X5_size : Cond.instanceMethod yX5_size ∈ lwt := mt2 122 rfl rfl
set_option maxRecDepth 20000 in
theorem im_X5_reach : Cond.instanceMethod yX5_reach ∈ lwt := mt2 127 rfl rfl
set_option maxRecDepth 20000 in
theorem im_X5_own : Cond.instanceMethod yX5_own ∈ lwt := mt2 131 rfl rfl
set_option maxRecDepth 20000 in
theorem im_X5_bringRowsUpToDate : Cond.instanceMethod yX5_bringRowsUpToDate ∈ lwt := mt2 136 rfl rfl
set_option maxRecDepth 20000 in
theorem im_X5_isItsOwn : Cond.instanceMethod yX5_isItsOwn ∈ lwt := mt2 140 rfl rfl
set_option maxRecDepth 20000 in
theorem im_X3_stepsNear : Cond.instanceMethod yX3_stepsNear ∈ lwt := mt2 146 rfl rfl
set_option maxRecDepth 20000 in
theorem im_X3_isMeasuredAround : Cond.instanceMethod yX3_isMeasuredAround ∈ lwt := mt2 152 rfl rfl
set_option maxRecDepth 20000 in
theorem im_X5_undone : Cond.instanceMethod yX5_undone ∈ lwt := mt2 156 rfl rfl
set_option maxRecDepth 20000 in
theorem im_X3_undoingOf : Cond.instanceMethod yX3_undoingOf ∈ lwt := mt2 160 rfl rfl
set_option maxRecDepth 20000 in
theorem im_X5_odds : Cond.instanceMethod yX5_odds ∈ lwt := mt2 164 rfl rfl
set_option maxRecDepth 20000 in
theorem im_X5_readyChances : Cond.instanceMethod yX5_readyChances ∈ lwt := mt2 169 rfl rfl
set_option maxRecDepth 20000 in
theorem im_X0_init : Cond.instanceMethod yX0_init ∈ lwt := mt2 174 rfl rfl
set_option maxRecDepth 20000 in
theorem im_X0_reckon : Cond.instanceMethod yX0_reckon ∈ lwt := mt2 190 rfl rfl
set_option maxRecDepth 20000 in
theorem im_X0_countUpTo : Cond.instanceMethod yX0_countUpTo ∈ lwt := mt2 206 rfl rfl
set_option maxRecDepth 20000 in
theorem im_X0_clear : Cond.instanceMethod yX0_clear ∈ lwt := mt2 210 rfl rfl
set_option maxRecDepth 20000 in
theorem im_X0_addOne : Cond.instanceMethod yX0_addOne ∈ lwt := mt2 214 rfl rfl
set_option maxRecDepth 20000 in
theorem im_X5_cry : Cond.instanceMethod yX5_cry ∈ lwt := mt2 223 rfl rfl
set_option maxRecDepth 20000 in
theorem im_X5_cryRow : Cond.instanceMethod yX5_cryRow ∈ lwt := mt2 228 rfl rfl
set_option maxRecDepth 20000 in
theorem im_X5_isAlarming : Cond.instanceMethod yX5_isAlarming ∈ lwt := mt2 232 rfl rfl
set_option maxRecDepth 20000 in
theorem im_X3_wasAlarmed : Cond.instanceMethod yX3_wasAlarmed ∈ lwt := mt2 235 rfl rfl
set_option maxRecDepth 20000 in
theorem im_X5_isRare : Cond.instanceMethod yX5_isRare ∈ lwt := mt3 0 rfl rfl
set_option maxRecDepth 20000 in
theorem im_X3_rememberAlarm : Cond.instanceMethod yX3_rememberAlarm ∈ lwt := mt3 3 rfl rfl
set_option maxRecDepth 20000 in
theorem im_X5_keepAlarm : Cond.instanceMethod yX5_keepAlarm ∈ lwt := mt3 8 rfl rfl
set_option maxRecDepth 20000 in
theorem im_X5_cried : Cond.instanceMethod yX5_cried ∈ lwt := mt3 11 rfl rfl
set_option maxRecDepth 20000 in
theorem im_X5_halve : Cond.instanceMethod yX5_halve ∈ lwt := mt3 15 rfl rfl
set_option maxRecDepth 20000 in
theorem im_X2_begin : Cond.instanceMethod yX2_begin ∈ lwt := mt3 19 rfl rfl
set_option maxRecDepth 20000 in
theorem im_X2_mostReruns : Cond.instanceMethod yX2_mostReruns ∈ lwt := mt3 23 rfl rfl
set_option maxRecDepth 20000 in
theorem im_X5_asks : Cond.instanceMethod yX5_asks ∈ lwt := mt3 27 rfl rfl
set_option maxRecDepth 20000 in
theorem im_X2_hasEnded : Cond.instanceMethod yX2_hasEnded ∈ lwt := mt3 31 rfl rfl
set_option maxRecDepth 20000 in
theorem im_X2_middleBuild : Cond.instanceMethod yX2_middleBuild ∈ lwt := mt3 35 rfl rfl
set_option maxRecDepth 20000 in
theorem im_X5_rerun : Cond.instanceMethod yX5_rerun ∈ lwt := mt3 39 rfl rfl
set_option maxRecDepth 20000 in
theorem im_X2_take : Cond.instanceMethod yX2_take ∈ lwt := mt3 43 rfl rfl
set_option maxRecDepth 20000 in
theorem im_X2_decide : Cond.instanceMethod yX2_decide ∈ lwt := mt3 48 rfl rfl
set_option maxRecDepth 20000 in
theorem im_X5_found : Cond.instanceMethod yX5_found ∈ lwt := mt3 52 rfl rfl
set_option maxRecDepth 20000 in
theorem im_X5_reruns : Cond.instanceMethod yX5_reruns ∈ lwt := mt3 56 rfl rfl
set_option maxRecDepth 20000 in
theorem im_X5_upper : Cond.instanceMethod yX5_upper ∈ lwt := mt3 60 rfl rfl
set_option maxRecDepth 20000 in
theorem im_X5_lower : Cond.instanceMethod yX5_lower ∈ lwt := mt3 64 rfl rfl
set_option maxRecDepth 20000 in
theorem im_X5_asked : Cond.instanceMethod yX5_asked ∈ lwt := mt3 68 rfl rfl
set_option maxRecDepth 20000 in
theorem im_X5_count : Cond.instanceMethod yX5_count ∈ lwt := mt3 72 rfl rfl
set_option maxRecDepth 20000 in
theorem im_X5_countRows : Cond.instanceMethod yX5_countRows ∈ lwt := mt3 77 rfl rfl
set_option maxRecDepth 20000 in
theorem im_X5_finding : Cond.instanceMethod yX5_finding ∈ lwt := mt3 80 rfl rfl
set_option maxRecDepth 20000 in
theorem im_X5_findings : Cond.instanceMethod yX5_findings ∈ lwt := mt3 84 rfl rfl
set_option maxRecDepth 20000 in
theorem im_X5_digest : Cond.instanceMethod yX5_digest ∈ lwt := mt3 88 rfl rfl
set_option maxRecDepth 20000 in
theorem im_X3_digestOnto : Cond.instanceMethod yX3_digestOnto ∈ lwt := mt3 94 rfl rfl
set_option maxRecDepth 20000 in
theorem im_X6_init : Cond.instanceMethod yX6_init ∈ lwt := mt3 104 rfl rfl
set_option maxRecDepth 20000 in
theorem im_X6_finding : Cond.instanceMethod yX6_finding ∈ lwt := mt3 235 rfl rfl
set_option maxRecDepth 20000 in
theorem im_X6_findings : Cond.instanceMethod yX6_findings ∈ lwt := mt3 239 rfl rfl
set_option maxRecDepth 20000 in
theorem im_X6_asked : Cond.instanceMethod yX6_asked ∈ lwt := mt4 6 rfl rfl
set_option maxRecDepth 20000 in
theorem im_X6_builds : Cond.instanceMethod yX6_builds ∈ lwt := mt4 10 rfl rfl
set_option maxRecDepth 20000 in
theorem im_X6_test : Cond.instanceMethod yX6_test ∈ lwt := mt4 14 rfl rfl
set_option maxRecDepth 20000 in
theorem im_X6_is : Cond.instanceMethod yX6_is ∈ lwt := mt4 18 rfl rfl
set_option maxRecDepth 20000 in
theorem im_X6_isTest : Cond.instanceMethod yX6_isTest ∈ lwt := mt4 23 rfl rfl
set_option maxRecDepth 20000 in
theorem im_X6_row : Cond.instanceMethod yX6_row ∈ lwt := mt4 26 rfl rfl
set_option maxRecDepth 20000 in
theorem im_X6_isRow : Cond.instanceMethod yX6_isRow ∈ lwt := mt4 31 rfl rfl
set_option maxRecDepth 20000 in
theorem im_X6_lay : Cond.instanceMethod yX6_lay ∈ lwt := mt4 34 rfl rfl
set_option maxRecDepth 20000 in
theorem im_X6_meets : Cond.instanceMethod yX6_meets ∈ lwt := mt4 40 rfl rfl
set_option maxRecDepth 20000 in
theorem im_X6_at : Cond.instanceMethod yX6_at ∈ lwt := mt4 43 rfl rfl
set_option maxRecDepth 20000 in
theorem im_X6_tear : Cond.instanceMethod yX6_tear ∈ lwt := mt4 47 rfl rfl
set_option maxRecDepth 20000 in
theorem im_X6_copy : Cond.instanceMethod yX6_copy ∈ lwt := mt4 51 rfl rfl
set_option maxRecDepth 20000 in
theorem im_X6_rank : Cond.instanceMethod yX6_rank ∈ lwt := mt4 56 rfl rfl
set_option maxRecDepth 20000 in
theorem im_X6_need : Cond.instanceMethod yX6_need ∈ lwt := mt4 61 rfl rfl
set_option maxRecDepth 20000 in
theorem im_X6_layCuts : Cond.instanceMethod yX6_layCuts ∈ lwt := mt4 65 rfl rfl
set_option maxRecDepth 20000 in
theorem im_X6_layRow : Cond.instanceMethod yX6_layRow ∈ lwt := mt4 69 rfl rfl
set_option maxRecDepth 20000 in
theorem im_X6_costOf : Cond.instanceMethod yX6_costOf ∈ lwt := mt4 73 rfl rfl
set_option maxRecDepth 20000 in
theorem im_X6_mean : Cond.instanceMethod yX6_mean ∈ lwt := mt4 76 rfl rfl
set_option maxRecDepth 20000 in
theorem im_X6_price : Cond.instanceMethod yX6_price ∈ lwt := mt4 80 rfl rfl
set_option maxRecDepth 20000 in
theorem im_X6_cuts : Cond.instanceMethod yX6_cuts ∈ lwt := mt4 84 rfl rfl
set_option maxRecDepth 20000 in
theorem im_X6_cut : Cond.instanceMethod yX6_cut ∈ lwt := mt4 88 rfl rfl
set_option maxRecDepth 20000 in
theorem im_X6_isCut : Cond.instanceMethod yX6_isCut ∈ lwt := mt4 93 rfl rfl
set_option maxRecDepth 20000 in
theorem im_X6_buildOfCut : Cond.instanceMethod yX6_buildOfCut ∈ lwt := mt4 97 rfl rfl
set_option maxRecDepth 20000 in
theorem im_X6_middle : Cond.instanceMethod yX6_middle ∈ lwt := mt4 100 rfl rfl
set_option maxRecDepth 20000 in
theorem im_X6_size : Cond.instanceMethod yX6_size ∈ lwt := mt4 104 rfl rfl
set_option maxRecDepth 20000 in
theorem im_X6_sizeOf : Cond.instanceMethod yX6_sizeOf ∈ lwt := mt4 109 rfl rfl
set_option maxRecDepth 20000 in
theorem im_X6_reach : Cond.instanceMethod yX6_reach ∈ lwt := mt4 112 rfl rfl
set_option maxRecDepth 20000 in
theorem im_X6_own : Cond.instanceMethod yX6_own ∈ lwt := mt4 116 rfl rfl
set_option maxRecDepth 20000 in
theorem im_X6_isOwn : Cond.instanceMethod yX6_isOwn ∈ lwt := mt4 121 rfl rfl
set_option maxRecDepth 20000 in
theorem im_X6_showsNear : Cond.instanceMethod yX6_showsNear ∈ lwt := mt4 125 rfl rfl
set_option maxRecDepth 20000 in
theorem im_X6_couldShow : Cond.instanceMethod yX6_couldShow ∈ lwt := mt4 129 rfl rfl
set_option maxRecDepth 20000 in
theorem im_X6_undone : Cond.instanceMethod yX6_undone ∈ lwt := mt4 132 rfl rfl
set_option maxRecDepth 20000 in
theorem im_X6_layPairs : Cond.instanceMethod yX6_layPairs ∈ lwt := mt4 137 rfl rfl
set_option maxRecDepth 20000 in
theorem im_X6_odds : Cond.instanceMethod yX6_odds ∈ lwt := mt4 141 rfl rfl
set_option maxRecDepth 20000 in
theorem im_X6_layOdds : Cond.instanceMethod yX6_layOdds ∈ lwt := mt4 146 rfl rfl
set_option maxRecDepth 20000 in
theorem im_X6_upper : Cond.instanceMethod yX6_upper ∈ lwt := mt4 152 rfl rfl
set_option maxRecDepth 20000 in
theorem im_X6_lower : Cond.instanceMethod yX6_lower ∈ lwt := mt4 156 rfl rfl
set_option maxRecDepth 20000 in
theorem im_X6_cry : Cond.instanceMethod yX6_cry ∈ lwt := mt4 160 rfl rfl
set_option maxRecDepth 20000 in
theorem im_X6_cryOf : Cond.instanceMethod yX6_cryOf ∈ lwt := mt4 165 rfl rfl
set_option maxRecDepth 20000 in
theorem im_X6_isLoud : Cond.instanceMethod yX6_isLoud ∈ lwt := mt4 169 rfl rfl
set_option maxRecDepth 20000 in
theorem im_X6_cried : Cond.instanceMethod yX6_cried ∈ lwt := mt4 172 rfl rfl
set_option maxRecDepth 20000 in
theorem im_X6_halve : Cond.instanceMethod yX6_halve ∈ lwt := mt4 176 rfl rfl
set_option maxRecDepth 20000 in
theorem im_X6_asks : Cond.instanceMethod yX6_asks ∈ lwt := mt4 180 rfl rfl
set_option maxRecDepth 20000 in
theorem im_X6_hasEnded : Cond.instanceMethod yX6_hasEnded ∈ lwt := mt4 185 rfl rfl
set_option maxRecDepth 20000 in
theorem im_X6_middleBuild : Cond.instanceMethod yX6_middleBuild ∈ lwt := mt4 189 rfl rfl
set_option maxRecDepth 20000 in
theorem im_X6_rerun : Cond.instanceMethod yX6_rerun ∈ lwt := mt4 192 rfl rfl
set_option maxRecDepth 20000 in
theorem im_X6_found : Cond.instanceMethod yX6_found ∈ lwt := mt4 196 rfl rfl
set_option maxRecDepth 20000 in
theorem im_X6_reruns : Cond.instanceMethod yX6_reruns ∈ lwt := mt4 200 rfl rfl
set_option maxRecDepth 20000 in
theorem im_X6_count : Cond.instanceMethod yX6_count ∈ lwt := mt4 204 rfl rfl
set_option maxRecDepth 20000 in
theorem im_X6_digest : Cond.instanceMethod yX6_digest ∈ lwt := mt4 208 rfl rfl
set_option maxRecDepth 20000 in
theorem st_X5_isKind : Cond.static yX5_isKind ∈ lwt := mt1 128 rfl rfl
set_option maxRecDepth 20000 in
theorem st_X5_isWithin : Cond.static yX5_isWithin ∈ lwt := mt1 131 rfl rfl
set_option maxRecDepth 20000 in
theorem st_J7_fill_53178 : Cond.static yJ7_fill_53178 ∈ lwt := mt1 146 rfl rfl
set_option maxRecDepth 20000 in
theorem st_X5_isPlace : Cond.static yX5_isPlace ∈ lwt := mt2 8 rfl rfl
set_option maxRecDepth 20000 in
theorem st_X5_holds : Cond.static yX5_holds ∈ lwt := mt2 27 rfl rfl
set_option maxRecDepth 20000 in
theorem st_arraycopy : Cond.static arraycopyName ∈ lwt := mt2 30 rfl rfl
set_option maxRecDepth 20000 in
theorem st_math_abs : Cond.static Lib.Math.abs.name ∈ lwt := mt2 102 rfl rfl
set_option maxRecDepth 20000 in
theorem st_J6_signum_0f7a4 : Cond.static yJ6_signum_0f7a4 ∈ lwt := mt2 143 rfl rfl
set_option maxRecDepth 20000 in
theorem st_X0_outermost : Cond.static yX0_outermost ∈ lwt := mt2 195 rfl rfl
set_option maxRecDepth 20000 in
theorem st_math_max : Cond.static Lib.Math.max.name ∈ lwt := mt2 198 rfl rfl
set_option maxRecDepth 20000 in
theorem st_math_min : Cond.static Lib.Math.min.name ∈ lwt := mt2 201 rfl rfl
set_option maxRecDepth 20000 in
theorem st_X0_choose : Cond.static yX0_choose ∈ lwt := mt2 217 rfl rfl
set_option maxRecDepth 20000 in
theorem st_X0_commonDivisor : Cond.static yX0_commonDivisor ∈ lwt := mt2 220 rfl rfl
set_option maxRecDepth 20000 in
theorem st_X6_in : Cond.static yX6_in ∈ lwt := mt4 3 rfl rfl
set_option maxRecDepth 20000 in
theorem st_X6_gcd : Cond.static yX6_gcd ∈ lwt := mt4 149 rfl rfl
set_option maxRecDepth 20000 in
theorem sl_X5_builds : Cond.selects RX5 yX5_builds yX5_builds ∈ lwt := mt1 121 rfl rfl
set_option maxRecDepth 20000 in
theorem sl_X5_test : Cond.selects RX5 yX5_test yX5_test ∈ lwt := mt1 125 rfl rfl
set_option maxRecDepth 20000 in
theorem sl_X5_is : Cond.selects RX5 yX5_is yX5_is ∈ lwt := mt1 220 rfl rfl
set_option maxRecDepth 20000 in
theorem sl_X5_row : Cond.selects RX5 yX5_row yX5_row ∈ lwt := mt1 228 rfl rfl
set_option maxRecDepth 20000 in
theorem sl_X3_empty : Cond.selects RX3 yX3_empty yX3_empty ∈ lwt := mt1 236 rfl rfl
set_option maxRecDepth 20000 in
theorem sl_X5_lay : Cond.selects RX5 yX5_lay yX5_lay ∈ lwt := mt2 0 rfl rfl
set_option maxRecDepth 20000 in
theorem sl_X5_at : Cond.selects RX5 yX5_at yX5_at ∈ lwt := mt2 12 rfl rfl
set_option maxRecDepth 20000 in
theorem sl_X5_tear : Cond.selects RX5 yX5_tear yX5_tear ∈ lwt := mt2 20 rfl rfl
set_option maxRecDepth 20000 in
theorem sl_X5_copy : Cond.selects RX5 yX5_copy yX5_copy ∈ lwt := mt2 24 rfl rfl
set_option maxRecDepth 20000 in
theorem sl_X5_rank : Cond.selects RX5 yX5_rank yX5_rank ∈ lwt := mt2 34 rfl rfl
set_option maxRecDepth 20000 in
theorem sl_X3_rankOf : Cond.selects RX3 yX3_rankOf yX3_rankOf ∈ lwt := mt2 38 rfl rfl
set_option maxRecDepth 20000 in
theorem sl_X5_mean : Cond.selects RX5 yX5_mean yX5_mean ∈ lwt := mt2 42 rfl rfl
set_option maxRecDepth 20000 in
theorem sl_X5_price : Cond.selects RX5 yX5_price yX5_price ∈ lwt := mt2 46 rfl rfl
set_option maxRecDepth 20000 in
theorem sl_X5_cuts : Cond.selects RX5 yX5_cuts yX5_cuts ∈ lwt := mt2 50 rfl rfl
set_option maxRecDepth 20000 in
theorem sl_X1_divide : Cond.selects RX1 yX1_divide yX1_divide ∈ lwt := mt2 58 rfl rfl
set_option maxRecDepth 20000 in
theorem sl_X3_gatherMeasured : Cond.selects RX3 yX3_gatherMeasured yX3_gatherMeasured ∈ lwt := mt2 62 rfl rfl
set_option maxRecDepth 20000 in
theorem sl_X3_pairSteps : Cond.selects RX3 yX3_pairSteps yX3_pairSteps ∈ lwt := mt2 87 rfl rfl
set_option maxRecDepth 20000 in
theorem sl_X3_cutCount : Cond.selects RX3 yX3_cutCount yX3_cutCount ∈ lwt := mt2 91 rfl rfl
set_option maxRecDepth 20000 in
theorem sl_X3_stepSize : Cond.selects RX3 yX3_stepSize yX3_stepSize ∈ lwt := mt2 95 rfl rfl
set_option maxRecDepth 20000 in
theorem sl_X5_cut : Cond.selects RX5 yX5_cut yX5_cut ∈ lwt := mt2 107 rfl rfl
set_option maxRecDepth 20000 in
theorem sl_X3_hasCut : Cond.selects RX3 yX3_hasCut yX3_hasCut ∈ lwt := mt2 111 rfl rfl
set_option maxRecDepth 20000 in
theorem sl_X3_cutBuild : Cond.selects RX3 yX3_cutBuild yX3_cutBuild ∈ lwt := mt2 115 rfl rfl
set_option maxRecDepth 20000 in
theorem sl_X5_middle : Cond.selects RX5 yX5_middle yX5_middle ∈ lwt := mt2 119 rfl rfl
set_option maxRecDepth 20000 in
theorem sl_X5_size : Cond.selects RX5 yX5_size yX5_size ∈ lwt := mt2 123 rfl rfl
set_option maxRecDepth 20000 in
theorem sl_X5_reach : Cond.selects RX5 yX5_reach yX5_reach ∈ lwt := mt2 128 rfl rfl
set_option maxRecDepth 20000 in
theorem sl_X5_own : Cond.selects RX5 yX5_own yX5_own ∈ lwt := mt2 132 rfl rfl
set_option maxRecDepth 20000 in
theorem sl_X3_stepsNear : Cond.selects RX3 yX3_stepsNear yX3_stepsNear ∈ lwt := mt2 147 rfl rfl
set_option maxRecDepth 20000 in
theorem sl_X3_isMeasuredAround : Cond.selects RX3 yX3_isMeasuredAround yX3_isMeasuredAround ∈ lwt := mt2 153 rfl rfl
set_option maxRecDepth 20000 in
theorem sl_X5_undone : Cond.selects RX5 yX5_undone yX5_undone ∈ lwt := mt2 157 rfl rfl
set_option maxRecDepth 20000 in
theorem sl_X3_undoingOf : Cond.selects RX3 yX3_undoingOf yX3_undoingOf ∈ lwt := mt2 161 rfl rfl
set_option maxRecDepth 20000 in
theorem sl_X5_odds : Cond.selects RX5 yX5_odds yX5_odds ∈ lwt := mt2 165 rfl rfl
set_option maxRecDepth 20000 in
theorem sl_X0_reckon : Cond.selects RX0 yX0_reckon yX0_reckon ∈ lwt := mt2 191 rfl rfl
set_option maxRecDepth 20000 in
theorem sl_X5_cry : Cond.selects RX5 yX5_cry yX5_cry ∈ lwt := mt2 224 rfl rfl
set_option maxRecDepth 20000 in
theorem sl_X3_wasAlarmed : Cond.selects RX3 yX3_wasAlarmed yX3_wasAlarmed ∈ lwt := mt2 236 rfl rfl
set_option maxRecDepth 20000 in
theorem sl_X3_rememberAlarm : Cond.selects RX3 yX3_rememberAlarm yX3_rememberAlarm ∈ lwt := mt3 4 rfl rfl
set_option maxRecDepth 20000 in
theorem sl_X5_cried : Cond.selects RX5 yX5_cried yX5_cried ∈ lwt := mt3 12 rfl rfl
set_option maxRecDepth 20000 in
theorem sl_X5_halve : Cond.selects RX5 yX5_halve yX5_halve ∈ lwt := mt3 16 rfl rfl
set_option maxRecDepth 20000 in
theorem sl_X2_begin : Cond.selects RX2 yX2_begin yX2_begin ∈ lwt := mt3 20 rfl rfl
set_option maxRecDepth 20000 in
theorem sl_X2_mostReruns : Cond.selects RX2 yX2_mostReruns yX2_mostReruns ∈ lwt := mt3 24 rfl rfl
set_option maxRecDepth 20000 in
theorem sl_X5_asks : Cond.selects RX5 yX5_asks yX5_asks ∈ lwt := mt3 28 rfl rfl
set_option maxRecDepth 20000 in
theorem sl_X2_hasEnded : Cond.selects RX2 yX2_hasEnded yX2_hasEnded ∈ lwt := mt3 32 rfl rfl
set_option maxRecDepth 20000 in
theorem sl_X2_middleBuild : Cond.selects RX2 yX2_middleBuild yX2_middleBuild ∈ lwt := mt3 36 rfl rfl
set_option maxRecDepth 20000 in
theorem sl_X5_rerun : Cond.selects RX5 yX5_rerun yX5_rerun ∈ lwt := mt3 40 rfl rfl
set_option maxRecDepth 20000 in
theorem sl_X2_take : Cond.selects RX2 yX2_take yX2_take ∈ lwt := mt3 44 rfl rfl
set_option maxRecDepth 20000 in
theorem sl_X5_found : Cond.selects RX5 yX5_found yX5_found ∈ lwt := mt3 53 rfl rfl
set_option maxRecDepth 20000 in
theorem sl_X5_reruns : Cond.selects RX5 yX5_reruns yX5_reruns ∈ lwt := mt3 57 rfl rfl
set_option maxRecDepth 20000 in
theorem sl_X5_upper : Cond.selects RX5 yX5_upper yX5_upper ∈ lwt := mt3 61 rfl rfl
set_option maxRecDepth 20000 in
theorem sl_X5_lower : Cond.selects RX5 yX5_lower yX5_lower ∈ lwt := mt3 65 rfl rfl
set_option maxRecDepth 20000 in
theorem sl_X5_asked : Cond.selects RX5 yX5_asked yX5_asked ∈ lwt := mt3 69 rfl rfl
set_option maxRecDepth 20000 in
theorem sl_X5_count : Cond.selects RX5 yX5_count yX5_count ∈ lwt := mt3 73 rfl rfl
set_option maxRecDepth 20000 in
theorem sl_X5_finding : Cond.selects RX5 yX5_finding yX5_finding ∈ lwt := mt3 81 rfl rfl
set_option maxRecDepth 20000 in
theorem sl_X5_findings : Cond.selects RX5 yX5_findings yX5_findings ∈ lwt := mt3 85 rfl rfl
set_option maxRecDepth 20000 in
theorem sl_X5_digest : Cond.selects RX5 yX5_digest yX5_digest ∈ lwt := mt3 89 rfl rfl
set_option maxRecDepth 20000 in
theorem sl_X3_digestOnto : Cond.selects RX3 yX3_digestOnto yX3_digestOnto ∈ lwt := mt3 95 rfl rfl
set_option maxRecDepth 20000 in
theorem sl_X6_finding : Cond.selects RX6 yX6_finding yX6_finding ∈ lwt := mt3 236 rfl rfl
set_option maxRecDepth 20000 in
theorem sl_X6_findings : Cond.selects RX6 yX6_findings yX6_findings ∈ lwt := mt4 0 rfl rfl
set_option maxRecDepth 20000 in
theorem sl_X6_asked : Cond.selects RX6 yX6_asked yX6_asked ∈ lwt := mt4 7 rfl rfl
set_option maxRecDepth 20000 in
theorem sl_X6_builds : Cond.selects RX6 yX6_builds yX6_builds ∈ lwt := mt4 11 rfl rfl
set_option maxRecDepth 20000 in
theorem sl_X6_test : Cond.selects RX6 yX6_test yX6_test ∈ lwt := mt4 15 rfl rfl
set_option maxRecDepth 20000 in
theorem sl_X6_is : Cond.selects RX6 yX6_is yX6_is ∈ lwt := mt4 19 rfl rfl
set_option maxRecDepth 20000 in
theorem sl_X6_row : Cond.selects RX6 yX6_row yX6_row ∈ lwt := mt4 27 rfl rfl
set_option maxRecDepth 20000 in
theorem sl_X6_lay : Cond.selects RX6 yX6_lay yX6_lay ∈ lwt := mt4 35 rfl rfl
set_option maxRecDepth 20000 in
theorem sl_X6_at : Cond.selects RX6 yX6_at yX6_at ∈ lwt := mt4 44 rfl rfl
set_option maxRecDepth 20000 in
theorem sl_X6_tear : Cond.selects RX6 yX6_tear yX6_tear ∈ lwt := mt4 48 rfl rfl
set_option maxRecDepth 20000 in
theorem sl_X6_copy : Cond.selects RX6 yX6_copy yX6_copy ∈ lwt := mt4 52 rfl rfl
set_option maxRecDepth 20000 in
theorem sl_X6_rank : Cond.selects RX6 yX6_rank yX6_rank ∈ lwt := mt4 57 rfl rfl
set_option maxRecDepth 20000 in
theorem sl_X6_mean : Cond.selects RX6 yX6_mean yX6_mean ∈ lwt := mt4 77 rfl rfl
set_option maxRecDepth 20000 in
theorem sl_X6_price : Cond.selects RX6 yX6_price yX6_price ∈ lwt := mt4 81 rfl rfl
set_option maxRecDepth 20000 in
theorem sl_X6_cuts : Cond.selects RX6 yX6_cuts yX6_cuts ∈ lwt := mt4 85 rfl rfl
set_option maxRecDepth 20000 in
theorem sl_X6_cut : Cond.selects RX6 yX6_cut yX6_cut ∈ lwt := mt4 89 rfl rfl
set_option maxRecDepth 20000 in
theorem sl_X6_middle : Cond.selects RX6 yX6_middle yX6_middle ∈ lwt := mt4 101 rfl rfl
set_option maxRecDepth 20000 in
theorem sl_X6_size : Cond.selects RX6 yX6_size yX6_size ∈ lwt := mt4 105 rfl rfl
set_option maxRecDepth 20000 in
theorem sl_X6_reach : Cond.selects RX6 yX6_reach yX6_reach ∈ lwt := mt4 113 rfl rfl
set_option maxRecDepth 20000 in
theorem sl_X6_own : Cond.selects RX6 yX6_own yX6_own ∈ lwt := mt4 117 rfl rfl
set_option maxRecDepth 20000 in
theorem sl_X6_undone : Cond.selects RX6 yX6_undone yX6_undone ∈ lwt := mt4 133 rfl rfl
set_option maxRecDepth 20000 in
theorem sl_X6_odds : Cond.selects RX6 yX6_odds yX6_odds ∈ lwt := mt4 142 rfl rfl
set_option maxRecDepth 20000 in
theorem sl_X6_upper : Cond.selects RX6 yX6_upper yX6_upper ∈ lwt := mt4 153 rfl rfl
set_option maxRecDepth 20000 in
theorem sl_X6_lower : Cond.selects RX6 yX6_lower yX6_lower ∈ lwt := mt4 157 rfl rfl
set_option maxRecDepth 20000 in
theorem sl_X6_cry : Cond.selects RX6 yX6_cry yX6_cry ∈ lwt := mt4 161 rfl rfl
set_option maxRecDepth 20000 in
theorem sl_X6_cried : Cond.selects RX6 yX6_cried yX6_cried ∈ lwt := mt4 173 rfl rfl
set_option maxRecDepth 20000 in
theorem sl_X6_halve : Cond.selects RX6 yX6_halve yX6_halve ∈ lwt := mt4 177 rfl rfl
set_option maxRecDepth 20000 in
theorem sl_X6_asks : Cond.selects RX6 yX6_asks yX6_asks ∈ lwt := mt4 181 rfl rfl
set_option maxRecDepth 20000 in
theorem sl_X6_rerun : Cond.selects RX6 yX6_rerun yX6_rerun ∈ lwt := mt4 193 rfl rfl
set_option maxRecDepth 20000 in
theorem sl_X6_found : Cond.selects RX6 yX6_found yX6_found ∈ lwt := mt4 197 rfl rfl
set_option maxRecDepth 20000 in
theorem sl_X6_reruns : Cond.selects RX6 yX6_reruns yX6_reruns ∈ lwt := mt4 201 rfl rfl
set_option maxRecDepth 20000 in
theorem sl_X6_count : Cond.selects RX6 yX6_count yX6_count ∈ lwt := mt4 205 rfl rfl
set_option maxRecDepth 20000 in
theorem sl_X6_digest : Cond.selects RX6 yX6_digest yX6_digest ∈ lwt := mt4 209 rfl rfl
set_option maxRecDepth 20000 in
theorem sl_X5_findTest : Cond.selects RX5 yX5_findTest yX5_findTest ∈ lwt := mtp (q := (yX5_findTest, 15)) 0 rfl
set_option maxRecDepth 20000 in
theorem sl_X5_findRow : Cond.selects RX5 yX5_findRow yX5_findRow ∈ lwt := mtp (q := (yX5_findRow, 15)) 1 rfl
set_option maxRecDepth 20000 in
theorem sl_X5_refuseWith : Cond.selects RX5 yX5_refuseWith yX5_refuseWith ∈ lwt := mtp (q := (yX5_refuseWith, 15)) 2 rfl
set_option maxRecDepth 20000 in
theorem sl_X5_refuseRow : Cond.selects RX5 yX5_refuseRow yX5_refuseRow ∈ lwt := mtp (q := (yX5_refuseRow, 15)) 3 rfl
set_option maxRecDepth 20000 in
theorem sl_X5_bringUpToDate : Cond.selects RX5 yX5_bringUpToDate yX5_bringUpToDate ∈ lwt := mtp (q := (yX5_bringUpToDate, 15)) 4 rfl
set_option maxRecDepth 20000 in
theorem sl_X1_solveFrom : Cond.selects RX1 yX1_solveFrom yX1_solveFrom ∈ lwt := mtp (q := (yX1_solveFrom, 4)) 5 rfl
set_option maxRecDepth 20000 in
theorem sl_X1_farFromMiddle : Cond.selects RX1 yX1_farFromMiddle yX1_farFromMiddle ∈ lwt := mtp (q := (yX1_farFromMiddle, 4)) 6 rfl
set_option maxRecDepth 20000 in
theorem sl_X1_insert : Cond.selects RX1 yX1_insert yX1_insert ∈ lwt := mtp (q := (yX1_insert, 4)) 7 rfl
set_option maxRecDepth 20000 in
theorem sl_X1_setSpans : Cond.selects RX1 yX1_setSpans yX1_setSpans ∈ lwt := mtp (q := (yX1_setSpans, 4)) 8 rfl
set_option maxRecDepth 20000 in
theorem sl_X1_setMiddles : Cond.selects RX1 yX1_setMiddles yX1_setMiddles ∈ lwt := mtp (q := (yX1_setMiddles, 4)) 9 rfl
set_option maxRecDepth 20000 in
theorem sl_X3_pairStep : Cond.selects RX3 yX3_pairStep yX3_pairStep ∈ lwt := mtp (q := (yX3_pairStep, 14)) 10 rfl
set_option maxRecDepth 20000 in
theorem sl_X5_bringRowsUpToDate : Cond.selects RX5 yX5_bringRowsUpToDate yX5_bringRowsUpToDate ∈ lwt := mtp (q := (yX5_bringRowsUpToDate, 15)) 11 rfl
set_option maxRecDepth 20000 in
theorem sl_X5_isItsOwn : Cond.selects RX5 yX5_isItsOwn yX5_isItsOwn ∈ lwt := mtp (q := (yX5_isItsOwn, 15)) 12 rfl
set_option maxRecDepth 20000 in
theorem sl_X5_readyChances : Cond.selects RX5 yX5_readyChances yX5_readyChances ∈ lwt := mtp (q := (yX5_readyChances, 15)) 13 rfl
set_option maxRecDepth 20000 in
theorem sl_X0_countUpTo : Cond.selects RX0 yX0_countUpTo yX0_countUpTo ∈ lwt := mtp (q := (yX0_countUpTo, 3)) 14 rfl
set_option maxRecDepth 20000 in
theorem sl_X0_clear : Cond.selects RX0 yX0_clear yX0_clear ∈ lwt := mtp (q := (yX0_clear, 3)) 15 rfl
set_option maxRecDepth 20000 in
theorem sl_X0_addOne : Cond.selects RX0 yX0_addOne yX0_addOne ∈ lwt := mtp (q := (yX0_addOne, 3)) 16 rfl
set_option maxRecDepth 20000 in
theorem sl_X5_cryRow : Cond.selects RX5 yX5_cryRow yX5_cryRow ∈ lwt := mtp (q := (yX5_cryRow, 15)) 17 rfl
set_option maxRecDepth 20000 in
theorem sl_X5_isAlarming : Cond.selects RX5 yX5_isAlarming yX5_isAlarming ∈ lwt := mtp (q := (yX5_isAlarming, 15)) 18 rfl
set_option maxRecDepth 20000 in
theorem sl_X5_isRare : Cond.selects RX5 yX5_isRare yX5_isRare ∈ lwt := mtp (q := (yX5_isRare, 15)) 19 rfl
set_option maxRecDepth 20000 in
theorem sl_X5_keepAlarm : Cond.selects RX5 yX5_keepAlarm yX5_keepAlarm ∈ lwt := mtp (q := (yX5_keepAlarm, 15)) 20 rfl
set_option maxRecDepth 20000 in
theorem sl_X2_decide : Cond.selects RX2 yX2_decide yX2_decide ∈ lwt := mtp (q := (yX2_decide, 7)) 21 rfl
set_option maxRecDepth 20000 in
theorem sl_X5_countRows : Cond.selects RX5 yX5_countRows yX5_countRows ∈ lwt := mtp (q := (yX5_countRows, 15)) 22 rfl
set_option maxRecDepth 20000 in
theorem sl_X6_isTest : Cond.selects RX6 yX6_isTest yX6_isTest ∈ lwt := mtp (q := (yX6_isTest, 41)) 23 rfl
set_option maxRecDepth 20000 in
theorem sl_X6_isRow : Cond.selects RX6 yX6_isRow yX6_isRow ∈ lwt := mtp (q := (yX6_isRow, 41)) 24 rfl
set_option maxRecDepth 20000 in
theorem sl_X6_meets : Cond.selects RX6 yX6_meets yX6_meets ∈ lwt := mtp (q := (yX6_meets, 41)) 25 rfl
set_option maxRecDepth 20000 in
theorem sl_X6_need : Cond.selects RX6 yX6_need yX6_need ∈ lwt := mtp (q := (yX6_need, 41)) 26 rfl
set_option maxRecDepth 20000 in
theorem sl_X6_layCuts : Cond.selects RX6 yX6_layCuts yX6_layCuts ∈ lwt := mtp (q := (yX6_layCuts, 41)) 27 rfl
set_option maxRecDepth 20000 in
theorem sl_X6_layRow : Cond.selects RX6 yX6_layRow yX6_layRow ∈ lwt := mtp (q := (yX6_layRow, 41)) 28 rfl
set_option maxRecDepth 20000 in
theorem sl_X6_costOf : Cond.selects RX6 yX6_costOf yX6_costOf ∈ lwt := mtp (q := (yX6_costOf, 41)) 29 rfl
set_option maxRecDepth 20000 in
theorem sl_X6_isCut : Cond.selects RX6 yX6_isCut yX6_isCut ∈ lwt := mtp (q := (yX6_isCut, 41)) 30 rfl
set_option maxRecDepth 20000 in
theorem sl_X6_buildOfCut : Cond.selects RX6 yX6_buildOfCut yX6_buildOfCut ∈ lwt := mtp (q := (yX6_buildOfCut, 41)) 31 rfl
set_option maxRecDepth 20000 in
theorem sl_X6_sizeOf : Cond.selects RX6 yX6_sizeOf yX6_sizeOf ∈ lwt := mtp (q := (yX6_sizeOf, 41)) 32 rfl
set_option maxRecDepth 20000 in
theorem sl_X6_isOwn : Cond.selects RX6 yX6_isOwn yX6_isOwn ∈ lwt := mtp (q := (yX6_isOwn, 41)) 33 rfl
set_option maxRecDepth 20000 in
theorem sl_X6_showsNear : Cond.selects RX6 yX6_showsNear yX6_showsNear ∈ lwt := mtp (q := (yX6_showsNear, 41)) 34 rfl
set_option maxRecDepth 20000 in
theorem sl_X6_couldShow : Cond.selects RX6 yX6_couldShow yX6_couldShow ∈ lwt := mtp (q := (yX6_couldShow, 41)) 35 rfl
set_option maxRecDepth 20000 in
theorem sl_X6_layPairs : Cond.selects RX6 yX6_layPairs yX6_layPairs ∈ lwt := mtp (q := (yX6_layPairs, 41)) 36 rfl
set_option maxRecDepth 20000 in
theorem sl_X6_layOdds : Cond.selects RX6 yX6_layOdds yX6_layOdds ∈ lwt := mtp (q := (yX6_layOdds, 41)) 37 rfl
set_option maxRecDepth 20000 in
theorem sl_X6_cryOf : Cond.selects RX6 yX6_cryOf yX6_cryOf ∈ lwt := mtp (q := (yX6_cryOf, 41)) 38 rfl
set_option maxRecDepth 20000 in
theorem sl_X6_isLoud : Cond.selects RX6 yX6_isLoud yX6_isLoud ∈ lwt := mtp (q := (yX6_isLoud, 41)) 39 rfl
set_option maxRecDepth 20000 in
theorem sl_X6_hasEnded : Cond.selects RX6 yX6_hasEnded yX6_hasEnded ∈ lwt := mtp (q := (yX6_hasEnded, 41)) 40 rfl
set_option maxRecDepth 20000 in
theorem sl_X6_middleBuild : Cond.selects RX6 yX6_middleBuild yX6_middleBuild ∈ lwt := mtp (q := (yX6_middleBuild, 41)) 41 rfl
set_option maxRecDepth 20000 in
theorem kc_X5_80 : Cond.constant RX5 80 (1000000) ∈ lwt := mt2 2 rfl rfl
set_option maxRecDepth 20000 in
theorem kc_X5_214 : Cond.constantLong RX5 214 (17) ∈ lwt := mt3 91 rfl rfl
set_option maxRecDepth 20000 in
theorem kc_X5_216 : Cond.constantLong RX5 216 (31) ∈ lwt := mt3 92 rfl rfl
set_option maxRecDepth 20000 in
theorem kc_X3_75 : Cond.constantLong RX3 75 (31) ∈ lwt := mt3 97 rfl rfl
set_option maxRecDepth 20000 in
theorem kc_X6_59 : Cond.constant RX6 59 (35700) ∈ lwt := mt3 107 rfl rfl
set_option maxRecDepth 20000 in
theorem kc_X6_105 : Cond.constant RX6 105 (1000000) ∈ lwt := mt4 37 rfl rfl
set_option maxRecDepth 20000 in
theorem kc_X6_110 : Cond.constantLong RX6 110 (40) ∈ lwt := mt4 54 rfl rfl
set_option maxRecDepth 20000 in
theorem kc_X6_153 : Cond.constantLong RX6 153 (10) ∈ lwt := mt4 139 rfl rfl
set_option maxRecDepth 20000 in
theorem kc_X6_218 : Cond.constantLong RX6 218 (31) ∈ lwt := mt4 211 rfl rfl
set_option maxRecDepth 20000 in
theorem kc_X6_220 : Cond.constantLong RX6 220 (527) ∈ lwt := mt4 212 rfl rfl
set_option maxRecDepth 20000 in
theorem kl_L_7 : Cond.classLink RL 7 RX5 ∈ lwt := mt1 12 rfl rfl
set_option maxRecDepth 20000 in
theorem kl_X5_9 : Cond.classLink RX5 9 RX4 ∈ lwt := mt1 20 rfl rfl
set_option maxRecDepth 20000 in
theorem kl_X5_22 : Cond.classLink RX5 22 RX1 ∈ lwt := mt1 22 rfl rfl
set_option maxRecDepth 20000 in
theorem kl_X5_29 : Cond.classLink RX5 29 RX2 ∈ lwt := mt1 42 rfl rfl
set_option maxRecDepth 20000 in
theorem kl_X4_9 : Cond.classLink RX4 9 RX3 ∈ lwt := mt1 138 rfl rfl
set_option maxRecDepth 20000 in
theorem kl_X5_160 : Cond.classLink RX5 160 RX0 ∈ lwt := mt2 171 rfl rfl
set_option maxRecDepth 20000 in
theorem kl_L_10 : Cond.classLink RL 10 RX6 ∈ lwt := mt3 101 rfl rfl
