def lwF (D : va_G) (G G2 : xG) (ub : xB) (s : State) : Prop := va_K D vwCl (xT G) s ∧ va_K D vwCl (mT G2) s ∧ wInj 115 G.1 ∧ wInj 29 G2.1 ∧ xS G ub s ∧ (∀ k, k < 115 → s.heap.size ≤ G.1 k) ∧ (∀ k, k < 29 → s.heap.size ≤ G2.1 k) ∧ ∀ i j, i < 115 → j < 29 → ¬ G.1 i = G2.1 j
theorem lwF_x {D : va_G} {G G2 : xG} {ub : xB} {s : State} (F : lwF D G G2 ub s) {q : Nat} (h : xA G q) : s.heap.size ≤ q := by
  obtain ⟨k, hk, rfl⟩ := h
  exact F.2.2.2.2.2.1 k hk
theorem lwF_m {D : va_G} {G G2 : xG} {ub : xB} {s : State} (F : lwF D G G2 ub s) {q : Nat} (h : mA G2 q) : s.heap.size ≤ q := by
  obtain ⟨k, hk, rfl⟩ := h
  exact F.2.2.2.2.2.2.1 k hk
theorem lvin {i k L : Nat} (h : i + k < L) (hL : L ≤ 3072) : vp_in (nI i + nI k) L := by rw [nI_add]; exact vp_in_nI h (by omega)
theorem xPre_law {D : va_G} {G G2 : xG} {ub : xB} {σ : QMem} {s U : State} {H : Heap} {locs : List Loc} (F : lwF D G G2 ub s) (hS : va_S (fun q : Nat => s.heap.size ≤ q) s.heap H locs) (hP : va_P D vwCl (xW G σ) H) (hU : U.heap = H) (hW : s.WarmedH U.vm) : xPre D G ub σ U := by
  obtain ⟨hK, -, hi, -, ⟨z1, z2, z3, z4, z5, z6, z7, z8, z9, z10, z11, z12⟩, -⟩ := F
  have hq : ∀ a : Nat, a < s.heap.size → ¬ xA G a → U.heap[a]? = s.heap[a]? := fun a h1 _ => by rw [hU]; exact hS.2.1 a h1 (Nat.not_le.mpr h1)
  exact ⟨by rw [hU]; exact hP, va_K.moved hW.alike hK, hi, (z1.kept hq).moved hW.alike, (z2.kept (hq _ z3 z4)).moved hW.alike, Nat.lt_of_lt_of_le z3 (by rw [hU]; exact hS.1), z4, z5.warm hW, (z6.kept hq).moved hW.alike, z7.warm hW, z8.warm hW, z9.warm hW, z10.warm hW, (z11.kept hq).moved hW.alike, (z12.kept hq).moved hW.alike⟩
theorem mPre_law {D : va_G} {G G2 : xG} {ub : xB} {σ : QMem} {s U : State} {H : Heap} (F : lwF D G G2 ub s) (hP : va_P D vwCl (mW G2 σ) H) (hU : U.heap = H) (hW : s.WarmedH U.vm) : mPre D G2 σ U := ⟨by rw [hU]; exact hP, va_K.moved hW.alike F.2.1, F.2.2.2.1⟩
theorem w_lt {D : va_G} {ws : va_W} {H : Heap} (hP : va_P D vwCl ws H) {k : Nat} {q : Nat × va_E} (h : ws[k]? = some q) : q.1 < H.size := by
  have h2 := hP k q h
  unfold va_at at h2
  cases hq : q.2 with
  | inl a => rw [hq] at h2; exact (Array.getElem?_eq_some_iff.mp h2).1
  | inr o => rw [hq] at h2; obtain ⟨r, -, h3⟩ := h2; obtain ⟨cell, h4, -⟩ := h3; exact (Array.getElem?_eq_some_iff.mp h4).1
theorem m_frame {D : va_G} {G G2 : xG} {ub : xB} {μ : QMem} {s : State} {H H1 : Heap} (F : lwF D G G2 ub s) (hM : va_P D vwCl (mW G2 μ) H) (hq : ∀ q : Nat, q < H.size → ¬ xA G q → H1[q]? = H[q]?) : va_P D vwCl (mW G2 μ) H1 := by
  refine hM.kept (fun k q h => hq _ (w_lt hM h) ?_)
  obtain ⟨a1, a2⟩ := wW_inv h
  rintro ⟨k2, hk2, e⟩
  exact F.2.2.2.2.2.2.2 k2 k hk2 a1 (by rw [← e, a2])
theorem x_frame {D : va_G} {G G2 : xG} {ub : xB} {σ : QMem} {s : State} {H H1 : Heap} (F : lwF D G G2 ub s) (hP : va_P D vwCl (xW G σ) H) (hq : ∀ q : Nat, q < H.size → ¬ mA G2 q → H1[q]? = H[q]?) : va_P D vwCl (xW G σ) H1 := by
  refine hP.kept (fun k q h => hq _ (w_lt hP h) ?_)
  obtain ⟨a1, a2⟩ := wW_inv h
  rintro ⟨k2, hk2, e⟩
  exact F.2.2.2.2.2.2.2 k k2 a1 hk2 (by rw [← a2, e])
theorem mw_1062 : Cond.methodLink RL 35 yX12_number ∈ lwW := lwW_at 1062 (by decide +kernel) rfl
theorem mw_1063 : Cond.instanceMethod yX12_number ∈ lwW := lwW_at 1063 (by decide +kernel) rfl
theorem mw_1064 : Cond.selects RX12 yX12_number yX12_number ∈ lwW := lwW_at 1064 (by decide +kernel) rfl
theorem mw_1065 : Cond.code yX12_number cX12_number 3 (some .int) ∈ lwW := lwW_at 1065 (by decide +kernel) rfl
theorem mw_1072 : Cond.methodLink RL 39 yX12_of ∈ lwW := lwW_at 1072 (by decide +kernel) rfl
theorem mw_1073 : Cond.instanceMethod yX12_of ∈ lwW := lwW_at 1073 (by decide +kernel) rfl
theorem mw_1074 : Cond.selects RX12 yX12_of yX12_of ∈ lwW := lwW_at 1074 (by decide +kernel) rfl
theorem mw_1075 : Cond.code yX12_of cX12_of 3 (some .int) ∈ lwW := lwW_at 1075 (by decide +kernel) rfl
theorem mw_1110 : Cond.methodLink RL 43 yX12_unit ∈ lwW := lwW_at 1110 (by decide +kernel) rfl
theorem mw_1111 : Cond.instanceMethod yX12_unit ∈ lwW := lwW_at 1111 (by decide +kernel) rfl
theorem mw_1112 : Cond.selects RX12 yX12_unit yX12_unit ∈ lwW := lwW_at 1112 (by decide +kernel) rfl
theorem mw_1113 : Cond.code yX12_unit cX12_unit 3 (some .int) ∈ lwW := lwW_at 1113 (by decide +kernel) rfl
theorem mw_1114 : Cond.methodLink RL 48 yX12_set ∈ lwW := lwW_at 1114 (by decide +kernel) rfl
theorem mw_1115 : Cond.instanceMethod yX12_set ∈ lwW := lwW_at 1115 (by decide +kernel) rfl
theorem mw_1116 : Cond.selects RX12 yX12_set yX12_set ∈ lwW := lwW_at 1116 (by decide +kernel) rfl
theorem mw_1117 : Cond.code yX12_set cX12_set 6 (some .int) ∈ lwW := lwW_at 1117 (by decide +kernel) rfl
theorem mw_1129 : Cond.methodLink RL 52 yX12_add ∈ lwW := lwW_at 1129 (by decide +kernel) rfl
theorem mw_1130 : Cond.instanceMethod yX12_add ∈ lwW := lwW_at 1130 (by decide +kernel) rfl
theorem mw_1131 : Cond.selects RX12 yX12_add yX12_add ∈ lwW := lwW_at 1131 (by decide +kernel) rfl
theorem mw_1132 : Cond.code yX12_add cX12_add 4 (some .int) ∈ lwW := lwW_at 1132 (by decide +kernel) rfl
theorem mw_1133 : Cond.methodLink RL 57 yX12_times ∈ lwW := lwW_at 1133 (by decide +kernel) rfl
theorem mw_1134 : Cond.instanceMethod yX12_times ∈ lwW := lwW_at 1134 (by decide +kernel) rfl
theorem mw_1135 : Cond.selects RX12 yX12_times yX12_times ∈ lwW := lwW_at 1135 (by decide +kernel) rfl
theorem mw_1136 : Cond.code yX12_times cX12_times 4 (some .int) ∈ lwW := lwW_at 1136 (by decide +kernel) rfl
theorem mw_1140 : Cond.methodLink RL 61 yX12_turn ∈ lwW := lwW_at 1140 (by decide +kernel) rfl
theorem mw_1141 : Cond.instanceMethod yX12_turn ∈ lwW := lwW_at 1141 (by decide +kernel) rfl
theorem mw_1142 : Cond.selects RX12 yX12_turn yX12_turn ∈ lwW := lwW_at 1142 (by decide +kernel) rfl
theorem mw_1143 : Cond.code yX12_turn cX12_turn 4 (some .int) ∈ lwW := lwW_at 1143 (by decide +kernel) rfl
theorem mw_1148 : Cond.methodLink RL 66 yX12_divide ∈ lwW := lwW_at 1148 (by decide +kernel) rfl
theorem mw_1149 : Cond.instanceMethod yX12_divide ∈ lwW := lwW_at 1149 (by decide +kernel) rfl
theorem mw_1150 : Cond.selects RX12 yX12_divide yX12_divide ∈ lwW := lwW_at 1150 (by decide +kernel) rfl
theorem mw_1151 : Cond.code yX12_divide cX12_divide 5 (some .int) ∈ lwW := lwW_at 1151 (by decide +kernel) rfl
theorem mw_1163 : Cond.methodLink RL 70 yX12_common ∈ lwW := lwW_at 1163 (by decide +kernel) rfl
theorem mw_1164 : Cond.instanceMethod yX12_common ∈ lwW := lwW_at 1164 (by decide +kernel) rfl
theorem mw_1165 : Cond.selects RX12 yX12_common yX12_common ∈ lwW := lwW_at 1165 (by decide +kernel) rfl
theorem mw_1166 : Cond.code yX12_common cX12_common 5 (some .int) ∈ lwW := lwW_at 1166 (by decide +kernel) rfl
theorem mw_1167 : Cond.methodLink RL 74 yX12_undo ∈ lwW := lwW_at 1167 (by decide +kernel) rfl
theorem mw_1168 : Cond.instanceMethod yX12_undo ∈ lwW := lwW_at 1168 (by decide +kernel) rfl
theorem mw_1169 : Cond.selects RX12 yX12_undo yX12_undo ∈ lwW := lwW_at 1169 (by decide +kernel) rfl
theorem mw_1170 : Cond.code yX12_undo cX12_undo 2 (some .int) ∈ lwW := lwW_at 1170 (by decide +kernel) rfl
theorem mw_1171 : Cond.methodLink RL 78 yX12_keep ∈ lwW := lwW_at 1171 (by decide +kernel) rfl
theorem mw_1172 : Cond.instanceMethod yX12_keep ∈ lwW := lwW_at 1172 (by decide +kernel) rfl
theorem mw_1173 : Cond.selects RX12 yX12_keep yX12_keep ∈ lwW := lwW_at 1173 (by decide +kernel) rfl
theorem mw_1174 : Cond.code yX12_keep cX12_keep 3 (some .int) ∈ lwW := lwW_at 1174 (by decide +kernel) rfl
theorem mw_1179 : Cond.methodLink RL 82 yX12_back ∈ lwW := lwW_at 1179 (by decide +kernel) rfl
theorem mw_1180 : Cond.instanceMethod yX12_back ∈ lwW := lwW_at 1180 (by decide +kernel) rfl
theorem mw_1181 : Cond.selects RX12 yX12_back yX12_back ∈ lwW := lwW_at 1181 (by decide +kernel) rfl
theorem mw_1182 : Cond.code yX12_back cX12_back 3 (some .int) ∈ lwW := lwW_at 1182 (by decide +kernel) rfl
theorem mw_1183 : Cond.methodLink RL 86 yX12_divides ∈ lwW := lwW_at 1183 (by decide +kernel) rfl
theorem mw_1184 : Cond.instanceMethod yX12_divides ∈ lwW := lwW_at 1184 (by decide +kernel) rfl
theorem mw_1185 : Cond.selects RX12 yX12_divides yX12_divides ∈ lwW := lwW_at 1185 (by decide +kernel) rfl
theorem mw_1186 : Cond.code yX12_divides cX12_divides 4 (some .int) ∈ lwW := lwW_at 1186 (by decide +kernel) rfl
theorem mw_1187 : Cond.methodLink RL 90 yX12_nearest ∈ lwW := lwW_at 1187 (by decide +kernel) rfl
theorem mw_1188 : Cond.instanceMethod yX12_nearest ∈ lwW := lwW_at 1188 (by decide +kernel) rfl
theorem mw_1189 : Cond.selects RX12 yX12_nearest yX12_nearest ∈ lwW := lwW_at 1189 (by decide +kernel) rfl
theorem mw_1190 : Cond.code yX12_nearest cX12_nearest 5 (some .int) ∈ lwW := lwW_at 1190 (by decide +kernel) rfl
theorem mw_1191 : Cond.methodLink RL 94 yX12_steps ∈ lwW := lwW_at 1191 (by decide +kernel) rfl
theorem mw_1192 : Cond.instanceMethod yX12_steps ∈ lwW := lwW_at 1192 (by decide +kernel) rfl
theorem mw_1193 : Cond.selects RX12 yX12_steps yX12_steps ∈ lwW := lwW_at 1193 (by decide +kernel) rfl
theorem mw_1194 : Cond.code yX12_steps cX12_steps 5 (some .int) ∈ lwW := lwW_at 1194 (by decide +kernel) rfl
theorem mw_1195 : Cond.methodLink RL 98 yX12_mate ∈ lwW := lwW_at 1195 (by decide +kernel) rfl
theorem mw_1196 : Cond.instanceMethod yX12_mate ∈ lwW := lwW_at 1196 (by decide +kernel) rfl
theorem mw_1197 : Cond.selects RX12 yX12_mate yX12_mate ∈ lwW := lwW_at 1197 (by decide +kernel) rfl
theorem mw_1198 : Cond.code yX12_mate cX12_mate 5 (some .int) ∈ lwW := lwW_at 1198 (by decide +kernel) rfl
theorem mw_1199 : Cond.methodLink RL 102 yX12_factor ∈ lwW := lwW_at 1199 (by decide +kernel) rfl
theorem mw_1200 : Cond.instanceMethod yX12_factor ∈ lwW := lwW_at 1200 (by decide +kernel) rfl
theorem mw_1201 : Cond.selects RX12 yX12_factor yX12_factor ∈ lwW := lwW_at 1201 (by decide +kernel) rfl
theorem mw_1202 : Cond.code yX12_factor cX12_factor 6 (some .int) ∈ lwW := lwW_at 1202 (by decide +kernel) rfl
theorem mw_1206 : Cond.methodLink RL 106 yX12_prime ∈ lwW := lwW_at 1206 (by decide +kernel) rfl
theorem mw_1207 : Cond.instanceMethod yX12_prime ∈ lwW := lwW_at 1207 (by decide +kernel) rfl
theorem mw_1208 : Cond.selects RX12 yX12_prime yX12_prime ∈ lwW := lwW_at 1208 (by decide +kernel) rfl
theorem mw_1209 : Cond.code yX12_prime cX12_prime 6 (some .int) ∈ lwW := lwW_at 1209 (by decide +kernel) rfl
theorem mw_1214 : Cond.methodLink RL 110 yX12_list ∈ lwW := lwW_at 1214 (by decide +kernel) rfl
theorem mw_1215 : Cond.instanceMethod yX12_list ∈ lwW := lwW_at 1215 (by decide +kernel) rfl
theorem mw_1216 : Cond.selects RX12 yX12_list yX12_list ∈ lwW := lwW_at 1216 (by decide +kernel) rfl
theorem mw_1217 : Cond.code yX12_list cX12_list 5 (some .int) ∈ lwW := lwW_at 1217 (by decide +kernel) rfl
theorem mw_1218 : Cond.methodLink RL 114 yX12_squares ∈ lwW := lwW_at 1218 (by decide +kernel) rfl
theorem mw_1219 : Cond.instanceMethod yX12_squares ∈ lwW := lwW_at 1219 (by decide +kernel) rfl
theorem mw_1220 : Cond.selects RX12 yX12_squares yX12_squares ∈ lwW := lwW_at 1220 (by decide +kernel) rfl
theorem mw_1221 : Cond.code yX12_squares cX12_squares 4 (some .int) ∈ lwW := lwW_at 1221 (by decide +kernel) rfl
theorem mw_1229 : Cond.methodLink RL 118 yX12_turned ∈ lwW := lwW_at 1229 (by decide +kernel) rfl
theorem mw_1230 : Cond.instanceMethod yX12_turned ∈ lwW := lwW_at 1230 (by decide +kernel) rfl
theorem mw_1231 : Cond.selects RX12 yX12_turned yX12_turned ∈ lwW := lwW_at 1231 (by decide +kernel) rfl
theorem mw_1232 : Cond.code yX12_turned cX12_turned 5 (some .int) ∈ lwW := lwW_at 1232 (by decide +kernel) rfl
theorem mw_1233 : Cond.methodLink RL 122 yX12_rank ∈ lwW := lwW_at 1233 (by decide +kernel) rfl
theorem mw_1234 : Cond.instanceMethod yX12_rank ∈ lwW := lwW_at 1234 (by decide +kernel) rfl
theorem mw_1235 : Cond.selects RX12 yX12_rank yX12_rank ∈ lwW := lwW_at 1235 (by decide +kernel) rfl
theorem mw_1236 : Cond.code yX12_rank cX12_rank 5 (some .int) ∈ lwW := lwW_at 1236 (by decide +kernel) rfl
theorem mw_1241 : Cond.methodLink RL 17 yX12_write ∈ lwW := lwW_at 1241 (by decide +kernel) rfl
theorem mw_1242 : Cond.instanceMethod yX12_write ∈ lwW := lwW_at 1242 (by decide +kernel) rfl
theorem mw_1243 : Cond.selects RX12 yX12_write yX12_write ∈ lwW := lwW_at 1243 (by decide +kernel) rfl
theorem mw_1244 : Cond.code yX12_write cX12_write 2 (some .int) ∈ lwW := lwW_at 1244 (by decide +kernel) rfl
theorem mw_1245 : Cond.methodLink RL 22 yX12_erase ∈ lwW := lwW_at 1245 (by decide +kernel) rfl
theorem mw_1246 : Cond.instanceMethod yX12_erase ∈ lwW := lwW_at 1246 (by decide +kernel) rfl
theorem mw_1247 : Cond.selects RX12 yX12_erase yX12_erase ∈ lwW := lwW_at 1247 (by decide +kernel) rfl
theorem mw_1248 : Cond.code yX12_erase cX12_erase 2 (some .int) ∈ lwW := lwW_at 1248 (by decide +kernel) rfl
theorem mw_1249 : Cond.methodLink RL 26 yX12_fault ∈ lwW := lwW_at 1249 (by decide +kernel) rfl
theorem mw_1250 : Cond.instanceMethod yX12_fault ∈ lwW := lwW_at 1250 (by decide +kernel) rfl
theorem mw_1251 : Cond.selects RX12 yX12_fault yX12_fault ∈ lwW := lwW_at 1251 (by decide +kernel) rfl
theorem mw_1252 : Cond.code yX12_fault cX12_fault 1 (some .int) ∈ lwW := lwW_at 1252 (by decide +kernel) rfl
theorem mw_1293 : Cond.methodLink RL 30 yX12_desk ∈ lwW := lwW_at 1293 (by decide +kernel) rfl
theorem mw_1294 : Cond.instanceMethod yX12_desk ∈ lwW := lwW_at 1294 (by decide +kernel) rfl
theorem mw_1295 : Cond.selects RX12 yX12_desk yX12_desk ∈ lwW := lwW_at 1295 (by decide +kernel) rfl
theorem mw_1296 : Cond.code yX12_desk cX12_desk 3 (some .int) ∈ lwW := lwW_at 1296 (by decide +kernel) rfl
theorem mw_1301 : Cond.methodLink RL 126 yX12_tally ∈ lwW := lwW_at 1301 (by decide +kernel) rfl
theorem mw_1302 : Cond.instanceMethod yX12_tally ∈ lwW := lwW_at 1302 (by decide +kernel) rfl
theorem mw_1303 : Cond.selects RX12 yX12_tally yX12_tally ∈ lwW := lwW_at 1303 (by decide +kernel) rfl
theorem mw_1304 : Cond.code yX12_tally cX12_tally 4 (some .int) ∈ lwW := lwW_at 1304 (by decide +kernel) rfl
theorem mw_1308 : Cond.methodLink RL 130 yX12_load ∈ lwW := lwW_at 1308 (by decide +kernel) rfl
theorem mw_1309 : Cond.instanceMethod yX12_load ∈ lwW := lwW_at 1309 (by decide +kernel) rfl
theorem mw_1310 : Cond.selects RX12 yX12_load yX12_load ∈ lwW := lwW_at 1310 (by decide +kernel) rfl
theorem mw_1311 : Cond.code yX12_load cX12_load 5 (some .int) ∈ lwW := lwW_at 1311 (by decide +kernel) rfl
theorem mw_1316 : Cond.methodLink RL 134 yX12_work ∈ lwW := lwW_at 1316 (by decide +kernel) rfl
theorem mw_1317 : Cond.instanceMethod yX12_work ∈ lwW := lwW_at 1317 (by decide +kernel) rfl
theorem mw_1318 : Cond.selects RX12 yX12_work yX12_work ∈ lwW := lwW_at 1318 (by decide +kernel) rfl
theorem mw_1319 : Cond.code yX12_work cX12_work 9 (some .int) ∈ lwW := lwW_at 1319 (by decide +kernel) rfl
theorem mw_1323 : Cond.methodLink RL 138 yX12_latest ∈ lwW := lwW_at 1323 (by decide +kernel) rfl
theorem mw_1324 : Cond.instanceMethod yX12_latest ∈ lwW := lwW_at 1324 (by decide +kernel) rfl
theorem mw_1325 : Cond.selects RX12 yX12_latest yX12_latest ∈ lwW := lwW_at 1325 (by decide +kernel) rfl
theorem mw_1326 : Cond.code yX12_latest cX12_latest 1 (some .int) ∈ lwW := lwW_at 1326 (by decide +kernel) rfl
theorem mw_1327 : Cond.methodLink RL 142 yX12_drop ∈ lwW := lwW_at 1327 (by decide +kernel) rfl
theorem mw_1328 : Cond.instanceMethod yX12_drop ∈ lwW := lwW_at 1328 (by decide +kernel) rfl
theorem mw_1329 : Cond.selects RX12 yX12_drop yX12_drop ∈ lwW := lwW_at 1329 (by decide +kernel) rfl
theorem mw_1330 : Cond.code yX12_drop cX12_drop 3 (some .int) ∈ lwW := lwW_at 1330 (by decide +kernel) rfl
theorem mw_1331 : Cond.methodLink RL 146 yX12_count ∈ lwW := lwW_at 1331 (by decide +kernel) rfl
theorem mw_1332 : Cond.instanceMethod yX12_count ∈ lwW := lwW_at 1332 (by decide +kernel) rfl
theorem mw_1333 : Cond.selects RX12 yX12_count yX12_count ∈ lwW := lwW_at 1333 (by decide +kernel) rfl
theorem mw_1334 : Cond.code yX12_count cX12_count 4 (some .int) ∈ lwW := lwW_at 1334 (by decide +kernel) rfl
theorem mw_322 : Cond.methodLink RL 13 yX11_write ∈ lwW := lwW_at 322 (by decide +kernel) rfl
theorem mw_323 : Cond.instanceMethod yX11_write ∈ lwW := lwW_at 323 (by decide +kernel) rfl
theorem mw_324 : Cond.selects RX11 yX11_write yX11_write ∈ lwW := lwW_at 324 (by decide +kernel) rfl
theorem mw_325 : Cond.code yX11_write cX11_write 2 (some .int) ∈ lwW := lwW_at 325 (by decide +kernel) rfl
theorem mw_338 : Cond.methodLink RL 18 yX11_erase ∈ lwW := lwW_at 338 (by decide +kernel) rfl
theorem mw_339 : Cond.instanceMethod yX11_erase ∈ lwW := lwW_at 339 (by decide +kernel) rfl
theorem mw_340 : Cond.selects RX11 yX11_erase yX11_erase ∈ lwW := lwW_at 340 (by decide +kernel) rfl
theorem mw_341 : Cond.code yX11_erase cX11_erase 2 (some .int) ∈ lwW := lwW_at 341 (by decide +kernel) rfl
theorem mw_346 : Cond.methodLink RL 23 yX11_fault ∈ lwW := lwW_at 346 (by decide +kernel) rfl
theorem mw_347 : Cond.instanceMethod yX11_fault ∈ lwW := lwW_at 347 (by decide +kernel) rfl
theorem mw_348 : Cond.selects RX11 yX11_fault yX11_fault ∈ lwW := lwW_at 348 (by decide +kernel) rfl
theorem mw_349 : Cond.code yX11_fault cX11_fault 1 (some .int) ∈ lwW := lwW_at 349 (by decide +kernel) rfl
theorem mw_447 : Cond.methodLink RL 27 yX11_desk ∈ lwW := lwW_at 447 (by decide +kernel) rfl
theorem mw_448 : Cond.instanceMethod yX11_desk ∈ lwW := lwW_at 448 (by decide +kernel) rfl
theorem mw_449 : Cond.selects RX11 yX11_desk yX11_desk ∈ lwW := lwW_at 449 (by decide +kernel) rfl
theorem mw_450 : Cond.code yX11_desk cX11_desk 3 (some .int) ∈ lwW := lwW_at 450 (by decide +kernel) rfl
theorem mw_496 : Cond.methodLink RL 31 yX11_number ∈ lwW := lwW_at 496 (by decide +kernel) rfl
theorem mw_497 : Cond.instanceMethod yX11_number ∈ lwW := lwW_at 497 (by decide +kernel) rfl
theorem mw_498 : Cond.selects RX11 yX11_number yX11_number ∈ lwW := lwW_at 498 (by decide +kernel) rfl
theorem mw_499 : Cond.code yX11_number cX11_number 3 (some .int) ∈ lwW := lwW_at 499 (by decide +kernel) rfl
theorem mw_507 : Cond.methodLink RL 36 yX11_of ∈ lwW := lwW_at 507 (by decide +kernel) rfl
theorem mw_508 : Cond.instanceMethod yX11_of ∈ lwW := lwW_at 508 (by decide +kernel) rfl
theorem mw_509 : Cond.selects RX11 yX11_of yX11_of ∈ lwW := lwW_at 509 (by decide +kernel) rfl
theorem mw_510 : Cond.code yX11_of cX11_of 4 (some .int) ∈ lwW := lwW_at 510 (by decide +kernel) rfl
theorem mw_653 : Cond.methodLink RL 40 yX11_unit ∈ lwW := lwW_at 653 (by decide +kernel) rfl
theorem mw_654 : Cond.instanceMethod yX11_unit ∈ lwW := lwW_at 654 (by decide +kernel) rfl
theorem mw_655 : Cond.selects RX11 yX11_unit yX11_unit ∈ lwW := lwW_at 655 (by decide +kernel) rfl
theorem mw_656 : Cond.code yX11_unit cX11_unit 3 (some .int) ∈ lwW := lwW_at 656 (by decide +kernel) rfl
theorem mw_659 : Cond.methodLink RL 44 yX11_set ∈ lwW := lwW_at 659 (by decide +kernel) rfl
theorem mw_660 : Cond.instanceMethod yX11_set ∈ lwW := lwW_at 660 (by decide +kernel) rfl
theorem mw_661 : Cond.selects RX11 yX11_set yX11_set ∈ lwW := lwW_at 661 (by decide +kernel) rfl
theorem mw_662 : Cond.code yX11_set cX11_set 6 (some .int) ∈ lwW := lwW_at 662 (by decide +kernel) rfl
theorem mw_678 : Cond.methodLink RL 49 yX11_add ∈ lwW := lwW_at 678 (by decide +kernel) rfl
theorem mw_679 : Cond.instanceMethod yX11_add ∈ lwW := lwW_at 679 (by decide +kernel) rfl
theorem mw_680 : Cond.selects RX11 yX11_add yX11_add ∈ lwW := lwW_at 680 (by decide +kernel) rfl
theorem mw_681 : Cond.code yX11_add cX11_add 3 (some .int) ∈ lwW := lwW_at 681 (by decide +kernel) rfl
theorem mw_686 : Cond.methodLink RL 53 yX11_times ∈ lwW := lwW_at 686 (by decide +kernel) rfl
theorem mw_687 : Cond.instanceMethod yX11_times ∈ lwW := lwW_at 687 (by decide +kernel) rfl
theorem mw_688 : Cond.selects RX11 yX11_times yX11_times ∈ lwW := lwW_at 688 (by decide +kernel) rfl
theorem mw_689 : Cond.code yX11_times cX11_times 4 (some .int) ∈ lwW := lwW_at 689 (by decide +kernel) rfl
theorem mw_694 : Cond.methodLink RL 58 yX11_turn ∈ lwW := lwW_at 694 (by decide +kernel) rfl
theorem mw_695 : Cond.instanceMethod yX11_turn ∈ lwW := lwW_at 695 (by decide +kernel) rfl
theorem mw_696 : Cond.selects RX11 yX11_turn yX11_turn ∈ lwW := lwW_at 696 (by decide +kernel) rfl
theorem mw_697 : Cond.code yX11_turn cX11_turn 3 (some .int) ∈ lwW := lwW_at 697 (by decide +kernel) rfl
theorem mw_712 : Cond.methodLink RL 62 yX11_divide ∈ lwW := lwW_at 712 (by decide +kernel) rfl
theorem mw_713 : Cond.instanceMethod yX11_divide ∈ lwW := lwW_at 713 (by decide +kernel) rfl
theorem mw_714 : Cond.selects RX11 yX11_divide yX11_divide ∈ lwW := lwW_at 714 (by decide +kernel) rfl
theorem mw_715 : Cond.code yX11_divide cX11_divide 5 (some .int) ∈ lwW := lwW_at 715 (by decide +kernel) rfl
theorem mw_717 : Cond.methodLink RL 67 yX11_common ∈ lwW := lwW_at 717 (by decide +kernel) rfl
theorem mw_718 : Cond.instanceMethod yX11_common ∈ lwW := lwW_at 718 (by decide +kernel) rfl
theorem mw_719 : Cond.selects RX11 yX11_common yX11_common ∈ lwW := lwW_at 719 (by decide +kernel) rfl
theorem mw_720 : Cond.code yX11_common cX11_common 4 (some .int) ∈ lwW := lwW_at 720 (by decide +kernel) rfl
theorem mw_726 : Cond.methodLink RL 71 yX11_undo ∈ lwW := lwW_at 726 (by decide +kernel) rfl
theorem mw_727 : Cond.instanceMethod yX11_undo ∈ lwW := lwW_at 727 (by decide +kernel) rfl
theorem mw_728 : Cond.selects RX11 yX11_undo yX11_undo ∈ lwW := lwW_at 728 (by decide +kernel) rfl
theorem mw_729 : Cond.code yX11_undo cX11_undo 2 (some .int) ∈ lwW := lwW_at 729 (by decide +kernel) rfl
theorem mw_738 : Cond.methodLink RL 75 yX11_keep ∈ lwW := lwW_at 738 (by decide +kernel) rfl
theorem mw_739 : Cond.instanceMethod yX11_keep ∈ lwW := lwW_at 739 (by decide +kernel) rfl
theorem mw_740 : Cond.selects RX11 yX11_keep yX11_keep ∈ lwW := lwW_at 740 (by decide +kernel) rfl
theorem mw_741 : Cond.code yX11_keep cX11_keep 2 (some .int) ∈ lwW := lwW_at 741 (by decide +kernel) rfl
theorem mw_751 : Cond.methodLink RL 79 yX11_back ∈ lwW := lwW_at 751 (by decide +kernel) rfl
theorem mw_752 : Cond.instanceMethod yX11_back ∈ lwW := lwW_at 752 (by decide +kernel) rfl
theorem mw_753 : Cond.selects RX11 yX11_back yX11_back ∈ lwW := lwW_at 753 (by decide +kernel) rfl
theorem mw_754 : Cond.code yX11_back cX11_back 2 (some .int) ∈ lwW := lwW_at 754 (by decide +kernel) rfl
theorem mw_763 : Cond.methodLink RL 83 yX11_divides ∈ lwW := lwW_at 763 (by decide +kernel) rfl
theorem mw_764 : Cond.instanceMethod yX11_divides ∈ lwW := lwW_at 764 (by decide +kernel) rfl
theorem mw_765 : Cond.selects RX11 yX11_divides yX11_divides ∈ lwW := lwW_at 765 (by decide +kernel) rfl
theorem mw_766 : Cond.code yX11_divides cX11_divides 4 (some .int) ∈ lwW := lwW_at 766 (by decide +kernel) rfl
theorem mw_768 : Cond.methodLink RL 87 yX11_nearest ∈ lwW := lwW_at 768 (by decide +kernel) rfl
theorem mw_769 : Cond.instanceMethod yX11_nearest ∈ lwW := lwW_at 769 (by decide +kernel) rfl
theorem mw_770 : Cond.selects RX11 yX11_nearest yX11_nearest ∈ lwW := lwW_at 770 (by decide +kernel) rfl
theorem mw_771 : Cond.code yX11_nearest cX11_nearest 5 (some .int) ∈ lwW := lwW_at 771 (by decide +kernel) rfl
theorem mw_772 : Cond.methodLink RL 91 yX11_steps ∈ lwW := lwW_at 772 (by decide +kernel) rfl
theorem mw_773 : Cond.instanceMethod yX11_steps ∈ lwW := lwW_at 773 (by decide +kernel) rfl
theorem mw_774 : Cond.selects RX11 yX11_steps yX11_steps ∈ lwW := lwW_at 774 (by decide +kernel) rfl
theorem mw_775 : Cond.code yX11_steps cX11_steps 4 (some .int) ∈ lwW := lwW_at 775 (by decide +kernel) rfl
theorem mw_776 : Cond.methodLink RL 95 yX11_mate ∈ lwW := lwW_at 776 (by decide +kernel) rfl
theorem mw_777 : Cond.instanceMethod yX11_mate ∈ lwW := lwW_at 777 (by decide +kernel) rfl
theorem mw_778 : Cond.selects RX11 yX11_mate yX11_mate ∈ lwW := lwW_at 778 (by decide +kernel) rfl
theorem mw_779 : Cond.code yX11_mate cX11_mate 5 (some .int) ∈ lwW := lwW_at 779 (by decide +kernel) rfl
theorem mw_781 : Cond.methodLink RL 99 yX11_factor ∈ lwW := lwW_at 781 (by decide +kernel) rfl
theorem mw_782 : Cond.instanceMethod yX11_factor ∈ lwW := lwW_at 782 (by decide +kernel) rfl
theorem mw_783 : Cond.selects RX11 yX11_factor yX11_factor ∈ lwW := lwW_at 783 (by decide +kernel) rfl
theorem mw_784 : Cond.code yX11_factor cX11_factor 4 (some .int) ∈ lwW := lwW_at 784 (by decide +kernel) rfl
theorem mw_790 : Cond.methodLink RL 103 yX11_prime ∈ lwW := lwW_at 790 (by decide +kernel) rfl
theorem mw_791 : Cond.instanceMethod yX11_prime ∈ lwW := lwW_at 791 (by decide +kernel) rfl
theorem mw_792 : Cond.selects RX11 yX11_prime yX11_prime ∈ lwW := lwW_at 792 (by decide +kernel) rfl
theorem mw_793 : Cond.code yX11_prime cX11_prime 5 (some .int) ∈ lwW := lwW_at 793 (by decide +kernel) rfl
theorem mw_797 : Cond.methodLink RL 107 yX11_list ∈ lwW := lwW_at 797 (by decide +kernel) rfl
theorem mw_798 : Cond.instanceMethod yX11_list ∈ lwW := lwW_at 798 (by decide +kernel) rfl
theorem mw_799 : Cond.selects RX11 yX11_list yX11_list ∈ lwW := lwW_at 799 (by decide +kernel) rfl
theorem mw_800 : Cond.code yX11_list cX11_list 5 (some .int) ∈ lwW := lwW_at 800 (by decide +kernel) rfl
theorem mw_802 : Cond.methodLink RL 111 yX11_squares ∈ lwW := lwW_at 802 (by decide +kernel) rfl
theorem mw_803 : Cond.instanceMethod yX11_squares ∈ lwW := lwW_at 803 (by decide +kernel) rfl
theorem mw_804 : Cond.selects RX11 yX11_squares yX11_squares ∈ lwW := lwW_at 804 (by decide +kernel) rfl
theorem mw_805 : Cond.code yX11_squares cX11_squares 4 (some .int) ∈ lwW := lwW_at 805 (by decide +kernel) rfl
theorem mw_827 : Cond.methodLink RL 115 yX11_turned ∈ lwW := lwW_at 827 (by decide +kernel) rfl
theorem mw_828 : Cond.instanceMethod yX11_turned ∈ lwW := lwW_at 828 (by decide +kernel) rfl
theorem mw_829 : Cond.selects RX11 yX11_turned yX11_turned ∈ lwW := lwW_at 829 (by decide +kernel) rfl
theorem mw_830 : Cond.code yX11_turned cX11_turned 4 (some .int) ∈ lwW := lwW_at 830 (by decide +kernel) rfl
theorem mw_832 : Cond.methodLink RL 119 yX11_rank ∈ lwW := lwW_at 832 (by decide +kernel) rfl
theorem mw_833 : Cond.instanceMethod yX11_rank ∈ lwW := lwW_at 833 (by decide +kernel) rfl
theorem mw_834 : Cond.selects RX11 yX11_rank yX11_rank ∈ lwW := lwW_at 834 (by decide +kernel) rfl
theorem mw_835 : Cond.code yX11_rank cX11_rank 3 (some .int) ∈ lwW := lwW_at 835 (by decide +kernel) rfl
theorem mw_845 : Cond.methodLink RL 123 yX11_tally ∈ lwW := lwW_at 845 (by decide +kernel) rfl
theorem mw_846 : Cond.instanceMethod yX11_tally ∈ lwW := lwW_at 846 (by decide +kernel) rfl
theorem mw_847 : Cond.selects RX11 yX11_tally yX11_tally ∈ lwW := lwW_at 847 (by decide +kernel) rfl
theorem mw_848 : Cond.code yX11_tally cX11_tally 3 (some .int) ∈ lwW := lwW_at 848 (by decide +kernel) rfl
theorem mw_860 : Cond.methodLink RL 127 yX11_load ∈ lwW := lwW_at 860 (by decide +kernel) rfl
theorem mw_861 : Cond.instanceMethod yX11_load ∈ lwW := lwW_at 861 (by decide +kernel) rfl
theorem mw_862 : Cond.selects RX11 yX11_load yX11_load ∈ lwW := lwW_at 862 (by decide +kernel) rfl
theorem mw_863 : Cond.code yX11_load cX11_load 6 (some .int) ∈ lwW := lwW_at 863 (by decide +kernel) rfl
theorem mw_876 : Cond.methodLink RL 131 yX11_work ∈ lwW := lwW_at 876 (by decide +kernel) rfl
theorem mw_877 : Cond.instanceMethod yX11_work ∈ lwW := lwW_at 877 (by decide +kernel) rfl
theorem mw_878 : Cond.selects RX11 yX11_work yX11_work ∈ lwW := lwW_at 878 (by decide +kernel) rfl
theorem mw_879 : Cond.code yX11_work cX11_work 9 (some .int) ∈ lwW := lwW_at 879 (by decide +kernel) rfl
theorem mw_887 : Cond.methodLink RL 135 yX11_latest ∈ lwW := lwW_at 887 (by decide +kernel) rfl
theorem mw_888 : Cond.instanceMethod yX11_latest ∈ lwW := lwW_at 888 (by decide +kernel) rfl
theorem mw_889 : Cond.selects RX11 yX11_latest yX11_latest ∈ lwW := lwW_at 889 (by decide +kernel) rfl
theorem mw_890 : Cond.code yX11_latest cX11_latest 1 (some .int) ∈ lwW := lwW_at 890 (by decide +kernel) rfl
theorem mw_891 : Cond.methodLink RL 139 yX11_drop ∈ lwW := lwW_at 891 (by decide +kernel) rfl
theorem mw_892 : Cond.instanceMethod yX11_drop ∈ lwW := lwW_at 892 (by decide +kernel) rfl
theorem mw_893 : Cond.selects RX11 yX11_drop yX11_drop ∈ lwW := lwW_at 893 (by decide +kernel) rfl
theorem mw_894 : Cond.code yX11_drop cX11_drop 3 (some .int) ∈ lwW := lwW_at 894 (by decide +kernel) rfl
theorem mw_899 : Cond.methodLink RL 143 yX11_count ∈ lwW := lwW_at 899 (by decide +kernel) rfl
theorem mw_900 : Cond.instanceMethod yX11_count ∈ lwW := lwW_at 900 (by decide +kernel) rfl
theorem mw_901 : Cond.selects RX11 yX11_count yX11_count ∈ lwW := lwW_at 901 (by decide +kernel) rfl
theorem mw_902 : Cond.code yX11_count cX11_count 2 (some .int) ∈ lwW := lwW_at 902 (by decide +kernel) rfl
set_option maxHeartbeats 4000000 in
set_option maxRecDepth 100000 in
theorem lc_0 {p : Program} {l : Launch} {e : Env} {s : State} {m : MethodId} {below : List Frame} {meth : Method} {c : Code} {D : va_G} {G G2 : xG} {ub : xB} {b L : Nat} {xs : Nat → Int32} {St : QMem → QMem → Prop} (C0 : lw_At p s m meth c b L xs) (F : lwF D G G2 ub s) (hL : L ≤ 3072) (hA : ∀ (σ μ : QMem) (a1 : Int32), St σ μ → ∃ (r : Int32) (σ2 μ2 : QMem), fX11_write a1 σ = some (r, σ2) ∧ fX12_write a1 μ = some (r, μ2) ∧ St σ2 μ2) (i : Nat) (hi : i + 6 ≤ L) (σ μ : QMem) (hSt : St σ μ) (H : Heap) (locs : List Loc) (ls : Array Slot) (hP : va_P D vwCl (xW G σ) H) (hM : va_P D vwCl (mW G2 μ) H) (hS : va_S (fun q : Nat => s.heap.size ≤ q) s.heap H locs) (hl : lv_has ls 4 [(0, .ref b), (1, .ref (G.1 105)), (2, .ref (G2.1 28)), (3, .int (nI i))]) (kk : ∀ (σ μ : QMem) (H : Heap) (locs : List Loc) (ls : Array Slot), St σ μ → va_P D vwCl (xW G σ) H → va_P D vwCl (mW G2 μ) H → va_S (fun q : Nat => s.heap.size ≤ q) s.heap H locs → lv_has ls 4 [(0, .ref b), (1, .ref (G.1 105)), (2, .ref (G2.1 28)), (3, .int (nI i))] → W p l e room_1 s m #[Value.ref b] below meth c H locs 600000 7302250 (lw_Z below #[Value.ref b] s) (F0 m 1302 ls [])) : W p l e room_1 s m #[Value.ref b] below meth c H locs 600000 7302250 (lw_Z below #[Value.ref b] s) (F0 m 176 ls []) := by
  obtain ⟨hx, hb, hr, hml, hown, hts0, hX, hbl, hlocks, hgv⟩ := C0
  have hts : ∀ w ∈ lwW, w.before #[Value.ref b] s = true := fun w hw => hts0 w (lwW_ok hw)
  have hbA : ¬ (fun q : Nat => s.heap.size ≤ q) b := Nat.not_le.mpr hbl
  obtain ⟨r, σ2, μ2, e1, e2, hSt2⟩ := hA σ μ (xs (nI i + nI 1).toNatClampNeg) hSt
  refine lv_aload_n hx hb dL_law_176 rfl (lv_at hl 1 rfl) ?_
  refine lv_aload_n hx hb dL_law_177 rfl (lv_at hl 0 rfl) ?_
  refine lv_iload_n hx hb dL_law_178 rfl (lv_at hl 3 rfl) ?_
  refine lv_iconst (v := nI 1) hx hb dL_law_179 (by decide) ?_
  refine lv_iadd hx hb dL_law_180 ?_
  refine va_sld hx hb hX hbl hbA hS (lvin (by omega) hL) dL_law_181 ?_
  refine va_calli (va_runV (As := [.int (xs (nI i + nI 1).toNatClampNeg)]) (rest := []) ⟨hx, hb, hml, hown, hts⟩ (kX11_write l D G ub σ (xs (nI i + nI 1).toNatClampNeg) (r, σ2) e1) (cwV 1 hts (lwW_gV mw_322 mw_323 mw_324 mw_1 mw_325) rfl rfl rfl (by decide +kernel) ⟨Nat.le_of_ble_eq_true rfl, Nat.le_of_ble_eq_true rfl⟩) ⟨fun a U g mk q => ⟨q.1, xPre_call q.2⟩, va_recv F.1 hP rfl (xg_7 (k := 105) rfl), fun U hU hW => ⟨rfl, xPre_law F hS hP hU hW⟩⟩ rfl rfl hl.1 rfl (lv_room (Nat.le_of_ble_eq_true rfl)) dL_law_182 ⟨Nat.le_refl _, Nat.le_refl _⟩) hS (fun q _ h => lwF_x F h) (fun q h => lwF_x F h) (fun r1 u t H1 locs ht hvm hw hB hz1 hq1 hS => ?_)
  obtain ⟨hw1, hw2⟩ := hw
  obtain rfl : r1 = r := hw1
  obtain rfl : u = σ2 := hw2
  have hP := hB.1
  rw [ht] at hP
  have hM := m_frame F hM hq1
  refine W.widen (k := 600000) (n := 7302250) (Nat.le_refl _) (Nat.le_refl _) ?_
  refine lv_aload_n hx hb dL_law_185 rfl (lv_at hl 2 rfl) ?_
  refine lv_aload_n hx hb dL_law_186 rfl (lv_at hl 0 rfl) ?_
  refine lv_iload_n hx hb dL_law_187 rfl (lv_at hl 3 rfl) ?_
  refine lv_iconst (v := nI 1) hx hb dL_law_188 (by decide) ?_
  refine lv_iadd hx hb dL_law_189 ?_
  refine va_sld hx hb hX hbl hbA hS (lvin (by omega) hL) dL_law_190 ?_
  refine va_calli (va_runV (As := [.int (xs (nI i + nI 1).toNatClampNeg)]) (rest := [.int r1]) ⟨hx, hb, hml, hown, hts⟩ (kX12_write l D G2 μ (xs (nI i + nI 1).toNatClampNeg) (r1, μ2) e2) (cwV 1 hts (lwW_gV mw_1241 mw_1242 mw_1243 mw_14 mw_1244) rfl rfl rfl (by decide +kernel) ⟨Nat.le_of_ble_eq_true rfl, Nat.le_of_ble_eq_true rfl⟩) ⟨fun a U g mk q => ⟨q.1, mPre_call q.2⟩, va_recv F.1 hM rfl (mg_2 (k := 28) rfl), fun U hU hW => ⟨rfl, mPre_law F hM hU hW⟩⟩ rfl rfl hl.1 rfl (lv_room (Nat.le_of_ble_eq_true rfl)) dL_law_191 ⟨Nat.le_refl _, Nat.le_refl _⟩) hS (fun q _ h => lwF_m F h) (fun q h => lwF_m F h) (fun r3 u3 t H2 locs ht hvm hw hB hz1 hq1 hS => ?_)
  obtain ⟨hw1, hw2⟩ := hw
  obtain rfl : r3 = r1 := hw1
  obtain rfl : u3 = μ2 := hw2
  have hM := hB.1
  rw [ht] at hM
  have hP := x_frame F hP hq1
  refine W.widen (k := 600000) (n := 7302250) (Nat.le_refl _) (Nat.le_refl _) ?_
  exact lv_icmp_eq (tgt := 1302) hx hb dL_law_194 (by decide) (fun _ => kk _ _ _ _ _ hSt2 hP hM hS hl) (fun hc => absurd rfl hc)
set_option maxHeartbeats 4000000 in
set_option maxRecDepth 100000 in
theorem lc_1 {p : Program} {l : Launch} {e : Env} {s : State} {m : MethodId} {below : List Frame} {meth : Method} {c : Code} {D : va_G} {G G2 : xG} {ub : xB} {b L : Nat} {xs : Nat → Int32} {St : QMem → QMem → Prop} (C0 : lw_At p s m meth c b L xs) (F : lwF D G G2 ub s) (hL : L ≤ 3072) (hA : ∀ (σ μ : QMem), St σ μ → ∃ (r : Int32) (σ2 μ2 : QMem), fX11_erase σ = some (r, σ2) ∧ fX12_erase μ = some (r, μ2) ∧ St σ2 μ2) (i : Nat) (hi : i + 6 ≤ L) (σ μ : QMem) (hSt : St σ μ) (H : Heap) (locs : List Loc) (ls : Array Slot) (hP : va_P D vwCl (xW G σ) H) (hM : va_P D vwCl (mW G2 μ) H) (hS : va_S (fun q : Nat => s.heap.size ≤ q) s.heap H locs) (hl : lv_has ls 4 [(0, .ref b), (1, .ref (G.1 105)), (2, .ref (G2.1 28)), (3, .int (nI i))]) (kk : ∀ (σ μ : QMem) (H : Heap) (locs : List Loc) (ls : Array Slot), St σ μ → va_P D vwCl (xW G σ) H → va_P D vwCl (mW G2 μ) H → va_S (fun q : Nat => s.heap.size ≤ q) s.heap H locs → lv_has ls 4 [(0, .ref b), (1, .ref (G.1 105)), (2, .ref (G2.1 28)), (3, .int (nI i))] → W p l e room_1 s m #[Value.ref b] below meth c H locs 600000 7302250 (lw_Z below #[Value.ref b] s) (F0 m 1302 ls [])) : W p l e room_1 s m #[Value.ref b] below meth c H locs 600000 7302250 (lw_Z below #[Value.ref b] s) (F0 m 199 ls []) := by
  obtain ⟨hx, hb, hr, hml, hown, hts0, hX, hbl, hlocks, hgv⟩ := C0
  have hts : ∀ w ∈ lwW, w.before #[Value.ref b] s = true := fun w hw => hts0 w (lwW_ok hw)
  have hbA : ¬ (fun q : Nat => s.heap.size ≤ q) b := Nat.not_le.mpr hbl
  obtain ⟨r, σ2, μ2, e1, e2, hSt2⟩ := hA σ μ hSt
  refine lv_aload_n hx hb dL_law_199 rfl (lv_at hl 1 rfl) ?_
  refine va_calli (va_runV (As := []) (rest := []) ⟨hx, hb, hml, hown, hts⟩ (kX11_erase l D G ub σ (r, σ2) e1) (cwV 0 hts (lwW_gV mw_338 mw_339 mw_340 mw_1 mw_341) rfl rfl rfl (by decide +kernel) ⟨Nat.le_of_ble_eq_true rfl, Nat.le_of_ble_eq_true rfl⟩) ⟨fun a U g mk q => ⟨q.1, xPre_call q.2⟩, va_recv F.1 hP rfl (xg_7 (k := 105) rfl), fun U hU hW => ⟨rfl, xPre_law F hS hP hU hW⟩⟩ rfl rfl hl.1 rfl (lv_room (Nat.le_of_ble_eq_true rfl)) dL_law_200 ⟨Nat.le_refl _, Nat.le_refl _⟩) hS (fun q _ h => lwF_x F h) (fun q h => lwF_x F h) (fun r1 u t H1 locs ht hvm hw hB hz1 hq1 hS => ?_)
  obtain ⟨hw1, hw2⟩ := hw
  obtain rfl : r1 = r := hw1
  obtain rfl : u = σ2 := hw2
  have hP := hB.1
  rw [ht] at hP
  have hM := m_frame F hM hq1
  refine W.widen (k := 600000) (n := 7302250) (Nat.le_refl _) (Nat.le_refl _) ?_
  refine lv_aload_n hx hb dL_law_203 rfl (lv_at hl 2 rfl) ?_
  refine va_calli (va_runV (As := []) (rest := [.int r1]) ⟨hx, hb, hml, hown, hts⟩ (kX12_erase l D G2 μ (r1, μ2) e2) (cwV 0 hts (lwW_gV mw_1245 mw_1246 mw_1247 mw_14 mw_1248) rfl rfl rfl (by decide +kernel) ⟨Nat.le_of_ble_eq_true rfl, Nat.le_of_ble_eq_true rfl⟩) ⟨fun a U g mk q => ⟨q.1, mPre_call q.2⟩, va_recv F.1 hM rfl (mg_2 (k := 28) rfl), fun U hU hW => ⟨rfl, mPre_law F hM hU hW⟩⟩ rfl rfl hl.1 rfl (lv_room (Nat.le_of_ble_eq_true rfl)) dL_law_204 ⟨Nat.le_refl _, Nat.le_refl _⟩) hS (fun q _ h => lwF_m F h) (fun q h => lwF_m F h) (fun r3 u3 t H2 locs ht hvm hw hB hz1 hq1 hS => ?_)
  obtain ⟨hw1, hw2⟩ := hw
  obtain rfl : r3 = r1 := hw1
  obtain rfl : u3 = μ2 := hw2
  have hM := hB.1
  rw [ht] at hM
  have hP := x_frame F hP hq1
  refine W.widen (k := 600000) (n := 7302250) (Nat.le_refl _) (Nat.le_refl _) ?_
  exact lv_icmp_eq (tgt := 1302) hx hb dL_law_207 (by decide) (fun _ => kk _ _ _ _ _ hSt2 hP hM hS hl) (fun hc => absurd rfl hc)
set_option maxHeartbeats 4000000 in
set_option maxRecDepth 100000 in
theorem lc_2 {p : Program} {l : Launch} {e : Env} {s : State} {m : MethodId} {below : List Frame} {meth : Method} {c : Code} {D : va_G} {G G2 : xG} {ub : xB} {b L : Nat} {xs : Nat → Int32} {St : QMem → QMem → Prop} (C0 : lw_At p s m meth c b L xs) (F : lwF D G G2 ub s) (hL : L ≤ 3072) (hA : ∀ (σ μ : QMem), St σ μ → ∃ (r : Int32) (σ2 μ2 : QMem), fX11_fault σ = some (r, σ2) ∧ fX12_fault μ = some (r, μ2) ∧ St σ2 μ2) (i : Nat) (hi : i + 6 ≤ L) (σ μ : QMem) (hSt : St σ μ) (H : Heap) (locs : List Loc) (ls : Array Slot) (hP : va_P D vwCl (xW G σ) H) (hM : va_P D vwCl (mW G2 μ) H) (hS : va_S (fun q : Nat => s.heap.size ≤ q) s.heap H locs) (hl : lv_has ls 4 [(0, .ref b), (1, .ref (G.1 105)), (2, .ref (G2.1 28)), (3, .int (nI i))]) (kk : ∀ (σ μ : QMem) (H : Heap) (locs : List Loc) (ls : Array Slot), St σ μ → va_P D vwCl (xW G σ) H → va_P D vwCl (mW G2 μ) H → va_S (fun q : Nat => s.heap.size ≤ q) s.heap H locs → lv_has ls 4 [(0, .ref b), (1, .ref (G.1 105)), (2, .ref (G2.1 28)), (3, .int (nI i))] → W p l e room_1 s m #[Value.ref b] below meth c H locs 600000 7302250 (lw_Z below #[Value.ref b] s) (F0 m 1302 ls [])) : W p l e room_1 s m #[Value.ref b] below meth c H locs 600000 7302250 (lw_Z below #[Value.ref b] s) (F0 m 212 ls []) := by
  obtain ⟨hx, hb, hr, hml, hown, hts0, hX, hbl, hlocks, hgv⟩ := C0
  have hts : ∀ w ∈ lwW, w.before #[Value.ref b] s = true := fun w hw => hts0 w (lwW_ok hw)
  have hbA : ¬ (fun q : Nat => s.heap.size ≤ q) b := Nat.not_le.mpr hbl
  obtain ⟨r, σ2, μ2, e1, e2, hSt2⟩ := hA σ μ hSt
  refine lv_aload_n hx hb dL_law_212 rfl (lv_at hl 1 rfl) ?_
  refine va_calli (va_runV (As := []) (rest := []) ⟨hx, hb, hml, hown, hts⟩ (kX11_fault l D G ub σ (r, σ2) e1) (cwV 0 hts (lwW_gV mw_346 mw_347 mw_348 mw_1 mw_349) rfl rfl rfl (by decide +kernel) ⟨Nat.le_of_ble_eq_true rfl, Nat.le_of_ble_eq_true rfl⟩) ⟨fun a U g mk q => ⟨q.1, xPre_call q.2⟩, va_recv F.1 hP rfl (xg_7 (k := 105) rfl), fun U hU hW => ⟨rfl, xPre_law F hS hP hU hW⟩⟩ rfl rfl hl.1 rfl (lv_room (Nat.le_of_ble_eq_true rfl)) dL_law_213 ⟨Nat.le_refl _, Nat.le_refl _⟩) hS (fun q _ h => lwF_x F h) (fun q h => lwF_x F h) (fun r1 u t H1 locs ht hvm hw hB hz1 hq1 hS => ?_)
  obtain ⟨hw1, hw2⟩ := hw
  obtain rfl : r1 = r := hw1
  obtain rfl : u = σ2 := hw2
  have hP := hB.1
  rw [ht] at hP
  have hM := m_frame F hM hq1
  refine W.widen (k := 600000) (n := 7302250) (Nat.le_refl _) (Nat.le_refl _) ?_
  refine lv_aload_n hx hb dL_law_216 rfl (lv_at hl 2 rfl) ?_
  refine va_calli (va_runV (As := []) (rest := [.int r1]) ⟨hx, hb, hml, hown, hts⟩ (kX12_fault l D G2 μ (r1, μ2) e2) (cwV 0 hts (lwW_gV mw_1249 mw_1250 mw_1251 mw_14 mw_1252) rfl rfl rfl (by decide +kernel) ⟨Nat.le_of_ble_eq_true rfl, Nat.le_of_ble_eq_true rfl⟩) ⟨fun a U g mk q => ⟨q.1, mPre_call q.2⟩, va_recv F.1 hM rfl (mg_2 (k := 28) rfl), fun U hU hW => ⟨rfl, mPre_law F hM hU hW⟩⟩ rfl rfl hl.1 rfl (lv_room (Nat.le_of_ble_eq_true rfl)) dL_law_217 ⟨Nat.le_refl _, Nat.le_refl _⟩) hS (fun q _ h => lwF_m F h) (fun q h => lwF_m F h) (fun r3 u3 t H2 locs ht hvm hw hB hz1 hq1 hS => ?_)
  obtain ⟨hw1, hw2⟩ := hw
  obtain rfl : r3 = r1 := hw1
  obtain rfl : u3 = μ2 := hw2
  have hM := hB.1
  rw [ht] at hM
  have hP := x_frame F hP hq1
  refine W.widen (k := 600000) (n := 7302250) (Nat.le_refl _) (Nat.le_refl _) ?_
  exact lv_icmp_eq (tgt := 1302) hx hb dL_law_220 (by decide) (fun _ => kk _ _ _ _ _ hSt2 hP hM hS hl) (fun hc => absurd rfl hc)
set_option maxHeartbeats 4000000 in
set_option maxRecDepth 100000 in
theorem lc_3 {p : Program} {l : Launch} {e : Env} {s : State} {m : MethodId} {below : List Frame} {meth : Method} {c : Code} {D : va_G} {G G2 : xG} {ub : xB} {b L : Nat} {xs : Nat → Int32} {St : QMem → QMem → Prop} (C0 : lw_At p s m meth c b L xs) (F : lwF D G G2 ub s) (hL : L ≤ 3072) (hA : ∀ (σ μ : QMem), St σ μ → ∃ (r : Int32) (σ2 μ2 : QMem), fX11_desk σ = some (r, σ2) ∧ fX12_desk μ = some (r, μ2) ∧ St σ2 μ2) (i : Nat) (hi : i + 6 ≤ L) (σ μ : QMem) (hSt : St σ μ) (H : Heap) (locs : List Loc) (ls : Array Slot) (hP : va_P D vwCl (xW G σ) H) (hM : va_P D vwCl (mW G2 μ) H) (hS : va_S (fun q : Nat => s.heap.size ≤ q) s.heap H locs) (hl : lv_has ls 4 [(0, .ref b), (1, .ref (G.1 105)), (2, .ref (G2.1 28)), (3, .int (nI i))]) (kk : ∀ (σ μ : QMem) (H : Heap) (locs : List Loc) (ls : Array Slot), St σ μ → va_P D vwCl (xW G σ) H → va_P D vwCl (mW G2 μ) H → va_S (fun q : Nat => s.heap.size ≤ q) s.heap H locs → lv_has ls 4 [(0, .ref b), (1, .ref (G.1 105)), (2, .ref (G2.1 28)), (3, .int (nI i))] → W p l e room_1 s m #[Value.ref b] below meth c H locs 600000 7302250 (lw_Z below #[Value.ref b] s) (F0 m 1302 ls [])) : W p l e room_1 s m #[Value.ref b] below meth c H locs 600000 7302250 (lw_Z below #[Value.ref b] s) (F0 m 225 ls []) := by
  obtain ⟨hx, hb, hr, hml, hown, hts0, hX, hbl, hlocks, hgv⟩ := C0
  have hts : ∀ w ∈ lwW, w.before #[Value.ref b] s = true := fun w hw => hts0 w (lwW_ok hw)
  have hbA : ¬ (fun q : Nat => s.heap.size ≤ q) b := Nat.not_le.mpr hbl
  obtain ⟨r, σ2, μ2, e1, e2, hSt2⟩ := hA σ μ hSt
  refine lv_aload_n hx hb dL_law_225 rfl (lv_at hl 1 rfl) ?_
  refine va_calli (va_runV (As := []) (rest := []) ⟨hx, hb, hml, hown, hts⟩ (kX11_desk l D G ub σ (r, σ2) e1) (cwV 0 hts (lwW_gV mw_447 mw_448 mw_449 mw_1 mw_450) rfl rfl rfl (by decide +kernel) ⟨Nat.le_of_ble_eq_true rfl, Nat.le_of_ble_eq_true rfl⟩) ⟨fun a U g mk q => ⟨q.1, xPre_call q.2⟩, va_recv F.1 hP rfl (xg_7 (k := 105) rfl), fun U hU hW => ⟨rfl, xPre_law F hS hP hU hW⟩⟩ rfl rfl hl.1 rfl (lv_room (Nat.le_of_ble_eq_true rfl)) dL_law_226 ⟨Nat.le_refl _, Nat.le_refl _⟩) hS (fun q _ h => lwF_x F h) (fun q h => lwF_x F h) (fun r1 u t H1 locs ht hvm hw hB hz1 hq1 hS => ?_)
  obtain ⟨hw1, hw2⟩ := hw
  obtain rfl : r1 = r := hw1
  obtain rfl : u = σ2 := hw2
  have hP := hB.1
  rw [ht] at hP
  have hM := m_frame F hM hq1
  refine W.widen (k := 600000) (n := 7302250) (Nat.le_refl _) (Nat.le_refl _) ?_
  refine lv_aload_n hx hb dL_law_229 rfl (lv_at hl 2 rfl) ?_
  refine va_calli (va_runV (As := []) (rest := [.int r1]) ⟨hx, hb, hml, hown, hts⟩ (kX12_desk l D G2 μ (r1, μ2) e2) (cwV 0 hts (lwW_gV mw_1293 mw_1294 mw_1295 mw_14 mw_1296) rfl rfl rfl (by decide +kernel) ⟨Nat.le_of_ble_eq_true rfl, Nat.le_of_ble_eq_true rfl⟩) ⟨fun a U g mk q => ⟨q.1, mPre_call q.2⟩, va_recv F.1 hM rfl (mg_2 (k := 28) rfl), fun U hU hW => ⟨rfl, mPre_law F hM hU hW⟩⟩ rfl rfl hl.1 rfl (lv_room (Nat.le_of_ble_eq_true rfl)) dL_law_230 ⟨Nat.le_refl _, Nat.le_refl _⟩) hS (fun q _ h => lwF_m F h) (fun q h => lwF_m F h) (fun r3 u3 t H2 locs ht hvm hw hB hz1 hq1 hS => ?_)
  obtain ⟨hw1, hw2⟩ := hw
  obtain rfl : r3 = r1 := hw1
  obtain rfl : u3 = μ2 := hw2
  have hM := hB.1
  rw [ht] at hM
  have hP := x_frame F hP hq1
  refine W.widen (k := 600000) (n := 7302250) (Nat.le_refl _) (Nat.le_refl _) ?_
  exact lv_icmp_eq (tgt := 1302) hx hb dL_law_233 (by decide) (fun _ => kk _ _ _ _ _ hSt2 hP hM hS hl) (fun hc => absurd rfl hc)
set_option maxHeartbeats 4000000 in
set_option maxRecDepth 100000 in
theorem lc_4 {p : Program} {l : Launch} {e : Env} {s : State} {m : MethodId} {below : List Frame} {meth : Method} {c : Code} {D : va_G} {G G2 : xG} {ub : xB} {b L : Nat} {xs : Nat → Int32} {St : QMem → QMem → Prop} (C0 : lw_At p s m meth c b L xs) (F : lwF D G G2 ub s) (hL : L ≤ 3072) (hA : ∀ (σ μ : QMem) (a1 : Int32) (a2 : Int32), St σ μ → ∃ (r : Int32) (σ2 μ2 : QMem), fX11_number a1 a2 σ = some (r, σ2) ∧ fX12_number a1 a2 μ = some (r, μ2) ∧ St σ2 μ2) (i : Nat) (hi : i + 6 ≤ L) (σ μ : QMem) (hSt : St σ μ) (H : Heap) (locs : List Loc) (ls : Array Slot) (hP : va_P D vwCl (xW G σ) H) (hM : va_P D vwCl (mW G2 μ) H) (hS : va_S (fun q : Nat => s.heap.size ≤ q) s.heap H locs) (hl : lv_has ls 4 [(0, .ref b), (1, .ref (G.1 105)), (2, .ref (G2.1 28)), (3, .int (nI i))]) (kk : ∀ (σ μ : QMem) (H : Heap) (locs : List Loc) (ls : Array Slot), St σ μ → va_P D vwCl (xW G σ) H → va_P D vwCl (mW G2 μ) H → va_S (fun q : Nat => s.heap.size ≤ q) s.heap H locs → lv_has ls 4 [(0, .ref b), (1, .ref (G.1 105)), (2, .ref (G2.1 28)), (3, .int (nI i))] → W p l e room_1 s m #[Value.ref b] below meth c H locs 600000 7302250 (lw_Z below #[Value.ref b] s) (F0 m 1302 ls [])) : W p l e room_1 s m #[Value.ref b] below meth c H locs 600000 7302250 (lw_Z below #[Value.ref b] s) (F0 m 238 ls []) := by
  obtain ⟨hx, hb, hr, hml, hown, hts0, hX, hbl, hlocks, hgv⟩ := C0
  have hts : ∀ w ∈ lwW, w.before #[Value.ref b] s = true := fun w hw => hts0 w (lwW_ok hw)
  have hbA : ¬ (fun q : Nat => s.heap.size ≤ q) b := Nat.not_le.mpr hbl
  obtain ⟨r, σ2, μ2, e1, e2, hSt2⟩ := hA σ μ (xs (nI i + nI 1).toNatClampNeg) (xs (nI i + nI 2).toNatClampNeg) hSt
  refine lv_aload_n hx hb dL_law_238 rfl (lv_at hl 1 rfl) ?_
  refine lv_aload_n hx hb dL_law_239 rfl (lv_at hl 0 rfl) ?_
  refine lv_iload_n hx hb dL_law_240 rfl (lv_at hl 3 rfl) ?_
  refine lv_iconst (v := nI 1) hx hb dL_law_241 (by decide) ?_
  refine lv_iadd hx hb dL_law_242 ?_
  refine va_sld hx hb hX hbl hbA hS (lvin (by omega) hL) dL_law_243 ?_
  refine lv_aload_n hx hb dL_law_244 rfl (lv_at hl 0 rfl) ?_
  refine lv_iload_n hx hb dL_law_245 rfl (lv_at hl 3 rfl) ?_
  refine lv_iconst (v := nI 2) hx hb dL_law_246 (by decide) ?_
  refine lv_iadd hx hb dL_law_247 ?_
  refine va_sld hx hb hX hbl hbA hS (lvin (by omega) hL) dL_law_248 ?_
  refine va_calli (va_runV (As := [.int (xs (nI i + nI 1).toNatClampNeg), .int (xs (nI i + nI 2).toNatClampNeg)]) (rest := []) ⟨hx, hb, hml, hown, hts⟩ (kX11_number l D G ub σ (xs (nI i + nI 1).toNatClampNeg) (xs (nI i + nI 2).toNatClampNeg) (r, σ2) e1) (cwV 2 hts (lwW_gV mw_496 mw_497 mw_498 mw_1 mw_499) rfl rfl rfl (by decide +kernel) ⟨Nat.le_of_ble_eq_true rfl, Nat.le_of_ble_eq_true rfl⟩) ⟨fun a U g mk q => ⟨q.1, xPre_call q.2⟩, va_recv F.1 hP rfl (xg_7 (k := 105) rfl), fun U hU hW => ⟨rfl, xPre_law F hS hP hU hW⟩⟩ rfl rfl hl.1 rfl (lv_room (Nat.le_of_ble_eq_true rfl)) dL_law_249 ⟨Nat.le_refl _, Nat.le_refl _⟩) hS (fun q _ h => lwF_x F h) (fun q h => lwF_x F h) (fun r1 u t H1 locs ht hvm hw hB hz1 hq1 hS => ?_)
  obtain ⟨hw1, hw2⟩ := hw
  obtain rfl : r1 = r := hw1
  obtain rfl : u = σ2 := hw2
  have hP := hB.1
  rw [ht] at hP
  have hM := m_frame F hM hq1
  refine W.widen (k := 600000) (n := 7302250) (Nat.le_refl _) (Nat.le_refl _) ?_
  refine lv_aload_n hx hb dL_law_252 rfl (lv_at hl 2 rfl) ?_
  refine lv_aload_n hx hb dL_law_253 rfl (lv_at hl 0 rfl) ?_
  refine lv_iload_n hx hb dL_law_254 rfl (lv_at hl 3 rfl) ?_
  refine lv_iconst (v := nI 1) hx hb dL_law_255 (by decide) ?_
  refine lv_iadd hx hb dL_law_256 ?_
  refine va_sld hx hb hX hbl hbA hS (lvin (by omega) hL) dL_law_257 ?_
  refine lv_aload_n hx hb dL_law_258 rfl (lv_at hl 0 rfl) ?_
  refine lv_iload_n hx hb dL_law_259 rfl (lv_at hl 3 rfl) ?_
  refine lv_iconst (v := nI 2) hx hb dL_law_260 (by decide) ?_
  refine lv_iadd hx hb dL_law_261 ?_
  refine va_sld hx hb hX hbl hbA hS (lvin (by omega) hL) dL_law_262 ?_
  refine va_calli (va_runV (As := [.int (xs (nI i + nI 1).toNatClampNeg), .int (xs (nI i + nI 2).toNatClampNeg)]) (rest := [.int r1]) ⟨hx, hb, hml, hown, hts⟩ (kX12_number l D G2 μ (xs (nI i + nI 1).toNatClampNeg) (xs (nI i + nI 2).toNatClampNeg) (r1, μ2) e2) (cwV 2 hts (lwW_gV mw_1062 mw_1063 mw_1064 mw_14 mw_1065) rfl rfl rfl (by decide +kernel) ⟨Nat.le_of_ble_eq_true rfl, Nat.le_of_ble_eq_true rfl⟩) ⟨fun a U g mk q => ⟨q.1, mPre_call q.2⟩, va_recv F.1 hM rfl (mg_2 (k := 28) rfl), fun U hU hW => ⟨rfl, mPre_law F hM hU hW⟩⟩ rfl rfl hl.1 rfl (lv_room (Nat.le_of_ble_eq_true rfl)) dL_law_263 ⟨Nat.le_refl _, Nat.le_refl _⟩) hS (fun q _ h => lwF_m F h) (fun q h => lwF_m F h) (fun r3 u3 t H2 locs ht hvm hw hB hz1 hq1 hS => ?_)
  obtain ⟨hw1, hw2⟩ := hw
  obtain rfl : r3 = r1 := hw1
  obtain rfl : u3 = μ2 := hw2
  have hM := hB.1
  rw [ht] at hM
  have hP := x_frame F hP hq1
  refine W.widen (k := 600000) (n := 7302250) (Nat.le_refl _) (Nat.le_refl _) ?_
  exact lv_icmp_eq (tgt := 1302) hx hb dL_law_266 (by decide) (fun _ => kk _ _ _ _ _ hSt2 hP hM hS hl) (fun hc => absurd rfl hc)
set_option maxHeartbeats 4000000 in
set_option maxRecDepth 100000 in
theorem lc_5 {p : Program} {l : Launch} {e : Env} {s : State} {m : MethodId} {below : List Frame} {meth : Method} {c : Code} {D : va_G} {G G2 : xG} {ub : xB} {b L : Nat} {xs : Nat → Int32} {St : QMem → QMem → Prop} (C0 : lw_At p s m meth c b L xs) (F : lwF D G G2 ub s) (hL : L ≤ 3072) (hA : ∀ (σ μ : QMem) (a1 : Int32) (a2 : Int32), St σ μ → ∃ (r : Int32) (σ2 μ2 : QMem), fX11_of a1 a2 σ = some (r, σ2) ∧ fX12_of a1 a2 μ = some (r, μ2) ∧ St σ2 μ2) (i : Nat) (hi : i + 6 ≤ L) (σ μ : QMem) (hSt : St σ μ) (H : Heap) (locs : List Loc) (ls : Array Slot) (hP : va_P D vwCl (xW G σ) H) (hM : va_P D vwCl (mW G2 μ) H) (hS : va_S (fun q : Nat => s.heap.size ≤ q) s.heap H locs) (hl : lv_has ls 4 [(0, .ref b), (1, .ref (G.1 105)), (2, .ref (G2.1 28)), (3, .int (nI i))]) (kk : ∀ (σ μ : QMem) (H : Heap) (locs : List Loc) (ls : Array Slot), St σ μ → va_P D vwCl (xW G σ) H → va_P D vwCl (mW G2 μ) H → va_S (fun q : Nat => s.heap.size ≤ q) s.heap H locs → lv_has ls 4 [(0, .ref b), (1, .ref (G.1 105)), (2, .ref (G2.1 28)), (3, .int (nI i))] → W p l e room_1 s m #[Value.ref b] below meth c H locs 600000 7302250 (lw_Z below #[Value.ref b] s) (F0 m 1302 ls [])) : W p l e room_1 s m #[Value.ref b] below meth c H locs 600000 7302250 (lw_Z below #[Value.ref b] s) (F0 m 271 ls []) := by
  obtain ⟨hx, hb, hr, hml, hown, hts0, hX, hbl, hlocks, hgv⟩ := C0
  have hts : ∀ w ∈ lwW, w.before #[Value.ref b] s = true := fun w hw => hts0 w (lwW_ok hw)
  have hbA : ¬ (fun q : Nat => s.heap.size ≤ q) b := Nat.not_le.mpr hbl
  obtain ⟨r, σ2, μ2, e1, e2, hSt2⟩ := hA σ μ (xs (nI i + nI 1).toNatClampNeg) (xs (nI i + nI 2).toNatClampNeg) hSt
  refine lv_aload_n hx hb dL_law_271 rfl (lv_at hl 1 rfl) ?_
  refine lv_aload_n hx hb dL_law_272 rfl (lv_at hl 0 rfl) ?_
  refine lv_iload_n hx hb dL_law_273 rfl (lv_at hl 3 rfl) ?_
  refine lv_iconst (v := nI 1) hx hb dL_law_274 (by decide) ?_
  refine lv_iadd hx hb dL_law_275 ?_
  refine va_sld hx hb hX hbl hbA hS (lvin (by omega) hL) dL_law_276 ?_
  refine lv_aload_n hx hb dL_law_277 rfl (lv_at hl 0 rfl) ?_
  refine lv_iload_n hx hb dL_law_278 rfl (lv_at hl 3 rfl) ?_
  refine lv_iconst (v := nI 2) hx hb dL_law_279 (by decide) ?_
  refine lv_iadd hx hb dL_law_280 ?_
  refine va_sld hx hb hX hbl hbA hS (lvin (by omega) hL) dL_law_281 ?_
  refine va_calli (va_runV (As := [.int (xs (nI i + nI 1).toNatClampNeg), .int (xs (nI i + nI 2).toNatClampNeg)]) (rest := []) ⟨hx, hb, hml, hown, hts⟩ (kX11_of l D G ub σ (xs (nI i + nI 1).toNatClampNeg) (xs (nI i + nI 2).toNatClampNeg) (r, σ2) e1) (cwV 2 hts (lwW_gV mw_507 mw_508 mw_509 mw_1 mw_510) rfl rfl rfl (by decide +kernel) ⟨Nat.le_of_ble_eq_true rfl, Nat.le_of_ble_eq_true rfl⟩) ⟨fun a U g mk q => ⟨q.1, xPre_call q.2⟩, va_recv F.1 hP rfl (xg_7 (k := 105) rfl), fun U hU hW => ⟨rfl, xPre_law F hS hP hU hW⟩⟩ rfl rfl hl.1 rfl (lv_room (Nat.le_of_ble_eq_true rfl)) dL_law_282 ⟨Nat.le_refl _, Nat.le_refl _⟩) hS (fun q _ h => lwF_x F h) (fun q h => lwF_x F h) (fun r1 u t H1 locs ht hvm hw hB hz1 hq1 hS => ?_)
  obtain ⟨hw1, hw2⟩ := hw
  obtain rfl : r1 = r := hw1
  obtain rfl : u = σ2 := hw2
  have hP := hB.1
  rw [ht] at hP
  have hM := m_frame F hM hq1
  refine W.widen (k := 600000) (n := 7302250) (Nat.le_refl _) (Nat.le_refl _) ?_
  refine lv_aload_n hx hb dL_law_285 rfl (lv_at hl 2 rfl) ?_
  refine lv_aload_n hx hb dL_law_286 rfl (lv_at hl 0 rfl) ?_
  refine lv_iload_n hx hb dL_law_287 rfl (lv_at hl 3 rfl) ?_
  refine lv_iconst (v := nI 1) hx hb dL_law_288 (by decide) ?_
  refine lv_iadd hx hb dL_law_289 ?_
  refine va_sld hx hb hX hbl hbA hS (lvin (by omega) hL) dL_law_290 ?_
  refine lv_aload_n hx hb dL_law_291 rfl (lv_at hl 0 rfl) ?_
  refine lv_iload_n hx hb dL_law_292 rfl (lv_at hl 3 rfl) ?_
  refine lv_iconst (v := nI 2) hx hb dL_law_293 (by decide) ?_
  refine lv_iadd hx hb dL_law_294 ?_
  refine va_sld hx hb hX hbl hbA hS (lvin (by omega) hL) dL_law_295 ?_
  refine va_calli (va_runV (As := [.int (xs (nI i + nI 1).toNatClampNeg), .int (xs (nI i + nI 2).toNatClampNeg)]) (rest := [.int r1]) ⟨hx, hb, hml, hown, hts⟩ (kX12_of l D G2 μ (xs (nI i + nI 1).toNatClampNeg) (xs (nI i + nI 2).toNatClampNeg) (r1, μ2) e2) (cwV 2 hts (lwW_gV mw_1072 mw_1073 mw_1074 mw_14 mw_1075) rfl rfl rfl (by decide +kernel) ⟨Nat.le_of_ble_eq_true rfl, Nat.le_of_ble_eq_true rfl⟩) ⟨fun a U g mk q => ⟨q.1, mPre_call q.2⟩, va_recv F.1 hM rfl (mg_2 (k := 28) rfl), fun U hU hW => ⟨rfl, mPre_law F hM hU hW⟩⟩ rfl rfl hl.1 rfl (lv_room (Nat.le_of_ble_eq_true rfl)) dL_law_296 ⟨Nat.le_refl _, Nat.le_refl _⟩) hS (fun q _ h => lwF_m F h) (fun q h => lwF_m F h) (fun r3 u3 t H2 locs ht hvm hw hB hz1 hq1 hS => ?_)
  obtain ⟨hw1, hw2⟩ := hw
  obtain rfl : r3 = r1 := hw1
  obtain rfl : u3 = μ2 := hw2
  have hM := hB.1
  rw [ht] at hM
  have hP := x_frame F hP hq1
  refine W.widen (k := 600000) (n := 7302250) (Nat.le_refl _) (Nat.le_refl _) ?_
  exact lv_icmp_eq (tgt := 1302) hx hb dL_law_299 (by decide) (fun _ => kk _ _ _ _ _ hSt2 hP hM hS hl) (fun hc => absurd rfl hc)
set_option maxHeartbeats 4000000 in
set_option maxRecDepth 100000 in
theorem lc_6 {p : Program} {l : Launch} {e : Env} {s : State} {m : MethodId} {below : List Frame} {meth : Method} {c : Code} {D : va_G} {G G2 : xG} {ub : xB} {b L : Nat} {xs : Nat → Int32} {St : QMem → QMem → Prop} (C0 : lw_At p s m meth c b L xs) (F : lwF D G G2 ub s) (hL : L ≤ 3072) (hA : ∀ (σ μ : QMem) (a1 : Int32) (a2 : Int32), St σ μ → ∃ (r : Int32) (σ2 μ2 : QMem), fX11_unit a1 a2 σ = some (r, σ2) ∧ fX12_unit a1 a2 μ = some (r, μ2) ∧ St σ2 μ2) (i : Nat) (hi : i + 6 ≤ L) (σ μ : QMem) (hSt : St σ μ) (H : Heap) (locs : List Loc) (ls : Array Slot) (hP : va_P D vwCl (xW G σ) H) (hM : va_P D vwCl (mW G2 μ) H) (hS : va_S (fun q : Nat => s.heap.size ≤ q) s.heap H locs) (hl : lv_has ls 4 [(0, .ref b), (1, .ref (G.1 105)), (2, .ref (G2.1 28)), (3, .int (nI i))]) (kk : ∀ (σ μ : QMem) (H : Heap) (locs : List Loc) (ls : Array Slot), St σ μ → va_P D vwCl (xW G σ) H → va_P D vwCl (mW G2 μ) H → va_S (fun q : Nat => s.heap.size ≤ q) s.heap H locs → lv_has ls 4 [(0, .ref b), (1, .ref (G.1 105)), (2, .ref (G2.1 28)), (3, .int (nI i))] → W p l e room_1 s m #[Value.ref b] below meth c H locs 600000 7302250 (lw_Z below #[Value.ref b] s) (F0 m 1302 ls [])) : W p l e room_1 s m #[Value.ref b] below meth c H locs 600000 7302250 (lw_Z below #[Value.ref b] s) (F0 m 304 ls []) := by
  obtain ⟨hx, hb, hr, hml, hown, hts0, hX, hbl, hlocks, hgv⟩ := C0
  have hts : ∀ w ∈ lwW, w.before #[Value.ref b] s = true := fun w hw => hts0 w (lwW_ok hw)
  have hbA : ¬ (fun q : Nat => s.heap.size ≤ q) b := Nat.not_le.mpr hbl
  obtain ⟨r, σ2, μ2, e1, e2, hSt2⟩ := hA σ μ (xs (nI i + nI 1).toNatClampNeg) (xs (nI i + nI 2).toNatClampNeg) hSt
  refine lv_aload_n hx hb dL_law_304 rfl (lv_at hl 1 rfl) ?_
  refine lv_aload_n hx hb dL_law_305 rfl (lv_at hl 0 rfl) ?_
  refine lv_iload_n hx hb dL_law_306 rfl (lv_at hl 3 rfl) ?_
  refine lv_iconst (v := nI 1) hx hb dL_law_307 (by decide) ?_
  refine lv_iadd hx hb dL_law_308 ?_
  refine va_sld hx hb hX hbl hbA hS (lvin (by omega) hL) dL_law_309 ?_
  refine lv_aload_n hx hb dL_law_310 rfl (lv_at hl 0 rfl) ?_
  refine lv_iload_n hx hb dL_law_311 rfl (lv_at hl 3 rfl) ?_
  refine lv_iconst (v := nI 2) hx hb dL_law_312 (by decide) ?_
  refine lv_iadd hx hb dL_law_313 ?_
  refine va_sld hx hb hX hbl hbA hS (lvin (by omega) hL) dL_law_314 ?_
  refine va_calli (va_runV (As := [.int (xs (nI i + nI 1).toNatClampNeg), .int (xs (nI i + nI 2).toNatClampNeg)]) (rest := []) ⟨hx, hb, hml, hown, hts⟩ (kX11_unit l D G ub σ (xs (nI i + nI 1).toNatClampNeg) (xs (nI i + nI 2).toNatClampNeg) (r, σ2) e1) (cwV 2 hts (lwW_gV mw_653 mw_654 mw_655 mw_1 mw_656) rfl rfl rfl (by decide +kernel) ⟨Nat.le_of_ble_eq_true rfl, Nat.le_of_ble_eq_true rfl⟩) ⟨fun a U g mk q => ⟨q.1, xPre_call q.2⟩, va_recv F.1 hP rfl (xg_7 (k := 105) rfl), fun U hU hW => ⟨rfl, xPre_law F hS hP hU hW⟩⟩ rfl rfl hl.1 rfl (lv_room (Nat.le_of_ble_eq_true rfl)) dL_law_315 ⟨Nat.le_refl _, Nat.le_refl _⟩) hS (fun q _ h => lwF_x F h) (fun q h => lwF_x F h) (fun r1 u t H1 locs ht hvm hw hB hz1 hq1 hS => ?_)
  obtain ⟨hw1, hw2⟩ := hw
  obtain rfl : r1 = r := hw1
  obtain rfl : u = σ2 := hw2
  have hP := hB.1
  rw [ht] at hP
  have hM := m_frame F hM hq1
  refine W.widen (k := 600000) (n := 7302250) (Nat.le_refl _) (Nat.le_refl _) ?_
  refine lv_aload_n hx hb dL_law_318 rfl (lv_at hl 2 rfl) ?_
  refine lv_aload_n hx hb dL_law_319 rfl (lv_at hl 0 rfl) ?_
  refine lv_iload_n hx hb dL_law_320 rfl (lv_at hl 3 rfl) ?_
  refine lv_iconst (v := nI 1) hx hb dL_law_321 (by decide) ?_
  refine lv_iadd hx hb dL_law_322 ?_
  refine va_sld hx hb hX hbl hbA hS (lvin (by omega) hL) dL_law_323 ?_
  refine lv_aload_n hx hb dL_law_324 rfl (lv_at hl 0 rfl) ?_
  refine lv_iload_n hx hb dL_law_325 rfl (lv_at hl 3 rfl) ?_
  refine lv_iconst (v := nI 2) hx hb dL_law_326 (by decide) ?_
  refine lv_iadd hx hb dL_law_327 ?_
  refine va_sld hx hb hX hbl hbA hS (lvin (by omega) hL) dL_law_328 ?_
  refine va_calli (va_runV (As := [.int (xs (nI i + nI 1).toNatClampNeg), .int (xs (nI i + nI 2).toNatClampNeg)]) (rest := [.int r1]) ⟨hx, hb, hml, hown, hts⟩ (kX12_unit l D G2 μ (xs (nI i + nI 1).toNatClampNeg) (xs (nI i + nI 2).toNatClampNeg) (r1, μ2) e2) (cwV 2 hts (lwW_gV mw_1110 mw_1111 mw_1112 mw_14 mw_1113) rfl rfl rfl (by decide +kernel) ⟨Nat.le_of_ble_eq_true rfl, Nat.le_of_ble_eq_true rfl⟩) ⟨fun a U g mk q => ⟨q.1, mPre_call q.2⟩, va_recv F.1 hM rfl (mg_2 (k := 28) rfl), fun U hU hW => ⟨rfl, mPre_law F hM hU hW⟩⟩ rfl rfl hl.1 rfl (lv_room (Nat.le_of_ble_eq_true rfl)) dL_law_329 ⟨Nat.le_refl _, Nat.le_refl _⟩) hS (fun q _ h => lwF_m F h) (fun q h => lwF_m F h) (fun r3 u3 t H2 locs ht hvm hw hB hz1 hq1 hS => ?_)
  obtain ⟨hw1, hw2⟩ := hw
  obtain rfl : r3 = r1 := hw1
  obtain rfl : u3 = μ2 := hw2
  have hM := hB.1
  rw [ht] at hM
  have hP := x_frame F hP hq1
  refine W.widen (k := 600000) (n := 7302250) (Nat.le_refl _) (Nat.le_refl _) ?_
  exact lv_icmp_eq (tgt := 1302) hx hb dL_law_332 (by decide) (fun _ => kk _ _ _ _ _ hSt2 hP hM hS hl) (fun hc => absurd rfl hc)
set_option maxHeartbeats 4000000 in
set_option maxRecDepth 100000 in
theorem lc_7 {p : Program} {l : Launch} {e : Env} {s : State} {m : MethodId} {below : List Frame} {meth : Method} {c : Code} {D : va_G} {G G2 : xG} {ub : xB} {b L : Nat} {xs : Nat → Int32} {St : QMem → QMem → Prop} (C0 : lw_At p s m meth c b L xs) (F : lwF D G G2 ub s) (hL : L ≤ 3072) (hA : ∀ (σ μ : QMem) (a1 : Int32) (a2 : Int32) (a3 : Int32) (a4 : Int32) (a5 : Int32), St σ μ → ∃ (r : Int32) (σ2 μ2 : QMem), fX11_set a1 a2 a3 a4 a5 σ = some (r, σ2) ∧ fX12_set a1 a2 a3 a4 a5 μ = some (r, μ2) ∧ St σ2 μ2) (i : Nat) (hi : i + 6 ≤ L) (σ μ : QMem) (hSt : St σ μ) (H : Heap) (locs : List Loc) (ls : Array Slot) (hP : va_P D vwCl (xW G σ) H) (hM : va_P D vwCl (mW G2 μ) H) (hS : va_S (fun q : Nat => s.heap.size ≤ q) s.heap H locs) (hl : lv_has ls 4 [(0, .ref b), (1, .ref (G.1 105)), (2, .ref (G2.1 28)), (3, .int (nI i))]) (kk : ∀ (σ μ : QMem) (H : Heap) (locs : List Loc) (ls : Array Slot), St σ μ → va_P D vwCl (xW G σ) H → va_P D vwCl (mW G2 μ) H → va_S (fun q : Nat => s.heap.size ≤ q) s.heap H locs → lv_has ls 4 [(0, .ref b), (1, .ref (G.1 105)), (2, .ref (G2.1 28)), (3, .int (nI i))] → W p l e room_1 s m #[Value.ref b] below meth c H locs 600000 7302250 (lw_Z below #[Value.ref b] s) (F0 m 1302 ls [])) : W p l e room_1 s m #[Value.ref b] below meth c H locs 600000 7302250 (lw_Z below #[Value.ref b] s) (F0 m 337 ls []) := by
  obtain ⟨hx, hb, hr, hml, hown, hts0, hX, hbl, hlocks, hgv⟩ := C0
  have hts : ∀ w ∈ lwW, w.before #[Value.ref b] s = true := fun w hw => hts0 w (lwW_ok hw)
  have hbA : ¬ (fun q : Nat => s.heap.size ≤ q) b := Nat.not_le.mpr hbl
  obtain ⟨r, σ2, μ2, e1, e2, hSt2⟩ := hA σ μ (xs (nI i + nI 1).toNatClampNeg) (xs (nI i + nI 2).toNatClampNeg) (xs (nI i + nI 3).toNatClampNeg) (xs (nI i + nI 4).toNatClampNeg) (xs (nI i + nI 5).toNatClampNeg) hSt
  refine lv_aload_n hx hb dL_law_337 rfl (lv_at hl 1 rfl) ?_
  refine lv_aload_n hx hb dL_law_338 rfl (lv_at hl 0 rfl) ?_
  refine lv_iload_n hx hb dL_law_339 rfl (lv_at hl 3 rfl) ?_
  refine lv_iconst (v := nI 1) hx hb dL_law_340 (by decide) ?_
  refine lv_iadd hx hb dL_law_341 ?_
  refine va_sld hx hb hX hbl hbA hS (lvin (by omega) hL) dL_law_342 ?_
  refine lv_aload_n hx hb dL_law_343 rfl (lv_at hl 0 rfl) ?_
  refine lv_iload_n hx hb dL_law_344 rfl (lv_at hl 3 rfl) ?_
  refine lv_iconst (v := nI 2) hx hb dL_law_345 (by decide) ?_
  refine lv_iadd hx hb dL_law_346 ?_
  refine va_sld hx hb hX hbl hbA hS (lvin (by omega) hL) dL_law_347 ?_
  refine lv_aload_n hx hb dL_law_348 rfl (lv_at hl 0 rfl) ?_
  refine lv_iload_n hx hb dL_law_349 rfl (lv_at hl 3 rfl) ?_
  refine lv_iconst (v := nI 3) hx hb dL_law_350 (by decide) ?_
  refine lv_iadd hx hb dL_law_351 ?_
  refine va_sld hx hb hX hbl hbA hS (lvin (by omega) hL) dL_law_352 ?_
  refine lv_aload_n hx hb dL_law_353 rfl (lv_at hl 0 rfl) ?_
  refine lv_iload_n hx hb dL_law_354 rfl (lv_at hl 3 rfl) ?_
  refine lv_iconst (v := nI 4) hx hb dL_law_355 (by decide) ?_
  refine lv_iadd hx hb dL_law_356 ?_
  refine va_sld hx hb hX hbl hbA hS (lvin (by omega) hL) dL_law_357 ?_
  refine lv_aload_n hx hb dL_law_358 rfl (lv_at hl 0 rfl) ?_
  refine lv_iload_n hx hb dL_law_359 rfl (lv_at hl 3 rfl) ?_
  refine lv_iconst (v := nI 5) hx hb dL_law_360 (by decide) ?_
  refine lv_iadd hx hb dL_law_361 ?_
  refine va_sld hx hb hX hbl hbA hS (lvin (by omega) hL) dL_law_362 ?_
  refine va_calli (va_runV (As := [.int (xs (nI i + nI 1).toNatClampNeg), .int (xs (nI i + nI 2).toNatClampNeg), .int (xs (nI i + nI 3).toNatClampNeg), .int (xs (nI i + nI 4).toNatClampNeg), .int (xs (nI i + nI 5).toNatClampNeg)]) (rest := []) ⟨hx, hb, hml, hown, hts⟩ (kX11_set l D G ub σ (xs (nI i + nI 1).toNatClampNeg) (xs (nI i + nI 2).toNatClampNeg) (xs (nI i + nI 3).toNatClampNeg) (xs (nI i + nI 4).toNatClampNeg) (xs (nI i + nI 5).toNatClampNeg) (r, σ2) e1) (cwV 5 hts (lwW_gV mw_659 mw_660 mw_661 mw_1 mw_662) rfl rfl rfl (by decide +kernel) ⟨Nat.le_of_ble_eq_true rfl, Nat.le_of_ble_eq_true rfl⟩) ⟨fun a U g mk q => ⟨q.1, xPre_call q.2⟩, va_recv F.1 hP rfl (xg_7 (k := 105) rfl), fun U hU hW => ⟨rfl, xPre_law F hS hP hU hW⟩⟩ rfl rfl hl.1 rfl (lv_room (Nat.le_of_ble_eq_true rfl)) dL_law_363 ⟨Nat.le_refl _, Nat.le_refl _⟩) hS (fun q _ h => lwF_x F h) (fun q h => lwF_x F h) (fun r1 u t H1 locs ht hvm hw hB hz1 hq1 hS => ?_)
  obtain ⟨hw1, hw2⟩ := hw
  obtain rfl : r1 = r := hw1
  obtain rfl : u = σ2 := hw2
  have hP := hB.1
  rw [ht] at hP
  have hM := m_frame F hM hq1
  refine W.widen (k := 600000) (n := 7302250) (Nat.le_refl _) (Nat.le_refl _) ?_
  refine lv_aload_n hx hb dL_law_366 rfl (lv_at hl 2 rfl) ?_
  refine lv_aload_n hx hb dL_law_367 rfl (lv_at hl 0 rfl) ?_
  refine lv_iload_n hx hb dL_law_368 rfl (lv_at hl 3 rfl) ?_
  refine lv_iconst (v := nI 1) hx hb dL_law_369 (by decide) ?_
  refine lv_iadd hx hb dL_law_370 ?_
  refine va_sld hx hb hX hbl hbA hS (lvin (by omega) hL) dL_law_371 ?_
  refine lv_aload_n hx hb dL_law_372 rfl (lv_at hl 0 rfl) ?_
  refine lv_iload_n hx hb dL_law_373 rfl (lv_at hl 3 rfl) ?_
  refine lv_iconst (v := nI 2) hx hb dL_law_374 (by decide) ?_
  refine lv_iadd hx hb dL_law_375 ?_
  refine va_sld hx hb hX hbl hbA hS (lvin (by omega) hL) dL_law_376 ?_
  refine lv_aload_n hx hb dL_law_377 rfl (lv_at hl 0 rfl) ?_
  refine lv_iload_n hx hb dL_law_378 rfl (lv_at hl 3 rfl) ?_
  refine lv_iconst (v := nI 3) hx hb dL_law_379 (by decide) ?_
  refine lv_iadd hx hb dL_law_380 ?_
  refine va_sld hx hb hX hbl hbA hS (lvin (by omega) hL) dL_law_381 ?_
  refine lv_aload_n hx hb dL_law_382 rfl (lv_at hl 0 rfl) ?_
  refine lv_iload_n hx hb dL_law_383 rfl (lv_at hl 3 rfl) ?_
  refine lv_iconst (v := nI 4) hx hb dL_law_384 (by decide) ?_
  refine lv_iadd hx hb dL_law_385 ?_
  refine va_sld hx hb hX hbl hbA hS (lvin (by omega) hL) dL_law_386 ?_
  refine lv_aload_n hx hb dL_law_387 rfl (lv_at hl 0 rfl) ?_
  refine lv_iload_n hx hb dL_law_388 rfl (lv_at hl 3 rfl) ?_
  refine lv_iconst (v := nI 5) hx hb dL_law_389 (by decide) ?_
  refine lv_iadd hx hb dL_law_390 ?_
  refine va_sld hx hb hX hbl hbA hS (lvin (by omega) hL) dL_law_391 ?_
  refine va_calli (va_runV (As := [.int (xs (nI i + nI 1).toNatClampNeg), .int (xs (nI i + nI 2).toNatClampNeg), .int (xs (nI i + nI 3).toNatClampNeg), .int (xs (nI i + nI 4).toNatClampNeg), .int (xs (nI i + nI 5).toNatClampNeg)]) (rest := [.int r1]) ⟨hx, hb, hml, hown, hts⟩ (kX12_set l D G2 μ (xs (nI i + nI 1).toNatClampNeg) (xs (nI i + nI 2).toNatClampNeg) (xs (nI i + nI 3).toNatClampNeg) (xs (nI i + nI 4).toNatClampNeg) (xs (nI i + nI 5).toNatClampNeg) (r1, μ2) e2) (cwV 5 hts (lwW_gV mw_1114 mw_1115 mw_1116 mw_14 mw_1117) rfl rfl rfl (by decide +kernel) ⟨Nat.le_of_ble_eq_true rfl, Nat.le_of_ble_eq_true rfl⟩) ⟨fun a U g mk q => ⟨q.1, mPre_call q.2⟩, va_recv F.1 hM rfl (mg_2 (k := 28) rfl), fun U hU hW => ⟨rfl, mPre_law F hM hU hW⟩⟩ rfl rfl hl.1 rfl (lv_room (Nat.le_of_ble_eq_true rfl)) dL_law_392 ⟨Nat.le_refl _, Nat.le_refl _⟩) hS (fun q _ h => lwF_m F h) (fun q h => lwF_m F h) (fun r3 u3 t H2 locs ht hvm hw hB hz1 hq1 hS => ?_)
  obtain ⟨hw1, hw2⟩ := hw
  obtain rfl : r3 = r1 := hw1
  obtain rfl : u3 = μ2 := hw2
  have hM := hB.1
  rw [ht] at hM
  have hP := x_frame F hP hq1
  refine W.widen (k := 600000) (n := 7302250) (Nat.le_refl _) (Nat.le_refl _) ?_
  exact lv_icmp_eq (tgt := 1302) hx hb dL_law_395 (by decide) (fun _ => kk _ _ _ _ _ hSt2 hP hM hS hl) (fun hc => absurd rfl hc)
set_option maxHeartbeats 4000000 in
set_option maxRecDepth 100000 in
theorem lc_8 {p : Program} {l : Launch} {e : Env} {s : State} {m : MethodId} {below : List Frame} {meth : Method} {c : Code} {D : va_G} {G G2 : xG} {ub : xB} {b L : Nat} {xs : Nat → Int32} {St : QMem → QMem → Prop} (C0 : lw_At p s m meth c b L xs) (F : lwF D G G2 ub s) (hL : L ≤ 3072) (hA : ∀ (σ μ : QMem) (a1 : Int32) (a2 : Int32), St σ μ → ∃ (r : Int32) (σ2 μ2 : QMem), fX11_add a1 a2 σ = some (r, σ2) ∧ fX12_add a1 a2 μ = some (r, μ2) ∧ St σ2 μ2) (i : Nat) (hi : i + 6 ≤ L) (σ μ : QMem) (hSt : St σ μ) (H : Heap) (locs : List Loc) (ls : Array Slot) (hP : va_P D vwCl (xW G σ) H) (hM : va_P D vwCl (mW G2 μ) H) (hS : va_S (fun q : Nat => s.heap.size ≤ q) s.heap H locs) (hl : lv_has ls 4 [(0, .ref b), (1, .ref (G.1 105)), (2, .ref (G2.1 28)), (3, .int (nI i))]) (kk : ∀ (σ μ : QMem) (H : Heap) (locs : List Loc) (ls : Array Slot), St σ μ → va_P D vwCl (xW G σ) H → va_P D vwCl (mW G2 μ) H → va_S (fun q : Nat => s.heap.size ≤ q) s.heap H locs → lv_has ls 4 [(0, .ref b), (1, .ref (G.1 105)), (2, .ref (G2.1 28)), (3, .int (nI i))] → W p l e room_1 s m #[Value.ref b] below meth c H locs 600000 7302250 (lw_Z below #[Value.ref b] s) (F0 m 1302 ls [])) : W p l e room_1 s m #[Value.ref b] below meth c H locs 600000 7302250 (lw_Z below #[Value.ref b] s) (F0 m 400 ls []) := by
  obtain ⟨hx, hb, hr, hml, hown, hts0, hX, hbl, hlocks, hgv⟩ := C0
  have hts : ∀ w ∈ lwW, w.before #[Value.ref b] s = true := fun w hw => hts0 w (lwW_ok hw)
  have hbA : ¬ (fun q : Nat => s.heap.size ≤ q) b := Nat.not_le.mpr hbl
  obtain ⟨r, σ2, μ2, e1, e2, hSt2⟩ := hA σ μ (xs (nI i + nI 1).toNatClampNeg) (xs (nI i + nI 2).toNatClampNeg) hSt
  refine lv_aload_n hx hb dL_law_400 rfl (lv_at hl 1 rfl) ?_
  refine lv_aload_n hx hb dL_law_401 rfl (lv_at hl 0 rfl) ?_
  refine lv_iload_n hx hb dL_law_402 rfl (lv_at hl 3 rfl) ?_
  refine lv_iconst (v := nI 1) hx hb dL_law_403 (by decide) ?_
  refine lv_iadd hx hb dL_law_404 ?_
  refine va_sld hx hb hX hbl hbA hS (lvin (by omega) hL) dL_law_405 ?_
  refine lv_aload_n hx hb dL_law_406 rfl (lv_at hl 0 rfl) ?_
  refine lv_iload_n hx hb dL_law_407 rfl (lv_at hl 3 rfl) ?_
  refine lv_iconst (v := nI 2) hx hb dL_law_408 (by decide) ?_
  refine lv_iadd hx hb dL_law_409 ?_
  refine va_sld hx hb hX hbl hbA hS (lvin (by omega) hL) dL_law_410 ?_
  refine va_calli (va_runV (As := [.int (xs (nI i + nI 1).toNatClampNeg), .int (xs (nI i + nI 2).toNatClampNeg)]) (rest := []) ⟨hx, hb, hml, hown, hts⟩ (kX11_add l D G ub σ (xs (nI i + nI 1).toNatClampNeg) (xs (nI i + nI 2).toNatClampNeg) (r, σ2) e1) (cwV 2 hts (lwW_gV mw_678 mw_679 mw_680 mw_1 mw_681) rfl rfl rfl (by decide +kernel) ⟨Nat.le_of_ble_eq_true rfl, Nat.le_of_ble_eq_true rfl⟩) ⟨fun a U g mk q => ⟨q.1, xPre_call q.2⟩, va_recv F.1 hP rfl (xg_7 (k := 105) rfl), fun U hU hW => ⟨rfl, xPre_law F hS hP hU hW⟩⟩ rfl rfl hl.1 rfl (lv_room (Nat.le_of_ble_eq_true rfl)) dL_law_411 ⟨Nat.le_refl _, Nat.le_refl _⟩) hS (fun q _ h => lwF_x F h) (fun q h => lwF_x F h) (fun r1 u t H1 locs ht hvm hw hB hz1 hq1 hS => ?_)
  obtain ⟨hw1, hw2⟩ := hw
  obtain rfl : r1 = r := hw1
  obtain rfl : u = σ2 := hw2
  have hP := hB.1
  rw [ht] at hP
  have hM := m_frame F hM hq1
  refine W.widen (k := 600000) (n := 7302250) (Nat.le_refl _) (Nat.le_refl _) ?_
  refine lv_aload_n hx hb dL_law_414 rfl (lv_at hl 2 rfl) ?_
  refine lv_aload_n hx hb dL_law_415 rfl (lv_at hl 0 rfl) ?_
  refine lv_iload_n hx hb dL_law_416 rfl (lv_at hl 3 rfl) ?_
  refine lv_iconst (v := nI 1) hx hb dL_law_417 (by decide) ?_
  refine lv_iadd hx hb dL_law_418 ?_
  refine va_sld hx hb hX hbl hbA hS (lvin (by omega) hL) dL_law_419 ?_
  refine lv_aload_n hx hb dL_law_420 rfl (lv_at hl 0 rfl) ?_
  refine lv_iload_n hx hb dL_law_421 rfl (lv_at hl 3 rfl) ?_
  refine lv_iconst (v := nI 2) hx hb dL_law_422 (by decide) ?_
  refine lv_iadd hx hb dL_law_423 ?_
  refine va_sld hx hb hX hbl hbA hS (lvin (by omega) hL) dL_law_424 ?_
  refine va_calli (va_runV (As := [.int (xs (nI i + nI 1).toNatClampNeg), .int (xs (nI i + nI 2).toNatClampNeg)]) (rest := [.int r1]) ⟨hx, hb, hml, hown, hts⟩ (kX12_add l D G2 μ (xs (nI i + nI 1).toNatClampNeg) (xs (nI i + nI 2).toNatClampNeg) (r1, μ2) e2) (cwV 2 hts (lwW_gV mw_1129 mw_1130 mw_1131 mw_14 mw_1132) rfl rfl rfl (by decide +kernel) ⟨Nat.le_of_ble_eq_true rfl, Nat.le_of_ble_eq_true rfl⟩) ⟨fun a U g mk q => ⟨q.1, mPre_call q.2⟩, va_recv F.1 hM rfl (mg_2 (k := 28) rfl), fun U hU hW => ⟨rfl, mPre_law F hM hU hW⟩⟩ rfl rfl hl.1 rfl (lv_room (Nat.le_of_ble_eq_true rfl)) dL_law_425 ⟨Nat.le_refl _, Nat.le_refl _⟩) hS (fun q _ h => lwF_m F h) (fun q h => lwF_m F h) (fun r3 u3 t H2 locs ht hvm hw hB hz1 hq1 hS => ?_)
  obtain ⟨hw1, hw2⟩ := hw
  obtain rfl : r3 = r1 := hw1
  obtain rfl : u3 = μ2 := hw2
  have hM := hB.1
  rw [ht] at hM
  have hP := x_frame F hP hq1
  refine W.widen (k := 600000) (n := 7302250) (Nat.le_refl _) (Nat.le_refl _) ?_
  exact lv_icmp_eq (tgt := 1302) hx hb dL_law_428 (by decide) (fun _ => kk _ _ _ _ _ hSt2 hP hM hS hl) (fun hc => absurd rfl hc)
set_option maxHeartbeats 4000000 in
set_option maxRecDepth 100000 in
theorem lc_9 {p : Program} {l : Launch} {e : Env} {s : State} {m : MethodId} {below : List Frame} {meth : Method} {c : Code} {D : va_G} {G G2 : xG} {ub : xB} {b L : Nat} {xs : Nat → Int32} {St : QMem → QMem → Prop} (C0 : lw_At p s m meth c b L xs) (F : lwF D G G2 ub s) (hL : L ≤ 3072) (hA : ∀ (σ μ : QMem) (a1 : Int32) (a2 : Int32) (a3 : Int32), St σ μ → ∃ (r : Int32) (σ2 μ2 : QMem), fX11_times a1 a2 a3 σ = some (r, σ2) ∧ fX12_times a1 a2 a3 μ = some (r, μ2) ∧ St σ2 μ2) (i : Nat) (hi : i + 6 ≤ L) (σ μ : QMem) (hSt : St σ μ) (H : Heap) (locs : List Loc) (ls : Array Slot) (hP : va_P D vwCl (xW G σ) H) (hM : va_P D vwCl (mW G2 μ) H) (hS : va_S (fun q : Nat => s.heap.size ≤ q) s.heap H locs) (hl : lv_has ls 4 [(0, .ref b), (1, .ref (G.1 105)), (2, .ref (G2.1 28)), (3, .int (nI i))]) (kk : ∀ (σ μ : QMem) (H : Heap) (locs : List Loc) (ls : Array Slot), St σ μ → va_P D vwCl (xW G σ) H → va_P D vwCl (mW G2 μ) H → va_S (fun q : Nat => s.heap.size ≤ q) s.heap H locs → lv_has ls 4 [(0, .ref b), (1, .ref (G.1 105)), (2, .ref (G2.1 28)), (3, .int (nI i))] → W p l e room_1 s m #[Value.ref b] below meth c H locs 600000 7302250 (lw_Z below #[Value.ref b] s) (F0 m 1302 ls [])) : W p l e room_1 s m #[Value.ref b] below meth c H locs 600000 7302250 (lw_Z below #[Value.ref b] s) (F0 m 433 ls []) := by
  obtain ⟨hx, hb, hr, hml, hown, hts0, hX, hbl, hlocks, hgv⟩ := C0
  have hts : ∀ w ∈ lwW, w.before #[Value.ref b] s = true := fun w hw => hts0 w (lwW_ok hw)
  have hbA : ¬ (fun q : Nat => s.heap.size ≤ q) b := Nat.not_le.mpr hbl
  obtain ⟨r, σ2, μ2, e1, e2, hSt2⟩ := hA σ μ (xs (nI i + nI 1).toNatClampNeg) (xs (nI i + nI 2).toNatClampNeg) (xs (nI i + nI 3).toNatClampNeg) hSt
  refine lv_aload_n hx hb dL_law_433 rfl (lv_at hl 1 rfl) ?_
  refine lv_aload_n hx hb dL_law_434 rfl (lv_at hl 0 rfl) ?_
  refine lv_iload_n hx hb dL_law_435 rfl (lv_at hl 3 rfl) ?_
  refine lv_iconst (v := nI 1) hx hb dL_law_436 (by decide) ?_
  refine lv_iadd hx hb dL_law_437 ?_
  refine va_sld hx hb hX hbl hbA hS (lvin (by omega) hL) dL_law_438 ?_
  refine lv_aload_n hx hb dL_law_439 rfl (lv_at hl 0 rfl) ?_
  refine lv_iload_n hx hb dL_law_440 rfl (lv_at hl 3 rfl) ?_
  refine lv_iconst (v := nI 2) hx hb dL_law_441 (by decide) ?_
  refine lv_iadd hx hb dL_law_442 ?_
  refine va_sld hx hb hX hbl hbA hS (lvin (by omega) hL) dL_law_443 ?_
  refine lv_aload_n hx hb dL_law_444 rfl (lv_at hl 0 rfl) ?_
  refine lv_iload_n hx hb dL_law_445 rfl (lv_at hl 3 rfl) ?_
  refine lv_iconst (v := nI 3) hx hb dL_law_446 (by decide) ?_
  refine lv_iadd hx hb dL_law_447 ?_
  refine va_sld hx hb hX hbl hbA hS (lvin (by omega) hL) dL_law_448 ?_
  refine va_calli (va_runV (As := [.int (xs (nI i + nI 1).toNatClampNeg), .int (xs (nI i + nI 2).toNatClampNeg), .int (xs (nI i + nI 3).toNatClampNeg)]) (rest := []) ⟨hx, hb, hml, hown, hts⟩ (kX11_times l D G ub σ (xs (nI i + nI 1).toNatClampNeg) (xs (nI i + nI 2).toNatClampNeg) (xs (nI i + nI 3).toNatClampNeg) (r, σ2) e1) (cwV 3 hts (lwW_gV mw_686 mw_687 mw_688 mw_1 mw_689) rfl rfl rfl (by decide +kernel) ⟨Nat.le_of_ble_eq_true rfl, Nat.le_of_ble_eq_true rfl⟩) ⟨fun a U g mk q => ⟨q.1, xPre_call q.2⟩, va_recv F.1 hP rfl (xg_7 (k := 105) rfl), fun U hU hW => ⟨rfl, xPre_law F hS hP hU hW⟩⟩ rfl rfl hl.1 rfl (lv_room (Nat.le_of_ble_eq_true rfl)) dL_law_449 ⟨Nat.le_refl _, Nat.le_refl _⟩) hS (fun q _ h => lwF_x F h) (fun q h => lwF_x F h) (fun r1 u t H1 locs ht hvm hw hB hz1 hq1 hS => ?_)
  obtain ⟨hw1, hw2⟩ := hw
  obtain rfl : r1 = r := hw1
  obtain rfl : u = σ2 := hw2
  have hP := hB.1
  rw [ht] at hP
  have hM := m_frame F hM hq1
  refine W.widen (k := 600000) (n := 7302250) (Nat.le_refl _) (Nat.le_refl _) ?_
  refine lv_aload_n hx hb dL_law_452 rfl (lv_at hl 2 rfl) ?_
  refine lv_aload_n hx hb dL_law_453 rfl (lv_at hl 0 rfl) ?_
  refine lv_iload_n hx hb dL_law_454 rfl (lv_at hl 3 rfl) ?_
  refine lv_iconst (v := nI 1) hx hb dL_law_455 (by decide) ?_
  refine lv_iadd hx hb dL_law_456 ?_
  refine va_sld hx hb hX hbl hbA hS (lvin (by omega) hL) dL_law_457 ?_
  refine lv_aload_n hx hb dL_law_458 rfl (lv_at hl 0 rfl) ?_
  refine lv_iload_n hx hb dL_law_459 rfl (lv_at hl 3 rfl) ?_
  refine lv_iconst (v := nI 2) hx hb dL_law_460 (by decide) ?_
  refine lv_iadd hx hb dL_law_461 ?_
  refine va_sld hx hb hX hbl hbA hS (lvin (by omega) hL) dL_law_462 ?_
  refine lv_aload_n hx hb dL_law_463 rfl (lv_at hl 0 rfl) ?_
  refine lv_iload_n hx hb dL_law_464 rfl (lv_at hl 3 rfl) ?_
  refine lv_iconst (v := nI 3) hx hb dL_law_465 (by decide) ?_
  refine lv_iadd hx hb dL_law_466 ?_
  refine va_sld hx hb hX hbl hbA hS (lvin (by omega) hL) dL_law_467 ?_
  refine va_calli (va_runV (As := [.int (xs (nI i + nI 1).toNatClampNeg), .int (xs (nI i + nI 2).toNatClampNeg), .int (xs (nI i + nI 3).toNatClampNeg)]) (rest := [.int r1]) ⟨hx, hb, hml, hown, hts⟩ (kX12_times l D G2 μ (xs (nI i + nI 1).toNatClampNeg) (xs (nI i + nI 2).toNatClampNeg) (xs (nI i + nI 3).toNatClampNeg) (r1, μ2) e2) (cwV 3 hts (lwW_gV mw_1133 mw_1134 mw_1135 mw_14 mw_1136) rfl rfl rfl (by decide +kernel) ⟨Nat.le_of_ble_eq_true rfl, Nat.le_of_ble_eq_true rfl⟩) ⟨fun a U g mk q => ⟨q.1, mPre_call q.2⟩, va_recv F.1 hM rfl (mg_2 (k := 28) rfl), fun U hU hW => ⟨rfl, mPre_law F hM hU hW⟩⟩ rfl rfl hl.1 rfl (lv_room (Nat.le_of_ble_eq_true rfl)) dL_law_468 ⟨Nat.le_refl _, Nat.le_refl _⟩) hS (fun q _ h => lwF_m F h) (fun q h => lwF_m F h) (fun r3 u3 t H2 locs ht hvm hw hB hz1 hq1 hS => ?_)
  obtain ⟨hw1, hw2⟩ := hw
  obtain rfl : r3 = r1 := hw1
  obtain rfl : u3 = μ2 := hw2
  have hM := hB.1
  rw [ht] at hM
  have hP := x_frame F hP hq1
  refine W.widen (k := 600000) (n := 7302250) (Nat.le_refl _) (Nat.le_refl _) ?_
  exact lv_icmp_eq (tgt := 1302) hx hb dL_law_471 (by decide) (fun _ => kk _ _ _ _ _ hSt2 hP hM hS hl) (fun hc => absurd rfl hc)
set_option maxHeartbeats 4000000 in
set_option maxRecDepth 100000 in
theorem lc_10 {p : Program} {l : Launch} {e : Env} {s : State} {m : MethodId} {below : List Frame} {meth : Method} {c : Code} {D : va_G} {G G2 : xG} {ub : xB} {b L : Nat} {xs : Nat → Int32} {St : QMem → QMem → Prop} (C0 : lw_At p s m meth c b L xs) (F : lwF D G G2 ub s) (hL : L ≤ 3072) (hA : ∀ (σ μ : QMem) (a1 : Int32) (a2 : Int32), St σ μ → ∃ (r : Int32) (σ2 μ2 : QMem), fX11_turn a1 a2 σ = some (r, σ2) ∧ fX12_turn a1 a2 μ = some (r, μ2) ∧ St σ2 μ2) (i : Nat) (hi : i + 6 ≤ L) (σ μ : QMem) (hSt : St σ μ) (H : Heap) (locs : List Loc) (ls : Array Slot) (hP : va_P D vwCl (xW G σ) H) (hM : va_P D vwCl (mW G2 μ) H) (hS : va_S (fun q : Nat => s.heap.size ≤ q) s.heap H locs) (hl : lv_has ls 4 [(0, .ref b), (1, .ref (G.1 105)), (2, .ref (G2.1 28)), (3, .int (nI i))]) (kk : ∀ (σ μ : QMem) (H : Heap) (locs : List Loc) (ls : Array Slot), St σ μ → va_P D vwCl (xW G σ) H → va_P D vwCl (mW G2 μ) H → va_S (fun q : Nat => s.heap.size ≤ q) s.heap H locs → lv_has ls 4 [(0, .ref b), (1, .ref (G.1 105)), (2, .ref (G2.1 28)), (3, .int (nI i))] → W p l e room_1 s m #[Value.ref b] below meth c H locs 600000 7302250 (lw_Z below #[Value.ref b] s) (F0 m 1302 ls [])) : W p l e room_1 s m #[Value.ref b] below meth c H locs 600000 7302250 (lw_Z below #[Value.ref b] s) (F0 m 476 ls []) := by
  obtain ⟨hx, hb, hr, hml, hown, hts0, hX, hbl, hlocks, hgv⟩ := C0
  have hts : ∀ w ∈ lwW, w.before #[Value.ref b] s = true := fun w hw => hts0 w (lwW_ok hw)
  have hbA : ¬ (fun q : Nat => s.heap.size ≤ q) b := Nat.not_le.mpr hbl
  obtain ⟨r, σ2, μ2, e1, e2, hSt2⟩ := hA σ μ (xs (nI i + nI 1).toNatClampNeg) (xs (nI i + nI 2).toNatClampNeg) hSt
  refine lv_aload_n hx hb dL_law_476 rfl (lv_at hl 1 rfl) ?_
  refine lv_aload_n hx hb dL_law_477 rfl (lv_at hl 0 rfl) ?_
  refine lv_iload_n hx hb dL_law_478 rfl (lv_at hl 3 rfl) ?_
  refine lv_iconst (v := nI 1) hx hb dL_law_479 (by decide) ?_
  refine lv_iadd hx hb dL_law_480 ?_
  refine va_sld hx hb hX hbl hbA hS (lvin (by omega) hL) dL_law_481 ?_
  refine lv_aload_n hx hb dL_law_482 rfl (lv_at hl 0 rfl) ?_
  refine lv_iload_n hx hb dL_law_483 rfl (lv_at hl 3 rfl) ?_
  refine lv_iconst (v := nI 2) hx hb dL_law_484 (by decide) ?_
  refine lv_iadd hx hb dL_law_485 ?_
  refine va_sld hx hb hX hbl hbA hS (lvin (by omega) hL) dL_law_486 ?_
  refine va_calli (va_runV (As := [.int (xs (nI i + nI 1).toNatClampNeg), .int (xs (nI i + nI 2).toNatClampNeg)]) (rest := []) ⟨hx, hb, hml, hown, hts⟩ (kX11_turn l D G ub σ (xs (nI i + nI 1).toNatClampNeg) (xs (nI i + nI 2).toNatClampNeg) (r, σ2) e1) (cwV 2 hts (lwW_gV mw_694 mw_695 mw_696 mw_1 mw_697) rfl rfl rfl (by decide +kernel) ⟨Nat.le_of_ble_eq_true rfl, Nat.le_of_ble_eq_true rfl⟩) ⟨fun a U g mk q => ⟨q.1, xPre_call q.2⟩, va_recv F.1 hP rfl (xg_7 (k := 105) rfl), fun U hU hW => ⟨rfl, xPre_law F hS hP hU hW⟩⟩ rfl rfl hl.1 rfl (lv_room (Nat.le_of_ble_eq_true rfl)) dL_law_487 ⟨Nat.le_refl _, Nat.le_refl _⟩) hS (fun q _ h => lwF_x F h) (fun q h => lwF_x F h) (fun r1 u t H1 locs ht hvm hw hB hz1 hq1 hS => ?_)
  obtain ⟨hw1, hw2⟩ := hw
  obtain rfl : r1 = r := hw1
  obtain rfl : u = σ2 := hw2
  have hP := hB.1
  rw [ht] at hP
  have hM := m_frame F hM hq1
  refine W.widen (k := 600000) (n := 7302250) (Nat.le_refl _) (Nat.le_refl _) ?_
  refine lv_aload_n hx hb dL_law_490 rfl (lv_at hl 2 rfl) ?_
  refine lv_aload_n hx hb dL_law_491 rfl (lv_at hl 0 rfl) ?_
  refine lv_iload_n hx hb dL_law_492 rfl (lv_at hl 3 rfl) ?_
  refine lv_iconst (v := nI 1) hx hb dL_law_493 (by decide) ?_
  refine lv_iadd hx hb dL_law_494 ?_
  refine va_sld hx hb hX hbl hbA hS (lvin (by omega) hL) dL_law_495 ?_
  refine lv_aload_n hx hb dL_law_496 rfl (lv_at hl 0 rfl) ?_
  refine lv_iload_n hx hb dL_law_497 rfl (lv_at hl 3 rfl) ?_
  refine lv_iconst (v := nI 2) hx hb dL_law_498 (by decide) ?_
  refine lv_iadd hx hb dL_law_499 ?_
  refine va_sld hx hb hX hbl hbA hS (lvin (by omega) hL) dL_law_500 ?_
  refine va_calli (va_runV (As := [.int (xs (nI i + nI 1).toNatClampNeg), .int (xs (nI i + nI 2).toNatClampNeg)]) (rest := [.int r1]) ⟨hx, hb, hml, hown, hts⟩ (kX12_turn l D G2 μ (xs (nI i + nI 1).toNatClampNeg) (xs (nI i + nI 2).toNatClampNeg) (r1, μ2) e2) (cwV 2 hts (lwW_gV mw_1140 mw_1141 mw_1142 mw_14 mw_1143) rfl rfl rfl (by decide +kernel) ⟨Nat.le_of_ble_eq_true rfl, Nat.le_of_ble_eq_true rfl⟩) ⟨fun a U g mk q => ⟨q.1, mPre_call q.2⟩, va_recv F.1 hM rfl (mg_2 (k := 28) rfl), fun U hU hW => ⟨rfl, mPre_law F hM hU hW⟩⟩ rfl rfl hl.1 rfl (lv_room (Nat.le_of_ble_eq_true rfl)) dL_law_501 ⟨Nat.le_refl _, Nat.le_refl _⟩) hS (fun q _ h => lwF_m F h) (fun q h => lwF_m F h) (fun r3 u3 t H2 locs ht hvm hw hB hz1 hq1 hS => ?_)
  obtain ⟨hw1, hw2⟩ := hw
  obtain rfl : r3 = r1 := hw1
  obtain rfl : u3 = μ2 := hw2
  have hM := hB.1
  rw [ht] at hM
  have hP := x_frame F hP hq1
  refine W.widen (k := 600000) (n := 7302250) (Nat.le_refl _) (Nat.le_refl _) ?_
  exact lv_icmp_eq (tgt := 1302) hx hb dL_law_504 (by decide) (fun _ => kk _ _ _ _ _ hSt2 hP hM hS hl) (fun hc => absurd rfl hc)
set_option maxHeartbeats 4000000 in
set_option maxRecDepth 100000 in
theorem lc_11 {p : Program} {l : Launch} {e : Env} {s : State} {m : MethodId} {below : List Frame} {meth : Method} {c : Code} {D : va_G} {G G2 : xG} {ub : xB} {b L : Nat} {xs : Nat → Int32} {St : QMem → QMem → Prop} (C0 : lw_At p s m meth c b L xs) (F : lwF D G G2 ub s) (hL : L ≤ 3072) (hA : ∀ (σ μ : QMem) (a1 : Int32) (a2 : Int32) (a3 : Int32) (a4 : Int32), St σ μ → ∃ (r : Int32) (σ2 μ2 : QMem), fX11_divide a1 a2 a3 a4 σ = some (r, σ2) ∧ fX12_divide a1 a2 a3 a4 μ = some (r, μ2) ∧ St σ2 μ2) (i : Nat) (hi : i + 6 ≤ L) (σ μ : QMem) (hSt : St σ μ) (H : Heap) (locs : List Loc) (ls : Array Slot) (hP : va_P D vwCl (xW G σ) H) (hM : va_P D vwCl (mW G2 μ) H) (hS : va_S (fun q : Nat => s.heap.size ≤ q) s.heap H locs) (hl : lv_has ls 4 [(0, .ref b), (1, .ref (G.1 105)), (2, .ref (G2.1 28)), (3, .int (nI i))]) (kk : ∀ (σ μ : QMem) (H : Heap) (locs : List Loc) (ls : Array Slot), St σ μ → va_P D vwCl (xW G σ) H → va_P D vwCl (mW G2 μ) H → va_S (fun q : Nat => s.heap.size ≤ q) s.heap H locs → lv_has ls 4 [(0, .ref b), (1, .ref (G.1 105)), (2, .ref (G2.1 28)), (3, .int (nI i))] → W p l e room_1 s m #[Value.ref b] below meth c H locs 600000 7302250 (lw_Z below #[Value.ref b] s) (F0 m 1302 ls [])) : W p l e room_1 s m #[Value.ref b] below meth c H locs 600000 7302250 (lw_Z below #[Value.ref b] s) (F0 m 509 ls []) := by
  obtain ⟨hx, hb, hr, hml, hown, hts0, hX, hbl, hlocks, hgv⟩ := C0
  have hts : ∀ w ∈ lwW, w.before #[Value.ref b] s = true := fun w hw => hts0 w (lwW_ok hw)
  have hbA : ¬ (fun q : Nat => s.heap.size ≤ q) b := Nat.not_le.mpr hbl
  obtain ⟨r, σ2, μ2, e1, e2, hSt2⟩ := hA σ μ (xs (nI i + nI 1).toNatClampNeg) (xs (nI i + nI 2).toNatClampNeg) (xs (nI i + nI 3).toNatClampNeg) (xs (nI i + nI 4).toNatClampNeg) hSt
  refine lv_aload_n hx hb dL_law_509 rfl (lv_at hl 1 rfl) ?_
  refine lv_aload_n hx hb dL_law_510 rfl (lv_at hl 0 rfl) ?_
  refine lv_iload_n hx hb dL_law_511 rfl (lv_at hl 3 rfl) ?_
  refine lv_iconst (v := nI 1) hx hb dL_law_512 (by decide) ?_
  refine lv_iadd hx hb dL_law_513 ?_
  refine va_sld hx hb hX hbl hbA hS (lvin (by omega) hL) dL_law_514 ?_
  refine lv_aload_n hx hb dL_law_515 rfl (lv_at hl 0 rfl) ?_
  refine lv_iload_n hx hb dL_law_516 rfl (lv_at hl 3 rfl) ?_
  refine lv_iconst (v := nI 2) hx hb dL_law_517 (by decide) ?_
  refine lv_iadd hx hb dL_law_518 ?_
  refine va_sld hx hb hX hbl hbA hS (lvin (by omega) hL) dL_law_519 ?_
  refine lv_aload_n hx hb dL_law_520 rfl (lv_at hl 0 rfl) ?_
  refine lv_iload_n hx hb dL_law_521 rfl (lv_at hl 3 rfl) ?_
  refine lv_iconst (v := nI 3) hx hb dL_law_522 (by decide) ?_
  refine lv_iadd hx hb dL_law_523 ?_
  refine va_sld hx hb hX hbl hbA hS (lvin (by omega) hL) dL_law_524 ?_
  refine lv_aload_n hx hb dL_law_525 rfl (lv_at hl 0 rfl) ?_
  refine lv_iload_n hx hb dL_law_526 rfl (lv_at hl 3 rfl) ?_
  refine lv_iconst (v := nI 4) hx hb dL_law_527 (by decide) ?_
  refine lv_iadd hx hb dL_law_528 ?_
  refine va_sld hx hb hX hbl hbA hS (lvin (by omega) hL) dL_law_529 ?_
  refine va_calli (va_runV (As := [.int (xs (nI i + nI 1).toNatClampNeg), .int (xs (nI i + nI 2).toNatClampNeg), .int (xs (nI i + nI 3).toNatClampNeg), .int (xs (nI i + nI 4).toNatClampNeg)]) (rest := []) ⟨hx, hb, hml, hown, hts⟩ (kX11_divide l D G ub σ (xs (nI i + nI 1).toNatClampNeg) (xs (nI i + nI 2).toNatClampNeg) (xs (nI i + nI 3).toNatClampNeg) (xs (nI i + nI 4).toNatClampNeg) (r, σ2) e1) (cwV 4 hts (lwW_gV mw_712 mw_713 mw_714 mw_1 mw_715) rfl rfl rfl (by decide +kernel) ⟨Nat.le_of_ble_eq_true rfl, Nat.le_of_ble_eq_true rfl⟩) ⟨fun a U g mk q => ⟨q.1, xPre_call q.2⟩, va_recv F.1 hP rfl (xg_7 (k := 105) rfl), fun U hU hW => ⟨rfl, xPre_law F hS hP hU hW⟩⟩ rfl rfl hl.1 rfl (lv_room (Nat.le_of_ble_eq_true rfl)) dL_law_530 ⟨Nat.le_refl _, Nat.le_refl _⟩) hS (fun q _ h => lwF_x F h) (fun q h => lwF_x F h) (fun r1 u t H1 locs ht hvm hw hB hz1 hq1 hS => ?_)
  obtain ⟨hw1, hw2⟩ := hw
  obtain rfl : r1 = r := hw1
  obtain rfl : u = σ2 := hw2
  have hP := hB.1
  rw [ht] at hP
  have hM := m_frame F hM hq1
  refine W.widen (k := 600000) (n := 7302250) (Nat.le_refl _) (Nat.le_refl _) ?_
  refine lv_aload_n hx hb dL_law_533 rfl (lv_at hl 2 rfl) ?_
  refine lv_aload_n hx hb dL_law_534 rfl (lv_at hl 0 rfl) ?_
  refine lv_iload_n hx hb dL_law_535 rfl (lv_at hl 3 rfl) ?_
  refine lv_iconst (v := nI 1) hx hb dL_law_536 (by decide) ?_
  refine lv_iadd hx hb dL_law_537 ?_
  refine va_sld hx hb hX hbl hbA hS (lvin (by omega) hL) dL_law_538 ?_
  refine lv_aload_n hx hb dL_law_539 rfl (lv_at hl 0 rfl) ?_
  refine lv_iload_n hx hb dL_law_540 rfl (lv_at hl 3 rfl) ?_
  refine lv_iconst (v := nI 2) hx hb dL_law_541 (by decide) ?_
  refine lv_iadd hx hb dL_law_542 ?_
  refine va_sld hx hb hX hbl hbA hS (lvin (by omega) hL) dL_law_543 ?_
  refine lv_aload_n hx hb dL_law_544 rfl (lv_at hl 0 rfl) ?_
  refine lv_iload_n hx hb dL_law_545 rfl (lv_at hl 3 rfl) ?_
  refine lv_iconst (v := nI 3) hx hb dL_law_546 (by decide) ?_
  refine lv_iadd hx hb dL_law_547 ?_
  refine va_sld hx hb hX hbl hbA hS (lvin (by omega) hL) dL_law_548 ?_
  refine lv_aload_n hx hb dL_law_549 rfl (lv_at hl 0 rfl) ?_
  refine lv_iload_n hx hb dL_law_550 rfl (lv_at hl 3 rfl) ?_
  refine lv_iconst (v := nI 4) hx hb dL_law_551 (by decide) ?_
  refine lv_iadd hx hb dL_law_552 ?_
  refine va_sld hx hb hX hbl hbA hS (lvin (by omega) hL) dL_law_553 ?_
  refine va_calli (va_runV (As := [.int (xs (nI i + nI 1).toNatClampNeg), .int (xs (nI i + nI 2).toNatClampNeg), .int (xs (nI i + nI 3).toNatClampNeg), .int (xs (nI i + nI 4).toNatClampNeg)]) (rest := [.int r1]) ⟨hx, hb, hml, hown, hts⟩ (kX12_divide l D G2 μ (xs (nI i + nI 1).toNatClampNeg) (xs (nI i + nI 2).toNatClampNeg) (xs (nI i + nI 3).toNatClampNeg) (xs (nI i + nI 4).toNatClampNeg) (r1, μ2) e2) (cwV 4 hts (lwW_gV mw_1148 mw_1149 mw_1150 mw_14 mw_1151) rfl rfl rfl (by decide +kernel) ⟨Nat.le_of_ble_eq_true rfl, Nat.le_of_ble_eq_true rfl⟩) ⟨fun a U g mk q => ⟨q.1, mPre_call q.2⟩, va_recv F.1 hM rfl (mg_2 (k := 28) rfl), fun U hU hW => ⟨rfl, mPre_law F hM hU hW⟩⟩ rfl rfl hl.1 rfl (lv_room (Nat.le_of_ble_eq_true rfl)) dL_law_554 ⟨Nat.le_refl _, Nat.le_refl _⟩) hS (fun q _ h => lwF_m F h) (fun q h => lwF_m F h) (fun r3 u3 t H2 locs ht hvm hw hB hz1 hq1 hS => ?_)
  obtain ⟨hw1, hw2⟩ := hw
  obtain rfl : r3 = r1 := hw1
  obtain rfl : u3 = μ2 := hw2
  have hM := hB.1
  rw [ht] at hM
  have hP := x_frame F hP hq1
  refine W.widen (k := 600000) (n := 7302250) (Nat.le_refl _) (Nat.le_refl _) ?_
  exact lv_icmp_eq (tgt := 1302) hx hb dL_law_557 (by decide) (fun _ => kk _ _ _ _ _ hSt2 hP hM hS hl) (fun hc => absurd rfl hc)
set_option maxHeartbeats 4000000 in
set_option maxRecDepth 100000 in
theorem lc_12 {p : Program} {l : Launch} {e : Env} {s : State} {m : MethodId} {below : List Frame} {meth : Method} {c : Code} {D : va_G} {G G2 : xG} {ub : xB} {b L : Nat} {xs : Nat → Int32} {St : QMem → QMem → Prop} (C0 : lw_At p s m meth c b L xs) (F : lwF D G G2 ub s) (hL : L ≤ 3072) (hA : ∀ (σ μ : QMem) (a1 : Int32) (a2 : Int32) (a3 : Int32), St σ μ → ∃ (r : Int32) (σ2 μ2 : QMem), fX11_common a1 a2 a3 σ = some (r, σ2) ∧ fX12_common a1 a2 a3 μ = some (r, μ2) ∧ St σ2 μ2) (i : Nat) (hi : i + 6 ≤ L) (σ μ : QMem) (hSt : St σ μ) (H : Heap) (locs : List Loc) (ls : Array Slot) (hP : va_P D vwCl (xW G σ) H) (hM : va_P D vwCl (mW G2 μ) H) (hS : va_S (fun q : Nat => s.heap.size ≤ q) s.heap H locs) (hl : lv_has ls 4 [(0, .ref b), (1, .ref (G.1 105)), (2, .ref (G2.1 28)), (3, .int (nI i))]) (kk : ∀ (σ μ : QMem) (H : Heap) (locs : List Loc) (ls : Array Slot), St σ μ → va_P D vwCl (xW G σ) H → va_P D vwCl (mW G2 μ) H → va_S (fun q : Nat => s.heap.size ≤ q) s.heap H locs → lv_has ls 4 [(0, .ref b), (1, .ref (G.1 105)), (2, .ref (G2.1 28)), (3, .int (nI i))] → W p l e room_1 s m #[Value.ref b] below meth c H locs 600000 7302250 (lw_Z below #[Value.ref b] s) (F0 m 1302 ls [])) : W p l e room_1 s m #[Value.ref b] below meth c H locs 600000 7302250 (lw_Z below #[Value.ref b] s) (F0 m 562 ls []) := by
  obtain ⟨hx, hb, hr, hml, hown, hts0, hX, hbl, hlocks, hgv⟩ := C0
  have hts : ∀ w ∈ lwW, w.before #[Value.ref b] s = true := fun w hw => hts0 w (lwW_ok hw)
  have hbA : ¬ (fun q : Nat => s.heap.size ≤ q) b := Nat.not_le.mpr hbl
  obtain ⟨r, σ2, μ2, e1, e2, hSt2⟩ := hA σ μ (xs (nI i + nI 1).toNatClampNeg) (xs (nI i + nI 2).toNatClampNeg) (xs (nI i + nI 3).toNatClampNeg) hSt
  refine lv_aload_n hx hb dL_law_562 rfl (lv_at hl 1 rfl) ?_
  refine lv_aload_n hx hb dL_law_563 rfl (lv_at hl 0 rfl) ?_
  refine lv_iload_n hx hb dL_law_564 rfl (lv_at hl 3 rfl) ?_
  refine lv_iconst (v := nI 1) hx hb dL_law_565 (by decide) ?_
  refine lv_iadd hx hb dL_law_566 ?_
  refine va_sld hx hb hX hbl hbA hS (lvin (by omega) hL) dL_law_567 ?_
  refine lv_aload_n hx hb dL_law_568 rfl (lv_at hl 0 rfl) ?_
  refine lv_iload_n hx hb dL_law_569 rfl (lv_at hl 3 rfl) ?_
  refine lv_iconst (v := nI 2) hx hb dL_law_570 (by decide) ?_
  refine lv_iadd hx hb dL_law_571 ?_
  refine va_sld hx hb hX hbl hbA hS (lvin (by omega) hL) dL_law_572 ?_
  refine lv_aload_n hx hb dL_law_573 rfl (lv_at hl 0 rfl) ?_
  refine lv_iload_n hx hb dL_law_574 rfl (lv_at hl 3 rfl) ?_
  refine lv_iconst (v := nI 3) hx hb dL_law_575 (by decide) ?_
  refine lv_iadd hx hb dL_law_576 ?_
  refine va_sld hx hb hX hbl hbA hS (lvin (by omega) hL) dL_law_577 ?_
  refine va_calli (va_runV (As := [.int (xs (nI i + nI 1).toNatClampNeg), .int (xs (nI i + nI 2).toNatClampNeg), .int (xs (nI i + nI 3).toNatClampNeg)]) (rest := []) ⟨hx, hb, hml, hown, hts⟩ (kX11_common l D G ub σ (xs (nI i + nI 1).toNatClampNeg) (xs (nI i + nI 2).toNatClampNeg) (xs (nI i + nI 3).toNatClampNeg) (r, σ2) e1) (cwV 3 hts (lwW_gV mw_717 mw_718 mw_719 mw_1 mw_720) rfl rfl rfl (by decide +kernel) ⟨Nat.le_of_ble_eq_true rfl, Nat.le_of_ble_eq_true rfl⟩) ⟨fun a U g mk q => ⟨q.1, xPre_call q.2⟩, va_recv F.1 hP rfl (xg_7 (k := 105) rfl), fun U hU hW => ⟨rfl, xPre_law F hS hP hU hW⟩⟩ rfl rfl hl.1 rfl (lv_room (Nat.le_of_ble_eq_true rfl)) dL_law_578 ⟨Nat.le_refl _, Nat.le_refl _⟩) hS (fun q _ h => lwF_x F h) (fun q h => lwF_x F h) (fun r1 u t H1 locs ht hvm hw hB hz1 hq1 hS => ?_)
  obtain ⟨hw1, hw2⟩ := hw
  obtain rfl : r1 = r := hw1
  obtain rfl : u = σ2 := hw2
  have hP := hB.1
  rw [ht] at hP
  have hM := m_frame F hM hq1
  refine W.widen (k := 600000) (n := 7302250) (Nat.le_refl _) (Nat.le_refl _) ?_
  refine lv_aload_n hx hb dL_law_581 rfl (lv_at hl 2 rfl) ?_
  refine lv_aload_n hx hb dL_law_582 rfl (lv_at hl 0 rfl) ?_
  refine lv_iload_n hx hb dL_law_583 rfl (lv_at hl 3 rfl) ?_
  refine lv_iconst (v := nI 1) hx hb dL_law_584 (by decide) ?_
  refine lv_iadd hx hb dL_law_585 ?_
  refine va_sld hx hb hX hbl hbA hS (lvin (by omega) hL) dL_law_586 ?_
  refine lv_aload_n hx hb dL_law_587 rfl (lv_at hl 0 rfl) ?_
  refine lv_iload_n hx hb dL_law_588 rfl (lv_at hl 3 rfl) ?_
  refine lv_iconst (v := nI 2) hx hb dL_law_589 (by decide) ?_
  refine lv_iadd hx hb dL_law_590 ?_
  refine va_sld hx hb hX hbl hbA hS (lvin (by omega) hL) dL_law_591 ?_
  refine lv_aload_n hx hb dL_law_592 rfl (lv_at hl 0 rfl) ?_
  refine lv_iload_n hx hb dL_law_593 rfl (lv_at hl 3 rfl) ?_
  refine lv_iconst (v := nI 3) hx hb dL_law_594 (by decide) ?_
  refine lv_iadd hx hb dL_law_595 ?_
  refine va_sld hx hb hX hbl hbA hS (lvin (by omega) hL) dL_law_596 ?_
  refine va_calli (va_runV (As := [.int (xs (nI i + nI 1).toNatClampNeg), .int (xs (nI i + nI 2).toNatClampNeg), .int (xs (nI i + nI 3).toNatClampNeg)]) (rest := [.int r1]) ⟨hx, hb, hml, hown, hts⟩ (kX12_common l D G2 μ (xs (nI i + nI 1).toNatClampNeg) (xs (nI i + nI 2).toNatClampNeg) (xs (nI i + nI 3).toNatClampNeg) (r1, μ2) e2) (cwV 3 hts (lwW_gV mw_1163 mw_1164 mw_1165 mw_14 mw_1166) rfl rfl rfl (by decide +kernel) ⟨Nat.le_of_ble_eq_true rfl, Nat.le_of_ble_eq_true rfl⟩) ⟨fun a U g mk q => ⟨q.1, mPre_call q.2⟩, va_recv F.1 hM rfl (mg_2 (k := 28) rfl), fun U hU hW => ⟨rfl, mPre_law F hM hU hW⟩⟩ rfl rfl hl.1 rfl (lv_room (Nat.le_of_ble_eq_true rfl)) dL_law_597 ⟨Nat.le_refl _, Nat.le_refl _⟩) hS (fun q _ h => lwF_m F h) (fun q h => lwF_m F h) (fun r3 u3 t H2 locs ht hvm hw hB hz1 hq1 hS => ?_)
  obtain ⟨hw1, hw2⟩ := hw
  obtain rfl : r3 = r1 := hw1
  obtain rfl : u3 = μ2 := hw2
  have hM := hB.1
  rw [ht] at hM
  have hP := x_frame F hP hq1
  refine W.widen (k := 600000) (n := 7302250) (Nat.le_refl _) (Nat.le_refl _) ?_
  exact lv_icmp_eq (tgt := 1302) hx hb dL_law_600 (by decide) (fun _ => kk _ _ _ _ _ hSt2 hP hM hS hl) (fun hc => absurd rfl hc)
set_option maxHeartbeats 4000000 in
set_option maxRecDepth 100000 in
theorem lc_13 {p : Program} {l : Launch} {e : Env} {s : State} {m : MethodId} {below : List Frame} {meth : Method} {c : Code} {D : va_G} {G G2 : xG} {ub : xB} {b L : Nat} {xs : Nat → Int32} {St : QMem → QMem → Prop} (C0 : lw_At p s m meth c b L xs) (F : lwF D G G2 ub s) (hL : L ≤ 3072) (hA : ∀ (σ μ : QMem), St σ μ → ∃ (r : Int32) (σ2 μ2 : QMem), fX11_undo σ = some (r, σ2) ∧ fX12_undo μ = some (r, μ2) ∧ St σ2 μ2) (i : Nat) (hi : i + 6 ≤ L) (σ μ : QMem) (hSt : St σ μ) (H : Heap) (locs : List Loc) (ls : Array Slot) (hP : va_P D vwCl (xW G σ) H) (hM : va_P D vwCl (mW G2 μ) H) (hS : va_S (fun q : Nat => s.heap.size ≤ q) s.heap H locs) (hl : lv_has ls 4 [(0, .ref b), (1, .ref (G.1 105)), (2, .ref (G2.1 28)), (3, .int (nI i))]) (kk : ∀ (σ μ : QMem) (H : Heap) (locs : List Loc) (ls : Array Slot), St σ μ → va_P D vwCl (xW G σ) H → va_P D vwCl (mW G2 μ) H → va_S (fun q : Nat => s.heap.size ≤ q) s.heap H locs → lv_has ls 4 [(0, .ref b), (1, .ref (G.1 105)), (2, .ref (G2.1 28)), (3, .int (nI i))] → W p l e room_1 s m #[Value.ref b] below meth c H locs 600000 7302250 (lw_Z below #[Value.ref b] s) (F0 m 1302 ls [])) : W p l e room_1 s m #[Value.ref b] below meth c H locs 600000 7302250 (lw_Z below #[Value.ref b] s) (F0 m 605 ls []) := by
  obtain ⟨hx, hb, hr, hml, hown, hts0, hX, hbl, hlocks, hgv⟩ := C0
  have hts : ∀ w ∈ lwW, w.before #[Value.ref b] s = true := fun w hw => hts0 w (lwW_ok hw)
  have hbA : ¬ (fun q : Nat => s.heap.size ≤ q) b := Nat.not_le.mpr hbl
  obtain ⟨r, σ2, μ2, e1, e2, hSt2⟩ := hA σ μ hSt
  refine lv_aload_n hx hb dL_law_605 rfl (lv_at hl 1 rfl) ?_
  refine va_calli (va_runV (As := []) (rest := []) ⟨hx, hb, hml, hown, hts⟩ (kX11_undo l D G ub σ (r, σ2) e1) (cwV 0 hts (lwW_gV mw_726 mw_727 mw_728 mw_1 mw_729) rfl rfl rfl (by decide +kernel) ⟨Nat.le_of_ble_eq_true rfl, Nat.le_of_ble_eq_true rfl⟩) ⟨fun a U g mk q => ⟨q.1, xPre_call q.2⟩, va_recv F.1 hP rfl (xg_7 (k := 105) rfl), fun U hU hW => ⟨rfl, xPre_law F hS hP hU hW⟩⟩ rfl rfl hl.1 rfl (lv_room (Nat.le_of_ble_eq_true rfl)) dL_law_606 ⟨Nat.le_refl _, Nat.le_refl _⟩) hS (fun q _ h => lwF_x F h) (fun q h => lwF_x F h) (fun r1 u t H1 locs ht hvm hw hB hz1 hq1 hS => ?_)
  obtain ⟨hw1, hw2⟩ := hw
  obtain rfl : r1 = r := hw1
  obtain rfl : u = σ2 := hw2
  have hP := hB.1
  rw [ht] at hP
  have hM := m_frame F hM hq1
  refine W.widen (k := 600000) (n := 7302250) (Nat.le_refl _) (Nat.le_refl _) ?_
  refine lv_aload_n hx hb dL_law_609 rfl (lv_at hl 2 rfl) ?_
  refine va_calli (va_runV (As := []) (rest := [.int r1]) ⟨hx, hb, hml, hown, hts⟩ (kX12_undo l D G2 μ (r1, μ2) e2) (cwV 0 hts (lwW_gV mw_1167 mw_1168 mw_1169 mw_14 mw_1170) rfl rfl rfl (by decide +kernel) ⟨Nat.le_of_ble_eq_true rfl, Nat.le_of_ble_eq_true rfl⟩) ⟨fun a U g mk q => ⟨q.1, mPre_call q.2⟩, va_recv F.1 hM rfl (mg_2 (k := 28) rfl), fun U hU hW => ⟨rfl, mPre_law F hM hU hW⟩⟩ rfl rfl hl.1 rfl (lv_room (Nat.le_of_ble_eq_true rfl)) dL_law_610 ⟨Nat.le_refl _, Nat.le_refl _⟩) hS (fun q _ h => lwF_m F h) (fun q h => lwF_m F h) (fun r3 u3 t H2 locs ht hvm hw hB hz1 hq1 hS => ?_)
  obtain ⟨hw1, hw2⟩ := hw
  obtain rfl : r3 = r1 := hw1
  obtain rfl : u3 = μ2 := hw2
  have hM := hB.1
  rw [ht] at hM
  have hP := x_frame F hP hq1
  refine W.widen (k := 600000) (n := 7302250) (Nat.le_refl _) (Nat.le_refl _) ?_
  exact lv_icmp_eq (tgt := 1302) hx hb dL_law_613 (by decide) (fun _ => kk _ _ _ _ _ hSt2 hP hM hS hl) (fun hc => absurd rfl hc)
set_option maxHeartbeats 4000000 in
set_option maxRecDepth 100000 in
theorem lc_14 {p : Program} {l : Launch} {e : Env} {s : State} {m : MethodId} {below : List Frame} {meth : Method} {c : Code} {D : va_G} {G G2 : xG} {ub : xB} {b L : Nat} {xs : Nat → Int32} {St : QMem → QMem → Prop} (C0 : lw_At p s m meth c b L xs) (F : lwF D G G2 ub s) (hL : L ≤ 3072) (hA : ∀ (σ μ : QMem) (a1 : Int32), St σ μ → ∃ (r : Int32) (σ2 μ2 : QMem), fX11_keep a1 σ = some (r, σ2) ∧ fX12_keep a1 μ = some (r, μ2) ∧ St σ2 μ2) (i : Nat) (hi : i + 6 ≤ L) (σ μ : QMem) (hSt : St σ μ) (H : Heap) (locs : List Loc) (ls : Array Slot) (hP : va_P D vwCl (xW G σ) H) (hM : va_P D vwCl (mW G2 μ) H) (hS : va_S (fun q : Nat => s.heap.size ≤ q) s.heap H locs) (hl : lv_has ls 4 [(0, .ref b), (1, .ref (G.1 105)), (2, .ref (G2.1 28)), (3, .int (nI i))]) (kk : ∀ (σ μ : QMem) (H : Heap) (locs : List Loc) (ls : Array Slot), St σ μ → va_P D vwCl (xW G σ) H → va_P D vwCl (mW G2 μ) H → va_S (fun q : Nat => s.heap.size ≤ q) s.heap H locs → lv_has ls 4 [(0, .ref b), (1, .ref (G.1 105)), (2, .ref (G2.1 28)), (3, .int (nI i))] → W p l e room_1 s m #[Value.ref b] below meth c H locs 600000 7302250 (lw_Z below #[Value.ref b] s) (F0 m 1302 ls [])) : W p l e room_1 s m #[Value.ref b] below meth c H locs 600000 7302250 (lw_Z below #[Value.ref b] s) (F0 m 618 ls []) := by
  obtain ⟨hx, hb, hr, hml, hown, hts0, hX, hbl, hlocks, hgv⟩ := C0
  have hts : ∀ w ∈ lwW, w.before #[Value.ref b] s = true := fun w hw => hts0 w (lwW_ok hw)
  have hbA : ¬ (fun q : Nat => s.heap.size ≤ q) b := Nat.not_le.mpr hbl
  obtain ⟨r, σ2, μ2, e1, e2, hSt2⟩ := hA σ μ (xs (nI i + nI 1).toNatClampNeg) hSt
  refine lv_aload_n hx hb dL_law_618 rfl (lv_at hl 1 rfl) ?_
  refine lv_aload_n hx hb dL_law_619 rfl (lv_at hl 0 rfl) ?_
  refine lv_iload_n hx hb dL_law_620 rfl (lv_at hl 3 rfl) ?_
  refine lv_iconst (v := nI 1) hx hb dL_law_621 (by decide) ?_
  refine lv_iadd hx hb dL_law_622 ?_
  refine va_sld hx hb hX hbl hbA hS (lvin (by omega) hL) dL_law_623 ?_
  refine va_calli (va_runV (As := [.int (xs (nI i + nI 1).toNatClampNeg)]) (rest := []) ⟨hx, hb, hml, hown, hts⟩ (kX11_keep l D G ub σ (xs (nI i + nI 1).toNatClampNeg) (r, σ2) e1) (cwV 1 hts (lwW_gV mw_738 mw_739 mw_740 mw_1 mw_741) rfl rfl rfl (by decide +kernel) ⟨Nat.le_of_ble_eq_true rfl, Nat.le_of_ble_eq_true rfl⟩) ⟨fun a U g mk q => ⟨q.1, xPre_call q.2⟩, va_recv F.1 hP rfl (xg_7 (k := 105) rfl), fun U hU hW => ⟨rfl, xPre_law F hS hP hU hW⟩⟩ rfl rfl hl.1 rfl (lv_room (Nat.le_of_ble_eq_true rfl)) dL_law_624 ⟨Nat.le_refl _, Nat.le_refl _⟩) hS (fun q _ h => lwF_x F h) (fun q h => lwF_x F h) (fun r1 u t H1 locs ht hvm hw hB hz1 hq1 hS => ?_)
  obtain ⟨hw1, hw2⟩ := hw
  obtain rfl : r1 = r := hw1
  obtain rfl : u = σ2 := hw2
  have hP := hB.1
  rw [ht] at hP
  have hM := m_frame F hM hq1
  refine W.widen (k := 600000) (n := 7302250) (Nat.le_refl _) (Nat.le_refl _) ?_
  refine lv_aload_n hx hb dL_law_627 rfl (lv_at hl 2 rfl) ?_
  refine lv_aload_n hx hb dL_law_628 rfl (lv_at hl 0 rfl) ?_
  refine lv_iload_n hx hb dL_law_629 rfl (lv_at hl 3 rfl) ?_
  refine lv_iconst (v := nI 1) hx hb dL_law_630 (by decide) ?_
  refine lv_iadd hx hb dL_law_631 ?_
  refine va_sld hx hb hX hbl hbA hS (lvin (by omega) hL) dL_law_632 ?_
  refine va_calli (va_runV (As := [.int (xs (nI i + nI 1).toNatClampNeg)]) (rest := [.int r1]) ⟨hx, hb, hml, hown, hts⟩ (kX12_keep l D G2 μ (xs (nI i + nI 1).toNatClampNeg) (r1, μ2) e2) (cwV 1 hts (lwW_gV mw_1171 mw_1172 mw_1173 mw_14 mw_1174) rfl rfl rfl (by decide +kernel) ⟨Nat.le_of_ble_eq_true rfl, Nat.le_of_ble_eq_true rfl⟩) ⟨fun a U g mk q => ⟨q.1, mPre_call q.2⟩, va_recv F.1 hM rfl (mg_2 (k := 28) rfl), fun U hU hW => ⟨rfl, mPre_law F hM hU hW⟩⟩ rfl rfl hl.1 rfl (lv_room (Nat.le_of_ble_eq_true rfl)) dL_law_633 ⟨Nat.le_refl _, Nat.le_refl _⟩) hS (fun q _ h => lwF_m F h) (fun q h => lwF_m F h) (fun r3 u3 t H2 locs ht hvm hw hB hz1 hq1 hS => ?_)
  obtain ⟨hw1, hw2⟩ := hw
  obtain rfl : r3 = r1 := hw1
  obtain rfl : u3 = μ2 := hw2
  have hM := hB.1
  rw [ht] at hM
  have hP := x_frame F hP hq1
  refine W.widen (k := 600000) (n := 7302250) (Nat.le_refl _) (Nat.le_refl _) ?_
  exact lv_icmp_eq (tgt := 1302) hx hb dL_law_636 (by decide) (fun _ => kk _ _ _ _ _ hSt2 hP hM hS hl) (fun hc => absurd rfl hc)
set_option maxHeartbeats 4000000 in
set_option maxRecDepth 100000 in
theorem lc_15 {p : Program} {l : Launch} {e : Env} {s : State} {m : MethodId} {below : List Frame} {meth : Method} {c : Code} {D : va_G} {G G2 : xG} {ub : xB} {b L : Nat} {xs : Nat → Int32} {St : QMem → QMem → Prop} (C0 : lw_At p s m meth c b L xs) (F : lwF D G G2 ub s) (hL : L ≤ 3072) (hA : ∀ (σ μ : QMem) (a1 : Int32), St σ μ → ∃ (r : Int32) (σ2 μ2 : QMem), fX11_back a1 σ = some (r, σ2) ∧ fX12_back a1 μ = some (r, μ2) ∧ St σ2 μ2) (i : Nat) (hi : i + 6 ≤ L) (σ μ : QMem) (hSt : St σ μ) (H : Heap) (locs : List Loc) (ls : Array Slot) (hP : va_P D vwCl (xW G σ) H) (hM : va_P D vwCl (mW G2 μ) H) (hS : va_S (fun q : Nat => s.heap.size ≤ q) s.heap H locs) (hl : lv_has ls 4 [(0, .ref b), (1, .ref (G.1 105)), (2, .ref (G2.1 28)), (3, .int (nI i))]) (kk : ∀ (σ μ : QMem) (H : Heap) (locs : List Loc) (ls : Array Slot), St σ μ → va_P D vwCl (xW G σ) H → va_P D vwCl (mW G2 μ) H → va_S (fun q : Nat => s.heap.size ≤ q) s.heap H locs → lv_has ls 4 [(0, .ref b), (1, .ref (G.1 105)), (2, .ref (G2.1 28)), (3, .int (nI i))] → W p l e room_1 s m #[Value.ref b] below meth c H locs 600000 7302250 (lw_Z below #[Value.ref b] s) (F0 m 1302 ls [])) : W p l e room_1 s m #[Value.ref b] below meth c H locs 600000 7302250 (lw_Z below #[Value.ref b] s) (F0 m 641 ls []) := by
  obtain ⟨hx, hb, hr, hml, hown, hts0, hX, hbl, hlocks, hgv⟩ := C0
  have hts : ∀ w ∈ lwW, w.before #[Value.ref b] s = true := fun w hw => hts0 w (lwW_ok hw)
  have hbA : ¬ (fun q : Nat => s.heap.size ≤ q) b := Nat.not_le.mpr hbl
  obtain ⟨r, σ2, μ2, e1, e2, hSt2⟩ := hA σ μ (xs (nI i + nI 1).toNatClampNeg) hSt
  refine lv_aload_n hx hb dL_law_641 rfl (lv_at hl 1 rfl) ?_
  refine lv_aload_n hx hb dL_law_642 rfl (lv_at hl 0 rfl) ?_
  refine lv_iload_n hx hb dL_law_643 rfl (lv_at hl 3 rfl) ?_
  refine lv_iconst (v := nI 1) hx hb dL_law_644 (by decide) ?_
  refine lv_iadd hx hb dL_law_645 ?_
  refine va_sld hx hb hX hbl hbA hS (lvin (by omega) hL) dL_law_646 ?_
  refine va_calli (va_runV (As := [.int (xs (nI i + nI 1).toNatClampNeg)]) (rest := []) ⟨hx, hb, hml, hown, hts⟩ (kX11_back l D G ub σ (xs (nI i + nI 1).toNatClampNeg) (r, σ2) e1) (cwV 1 hts (lwW_gV mw_751 mw_752 mw_753 mw_1 mw_754) rfl rfl rfl (by decide +kernel) ⟨Nat.le_of_ble_eq_true rfl, Nat.le_of_ble_eq_true rfl⟩) ⟨fun a U g mk q => ⟨q.1, xPre_call q.2⟩, va_recv F.1 hP rfl (xg_7 (k := 105) rfl), fun U hU hW => ⟨rfl, xPre_law F hS hP hU hW⟩⟩ rfl rfl hl.1 rfl (lv_room (Nat.le_of_ble_eq_true rfl)) dL_law_647 ⟨Nat.le_refl _, Nat.le_refl _⟩) hS (fun q _ h => lwF_x F h) (fun q h => lwF_x F h) (fun r1 u t H1 locs ht hvm hw hB hz1 hq1 hS => ?_)
  obtain ⟨hw1, hw2⟩ := hw
  obtain rfl : r1 = r := hw1
  obtain rfl : u = σ2 := hw2
  have hP := hB.1
  rw [ht] at hP
  have hM := m_frame F hM hq1
  refine W.widen (k := 600000) (n := 7302250) (Nat.le_refl _) (Nat.le_refl _) ?_
  refine lv_aload_n hx hb dL_law_650 rfl (lv_at hl 2 rfl) ?_
  refine lv_aload_n hx hb dL_law_651 rfl (lv_at hl 0 rfl) ?_
  refine lv_iload_n hx hb dL_law_652 rfl (lv_at hl 3 rfl) ?_
  refine lv_iconst (v := nI 1) hx hb dL_law_653 (by decide) ?_
  refine lv_iadd hx hb dL_law_654 ?_
  refine va_sld hx hb hX hbl hbA hS (lvin (by omega) hL) dL_law_655 ?_
  refine va_calli (va_runV (As := [.int (xs (nI i + nI 1).toNatClampNeg)]) (rest := [.int r1]) ⟨hx, hb, hml, hown, hts⟩ (kX12_back l D G2 μ (xs (nI i + nI 1).toNatClampNeg) (r1, μ2) e2) (cwV 1 hts (lwW_gV mw_1179 mw_1180 mw_1181 mw_14 mw_1182) rfl rfl rfl (by decide +kernel) ⟨Nat.le_of_ble_eq_true rfl, Nat.le_of_ble_eq_true rfl⟩) ⟨fun a U g mk q => ⟨q.1, mPre_call q.2⟩, va_recv F.1 hM rfl (mg_2 (k := 28) rfl), fun U hU hW => ⟨rfl, mPre_law F hM hU hW⟩⟩ rfl rfl hl.1 rfl (lv_room (Nat.le_of_ble_eq_true rfl)) dL_law_656 ⟨Nat.le_refl _, Nat.le_refl _⟩) hS (fun q _ h => lwF_m F h) (fun q h => lwF_m F h) (fun r3 u3 t H2 locs ht hvm hw hB hz1 hq1 hS => ?_)
  obtain ⟨hw1, hw2⟩ := hw
  obtain rfl : r3 = r1 := hw1
  obtain rfl : u3 = μ2 := hw2
  have hM := hB.1
  rw [ht] at hM
  have hP := x_frame F hP hq1
  refine W.widen (k := 600000) (n := 7302250) (Nat.le_refl _) (Nat.le_refl _) ?_
  exact lv_icmp_eq (tgt := 1302) hx hb dL_law_659 (by decide) (fun _ => kk _ _ _ _ _ hSt2 hP hM hS hl) (fun hc => absurd rfl hc)
set_option maxHeartbeats 4000000 in
set_option maxRecDepth 100000 in
theorem lc_16 {p : Program} {l : Launch} {e : Env} {s : State} {m : MethodId} {below : List Frame} {meth : Method} {c : Code} {D : va_G} {G G2 : xG} {ub : xB} {b L : Nat} {xs : Nat → Int32} {St : QMem → QMem → Prop} (C0 : lw_At p s m meth c b L xs) (F : lwF D G G2 ub s) (hL : L ≤ 3072) (hA : ∀ (σ μ : QMem) (a1 : Int32) (a2 : Int32) (a3 : Int32), St σ μ → ∃ (r : Int32) (σ2 μ2 : QMem), fX11_divides a1 a2 a3 σ = some (r, σ2) ∧ fX12_divides a1 a2 a3 μ = some (r, μ2) ∧ St σ2 μ2) (i : Nat) (hi : i + 6 ≤ L) (σ μ : QMem) (hSt : St σ μ) (H : Heap) (locs : List Loc) (ls : Array Slot) (hP : va_P D vwCl (xW G σ) H) (hM : va_P D vwCl (mW G2 μ) H) (hS : va_S (fun q : Nat => s.heap.size ≤ q) s.heap H locs) (hl : lv_has ls 4 [(0, .ref b), (1, .ref (G.1 105)), (2, .ref (G2.1 28)), (3, .int (nI i))]) (kk : ∀ (σ μ : QMem) (H : Heap) (locs : List Loc) (ls : Array Slot), St σ μ → va_P D vwCl (xW G σ) H → va_P D vwCl (mW G2 μ) H → va_S (fun q : Nat => s.heap.size ≤ q) s.heap H locs → lv_has ls 4 [(0, .ref b), (1, .ref (G.1 105)), (2, .ref (G2.1 28)), (3, .int (nI i))] → W p l e room_1 s m #[Value.ref b] below meth c H locs 600000 7302250 (lw_Z below #[Value.ref b] s) (F0 m 1302 ls [])) : W p l e room_1 s m #[Value.ref b] below meth c H locs 600000 7302250 (lw_Z below #[Value.ref b] s) (F0 m 664 ls []) := by
  obtain ⟨hx, hb, hr, hml, hown, hts0, hX, hbl, hlocks, hgv⟩ := C0
  have hts : ∀ w ∈ lwW, w.before #[Value.ref b] s = true := fun w hw => hts0 w (lwW_ok hw)
  have hbA : ¬ (fun q : Nat => s.heap.size ≤ q) b := Nat.not_le.mpr hbl
  obtain ⟨r, σ2, μ2, e1, e2, hSt2⟩ := hA σ μ (xs (nI i + nI 1).toNatClampNeg) (xs (nI i + nI 2).toNatClampNeg) (xs (nI i + nI 3).toNatClampNeg) hSt
  refine lv_aload_n hx hb dL_law_664 rfl (lv_at hl 1 rfl) ?_
  refine lv_aload_n hx hb dL_law_665 rfl (lv_at hl 0 rfl) ?_
  refine lv_iload_n hx hb dL_law_666 rfl (lv_at hl 3 rfl) ?_
  refine lv_iconst (v := nI 1) hx hb dL_law_667 (by decide) ?_
  refine lv_iadd hx hb dL_law_668 ?_
  refine va_sld hx hb hX hbl hbA hS (lvin (by omega) hL) dL_law_669 ?_
  refine lv_aload_n hx hb dL_law_670 rfl (lv_at hl 0 rfl) ?_
  refine lv_iload_n hx hb dL_law_671 rfl (lv_at hl 3 rfl) ?_
  refine lv_iconst (v := nI 2) hx hb dL_law_672 (by decide) ?_
  refine lv_iadd hx hb dL_law_673 ?_
  refine va_sld hx hb hX hbl hbA hS (lvin (by omega) hL) dL_law_674 ?_
  refine lv_aload_n hx hb dL_law_675 rfl (lv_at hl 0 rfl) ?_
  refine lv_iload_n hx hb dL_law_676 rfl (lv_at hl 3 rfl) ?_
  refine lv_iconst (v := nI 3) hx hb dL_law_677 (by decide) ?_
  refine lv_iadd hx hb dL_law_678 ?_
  refine va_sld hx hb hX hbl hbA hS (lvin (by omega) hL) dL_law_679 ?_
  refine va_calli (va_runV (As := [.int (xs (nI i + nI 1).toNatClampNeg), .int (xs (nI i + nI 2).toNatClampNeg), .int (xs (nI i + nI 3).toNatClampNeg)]) (rest := []) ⟨hx, hb, hml, hown, hts⟩ (kX11_divides l D G ub σ (xs (nI i + nI 1).toNatClampNeg) (xs (nI i + nI 2).toNatClampNeg) (xs (nI i + nI 3).toNatClampNeg) (r, σ2) e1) (cwV 3 hts (lwW_gV mw_763 mw_764 mw_765 mw_1 mw_766) rfl rfl rfl (by decide +kernel) ⟨Nat.le_of_ble_eq_true rfl, Nat.le_of_ble_eq_true rfl⟩) ⟨fun a U g mk q => ⟨q.1, xPre_call q.2⟩, va_recv F.1 hP rfl (xg_7 (k := 105) rfl), fun U hU hW => ⟨rfl, xPre_law F hS hP hU hW⟩⟩ rfl rfl hl.1 rfl (lv_room (Nat.le_of_ble_eq_true rfl)) dL_law_680 ⟨Nat.le_refl _, Nat.le_refl _⟩) hS (fun q _ h => lwF_x F h) (fun q h => lwF_x F h) (fun r1 u t H1 locs ht hvm hw hB hz1 hq1 hS => ?_)
  obtain ⟨hw1, hw2⟩ := hw
  obtain rfl : r1 = r := hw1
  obtain rfl : u = σ2 := hw2
  have hP := hB.1
  rw [ht] at hP
  have hM := m_frame F hM hq1
  refine W.widen (k := 600000) (n := 7302250) (Nat.le_refl _) (Nat.le_refl _) ?_
  refine lv_aload_n hx hb dL_law_683 rfl (lv_at hl 2 rfl) ?_
  refine lv_aload_n hx hb dL_law_684 rfl (lv_at hl 0 rfl) ?_
  refine lv_iload_n hx hb dL_law_685 rfl (lv_at hl 3 rfl) ?_
  refine lv_iconst (v := nI 1) hx hb dL_law_686 (by decide) ?_
  refine lv_iadd hx hb dL_law_687 ?_
  refine va_sld hx hb hX hbl hbA hS (lvin (by omega) hL) dL_law_688 ?_
  refine lv_aload_n hx hb dL_law_689 rfl (lv_at hl 0 rfl) ?_
  refine lv_iload_n hx hb dL_law_690 rfl (lv_at hl 3 rfl) ?_
  refine lv_iconst (v := nI 2) hx hb dL_law_691 (by decide) ?_
  refine lv_iadd hx hb dL_law_692 ?_
  refine va_sld hx hb hX hbl hbA hS (lvin (by omega) hL) dL_law_693 ?_
  refine lv_aload_n hx hb dL_law_694 rfl (lv_at hl 0 rfl) ?_
  refine lv_iload_n hx hb dL_law_695 rfl (lv_at hl 3 rfl) ?_
  refine lv_iconst (v := nI 3) hx hb dL_law_696 (by decide) ?_
  refine lv_iadd hx hb dL_law_697 ?_
  refine va_sld hx hb hX hbl hbA hS (lvin (by omega) hL) dL_law_698 ?_
  refine va_calli (va_runV (As := [.int (xs (nI i + nI 1).toNatClampNeg), .int (xs (nI i + nI 2).toNatClampNeg), .int (xs (nI i + nI 3).toNatClampNeg)]) (rest := [.int r1]) ⟨hx, hb, hml, hown, hts⟩ (kX12_divides l D G2 μ (xs (nI i + nI 1).toNatClampNeg) (xs (nI i + nI 2).toNatClampNeg) (xs (nI i + nI 3).toNatClampNeg) (r1, μ2) e2) (cwV 3 hts (lwW_gV mw_1183 mw_1184 mw_1185 mw_14 mw_1186) rfl rfl rfl (by decide +kernel) ⟨Nat.le_of_ble_eq_true rfl, Nat.le_of_ble_eq_true rfl⟩) ⟨fun a U g mk q => ⟨q.1, mPre_call q.2⟩, va_recv F.1 hM rfl (mg_2 (k := 28) rfl), fun U hU hW => ⟨rfl, mPre_law F hM hU hW⟩⟩ rfl rfl hl.1 rfl (lv_room (Nat.le_of_ble_eq_true rfl)) dL_law_699 ⟨Nat.le_refl _, Nat.le_refl _⟩) hS (fun q _ h => lwF_m F h) (fun q h => lwF_m F h) (fun r3 u3 t H2 locs ht hvm hw hB hz1 hq1 hS => ?_)
  obtain ⟨hw1, hw2⟩ := hw
  obtain rfl : r3 = r1 := hw1
  obtain rfl : u3 = μ2 := hw2
  have hM := hB.1
  rw [ht] at hM
  have hP := x_frame F hP hq1
  refine W.widen (k := 600000) (n := 7302250) (Nat.le_refl _) (Nat.le_refl _) ?_
  exact lv_icmp_eq (tgt := 1302) hx hb dL_law_702 (by decide) (fun _ => kk _ _ _ _ _ hSt2 hP hM hS hl) (fun hc => absurd rfl hc)
set_option maxHeartbeats 4000000 in
set_option maxRecDepth 100000 in
theorem lc_17 {p : Program} {l : Launch} {e : Env} {s : State} {m : MethodId} {below : List Frame} {meth : Method} {c : Code} {D : va_G} {G G2 : xG} {ub : xB} {b L : Nat} {xs : Nat → Int32} {St : QMem → QMem → Prop} (C0 : lw_At p s m meth c b L xs) (F : lwF D G G2 ub s) (hL : L ≤ 3072) (hA : ∀ (σ μ : QMem) (a1 : Int32) (a2 : Int32) (a3 : Int32) (a4 : Int32), St σ μ → ∃ (r : Int32) (σ2 μ2 : QMem), fX11_nearest a1 a2 a3 a4 σ = some (r, σ2) ∧ fX12_nearest a1 a2 a3 a4 μ = some (r, μ2) ∧ St σ2 μ2) (i : Nat) (hi : i + 6 ≤ L) (σ μ : QMem) (hSt : St σ μ) (H : Heap) (locs : List Loc) (ls : Array Slot) (hP : va_P D vwCl (xW G σ) H) (hM : va_P D vwCl (mW G2 μ) H) (hS : va_S (fun q : Nat => s.heap.size ≤ q) s.heap H locs) (hl : lv_has ls 4 [(0, .ref b), (1, .ref (G.1 105)), (2, .ref (G2.1 28)), (3, .int (nI i))]) (kk : ∀ (σ μ : QMem) (H : Heap) (locs : List Loc) (ls : Array Slot), St σ μ → va_P D vwCl (xW G σ) H → va_P D vwCl (mW G2 μ) H → va_S (fun q : Nat => s.heap.size ≤ q) s.heap H locs → lv_has ls 4 [(0, .ref b), (1, .ref (G.1 105)), (2, .ref (G2.1 28)), (3, .int (nI i))] → W p l e room_1 s m #[Value.ref b] below meth c H locs 600000 7302250 (lw_Z below #[Value.ref b] s) (F0 m 1302 ls [])) : W p l e room_1 s m #[Value.ref b] below meth c H locs 600000 7302250 (lw_Z below #[Value.ref b] s) (F0 m 707 ls []) := by
  obtain ⟨hx, hb, hr, hml, hown, hts0, hX, hbl, hlocks, hgv⟩ := C0
  have hts : ∀ w ∈ lwW, w.before #[Value.ref b] s = true := fun w hw => hts0 w (lwW_ok hw)
  have hbA : ¬ (fun q : Nat => s.heap.size ≤ q) b := Nat.not_le.mpr hbl
  obtain ⟨r, σ2, μ2, e1, e2, hSt2⟩ := hA σ μ (xs (nI i + nI 1).toNatClampNeg) (xs (nI i + nI 2).toNatClampNeg) (xs (nI i + nI 3).toNatClampNeg) (xs (nI i + nI 4).toNatClampNeg) hSt
  refine lv_aload_n hx hb dL_law_707 rfl (lv_at hl 1 rfl) ?_
  refine lv_aload_n hx hb dL_law_708 rfl (lv_at hl 0 rfl) ?_
  refine lv_iload_n hx hb dL_law_709 rfl (lv_at hl 3 rfl) ?_
  refine lv_iconst (v := nI 1) hx hb dL_law_710 (by decide) ?_
  refine lv_iadd hx hb dL_law_711 ?_
  refine va_sld hx hb hX hbl hbA hS (lvin (by omega) hL) dL_law_712 ?_
  refine lv_aload_n hx hb dL_law_713 rfl (lv_at hl 0 rfl) ?_
  refine lv_iload_n hx hb dL_law_714 rfl (lv_at hl 3 rfl) ?_
  refine lv_iconst (v := nI 2) hx hb dL_law_715 (by decide) ?_
  refine lv_iadd hx hb dL_law_716 ?_
  refine va_sld hx hb hX hbl hbA hS (lvin (by omega) hL) dL_law_717 ?_
  refine lv_aload_n hx hb dL_law_718 rfl (lv_at hl 0 rfl) ?_
  refine lv_iload_n hx hb dL_law_719 rfl (lv_at hl 3 rfl) ?_
  refine lv_iconst (v := nI 3) hx hb dL_law_720 (by decide) ?_
  refine lv_iadd hx hb dL_law_721 ?_
  refine va_sld hx hb hX hbl hbA hS (lvin (by omega) hL) dL_law_722 ?_
  refine lv_aload_n hx hb dL_law_723 rfl (lv_at hl 0 rfl) ?_
  refine lv_iload_n hx hb dL_law_724 rfl (lv_at hl 3 rfl) ?_
  refine lv_iconst (v := nI 4) hx hb dL_law_725 (by decide) ?_
  refine lv_iadd hx hb dL_law_726 ?_
  refine va_sld hx hb hX hbl hbA hS (lvin (by omega) hL) dL_law_727 ?_
  refine va_calli (va_runV (As := [.int (xs (nI i + nI 1).toNatClampNeg), .int (xs (nI i + nI 2).toNatClampNeg), .int (xs (nI i + nI 3).toNatClampNeg), .int (xs (nI i + nI 4).toNatClampNeg)]) (rest := []) ⟨hx, hb, hml, hown, hts⟩ (kX11_nearest l D G ub σ (xs (nI i + nI 1).toNatClampNeg) (xs (nI i + nI 2).toNatClampNeg) (xs (nI i + nI 3).toNatClampNeg) (xs (nI i + nI 4).toNatClampNeg) (r, σ2) e1) (cwV 4 hts (lwW_gV mw_768 mw_769 mw_770 mw_1 mw_771) rfl rfl rfl (by decide +kernel) ⟨Nat.le_of_ble_eq_true rfl, Nat.le_of_ble_eq_true rfl⟩) ⟨fun a U g mk q => ⟨q.1, xPre_call q.2⟩, va_recv F.1 hP rfl (xg_7 (k := 105) rfl), fun U hU hW => ⟨rfl, xPre_law F hS hP hU hW⟩⟩ rfl rfl hl.1 rfl (lv_room (Nat.le_of_ble_eq_true rfl)) dL_law_728 ⟨Nat.le_refl _, Nat.le_refl _⟩) hS (fun q _ h => lwF_x F h) (fun q h => lwF_x F h) (fun r1 u t H1 locs ht hvm hw hB hz1 hq1 hS => ?_)
  obtain ⟨hw1, hw2⟩ := hw
  obtain rfl : r1 = r := hw1
  obtain rfl : u = σ2 := hw2
  have hP := hB.1
  rw [ht] at hP
  have hM := m_frame F hM hq1
  refine W.widen (k := 600000) (n := 7302250) (Nat.le_refl _) (Nat.le_refl _) ?_
  refine lv_aload_n hx hb dL_law_731 rfl (lv_at hl 2 rfl) ?_
  refine lv_aload_n hx hb dL_law_732 rfl (lv_at hl 0 rfl) ?_
  refine lv_iload_n hx hb dL_law_733 rfl (lv_at hl 3 rfl) ?_
  refine lv_iconst (v := nI 1) hx hb dL_law_734 (by decide) ?_
  refine lv_iadd hx hb dL_law_735 ?_
  refine va_sld hx hb hX hbl hbA hS (lvin (by omega) hL) dL_law_736 ?_
  refine lv_aload_n hx hb dL_law_737 rfl (lv_at hl 0 rfl) ?_
  refine lv_iload_n hx hb dL_law_738 rfl (lv_at hl 3 rfl) ?_
  refine lv_iconst (v := nI 2) hx hb dL_law_739 (by decide) ?_
  refine lv_iadd hx hb dL_law_740 ?_
  refine va_sld hx hb hX hbl hbA hS (lvin (by omega) hL) dL_law_741 ?_
  refine lv_aload_n hx hb dL_law_742 rfl (lv_at hl 0 rfl) ?_
  refine lv_iload_n hx hb dL_law_743 rfl (lv_at hl 3 rfl) ?_
  refine lv_iconst (v := nI 3) hx hb dL_law_744 (by decide) ?_
  refine lv_iadd hx hb dL_law_745 ?_
  refine va_sld hx hb hX hbl hbA hS (lvin (by omega) hL) dL_law_746 ?_
  refine lv_aload_n hx hb dL_law_747 rfl (lv_at hl 0 rfl) ?_
  refine lv_iload_n hx hb dL_law_748 rfl (lv_at hl 3 rfl) ?_
  refine lv_iconst (v := nI 4) hx hb dL_law_749 (by decide) ?_
  refine lv_iadd hx hb dL_law_750 ?_
  refine va_sld hx hb hX hbl hbA hS (lvin (by omega) hL) dL_law_751 ?_
  refine va_calli (va_runV (As := [.int (xs (nI i + nI 1).toNatClampNeg), .int (xs (nI i + nI 2).toNatClampNeg), .int (xs (nI i + nI 3).toNatClampNeg), .int (xs (nI i + nI 4).toNatClampNeg)]) (rest := [.int r1]) ⟨hx, hb, hml, hown, hts⟩ (kX12_nearest l D G2 μ (xs (nI i + nI 1).toNatClampNeg) (xs (nI i + nI 2).toNatClampNeg) (xs (nI i + nI 3).toNatClampNeg) (xs (nI i + nI 4).toNatClampNeg) (r1, μ2) e2) (cwV 4 hts (lwW_gV mw_1187 mw_1188 mw_1189 mw_14 mw_1190) rfl rfl rfl (by decide +kernel) ⟨Nat.le_of_ble_eq_true rfl, Nat.le_of_ble_eq_true rfl⟩) ⟨fun a U g mk q => ⟨q.1, mPre_call q.2⟩, va_recv F.1 hM rfl (mg_2 (k := 28) rfl), fun U hU hW => ⟨rfl, mPre_law F hM hU hW⟩⟩ rfl rfl hl.1 rfl (lv_room (Nat.le_of_ble_eq_true rfl)) dL_law_752 ⟨Nat.le_refl _, Nat.le_refl _⟩) hS (fun q _ h => lwF_m F h) (fun q h => lwF_m F h) (fun r3 u3 t H2 locs ht hvm hw hB hz1 hq1 hS => ?_)
  obtain ⟨hw1, hw2⟩ := hw
  obtain rfl : r3 = r1 := hw1
  obtain rfl : u3 = μ2 := hw2
  have hM := hB.1
  rw [ht] at hM
  have hP := x_frame F hP hq1
  refine W.widen (k := 600000) (n := 7302250) (Nat.le_refl _) (Nat.le_refl _) ?_
  exact lv_icmp_eq (tgt := 1302) hx hb dL_law_755 (by decide) (fun _ => kk _ _ _ _ _ hSt2 hP hM hS hl) (fun hc => absurd rfl hc)
set_option maxHeartbeats 4000000 in
set_option maxRecDepth 100000 in
theorem lc_18 {p : Program} {l : Launch} {e : Env} {s : State} {m : MethodId} {below : List Frame} {meth : Method} {c : Code} {D : va_G} {G G2 : xG} {ub : xB} {b L : Nat} {xs : Nat → Int32} {St : QMem → QMem → Prop} (C0 : lw_At p s m meth c b L xs) (F : lwF D G G2 ub s) (hL : L ≤ 3072) (hA : ∀ (σ μ : QMem) (a1 : Int32) (a2 : Int32) (a3 : Int32), St σ μ → ∃ (r : Int32) (σ2 μ2 : QMem), fX11_steps a1 a2 a3 σ = some (r, σ2) ∧ fX12_steps a1 a2 a3 μ = some (r, μ2) ∧ St σ2 μ2) (i : Nat) (hi : i + 6 ≤ L) (σ μ : QMem) (hSt : St σ μ) (H : Heap) (locs : List Loc) (ls : Array Slot) (hP : va_P D vwCl (xW G σ) H) (hM : va_P D vwCl (mW G2 μ) H) (hS : va_S (fun q : Nat => s.heap.size ≤ q) s.heap H locs) (hl : lv_has ls 4 [(0, .ref b), (1, .ref (G.1 105)), (2, .ref (G2.1 28)), (3, .int (nI i))]) (kk : ∀ (σ μ : QMem) (H : Heap) (locs : List Loc) (ls : Array Slot), St σ μ → va_P D vwCl (xW G σ) H → va_P D vwCl (mW G2 μ) H → va_S (fun q : Nat => s.heap.size ≤ q) s.heap H locs → lv_has ls 4 [(0, .ref b), (1, .ref (G.1 105)), (2, .ref (G2.1 28)), (3, .int (nI i))] → W p l e room_1 s m #[Value.ref b] below meth c H locs 600000 7302250 (lw_Z below #[Value.ref b] s) (F0 m 1302 ls [])) : W p l e room_1 s m #[Value.ref b] below meth c H locs 600000 7302250 (lw_Z below #[Value.ref b] s) (F0 m 760 ls []) := by
  obtain ⟨hx, hb, hr, hml, hown, hts0, hX, hbl, hlocks, hgv⟩ := C0
  have hts : ∀ w ∈ lwW, w.before #[Value.ref b] s = true := fun w hw => hts0 w (lwW_ok hw)
  have hbA : ¬ (fun q : Nat => s.heap.size ≤ q) b := Nat.not_le.mpr hbl
  obtain ⟨r, σ2, μ2, e1, e2, hSt2⟩ := hA σ μ (xs (nI i + nI 1).toNatClampNeg) (xs (nI i + nI 2).toNatClampNeg) (xs (nI i + nI 3).toNatClampNeg) hSt
  refine lv_aload_n hx hb dL_law_760 rfl (lv_at hl 1 rfl) ?_
  refine lv_aload_n hx hb dL_law_761 rfl (lv_at hl 0 rfl) ?_
  refine lv_iload_n hx hb dL_law_762 rfl (lv_at hl 3 rfl) ?_
  refine lv_iconst (v := nI 1) hx hb dL_law_763 (by decide) ?_
  refine lv_iadd hx hb dL_law_764 ?_
  refine va_sld hx hb hX hbl hbA hS (lvin (by omega) hL) dL_law_765 ?_
  refine lv_aload_n hx hb dL_law_766 rfl (lv_at hl 0 rfl) ?_
  refine lv_iload_n hx hb dL_law_767 rfl (lv_at hl 3 rfl) ?_
  refine lv_iconst (v := nI 2) hx hb dL_law_768 (by decide) ?_
  refine lv_iadd hx hb dL_law_769 ?_
  refine va_sld hx hb hX hbl hbA hS (lvin (by omega) hL) dL_law_770 ?_
  refine lv_aload_n hx hb dL_law_771 rfl (lv_at hl 0 rfl) ?_
  refine lv_iload_n hx hb dL_law_772 rfl (lv_at hl 3 rfl) ?_
  refine lv_iconst (v := nI 3) hx hb dL_law_773 (by decide) ?_
  refine lv_iadd hx hb dL_law_774 ?_
  refine va_sld hx hb hX hbl hbA hS (lvin (by omega) hL) dL_law_775 ?_
  refine va_calli (va_runV (As := [.int (xs (nI i + nI 1).toNatClampNeg), .int (xs (nI i + nI 2).toNatClampNeg), .int (xs (nI i + nI 3).toNatClampNeg)]) (rest := []) ⟨hx, hb, hml, hown, hts⟩ (kX11_steps l D G ub σ (xs (nI i + nI 1).toNatClampNeg) (xs (nI i + nI 2).toNatClampNeg) (xs (nI i + nI 3).toNatClampNeg) (r, σ2) e1) (cwV 3 hts (lwW_gV mw_772 mw_773 mw_774 mw_1 mw_775) rfl rfl rfl (by decide +kernel) ⟨Nat.le_of_ble_eq_true rfl, Nat.le_of_ble_eq_true rfl⟩) ⟨fun a U g mk q => ⟨q.1, xPre_call q.2⟩, va_recv F.1 hP rfl (xg_7 (k := 105) rfl), fun U hU hW => ⟨rfl, xPre_law F hS hP hU hW⟩⟩ rfl rfl hl.1 rfl (lv_room (Nat.le_of_ble_eq_true rfl)) dL_law_776 ⟨Nat.le_refl _, Nat.le_refl _⟩) hS (fun q _ h => lwF_x F h) (fun q h => lwF_x F h) (fun r1 u t H1 locs ht hvm hw hB hz1 hq1 hS => ?_)
  obtain ⟨hw1, hw2⟩ := hw
  obtain rfl : r1 = r := hw1
  obtain rfl : u = σ2 := hw2
  have hP := hB.1
  rw [ht] at hP
  have hM := m_frame F hM hq1
  refine W.widen (k := 600000) (n := 7302250) (Nat.le_refl _) (Nat.le_refl _) ?_
  refine lv_aload_n hx hb dL_law_779 rfl (lv_at hl 2 rfl) ?_
  refine lv_aload_n hx hb dL_law_780 rfl (lv_at hl 0 rfl) ?_
  refine lv_iload_n hx hb dL_law_781 rfl (lv_at hl 3 rfl) ?_
  refine lv_iconst (v := nI 1) hx hb dL_law_782 (by decide) ?_
  refine lv_iadd hx hb dL_law_783 ?_
  refine va_sld hx hb hX hbl hbA hS (lvin (by omega) hL) dL_law_784 ?_
  refine lv_aload_n hx hb dL_law_785 rfl (lv_at hl 0 rfl) ?_
  refine lv_iload_n hx hb dL_law_786 rfl (lv_at hl 3 rfl) ?_
  refine lv_iconst (v := nI 2) hx hb dL_law_787 (by decide) ?_
  refine lv_iadd hx hb dL_law_788 ?_
  refine va_sld hx hb hX hbl hbA hS (lvin (by omega) hL) dL_law_789 ?_
  refine lv_aload_n hx hb dL_law_790 rfl (lv_at hl 0 rfl) ?_
  refine lv_iload_n hx hb dL_law_791 rfl (lv_at hl 3 rfl) ?_
  refine lv_iconst (v := nI 3) hx hb dL_law_792 (by decide) ?_
  refine lv_iadd hx hb dL_law_793 ?_
  refine va_sld hx hb hX hbl hbA hS (lvin (by omega) hL) dL_law_794 ?_
  refine va_calli (va_runV (As := [.int (xs (nI i + nI 1).toNatClampNeg), .int (xs (nI i + nI 2).toNatClampNeg), .int (xs (nI i + nI 3).toNatClampNeg)]) (rest := [.int r1]) ⟨hx, hb, hml, hown, hts⟩ (kX12_steps l D G2 μ (xs (nI i + nI 1).toNatClampNeg) (xs (nI i + nI 2).toNatClampNeg) (xs (nI i + nI 3).toNatClampNeg) (r1, μ2) e2) (cwV 3 hts (lwW_gV mw_1191 mw_1192 mw_1193 mw_14 mw_1194) rfl rfl rfl (by decide +kernel) ⟨Nat.le_of_ble_eq_true rfl, Nat.le_of_ble_eq_true rfl⟩) ⟨fun a U g mk q => ⟨q.1, mPre_call q.2⟩, va_recv F.1 hM rfl (mg_2 (k := 28) rfl), fun U hU hW => ⟨rfl, mPre_law F hM hU hW⟩⟩ rfl rfl hl.1 rfl (lv_room (Nat.le_of_ble_eq_true rfl)) dL_law_795 ⟨Nat.le_refl _, Nat.le_refl _⟩) hS (fun q _ h => lwF_m F h) (fun q h => lwF_m F h) (fun r3 u3 t H2 locs ht hvm hw hB hz1 hq1 hS => ?_)
  obtain ⟨hw1, hw2⟩ := hw
  obtain rfl : r3 = r1 := hw1
  obtain rfl : u3 = μ2 := hw2
  have hM := hB.1
  rw [ht] at hM
  have hP := x_frame F hP hq1
  refine W.widen (k := 600000) (n := 7302250) (Nat.le_refl _) (Nat.le_refl _) ?_
  exact lv_icmp_eq (tgt := 1302) hx hb dL_law_798 (by decide) (fun _ => kk _ _ _ _ _ hSt2 hP hM hS hl) (fun hc => absurd rfl hc)
set_option maxHeartbeats 4000000 in
set_option maxRecDepth 100000 in
theorem lc_19 {p : Program} {l : Launch} {e : Env} {s : State} {m : MethodId} {below : List Frame} {meth : Method} {c : Code} {D : va_G} {G G2 : xG} {ub : xB} {b L : Nat} {xs : Nat → Int32} {St : QMem → QMem → Prop} (C0 : lw_At p s m meth c b L xs) (F : lwF D G G2 ub s) (hL : L ≤ 3072) (hA : ∀ (σ μ : QMem) (a1 : Int32) (a2 : Int32) (a3 : Int32) (a4 : Int32), St σ μ → ∃ (r : Int32) (σ2 μ2 : QMem), fX11_mate a1 a2 a3 a4 σ = some (r, σ2) ∧ fX12_mate a1 a2 a3 a4 μ = some (r, μ2) ∧ St σ2 μ2) (i : Nat) (hi : i + 6 ≤ L) (σ μ : QMem) (hSt : St σ μ) (H : Heap) (locs : List Loc) (ls : Array Slot) (hP : va_P D vwCl (xW G σ) H) (hM : va_P D vwCl (mW G2 μ) H) (hS : va_S (fun q : Nat => s.heap.size ≤ q) s.heap H locs) (hl : lv_has ls 4 [(0, .ref b), (1, .ref (G.1 105)), (2, .ref (G2.1 28)), (3, .int (nI i))]) (kk : ∀ (σ μ : QMem) (H : Heap) (locs : List Loc) (ls : Array Slot), St σ μ → va_P D vwCl (xW G σ) H → va_P D vwCl (mW G2 μ) H → va_S (fun q : Nat => s.heap.size ≤ q) s.heap H locs → lv_has ls 4 [(0, .ref b), (1, .ref (G.1 105)), (2, .ref (G2.1 28)), (3, .int (nI i))] → W p l e room_1 s m #[Value.ref b] below meth c H locs 600000 7302250 (lw_Z below #[Value.ref b] s) (F0 m 1302 ls [])) : W p l e room_1 s m #[Value.ref b] below meth c H locs 600000 7302250 (lw_Z below #[Value.ref b] s) (F0 m 803 ls []) := by
  obtain ⟨hx, hb, hr, hml, hown, hts0, hX, hbl, hlocks, hgv⟩ := C0
  have hts : ∀ w ∈ lwW, w.before #[Value.ref b] s = true := fun w hw => hts0 w (lwW_ok hw)
  have hbA : ¬ (fun q : Nat => s.heap.size ≤ q) b := Nat.not_le.mpr hbl
  obtain ⟨r, σ2, μ2, e1, e2, hSt2⟩ := hA σ μ (xs (nI i + nI 1).toNatClampNeg) (xs (nI i + nI 2).toNatClampNeg) (xs (nI i + nI 3).toNatClampNeg) (xs (nI i + nI 4).toNatClampNeg) hSt
  refine lv_aload_n hx hb dL_law_803 rfl (lv_at hl 1 rfl) ?_
  refine lv_aload_n hx hb dL_law_804 rfl (lv_at hl 0 rfl) ?_
  refine lv_iload_n hx hb dL_law_805 rfl (lv_at hl 3 rfl) ?_
  refine lv_iconst (v := nI 1) hx hb dL_law_806 (by decide) ?_
  refine lv_iadd hx hb dL_law_807 ?_
  refine va_sld hx hb hX hbl hbA hS (lvin (by omega) hL) dL_law_808 ?_
  refine lv_aload_n hx hb dL_law_809 rfl (lv_at hl 0 rfl) ?_
  refine lv_iload_n hx hb dL_law_810 rfl (lv_at hl 3 rfl) ?_
  refine lv_iconst (v := nI 2) hx hb dL_law_811 (by decide) ?_
  refine lv_iadd hx hb dL_law_812 ?_
  refine va_sld hx hb hX hbl hbA hS (lvin (by omega) hL) dL_law_813 ?_
  refine lv_aload_n hx hb dL_law_814 rfl (lv_at hl 0 rfl) ?_
  refine lv_iload_n hx hb dL_law_815 rfl (lv_at hl 3 rfl) ?_
  refine lv_iconst (v := nI 3) hx hb dL_law_816 (by decide) ?_
  refine lv_iadd hx hb dL_law_817 ?_
  refine va_sld hx hb hX hbl hbA hS (lvin (by omega) hL) dL_law_818 ?_
  refine lv_aload_n hx hb dL_law_819 rfl (lv_at hl 0 rfl) ?_
  refine lv_iload_n hx hb dL_law_820 rfl (lv_at hl 3 rfl) ?_
  refine lv_iconst (v := nI 4) hx hb dL_law_821 (by decide) ?_
  refine lv_iadd hx hb dL_law_822 ?_
  refine va_sld hx hb hX hbl hbA hS (lvin (by omega) hL) dL_law_823 ?_
  refine va_calli (va_runV (As := [.int (xs (nI i + nI 1).toNatClampNeg), .int (xs (nI i + nI 2).toNatClampNeg), .int (xs (nI i + nI 3).toNatClampNeg), .int (xs (nI i + nI 4).toNatClampNeg)]) (rest := []) ⟨hx, hb, hml, hown, hts⟩ (kX11_mate l D G ub σ (xs (nI i + nI 1).toNatClampNeg) (xs (nI i + nI 2).toNatClampNeg) (xs (nI i + nI 3).toNatClampNeg) (xs (nI i + nI 4).toNatClampNeg) (r, σ2) e1) (cwV 4 hts (lwW_gV mw_776 mw_777 mw_778 mw_1 mw_779) rfl rfl rfl (by decide +kernel) ⟨Nat.le_of_ble_eq_true rfl, Nat.le_of_ble_eq_true rfl⟩) ⟨fun a U g mk q => ⟨q.1, xPre_call q.2⟩, va_recv F.1 hP rfl (xg_7 (k := 105) rfl), fun U hU hW => ⟨rfl, xPre_law F hS hP hU hW⟩⟩ rfl rfl hl.1 rfl (lv_room (Nat.le_of_ble_eq_true rfl)) dL_law_824 ⟨Nat.le_refl _, Nat.le_refl _⟩) hS (fun q _ h => lwF_x F h) (fun q h => lwF_x F h) (fun r1 u t H1 locs ht hvm hw hB hz1 hq1 hS => ?_)
  obtain ⟨hw1, hw2⟩ := hw
  obtain rfl : r1 = r := hw1
  obtain rfl : u = σ2 := hw2
  have hP := hB.1
  rw [ht] at hP
  have hM := m_frame F hM hq1
  refine W.widen (k := 600000) (n := 7302250) (Nat.le_refl _) (Nat.le_refl _) ?_
  refine lv_aload_n hx hb dL_law_827 rfl (lv_at hl 2 rfl) ?_
  refine lv_aload_n hx hb dL_law_828 rfl (lv_at hl 0 rfl) ?_
  refine lv_iload_n hx hb dL_law_829 rfl (lv_at hl 3 rfl) ?_
  refine lv_iconst (v := nI 1) hx hb dL_law_830 (by decide) ?_
  refine lv_iadd hx hb dL_law_831 ?_
  refine va_sld hx hb hX hbl hbA hS (lvin (by omega) hL) dL_law_832 ?_
  refine lv_aload_n hx hb dL_law_833 rfl (lv_at hl 0 rfl) ?_
  refine lv_iload_n hx hb dL_law_834 rfl (lv_at hl 3 rfl) ?_
  refine lv_iconst (v := nI 2) hx hb dL_law_835 (by decide) ?_
  refine lv_iadd hx hb dL_law_836 ?_
  refine va_sld hx hb hX hbl hbA hS (lvin (by omega) hL) dL_law_837 ?_
  refine lv_aload_n hx hb dL_law_838 rfl (lv_at hl 0 rfl) ?_
  refine lv_iload_n hx hb dL_law_839 rfl (lv_at hl 3 rfl) ?_
  refine lv_iconst (v := nI 3) hx hb dL_law_840 (by decide) ?_
  refine lv_iadd hx hb dL_law_841 ?_
  refine va_sld hx hb hX hbl hbA hS (lvin (by omega) hL) dL_law_842 ?_
  refine lv_aload_n hx hb dL_law_843 rfl (lv_at hl 0 rfl) ?_
  refine lv_iload_n hx hb dL_law_844 rfl (lv_at hl 3 rfl) ?_
  refine lv_iconst (v := nI 4) hx hb dL_law_845 (by decide) ?_
  refine lv_iadd hx hb dL_law_846 ?_
  refine va_sld hx hb hX hbl hbA hS (lvin (by omega) hL) dL_law_847 ?_
  refine va_calli (va_runV (As := [.int (xs (nI i + nI 1).toNatClampNeg), .int (xs (nI i + nI 2).toNatClampNeg), .int (xs (nI i + nI 3).toNatClampNeg), .int (xs (nI i + nI 4).toNatClampNeg)]) (rest := [.int r1]) ⟨hx, hb, hml, hown, hts⟩ (kX12_mate l D G2 μ (xs (nI i + nI 1).toNatClampNeg) (xs (nI i + nI 2).toNatClampNeg) (xs (nI i + nI 3).toNatClampNeg) (xs (nI i + nI 4).toNatClampNeg) (r1, μ2) e2) (cwV 4 hts (lwW_gV mw_1195 mw_1196 mw_1197 mw_14 mw_1198) rfl rfl rfl (by decide +kernel) ⟨Nat.le_of_ble_eq_true rfl, Nat.le_of_ble_eq_true rfl⟩) ⟨fun a U g mk q => ⟨q.1, mPre_call q.2⟩, va_recv F.1 hM rfl (mg_2 (k := 28) rfl), fun U hU hW => ⟨rfl, mPre_law F hM hU hW⟩⟩ rfl rfl hl.1 rfl (lv_room (Nat.le_of_ble_eq_true rfl)) dL_law_848 ⟨Nat.le_refl _, Nat.le_refl _⟩) hS (fun q _ h => lwF_m F h) (fun q h => lwF_m F h) (fun r3 u3 t H2 locs ht hvm hw hB hz1 hq1 hS => ?_)
  obtain ⟨hw1, hw2⟩ := hw
  obtain rfl : r3 = r1 := hw1
  obtain rfl : u3 = μ2 := hw2
  have hM := hB.1
  rw [ht] at hM
  have hP := x_frame F hP hq1
  refine W.widen (k := 600000) (n := 7302250) (Nat.le_refl _) (Nat.le_refl _) ?_
  exact lv_icmp_eq (tgt := 1302) hx hb dL_law_851 (by decide) (fun _ => kk _ _ _ _ _ hSt2 hP hM hS hl) (fun hc => absurd rfl hc)
set_option maxHeartbeats 4000000 in
set_option maxRecDepth 100000 in
theorem lc_20 {p : Program} {l : Launch} {e : Env} {s : State} {m : MethodId} {below : List Frame} {meth : Method} {c : Code} {D : va_G} {G G2 : xG} {ub : xB} {b L : Nat} {xs : Nat → Int32} {St : QMem → QMem → Prop} (C0 : lw_At p s m meth c b L xs) (F : lwF D G G2 ub s) (hL : L ≤ 3072) (hA : ∀ (σ μ : QMem) (a1 : Int32) (a2 : Int32) (a3 : Int32), St σ μ → ∃ (r : Int32) (σ2 μ2 : QMem), fX11_factor a1 a2 a3 σ = some (r, σ2) ∧ fX12_factor a1 a2 a3 μ = some (r, μ2) ∧ St σ2 μ2) (i : Nat) (hi : i + 6 ≤ L) (σ μ : QMem) (hSt : St σ μ) (H : Heap) (locs : List Loc) (ls : Array Slot) (hP : va_P D vwCl (xW G σ) H) (hM : va_P D vwCl (mW G2 μ) H) (hS : va_S (fun q : Nat => s.heap.size ≤ q) s.heap H locs) (hl : lv_has ls 4 [(0, .ref b), (1, .ref (G.1 105)), (2, .ref (G2.1 28)), (3, .int (nI i))]) (kk : ∀ (σ μ : QMem) (H : Heap) (locs : List Loc) (ls : Array Slot), St σ μ → va_P D vwCl (xW G σ) H → va_P D vwCl (mW G2 μ) H → va_S (fun q : Nat => s.heap.size ≤ q) s.heap H locs → lv_has ls 4 [(0, .ref b), (1, .ref (G.1 105)), (2, .ref (G2.1 28)), (3, .int (nI i))] → W p l e room_1 s m #[Value.ref b] below meth c H locs 600000 7302250 (lw_Z below #[Value.ref b] s) (F0 m 1302 ls [])) : W p l e room_1 s m #[Value.ref b] below meth c H locs 600000 7302250 (lw_Z below #[Value.ref b] s) (F0 m 856 ls []) := by
  obtain ⟨hx, hb, hr, hml, hown, hts0, hX, hbl, hlocks, hgv⟩ := C0
  have hts : ∀ w ∈ lwW, w.before #[Value.ref b] s = true := fun w hw => hts0 w (lwW_ok hw)
  have hbA : ¬ (fun q : Nat => s.heap.size ≤ q) b := Nat.not_le.mpr hbl
  obtain ⟨r, σ2, μ2, e1, e2, hSt2⟩ := hA σ μ (xs (nI i + nI 1).toNatClampNeg) (xs (nI i + nI 2).toNatClampNeg) (xs (nI i + nI 3).toNatClampNeg) hSt
  refine lv_aload_n hx hb dL_law_856 rfl (lv_at hl 1 rfl) ?_
  refine lv_aload_n hx hb dL_law_857 rfl (lv_at hl 0 rfl) ?_
  refine lv_iload_n hx hb dL_law_858 rfl (lv_at hl 3 rfl) ?_
  refine lv_iconst (v := nI 1) hx hb dL_law_859 (by decide) ?_
  refine lv_iadd hx hb dL_law_860 ?_
  refine va_sld hx hb hX hbl hbA hS (lvin (by omega) hL) dL_law_861 ?_
  refine lv_aload_n hx hb dL_law_862 rfl (lv_at hl 0 rfl) ?_
  refine lv_iload_n hx hb dL_law_863 rfl (lv_at hl 3 rfl) ?_
  refine lv_iconst (v := nI 2) hx hb dL_law_864 (by decide) ?_
  refine lv_iadd hx hb dL_law_865 ?_
  refine va_sld hx hb hX hbl hbA hS (lvin (by omega) hL) dL_law_866 ?_
  refine lv_aload_n hx hb dL_law_867 rfl (lv_at hl 0 rfl) ?_
  refine lv_iload_n hx hb dL_law_868 rfl (lv_at hl 3 rfl) ?_
  refine lv_iconst (v := nI 3) hx hb dL_law_869 (by decide) ?_
  refine lv_iadd hx hb dL_law_870 ?_
  refine va_sld hx hb hX hbl hbA hS (lvin (by omega) hL) dL_law_871 ?_
  refine va_calli (va_runV (As := [.int (xs (nI i + nI 1).toNatClampNeg), .int (xs (nI i + nI 2).toNatClampNeg), .int (xs (nI i + nI 3).toNatClampNeg)]) (rest := []) ⟨hx, hb, hml, hown, hts⟩ (kX11_factor l D G ub σ (xs (nI i + nI 1).toNatClampNeg) (xs (nI i + nI 2).toNatClampNeg) (xs (nI i + nI 3).toNatClampNeg) (r, σ2) e1) (cwV 3 hts (lwW_gV mw_781 mw_782 mw_783 mw_1 mw_784) rfl rfl rfl (by decide +kernel) ⟨Nat.le_of_ble_eq_true rfl, Nat.le_of_ble_eq_true rfl⟩) ⟨fun a U g mk q => ⟨q.1, xPre_call q.2⟩, va_recv F.1 hP rfl (xg_7 (k := 105) rfl), fun U hU hW => ⟨rfl, xPre_law F hS hP hU hW⟩⟩ rfl rfl hl.1 rfl (lv_room (Nat.le_of_ble_eq_true rfl)) dL_law_872 ⟨Nat.le_refl _, Nat.le_refl _⟩) hS (fun q _ h => lwF_x F h) (fun q h => lwF_x F h) (fun r1 u t H1 locs ht hvm hw hB hz1 hq1 hS => ?_)
  obtain ⟨hw1, hw2⟩ := hw
  obtain rfl : r1 = r := hw1
  obtain rfl : u = σ2 := hw2
  have hP := hB.1
  rw [ht] at hP
  have hM := m_frame F hM hq1
  refine W.widen (k := 600000) (n := 7302250) (Nat.le_refl _) (Nat.le_refl _) ?_
  refine lv_aload_n hx hb dL_law_875 rfl (lv_at hl 2 rfl) ?_
  refine lv_aload_n hx hb dL_law_876 rfl (lv_at hl 0 rfl) ?_
  refine lv_iload_n hx hb dL_law_877 rfl (lv_at hl 3 rfl) ?_
  refine lv_iconst (v := nI 1) hx hb dL_law_878 (by decide) ?_
  refine lv_iadd hx hb dL_law_879 ?_
  refine va_sld hx hb hX hbl hbA hS (lvin (by omega) hL) dL_law_880 ?_
  refine lv_aload_n hx hb dL_law_881 rfl (lv_at hl 0 rfl) ?_
  refine lv_iload_n hx hb dL_law_882 rfl (lv_at hl 3 rfl) ?_
  refine lv_iconst (v := nI 2) hx hb dL_law_883 (by decide) ?_
  refine lv_iadd hx hb dL_law_884 ?_
  refine va_sld hx hb hX hbl hbA hS (lvin (by omega) hL) dL_law_885 ?_
  refine lv_aload_n hx hb dL_law_886 rfl (lv_at hl 0 rfl) ?_
  refine lv_iload_n hx hb dL_law_887 rfl (lv_at hl 3 rfl) ?_
  refine lv_iconst (v := nI 3) hx hb dL_law_888 (by decide) ?_
  refine lv_iadd hx hb dL_law_889 ?_
  refine va_sld hx hb hX hbl hbA hS (lvin (by omega) hL) dL_law_890 ?_
  refine va_calli (va_runV (As := [.int (xs (nI i + nI 1).toNatClampNeg), .int (xs (nI i + nI 2).toNatClampNeg), .int (xs (nI i + nI 3).toNatClampNeg)]) (rest := [.int r1]) ⟨hx, hb, hml, hown, hts⟩ (kX12_factor l D G2 μ (xs (nI i + nI 1).toNatClampNeg) (xs (nI i + nI 2).toNatClampNeg) (xs (nI i + nI 3).toNatClampNeg) (r1, μ2) e2) (cwV 3 hts (lwW_gV mw_1199 mw_1200 mw_1201 mw_14 mw_1202) rfl rfl rfl (by decide +kernel) ⟨Nat.le_of_ble_eq_true rfl, Nat.le_of_ble_eq_true rfl⟩) ⟨fun a U g mk q => ⟨q.1, mPre_call q.2⟩, va_recv F.1 hM rfl (mg_2 (k := 28) rfl), fun U hU hW => ⟨rfl, mPre_law F hM hU hW⟩⟩ rfl rfl hl.1 rfl (lv_room (Nat.le_of_ble_eq_true rfl)) dL_law_891 ⟨Nat.le_refl _, Nat.le_refl _⟩) hS (fun q _ h => lwF_m F h) (fun q h => lwF_m F h) (fun r3 u3 t H2 locs ht hvm hw hB hz1 hq1 hS => ?_)
  obtain ⟨hw1, hw2⟩ := hw
  obtain rfl : r3 = r1 := hw1
  obtain rfl : u3 = μ2 := hw2
  have hM := hB.1
  rw [ht] at hM
  have hP := x_frame F hP hq1
  refine W.widen (k := 600000) (n := 7302250) (Nat.le_refl _) (Nat.le_refl _) ?_
  exact lv_icmp_eq (tgt := 1302) hx hb dL_law_894 (by decide) (fun _ => kk _ _ _ _ _ hSt2 hP hM hS hl) (fun hc => absurd rfl hc)
set_option maxHeartbeats 4000000 in
set_option maxRecDepth 100000 in
theorem lc_21 {p : Program} {l : Launch} {e : Env} {s : State} {m : MethodId} {below : List Frame} {meth : Method} {c : Code} {D : va_G} {G G2 : xG} {ub : xB} {b L : Nat} {xs : Nat → Int32} {St : QMem → QMem → Prop} (C0 : lw_At p s m meth c b L xs) (F : lwF D G G2 ub s) (hL : L ≤ 3072) (hA : ∀ (σ μ : QMem) (a1 : Int32) (a2 : Int32) (a3 : Int32) (a4 : Int32), St σ μ → ∃ (r : Int32) (σ2 μ2 : QMem), fX11_prime a1 a2 a3 a4 σ = some (r, σ2) ∧ fX12_prime a1 a2 a3 a4 μ = some (r, μ2) ∧ St σ2 μ2) (i : Nat) (hi : i + 6 ≤ L) (σ μ : QMem) (hSt : St σ μ) (H : Heap) (locs : List Loc) (ls : Array Slot) (hP : va_P D vwCl (xW G σ) H) (hM : va_P D vwCl (mW G2 μ) H) (hS : va_S (fun q : Nat => s.heap.size ≤ q) s.heap H locs) (hl : lv_has ls 4 [(0, .ref b), (1, .ref (G.1 105)), (2, .ref (G2.1 28)), (3, .int (nI i))]) (kk : ∀ (σ μ : QMem) (H : Heap) (locs : List Loc) (ls : Array Slot), St σ μ → va_P D vwCl (xW G σ) H → va_P D vwCl (mW G2 μ) H → va_S (fun q : Nat => s.heap.size ≤ q) s.heap H locs → lv_has ls 4 [(0, .ref b), (1, .ref (G.1 105)), (2, .ref (G2.1 28)), (3, .int (nI i))] → W p l e room_1 s m #[Value.ref b] below meth c H locs 600000 7302250 (lw_Z below #[Value.ref b] s) (F0 m 1302 ls [])) : W p l e room_1 s m #[Value.ref b] below meth c H locs 600000 7302250 (lw_Z below #[Value.ref b] s) (F0 m 899 ls []) := by
  obtain ⟨hx, hb, hr, hml, hown, hts0, hX, hbl, hlocks, hgv⟩ := C0
  have hts : ∀ w ∈ lwW, w.before #[Value.ref b] s = true := fun w hw => hts0 w (lwW_ok hw)
  have hbA : ¬ (fun q : Nat => s.heap.size ≤ q) b := Nat.not_le.mpr hbl
  obtain ⟨r, σ2, μ2, e1, e2, hSt2⟩ := hA σ μ (xs (nI i + nI 1).toNatClampNeg) (xs (nI i + nI 2).toNatClampNeg) (xs (nI i + nI 3).toNatClampNeg) (xs (nI i + nI 4).toNatClampNeg) hSt
  refine lv_aload_n hx hb dL_law_899 rfl (lv_at hl 1 rfl) ?_
  refine lv_aload_n hx hb dL_law_900 rfl (lv_at hl 0 rfl) ?_
  refine lv_iload_n hx hb dL_law_901 rfl (lv_at hl 3 rfl) ?_
  refine lv_iconst (v := nI 1) hx hb dL_law_902 (by decide) ?_
  refine lv_iadd hx hb dL_law_903 ?_
  refine va_sld hx hb hX hbl hbA hS (lvin (by omega) hL) dL_law_904 ?_
  refine lv_aload_n hx hb dL_law_905 rfl (lv_at hl 0 rfl) ?_
  refine lv_iload_n hx hb dL_law_906 rfl (lv_at hl 3 rfl) ?_
  refine lv_iconst (v := nI 2) hx hb dL_law_907 (by decide) ?_
  refine lv_iadd hx hb dL_law_908 ?_
  refine va_sld hx hb hX hbl hbA hS (lvin (by omega) hL) dL_law_909 ?_
  refine lv_aload_n hx hb dL_law_910 rfl (lv_at hl 0 rfl) ?_
  refine lv_iload_n hx hb dL_law_911 rfl (lv_at hl 3 rfl) ?_
  refine lv_iconst (v := nI 3) hx hb dL_law_912 (by decide) ?_
  refine lv_iadd hx hb dL_law_913 ?_
  refine va_sld hx hb hX hbl hbA hS (lvin (by omega) hL) dL_law_914 ?_
  refine lv_aload_n hx hb dL_law_915 rfl (lv_at hl 0 rfl) ?_
  refine lv_iload_n hx hb dL_law_916 rfl (lv_at hl 3 rfl) ?_
  refine lv_iconst (v := nI 4) hx hb dL_law_917 (by decide) ?_
  refine lv_iadd hx hb dL_law_918 ?_
  refine va_sld hx hb hX hbl hbA hS (lvin (by omega) hL) dL_law_919 ?_
  refine va_calli (va_runV (As := [.int (xs (nI i + nI 1).toNatClampNeg), .int (xs (nI i + nI 2).toNatClampNeg), .int (xs (nI i + nI 3).toNatClampNeg), .int (xs (nI i + nI 4).toNatClampNeg)]) (rest := []) ⟨hx, hb, hml, hown, hts⟩ (kX11_prime l D G ub σ (xs (nI i + nI 1).toNatClampNeg) (xs (nI i + nI 2).toNatClampNeg) (xs (nI i + nI 3).toNatClampNeg) (xs (nI i + nI 4).toNatClampNeg) (r, σ2) e1) (cwV 4 hts (lwW_gV mw_790 mw_791 mw_792 mw_1 mw_793) rfl rfl rfl (by decide +kernel) ⟨Nat.le_of_ble_eq_true rfl, Nat.le_of_ble_eq_true rfl⟩) ⟨fun a U g mk q => ⟨q.1, xPre_call q.2⟩, va_recv F.1 hP rfl (xg_7 (k := 105) rfl), fun U hU hW => ⟨rfl, xPre_law F hS hP hU hW⟩⟩ rfl rfl hl.1 rfl (lv_room (Nat.le_of_ble_eq_true rfl)) dL_law_920 ⟨Nat.le_refl _, Nat.le_refl _⟩) hS (fun q _ h => lwF_x F h) (fun q h => lwF_x F h) (fun r1 u t H1 locs ht hvm hw hB hz1 hq1 hS => ?_)
  obtain ⟨hw1, hw2⟩ := hw
  obtain rfl : r1 = r := hw1
  obtain rfl : u = σ2 := hw2
  have hP := hB.1
  rw [ht] at hP
  have hM := m_frame F hM hq1
  refine W.widen (k := 600000) (n := 7302250) (Nat.le_refl _) (Nat.le_refl _) ?_
  refine lv_aload_n hx hb dL_law_923 rfl (lv_at hl 2 rfl) ?_
  refine lv_aload_n hx hb dL_law_924 rfl (lv_at hl 0 rfl) ?_
  refine lv_iload_n hx hb dL_law_925 rfl (lv_at hl 3 rfl) ?_
  refine lv_iconst (v := nI 1) hx hb dL_law_926 (by decide) ?_
  refine lv_iadd hx hb dL_law_927 ?_
  refine va_sld hx hb hX hbl hbA hS (lvin (by omega) hL) dL_law_928 ?_
  refine lv_aload_n hx hb dL_law_929 rfl (lv_at hl 0 rfl) ?_
  refine lv_iload_n hx hb dL_law_930 rfl (lv_at hl 3 rfl) ?_
  refine lv_iconst (v := nI 2) hx hb dL_law_931 (by decide) ?_
  refine lv_iadd hx hb dL_law_932 ?_
  refine va_sld hx hb hX hbl hbA hS (lvin (by omega) hL) dL_law_933 ?_
  refine lv_aload_n hx hb dL_law_934 rfl (lv_at hl 0 rfl) ?_
  refine lv_iload_n hx hb dL_law_935 rfl (lv_at hl 3 rfl) ?_
  refine lv_iconst (v := nI 3) hx hb dL_law_936 (by decide) ?_
  refine lv_iadd hx hb dL_law_937 ?_
  refine va_sld hx hb hX hbl hbA hS (lvin (by omega) hL) dL_law_938 ?_
  refine lv_aload_n hx hb dL_law_939 rfl (lv_at hl 0 rfl) ?_
  refine lv_iload_n hx hb dL_law_940 rfl (lv_at hl 3 rfl) ?_
  refine lv_iconst (v := nI 4) hx hb dL_law_941 (by decide) ?_
  refine lv_iadd hx hb dL_law_942 ?_
  refine va_sld hx hb hX hbl hbA hS (lvin (by omega) hL) dL_law_943 ?_
  refine va_calli (va_runV (As := [.int (xs (nI i + nI 1).toNatClampNeg), .int (xs (nI i + nI 2).toNatClampNeg), .int (xs (nI i + nI 3).toNatClampNeg), .int (xs (nI i + nI 4).toNatClampNeg)]) (rest := [.int r1]) ⟨hx, hb, hml, hown, hts⟩ (kX12_prime l D G2 μ (xs (nI i + nI 1).toNatClampNeg) (xs (nI i + nI 2).toNatClampNeg) (xs (nI i + nI 3).toNatClampNeg) (xs (nI i + nI 4).toNatClampNeg) (r1, μ2) e2) (cwV 4 hts (lwW_gV mw_1206 mw_1207 mw_1208 mw_14 mw_1209) rfl rfl rfl (by decide +kernel) ⟨Nat.le_of_ble_eq_true rfl, Nat.le_of_ble_eq_true rfl⟩) ⟨fun a U g mk q => ⟨q.1, mPre_call q.2⟩, va_recv F.1 hM rfl (mg_2 (k := 28) rfl), fun U hU hW => ⟨rfl, mPre_law F hM hU hW⟩⟩ rfl rfl hl.1 rfl (lv_room (Nat.le_of_ble_eq_true rfl)) dL_law_944 ⟨Nat.le_refl _, Nat.le_refl _⟩) hS (fun q _ h => lwF_m F h) (fun q h => lwF_m F h) (fun r3 u3 t H2 locs ht hvm hw hB hz1 hq1 hS => ?_)
  obtain ⟨hw1, hw2⟩ := hw
  obtain rfl : r3 = r1 := hw1
  obtain rfl : u3 = μ2 := hw2
  have hM := hB.1
  rw [ht] at hM
  have hP := x_frame F hP hq1
  refine W.widen (k := 600000) (n := 7302250) (Nat.le_refl _) (Nat.le_refl _) ?_
  exact lv_icmp_eq (tgt := 1302) hx hb dL_law_947 (by decide) (fun _ => kk _ _ _ _ _ hSt2 hP hM hS hl) (fun hc => absurd rfl hc)
set_option maxHeartbeats 4000000 in
set_option maxRecDepth 100000 in
theorem lc_22 {p : Program} {l : Launch} {e : Env} {s : State} {m : MethodId} {below : List Frame} {meth : Method} {c : Code} {D : va_G} {G G2 : xG} {ub : xB} {b L : Nat} {xs : Nat → Int32} {St : QMem → QMem → Prop} (C0 : lw_At p s m meth c b L xs) (F : lwF D G G2 ub s) (hL : L ≤ 3072) (hA : ∀ (σ μ : QMem) (a1 : Int32) (a2 : Int32) (a3 : Int32) (a4 : Int32), St σ μ → ∃ (r : Int32) (σ2 μ2 : QMem), fX11_list a1 a2 a3 a4 σ = some (r, σ2) ∧ fX12_list a1 a2 a3 a4 μ = some (r, μ2) ∧ St σ2 μ2) (i : Nat) (hi : i + 6 ≤ L) (σ μ : QMem) (hSt : St σ μ) (H : Heap) (locs : List Loc) (ls : Array Slot) (hP : va_P D vwCl (xW G σ) H) (hM : va_P D vwCl (mW G2 μ) H) (hS : va_S (fun q : Nat => s.heap.size ≤ q) s.heap H locs) (hl : lv_has ls 4 [(0, .ref b), (1, .ref (G.1 105)), (2, .ref (G2.1 28)), (3, .int (nI i))]) (kk : ∀ (σ μ : QMem) (H : Heap) (locs : List Loc) (ls : Array Slot), St σ μ → va_P D vwCl (xW G σ) H → va_P D vwCl (mW G2 μ) H → va_S (fun q : Nat => s.heap.size ≤ q) s.heap H locs → lv_has ls 4 [(0, .ref b), (1, .ref (G.1 105)), (2, .ref (G2.1 28)), (3, .int (nI i))] → W p l e room_1 s m #[Value.ref b] below meth c H locs 600000 7302250 (lw_Z below #[Value.ref b] s) (F0 m 1302 ls [])) : W p l e room_1 s m #[Value.ref b] below meth c H locs 600000 7302250 (lw_Z below #[Value.ref b] s) (F0 m 952 ls []) := by
  obtain ⟨hx, hb, hr, hml, hown, hts0, hX, hbl, hlocks, hgv⟩ := C0
  have hts : ∀ w ∈ lwW, w.before #[Value.ref b] s = true := fun w hw => hts0 w (lwW_ok hw)
  have hbA : ¬ (fun q : Nat => s.heap.size ≤ q) b := Nat.not_le.mpr hbl
  obtain ⟨r, σ2, μ2, e1, e2, hSt2⟩ := hA σ μ (xs (nI i + nI 1).toNatClampNeg) (xs (nI i + nI 2).toNatClampNeg) (xs (nI i + nI 3).toNatClampNeg) (xs (nI i + nI 4).toNatClampNeg) hSt
  refine lv_aload_n hx hb dL_law_952 rfl (lv_at hl 1 rfl) ?_
  refine lv_aload_n hx hb dL_law_953 rfl (lv_at hl 0 rfl) ?_
  refine lv_iload_n hx hb dL_law_954 rfl (lv_at hl 3 rfl) ?_
  refine lv_iconst (v := nI 1) hx hb dL_law_955 (by decide) ?_
  refine lv_iadd hx hb dL_law_956 ?_
  refine va_sld hx hb hX hbl hbA hS (lvin (by omega) hL) dL_law_957 ?_
  refine lv_aload_n hx hb dL_law_958 rfl (lv_at hl 0 rfl) ?_
  refine lv_iload_n hx hb dL_law_959 rfl (lv_at hl 3 rfl) ?_
  refine lv_iconst (v := nI 2) hx hb dL_law_960 (by decide) ?_
  refine lv_iadd hx hb dL_law_961 ?_
  refine va_sld hx hb hX hbl hbA hS (lvin (by omega) hL) dL_law_962 ?_
  refine lv_aload_n hx hb dL_law_963 rfl (lv_at hl 0 rfl) ?_
  refine lv_iload_n hx hb dL_law_964 rfl (lv_at hl 3 rfl) ?_
  refine lv_iconst (v := nI 3) hx hb dL_law_965 (by decide) ?_
  refine lv_iadd hx hb dL_law_966 ?_
  refine va_sld hx hb hX hbl hbA hS (lvin (by omega) hL) dL_law_967 ?_
  refine lv_aload_n hx hb dL_law_968 rfl (lv_at hl 0 rfl) ?_
  refine lv_iload_n hx hb dL_law_969 rfl (lv_at hl 3 rfl) ?_
  refine lv_iconst (v := nI 4) hx hb dL_law_970 (by decide) ?_
  refine lv_iadd hx hb dL_law_971 ?_
  refine va_sld hx hb hX hbl hbA hS (lvin (by omega) hL) dL_law_972 ?_
  refine va_calli (va_runV (As := [.int (xs (nI i + nI 1).toNatClampNeg), .int (xs (nI i + nI 2).toNatClampNeg), .int (xs (nI i + nI 3).toNatClampNeg), .int (xs (nI i + nI 4).toNatClampNeg)]) (rest := []) ⟨hx, hb, hml, hown, hts⟩ (kX11_list l D G ub σ (xs (nI i + nI 1).toNatClampNeg) (xs (nI i + nI 2).toNatClampNeg) (xs (nI i + nI 3).toNatClampNeg) (xs (nI i + nI 4).toNatClampNeg) (r, σ2) e1) (cwV 4 hts (lwW_gV mw_797 mw_798 mw_799 mw_1 mw_800) rfl rfl rfl (by decide +kernel) ⟨Nat.le_of_ble_eq_true rfl, Nat.le_of_ble_eq_true rfl⟩) ⟨fun a U g mk q => ⟨q.1, xPre_call q.2⟩, va_recv F.1 hP rfl (xg_7 (k := 105) rfl), fun U hU hW => ⟨rfl, xPre_law F hS hP hU hW⟩⟩ rfl rfl hl.1 rfl (lv_room (Nat.le_of_ble_eq_true rfl)) dL_law_973 ⟨Nat.le_refl _, Nat.le_refl _⟩) hS (fun q _ h => lwF_x F h) (fun q h => lwF_x F h) (fun r1 u t H1 locs ht hvm hw hB hz1 hq1 hS => ?_)
  obtain ⟨hw1, hw2⟩ := hw
  obtain rfl : r1 = r := hw1
  obtain rfl : u = σ2 := hw2
  have hP := hB.1
  rw [ht] at hP
  have hM := m_frame F hM hq1
  refine W.widen (k := 600000) (n := 7302250) (Nat.le_refl _) (Nat.le_refl _) ?_
  refine lv_aload_n hx hb dL_law_976 rfl (lv_at hl 2 rfl) ?_
  refine lv_aload_n hx hb dL_law_977 rfl (lv_at hl 0 rfl) ?_
  refine lv_iload_n hx hb dL_law_978 rfl (lv_at hl 3 rfl) ?_
  refine lv_iconst (v := nI 1) hx hb dL_law_979 (by decide) ?_
  refine lv_iadd hx hb dL_law_980 ?_
  refine va_sld hx hb hX hbl hbA hS (lvin (by omega) hL) dL_law_981 ?_
  refine lv_aload_n hx hb dL_law_982 rfl (lv_at hl 0 rfl) ?_
  refine lv_iload_n hx hb dL_law_983 rfl (lv_at hl 3 rfl) ?_
  refine lv_iconst (v := nI 2) hx hb dL_law_984 (by decide) ?_
  refine lv_iadd hx hb dL_law_985 ?_
  refine va_sld hx hb hX hbl hbA hS (lvin (by omega) hL) dL_law_986 ?_
  refine lv_aload_n hx hb dL_law_987 rfl (lv_at hl 0 rfl) ?_
  refine lv_iload_n hx hb dL_law_988 rfl (lv_at hl 3 rfl) ?_
  refine lv_iconst (v := nI 3) hx hb dL_law_989 (by decide) ?_
  refine lv_iadd hx hb dL_law_990 ?_
  refine va_sld hx hb hX hbl hbA hS (lvin (by omega) hL) dL_law_991 ?_
  refine lv_aload_n hx hb dL_law_992 rfl (lv_at hl 0 rfl) ?_
  refine lv_iload_n hx hb dL_law_993 rfl (lv_at hl 3 rfl) ?_
  refine lv_iconst (v := nI 4) hx hb dL_law_994 (by decide) ?_
  refine lv_iadd hx hb dL_law_995 ?_
  refine va_sld hx hb hX hbl hbA hS (lvin (by omega) hL) dL_law_996 ?_
  refine va_calli (va_runV (As := [.int (xs (nI i + nI 1).toNatClampNeg), .int (xs (nI i + nI 2).toNatClampNeg), .int (xs (nI i + nI 3).toNatClampNeg), .int (xs (nI i + nI 4).toNatClampNeg)]) (rest := [.int r1]) ⟨hx, hb, hml, hown, hts⟩ (kX12_list l D G2 μ (xs (nI i + nI 1).toNatClampNeg) (xs (nI i + nI 2).toNatClampNeg) (xs (nI i + nI 3).toNatClampNeg) (xs (nI i + nI 4).toNatClampNeg) (r1, μ2) e2) (cwV 4 hts (lwW_gV mw_1214 mw_1215 mw_1216 mw_14 mw_1217) rfl rfl rfl (by decide +kernel) ⟨Nat.le_of_ble_eq_true rfl, Nat.le_of_ble_eq_true rfl⟩) ⟨fun a U g mk q => ⟨q.1, mPre_call q.2⟩, va_recv F.1 hM rfl (mg_2 (k := 28) rfl), fun U hU hW => ⟨rfl, mPre_law F hM hU hW⟩⟩ rfl rfl hl.1 rfl (lv_room (Nat.le_of_ble_eq_true rfl)) dL_law_997 ⟨Nat.le_refl _, Nat.le_refl _⟩) hS (fun q _ h => lwF_m F h) (fun q h => lwF_m F h) (fun r3 u3 t H2 locs ht hvm hw hB hz1 hq1 hS => ?_)
  obtain ⟨hw1, hw2⟩ := hw
  obtain rfl : r3 = r1 := hw1
  obtain rfl : u3 = μ2 := hw2
  have hM := hB.1
  rw [ht] at hM
  have hP := x_frame F hP hq1
  refine W.widen (k := 600000) (n := 7302250) (Nat.le_refl _) (Nat.le_refl _) ?_
  exact lv_icmp_eq (tgt := 1302) hx hb dL_law_1000 (by decide) (fun _ => kk _ _ _ _ _ hSt2 hP hM hS hl) (fun hc => absurd rfl hc)
set_option maxHeartbeats 4000000 in
set_option maxRecDepth 100000 in
theorem lc_23 {p : Program} {l : Launch} {e : Env} {s : State} {m : MethodId} {below : List Frame} {meth : Method} {c : Code} {D : va_G} {G G2 : xG} {ub : xB} {b L : Nat} {xs : Nat → Int32} {St : QMem → QMem → Prop} (C0 : lw_At p s m meth c b L xs) (F : lwF D G G2 ub s) (hL : L ≤ 3072) (hA : ∀ (σ μ : QMem) (a1 : Int32) (a2 : Int32) (a3 : Int32), St σ μ → ∃ (r : Int32) (σ2 μ2 : QMem), fX11_squares a1 a2 a3 σ = some (r, σ2) ∧ fX12_squares a1 a2 a3 μ = some (r, μ2) ∧ St σ2 μ2) (i : Nat) (hi : i + 6 ≤ L) (σ μ : QMem) (hSt : St σ μ) (H : Heap) (locs : List Loc) (ls : Array Slot) (hP : va_P D vwCl (xW G σ) H) (hM : va_P D vwCl (mW G2 μ) H) (hS : va_S (fun q : Nat => s.heap.size ≤ q) s.heap H locs) (hl : lv_has ls 4 [(0, .ref b), (1, .ref (G.1 105)), (2, .ref (G2.1 28)), (3, .int (nI i))]) (kk : ∀ (σ μ : QMem) (H : Heap) (locs : List Loc) (ls : Array Slot), St σ μ → va_P D vwCl (xW G σ) H → va_P D vwCl (mW G2 μ) H → va_S (fun q : Nat => s.heap.size ≤ q) s.heap H locs → lv_has ls 4 [(0, .ref b), (1, .ref (G.1 105)), (2, .ref (G2.1 28)), (3, .int (nI i))] → W p l e room_1 s m #[Value.ref b] below meth c H locs 600000 7302250 (lw_Z below #[Value.ref b] s) (F0 m 1302 ls [])) : W p l e room_1 s m #[Value.ref b] below meth c H locs 600000 7302250 (lw_Z below #[Value.ref b] s) (F0 m 1005 ls []) := by
  obtain ⟨hx, hb, hr, hml, hown, hts0, hX, hbl, hlocks, hgv⟩ := C0
  have hts : ∀ w ∈ lwW, w.before #[Value.ref b] s = true := fun w hw => hts0 w (lwW_ok hw)
  have hbA : ¬ (fun q : Nat => s.heap.size ≤ q) b := Nat.not_le.mpr hbl
  obtain ⟨r, σ2, μ2, e1, e2, hSt2⟩ := hA σ μ (xs (nI i + nI 1).toNatClampNeg) (xs (nI i + nI 2).toNatClampNeg) (xs (nI i + nI 3).toNatClampNeg) hSt
  refine lv_aload_n hx hb dL_law_1005 rfl (lv_at hl 1 rfl) ?_
  refine lv_aload_n hx hb dL_law_1006 rfl (lv_at hl 0 rfl) ?_
  refine lv_iload_n hx hb dL_law_1007 rfl (lv_at hl 3 rfl) ?_
  refine lv_iconst (v := nI 1) hx hb dL_law_1008 (by decide) ?_
  refine lv_iadd hx hb dL_law_1009 ?_
  refine va_sld hx hb hX hbl hbA hS (lvin (by omega) hL) dL_law_1010 ?_
  refine lv_aload_n hx hb dL_law_1011 rfl (lv_at hl 0 rfl) ?_
  refine lv_iload_n hx hb dL_law_1012 rfl (lv_at hl 3 rfl) ?_
  refine lv_iconst (v := nI 2) hx hb dL_law_1013 (by decide) ?_
  refine lv_iadd hx hb dL_law_1014 ?_
  refine va_sld hx hb hX hbl hbA hS (lvin (by omega) hL) dL_law_1015 ?_
  refine lv_aload_n hx hb dL_law_1016 rfl (lv_at hl 0 rfl) ?_
  refine lv_iload_n hx hb dL_law_1017 rfl (lv_at hl 3 rfl) ?_
  refine lv_iconst (v := nI 3) hx hb dL_law_1018 (by decide) ?_
  refine lv_iadd hx hb dL_law_1019 ?_
  refine va_sld hx hb hX hbl hbA hS (lvin (by omega) hL) dL_law_1020 ?_
  refine va_calli (va_runV (As := [.int (xs (nI i + nI 1).toNatClampNeg), .int (xs (nI i + nI 2).toNatClampNeg), .int (xs (nI i + nI 3).toNatClampNeg)]) (rest := []) ⟨hx, hb, hml, hown, hts⟩ (kX11_squares l D G ub σ (xs (nI i + nI 1).toNatClampNeg) (xs (nI i + nI 2).toNatClampNeg) (xs (nI i + nI 3).toNatClampNeg) (r, σ2) e1) (cwV 3 hts (lwW_gV mw_802 mw_803 mw_804 mw_1 mw_805) rfl rfl rfl (by decide +kernel) ⟨Nat.le_of_ble_eq_true rfl, Nat.le_of_ble_eq_true rfl⟩) ⟨fun a U g mk q => ⟨q.1, xPre_call q.2⟩, va_recv F.1 hP rfl (xg_7 (k := 105) rfl), fun U hU hW => ⟨rfl, xPre_law F hS hP hU hW⟩⟩ rfl rfl hl.1 rfl (lv_room (Nat.le_of_ble_eq_true rfl)) dL_law_1021 ⟨Nat.le_refl _, Nat.le_refl _⟩) hS (fun q _ h => lwF_x F h) (fun q h => lwF_x F h) (fun r1 u t H1 locs ht hvm hw hB hz1 hq1 hS => ?_)
  obtain ⟨hw1, hw2⟩ := hw
  obtain rfl : r1 = r := hw1
  obtain rfl : u = σ2 := hw2
  have hP := hB.1
  rw [ht] at hP
  have hM := m_frame F hM hq1
  refine W.widen (k := 600000) (n := 7302250) (Nat.le_refl _) (Nat.le_refl _) ?_
  refine lv_aload_n hx hb dL_law_1024 rfl (lv_at hl 2 rfl) ?_
  refine lv_aload_n hx hb dL_law_1025 rfl (lv_at hl 0 rfl) ?_
  refine lv_iload_n hx hb dL_law_1026 rfl (lv_at hl 3 rfl) ?_
  refine lv_iconst (v := nI 1) hx hb dL_law_1027 (by decide) ?_
  refine lv_iadd hx hb dL_law_1028 ?_
  refine va_sld hx hb hX hbl hbA hS (lvin (by omega) hL) dL_law_1029 ?_
  refine lv_aload_n hx hb dL_law_1030 rfl (lv_at hl 0 rfl) ?_
  refine lv_iload_n hx hb dL_law_1031 rfl (lv_at hl 3 rfl) ?_
  refine lv_iconst (v := nI 2) hx hb dL_law_1032 (by decide) ?_
  refine lv_iadd hx hb dL_law_1033 ?_
  refine va_sld hx hb hX hbl hbA hS (lvin (by omega) hL) dL_law_1034 ?_
  refine lv_aload_n hx hb dL_law_1035 rfl (lv_at hl 0 rfl) ?_
  refine lv_iload_n hx hb dL_law_1036 rfl (lv_at hl 3 rfl) ?_
  refine lv_iconst (v := nI 3) hx hb dL_law_1037 (by decide) ?_
  refine lv_iadd hx hb dL_law_1038 ?_
  refine va_sld hx hb hX hbl hbA hS (lvin (by omega) hL) dL_law_1039 ?_
  refine va_calli (va_runV (As := [.int (xs (nI i + nI 1).toNatClampNeg), .int (xs (nI i + nI 2).toNatClampNeg), .int (xs (nI i + nI 3).toNatClampNeg)]) (rest := [.int r1]) ⟨hx, hb, hml, hown, hts⟩ (kX12_squares l D G2 μ (xs (nI i + nI 1).toNatClampNeg) (xs (nI i + nI 2).toNatClampNeg) (xs (nI i + nI 3).toNatClampNeg) (r1, μ2) e2) (cwV 3 hts (lwW_gV mw_1218 mw_1219 mw_1220 mw_14 mw_1221) rfl rfl rfl (by decide +kernel) ⟨Nat.le_of_ble_eq_true rfl, Nat.le_of_ble_eq_true rfl⟩) ⟨fun a U g mk q => ⟨q.1, mPre_call q.2⟩, va_recv F.1 hM rfl (mg_2 (k := 28) rfl), fun U hU hW => ⟨rfl, mPre_law F hM hU hW⟩⟩ rfl rfl hl.1 rfl (lv_room (Nat.le_of_ble_eq_true rfl)) dL_law_1040 ⟨Nat.le_refl _, Nat.le_refl _⟩) hS (fun q _ h => lwF_m F h) (fun q h => lwF_m F h) (fun r3 u3 t H2 locs ht hvm hw hB hz1 hq1 hS => ?_)
  obtain ⟨hw1, hw2⟩ := hw
  obtain rfl : r3 = r1 := hw1
  obtain rfl : u3 = μ2 := hw2
  have hM := hB.1
  rw [ht] at hM
  have hP := x_frame F hP hq1
  refine W.widen (k := 600000) (n := 7302250) (Nat.le_refl _) (Nat.le_refl _) ?_
  exact lv_icmp_eq (tgt := 1302) hx hb dL_law_1043 (by decide) (fun _ => kk _ _ _ _ _ hSt2 hP hM hS hl) (fun hc => absurd rfl hc)
set_option maxHeartbeats 4000000 in
set_option maxRecDepth 100000 in
theorem lc_24 {p : Program} {l : Launch} {e : Env} {s : State} {m : MethodId} {below : List Frame} {meth : Method} {c : Code} {D : va_G} {G G2 : xG} {ub : xB} {b L : Nat} {xs : Nat → Int32} {St : QMem → QMem → Prop} (C0 : lw_At p s m meth c b L xs) (F : lwF D G G2 ub s) (hL : L ≤ 3072) (hA : ∀ (σ μ : QMem) (a1 : Int32) (a2 : Int32) (a3 : Int32), St σ μ → ∃ (r : Int32) (σ2 μ2 : QMem), fX11_turned a1 a2 a3 σ = some (r, σ2) ∧ fX12_turned a1 a2 a3 μ = some (r, μ2) ∧ St σ2 μ2) (i : Nat) (hi : i + 6 ≤ L) (σ μ : QMem) (hSt : St σ μ) (H : Heap) (locs : List Loc) (ls : Array Slot) (hP : va_P D vwCl (xW G σ) H) (hM : va_P D vwCl (mW G2 μ) H) (hS : va_S (fun q : Nat => s.heap.size ≤ q) s.heap H locs) (hl : lv_has ls 4 [(0, .ref b), (1, .ref (G.1 105)), (2, .ref (G2.1 28)), (3, .int (nI i))]) (kk : ∀ (σ μ : QMem) (H : Heap) (locs : List Loc) (ls : Array Slot), St σ μ → va_P D vwCl (xW G σ) H → va_P D vwCl (mW G2 μ) H → va_S (fun q : Nat => s.heap.size ≤ q) s.heap H locs → lv_has ls 4 [(0, .ref b), (1, .ref (G.1 105)), (2, .ref (G2.1 28)), (3, .int (nI i))] → W p l e room_1 s m #[Value.ref b] below meth c H locs 600000 7302250 (lw_Z below #[Value.ref b] s) (F0 m 1302 ls [])) : W p l e room_1 s m #[Value.ref b] below meth c H locs 600000 7302250 (lw_Z below #[Value.ref b] s) (F0 m 1048 ls []) := by
  obtain ⟨hx, hb, hr, hml, hown, hts0, hX, hbl, hlocks, hgv⟩ := C0
  have hts : ∀ w ∈ lwW, w.before #[Value.ref b] s = true := fun w hw => hts0 w (lwW_ok hw)
  have hbA : ¬ (fun q : Nat => s.heap.size ≤ q) b := Nat.not_le.mpr hbl
  obtain ⟨r, σ2, μ2, e1, e2, hSt2⟩ := hA σ μ (xs (nI i + nI 1).toNatClampNeg) (xs (nI i + nI 2).toNatClampNeg) (xs (nI i + nI 3).toNatClampNeg) hSt
  refine lv_aload_n hx hb dL_law_1048 rfl (lv_at hl 1 rfl) ?_
  refine lv_aload_n hx hb dL_law_1049 rfl (lv_at hl 0 rfl) ?_
  refine lv_iload_n hx hb dL_law_1050 rfl (lv_at hl 3 rfl) ?_
  refine lv_iconst (v := nI 1) hx hb dL_law_1051 (by decide) ?_
  refine lv_iadd hx hb dL_law_1052 ?_
  refine va_sld hx hb hX hbl hbA hS (lvin (by omega) hL) dL_law_1053 ?_
  refine lv_aload_n hx hb dL_law_1054 rfl (lv_at hl 0 rfl) ?_
  refine lv_iload_n hx hb dL_law_1055 rfl (lv_at hl 3 rfl) ?_
  refine lv_iconst (v := nI 2) hx hb dL_law_1056 (by decide) ?_
  refine lv_iadd hx hb dL_law_1057 ?_
  refine va_sld hx hb hX hbl hbA hS (lvin (by omega) hL) dL_law_1058 ?_
  refine lv_aload_n hx hb dL_law_1059 rfl (lv_at hl 0 rfl) ?_
  refine lv_iload_n hx hb dL_law_1060 rfl (lv_at hl 3 rfl) ?_
  refine lv_iconst (v := nI 3) hx hb dL_law_1061 (by decide) ?_
  refine lv_iadd hx hb dL_law_1062 ?_
  refine va_sld hx hb hX hbl hbA hS (lvin (by omega) hL) dL_law_1063 ?_
  refine va_calli (va_runV (As := [.int (xs (nI i + nI 1).toNatClampNeg), .int (xs (nI i + nI 2).toNatClampNeg), .int (xs (nI i + nI 3).toNatClampNeg)]) (rest := []) ⟨hx, hb, hml, hown, hts⟩ (kX11_turned l D G ub σ (xs (nI i + nI 1).toNatClampNeg) (xs (nI i + nI 2).toNatClampNeg) (xs (nI i + nI 3).toNatClampNeg) (r, σ2) e1) (cwV 3 hts (lwW_gV mw_827 mw_828 mw_829 mw_1 mw_830) rfl rfl rfl (by decide +kernel) ⟨Nat.le_of_ble_eq_true rfl, Nat.le_of_ble_eq_true rfl⟩) ⟨fun a U g mk q => ⟨q.1, xPre_call q.2⟩, va_recv F.1 hP rfl (xg_7 (k := 105) rfl), fun U hU hW => ⟨rfl, xPre_law F hS hP hU hW⟩⟩ rfl rfl hl.1 rfl (lv_room (Nat.le_of_ble_eq_true rfl)) dL_law_1064 ⟨Nat.le_refl _, Nat.le_refl _⟩) hS (fun q _ h => lwF_x F h) (fun q h => lwF_x F h) (fun r1 u t H1 locs ht hvm hw hB hz1 hq1 hS => ?_)
  obtain ⟨hw1, hw2⟩ := hw
  obtain rfl : r1 = r := hw1
  obtain rfl : u = σ2 := hw2
  have hP := hB.1
  rw [ht] at hP
  have hM := m_frame F hM hq1
  refine W.widen (k := 600000) (n := 7302250) (Nat.le_refl _) (Nat.le_refl _) ?_
  refine lv_aload_n hx hb dL_law_1067 rfl (lv_at hl 2 rfl) ?_
  refine lv_aload_n hx hb dL_law_1068 rfl (lv_at hl 0 rfl) ?_
  refine lv_iload_n hx hb dL_law_1069 rfl (lv_at hl 3 rfl) ?_
  refine lv_iconst (v := nI 1) hx hb dL_law_1070 (by decide) ?_
  refine lv_iadd hx hb dL_law_1071 ?_
  refine va_sld hx hb hX hbl hbA hS (lvin (by omega) hL) dL_law_1072 ?_
  refine lv_aload_n hx hb dL_law_1073 rfl (lv_at hl 0 rfl) ?_
  refine lv_iload_n hx hb dL_law_1074 rfl (lv_at hl 3 rfl) ?_
  refine lv_iconst (v := nI 2) hx hb dL_law_1075 (by decide) ?_
  refine lv_iadd hx hb dL_law_1076 ?_
  refine va_sld hx hb hX hbl hbA hS (lvin (by omega) hL) dL_law_1077 ?_
  refine lv_aload_n hx hb dL_law_1078 rfl (lv_at hl 0 rfl) ?_
  refine lv_iload_n hx hb dL_law_1079 rfl (lv_at hl 3 rfl) ?_
  refine lv_iconst (v := nI 3) hx hb dL_law_1080 (by decide) ?_
  refine lv_iadd hx hb dL_law_1081 ?_
  refine va_sld hx hb hX hbl hbA hS (lvin (by omega) hL) dL_law_1082 ?_
  refine va_calli (va_runV (As := [.int (xs (nI i + nI 1).toNatClampNeg), .int (xs (nI i + nI 2).toNatClampNeg), .int (xs (nI i + nI 3).toNatClampNeg)]) (rest := [.int r1]) ⟨hx, hb, hml, hown, hts⟩ (kX12_turned l D G2 μ (xs (nI i + nI 1).toNatClampNeg) (xs (nI i + nI 2).toNatClampNeg) (xs (nI i + nI 3).toNatClampNeg) (r1, μ2) e2) (cwV 3 hts (lwW_gV mw_1229 mw_1230 mw_1231 mw_14 mw_1232) rfl rfl rfl (by decide +kernel) ⟨Nat.le_of_ble_eq_true rfl, Nat.le_of_ble_eq_true rfl⟩) ⟨fun a U g mk q => ⟨q.1, mPre_call q.2⟩, va_recv F.1 hM rfl (mg_2 (k := 28) rfl), fun U hU hW => ⟨rfl, mPre_law F hM hU hW⟩⟩ rfl rfl hl.1 rfl (lv_room (Nat.le_of_ble_eq_true rfl)) dL_law_1083 ⟨Nat.le_refl _, Nat.le_refl _⟩) hS (fun q _ h => lwF_m F h) (fun q h => lwF_m F h) (fun r3 u3 t H2 locs ht hvm hw hB hz1 hq1 hS => ?_)
  obtain ⟨hw1, hw2⟩ := hw
  obtain rfl : r3 = r1 := hw1
  obtain rfl : u3 = μ2 := hw2
  have hM := hB.1
  rw [ht] at hM
  have hP := x_frame F hP hq1
  refine W.widen (k := 600000) (n := 7302250) (Nat.le_refl _) (Nat.le_refl _) ?_
  exact lv_icmp_eq (tgt := 1302) hx hb dL_law_1086 (by decide) (fun _ => kk _ _ _ _ _ hSt2 hP hM hS hl) (fun hc => absurd rfl hc)
set_option maxHeartbeats 4000000 in
set_option maxRecDepth 100000 in
theorem lc_25 {p : Program} {l : Launch} {e : Env} {s : State} {m : MethodId} {below : List Frame} {meth : Method} {c : Code} {D : va_G} {G G2 : xG} {ub : xB} {b L : Nat} {xs : Nat → Int32} {St : QMem → QMem → Prop} (C0 : lw_At p s m meth c b L xs) (F : lwF D G G2 ub s) (hL : L ≤ 3072) (hA : ∀ (σ μ : QMem) (a1 : Int32), St σ μ → ∃ (r : Int32) (σ2 μ2 : QMem), fX11_rank a1 σ = some (r, σ2) ∧ fX12_rank a1 μ = some (r, μ2) ∧ St σ2 μ2) (i : Nat) (hi : i + 6 ≤ L) (σ μ : QMem) (hSt : St σ μ) (H : Heap) (locs : List Loc) (ls : Array Slot) (hP : va_P D vwCl (xW G σ) H) (hM : va_P D vwCl (mW G2 μ) H) (hS : va_S (fun q : Nat => s.heap.size ≤ q) s.heap H locs) (hl : lv_has ls 4 [(0, .ref b), (1, .ref (G.1 105)), (2, .ref (G2.1 28)), (3, .int (nI i))]) (kk : ∀ (σ μ : QMem) (H : Heap) (locs : List Loc) (ls : Array Slot), St σ μ → va_P D vwCl (xW G σ) H → va_P D vwCl (mW G2 μ) H → va_S (fun q : Nat => s.heap.size ≤ q) s.heap H locs → lv_has ls 4 [(0, .ref b), (1, .ref (G.1 105)), (2, .ref (G2.1 28)), (3, .int (nI i))] → W p l e room_1 s m #[Value.ref b] below meth c H locs 600000 7302250 (lw_Z below #[Value.ref b] s) (F0 m 1302 ls [])) : W p l e room_1 s m #[Value.ref b] below meth c H locs 600000 7302250 (lw_Z below #[Value.ref b] s) (F0 m 1091 ls []) := by
  obtain ⟨hx, hb, hr, hml, hown, hts0, hX, hbl, hlocks, hgv⟩ := C0
  have hts : ∀ w ∈ lwW, w.before #[Value.ref b] s = true := fun w hw => hts0 w (lwW_ok hw)
  have hbA : ¬ (fun q : Nat => s.heap.size ≤ q) b := Nat.not_le.mpr hbl
  obtain ⟨r, σ2, μ2, e1, e2, hSt2⟩ := hA σ μ (xs (nI i + nI 1).toNatClampNeg) hSt
  refine lv_aload_n hx hb dL_law_1091 rfl (lv_at hl 1 rfl) ?_
  refine lv_aload_n hx hb dL_law_1092 rfl (lv_at hl 0 rfl) ?_
  refine lv_iload_n hx hb dL_law_1093 rfl (lv_at hl 3 rfl) ?_
  refine lv_iconst (v := nI 1) hx hb dL_law_1094 (by decide) ?_
  refine lv_iadd hx hb dL_law_1095 ?_
  refine va_sld hx hb hX hbl hbA hS (lvin (by omega) hL) dL_law_1096 ?_
  refine va_calli (va_runV (As := [.int (xs (nI i + nI 1).toNatClampNeg)]) (rest := []) ⟨hx, hb, hml, hown, hts⟩ (kX11_rank l D G ub σ (xs (nI i + nI 1).toNatClampNeg) (r, σ2) e1) (cwV 1 hts (lwW_gV mw_832 mw_833 mw_834 mw_1 mw_835) rfl rfl rfl (by decide +kernel) ⟨Nat.le_of_ble_eq_true rfl, Nat.le_of_ble_eq_true rfl⟩) ⟨fun a U g mk q => ⟨q.1, xPre_call q.2⟩, va_recv F.1 hP rfl (xg_7 (k := 105) rfl), fun U hU hW => ⟨rfl, xPre_law F hS hP hU hW⟩⟩ rfl rfl hl.1 rfl (lv_room (Nat.le_of_ble_eq_true rfl)) dL_law_1097 ⟨Nat.le_refl _, Nat.le_refl _⟩) hS (fun q _ h => lwF_x F h) (fun q h => lwF_x F h) (fun r1 u t H1 locs ht hvm hw hB hz1 hq1 hS => ?_)
  obtain ⟨hw1, hw2⟩ := hw
  obtain rfl : r1 = r := hw1
  obtain rfl : u = σ2 := hw2
  have hP := hB.1
  rw [ht] at hP
  have hM := m_frame F hM hq1
  refine W.widen (k := 600000) (n := 7302250) (Nat.le_refl _) (Nat.le_refl _) ?_
  refine lv_aload_n hx hb dL_law_1100 rfl (lv_at hl 2 rfl) ?_
  refine lv_aload_n hx hb dL_law_1101 rfl (lv_at hl 0 rfl) ?_
  refine lv_iload_n hx hb dL_law_1102 rfl (lv_at hl 3 rfl) ?_
  refine lv_iconst (v := nI 1) hx hb dL_law_1103 (by decide) ?_
  refine lv_iadd hx hb dL_law_1104 ?_
  refine va_sld hx hb hX hbl hbA hS (lvin (by omega) hL) dL_law_1105 ?_
  refine va_calli (va_runV (As := [.int (xs (nI i + nI 1).toNatClampNeg)]) (rest := [.int r1]) ⟨hx, hb, hml, hown, hts⟩ (kX12_rank l D G2 μ (xs (nI i + nI 1).toNatClampNeg) (r1, μ2) e2) (cwV 1 hts (lwW_gV mw_1233 mw_1234 mw_1235 mw_14 mw_1236) rfl rfl rfl (by decide +kernel) ⟨Nat.le_of_ble_eq_true rfl, Nat.le_of_ble_eq_true rfl⟩) ⟨fun a U g mk q => ⟨q.1, mPre_call q.2⟩, va_recv F.1 hM rfl (mg_2 (k := 28) rfl), fun U hU hW => ⟨rfl, mPre_law F hM hU hW⟩⟩ rfl rfl hl.1 rfl (lv_room (Nat.le_of_ble_eq_true rfl)) dL_law_1106 ⟨Nat.le_refl _, Nat.le_refl _⟩) hS (fun q _ h => lwF_m F h) (fun q h => lwF_m F h) (fun r3 u3 t H2 locs ht hvm hw hB hz1 hq1 hS => ?_)
  obtain ⟨hw1, hw2⟩ := hw
  obtain rfl : r3 = r1 := hw1
  obtain rfl : u3 = μ2 := hw2
  have hM := hB.1
  rw [ht] at hM
  have hP := x_frame F hP hq1
  refine W.widen (k := 600000) (n := 7302250) (Nat.le_refl _) (Nat.le_refl _) ?_
  exact lv_icmp_eq (tgt := 1302) hx hb dL_law_1109 (by decide) (fun _ => kk _ _ _ _ _ hSt2 hP hM hS hl) (fun hc => absurd rfl hc)
set_option maxHeartbeats 4000000 in
set_option maxRecDepth 100000 in
theorem lc_26 {p : Program} {l : Launch} {e : Env} {s : State} {m : MethodId} {below : List Frame} {meth : Method} {c : Code} {D : va_G} {G G2 : xG} {ub : xB} {b L : Nat} {xs : Nat → Int32} {St : QMem → QMem → Prop} (C0 : lw_At p s m meth c b L xs) (F : lwF D G G2 ub s) (hL : L ≤ 3072) (hA : ∀ (σ μ : QMem) (a1 : Int32) (a2 : Int32), St σ μ → ∃ (r : Int32) (σ2 μ2 : QMem), fX11_tally a1 a2 σ = some (r, σ2) ∧ fX12_tally a1 a2 μ = some (r, μ2) ∧ St σ2 μ2) (i : Nat) (hi : i + 6 ≤ L) (σ μ : QMem) (hSt : St σ μ) (H : Heap) (locs : List Loc) (ls : Array Slot) (hP : va_P D vwCl (xW G σ) H) (hM : va_P D vwCl (mW G2 μ) H) (hS : va_S (fun q : Nat => s.heap.size ≤ q) s.heap H locs) (hl : lv_has ls 4 [(0, .ref b), (1, .ref (G.1 105)), (2, .ref (G2.1 28)), (3, .int (nI i))]) (kk : ∀ (σ μ : QMem) (H : Heap) (locs : List Loc) (ls : Array Slot), St σ μ → va_P D vwCl (xW G σ) H → va_P D vwCl (mW G2 μ) H → va_S (fun q : Nat => s.heap.size ≤ q) s.heap H locs → lv_has ls 4 [(0, .ref b), (1, .ref (G.1 105)), (2, .ref (G2.1 28)), (3, .int (nI i))] → W p l e room_1 s m #[Value.ref b] below meth c H locs 600000 7302250 (lw_Z below #[Value.ref b] s) (F0 m 1302 ls [])) : W p l e room_1 s m #[Value.ref b] below meth c H locs 600000 7302250 (lw_Z below #[Value.ref b] s) (F0 m 1114 ls []) := by
  obtain ⟨hx, hb, hr, hml, hown, hts0, hX, hbl, hlocks, hgv⟩ := C0
  have hts : ∀ w ∈ lwW, w.before #[Value.ref b] s = true := fun w hw => hts0 w (lwW_ok hw)
  have hbA : ¬ (fun q : Nat => s.heap.size ≤ q) b := Nat.not_le.mpr hbl
  obtain ⟨r, σ2, μ2, e1, e2, hSt2⟩ := hA σ μ (xs (nI i + nI 1).toNatClampNeg) (xs (nI i + nI 2).toNatClampNeg) hSt
  refine lv_aload_n hx hb dL_law_1114 rfl (lv_at hl 1 rfl) ?_
  refine lv_aload_n hx hb dL_law_1115 rfl (lv_at hl 0 rfl) ?_
  refine lv_iload_n hx hb dL_law_1116 rfl (lv_at hl 3 rfl) ?_
  refine lv_iconst (v := nI 1) hx hb dL_law_1117 (by decide) ?_
  refine lv_iadd hx hb dL_law_1118 ?_
  refine va_sld hx hb hX hbl hbA hS (lvin (by omega) hL) dL_law_1119 ?_
  refine lv_aload_n hx hb dL_law_1120 rfl (lv_at hl 0 rfl) ?_
  refine lv_iload_n hx hb dL_law_1121 rfl (lv_at hl 3 rfl) ?_
  refine lv_iconst (v := nI 2) hx hb dL_law_1122 (by decide) ?_
  refine lv_iadd hx hb dL_law_1123 ?_
  refine va_sld hx hb hX hbl hbA hS (lvin (by omega) hL) dL_law_1124 ?_
  refine va_calli (va_runV (As := [.int (xs (nI i + nI 1).toNatClampNeg), .int (xs (nI i + nI 2).toNatClampNeg)]) (rest := []) ⟨hx, hb, hml, hown, hts⟩ (kX11_tally l D G ub σ (xs (nI i + nI 1).toNatClampNeg) (xs (nI i + nI 2).toNatClampNeg) (r, σ2) e1) (cwV 2 hts (lwW_gV mw_845 mw_846 mw_847 mw_1 mw_848) rfl rfl rfl (by decide +kernel) ⟨Nat.le_of_ble_eq_true rfl, Nat.le_of_ble_eq_true rfl⟩) ⟨fun a U g mk q => ⟨q.1, xPre_call q.2⟩, va_recv F.1 hP rfl (xg_7 (k := 105) rfl), fun U hU hW => ⟨rfl, xPre_law F hS hP hU hW⟩⟩ rfl rfl hl.1 rfl (lv_room (Nat.le_of_ble_eq_true rfl)) dL_law_1125 ⟨Nat.le_refl _, Nat.le_refl _⟩) hS (fun q _ h => lwF_x F h) (fun q h => lwF_x F h) (fun r1 u t H1 locs ht hvm hw hB hz1 hq1 hS => ?_)
  obtain ⟨hw1, hw2⟩ := hw
  obtain rfl : r1 = r := hw1
  obtain rfl : u = σ2 := hw2
  have hP := hB.1
  rw [ht] at hP
  have hM := m_frame F hM hq1
  refine W.widen (k := 600000) (n := 7302250) (Nat.le_refl _) (Nat.le_refl _) ?_
  refine lv_aload_n hx hb dL_law_1128 rfl (lv_at hl 2 rfl) ?_
  refine lv_aload_n hx hb dL_law_1129 rfl (lv_at hl 0 rfl) ?_
  refine lv_iload_n hx hb dL_law_1130 rfl (lv_at hl 3 rfl) ?_
  refine lv_iconst (v := nI 1) hx hb dL_law_1131 (by decide) ?_
  refine lv_iadd hx hb dL_law_1132 ?_
  refine va_sld hx hb hX hbl hbA hS (lvin (by omega) hL) dL_law_1133 ?_
  refine lv_aload_n hx hb dL_law_1134 rfl (lv_at hl 0 rfl) ?_
  refine lv_iload_n hx hb dL_law_1135 rfl (lv_at hl 3 rfl) ?_
  refine lv_iconst (v := nI 2) hx hb dL_law_1136 (by decide) ?_
  refine lv_iadd hx hb dL_law_1137 ?_
  refine va_sld hx hb hX hbl hbA hS (lvin (by omega) hL) dL_law_1138 ?_
  refine va_calli (va_runV (As := [.int (xs (nI i + nI 1).toNatClampNeg), .int (xs (nI i + nI 2).toNatClampNeg)]) (rest := [.int r1]) ⟨hx, hb, hml, hown, hts⟩ (kX12_tally l D G2 μ (xs (nI i + nI 1).toNatClampNeg) (xs (nI i + nI 2).toNatClampNeg) (r1, μ2) e2) (cwV 2 hts (lwW_gV mw_1301 mw_1302 mw_1303 mw_14 mw_1304) rfl rfl rfl (by decide +kernel) ⟨Nat.le_of_ble_eq_true rfl, Nat.le_of_ble_eq_true rfl⟩) ⟨fun a U g mk q => ⟨q.1, mPre_call q.2⟩, va_recv F.1 hM rfl (mg_2 (k := 28) rfl), fun U hU hW => ⟨rfl, mPre_law F hM hU hW⟩⟩ rfl rfl hl.1 rfl (lv_room (Nat.le_of_ble_eq_true rfl)) dL_law_1139 ⟨Nat.le_refl _, Nat.le_refl _⟩) hS (fun q _ h => lwF_m F h) (fun q h => lwF_m F h) (fun r3 u3 t H2 locs ht hvm hw hB hz1 hq1 hS => ?_)
  obtain ⟨hw1, hw2⟩ := hw
  obtain rfl : r3 = r1 := hw1
  obtain rfl : u3 = μ2 := hw2
  have hM := hB.1
  rw [ht] at hM
  have hP := x_frame F hP hq1
  refine W.widen (k := 600000) (n := 7302250) (Nat.le_refl _) (Nat.le_refl _) ?_
  exact lv_icmp_eq (tgt := 1302) hx hb dL_law_1142 (by decide) (fun _ => kk _ _ _ _ _ hSt2 hP hM hS hl) (fun hc => absurd rfl hc)
set_option maxHeartbeats 4000000 in
set_option maxRecDepth 100000 in
theorem lc_27 {p : Program} {l : Launch} {e : Env} {s : State} {m : MethodId} {below : List Frame} {meth : Method} {c : Code} {D : va_G} {G G2 : xG} {ub : xB} {b L : Nat} {xs : Nat → Int32} {St : QMem → QMem → Prop} (C0 : lw_At p s m meth c b L xs) (F : lwF D G G2 ub s) (hL : L ≤ 3072) (hA : ∀ (σ μ : QMem) (a1 : Int32) (a2 : Int32) (a3 : Int32), St σ μ → ∃ (r : Int32) (σ2 μ2 : QMem), fX11_load a1 a2 a3 σ = some (r, σ2) ∧ fX12_load a1 a2 a3 μ = some (r, μ2) ∧ St σ2 μ2) (i : Nat) (hi : i + 6 ≤ L) (σ μ : QMem) (hSt : St σ μ) (H : Heap) (locs : List Loc) (ls : Array Slot) (hP : va_P D vwCl (xW G σ) H) (hM : va_P D vwCl (mW G2 μ) H) (hS : va_S (fun q : Nat => s.heap.size ≤ q) s.heap H locs) (hl : lv_has ls 4 [(0, .ref b), (1, .ref (G.1 105)), (2, .ref (G2.1 28)), (3, .int (nI i))]) (kk : ∀ (σ μ : QMem) (H : Heap) (locs : List Loc) (ls : Array Slot), St σ μ → va_P D vwCl (xW G σ) H → va_P D vwCl (mW G2 μ) H → va_S (fun q : Nat => s.heap.size ≤ q) s.heap H locs → lv_has ls 4 [(0, .ref b), (1, .ref (G.1 105)), (2, .ref (G2.1 28)), (3, .int (nI i))] → W p l e room_1 s m #[Value.ref b] below meth c H locs 600000 7302250 (lw_Z below #[Value.ref b] s) (F0 m 1302 ls [])) : W p l e room_1 s m #[Value.ref b] below meth c H locs 600000 7302250 (lw_Z below #[Value.ref b] s) (F0 m 1147 ls []) := by
  obtain ⟨hx, hb, hr, hml, hown, hts0, hX, hbl, hlocks, hgv⟩ := C0
  have hts : ∀ w ∈ lwW, w.before #[Value.ref b] s = true := fun w hw => hts0 w (lwW_ok hw)
  have hbA : ¬ (fun q : Nat => s.heap.size ≤ q) b := Nat.not_le.mpr hbl
  obtain ⟨r, σ2, μ2, e1, e2, hSt2⟩ := hA σ μ (xs (nI i + nI 1).toNatClampNeg) (xs (nI i + nI 2).toNatClampNeg) (xs (nI i + nI 3).toNatClampNeg) hSt
  refine lv_aload_n hx hb dL_law_1147 rfl (lv_at hl 1 rfl) ?_
  refine lv_aload_n hx hb dL_law_1148 rfl (lv_at hl 0 rfl) ?_
  refine lv_iload_n hx hb dL_law_1149 rfl (lv_at hl 3 rfl) ?_
  refine lv_iconst (v := nI 1) hx hb dL_law_1150 (by decide) ?_
  refine lv_iadd hx hb dL_law_1151 ?_
  refine va_sld hx hb hX hbl hbA hS (lvin (by omega) hL) dL_law_1152 ?_
  refine lv_aload_n hx hb dL_law_1153 rfl (lv_at hl 0 rfl) ?_
  refine lv_iload_n hx hb dL_law_1154 rfl (lv_at hl 3 rfl) ?_
  refine lv_iconst (v := nI 2) hx hb dL_law_1155 (by decide) ?_
  refine lv_iadd hx hb dL_law_1156 ?_
  refine va_sld hx hb hX hbl hbA hS (lvin (by omega) hL) dL_law_1157 ?_
  refine lv_aload_n hx hb dL_law_1158 rfl (lv_at hl 0 rfl) ?_
  refine lv_iload_n hx hb dL_law_1159 rfl (lv_at hl 3 rfl) ?_
  refine lv_iconst (v := nI 3) hx hb dL_law_1160 (by decide) ?_
  refine lv_iadd hx hb dL_law_1161 ?_
  refine va_sld hx hb hX hbl hbA hS (lvin (by omega) hL) dL_law_1162 ?_
  refine va_calli (va_runV (As := [.int (xs (nI i + nI 1).toNatClampNeg), .int (xs (nI i + nI 2).toNatClampNeg), .int (xs (nI i + nI 3).toNatClampNeg)]) (rest := []) ⟨hx, hb, hml, hown, hts⟩ (kX11_load l D G ub σ (xs (nI i + nI 1).toNatClampNeg) (xs (nI i + nI 2).toNatClampNeg) (xs (nI i + nI 3).toNatClampNeg) (r, σ2) e1) (cwV 3 hts (lwW_gV mw_860 mw_861 mw_862 mw_1 mw_863) rfl rfl rfl (by decide +kernel) ⟨Nat.le_of_ble_eq_true rfl, Nat.le_of_ble_eq_true rfl⟩) ⟨fun a U g mk q => ⟨q.1, xPre_call q.2⟩, va_recv F.1 hP rfl (xg_7 (k := 105) rfl), fun U hU hW => ⟨rfl, xPre_law F hS hP hU hW⟩⟩ rfl rfl hl.1 rfl (lv_room (Nat.le_of_ble_eq_true rfl)) dL_law_1163 ⟨Nat.le_refl _, Nat.le_refl _⟩) hS (fun q _ h => lwF_x F h) (fun q h => lwF_x F h) (fun r1 u t H1 locs ht hvm hw hB hz1 hq1 hS => ?_)
  obtain ⟨hw1, hw2⟩ := hw
  obtain rfl : r1 = r := hw1
  obtain rfl : u = σ2 := hw2
  have hP := hB.1
  rw [ht] at hP
  have hM := m_frame F hM hq1
  refine W.widen (k := 600000) (n := 7302250) (Nat.le_refl _) (Nat.le_refl _) ?_
  refine lv_aload_n hx hb dL_law_1166 rfl (lv_at hl 2 rfl) ?_
  refine lv_aload_n hx hb dL_law_1167 rfl (lv_at hl 0 rfl) ?_
  refine lv_iload_n hx hb dL_law_1168 rfl (lv_at hl 3 rfl) ?_
  refine lv_iconst (v := nI 1) hx hb dL_law_1169 (by decide) ?_
  refine lv_iadd hx hb dL_law_1170 ?_
  refine va_sld hx hb hX hbl hbA hS (lvin (by omega) hL) dL_law_1171 ?_
  refine lv_aload_n hx hb dL_law_1172 rfl (lv_at hl 0 rfl) ?_
  refine lv_iload_n hx hb dL_law_1173 rfl (lv_at hl 3 rfl) ?_
  refine lv_iconst (v := nI 2) hx hb dL_law_1174 (by decide) ?_
  refine lv_iadd hx hb dL_law_1175 ?_
  refine va_sld hx hb hX hbl hbA hS (lvin (by omega) hL) dL_law_1176 ?_
  refine lv_aload_n hx hb dL_law_1177 rfl (lv_at hl 0 rfl) ?_
  refine lv_iload_n hx hb dL_law_1178 rfl (lv_at hl 3 rfl) ?_
  refine lv_iconst (v := nI 3) hx hb dL_law_1179 (by decide) ?_
  refine lv_iadd hx hb dL_law_1180 ?_
  refine va_sld hx hb hX hbl hbA hS (lvin (by omega) hL) dL_law_1181 ?_
  refine va_calli (va_runV (As := [.int (xs (nI i + nI 1).toNatClampNeg), .int (xs (nI i + nI 2).toNatClampNeg), .int (xs (nI i + nI 3).toNatClampNeg)]) (rest := [.int r1]) ⟨hx, hb, hml, hown, hts⟩ (kX12_load l D G2 μ (xs (nI i + nI 1).toNatClampNeg) (xs (nI i + nI 2).toNatClampNeg) (xs (nI i + nI 3).toNatClampNeg) (r1, μ2) e2) (cwV 3 hts (lwW_gV mw_1308 mw_1309 mw_1310 mw_14 mw_1311) rfl rfl rfl (by decide +kernel) ⟨Nat.le_of_ble_eq_true rfl, Nat.le_of_ble_eq_true rfl⟩) ⟨fun a U g mk q => ⟨q.1, mPre_call q.2⟩, va_recv F.1 hM rfl (mg_2 (k := 28) rfl), fun U hU hW => ⟨rfl, mPre_law F hM hU hW⟩⟩ rfl rfl hl.1 rfl (lv_room (Nat.le_of_ble_eq_true rfl)) dL_law_1182 ⟨Nat.le_refl _, Nat.le_refl _⟩) hS (fun q _ h => lwF_m F h) (fun q h => lwF_m F h) (fun r3 u3 t H2 locs ht hvm hw hB hz1 hq1 hS => ?_)
  obtain ⟨hw1, hw2⟩ := hw
  obtain rfl : r3 = r1 := hw1
  obtain rfl : u3 = μ2 := hw2
  have hM := hB.1
  rw [ht] at hM
  have hP := x_frame F hP hq1
  refine W.widen (k := 600000) (n := 7302250) (Nat.le_refl _) (Nat.le_refl _) ?_
  exact lv_icmp_eq (tgt := 1302) hx hb dL_law_1185 (by decide) (fun _ => kk _ _ _ _ _ hSt2 hP hM hS hl) (fun hc => absurd rfl hc)
set_option maxHeartbeats 4000000 in
set_option maxRecDepth 100000 in
theorem lc_28 {p : Program} {l : Launch} {e : Env} {s : State} {m : MethodId} {below : List Frame} {meth : Method} {c : Code} {D : va_G} {G G2 : xG} {ub : xB} {b L : Nat} {xs : Nat → Int32} {St : QMem → QMem → Prop} (C0 : lw_At p s m meth c b L xs) (F : lwF D G G2 ub s) (hL : L ≤ 3072) (hA : ∀ (σ μ : QMem) (a1 : Int32) (a2 : Int32) (a3 : Int32) (a4 : Int32), St σ μ → ∃ (r : Int32) (σ2 μ2 : QMem), fX11_work a1 a2 a3 a4 σ = some (r, σ2) ∧ fX12_work a1 a2 a3 a4 μ = some (r, μ2) ∧ St σ2 μ2) (i : Nat) (hi : i + 6 ≤ L) (σ μ : QMem) (hSt : St σ μ) (H : Heap) (locs : List Loc) (ls : Array Slot) (hP : va_P D vwCl (xW G σ) H) (hM : va_P D vwCl (mW G2 μ) H) (hS : va_S (fun q : Nat => s.heap.size ≤ q) s.heap H locs) (hl : lv_has ls 4 [(0, .ref b), (1, .ref (G.1 105)), (2, .ref (G2.1 28)), (3, .int (nI i))]) (kk : ∀ (σ μ : QMem) (H : Heap) (locs : List Loc) (ls : Array Slot), St σ μ → va_P D vwCl (xW G σ) H → va_P D vwCl (mW G2 μ) H → va_S (fun q : Nat => s.heap.size ≤ q) s.heap H locs → lv_has ls 4 [(0, .ref b), (1, .ref (G.1 105)), (2, .ref (G2.1 28)), (3, .int (nI i))] → W p l e room_1 s m #[Value.ref b] below meth c H locs 600000 7302250 (lw_Z below #[Value.ref b] s) (F0 m 1302 ls [])) : W p l e room_1 s m #[Value.ref b] below meth c H locs 600000 7302250 (lw_Z below #[Value.ref b] s) (F0 m 1190 ls []) := by
  obtain ⟨hx, hb, hr, hml, hown, hts0, hX, hbl, hlocks, hgv⟩ := C0
  have hts : ∀ w ∈ lwW, w.before #[Value.ref b] s = true := fun w hw => hts0 w (lwW_ok hw)
  have hbA : ¬ (fun q : Nat => s.heap.size ≤ q) b := Nat.not_le.mpr hbl
  obtain ⟨r, σ2, μ2, e1, e2, hSt2⟩ := hA σ μ (xs (nI i + nI 1).toNatClampNeg) (xs (nI i + nI 2).toNatClampNeg) (xs (nI i + nI 3).toNatClampNeg) (xs (nI i + nI 4).toNatClampNeg) hSt
  refine lv_aload_n hx hb dL_law_1190 rfl (lv_at hl 1 rfl) ?_
  refine lv_aload_n hx hb dL_law_1191 rfl (lv_at hl 0 rfl) ?_
  refine lv_iload_n hx hb dL_law_1192 rfl (lv_at hl 3 rfl) ?_
  refine lv_iconst (v := nI 1) hx hb dL_law_1193 (by decide) ?_
  refine lv_iadd hx hb dL_law_1194 ?_
  refine va_sld hx hb hX hbl hbA hS (lvin (by omega) hL) dL_law_1195 ?_
  refine lv_aload_n hx hb dL_law_1196 rfl (lv_at hl 0 rfl) ?_
  refine lv_iload_n hx hb dL_law_1197 rfl (lv_at hl 3 rfl) ?_
  refine lv_iconst (v := nI 2) hx hb dL_law_1198 (by decide) ?_
  refine lv_iadd hx hb dL_law_1199 ?_
  refine va_sld hx hb hX hbl hbA hS (lvin (by omega) hL) dL_law_1200 ?_
  refine lv_aload_n hx hb dL_law_1201 rfl (lv_at hl 0 rfl) ?_
  refine lv_iload_n hx hb dL_law_1202 rfl (lv_at hl 3 rfl) ?_
  refine lv_iconst (v := nI 3) hx hb dL_law_1203 (by decide) ?_
  refine lv_iadd hx hb dL_law_1204 ?_
  refine va_sld hx hb hX hbl hbA hS (lvin (by omega) hL) dL_law_1205 ?_
  refine lv_aload_n hx hb dL_law_1206 rfl (lv_at hl 0 rfl) ?_
  refine lv_iload_n hx hb dL_law_1207 rfl (lv_at hl 3 rfl) ?_
  refine lv_iconst (v := nI 4) hx hb dL_law_1208 (by decide) ?_
  refine lv_iadd hx hb dL_law_1209 ?_
  refine va_sld hx hb hX hbl hbA hS (lvin (by omega) hL) dL_law_1210 ?_
  refine va_calli (va_runV (As := [.int (xs (nI i + nI 1).toNatClampNeg), .int (xs (nI i + nI 2).toNatClampNeg), .int (xs (nI i + nI 3).toNatClampNeg), .int (xs (nI i + nI 4).toNatClampNeg)]) (rest := []) ⟨hx, hb, hml, hown, hts⟩ (kX11_work l D G ub σ (xs (nI i + nI 1).toNatClampNeg) (xs (nI i + nI 2).toNatClampNeg) (xs (nI i + nI 3).toNatClampNeg) (xs (nI i + nI 4).toNatClampNeg) (r, σ2) e1) (cwV 4 hts (lwW_gV mw_876 mw_877 mw_878 mw_1 mw_879) rfl rfl rfl (by decide +kernel) ⟨Nat.le_of_ble_eq_true rfl, Nat.le_of_ble_eq_true rfl⟩) ⟨fun a U g mk q => ⟨q.1, xPre_call q.2⟩, va_recv F.1 hP rfl (xg_7 (k := 105) rfl), fun U hU hW => ⟨rfl, xPre_law F hS hP hU hW⟩⟩ rfl rfl hl.1 rfl (lv_room (Nat.le_of_ble_eq_true rfl)) dL_law_1211 ⟨Nat.le_refl _, Nat.le_refl _⟩) hS (fun q _ h => lwF_x F h) (fun q h => lwF_x F h) (fun r1 u t H1 locs ht hvm hw hB hz1 hq1 hS => ?_)
  obtain ⟨hw1, hw2⟩ := hw
  obtain rfl : r1 = r := hw1
  obtain rfl : u = σ2 := hw2
  have hP := hB.1
  rw [ht] at hP
  have hM := m_frame F hM hq1
  refine W.widen (k := 600000) (n := 7302250) (Nat.le_refl _) (Nat.le_refl _) ?_
  refine lv_aload_n hx hb dL_law_1214 rfl (lv_at hl 2 rfl) ?_
  refine lv_aload_n hx hb dL_law_1215 rfl (lv_at hl 0 rfl) ?_
  refine lv_iload_n hx hb dL_law_1216 rfl (lv_at hl 3 rfl) ?_
  refine lv_iconst (v := nI 1) hx hb dL_law_1217 (by decide) ?_
  refine lv_iadd hx hb dL_law_1218 ?_
  refine va_sld hx hb hX hbl hbA hS (lvin (by omega) hL) dL_law_1219 ?_
  refine lv_aload_n hx hb dL_law_1220 rfl (lv_at hl 0 rfl) ?_
  refine lv_iload_n hx hb dL_law_1221 rfl (lv_at hl 3 rfl) ?_
  refine lv_iconst (v := nI 2) hx hb dL_law_1222 (by decide) ?_
  refine lv_iadd hx hb dL_law_1223 ?_
  refine va_sld hx hb hX hbl hbA hS (lvin (by omega) hL) dL_law_1224 ?_
  refine lv_aload_n hx hb dL_law_1225 rfl (lv_at hl 0 rfl) ?_
  refine lv_iload_n hx hb dL_law_1226 rfl (lv_at hl 3 rfl) ?_
  refine lv_iconst (v := nI 3) hx hb dL_law_1227 (by decide) ?_
  refine lv_iadd hx hb dL_law_1228 ?_
  refine va_sld hx hb hX hbl hbA hS (lvin (by omega) hL) dL_law_1229 ?_
  refine lv_aload_n hx hb dL_law_1230 rfl (lv_at hl 0 rfl) ?_
  refine lv_iload_n hx hb dL_law_1231 rfl (lv_at hl 3 rfl) ?_
  refine lv_iconst (v := nI 4) hx hb dL_law_1232 (by decide) ?_
  refine lv_iadd hx hb dL_law_1233 ?_
  refine va_sld hx hb hX hbl hbA hS (lvin (by omega) hL) dL_law_1234 ?_
  refine va_calli (va_runV (As := [.int (xs (nI i + nI 1).toNatClampNeg), .int (xs (nI i + nI 2).toNatClampNeg), .int (xs (nI i + nI 3).toNatClampNeg), .int (xs (nI i + nI 4).toNatClampNeg)]) (rest := [.int r1]) ⟨hx, hb, hml, hown, hts⟩ (kX12_work l D G2 μ (xs (nI i + nI 1).toNatClampNeg) (xs (nI i + nI 2).toNatClampNeg) (xs (nI i + nI 3).toNatClampNeg) (xs (nI i + nI 4).toNatClampNeg) (r1, μ2) e2) (cwV 4 hts (lwW_gV mw_1316 mw_1317 mw_1318 mw_14 mw_1319) rfl rfl rfl (by decide +kernel) ⟨Nat.le_of_ble_eq_true rfl, Nat.le_of_ble_eq_true rfl⟩) ⟨fun a U g mk q => ⟨q.1, mPre_call q.2⟩, va_recv F.1 hM rfl (mg_2 (k := 28) rfl), fun U hU hW => ⟨rfl, mPre_law F hM hU hW⟩⟩ rfl rfl hl.1 rfl (lv_room (Nat.le_of_ble_eq_true rfl)) dL_law_1235 ⟨Nat.le_refl _, Nat.le_refl _⟩) hS (fun q _ h => lwF_m F h) (fun q h => lwF_m F h) (fun r3 u3 t H2 locs ht hvm hw hB hz1 hq1 hS => ?_)
  obtain ⟨hw1, hw2⟩ := hw
  obtain rfl : r3 = r1 := hw1
  obtain rfl : u3 = μ2 := hw2
  have hM := hB.1
  rw [ht] at hM
  have hP := x_frame F hP hq1
  refine W.widen (k := 600000) (n := 7302250) (Nat.le_refl _) (Nat.le_refl _) ?_
  exact lv_icmp_eq (tgt := 1302) hx hb dL_law_1238 (by decide) (fun _ => kk _ _ _ _ _ hSt2 hP hM hS hl) (fun hc => absurd rfl hc)
set_option maxHeartbeats 4000000 in
set_option maxRecDepth 100000 in
theorem lc_29 {p : Program} {l : Launch} {e : Env} {s : State} {m : MethodId} {below : List Frame} {meth : Method} {c : Code} {D : va_G} {G G2 : xG} {ub : xB} {b L : Nat} {xs : Nat → Int32} {St : QMem → QMem → Prop} (C0 : lw_At p s m meth c b L xs) (F : lwF D G G2 ub s) (hL : L ≤ 3072) (hA : ∀ (σ μ : QMem), St σ μ → ∃ (r : Int32) (σ2 μ2 : QMem), fX11_latest σ = some (r, σ2) ∧ fX12_latest μ = some (r, μ2) ∧ St σ2 μ2) (i : Nat) (hi : i + 6 ≤ L) (σ μ : QMem) (hSt : St σ μ) (H : Heap) (locs : List Loc) (ls : Array Slot) (hP : va_P D vwCl (xW G σ) H) (hM : va_P D vwCl (mW G2 μ) H) (hS : va_S (fun q : Nat => s.heap.size ≤ q) s.heap H locs) (hl : lv_has ls 4 [(0, .ref b), (1, .ref (G.1 105)), (2, .ref (G2.1 28)), (3, .int (nI i))]) (kk : ∀ (σ μ : QMem) (H : Heap) (locs : List Loc) (ls : Array Slot), St σ μ → va_P D vwCl (xW G σ) H → va_P D vwCl (mW G2 μ) H → va_S (fun q : Nat => s.heap.size ≤ q) s.heap H locs → lv_has ls 4 [(0, .ref b), (1, .ref (G.1 105)), (2, .ref (G2.1 28)), (3, .int (nI i))] → W p l e room_1 s m #[Value.ref b] below meth c H locs 600000 7302250 (lw_Z below #[Value.ref b] s) (F0 m 1302 ls [])) : W p l e room_1 s m #[Value.ref b] below meth c H locs 600000 7302250 (lw_Z below #[Value.ref b] s) (F0 m 1243 ls []) := by
  obtain ⟨hx, hb, hr, hml, hown, hts0, hX, hbl, hlocks, hgv⟩ := C0
  have hts : ∀ w ∈ lwW, w.before #[Value.ref b] s = true := fun w hw => hts0 w (lwW_ok hw)
  have hbA : ¬ (fun q : Nat => s.heap.size ≤ q) b := Nat.not_le.mpr hbl
  obtain ⟨r, σ2, μ2, e1, e2, hSt2⟩ := hA σ μ hSt
  refine lv_aload_n hx hb dL_law_1243 rfl (lv_at hl 1 rfl) ?_
  refine va_calli (va_runV (As := []) (rest := []) ⟨hx, hb, hml, hown, hts⟩ (kX11_latest l D G ub σ (r, σ2) e1) (cwV 0 hts (lwW_gV mw_887 mw_888 mw_889 mw_1 mw_890) rfl rfl rfl (by decide +kernel) ⟨Nat.le_of_ble_eq_true rfl, Nat.le_of_ble_eq_true rfl⟩) ⟨fun a U g mk q => ⟨q.1, xPre_call q.2⟩, va_recv F.1 hP rfl (xg_7 (k := 105) rfl), fun U hU hW => ⟨rfl, xPre_law F hS hP hU hW⟩⟩ rfl rfl hl.1 rfl (lv_room (Nat.le_of_ble_eq_true rfl)) dL_law_1244 ⟨Nat.le_refl _, Nat.le_refl _⟩) hS (fun q _ h => lwF_x F h) (fun q h => lwF_x F h) (fun r1 u t H1 locs ht hvm hw hB hz1 hq1 hS => ?_)
  obtain ⟨hw1, hw2⟩ := hw
  obtain rfl : r1 = r := hw1
  obtain rfl : u = σ2 := hw2
  have hP := hB.1
  rw [ht] at hP
  have hM := m_frame F hM hq1
  refine W.widen (k := 600000) (n := 7302250) (Nat.le_refl _) (Nat.le_refl _) ?_
  refine lv_aload_n hx hb dL_law_1247 rfl (lv_at hl 2 rfl) ?_
  refine va_calli (va_runV (As := []) (rest := [.int r1]) ⟨hx, hb, hml, hown, hts⟩ (kX12_latest l D G2 μ (r1, μ2) e2) (cwV 0 hts (lwW_gV mw_1323 mw_1324 mw_1325 mw_14 mw_1326) rfl rfl rfl (by decide +kernel) ⟨Nat.le_of_ble_eq_true rfl, Nat.le_of_ble_eq_true rfl⟩) ⟨fun a U g mk q => ⟨q.1, mPre_call q.2⟩, va_recv F.1 hM rfl (mg_2 (k := 28) rfl), fun U hU hW => ⟨rfl, mPre_law F hM hU hW⟩⟩ rfl rfl hl.1 rfl (lv_room (Nat.le_of_ble_eq_true rfl)) dL_law_1248 ⟨Nat.le_refl _, Nat.le_refl _⟩) hS (fun q _ h => lwF_m F h) (fun q h => lwF_m F h) (fun r3 u3 t H2 locs ht hvm hw hB hz1 hq1 hS => ?_)
  obtain ⟨hw1, hw2⟩ := hw
  obtain rfl : r3 = r1 := hw1
  obtain rfl : u3 = μ2 := hw2
  have hM := hB.1
  rw [ht] at hM
  have hP := x_frame F hP hq1
  refine W.widen (k := 600000) (n := 7302250) (Nat.le_refl _) (Nat.le_refl _) ?_
  exact lv_icmp_eq (tgt := 1302) hx hb dL_law_1251 (by decide) (fun _ => kk _ _ _ _ _ hSt2 hP hM hS hl) (fun hc => absurd rfl hc)
set_option maxHeartbeats 4000000 in
set_option maxRecDepth 100000 in
theorem lc_30 {p : Program} {l : Launch} {e : Env} {s : State} {m : MethodId} {below : List Frame} {meth : Method} {c : Code} {D : va_G} {G G2 : xG} {ub : xB} {b L : Nat} {xs : Nat → Int32} {St : QMem → QMem → Prop} (C0 : lw_At p s m meth c b L xs) (F : lwF D G G2 ub s) (hL : L ≤ 3072) (hA : ∀ (σ μ : QMem) (a1 : Int32), St σ μ → ∃ (r : Int32) (σ2 μ2 : QMem), fX11_drop a1 σ = some (r, σ2) ∧ fX12_drop a1 μ = some (r, μ2) ∧ St σ2 μ2) (i : Nat) (hi : i + 6 ≤ L) (σ μ : QMem) (hSt : St σ μ) (H : Heap) (locs : List Loc) (ls : Array Slot) (hP : va_P D vwCl (xW G σ) H) (hM : va_P D vwCl (mW G2 μ) H) (hS : va_S (fun q : Nat => s.heap.size ≤ q) s.heap H locs) (hl : lv_has ls 4 [(0, .ref b), (1, .ref (G.1 105)), (2, .ref (G2.1 28)), (3, .int (nI i))]) (kk : ∀ (σ μ : QMem) (H : Heap) (locs : List Loc) (ls : Array Slot), St σ μ → va_P D vwCl (xW G σ) H → va_P D vwCl (mW G2 μ) H → va_S (fun q : Nat => s.heap.size ≤ q) s.heap H locs → lv_has ls 4 [(0, .ref b), (1, .ref (G.1 105)), (2, .ref (G2.1 28)), (3, .int (nI i))] → W p l e room_1 s m #[Value.ref b] below meth c H locs 600000 7302250 (lw_Z below #[Value.ref b] s) (F0 m 1302 ls [])) : W p l e room_1 s m #[Value.ref b] below meth c H locs 600000 7302250 (lw_Z below #[Value.ref b] s) (F0 m 1256 ls []) := by
  obtain ⟨hx, hb, hr, hml, hown, hts0, hX, hbl, hlocks, hgv⟩ := C0
  have hts : ∀ w ∈ lwW, w.before #[Value.ref b] s = true := fun w hw => hts0 w (lwW_ok hw)
  have hbA : ¬ (fun q : Nat => s.heap.size ≤ q) b := Nat.not_le.mpr hbl
  obtain ⟨r, σ2, μ2, e1, e2, hSt2⟩ := hA σ μ (xs (nI i + nI 1).toNatClampNeg) hSt
  refine lv_aload_n hx hb dL_law_1256 rfl (lv_at hl 1 rfl) ?_
  refine lv_aload_n hx hb dL_law_1257 rfl (lv_at hl 0 rfl) ?_
  refine lv_iload_n hx hb dL_law_1258 rfl (lv_at hl 3 rfl) ?_
  refine lv_iconst (v := nI 1) hx hb dL_law_1259 (by decide) ?_
  refine lv_iadd hx hb dL_law_1260 ?_
  refine va_sld hx hb hX hbl hbA hS (lvin (by omega) hL) dL_law_1261 ?_
  refine va_calli (va_runV (As := [.int (xs (nI i + nI 1).toNatClampNeg)]) (rest := []) ⟨hx, hb, hml, hown, hts⟩ (kX11_drop l D G ub σ (xs (nI i + nI 1).toNatClampNeg) (r, σ2) e1) (cwV 1 hts (lwW_gV mw_891 mw_892 mw_893 mw_1 mw_894) rfl rfl rfl (by decide +kernel) ⟨Nat.le_of_ble_eq_true rfl, Nat.le_of_ble_eq_true rfl⟩) ⟨fun a U g mk q => ⟨q.1, xPre_call q.2⟩, va_recv F.1 hP rfl (xg_7 (k := 105) rfl), fun U hU hW => ⟨rfl, xPre_law F hS hP hU hW⟩⟩ rfl rfl hl.1 rfl (lv_room (Nat.le_of_ble_eq_true rfl)) dL_law_1262 ⟨Nat.le_refl _, Nat.le_refl _⟩) hS (fun q _ h => lwF_x F h) (fun q h => lwF_x F h) (fun r1 u t H1 locs ht hvm hw hB hz1 hq1 hS => ?_)
  obtain ⟨hw1, hw2⟩ := hw
  obtain rfl : r1 = r := hw1
  obtain rfl : u = σ2 := hw2
  have hP := hB.1
  rw [ht] at hP
  have hM := m_frame F hM hq1
  refine W.widen (k := 600000) (n := 7302250) (Nat.le_refl _) (Nat.le_refl _) ?_
  refine lv_aload_n hx hb dL_law_1265 rfl (lv_at hl 2 rfl) ?_
  refine lv_aload_n hx hb dL_law_1266 rfl (lv_at hl 0 rfl) ?_
  refine lv_iload_n hx hb dL_law_1267 rfl (lv_at hl 3 rfl) ?_
  refine lv_iconst (v := nI 1) hx hb dL_law_1268 (by decide) ?_
  refine lv_iadd hx hb dL_law_1269 ?_
  refine va_sld hx hb hX hbl hbA hS (lvin (by omega) hL) dL_law_1270 ?_
  refine va_calli (va_runV (As := [.int (xs (nI i + nI 1).toNatClampNeg)]) (rest := [.int r1]) ⟨hx, hb, hml, hown, hts⟩ (kX12_drop l D G2 μ (xs (nI i + nI 1).toNatClampNeg) (r1, μ2) e2) (cwV 1 hts (lwW_gV mw_1327 mw_1328 mw_1329 mw_14 mw_1330) rfl rfl rfl (by decide +kernel) ⟨Nat.le_of_ble_eq_true rfl, Nat.le_of_ble_eq_true rfl⟩) ⟨fun a U g mk q => ⟨q.1, mPre_call q.2⟩, va_recv F.1 hM rfl (mg_2 (k := 28) rfl), fun U hU hW => ⟨rfl, mPre_law F hM hU hW⟩⟩ rfl rfl hl.1 rfl (lv_room (Nat.le_of_ble_eq_true rfl)) dL_law_1271 ⟨Nat.le_refl _, Nat.le_refl _⟩) hS (fun q _ h => lwF_m F h) (fun q h => lwF_m F h) (fun r3 u3 t H2 locs ht hvm hw hB hz1 hq1 hS => ?_)
  obtain ⟨hw1, hw2⟩ := hw
  obtain rfl : r3 = r1 := hw1
  obtain rfl : u3 = μ2 := hw2
  have hM := hB.1
  rw [ht] at hM
  have hP := x_frame F hP hq1
  refine W.widen (k := 600000) (n := 7302250) (Nat.le_refl _) (Nat.le_refl _) ?_
  exact lv_icmp_eq (tgt := 1302) hx hb dL_law_1274 (by decide) (fun _ => kk _ _ _ _ _ hSt2 hP hM hS hl) (fun hc => absurd rfl hc)
set_option maxHeartbeats 4000000 in
set_option maxRecDepth 100000 in
theorem lc_31 {p : Program} {l : Launch} {e : Env} {s : State} {m : MethodId} {below : List Frame} {meth : Method} {c : Code} {D : va_G} {G G2 : xG} {ub : xB} {b L : Nat} {xs : Nat → Int32} {St : QMem → QMem → Prop} (C0 : lw_At p s m meth c b L xs) (F : lwF D G G2 ub s) (hL : L ≤ 3072) (hA : ∀ (σ μ : QMem) (a1 : Int32), St σ μ → ∃ (r : Int32) (σ2 μ2 : QMem), fX11_count a1 σ = some (r, σ2) ∧ fX12_count a1 μ = some (r, μ2) ∧ St σ2 μ2) (i : Nat) (hi : i + 6 ≤ L) (σ μ : QMem) (hSt : St σ μ) (H : Heap) (locs : List Loc) (ls : Array Slot) (hP : va_P D vwCl (xW G σ) H) (hM : va_P D vwCl (mW G2 μ) H) (hS : va_S (fun q : Nat => s.heap.size ≤ q) s.heap H locs) (hl : lv_has ls 4 [(0, .ref b), (1, .ref (G.1 105)), (2, .ref (G2.1 28)), (3, .int (nI i))]) (kk : ∀ (σ μ : QMem) (H : Heap) (locs : List Loc) (ls : Array Slot), St σ μ → va_P D vwCl (xW G σ) H → va_P D vwCl (mW G2 μ) H → va_S (fun q : Nat => s.heap.size ≤ q) s.heap H locs → lv_has ls 4 [(0, .ref b), (1, .ref (G.1 105)), (2, .ref (G2.1 28)), (3, .int (nI i))] → W p l e room_1 s m #[Value.ref b] below meth c H locs 600000 7302250 (lw_Z below #[Value.ref b] s) (F0 m 1302 ls [])) : W p l e room_1 s m #[Value.ref b] below meth c H locs 600000 7302250 (lw_Z below #[Value.ref b] s) (F0 m 1279 ls []) := by
  obtain ⟨hx, hb, hr, hml, hown, hts0, hX, hbl, hlocks, hgv⟩ := C0
  have hts : ∀ w ∈ lwW, w.before #[Value.ref b] s = true := fun w hw => hts0 w (lwW_ok hw)
  have hbA : ¬ (fun q : Nat => s.heap.size ≤ q) b := Nat.not_le.mpr hbl
  obtain ⟨r, σ2, μ2, e1, e2, hSt2⟩ := hA σ μ (xs (nI i + nI 1).toNatClampNeg) hSt
  refine lv_aload_n hx hb dL_law_1279 rfl (lv_at hl 1 rfl) ?_
  refine lv_aload_n hx hb dL_law_1280 rfl (lv_at hl 0 rfl) ?_
  refine lv_iload_n hx hb dL_law_1281 rfl (lv_at hl 3 rfl) ?_
  refine lv_iconst (v := nI 1) hx hb dL_law_1282 (by decide) ?_
  refine lv_iadd hx hb dL_law_1283 ?_
  refine va_sld hx hb hX hbl hbA hS (lvin (by omega) hL) dL_law_1284 ?_
  refine va_calli (va_runV (As := [.int (xs (nI i + nI 1).toNatClampNeg)]) (rest := []) ⟨hx, hb, hml, hown, hts⟩ (kX11_count l D G ub σ (xs (nI i + nI 1).toNatClampNeg) (r, σ2) e1) (cwV 1 hts (lwW_gV mw_899 mw_900 mw_901 mw_1 mw_902) rfl rfl rfl (by decide +kernel) ⟨Nat.le_of_ble_eq_true rfl, Nat.le_of_ble_eq_true rfl⟩) ⟨fun a U g mk q => ⟨q.1, xPre_call q.2⟩, va_recv F.1 hP rfl (xg_7 (k := 105) rfl), fun U hU hW => ⟨rfl, xPre_law F hS hP hU hW⟩⟩ rfl rfl hl.1 rfl (lv_room (Nat.le_of_ble_eq_true rfl)) dL_law_1285 ⟨Nat.le_refl _, Nat.le_refl _⟩) hS (fun q _ h => lwF_x F h) (fun q h => lwF_x F h) (fun r1 u t H1 locs ht hvm hw hB hz1 hq1 hS => ?_)
  obtain ⟨hw1, hw2⟩ := hw
  obtain rfl : r1 = r := hw1
  obtain rfl : u = σ2 := hw2
  have hP := hB.1
  rw [ht] at hP
  have hM := m_frame F hM hq1
  refine W.widen (k := 600000) (n := 7302250) (Nat.le_refl _) (Nat.le_refl _) ?_
  refine lv_aload_n hx hb dL_law_1288 rfl (lv_at hl 2 rfl) ?_
  refine lv_aload_n hx hb dL_law_1289 rfl (lv_at hl 0 rfl) ?_
  refine lv_iload_n hx hb dL_law_1290 rfl (lv_at hl 3 rfl) ?_
  refine lv_iconst (v := nI 1) hx hb dL_law_1291 (by decide) ?_
  refine lv_iadd hx hb dL_law_1292 ?_
  refine va_sld hx hb hX hbl hbA hS (lvin (by omega) hL) dL_law_1293 ?_
  refine va_calli (va_runV (As := [.int (xs (nI i + nI 1).toNatClampNeg)]) (rest := [.int r1]) ⟨hx, hb, hml, hown, hts⟩ (kX12_count l D G2 μ (xs (nI i + nI 1).toNatClampNeg) (r1, μ2) e2) (cwV 1 hts (lwW_gV mw_1331 mw_1332 mw_1333 mw_14 mw_1334) rfl rfl rfl (by decide +kernel) ⟨Nat.le_of_ble_eq_true rfl, Nat.le_of_ble_eq_true rfl⟩) ⟨fun a U g mk q => ⟨q.1, mPre_call q.2⟩, va_recv F.1 hM rfl (mg_2 (k := 28) rfl), fun U hU hW => ⟨rfl, mPre_law F hM hU hW⟩⟩ rfl rfl hl.1 rfl (lv_room (Nat.le_of_ble_eq_true rfl)) dL_law_1294 ⟨Nat.le_refl _, Nat.le_refl _⟩) hS (fun q _ h => lwF_m F h) (fun q h => lwF_m F h) (fun r3 u3 t H2 locs ht hvm hw hB hz1 hq1 hS => ?_)
  obtain ⟨hw1, hw2⟩ := hw
  obtain rfl : r3 = r1 := hw1
  obtain rfl : u3 = μ2 := hw2
  have hM := hB.1
  rw [ht] at hM
  have hP := x_frame F hP hq1
  refine W.widen (k := 600000) (n := 7302250) (Nat.le_refl _) (Nat.le_refl _) ?_
  exact lv_icmp_eq (tgt := 1302) hx hb dL_law_1297 (by decide) (fun _ => kk _ _ _ _ _ hSt2 hP hM hS hl) (fun hc => absurd rfl hc)
