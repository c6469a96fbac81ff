theorem dL_law_1191 : decode code 1191 = .ok (.aload_n 1, 1) := by decide +kernel
theorem dL_law_1192 : decode code 1192 = .ok (.aload_n 0, 1) := by decide +kernel
theorem dL_law_1193 : decode code 1193 = .ok (.iload 4, 2) := by decide +kernel
theorem dL_law_1195 : decode code 1195 = .ok (.iconst 1, 1) := by decide +kernel
theorem dL_law_1196 : decode code 1196 = .ok (.iadd, 1) := by decide +kernel
theorem dL_law_1197 : decode code 1197 = .ok (.iaload, 1) := by decide +kernel
theorem dL_law_1198 : decode code 1198 = .ok (.invokevirtual 151, 3) := by decide +kernel
theorem dL_law_1201 : decode code 1201 = .ok (.aload_n 2, 1) := by decide +kernel
theorem dL_law_1202 : decode code 1202 = .ok (.aload_n 0, 1) := by decide +kernel
theorem dL_law_1203 : decode code 1203 = .ok (.iload 4, 2) := by decide +kernel
theorem dL_law_1205 : decode code 1205 = .ok (.iconst 1, 1) := by decide +kernel
theorem dL_law_1206 : decode code 1206 = .ok (.iadd, 1) := by decide +kernel
theorem dL_law_1207 : decode code 1207 = .ok (.iaload, 1) := by decide +kernel
theorem dL_law_1208 : decode code 1208 = .ok (.invokevirtual 154, 3) := by decide +kernel
theorem dL_law_1211 : decode code 1211 = .ok (.if_icmp .eq 517, 3) := by decide +kernel
theorem LC_29 {κ : Nat → Nat → List Value → List Value → m2M → Prop} {mx D L n i : Nat} {xs : Nat → Int32} {μ : m2M} (h : m2_LW κ mx (D + 1) L xs) (hn : n ≤ mx) (hi : i + 7 ≤ L) (hL : L ≤ 3584) (hD : 420 ≤ D) (hR : REL μ) (k : ∀ μ', REL μ' → κ n 1728 [.ref 1002, .ref kC, .ref kM, .ref kOut, .int (nI i), .null, .null, .null] [] μ') : κ n 1191 [.ref 1002, .ref kC, .ref kM, .ref kOut, .int (nI i), .null, .null, .null] [] μ := by
  have hB := h.b hn
  refine m2_aload_n hB dL_law_1191 rfl ?_
  refine m2_aload_n hB dL_law_1192 rfl ?_
  refine m2_iload hB dL_law_1193 rfl ?_
  refine m2_iconst hB dL_law_1195 (v := 1) (by decide) ?_
  refine m2_iadd hB dL_law_1196 ?_
  refine h.ld (lw_in hi hL (show 1 < 7 by decide)) dL_law_1197 ?_
  refine m2_inv hB (as := [.int (xs (nI i + 1).toNatClampNeg)]) (st := []) dL_law_1198 mv_L_151 rfl sh_kC rfl (by decide) rfl (T_leave (by omega) _ μ hR) (fun r μ1 hr hM => ?_)
  obtain ⟨y, rfl⟩ := hr
  refine m2_aload_n hB dL_law_1201 rfl ?_
  refine m2_aload_n hB dL_law_1202 rfl ?_
  refine m2_iload hB dL_law_1203 rfl ?_
  refine m2_iconst hB dL_law_1205 (v := 1) (by decide) ?_
  refine m2_iadd hB dL_law_1206 ?_
  refine h.ld (lw_in hi hL (show 1 < 7 by decide)) dL_law_1207 ?_
  refine m2_inv hB (as := [.int (xs (nI i + 1).toNatClampNeg)]) (st := [.int y]) dL_law_1208 mv_L_154 rfl sh_kM rfl (ble rfl) rfl hM (fun r2 μ2 hr2 hq => ?_)
  obtain ⟨rfl, hR2⟩ := hq
  exact m2_icmp_eq hB dL_law_1211 (tgt := 1728) (by decide) (fun _ => k μ2 hR2) (fun q => absurd rfl q)
theorem dL_law_1216 : decode code 1216 = .ok (.aload_n 1, 1) := by decide +kernel
theorem dL_law_1217 : decode code 1217 = .ok (.aload_n 0, 1) := by decide +kernel
theorem dL_law_1218 : decode code 1218 = .ok (.iload 4, 2) := by decide +kernel
theorem dL_law_1220 : decode code 1220 = .ok (.iconst 1, 1) := by decide +kernel
theorem dL_law_1221 : decode code 1221 = .ok (.iadd, 1) := by decide +kernel
theorem dL_law_1222 : decode code 1222 = .ok (.iaload, 1) := by decide +kernel
theorem dL_law_1223 : decode code 1223 = .ok (.aload_n 0, 1) := by decide +kernel
theorem dL_law_1224 : decode code 1224 = .ok (.iload 4, 2) := by decide +kernel
theorem dL_law_1226 : decode code 1226 = .ok (.iconst 2, 1) := by decide +kernel
theorem dL_law_1227 : decode code 1227 = .ok (.iadd, 1) := by decide +kernel
theorem dL_law_1228 : decode code 1228 = .ok (.iaload, 1) := by decide +kernel
theorem dL_law_1229 : decode code 1229 = .ok (.invokevirtual 155, 3) := by decide +kernel
theorem dL_law_1232 : decode code 1232 = .ok (.aload_n 2, 1) := by decide +kernel
theorem dL_law_1233 : decode code 1233 = .ok (.aload_n 0, 1) := by decide +kernel
theorem dL_law_1234 : decode code 1234 = .ok (.iload 4, 2) := by decide +kernel
theorem dL_law_1236 : decode code 1236 = .ok (.iconst 1, 1) := by decide +kernel
theorem dL_law_1237 : decode code 1237 = .ok (.iadd, 1) := by decide +kernel
theorem dL_law_1238 : decode code 1238 = .ok (.iaload, 1) := by decide +kernel
theorem dL_law_1239 : decode code 1239 = .ok (.aload_n 0, 1) := by decide +kernel
theorem dL_law_1240 : decode code 1240 = .ok (.iload 4, 2) := by decide +kernel
theorem dL_law_1242 : decode code 1242 = .ok (.iconst 2, 1) := by decide +kernel
theorem dL_law_1243 : decode code 1243 = .ok (.iadd, 1) := by decide +kernel
theorem dL_law_1244 : decode code 1244 = .ok (.iaload, 1) := by decide +kernel
theorem dL_law_1245 : decode code 1245 = .ok (.invokevirtual 158, 3) := by decide +kernel
theorem dL_law_1248 : decode code 1248 = .ok (.if_icmp .eq 480, 3) := by decide +kernel
theorem LC_30 {κ : Nat → Nat → List Value → List Value → m2M → Prop} {mx D L n i : Nat} {xs : Nat → Int32} {μ : m2M} (h : m2_LW κ mx (D + 1) L xs) (hn : n ≤ mx) (hi : i + 7 ≤ L) (hL : L ≤ 3584) (hD : 420 ≤ D) (hR : REL μ) (k : ∀ μ', REL μ' → κ n 1728 [.ref 1002, .ref kC, .ref kM, .ref kOut, .int (nI i), .null, .null, .null] [] μ') : κ n 1216 [.ref 1002, .ref kC, .ref kM, .ref kOut, .int (nI i), .null, .null, .null] [] μ := by
  have hB := h.b hn
  refine m2_aload_n hB dL_law_1216 rfl ?_
  refine m2_aload_n hB dL_law_1217 rfl ?_
  refine m2_iload hB dL_law_1218 rfl ?_
  refine m2_iconst hB dL_law_1220 (v := 1) (by decide) ?_
  refine m2_iadd hB dL_law_1221 ?_
  refine h.ld (lw_in hi hL (show 1 < 7 by decide)) dL_law_1222 ?_
  refine m2_aload_n hB dL_law_1223 rfl ?_
  refine m2_iload hB dL_law_1224 rfl ?_
  refine m2_iconst hB dL_law_1226 (v := 2) (by decide) ?_
  refine m2_iadd hB dL_law_1227 ?_
  refine h.ld (lw_in hi hL (show 2 < 7 by decide)) dL_law_1228 ?_
  refine m2_inv hB (as := [.int (xs (nI i + 1).toNatClampNeg), .int (xs (nI i + 2).toNatClampNeg)]) (st := []) dL_law_1229 mv_L_155 rfl sh_kC rfl (by decide) rfl (T_tour (by omega) μ hR _ _) (fun r μ1 hr hM => ?_)
  obtain ⟨y, rfl⟩ := hr
  refine m2_aload_n hB dL_law_1232 rfl ?_
  refine m2_aload_n hB dL_law_1233 rfl ?_
  refine m2_iload hB dL_law_1234 rfl ?_
  refine m2_iconst hB dL_law_1236 (v := 1) (by decide) ?_
  refine m2_iadd hB dL_law_1237 ?_
  refine h.ld (lw_in hi hL (show 1 < 7 by decide)) dL_law_1238 ?_
  refine m2_aload_n hB dL_law_1239 rfl ?_
  refine m2_iload hB dL_law_1240 rfl ?_
  refine m2_iconst hB dL_law_1242 (v := 2) (by decide) ?_
  refine m2_iadd hB dL_law_1243 ?_
  refine h.ld (lw_in hi hL (show 2 < 7 by decide)) dL_law_1244 ?_
  refine m2_inv hB (as := [.int (xs (nI i + 1).toNatClampNeg), .int (xs (nI i + 2).toNatClampNeg)]) (st := [.int y]) dL_law_1245 mv_L_158 rfl sh_kM rfl (ble rfl) rfl hM (fun r2 μ2 hr2 hq => ?_)
  obtain ⟨rfl, hR2⟩ := hq
  exact m2_icmp_eq hB dL_law_1248 (tgt := 1728) (by decide) (fun _ => k μ2 hR2) (fun q => absurd rfl q)
theorem dL_law_1253 : decode code 1253 = .ok (.aload_n 1, 1) := by decide +kernel
theorem dL_law_1254 : decode code 1254 = .ok (.aload_n 0, 1) := by decide +kernel
theorem dL_law_1255 : decode code 1255 = .ok (.iload 4, 2) := by decide +kernel
theorem dL_law_1257 : decode code 1257 = .ok (.iconst 1, 1) := by decide +kernel
theorem dL_law_1258 : decode code 1258 = .ok (.iadd, 1) := by decide +kernel
theorem dL_law_1259 : decode code 1259 = .ok (.iaload, 1) := by decide +kernel
theorem dL_law_1260 : decode code 1260 = .ok (.invokevirtual 159, 3) := by decide +kernel
theorem dL_law_1263 : decode code 1263 = .ok (.aload_n 2, 1) := by decide +kernel
theorem dL_law_1264 : decode code 1264 = .ok (.aload_n 0, 1) := by decide +kernel
theorem dL_law_1265 : decode code 1265 = .ok (.iload 4, 2) := by decide +kernel
theorem dL_law_1267 : decode code 1267 = .ok (.iconst 1, 1) := by decide +kernel
theorem dL_law_1268 : decode code 1268 = .ok (.iadd, 1) := by decide +kernel
theorem dL_law_1269 : decode code 1269 = .ok (.iaload, 1) := by decide +kernel
theorem dL_law_1270 : decode code 1270 = .ok (.invokevirtual 162, 3) := by decide +kernel
theorem dL_law_1273 : decode code 1273 = .ok (.if_icmp .eq 455, 3) := by decide +kernel
theorem LC_31 {κ : Nat → Nat → List Value → List Value → m2M → Prop} {mx D L n i : Nat} {xs : Nat → Int32} {μ : m2M} (h : m2_LW κ mx (D + 1) L xs) (hn : n ≤ mx) (hi : i + 7 ≤ L) (hL : L ≤ 3584) (hD : 420 ≤ D) (hR : REL μ) (k : ∀ μ', REL μ' → κ n 1728 [.ref 1002, .ref kC, .ref kM, .ref kOut, .int (nI i), .null, .null, .null] [] μ') : κ n 1253 [.ref 1002, .ref kC, .ref kM, .ref kOut, .int (nI i), .null, .null, .null] [] μ := by
  have hB := h.b hn
  refine m2_aload_n hB dL_law_1253 rfl ?_
  refine m2_aload_n hB dL_law_1254 rfl ?_
  refine m2_iload hB dL_law_1255 rfl ?_
  refine m2_iconst hB dL_law_1257 (v := 1) (by decide) ?_
  refine m2_iadd hB dL_law_1258 ?_
  refine h.ld (lw_in hi hL (show 1 < 7 by decide)) dL_law_1259 ?_
  refine m2_inv hB (as := [.int (xs (nI i + 1).toNatClampNeg)]) (st := []) dL_law_1260 mv_L_159 rfl sh_kC rfl (by decide) rfl (T_send (by omega) μ hR _) (fun r μ1 hr hM => ?_)
  obtain ⟨y, rfl⟩ := hr
  refine m2_aload_n hB dL_law_1263 rfl ?_
  refine m2_aload_n hB dL_law_1264 rfl ?_
  refine m2_iload hB dL_law_1265 rfl ?_
  refine m2_iconst hB dL_law_1267 (v := 1) (by decide) ?_
  refine m2_iadd hB dL_law_1268 ?_
  refine h.ld (lw_in hi hL (show 1 < 7 by decide)) dL_law_1269 ?_
  refine m2_inv hB (as := [.int (xs (nI i + 1).toNatClampNeg)]) (st := [.int y]) dL_law_1270 mv_L_162 rfl sh_kM rfl (ble rfl) rfl hM (fun r2 μ2 hr2 hq => ?_)
  obtain ⟨rfl, hR2⟩ := hq
  exact m2_icmp_eq hB dL_law_1273 (tgt := 1728) (by decide) (fun _ => k μ2 hR2) (fun q => absurd rfl q)
theorem dL_law_1278 : decode code 1278 = .ok (.aload_n 1, 1) := by decide +kernel
theorem dL_law_1279 : decode code 1279 = .ok (.aload_n 0, 1) := by decide +kernel
theorem dL_law_1280 : decode code 1280 = .ok (.iload 4, 2) := by decide +kernel
theorem dL_law_1282 : decode code 1282 = .ok (.iconst 1, 1) := by decide +kernel
theorem dL_law_1283 : decode code 1283 = .ok (.iadd, 1) := by decide +kernel
theorem dL_law_1284 : decode code 1284 = .ok (.iaload, 1) := by decide +kernel
theorem dL_law_1285 : decode code 1285 = .ok (.aload_n 0, 1) := by decide +kernel
theorem dL_law_1286 : decode code 1286 = .ok (.iload 4, 2) := by decide +kernel
theorem dL_law_1288 : decode code 1288 = .ok (.iconst 2, 1) := by decide +kernel
theorem dL_law_1289 : decode code 1289 = .ok (.iadd, 1) := by decide +kernel
theorem dL_law_1290 : decode code 1290 = .ok (.iaload, 1) := by decide +kernel
theorem dL_law_1291 : decode code 1291 = .ok (.aload_n 0, 1) := by decide +kernel
theorem dL_law_1292 : decode code 1292 = .ok (.iload 4, 2) := by decide +kernel
theorem dL_law_1294 : decode code 1294 = .ok (.iconst 3, 1) := by decide +kernel
theorem dL_law_1295 : decode code 1295 = .ok (.iadd, 1) := by decide +kernel
theorem dL_law_1296 : decode code 1296 = .ok (.iaload, 1) := by decide +kernel
theorem dL_law_1297 : decode code 1297 = .ok (.aload_n 0, 1) := by decide +kernel
theorem dL_law_1298 : decode code 1298 = .ok (.iload 4, 2) := by decide +kernel
theorem dL_law_1300 : decode code 1300 = .ok (.iconst 4, 1) := by decide +kernel
theorem dL_law_1301 : decode code 1301 = .ok (.iadd, 1) := by decide +kernel
theorem dL_law_1302 : decode code 1302 = .ok (.iaload, 1) := by decide +kernel
theorem dL_law_1303 : decode code 1303 = .ok (.invokevirtual 163, 3) := by decide +kernel
theorem dL_law_1306 : decode code 1306 = .ok (.aload_n 2, 1) := by decide +kernel
theorem dL_law_1307 : decode code 1307 = .ok (.aload_n 0, 1) := by decide +kernel
theorem dL_law_1308 : decode code 1308 = .ok (.iload 4, 2) := by decide +kernel
theorem dL_law_1310 : decode code 1310 = .ok (.iconst 1, 1) := by decide +kernel
theorem dL_law_1311 : decode code 1311 = .ok (.iadd, 1) := by decide +kernel
theorem dL_law_1312 : decode code 1312 = .ok (.iaload, 1) := by decide +kernel
theorem dL_law_1313 : decode code 1313 = .ok (.aload_n 0, 1) := by decide +kernel
theorem dL_law_1314 : decode code 1314 = .ok (.iload 4, 2) := by decide +kernel
theorem dL_law_1316 : decode code 1316 = .ok (.iconst 2, 1) := by decide +kernel
theorem dL_law_1317 : decode code 1317 = .ok (.iadd, 1) := by decide +kernel
theorem dL_law_1318 : decode code 1318 = .ok (.iaload, 1) := by decide +kernel
theorem dL_law_1319 : decode code 1319 = .ok (.aload_n 0, 1) := by decide +kernel
theorem dL_law_1320 : decode code 1320 = .ok (.iload 4, 2) := by decide +kernel
theorem dL_law_1322 : decode code 1322 = .ok (.iconst 3, 1) := by decide +kernel
theorem dL_law_1323 : decode code 1323 = .ok (.iadd, 1) := by decide +kernel
theorem dL_law_1324 : decode code 1324 = .ok (.iaload, 1) := by decide +kernel
theorem dL_law_1325 : decode code 1325 = .ok (.aload_n 0, 1) := by decide +kernel
theorem dL_law_1326 : decode code 1326 = .ok (.iload 4, 2) := by decide +kernel
theorem dL_law_1328 : decode code 1328 = .ok (.iconst 4, 1) := by decide +kernel
theorem dL_law_1329 : decode code 1329 = .ok (.iadd, 1) := by decide +kernel
theorem dL_law_1330 : decode code 1330 = .ok (.iaload, 1) := by decide +kernel
theorem dL_law_1331 : decode code 1331 = .ok (.invokevirtual 166, 3) := by decide +kernel
theorem dL_law_1334 : decode code 1334 = .ok (.if_icmp .eq 394, 3) := by decide +kernel
theorem LC_32 {κ : Nat → Nat → List Value → List Value → m2M → Prop} {mx D L n i : Nat} {xs : Nat → Int32} {μ : m2M} (h : m2_LW κ mx (D + 1) L xs) (hn : n ≤ mx) (hi : i + 7 ≤ L) (hL : L ≤ 3584) (hD : 420 ≤ D) (hR : REL μ) (k : ∀ μ', REL μ' → κ n 1728 [.ref 1002, .ref kC, .ref kM, .ref kOut, .int (nI i), .null, .null, .null] [] μ') : κ n 1278 [.ref 1002, .ref kC, .ref kM, .ref kOut, .int (nI i), .null, .null, .null] [] μ := by
  have hB := h.b hn
  refine m2_aload_n hB dL_law_1278 rfl ?_
  refine m2_aload_n hB dL_law_1279 rfl ?_
  refine m2_iload hB dL_law_1280 rfl ?_
  refine m2_iconst hB dL_law_1282 (v := 1) (by decide) ?_
  refine m2_iadd hB dL_law_1283 ?_
  refine h.ld (lw_in hi hL (show 1 < 7 by decide)) dL_law_1284 ?_
  refine m2_aload_n hB dL_law_1285 rfl ?_
  refine m2_iload hB dL_law_1286 rfl ?_
  refine m2_iconst hB dL_law_1288 (v := 2) (by decide) ?_
  refine m2_iadd hB dL_law_1289 ?_
  refine h.ld (lw_in hi hL (show 2 < 7 by decide)) dL_law_1290 ?_
  refine m2_aload_n hB dL_law_1291 rfl ?_
  refine m2_iload hB dL_law_1292 rfl ?_
  refine m2_iconst hB dL_law_1294 (v := 3) (by decide) ?_
  refine m2_iadd hB dL_law_1295 ?_
  refine h.ld (lw_in hi hL (show 3 < 7 by decide)) dL_law_1296 ?_
  refine m2_aload_n hB dL_law_1297 rfl ?_
  refine m2_iload hB dL_law_1298 rfl ?_
  refine m2_iconst hB dL_law_1300 (v := 4) (by decide) ?_
  refine m2_iadd hB dL_law_1301 ?_
  refine h.ld (lw_in hi hL (show 4 < 7 by decide)) dL_law_1302 ?_
  refine m2_inv hB (as := [.int (xs (nI i + 1).toNatClampNeg), .int (xs (nI i + 2).toNatClampNeg), .int (xs (nI i + 3).toNatClampNeg), .int (xs (nI i + 4).toNatClampNeg)]) (st := []) dL_law_1303 mv_L_163 rfl sh_kC rfl (by decide) rfl (T_two (by omega) μ hR _ _ _ _) (fun r μ1 hr hM => ?_)
  obtain ⟨y, rfl⟩ := hr
  refine m2_aload_n hB dL_law_1306 rfl ?_
  refine m2_aload_n hB dL_law_1307 rfl ?_
  refine m2_iload hB dL_law_1308 rfl ?_
  refine m2_iconst hB dL_law_1310 (v := 1) (by decide) ?_
  refine m2_iadd hB dL_law_1311 ?_
  refine h.ld (lw_in hi hL (show 1 < 7 by decide)) dL_law_1312 ?_
  refine m2_aload_n hB dL_law_1313 rfl ?_
  refine m2_iload hB dL_law_1314 rfl ?_
  refine m2_iconst hB dL_law_1316 (v := 2) (by decide) ?_
  refine m2_iadd hB dL_law_1317 ?_
  refine h.ld (lw_in hi hL (show 2 < 7 by decide)) dL_law_1318 ?_
  refine m2_aload_n hB dL_law_1319 rfl ?_
  refine m2_iload hB dL_law_1320 rfl ?_
  refine m2_iconst hB dL_law_1322 (v := 3) (by decide) ?_
  refine m2_iadd hB dL_law_1323 ?_
  refine h.ld (lw_in hi hL (show 3 < 7 by decide)) dL_law_1324 ?_
  refine m2_aload_n hB dL_law_1325 rfl ?_
  refine m2_iload hB dL_law_1326 rfl ?_
  refine m2_iconst hB dL_law_1328 (v := 4) (by decide) ?_
  refine m2_iadd hB dL_law_1329 ?_
  refine h.ld (lw_in hi hL (show 4 < 7 by decide)) dL_law_1330 ?_
  refine m2_inv hB (as := [.int (xs (nI i + 1).toNatClampNeg), .int (xs (nI i + 2).toNatClampNeg), .int (xs (nI i + 3).toNatClampNeg), .int (xs (nI i + 4).toNatClampNeg)]) (st := [.int y]) dL_law_1331 mv_L_166 rfl sh_kM rfl (ble rfl) rfl hM (fun r2 μ2 hr2 hq => ?_)
  obtain ⟨rfl, hR2⟩ := hq
  exact m2_icmp_eq hB dL_law_1334 (tgt := 1728) (by decide) (fun _ => k μ2 hR2) (fun q => absurd rfl q)
theorem dL_law_1339 : decode code 1339 = .ok (.aload_n 1, 1) := by decide +kernel
theorem dL_law_1340 : decode code 1340 = .ok (.aload_n 0, 1) := by decide +kernel
theorem dL_law_1341 : decode code 1341 = .ok (.iload 4, 2) := by decide +kernel
theorem dL_law_1343 : decode code 1343 = .ok (.iconst 1, 1) := by decide +kernel
theorem dL_law_1344 : decode code 1344 = .ok (.iadd, 1) := by decide +kernel
theorem dL_law_1345 : decode code 1345 = .ok (.iaload, 1) := by decide +kernel
theorem dL_law_1346 : decode code 1346 = .ok (.aload_n 0, 1) := by decide +kernel
theorem dL_law_1347 : decode code 1347 = .ok (.iload 4, 2) := by decide +kernel
theorem dL_law_1349 : decode code 1349 = .ok (.iconst 2, 1) := by decide +kernel
theorem dL_law_1350 : decode code 1350 = .ok (.iadd, 1) := by decide +kernel
theorem dL_law_1351 : decode code 1351 = .ok (.iaload, 1) := by decide +kernel
theorem dL_law_1352 : decode code 1352 = .ok (.aload_n 0, 1) := by decide +kernel
theorem dL_law_1353 : decode code 1353 = .ok (.iload 4, 2) := by decide +kernel
theorem dL_law_1355 : decode code 1355 = .ok (.iconst 3, 1) := by decide +kernel
theorem dL_law_1356 : decode code 1356 = .ok (.iadd, 1) := by decide +kernel
theorem dL_law_1357 : decode code 1357 = .ok (.iaload, 1) := by decide +kernel
theorem dL_law_1358 : decode code 1358 = .ok (.aload_n 0, 1) := by decide +kernel
theorem dL_law_1359 : decode code 1359 = .ok (.iload 4, 2) := by decide +kernel
theorem dL_law_1361 : decode code 1361 = .ok (.iconst 4, 1) := by decide +kernel
theorem dL_law_1362 : decode code 1362 = .ok (.iadd, 1) := by decide +kernel
theorem dL_law_1363 : decode code 1363 = .ok (.iaload, 1) := by decide +kernel
theorem dL_law_1364 : decode code 1364 = .ok (.aload_n 0, 1) := by decide +kernel
theorem dL_law_1365 : decode code 1365 = .ok (.iload 4, 2) := by decide +kernel
theorem dL_law_1367 : decode code 1367 = .ok (.iconst 5, 1) := by decide +kernel
theorem dL_law_1368 : decode code 1368 = .ok (.iadd, 1) := by decide +kernel
theorem dL_law_1369 : decode code 1369 = .ok (.iaload, 1) := by decide +kernel
theorem dL_law_1370 : decode code 1370 = .ok (.aload_n 0, 1) := by decide +kernel
theorem dL_law_1371 : decode code 1371 = .ok (.iload 4, 2) := by decide +kernel
theorem dL_law_1373 : decode code 1373 = .ok (.bipush 6, 2) := by decide +kernel
theorem dL_law_1375 : decode code 1375 = .ok (.iadd, 1) := by decide +kernel
theorem dL_law_1376 : decode code 1376 = .ok (.iaload, 1) := by decide +kernel
theorem dL_law_1377 : decode code 1377 = .ok (.invokevirtual 167, 3) := by decide +kernel
theorem dL_law_1380 : decode code 1380 = .ok (.aload_n 2, 1) := by decide +kernel
theorem dL_law_1381 : decode code 1381 = .ok (.aload_n 0, 1) := by decide +kernel
theorem dL_law_1382 : decode code 1382 = .ok (.iload 4, 2) := by decide +kernel
theorem dL_law_1384 : decode code 1384 = .ok (.iconst 1, 1) := by decide +kernel
theorem dL_law_1385 : decode code 1385 = .ok (.iadd, 1) := by decide +kernel
theorem dL_law_1386 : decode code 1386 = .ok (.iaload, 1) := by decide +kernel
theorem dL_law_1387 : decode code 1387 = .ok (.aload_n 0, 1) := by decide +kernel
theorem dL_law_1388 : decode code 1388 = .ok (.iload 4, 2) := by decide +kernel
theorem dL_law_1390 : decode code 1390 = .ok (.iconst 2, 1) := by decide +kernel
theorem dL_law_1391 : decode code 1391 = .ok (.iadd, 1) := by decide +kernel
theorem dL_law_1392 : decode code 1392 = .ok (.iaload, 1) := by decide +kernel
theorem dL_law_1393 : decode code 1393 = .ok (.aload_n 0, 1) := by decide +kernel
theorem dL_law_1394 : decode code 1394 = .ok (.iload 4, 2) := by decide +kernel
theorem dL_law_1396 : decode code 1396 = .ok (.iconst 3, 1) := by decide +kernel
theorem dL_law_1397 : decode code 1397 = .ok (.iadd, 1) := by decide +kernel
theorem dL_law_1398 : decode code 1398 = .ok (.iaload, 1) := by decide +kernel
theorem dL_law_1399 : decode code 1399 = .ok (.aload_n 0, 1) := by decide +kernel
theorem dL_law_1400 : decode code 1400 = .ok (.iload 4, 2) := by decide +kernel
theorem dL_law_1402 : decode code 1402 = .ok (.iconst 4, 1) := by decide +kernel
theorem dL_law_1403 : decode code 1403 = .ok (.iadd, 1) := by decide +kernel
theorem dL_law_1404 : decode code 1404 = .ok (.iaload, 1) := by decide +kernel
theorem dL_law_1405 : decode code 1405 = .ok (.aload_n 0, 1) := by decide +kernel
theorem dL_law_1406 : decode code 1406 = .ok (.iload 4, 2) := by decide +kernel
theorem dL_law_1408 : decode code 1408 = .ok (.iconst 5, 1) := by decide +kernel
theorem dL_law_1409 : decode code 1409 = .ok (.iadd, 1) := by decide +kernel
theorem dL_law_1410 : decode code 1410 = .ok (.iaload, 1) := by decide +kernel
theorem dL_law_1411 : decode code 1411 = .ok (.aload_n 0, 1) := by decide +kernel
theorem dL_law_1412 : decode code 1412 = .ok (.iload 4, 2) := by decide +kernel
theorem dL_law_1414 : decode code 1414 = .ok (.bipush 6, 2) := by decide +kernel
theorem dL_law_1416 : decode code 1416 = .ok (.iadd, 1) := by decide +kernel
theorem dL_law_1417 : decode code 1417 = .ok (.iaload, 1) := by decide +kernel
theorem dL_law_1418 : decode code 1418 = .ok (.invokevirtual 171, 3) := by decide +kernel
theorem dL_law_1421 : decode code 1421 = .ok (.if_icmp .eq 307, 3) := by decide +kernel
theorem LC_33 {κ : Nat → Nat → List Value → List Value → m2M → Prop} {mx D L n i : Nat} {xs : Nat → Int32} {μ : m2M} (h : m2_LW κ mx (D + 1) L xs) (hn : n ≤ mx) (hi : i + 7 ≤ L) (hL : L ≤ 3584) (hD : 420 ≤ D) (hR : REL μ) (k : ∀ μ', REL μ' → κ n 1728 [.ref 1002, .ref kC, .ref kM, .ref kOut, .int (nI i), .null, .null, .null] [] μ') : κ n 1339 [.ref 1002, .ref kC, .ref kM, .ref kOut, .int (nI i), .null, .null, .null] [] μ := by
  have hB := h.b hn
  refine m2_aload_n hB dL_law_1339 rfl ?_
  refine m2_aload_n hB dL_law_1340 rfl ?_
  refine m2_iload hB dL_law_1341 rfl ?_
  refine m2_iconst hB dL_law_1343 (v := 1) (by decide) ?_
  refine m2_iadd hB dL_law_1344 ?_
  refine h.ld (lw_in hi hL (show 1 < 7 by decide)) dL_law_1345 ?_
  refine m2_aload_n hB dL_law_1346 rfl ?_
  refine m2_iload hB dL_law_1347 rfl ?_
  refine m2_iconst hB dL_law_1349 (v := 2) (by decide) ?_
  refine m2_iadd hB dL_law_1350 ?_
  refine h.ld (lw_in hi hL (show 2 < 7 by decide)) dL_law_1351 ?_
  refine m2_aload_n hB dL_law_1352 rfl ?_
  refine m2_iload hB dL_law_1353 rfl ?_
  refine m2_iconst hB dL_law_1355 (v := 3) (by decide) ?_
  refine m2_iadd hB dL_law_1356 ?_
  refine h.ld (lw_in hi hL (show 3 < 7 by decide)) dL_law_1357 ?_
  refine m2_aload_n hB dL_law_1358 rfl ?_
  refine m2_iload hB dL_law_1359 rfl ?_
  refine m2_iconst hB dL_law_1361 (v := 4) (by decide) ?_
  refine m2_iadd hB dL_law_1362 ?_
  refine h.ld (lw_in hi hL (show 4 < 7 by decide)) dL_law_1363 ?_
  refine m2_aload_n hB dL_law_1364 rfl ?_
  refine m2_iload hB dL_law_1365 rfl ?_
  refine m2_iconst hB dL_law_1367 (v := 5) (by decide) ?_
  refine m2_iadd hB dL_law_1368 ?_
  refine h.ld (lw_in hi hL (show 5 < 7 by decide)) dL_law_1369 ?_
  refine m2_aload_n hB dL_law_1370 rfl ?_
  refine m2_iload hB dL_law_1371 rfl ?_
  refine m2_bipush hB dL_law_1373 (v := 6) (by decide) ?_
  refine m2_iadd hB dL_law_1375 ?_
  refine h.ld (lw_in hi hL (show 6 < 7 by decide)) dL_law_1376 ?_
  refine m2_inv hB (as := [.int (xs (nI i + 1).toNatClampNeg), .int (xs (nI i + 2).toNatClampNeg), .int (xs (nI i + 3).toNatClampNeg), .int (xs (nI i + 4).toNatClampNeg), .int (xs (nI i + 5).toNatClampNeg), .int (xs (nI i + 6).toNatClampNeg)]) (st := []) dL_law_1377 mv_L_167 rfl sh_kC rfl (by decide) rfl (T_keep (by omega) _ _ _ _ _ _ μ hR) (fun r μ1 hr hM => ?_)
  obtain ⟨y, rfl⟩ := hr
  refine m2_aload_n hB dL_law_1380 rfl ?_
  refine m2_aload_n hB dL_law_1381 rfl ?_
  refine m2_iload hB dL_law_1382 rfl ?_
  refine m2_iconst hB dL_law_1384 (v := 1) (by decide) ?_
  refine m2_iadd hB dL_law_1385 ?_
  refine h.ld (lw_in hi hL (show 1 < 7 by decide)) dL_law_1386 ?_
  refine m2_aload_n hB dL_law_1387 rfl ?_
  refine m2_iload hB dL_law_1388 rfl ?_
  refine m2_iconst hB dL_law_1390 (v := 2) (by decide) ?_
  refine m2_iadd hB dL_law_1391 ?_
  refine h.ld (lw_in hi hL (show 2 < 7 by decide)) dL_law_1392 ?_
  refine m2_aload_n hB dL_law_1393 rfl ?_
  refine m2_iload hB dL_law_1394 rfl ?_
  refine m2_iconst hB dL_law_1396 (v := 3) (by decide) ?_
  refine m2_iadd hB dL_law_1397 ?_
  refine h.ld (lw_in hi hL (show 3 < 7 by decide)) dL_law_1398 ?_
  refine m2_aload_n hB dL_law_1399 rfl ?_
  refine m2_iload hB dL_law_1400 rfl ?_
  refine m2_iconst hB dL_law_1402 (v := 4) (by decide) ?_
  refine m2_iadd hB dL_law_1403 ?_
  refine h.ld (lw_in hi hL (show 4 < 7 by decide)) dL_law_1404 ?_
  refine m2_aload_n hB dL_law_1405 rfl ?_
  refine m2_iload hB dL_law_1406 rfl ?_
  refine m2_iconst hB dL_law_1408 (v := 5) (by decide) ?_
  refine m2_iadd hB dL_law_1409 ?_
  refine h.ld (lw_in hi hL (show 5 < 7 by decide)) dL_law_1410 ?_
  refine m2_aload_n hB dL_law_1411 rfl ?_
  refine m2_iload hB dL_law_1412 rfl ?_
  refine m2_bipush hB dL_law_1414 (v := 6) (by decide) ?_
  refine m2_iadd hB dL_law_1416 ?_
  refine h.ld (lw_in hi hL (show 6 < 7 by decide)) dL_law_1417 ?_
  refine m2_inv hB (as := [.int (xs (nI i + 1).toNatClampNeg), .int (xs (nI i + 2).toNatClampNeg), .int (xs (nI i + 3).toNatClampNeg), .int (xs (nI i + 4).toNatClampNeg), .int (xs (nI i + 5).toNatClampNeg), .int (xs (nI i + 6).toNatClampNeg)]) (st := [.int y]) dL_law_1418 mv_L_171 rfl sh_kM rfl (ble rfl) rfl hM (fun r2 μ2 hr2 hq => ?_)
  obtain ⟨rfl, hR2⟩ := hq
  exact m2_icmp_eq hB dL_law_1421 (tgt := 1728) (by decide) (fun _ => k μ2 hR2) (fun q => absurd rfl q)
theorem dL_law_1426 : decode code 1426 = .ok (.aload_n 1, 1) := by decide +kernel
theorem dL_law_1427 : decode code 1427 = .ok (.aload_n 0, 1) := by decide +kernel
theorem dL_law_1428 : decode code 1428 = .ok (.iload 4, 2) := by decide +kernel
theorem dL_law_1430 : decode code 1430 = .ok (.iconst 1, 1) := by decide +kernel
theorem dL_law_1431 : decode code 1431 = .ok (.iadd, 1) := by decide +kernel
theorem dL_law_1432 : decode code 1432 = .ok (.iaload, 1) := by decide +kernel
theorem dL_law_1433 : decode code 1433 = .ok (.aload_n 0, 1) := by decide +kernel
theorem dL_law_1434 : decode code 1434 = .ok (.iload 4, 2) := by decide +kernel
theorem dL_law_1436 : decode code 1436 = .ok (.iconst 2, 1) := by decide +kernel
theorem dL_law_1437 : decode code 1437 = .ok (.iadd, 1) := by decide +kernel
theorem dL_law_1438 : decode code 1438 = .ok (.iaload, 1) := by decide +kernel
theorem dL_law_1439 : decode code 1439 = .ok (.invokevirtual 172, 3) := by decide +kernel
theorem dL_law_1442 : decode code 1442 = .ok (.aload_n 2, 1) := by decide +kernel
theorem dL_law_1443 : decode code 1443 = .ok (.aload_n 0, 1) := by decide +kernel
theorem dL_law_1444 : decode code 1444 = .ok (.iload 4, 2) := by decide +kernel
theorem dL_law_1446 : decode code 1446 = .ok (.iconst 1, 1) := by decide +kernel
theorem dL_law_1447 : decode code 1447 = .ok (.iadd, 1) := by decide +kernel
theorem dL_law_1448 : decode code 1448 = .ok (.iaload, 1) := by decide +kernel
theorem dL_law_1449 : decode code 1449 = .ok (.aload_n 0, 1) := by decide +kernel
theorem dL_law_1450 : decode code 1450 = .ok (.iload 4, 2) := by decide +kernel
theorem dL_law_1452 : decode code 1452 = .ok (.iconst 2, 1) := by decide +kernel
theorem dL_law_1453 : decode code 1453 = .ok (.iadd, 1) := by decide +kernel
theorem dL_law_1454 : decode code 1454 = .ok (.iaload, 1) := by decide +kernel
theorem dL_law_1455 : decode code 1455 = .ok (.invokevirtual 175, 3) := by decide +kernel
theorem dL_law_1458 : decode code 1458 = .ok (.if_icmp .eq 270, 3) := by decide +kernel
theorem LC_34 {κ : Nat → Nat → List Value → List Value → m2M → Prop} {mx D L n i : Nat} {xs : Nat → Int32} {μ : m2M} (h : m2_LW κ mx (D + 1) L xs) (hn : n ≤ mx) (hi : i + 7 ≤ L) (hL : L ≤ 3584) (hD : 420 ≤ D) (hR : REL μ) (k : ∀ μ', REL μ' → κ n 1728 [.ref 1002, .ref kC, .ref kM, .ref kOut, .int (nI i), .null, .null, .null] [] μ') : κ n 1426 [.ref 1002, .ref kC, .ref kM, .ref kOut, .int (nI i), .null, .null, .null] [] μ := by
  have hB := h.b hn
  refine m2_aload_n hB dL_law_1426 rfl ?_
  refine m2_aload_n hB dL_law_1427 rfl ?_
  refine m2_iload hB dL_law_1428 rfl ?_
  refine m2_iconst hB dL_law_1430 (v := 1) (by decide) ?_
  refine m2_iadd hB dL_law_1431 ?_
  refine h.ld (lw_in hi hL (show 1 < 7 by decide)) dL_law_1432 ?_
  refine m2_aload_n hB dL_law_1433 rfl ?_
  refine m2_iload hB dL_law_1434 rfl ?_
  refine m2_iconst hB dL_law_1436 (v := 2) (by decide) ?_
  refine m2_iadd hB dL_law_1437 ?_
  refine h.ld (lw_in hi hL (show 2 < 7 by decide)) dL_law_1438 ?_
  refine m2_inv hB (as := [.int (xs (nI i + 1).toNatClampNeg), .int (xs (nI i + 2).toNatClampNeg)]) (st := []) dL_law_1439 mv_L_172 rfl sh_kC rfl (by decide) rfl (T_sure (by omega) _ _ μ hR) (fun r μ1 hr hM => ?_)
  obtain ⟨y, rfl⟩ := hr
  refine m2_aload_n hB dL_law_1442 rfl ?_
  refine m2_aload_n hB dL_law_1443 rfl ?_
  refine m2_iload hB dL_law_1444 rfl ?_
  refine m2_iconst hB dL_law_1446 (v := 1) (by decide) ?_
  refine m2_iadd hB dL_law_1447 ?_
  refine h.ld (lw_in hi hL (show 1 < 7 by decide)) dL_law_1448 ?_
  refine m2_aload_n hB dL_law_1449 rfl ?_
  refine m2_iload hB dL_law_1450 rfl ?_
  refine m2_iconst hB dL_law_1452 (v := 2) (by decide) ?_
  refine m2_iadd hB dL_law_1453 ?_
  refine h.ld (lw_in hi hL (show 2 < 7 by decide)) dL_law_1454 ?_
  refine m2_inv hB (as := [.int (xs (nI i + 1).toNatClampNeg), .int (xs (nI i + 2).toNatClampNeg)]) (st := [.int y]) dL_law_1455 mv_L_175 rfl sh_kM rfl (ble rfl) rfl hM (fun r2 μ2 hr2 hq => ?_)
  obtain ⟨rfl, hR2⟩ := hq
  exact m2_icmp_eq hB dL_law_1458 (tgt := 1728) (by decide) (fun _ => k μ2 hR2) (fun q => absurd rfl q)
theorem dL_law_1463 : decode code 1463 = .ok (.aload_n 1, 1) := by decide +kernel
theorem dL_law_1464 : decode code 1464 = .ok (.aload_n 0, 1) := by decide +kernel
theorem dL_law_1465 : decode code 1465 = .ok (.iload 4, 2) := by decide +kernel
theorem dL_law_1467 : decode code 1467 = .ok (.iconst 1, 1) := by decide +kernel
theorem dL_law_1468 : decode code 1468 = .ok (.iadd, 1) := by decide +kernel
theorem dL_law_1469 : decode code 1469 = .ok (.iaload, 1) := by decide +kernel
theorem dL_law_1470 : decode code 1470 = .ok (.aload_n 0, 1) := by decide +kernel
theorem dL_law_1471 : decode code 1471 = .ok (.iload 4, 2) := by decide +kernel
theorem dL_law_1473 : decode code 1473 = .ok (.iconst 2, 1) := by decide +kernel
theorem dL_law_1474 : decode code 1474 = .ok (.iadd, 1) := by decide +kernel
theorem dL_law_1475 : decode code 1475 = .ok (.iaload, 1) := by decide +kernel
theorem dL_law_1476 : decode code 1476 = .ok (.aload_n 0, 1) := by decide +kernel
theorem dL_law_1477 : decode code 1477 = .ok (.iload 4, 2) := by decide +kernel
theorem dL_law_1479 : decode code 1479 = .ok (.iconst 3, 1) := by decide +kernel
theorem dL_law_1480 : decode code 1480 = .ok (.iadd, 1) := by decide +kernel
theorem dL_law_1481 : decode code 1481 = .ok (.iaload, 1) := by decide +kernel
theorem dL_law_1482 : decode code 1482 = .ok (.invokevirtual 176, 3) := by decide +kernel
theorem dL_law_1485 : decode code 1485 = .ok (.aload_n 2, 1) := by decide +kernel
theorem dL_law_1486 : decode code 1486 = .ok (.aload_n 0, 1) := by decide +kernel
theorem dL_law_1487 : decode code 1487 = .ok (.iload 4, 2) := by decide +kernel
theorem dL_law_1489 : decode code 1489 = .ok (.iconst 1, 1) := by decide +kernel
theorem dL_law_1490 : decode code 1490 = .ok (.iadd, 1) := by decide +kernel
theorem dL_law_1491 : decode code 1491 = .ok (.iaload, 1) := by decide +kernel
theorem dL_law_1492 : decode code 1492 = .ok (.aload_n 0, 1) := by decide +kernel
theorem dL_law_1493 : decode code 1493 = .ok (.iload 4, 2) := by decide +kernel
theorem dL_law_1495 : decode code 1495 = .ok (.iconst 2, 1) := by decide +kernel
theorem dL_law_1496 : decode code 1496 = .ok (.iadd, 1) := by decide +kernel
theorem dL_law_1497 : decode code 1497 = .ok (.iaload, 1) := by decide +kernel
theorem dL_law_1498 : decode code 1498 = .ok (.aload_n 0, 1) := by decide +kernel
theorem dL_law_1499 : decode code 1499 = .ok (.iload 4, 2) := by decide +kernel
theorem dL_law_1501 : decode code 1501 = .ok (.iconst 3, 1) := by decide +kernel
theorem dL_law_1502 : decode code 1502 = .ok (.iadd, 1) := by decide +kernel
theorem dL_law_1503 : decode code 1503 = .ok (.iaload, 1) := by decide +kernel
theorem dL_law_1504 : decode code 1504 = .ok (.invokevirtual 179, 3) := by decide +kernel
theorem dL_law_1507 : decode code 1507 = .ok (.if_icmp .eq 221, 3) := by decide +kernel
theorem LC_35 {κ : Nat → Nat → List Value → List Value → m2M → Prop} {mx D L n i : Nat} {xs : Nat → Int32} {μ : m2M} (h : m2_LW κ mx (D + 1) L xs) (hn : n ≤ mx) (hi : i + 7 ≤ L) (hL : L ≤ 3584) (hD : 420 ≤ D) (hR : REL μ) (k : ∀ μ', REL μ' → κ n 1728 [.ref 1002, .ref kC, .ref kM, .ref kOut, .int (nI i), .null, .null, .null] [] μ') : κ n 1463 [.ref 1002, .ref kC, .ref kM, .ref kOut, .int (nI i), .null, .null, .null] [] μ := by
  have hB := h.b hn
  refine m2_aload_n hB dL_law_1463 rfl ?_
  refine m2_aload_n hB dL_law_1464 rfl ?_
  refine m2_iload hB dL_law_1465 rfl ?_
  refine m2_iconst hB dL_law_1467 (v := 1) (by decide) ?_
  refine m2_iadd hB dL_law_1468 ?_
  refine h.ld (lw_in hi hL (show 1 < 7 by decide)) dL_law_1469 ?_
  refine m2_aload_n hB dL_law_1470 rfl ?_
  refine m2_iload hB dL_law_1471 rfl ?_
  refine m2_iconst hB dL_law_1473 (v := 2) (by decide) ?_
  refine m2_iadd hB dL_law_1474 ?_
  refine h.ld (lw_in hi hL (show 2 < 7 by decide)) dL_law_1475 ?_
  refine m2_aload_n hB dL_law_1476 rfl ?_
  refine m2_iload hB dL_law_1477 rfl ?_
  refine m2_iconst hB dL_law_1479 (v := 3) (by decide) ?_
  refine m2_iadd hB dL_law_1480 ?_
  refine h.ld (lw_in hi hL (show 3 < 7 by decide)) dL_law_1481 ?_
  refine m2_inv hB (as := [.int (xs (nI i + 1).toNatClampNeg), .int (xs (nI i + 2).toNatClampNeg), .int (xs (nI i + 3).toNatClampNeg)]) (st := []) dL_law_1482 mv_L_176 rfl sh_kC rfl (by decide) rfl (T_says (by omega) _ _ _ μ hR) (fun r μ1 hr hM => ?_)
  obtain ⟨y, rfl⟩ := hr
  refine m2_aload_n hB dL_law_1485 rfl ?_
  refine m2_aload_n hB dL_law_1486 rfl ?_
  refine m2_iload hB dL_law_1487 rfl ?_
  refine m2_iconst hB dL_law_1489 (v := 1) (by decide) ?_
  refine m2_iadd hB dL_law_1490 ?_
  refine h.ld (lw_in hi hL (show 1 < 7 by decide)) dL_law_1491 ?_
  refine m2_aload_n hB dL_law_1492 rfl ?_
  refine m2_iload hB dL_law_1493 rfl ?_
  refine m2_iconst hB dL_law_1495 (v := 2) (by decide) ?_
  refine m2_iadd hB dL_law_1496 ?_
  refine h.ld (lw_in hi hL (show 2 < 7 by decide)) dL_law_1497 ?_
  refine m2_aload_n hB dL_law_1498 rfl ?_
  refine m2_iload hB dL_law_1499 rfl ?_
  refine m2_iconst hB dL_law_1501 (v := 3) (by decide) ?_
  refine m2_iadd hB dL_law_1502 ?_
  refine h.ld (lw_in hi hL (show 3 < 7 by decide)) dL_law_1503 ?_
  refine m2_inv hB (as := [.int (xs (nI i + 1).toNatClampNeg), .int (xs (nI i + 2).toNatClampNeg), .int (xs (nI i + 3).toNatClampNeg)]) (st := [.int y]) dL_law_1504 mv_L_179 rfl sh_kM rfl (ble rfl) rfl hM (fun r2 μ2 hr2 hq => ?_)
  obtain ⟨rfl, hR2⟩ := hq
  exact m2_icmp_eq hB dL_law_1507 (tgt := 1728) (by decide) (fun _ => k μ2 hR2) (fun q => absurd rfl q)
theorem dL_law_1512 : decode code 1512 = .ok (.aload_n 1, 1) := by decide +kernel
theorem dL_law_1513 : decode code 1513 = .ok (.aload_n 0, 1) := by decide +kernel
theorem dL_law_1514 : decode code 1514 = .ok (.iload 4, 2) := by decide +kernel
theorem dL_law_1516 : decode code 1516 = .ok (.iconst 1, 1) := by decide +kernel
theorem dL_law_1517 : decode code 1517 = .ok (.iadd, 1) := by decide +kernel
theorem dL_law_1518 : decode code 1518 = .ok (.iaload, 1) := by decide +kernel
theorem dL_law_1519 : decode code 1519 = .ok (.invokevirtual 180, 3) := by decide +kernel
theorem dL_law_1522 : decode code 1522 = .ok (.aload_n 2, 1) := by decide +kernel
theorem dL_law_1523 : decode code 1523 = .ok (.aload_n 0, 1) := by decide +kernel
theorem dL_law_1524 : decode code 1524 = .ok (.iload 4, 2) := by decide +kernel
theorem dL_law_1526 : decode code 1526 = .ok (.iconst 1, 1) := by decide +kernel
theorem dL_law_1527 : decode code 1527 = .ok (.iadd, 1) := by decide +kernel
theorem dL_law_1528 : decode code 1528 = .ok (.iaload, 1) := by decide +kernel
theorem dL_law_1529 : decode code 1529 = .ok (.invokevirtual 183, 3) := by decide +kernel
theorem dL_law_1532 : decode code 1532 = .ok (.if_icmp .eq 196, 3) := by decide +kernel
theorem LC_36 {κ : Nat → Nat → List Value → List Value → m2M → Prop} {mx D L n i : Nat} {xs : Nat → Int32} {μ : m2M} (h : m2_LW κ mx (D + 1) L xs) (hn : n ≤ mx) (hi : i + 7 ≤ L) (hL : L ≤ 3584) (hD : 420 ≤ D) (hR : REL μ) (k : ∀ μ', REL μ' → κ n 1728 [.ref 1002, .ref kC, .ref kM, .ref kOut, .int (nI i), .null, .null, .null] [] μ') : κ n 1512 [.ref 1002, .ref kC, .ref kM, .ref kOut, .int (nI i), .null, .null, .null] [] μ := by
  have hB := h.b hn
  refine m2_aload_n hB dL_law_1512 rfl ?_
  refine m2_aload_n hB dL_law_1513 rfl ?_
  refine m2_iload hB dL_law_1514 rfl ?_
  refine m2_iconst hB dL_law_1516 (v := 1) (by decide) ?_
  refine m2_iadd hB dL_law_1517 ?_
  refine h.ld (lw_in hi hL (show 1 < 7 by decide)) dL_law_1518 ?_
  refine m2_inv hB (as := [.int (xs (nI i + 1).toNatClampNeg)]) (st := []) dL_law_1519 mv_L_180 rfl sh_kC rfl (by decide) rfl (T_trust (by omega) _ μ hR) (fun r μ1 hr hM => ?_)
  obtain ⟨y, rfl⟩ := hr
  refine m2_aload_n hB dL_law_1522 rfl ?_
  refine m2_aload_n hB dL_law_1523 rfl ?_
  refine m2_iload hB dL_law_1524 rfl ?_
  refine m2_iconst hB dL_law_1526 (v := 1) (by decide) ?_
  refine m2_iadd hB dL_law_1527 ?_
  refine h.ld (lw_in hi hL (show 1 < 7 by decide)) dL_law_1528 ?_
  refine m2_inv hB (as := [.int (xs (nI i + 1).toNatClampNeg)]) (st := [.int y]) dL_law_1529 mv_L_183 rfl sh_kM rfl (ble rfl) rfl hM (fun r2 μ2 hr2 hq => ?_)
  obtain ⟨rfl, hR2⟩ := hq
  exact m2_icmp_eq hB dL_law_1532 (tgt := 1728) (by decide) (fun _ => k μ2 hR2) (fun q => absurd rfl q)
theorem dL_law_1537 : decode code 1537 = .ok (.aload_n 1, 1) := by decide +kernel
theorem dL_law_1538 : decode code 1538 = .ok (.aload_n 0, 1) := by decide +kernel
theorem dL_law_1539 : decode code 1539 = .ok (.iload 4, 2) := by decide +kernel
theorem dL_law_1541 : decode code 1541 = .ok (.iconst 1, 1) := by decide +kernel
theorem dL_law_1542 : decode code 1542 = .ok (.iadd, 1) := by decide +kernel
theorem dL_law_1543 : decode code 1543 = .ok (.iaload, 1) := by decide +kernel
theorem dL_law_1544 : decode code 1544 = .ok (.aload_n 0, 1) := by decide +kernel
theorem dL_law_1545 : decode code 1545 = .ok (.iload 4, 2) := by decide +kernel
theorem dL_law_1547 : decode code 1547 = .ok (.iconst 2, 1) := by decide +kernel
theorem dL_law_1548 : decode code 1548 = .ok (.iadd, 1) := by decide +kernel
theorem dL_law_1549 : decode code 1549 = .ok (.iaload, 1) := by decide +kernel
theorem dL_law_1550 : decode code 1550 = .ok (.aload_n 0, 1) := by decide +kernel
theorem dL_law_1551 : decode code 1551 = .ok (.iload 4, 2) := by decide +kernel
theorem dL_law_1553 : decode code 1553 = .ok (.iconst 3, 1) := by decide +kernel
theorem dL_law_1554 : decode code 1554 = .ok (.iadd, 1) := by decide +kernel
theorem dL_law_1555 : decode code 1555 = .ok (.iaload, 1) := by decide +kernel
theorem dL_law_1556 : decode code 1556 = .ok (.aload_n 0, 1) := by decide +kernel
theorem dL_law_1557 : decode code 1557 = .ok (.iload 4, 2) := by decide +kernel
theorem dL_law_1559 : decode code 1559 = .ok (.iconst 4, 1) := by decide +kernel
theorem dL_law_1560 : decode code 1560 = .ok (.iadd, 1) := by decide +kernel
theorem dL_law_1561 : decode code 1561 = .ok (.iaload, 1) := by decide +kernel
theorem dL_law_1562 : decode code 1562 = .ok (.invokevirtual 184, 3) := by decide +kernel
theorem dL_law_1565 : decode code 1565 = .ok (.aload_n 2, 1) := by decide +kernel
theorem dL_law_1566 : decode code 1566 = .ok (.aload_n 0, 1) := by decide +kernel
theorem dL_law_1567 : decode code 1567 = .ok (.iload 4, 2) := by decide +kernel
theorem dL_law_1569 : decode code 1569 = .ok (.iconst 1, 1) := by decide +kernel
theorem dL_law_1570 : decode code 1570 = .ok (.iadd, 1) := by decide +kernel
theorem dL_law_1571 : decode code 1571 = .ok (.iaload, 1) := by decide +kernel
theorem dL_law_1572 : decode code 1572 = .ok (.aload_n 0, 1) := by decide +kernel
theorem dL_law_1573 : decode code 1573 = .ok (.iload 4, 2) := by decide +kernel
theorem dL_law_1575 : decode code 1575 = .ok (.iconst 2, 1) := by decide +kernel
theorem dL_law_1576 : decode code 1576 = .ok (.iadd, 1) := by decide +kernel
theorem dL_law_1577 : decode code 1577 = .ok (.iaload, 1) := by decide +kernel
theorem dL_law_1578 : decode code 1578 = .ok (.aload_n 0, 1) := by decide +kernel
theorem dL_law_1579 : decode code 1579 = .ok (.iload 4, 2) := by decide +kernel
theorem dL_law_1581 : decode code 1581 = .ok (.iconst 3, 1) := by decide +kernel
theorem dL_law_1582 : decode code 1582 = .ok (.iadd, 1) := by decide +kernel
theorem dL_law_1583 : decode code 1583 = .ok (.iaload, 1) := by decide +kernel
theorem dL_law_1584 : decode code 1584 = .ok (.aload_n 0, 1) := by decide +kernel
theorem dL_law_1585 : decode code 1585 = .ok (.iload 4, 2) := by decide +kernel
theorem dL_law_1587 : decode code 1587 = .ok (.iconst 4, 1) := by decide +kernel
theorem dL_law_1588 : decode code 1588 = .ok (.iadd, 1) := by decide +kernel
theorem dL_law_1589 : decode code 1589 = .ok (.iaload, 1) := by decide +kernel
theorem dL_law_1590 : decode code 1590 = .ok (.invokevirtual 187, 3) := by decide +kernel
theorem dL_law_1593 : decode code 1593 = .ok (.if_icmp .eq 135, 3) := by decide +kernel
theorem LC_37 {κ : Nat → Nat → List Value → List Value → m2M → Prop} {mx D L n i : Nat} {xs : Nat → Int32} {μ : m2M} (h : m2_LW κ mx (D + 1) L xs) (hn : n ≤ mx) (hi : i + 7 ≤ L) (hL : L ≤ 3584) (hD : 420 ≤ D) (hR : REL μ) (k : ∀ μ', REL μ' → κ n 1728 [.ref 1002, .ref kC, .ref kM, .ref kOut, .int (nI i), .null, .null, .null] [] μ') : κ n 1537 [.ref 1002, .ref kC, .ref kM, .ref kOut, .int (nI i), .null, .null, .null] [] μ := by
  have hB := h.b hn
  refine m2_aload_n hB dL_law_1537 rfl ?_
  refine m2_aload_n hB dL_law_1538 rfl ?_
  refine m2_iload hB dL_law_1539 rfl ?_
  refine m2_iconst hB dL_law_1541 (v := 1) (by decide) ?_
  refine m2_iadd hB dL_law_1542 ?_
  refine h.ld (lw_in hi hL (show 1 < 7 by decide)) dL_law_1543 ?_
  refine m2_aload_n hB dL_law_1544 rfl ?_
  refine m2_iload hB dL_law_1545 rfl ?_
  refine m2_iconst hB dL_law_1547 (v := 2) (by decide) ?_
  refine m2_iadd hB dL_law_1548 ?_
  refine h.ld (lw_in hi hL (show 2 < 7 by decide)) dL_law_1549 ?_
  refine m2_aload_n hB dL_law_1550 rfl ?_
  refine m2_iload hB dL_law_1551 rfl ?_
  refine m2_iconst hB dL_law_1553 (v := 3) (by decide) ?_
  refine m2_iadd hB dL_law_1554 ?_
  refine h.ld (lw_in hi hL (show 3 < 7 by decide)) dL_law_1555 ?_
  refine m2_aload_n hB dL_law_1556 rfl ?_
  refine m2_iload hB dL_law_1557 rfl ?_
  refine m2_iconst hB dL_law_1559 (v := 4) (by decide) ?_
  refine m2_iadd hB dL_law_1560 ?_
  refine h.ld (lw_in hi hL (show 4 < 7 by decide)) dL_law_1561 ?_
  refine m2_inv hB (as := [.int (xs (nI i + 1).toNatClampNeg), .int (xs (nI i + 2).toNatClampNeg), .int (xs (nI i + 3).toNatClampNeg), .int (xs (nI i + 4).toNatClampNeg)]) (st := []) dL_law_1562 mv_L_184 rfl sh_kC rfl (by decide) rfl (T_safe (by omega) _ _ _ _ μ hR) (fun r μ1 hr hM => ?_)
  obtain ⟨y, rfl⟩ := hr
  refine m2_aload_n hB dL_law_1565 rfl ?_
  refine m2_aload_n hB dL_law_1566 rfl ?_
  refine m2_iload hB dL_law_1567 rfl ?_
  refine m2_iconst hB dL_law_1569 (v := 1) (by decide) ?_
  refine m2_iadd hB dL_law_1570 ?_
  refine h.ld (lw_in hi hL (show 1 < 7 by decide)) dL_law_1571 ?_
  refine m2_aload_n hB dL_law_1572 rfl ?_
  refine m2_iload hB dL_law_1573 rfl ?_
  refine m2_iconst hB dL_law_1575 (v := 2) (by decide) ?_
  refine m2_iadd hB dL_law_1576 ?_
  refine h.ld (lw_in hi hL (show 2 < 7 by decide)) dL_law_1577 ?_
  refine m2_aload_n hB dL_law_1578 rfl ?_
  refine m2_iload hB dL_law_1579 rfl ?_
  refine m2_iconst hB dL_law_1581 (v := 3) (by decide) ?_
  refine m2_iadd hB dL_law_1582 ?_
  refine h.ld (lw_in hi hL (show 3 < 7 by decide)) dL_law_1583 ?_
  refine m2_aload_n hB dL_law_1584 rfl ?_
  refine m2_iload hB dL_law_1585 rfl ?_
  refine m2_iconst hB dL_law_1587 (v := 4) (by decide) ?_
  refine m2_iadd hB dL_law_1588 ?_
  refine h.ld (lw_in hi hL (show 4 < 7 by decide)) dL_law_1589 ?_
  refine m2_inv hB (as := [.int (xs (nI i + 1).toNatClampNeg), .int (xs (nI i + 2).toNatClampNeg), .int (xs (nI i + 3).toNatClampNeg), .int (xs (nI i + 4).toNatClampNeg)]) (st := [.int y]) dL_law_1590 mv_L_187 rfl sh_kM rfl (ble rfl) rfl hM (fun r2 μ2 hr2 hq => ?_)
  obtain ⟨rfl, hR2⟩ := hq
  exact m2_icmp_eq hB dL_law_1593 (tgt := 1728) (by decide) (fun _ => k μ2 hR2) (fun q => absurd rfl q)
theorem dL_law_1598 : decode code 1598 = .ok (.aload_n 1, 1) := by decide +kernel
theorem dL_law_1599 : decode code 1599 = .ok (.aload_n 0, 1) := by decide +kernel
theorem dL_law_1600 : decode code 1600 = .ok (.iload 4, 2) := by decide +kernel
theorem dL_law_1602 : decode code 1602 = .ok (.iconst 1, 1) := by decide +kernel
theorem dL_law_1603 : decode code 1603 = .ok (.iadd, 1) := by decide +kernel
theorem dL_law_1604 : decode code 1604 = .ok (.iaload, 1) := by decide +kernel
theorem dL_law_1605 : decode code 1605 = .ok (.invokevirtual 188, 3) := by decide +kernel
theorem dL_law_1608 : decode code 1608 = .ok (.aload_n 2, 1) := by decide +kernel
theorem dL_law_1609 : decode code 1609 = .ok (.aload_n 0, 1) := by decide +kernel
theorem dL_law_1610 : decode code 1610 = .ok (.iload 4, 2) := by decide +kernel
theorem dL_law_1612 : decode code 1612 = .ok (.iconst 1, 1) := by decide +kernel
theorem dL_law_1613 : decode code 1613 = .ok (.iadd, 1) := by decide +kernel
theorem dL_law_1614 : decode code 1614 = .ok (.iaload, 1) := by decide +kernel
theorem dL_law_1615 : decode code 1615 = .ok (.invokevirtual 191, 3) := by decide +kernel
theorem dL_law_1618 : decode code 1618 = .ok (.if_icmp .eq 110, 3) := by decide +kernel
theorem LC_38 {κ : Nat → Nat → List Value → List Value → m2M → Prop} {mx D L n i : Nat} {xs : Nat → Int32} {μ : m2M} (h : m2_LW κ mx (D + 1) L xs) (hn : n ≤ mx) (hi : i + 7 ≤ L) (hL : L ≤ 3584) (hD : 420 ≤ D) (hR : REL μ) (k : ∀ μ', REL μ' → κ n 1728 [.ref 1002, .ref kC, .ref kM, .ref kOut, .int (nI i), .null, .null, .null] [] μ') : κ n 1598 [.ref 1002, .ref kC, .ref kM, .ref kOut, .int (nI i), .null, .null, .null] [] μ := by
  have hB := h.b hn
  refine m2_aload_n hB dL_law_1598 rfl ?_
  refine m2_aload_n hB dL_law_1599 rfl ?_
  refine m2_iload hB dL_law_1600 rfl ?_
  refine m2_iconst hB dL_law_1602 (v := 1) (by decide) ?_
  refine m2_iadd hB dL_law_1603 ?_
  refine h.ld (lw_in hi hL (show 1 < 7 by decide)) dL_law_1604 ?_
  refine m2_inv hB (as := [.int (xs (nI i + 1).toNatClampNeg)]) (st := []) dL_law_1605 mv_L_188 rfl sh_kC rfl (by decide) rfl (T_put (by omega) _ μ hR) (fun r μ1 hr hM => ?_)
  obtain ⟨y, rfl⟩ := hr
  refine m2_aload_n hB dL_law_1608 rfl ?_
  refine m2_aload_n hB dL_law_1609 rfl ?_
  refine m2_iload hB dL_law_1610 rfl ?_
  refine m2_iconst hB dL_law_1612 (v := 1) (by decide) ?_
  refine m2_iadd hB dL_law_1613 ?_
  refine h.ld (lw_in hi hL (show 1 < 7 by decide)) dL_law_1614 ?_
  refine m2_inv hB (as := [.int (xs (nI i + 1).toNatClampNeg)]) (st := [.int y]) dL_law_1615 mv_L_191 rfl sh_kM rfl (ble rfl) rfl hM (fun r2 μ2 hr2 hq => ?_)
  obtain ⟨rfl, hR2⟩ := hq
  exact m2_icmp_eq hB dL_law_1618 (tgt := 1728) (by decide) (fun _ => k μ2 hR2) (fun q => absurd rfl q)
theorem dL_law_1623 : decode code 1623 = .ok (.aload_n 1, 1) := by decide +kernel
theorem dL_law_1624 : decode code 1624 = .ok (.aload_n 0, 1) := by decide +kernel
theorem dL_law_1625 : decode code 1625 = .ok (.iload 4, 2) := by decide +kernel
theorem dL_law_1627 : decode code 1627 = .ok (.iconst 1, 1) := by decide +kernel
theorem dL_law_1628 : decode code 1628 = .ok (.iadd, 1) := by decide +kernel
theorem dL_law_1629 : decode code 1629 = .ok (.iaload, 1) := by decide +kernel
theorem dL_law_1630 : decode code 1630 = .ok (.invokevirtual 192, 3) := by decide +kernel
theorem dL_law_1633 : decode code 1633 = .ok (.aload_n 2, 1) := by decide +kernel
theorem dL_law_1634 : decode code 1634 = .ok (.aload_n 0, 1) := by decide +kernel
theorem dL_law_1635 : decode code 1635 = .ok (.iload 4, 2) := by decide +kernel
theorem dL_law_1637 : decode code 1637 = .ok (.iconst 1, 1) := by decide +kernel
theorem dL_law_1638 : decode code 1638 = .ok (.iadd, 1) := by decide +kernel
theorem dL_law_1639 : decode code 1639 = .ok (.iaload, 1) := by decide +kernel
theorem dL_law_1640 : decode code 1640 = .ok (.invokevirtual 195, 3) := by decide +kernel
theorem dL_law_1643 : decode code 1643 = .ok (.if_icmp .eq 85, 3) := by decide +kernel
theorem LC_39 {κ : Nat → Nat → List Value → List Value → m2M → Prop} {mx D L n i : Nat} {xs : Nat → Int32} {μ : m2M} (h : m2_LW κ mx (D + 1) L xs) (hn : n ≤ mx) (hi : i + 7 ≤ L) (hL : L ≤ 3584) (hD : 420 ≤ D) (hR : REL μ) (k : ∀ μ', REL μ' → κ n 1728 [.ref 1002, .ref kC, .ref kM, .ref kOut, .int (nI i), .null, .null, .null] [] μ') : κ n 1623 [.ref 1002, .ref kC, .ref kM, .ref kOut, .int (nI i), .null, .null, .null] [] μ := by
  have hB := h.b hn
  refine m2_aload_n hB dL_law_1623 rfl ?_
  refine m2_aload_n hB dL_law_1624 rfl ?_
  refine m2_iload hB dL_law_1625 rfl ?_
  refine m2_iconst hB dL_law_1627 (v := 1) (by decide) ?_
  refine m2_iadd hB dL_law_1628 ?_
  refine h.ld (lw_in hi hL (show 1 < 7 by decide)) dL_law_1629 ?_
  refine m2_inv hB (as := [.int (xs (nI i + 1).toNatClampNeg)]) (st := []) dL_law_1630 mv_L_192 rfl sh_kC rfl (by decide) rfl (T_again (by omega) _ μ hR) (fun r μ1 hr hM => ?_)
  obtain ⟨y, rfl⟩ := hr
  refine m2_aload_n hB dL_law_1633 rfl ?_
  refine m2_aload_n hB dL_law_1634 rfl ?_
  refine m2_iload hB dL_law_1635 rfl ?_
  refine m2_iconst hB dL_law_1637 (v := 1) (by decide) ?_
  refine m2_iadd hB dL_law_1638 ?_
  refine h.ld (lw_in hi hL (show 1 < 7 by decide)) dL_law_1639 ?_
  refine m2_inv hB (as := [.int (xs (nI i + 1).toNatClampNeg)]) (st := [.int y]) dL_law_1640 mv_L_195 rfl sh_kM rfl (ble rfl) rfl hM (fun r2 μ2 hr2 hq => ?_)
  obtain ⟨rfl, hR2⟩ := hq
  exact m2_icmp_eq hB dL_law_1643 (tgt := 1728) (by decide) (fun _ => k μ2 hR2) (fun q => absurd rfl q)
theorem dL_law_1648 : decode code 1648 = .ok (.aload_n 1, 1) := by decide +kernel
theorem dL_law_1649 : decode code 1649 = .ok (.aload_n 0, 1) := by decide +kernel
theorem dL_law_1650 : decode code 1650 = .ok (.iload 4, 2) := by decide +kernel
theorem dL_law_1652 : decode code 1652 = .ok (.iconst 1, 1) := by decide +kernel
theorem dL_law_1653 : decode code 1653 = .ok (.iadd, 1) := by decide +kernel
theorem dL_law_1654 : decode code 1654 = .ok (.iaload, 1) := by decide +kernel
theorem dL_law_1655 : decode code 1655 = .ok (.invokevirtual 196, 3) := by decide +kernel
theorem dL_law_1658 : decode code 1658 = .ok (.aload_n 2, 1) := by decide +kernel
theorem dL_law_1659 : decode code 1659 = .ok (.aload_n 0, 1) := by decide +kernel
theorem dL_law_1660 : decode code 1660 = .ok (.iload 4, 2) := by decide +kernel
theorem dL_law_1662 : decode code 1662 = .ok (.iconst 1, 1) := by decide +kernel
theorem dL_law_1663 : decode code 1663 = .ok (.iadd, 1) := by decide +kernel
theorem dL_law_1664 : decode code 1664 = .ok (.iaload, 1) := by decide +kernel
theorem dL_law_1665 : decode code 1665 = .ok (.invokevirtual 199, 3) := by decide +kernel
theorem dL_law_1668 : decode code 1668 = .ok (.if_icmp .eq 60, 3) := by decide +kernel
theorem LC_40 {κ : Nat → Nat → List Value → List Value → m2M → Prop} {mx D L n i : Nat} {xs : Nat → Int32} {μ : m2M} (h : m2_LW κ mx (D + 1) L xs) (hn : n ≤ mx) (hi : i + 7 ≤ L) (hL : L ≤ 3584) (hD : 420 ≤ D) (hR : REL μ) (k : ∀ μ', REL μ' → κ n 1728 [.ref 1002, .ref kC, .ref kM, .ref kOut, .int (nI i), .null, .null, .null] [] μ') : κ n 1648 [.ref 1002, .ref kC, .ref kM, .ref kOut, .int (nI i), .null, .null, .null] [] μ := by
  have hB := h.b hn
  refine m2_aload_n hB dL_law_1648 rfl ?_
  refine m2_aload_n hB dL_law_1649 rfl ?_
  refine m2_iload hB dL_law_1650 rfl ?_
  refine m2_iconst hB dL_law_1652 (v := 1) (by decide) ?_
  refine m2_iadd hB dL_law_1653 ?_
  refine h.ld (lw_in hi hL (show 1 < 7 by decide)) dL_law_1654 ?_
  refine m2_inv hB (as := [.int (xs (nI i + 1).toNatClampNeg)]) (st := []) dL_law_1655 mv_L_196 rfl sh_kC rfl (by decide) rfl (T_count (by omega) _ μ hR) (fun r μ1 hr hM => ?_)
  obtain ⟨y, rfl⟩ := hr
  refine m2_aload_n hB dL_law_1658 rfl ?_
  refine m2_aload_n hB dL_law_1659 rfl ?_
  refine m2_iload hB dL_law_1660 rfl ?_
  refine m2_iconst hB dL_law_1662 (v := 1) (by decide) ?_
  refine m2_iadd hB dL_law_1663 ?_
  refine h.ld (lw_in hi hL (show 1 < 7 by decide)) dL_law_1664 ?_
  refine m2_inv hB (as := [.int (xs (nI i + 1).toNatClampNeg)]) (st := [.int y]) dL_law_1665 mv_L_199 rfl sh_kM rfl (ble rfl) rfl hM (fun r2 μ2 hr2 hq => ?_)
  obtain ⟨rfl, hR2⟩ := hq
  exact m2_icmp_eq hB dL_law_1668 (tgt := 1728) (by decide) (fun _ => k μ2 hR2) (fun q => absurd rfl q)
