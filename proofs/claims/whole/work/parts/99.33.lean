set_option maxHeartbeats 4000000 in
set_option maxRecDepth 100000 in
theorem law_player {p : Program} {l : Launch} {e : Env} {s : State} {m : MethodId} {below : List Frame} {meth : Method} {c : Code} {b L : Nat} {xs : Nat → Int32} (dC : Nat → ClassId) (dI : Nat → Nat → Nat) (cJ cI cZ cH cB cT : ClassId) (out ob om ahl abl asr pb atr tb mt : Nat) (fhl fbl ftr : Nat → Option Nat) (hA_ : Nat → Nat × Nat × Nat × Nat × Nat) (bA_ tA_ : Nat → Nat) (apx apy act asd amv asl apl asw aor aon atw aup alw : Nat) (KC KS : Nat) (hKC : KC + 600 ≤ 601024) (hKS : KS + 3600 ≤ 7293034) (hL : L ≤ 4608) (C0 : lw_At p s m meth c b L xs) (hst : l.stackTraces = false) (hT : tS (fun q : Nat => s.heap.size ≤ q) s) (hnc : ncS s) (hlk : (∀ j, j < 16 → fhl j = some (hA_ j).1) ∧ (∀ j, j < 16 → fbl j = some (bA_ j)) ∧ (∀ j, j < 8 → ftr j = some (tA_ j))) (hK : va_K (dC, dI) vwCl (tysL cJ cI cZ cH cB cT) s) (t : Nat) (ht : 9 * t + 9 ≤ L) (fo : Nat → Int64) (cc_ : CD) (cd : Nat) (ee : ED) (zz : ZD) (hR : RC cc_ ee) (H : Heap) (locs : List Loc) (ls : Array Slot) (hP : va_P (dC, dI) vwCl (LWd cJ cI cZ cH cB cT out ob om ahl abl asr pb atr tb mt fhl fbl ftr hA_ bA_ tA_ apx apy act asd amv asl apl asw aor aon atw aup alw fo cc_ cd ee zz) H) (hD : va_D (fun q : Nat => s.heap.size ≤ q) (LWd cJ cI cZ cH cB cT out ob om ahl abl asr pb atr tb mt fhl fbl ftr hA_ bA_ tA_ apx apy act asd amv asl apl asw aor aon atw aup alw fo cc_ cd ee zz)) (hS : va_S (fun q : Nat => s.heap.size ≤ q) s.heap H locs) (hl : lv_has ls 8 [(0, .ref b), (1, .ref ob), (2, .ref om), (3, .ref out), (4, .int (nI (9 * t)))]) (kk : ∀ (f1 : Nat → Int64) (c1 : CD) (cd1 : Nat) (e1 : ED) (z1 : ZD) (H : Heap) (locs : List Loc) (ls : Array Slot), RC c1 e1 → va_P (dC, dI) vwCl (LWd cJ cI cZ cH cB cT out ob om ahl abl asr pb atr tb mt fhl fbl ftr hA_ bA_ tA_ apx apy act asd amv asl apl asw aor aon atw aup alw f1 c1 cd1 e1 z1) H → va_D (fun q : Nat => s.heap.size ≤ q) (LWd cJ cI cZ cH cB cT out ob om ahl abl asr pb atr tb mt fhl fbl ftr hA_ bA_ tA_ apx apy act asd amv asl apl asw aor aon atw aup alw f1 c1 cd1 e1 z1) → va_S (fun q : Nat => s.heap.size ≤ q) s.heap H locs → lv_has ls 8 [(0, .ref b), (1, .ref ob), (2, .ref om), (3, .ref out), (4, .int (nI (9 * t)))] → W p l e room_1 s m #[Value.ref b] below meth c H locs (KC + (t + 1)) (KS + 6 * (t + 1)) (lw_Z below #[Value.ref b] s) (F0 m 1669 ls [])) : W p l e room_1 s m #[Value.ref b] below meth c H locs (KC + t) (KS + 6 * t) (lw_Z below #[Value.ref b] s) (F0 m 1159 ls []) := by
  obtain ⟨hx, hb, hr, hml, hown, hts, hX, hbl, hlocks, hgv⟩ := C0
  have hA : ∀ q : Nat, s.heap.size ≤ q → (fun q : Nat => s.heap.size ≤ q) q := fun _ h => h
  have hbA : ¬ (fun q : Nat => s.heap.size ≤ q) b := Nat.not_le.mpr hbl
  have htl : ∀ w ∈ wsL_law, w.before #[Value.ref b] s = true := fun w h => hts w (wsL_law_in w h)
  have htt : t ≤ 512 := by omega
  obtain ⟨nh, kb, nt, hd, hf, bd, fsr, ⟨px0, py0, px1, py1, pdx, pdy⟩, ⟨tx0, ty0, tx1, ty1, tdx, tdy⟩, ⟨mu, ml, meu, mel, mbar⟩, ft⟩ := cc_
  obtain ⟨ns, fpx, fpy, ct, nb, fsd, fmv, fsl, fpl, fsw, nw⟩ := ee
  obtain ⟨nc, od, fon, ftw, mx, my, fup, flw, nm, up, lo, rx, ry⟩ := zz
  refine lv_aload_n hx hb dL_law_1159 rfl (lv_at hl 1 rfl) ?_
  refine lv_aload_n hx hb dL_law_1160 rfl (lv_at hl 0 rfl) ?_
  refine lv_iload hx hb dL_law_1161 (lv_at hl 4 rfl) ?_
  refine lv_iconst (v := (nI 1)) hx hb dL_law_1163 (by decide) ?_
  refine lv_iadd hx hb dL_law_1164 ?_
  rw [show nI (9 * t) + nI 1 = nI (9 * t + 1) from nI_add _ _]
  refine va_sld hx hb hX hbl hbA hS (vp_in_nI (show 9 * t + 1 < L by omega) (by omega)) dL_law_1165 ?_
  rw [show (nI (9 * t + 1)).toNatClampNeg = 9 * t + 1 from nI_clamp (show 9 * t + 1 < 2 ^ 31 by omega)]
  refine lv_i2l (v := (xs (9 * t + 1)).toInt64) hx hb dL_law_1166 rfl ?_
  refine lv_bipush (v := (nI 32)) hx hb dL_law_1167 (by decide) ?_
  refine lv_lshl (v := ((xs (9 * t + 1)).toInt64 <<< ((nI 32).toInt64 &&& 63))) hx hb dL_law_1169 rfl ?_
  refine lv_aload_n hx hb dL_law_1170 rfl (lv_at hl 0 rfl) ?_
  refine lv_iload hx hb dL_law_1171 (lv_at hl 4 rfl) ?_
  refine lv_iconst (v := (nI 2)) hx hb dL_law_1173 (by decide) ?_
  refine lv_iadd hx hb dL_law_1174 ?_
  rw [show nI (9 * t) + nI 2 = nI (9 * t + 2) from nI_add _ _]
  refine va_sld hx hb hX hbl hbA hS (vp_in_nI (show 9 * t + 2 < L by omega) (by omega)) dL_law_1175 ?_
  rw [show (nI (9 * t + 2)).toNatClampNeg = 9 * t + 2 from nI_clamp (show 9 * t + 2 < 2 ^ 31 by omega)]
  refine lv_i2l (v := (xs (9 * t + 2)).toInt64) hx hb dL_law_1176 rfl ?_
  refine lv_ldc2 hx hb hown (hts (.constantLong RL 81 (4294967295)) (by decide +kernel)) dL_law_1177 ?_
  refine lv_land hx hb dL_law_1180 ?_
  refine lv_lor hx hb dL_law_1181 ?_
  refine lv_aload_n hx hb dL_law_1182 rfl (lv_at hl 0 rfl) ?_
  refine lv_iload hx hb dL_law_1183 (lv_at hl 4 rfl) ?_
  refine lv_iconst (v := (nI 3)) hx hb dL_law_1185 (by decide) ?_
  refine lv_iadd hx hb dL_law_1186 ?_
  rw [show nI (9 * t) + nI 3 = nI (9 * t + 3) from nI_add _ _]
  refine va_sld hx hb hX hbl hbA hS (vp_in_nI (show 9 * t + 3 < L by omega) (by omega)) dL_law_1187 ?_
  rw [show (nI (9 * t + 3)).toNatClampNeg = 9 * t + 3 from nI_clamp (show 9 * t + 3 < 2 ^ 31 by omega)]
  refine lv_i2l (v := (xs (9 * t + 3)).toInt64) hx hb dL_law_1188 rfl ?_
  refine lv_bipush (v := (nI 32)) hx hb dL_law_1189 (by decide) ?_
  refine lv_lshl (v := ((xs (9 * t + 3)).toInt64 <<< ((nI 32).toInt64 &&& 63))) hx hb dL_law_1191 rfl ?_
  refine lv_aload_n hx hb dL_law_1192 rfl (lv_at hl 0 rfl) ?_
  refine lv_iload hx hb dL_law_1193 (lv_at hl 4 rfl) ?_
  refine lv_iconst (v := (nI 4)) hx hb dL_law_1195 (by decide) ?_
  refine lv_iadd hx hb dL_law_1196 ?_
  rw [show nI (9 * t) + nI 4 = nI (9 * t + 4) from nI_add _ _]
  refine va_sld hx hb hX hbl hbA hS (vp_in_nI (show 9 * t + 4 < L by omega) (by omega)) dL_law_1197 ?_
  rw [show (nI (9 * t + 4)).toNatClampNeg = 9 * t + 4 from nI_clamp (show 9 * t + 4 < 2 ^ 31 by omega)]
  refine lv_i2l (v := (xs (9 * t + 4)).toInt64) hx hb dL_law_1198 rfl ?_
  refine lv_ldc2 hx hb hown (hts (.constantLong RL 81 (4294967295)) (by decide +kernel)) dL_law_1199 ?_
  refine lv_land hx hb dL_law_1202 ?_
  refine lv_lor hx hb dL_law_1203 ?_
  refine lv_aload_n hx hb dL_law_1204 rfl (lv_at hl 0 rfl) ?_
  refine lv_iload hx hb dL_law_1205 (lv_at hl 4 rfl) ?_
  refine lv_iconst (v := (nI 5)) hx hb dL_law_1207 (by decide) ?_
  refine lv_iadd hx hb dL_law_1208 ?_
  rw [show nI (9 * t) + nI 5 = nI (9 * t + 5) from nI_add _ _]
  refine va_sld hx hb hX hbl hbA hS (vp_in_nI (show 9 * t + 5 < L by omega) (by omega)) dL_law_1209 ?_
  rw [show (nI (9 * t + 5)).toNatClampNeg = 9 * t + 5 from nI_clamp (show 9 * t + 5 < 2 ^ 31 by omega)]
  refine lv_i2l (v := (xs (9 * t + 5)).toInt64) hx hb dL_law_1210 rfl ?_
  refine lv_bipush (v := (nI 32)) hx hb dL_law_1211 (by decide) ?_
  refine lv_lshl (v := ((xs (9 * t + 5)).toInt64 <<< ((nI 32).toInt64 &&& 63))) hx hb dL_law_1213 rfl ?_
  refine lv_aload_n hx hb dL_law_1214 rfl (lv_at hl 0 rfl) ?_
  refine lv_iload hx hb dL_law_1215 (lv_at hl 4 rfl) ?_
  refine lv_bipush (v := (nI 6)) hx hb dL_law_1217 (by decide) ?_
  refine lv_iadd hx hb dL_law_1219 ?_
  rw [show nI (9 * t) + nI 6 = nI (9 * t + 6) from nI_add _ _]
  refine va_sld hx hb hX hbl hbA hS (vp_in_nI (show 9 * t + 6 < L by omega) (by omega)) dL_law_1220 ?_
  rw [show (nI (9 * t + 6)).toNatClampNeg = 9 * t + 6 from nI_clamp (show 9 * t + 6 < 2 ^ 31 by omega)]
  refine lv_i2l (v := (xs (9 * t + 6)).toInt64) hx hb dL_law_1221 rfl ?_
  refine lv_ldc2 hx hb hown (hts (.constantLong RL 81 (4294967295)) (by decide +kernel)) dL_law_1222 ?_
  refine lv_land hx hb dL_law_1225 ?_
  refine lv_lor hx hb dL_law_1226 ?_
  refine lv_aload_n hx hb dL_law_1227 rfl (lv_at hl 0 rfl) ?_
  refine lv_iload hx hb dL_law_1228 (lv_at hl 4 rfl) ?_
  refine lv_bipush (v := (nI 7)) hx hb dL_law_1230 (by decide) ?_
  refine lv_iadd hx hb dL_law_1232 ?_
  rw [show nI (9 * t) + nI 7 = nI (9 * t + 7) from nI_add _ _]
  refine va_sld hx hb hX hbl hbA hS (vp_in_nI (show 9 * t + 7 < L by omega) (by omega)) dL_law_1233 ?_
  rw [show (nI (9 * t + 7)).toNatClampNeg = 9 * t + 7 from nI_clamp (show 9 * t + 7 < 2 ^ 31 by omega)]
  refine lv_i2l (v := (xs (9 * t + 7)).toInt64) hx hb dL_law_1234 rfl ?_
  refine lv_bipush (v := (nI 32)) hx hb dL_law_1235 (by decide) ?_
  refine lv_lshl (v := ((xs (9 * t + 7)).toInt64 <<< ((nI 32).toInt64 &&& 63))) hx hb dL_law_1237 rfl ?_
  refine lv_aload_n hx hb dL_law_1238 rfl (lv_at hl 0 rfl) ?_
  refine lv_iload hx hb dL_law_1239 (lv_at hl 4 rfl) ?_
  refine lv_bipush (v := (nI 8)) hx hb dL_law_1241 (by decide) ?_
  refine lv_iadd hx hb dL_law_1243 ?_
  rw [show nI (9 * t) + nI 8 = nI (9 * t + 8) from nI_add _ _]
  refine va_sld hx hb hX hbl hbA hS (vp_in_nI (show 9 * t + 8 < L by omega) (by omega)) dL_law_1244 ?_
  rw [show (nI (9 * t + 8)).toNatClampNeg = 9 * t + 8 from nI_clamp (show 9 * t + 8 < 2 ^ 31 by omega)]
  refine lv_i2l (v := (xs (9 * t + 8)).toInt64) hx hb dL_law_1245 rfl ?_
  refine lv_ldc2 hx hb hown (hts (.constantLong RL 81 (4294967295)) (by decide +kernel)) dL_law_1246 ?_
  refine lv_land hx hb dL_law_1249 ?_
  refine lv_lor hx hb dL_law_1250 ?_
  refine lv_aload_n hx hb dL_law_1251 rfl (lv_at hl 3 rfl) ?_
  obtain ⟨k, Ps, hk4, hH, hM⟩ := J_player l dC dI cJ cI cZ cH cB cT out ob om ahl abl asr pb atr tb mt fhl fbl ftr hA_ bA_ tA_ apx apy act asd amv asl apl asw aor aon atw aup alw fo nh kb nt hd hf bd fsr px0 py0 px1 py1 pdx pdy tx0 ty0 tx1 ty1 tdx tdy mu ml meu mel mbar ft cd ns fpx fpy ct nb fsd fmv fsl fpl fsw nw nc od fon ftw mx my fup flw nm up lo rx ry (lJ (xs (9 * t + 1)) (xs (9 * t + 2))) (lJ (xs (9 * t + 3)) (xs (9 * t + 4))) (lJ (xs (9 * t + 5)) (xs (9 * t + 6))) (lJ (xs (9 * t + 7)) (xs (9 * t + 8))) hst hlk hR
  refine gSH (As := [.ref ob, .long (lJ (xs (9 * t + 1)) (xs (9 * t + 2))), .long (lJ (xs (9 * t + 3)) (xs (9 * t + 4))), .long (lJ (xs (9 * t + 5)) (xs (9 * t + 6))), .long (lJ (xs (9 * t + 7)) (xs (9 * t + 8))), .ref out]) (rest := []) ⟨hx, hb, hml, hown, htl⟩ hH (vx_cwSW 6 htl gL_law_L_player rfl rfl rfl (by decide +kernel) ⟨Nat.le_of_ble_eq_true rfl, Nat.le_of_ble_eq_true rfl⟩) hP hD hA hS hK hT hnc rfl rfl hl.1 (Nat.le_of_ble_eq_true rfl) dL_law_1252 ⟨(show KC + t + 1 ≤ 601024 by omega), (show KS + 6 * t + 6 ≤ 7293034 by omega)⟩ (fun r B2 H locs hq hP hD hS => ?_)
  obtain ⟨rfl, f1, c1, hps, rfl⟩ := hq
  refine lv_istore (lv' := [(5, .int (nI k)), (0, .ref b), (1, .ref ob), (2, .ref om), (3, .ref out), (4, .int (nI (9 * t)))]) hx hb dL_law_1255 hl (by decide) rfl (fun ls hl => ?_)
  refine lv_aload_n hx hb dL_law_1257 rfl (lv_at hl 3 rfl) ?_
  refine lv_aload_n hx hb dL_law_1258 rfl (lv_at hl 1 rfl) ?_
  refine lv_iload hx hb dL_law_1259 (lv_at hl 5 rfl) ?_
  refine lv_iconst (v := (nI 1)) hx hb dL_law_1261 (by decide) ?_
  refine lv_iadd hx hb dL_law_1262 ?_
  rw [show nI (9 * t) + nI 1 = nI (9 * t + 1) from nI_add _ _]
  refine va_sld hx hb hX hbl hbA hS (vp_in_nI (show 9 * t + 1 < L by omega) (by omega)) dL_law_1263 ?_
  rw [show (nI (9 * t + 1)).toNatClampNeg = 9 * t + 1 from nI_clamp (show 9 * t + 1 < 2 ^ 31 by omega)]
  refine lv_i2l (v := (xs (9 * t + 1)).toInt64) hx hb dL_law_1264 rfl ?_
  refine lv_bipush (v := (nI 32)) hx hb dL_law_1265 (by decide) ?_
  refine lv_lshl (v := ((xs (9 * t + 1)).toInt64 <<< ((nI 32).toInt64 &&& 63))) hx hb dL_law_1267 rfl ?_
  refine lv_aload_n hx hb dL_law_1268 rfl (lv_at hl 1 rfl) ?_
  refine lv_iload hx hb dL_law_1269 (lv_at hl 5 rfl) ?_
  refine lv_iconst (v := (nI 2)) hx hb dL_law_1271 (by decide) ?_
  refine lv_iadd hx hb dL_law_1272 ?_
  rw [show nI (9 * t) + nI 2 = nI (9 * t + 2) from nI_add _ _]
  refine va_sld hx hb hX hbl hbA hS (vp_in_nI (show 9 * t + 2 < L by omega) (by omega)) dL_law_1273 ?_
  rw [show (nI (9 * t + 2)).toNatClampNeg = 9 * t + 2 from nI_clamp (show 9 * t + 2 < 2 ^ 31 by omega)]
  refine lv_i2l (v := (xs (9 * t + 2)).toInt64) hx hb dL_law_1274 rfl ?_
  refine lv_ldc2 hx hb hown (hts (.constantLong RL 81 (4294967295)) (by decide +kernel)) dL_law_1275 ?_
  refine lv_land hx hb dL_law_1278 ?_
  refine lv_lor hx hb dL_law_1279 ?_
  refine lv_aload_n hx hb dL_law_1280 rfl (lv_at hl 1 rfl) ?_
  refine lv_iload hx hb dL_law_1281 (lv_at hl 5 rfl) ?_
  refine lv_iconst (v := (nI 3)) hx hb dL_law_1283 (by decide) ?_
  refine lv_iadd hx hb dL_law_1284 ?_
  rw [show nI (9 * t) + nI 3 = nI (9 * t + 3) from nI_add _ _]
  refine va_sld hx hb hX hbl hbA hS (vp_in_nI (show 9 * t + 3 < L by omega) (by omega)) dL_law_1285 ?_
  rw [show (nI (9 * t + 3)).toNatClampNeg = 9 * t + 3 from nI_clamp (show 9 * t + 3 < 2 ^ 31 by omega)]
  refine lv_i2l (v := (xs (9 * t + 3)).toInt64) hx hb dL_law_1286 rfl ?_
  refine lv_bipush (v := (nI 32)) hx hb dL_law_1287 (by decide) ?_
  refine lv_lshl (v := ((xs (9 * t + 3)).toInt64 <<< ((nI 32).toInt64 &&& 63))) hx hb dL_law_1289 rfl ?_
  refine lv_aload_n hx hb dL_law_1290 rfl (lv_at hl 1 rfl) ?_
  refine lv_iload hx hb dL_law_1291 (lv_at hl 5 rfl) ?_
  refine lv_iconst (v := (nI 4)) hx hb dL_law_1293 (by decide) ?_
  refine lv_iadd hx hb dL_law_1294 ?_
  rw [show nI (9 * t) + nI 4 = nI (9 * t + 4) from nI_add _ _]
  refine va_sld hx hb hX hbl hbA hS (vp_in_nI (show 9 * t + 4 < L by omega) (by omega)) dL_law_1295 ?_
  rw [show (nI (9 * t + 4)).toNatClampNeg = 9 * t + 4 from nI_clamp (show 9 * t + 4 < 2 ^ 31 by omega)]
  refine lv_i2l (v := (xs (9 * t + 4)).toInt64) hx hb dL_law_1296 rfl ?_
  refine lv_ldc2 hx hb hown (hts (.constantLong RL 81 (4294967295)) (by decide +kernel)) dL_law_1297 ?_
  refine lv_land hx hb dL_law_1300 ?_
  refine lv_lor hx hb dL_law_1301 ?_
  refine lv_aload_n hx hb dL_law_1302 rfl (lv_at hl 1 rfl) ?_
  refine lv_iload hx hb dL_law_1303 (lv_at hl 5 rfl) ?_
  refine lv_iconst (v := (nI 5)) hx hb dL_law_1305 (by decide) ?_
  refine lv_iadd hx hb dL_law_1306 ?_
  rw [show nI (9 * t) + nI 5 = nI (9 * t + 5) from nI_add _ _]
  refine va_sld hx hb hX hbl hbA hS (vp_in_nI (show 9 * t + 5 < L by omega) (by omega)) dL_law_1307 ?_
  rw [show (nI (9 * t + 5)).toNatClampNeg = 9 * t + 5 from nI_clamp (show 9 * t + 5 < 2 ^ 31 by omega)]
  refine lv_i2l (v := (xs (9 * t + 5)).toInt64) hx hb dL_law_1308 rfl ?_
  refine lv_bipush (v := (nI 32)) hx hb dL_law_1309 (by decide) ?_
  refine lv_lshl (v := ((xs (9 * t + 5)).toInt64 <<< ((nI 32).toInt64 &&& 63))) hx hb dL_law_1311 rfl ?_
  refine lv_aload_n hx hb dL_law_1312 rfl (lv_at hl 1 rfl) ?_
  refine lv_iload hx hb dL_law_1313 (lv_at hl 5 rfl) ?_
  refine lv_bipush (v := (nI 6)) hx hb dL_law_1315 (by decide) ?_
  refine lv_iadd hx hb dL_law_1317 ?_
  rw [show nI (9 * t) + nI 6 = nI (9 * t + 6) from nI_add _ _]
  refine va_sld hx hb hX hbl hbA hS (vp_in_nI (show 9 * t + 6 < L by omega) (by omega)) dL_law_1318 ?_
  rw [show (nI (9 * t + 6)).toNatClampNeg = 9 * t + 6 from nI_clamp (show 9 * t + 6 < 2 ^ 31 by omega)]
  refine lv_i2l (v := (xs (9 * t + 6)).toInt64) hx hb dL_law_1319 rfl ?_
  refine lv_ldc2 hx hb hown (hts (.constantLong RL 81 (4294967295)) (by decide +kernel)) dL_law_1320 ?_
  refine lv_land hx hb dL_law_1323 ?_
  refine lv_lor hx hb dL_law_1324 ?_
  refine lv_aload_n hx hb dL_law_1325 rfl (lv_at hl 1 rfl) ?_
  refine lv_iload hx hb dL_law_1326 (lv_at hl 5 rfl) ?_
  refine lv_bipush (v := (nI 7)) hx hb dL_law_1328 (by decide) ?_
  refine lv_iadd hx hb dL_law_1330 ?_
  rw [show nI (9 * t) + nI 7 = nI (9 * t + 7) from nI_add _ _]
  refine va_sld hx hb hX hbl hbA hS (vp_in_nI (show 9 * t + 7 < L by omega) (by omega)) dL_law_1331 ?_
  rw [show (nI (9 * t + 7)).toNatClampNeg = 9 * t + 7 from nI_clamp (show 9 * t + 7 < 2 ^ 31 by omega)]
  refine lv_i2l (v := (xs (9 * t + 7)).toInt64) hx hb dL_law_1332 rfl ?_
  refine lv_bipush (v := (nI 32)) hx hb dL_law_1333 (by decide) ?_
  refine lv_lshl (v := ((xs (9 * t + 7)).toInt64 <<< ((nI 32).toInt64 &&& 63))) hx hb dL_law_1335 rfl ?_
  refine lv_aload_n hx hb dL_law_1336 rfl (lv_at hl 1 rfl) ?_
  refine lv_iload hx hb dL_law_1337 (lv_at hl 5 rfl) ?_
  refine lv_bipush (v := (nI 8)) hx hb dL_law_1339 (by decide) ?_
  refine lv_iadd hx hb dL_law_1341 ?_
  rw [show nI (9 * t) + nI 8 = nI (9 * t + 8) from nI_add _ _]
  refine va_sld hx hb hX hbl hbA hS (vp_in_nI (show 9 * t + 8 < L by omega) (by omega)) dL_law_1342 ?_
  rw [show (nI (9 * t + 8)).toNatClampNeg = 9 * t + 8 from nI_clamp (show 9 * t + 8 < 2 ^ 31 by omega)]
  refine lv_i2l (v := (xs (9 * t + 8)).toInt64) hx hb dL_law_1343 rfl ?_
  refine lv_ldc2 hx hb hown (hts (.constantLong RL 81 (4294967295)) (by decide +kernel)) dL_law_1344 ?_
  refine lv_land hx hb dL_law_1347 ?_
  refine lv_lor hx hb dL_law_1348 ?_
  refine gVi (ci := 5) (q0 := 2) (As := [.long (lJ (xs (9 * t + 1)) (xs (9 * t + 2))), .long (lJ (xs (9 * t + 3)) (xs (9 * t + 4))), .long (lJ (xs (9 * t + 5)) (xs (9 * t + 6))), .long (lJ (xs (9 * t + 7)) (xs (9 * t + 8)))]) (rest := []) ⟨hx, hb, hml, hown, htl⟩ (hM f1 c1 hps) (cwV 4 htl gL_law_X5_player rfl rfl rfl (by decide +kernel) ⟨Nat.le_of_ble_eq_true rfl, Nat.le_of_ble_eq_true rfl⟩) hP hD hA hS hK rfl rfl rfl rfl hl.1 (Nat.le_of_ble_eq_true rfl) dL_law_1349 ⟨(show KC + t + 1 + 0 ≤ 601024 by omega), (show KS + 6 * t + 6 + 0 ≤ 7293034 by omega)⟩ (fun rb B2 H locs hq hP hD hS => ?_)
  obtain ⟨bb, rfl, e1, z1, rfl, hz, hR1⟩ := hq
  refine lv_istore (lv' := [(6, .int (bI bb)), (5, .int (nI k)), (0, .ref b), (1, .ref ob), (2, .ref om), (3, .ref out), (4, .int (nI (9 * t)))]) hx hb dL_law_1352 hl (by decide) rfl (fun ls hl => ?_)
  refine lv_aload_n hx hb dL_law_1354 rfl (lv_at hl 4 rfl) ?_
  refine gVi (ci := 5) (q0 := 2) (As := []) (rest := []) ⟨hx, hb, hml, hown, htl⟩ (thrownG l dC dI cJ cI cZ cH cB cT out ob om ahl abl asr pb atr tb mt fhl fbl ftr hA_ bA_ tA_ apx apy act asd amv asl apl asw aor aon atw aup alw f1 c1 k e1 z1) (cwV 0 htl gL_law_X5_thrown rfl rfl rfl (by decide +kernel) ⟨Nat.le_of_ble_eq_true rfl, Nat.le_of_ble_eq_true rfl⟩) hP hD hA hS hK rfl rfl rfl rfl hl.1 (Nat.le_of_ble_eq_true rfl) dL_law_1355 ⟨(show KC + t + 1 + 0 ≤ 601024 by omega), (show KS + 6 * t + 6 + 0 ≤ 7293034 by omega)⟩ (fun rt B2 H locs hq hP hD hS => ?_)
  obtain ⟨rfl, rfl⟩ := hq
  refine lv_iload hx hb dL_law_1358 (lv_at hl 1 rfl) ?_
  refine lv_icmp_eq (tgt := 1365) hx hb dL_law_1360 (by decide) (fun _ => ?_) (fun z => absurd rfl z)
  refine lv_iload hx hb dL_law_1365 (lv_at hl 1 rfl) ?_
  refine lv_if_ne (tgt := 1389) hx hb dL_law_1367 (by decide) (fun _ => ?_) (fun z => ?_)
  · refine lv_goto (tgt := 1669) hx hb dL_law_1389 (by decide) ?_
    exact (W.eqC (show KC + t + 1 = KC + (t + 1) by omega) (show KS + 6 * t + 6 = KS + 6 * (t + 1) by omega) (kk f1 c1 k e1 z1 _ _ _ hR1 hP hD hS (lv_sub hl [2, 3, 4, 5, 6] rfl)))
  · have hk0 : k = 0 := nI_z hk4 z
    have hz := hz hk0
    refine lv_aload_n hx hb dL_law_1370 rfl (lv_at hl 5 rfl) ?_
    refine lv_iconst (v := (nI 0)) hx hb dL_law_1371 (by decide) ?_
    refine va_lald hx hb hK hP 0 0 rfl rfl (vp_in_nI (show 0 < 1 by omega) (by omega)) dL_law_1372 ?_
    rw [show (nI 0).toNatClampNeg = 0 from nI_clamp (show 0 < 2 ^ 31 by omega)]
    refine lv_iload hx hb dL_law_1373 (lv_at hl 0 rfl) ?_
    refine lv_if_eq (tgt := 1382) hx hb dL_law_1375 (by decide) (fun cz => ?_) (fun cz => ?_)
    · have hbb : bb = false := bI_0 cz
      subst hbb
      refine lv_lconst (v := 0) hx hb dL_law_1382 (by decide) ?_
      refine W.lcmp hx hb dL_law_1383 ?_
      refine lv_if_eq (tgt := 1389) hx hb dL_law_1384 (by decide) (fun cq => ?_) (fun cq => ?_)
      · refine lv_goto (tgt := 1669) hx hb dL_law_1389 (by decide) ?_
        exact (W.eqC (show KC + t + 1 = KC + (t + 1) by omega) (show KS + 6 * t + 6 = KS + 6 * (t + 1) by omega) (kk f1 c1 k e1 z1 _ _ _ hR1 hP hD hS (lv_sub hl [2, 3, 4, 5, 6] rfl)))
      · rw [lg_cmp_eq] at cq; exact absurd hz cq
    · have hbb : bb = true := bI_n cz
      subst hbb
      refine lv_lconst (v := 1) hx hb dL_law_1378 (by decide) ?_
      refine lv_goto (tgt := 1383) hx hb dL_law_1379 (by decide) ?_
      refine W.lcmp hx hb dL_law_1383 ?_
      refine lv_if_eq (tgt := 1389) hx hb dL_law_1384 (by decide) (fun cq => ?_) (fun cq => ?_)
      · refine lv_goto (tgt := 1669) hx hb dL_law_1389 (by decide) ?_
        exact (W.eqC (show KC + t + 1 = KC + (t + 1) by omega) (show KS + 6 * t + 6 = KS + 6 * (t + 1) by omega) (kk f1 c1 k e1 z1 _ _ _ hR1 hP hD hS (lv_sub hl [2, 3, 4, 5, 6] rfl)))
      · rw [lg_cmp_eq] at cq; exact absurd hz cq
set_option maxHeartbeats 4000000 in
set_option maxRecDepth 100000 in
theorem law_step {p : Program} {l : Launch} {e : Env} {s : State} {m : MethodId} {below : List Frame} {meth : Method} {c : Code} {b L : Nat} {xs : Nat → Int32} (dC : Nat → ClassId) (dI : Nat → Nat → Nat) (cJ cI cZ cH cB cT : ClassId) (out ob om ahl abl asr pb atr tb mt : Nat) (fhl fbl ftr : Nat → Option Nat) (hA_ : Nat → Nat × Nat × Nat × Nat × Nat) (bA_ tA_ : Nat → Nat) (apx apy act asd amv asl apl asw aor aon atw aup alw : Nat) (KC KS : Nat) (hKC : KC + 600 ≤ 601024) (hKS : KS + 3600 ≤ 7293034) (hL : L ≤ 4608) (C0 : lw_At p s m meth c b L xs) (hst : l.stackTraces = false) (hT : tS (fun q : Nat => s.heap.size ≤ q) s) (hnc : ncS s) (hlk : (∀ j, j < 16 → fhl j = some (hA_ j).1) ∧ (∀ j, j < 16 → fbl j = some (bA_ j)) ∧ (∀ j, j < 8 → ftr j = some (tA_ j))) (hK : va_K (dC, dI) vwCl (tysL cJ cI cZ cH cB cT) s) (t : Nat) (ht : 9 * t + 9 ≤ L) (fo : Nat → Int64) (cc_ : CD) (cd : Nat) (ee : ED) (zz : ZD) (hR : RC cc_ ee) (H : Heap) (locs : List Loc) (ls : Array Slot) (hP : va_P (dC, dI) vwCl (LWd cJ cI cZ cH cB cT out ob om ahl abl asr pb atr tb mt fhl fbl ftr hA_ bA_ tA_ apx apy act asd amv asl apl asw aor aon atw aup alw fo cc_ cd ee zz) H) (hD : va_D (fun q : Nat => s.heap.size ≤ q) (LWd cJ cI cZ cH cB cT out ob om ahl abl asr pb atr tb mt fhl fbl ftr hA_ bA_ tA_ apx apy act asd amv asl apl asw aor aon atw aup alw fo cc_ cd ee zz)) (hS : va_S (fun q : Nat => s.heap.size ≤ q) s.heap H locs) (hl : lv_has ls 8 [(0, .ref b), (1, .ref ob), (2, .ref om), (3, .ref out), (4, .int (nI (9 * t)))]) (kk : ∀ (f1 : Nat → Int64) (c1 : CD) (cd1 : Nat) (e1 : ED) (z1 : ZD) (H : Heap) (locs : List Loc) (ls : Array Slot), RC c1 e1 → va_P (dC, dI) vwCl (LWd cJ cI cZ cH cB cT out ob om ahl abl asr pb atr tb mt fhl fbl ftr hA_ bA_ tA_ apx apy act asd amv asl apl asw aor aon atw aup alw f1 c1 cd1 e1 z1) H → va_D (fun q : Nat => s.heap.size ≤ q) (LWd cJ cI cZ cH cB cT out ob om ahl abl asr pb atr tb mt fhl fbl ftr hA_ bA_ tA_ apx apy act asd amv asl apl asw aor aon atw aup alw f1 c1 cd1 e1 z1) → va_S (fun q : Nat => s.heap.size ≤ q) s.heap H locs → lv_has ls 8 [(0, .ref b), (1, .ref ob), (2, .ref om), (3, .ref out), (4, .int (nI (9 * t)))] → W p l e room_1 s m #[Value.ref b] below meth c H locs (KC + (t + 1)) (KS + 6 * (t + 1)) (lw_Z below #[Value.ref b] s) (F0 m 1669 ls [])) : W p l e room_1 s m #[Value.ref b] below meth c H locs (KC + t) (KS + 6 * t) (lw_Z below #[Value.ref b] s) (F0 m 1392 ls []) := by
  obtain ⟨hx, hb, hr, hml, hown, hts, hX, hbl, hlocks, hgv⟩ := C0
  have hA : ∀ q : Nat, s.heap.size ≤ q → (fun q : Nat => s.heap.size ≤ q) q := fun _ h => h
  have hbA : ¬ (fun q : Nat => s.heap.size ≤ q) b := Nat.not_le.mpr hbl
  have htl : ∀ w ∈ wsL_law, w.before #[Value.ref b] s = true := fun w h => hts w (wsL_law_in w h)
  have htt : t ≤ 512 := by omega
  obtain ⟨nh, kb, nt, hd, hf, bd, fsr, ⟨px0, py0, px1, py1, pdx, pdy⟩, ⟨tx0, ty0, tx1, ty1, tdx, tdy⟩, ⟨mu, ml, meu, mel, mbar⟩, ft⟩ := cc_
  obtain ⟨ns, fpx, fpy, ct, nb, fsd, fmv, fsl, fpl, fsw, nw⟩ := ee
  obtain ⟨nc, od, fon, ftw, mx, my, fup, flw, nm, up, lo, rx, ry⟩ := zz
  refine lv_aload_n hx hb dL_law_1392 rfl (lv_at hl 1 rfl) ?_
  refine lv_aload_n hx hb dL_law_1393 rfl (lv_at hl 0 rfl) ?_
  refine lv_iload hx hb dL_law_1394 (lv_at hl 4 rfl) ?_
  refine lv_iconst (v := (nI 1)) hx hb dL_law_1396 (by decide) ?_
  refine lv_iadd hx hb dL_law_1397 ?_
  rw [show nI (9 * t) + nI 1 = nI (9 * t + 1) from nI_add _ _]
  refine va_sld hx hb hX hbl hbA hS (vp_in_nI (show 9 * t + 1 < L by omega) (by omega)) dL_law_1398 ?_
  rw [show (nI (9 * t + 1)).toNatClampNeg = 9 * t + 1 from nI_clamp (show 9 * t + 1 < 2 ^ 31 by omega)]
  refine lv_i2l (v := (xs (9 * t + 1)).toInt64) hx hb dL_law_1399 rfl ?_
  refine lv_bipush (v := (nI 32)) hx hb dL_law_1400 (by decide) ?_
  refine lv_lshl (v := ((xs (9 * t + 1)).toInt64 <<< ((nI 32).toInt64 &&& 63))) hx hb dL_law_1402 rfl ?_
  refine lv_aload_n hx hb dL_law_1403 rfl (lv_at hl 0 rfl) ?_
  refine lv_iload hx hb dL_law_1404 (lv_at hl 4 rfl) ?_
  refine lv_iconst (v := (nI 2)) hx hb dL_law_1406 (by decide) ?_
  refine lv_iadd hx hb dL_law_1407 ?_
  rw [show nI (9 * t) + nI 2 = nI (9 * t + 2) from nI_add _ _]
  refine va_sld hx hb hX hbl hbA hS (vp_in_nI (show 9 * t + 2 < L by omega) (by omega)) dL_law_1408 ?_
  rw [show (nI (9 * t + 2)).toNatClampNeg = 9 * t + 2 from nI_clamp (show 9 * t + 2 < 2 ^ 31 by omega)]
  refine lv_i2l (v := (xs (9 * t + 2)).toInt64) hx hb dL_law_1409 rfl ?_
  refine lv_ldc2 hx hb hown (hts (.constantLong RL 81 (4294967295)) (by decide +kernel)) dL_law_1410 ?_
  refine lv_land hx hb dL_law_1413 ?_
  refine lv_lor hx hb dL_law_1414 ?_
  refine lv_aload_n hx hb dL_law_1415 rfl (lv_at hl 0 rfl) ?_
  refine lv_iload hx hb dL_law_1416 (lv_at hl 4 rfl) ?_
  refine lv_iconst (v := (nI 3)) hx hb dL_law_1418 (by decide) ?_
  refine lv_iadd hx hb dL_law_1419 ?_
  rw [show nI (9 * t) + nI 3 = nI (9 * t + 3) from nI_add _ _]
  refine va_sld hx hb hX hbl hbA hS (vp_in_nI (show 9 * t + 3 < L by omega) (by omega)) dL_law_1420 ?_
  rw [show (nI (9 * t + 3)).toNatClampNeg = 9 * t + 3 from nI_clamp (show 9 * t + 3 < 2 ^ 31 by omega)]
  refine lv_i2l (v := (xs (9 * t + 3)).toInt64) hx hb dL_law_1421 rfl ?_
  refine lv_bipush (v := (nI 32)) hx hb dL_law_1422 (by decide) ?_
  refine lv_lshl (v := ((xs (9 * t + 3)).toInt64 <<< ((nI 32).toInt64 &&& 63))) hx hb dL_law_1424 rfl ?_
  refine lv_aload_n hx hb dL_law_1425 rfl (lv_at hl 0 rfl) ?_
  refine lv_iload hx hb dL_law_1426 (lv_at hl 4 rfl) ?_
  refine lv_iconst (v := (nI 4)) hx hb dL_law_1428 (by decide) ?_
  refine lv_iadd hx hb dL_law_1429 ?_
  rw [show nI (9 * t) + nI 4 = nI (9 * t + 4) from nI_add _ _]
  refine va_sld hx hb hX hbl hbA hS (vp_in_nI (show 9 * t + 4 < L by omega) (by omega)) dL_law_1430 ?_
  rw [show (nI (9 * t + 4)).toNatClampNeg = 9 * t + 4 from nI_clamp (show 9 * t + 4 < 2 ^ 31 by omega)]
  refine lv_i2l (v := (xs (9 * t + 4)).toInt64) hx hb dL_law_1431 rfl ?_
  refine lv_ldc2 hx hb hown (hts (.constantLong RL 81 (4294967295)) (by decide +kernel)) dL_law_1432 ?_
  refine lv_land hx hb dL_law_1435 ?_
  refine lv_lor hx hb dL_law_1436 ?_
  refine lv_aload_n hx hb dL_law_1437 rfl (lv_at hl 0 rfl) ?_
  refine lv_iload hx hb dL_law_1438 (lv_at hl 4 rfl) ?_
  refine lv_iconst (v := (nI 5)) hx hb dL_law_1440 (by decide) ?_
  refine lv_iadd hx hb dL_law_1441 ?_
  rw [show nI (9 * t) + nI 5 = nI (9 * t + 5) from nI_add _ _]
  refine va_sld hx hb hX hbl hbA hS (vp_in_nI (show 9 * t + 5 < L by omega) (by omega)) dL_law_1442 ?_
  rw [show (nI (9 * t + 5)).toNatClampNeg = 9 * t + 5 from nI_clamp (show 9 * t + 5 < 2 ^ 31 by omega)]
  refine lv_aload_n hx hb dL_law_1443 rfl (lv_at hl 3 rfl) ?_
  obtain ⟨k, Ps, hk4, hH, hM⟩ := J_step l dC dI cJ cI cZ cH cB cT out ob om ahl abl asr pb atr tb mt fhl fbl ftr hA_ bA_ tA_ apx apy act asd amv asl apl asw aor aon atw aup alw fo nh kb nt hd hf bd fsr px0 py0 px1 py1 pdx pdy tx0 ty0 tx1 ty1 tdx tdy mu ml meu mel mbar ft cd ns fpx fpy ct nb fsd fmv fsl fpl fsw nw nc od fon ftw mx my fup flw nm up lo rx ry (lJ (xs (9 * t + 1)) (xs (9 * t + 2))) (lJ (xs (9 * t + 3)) (xs (9 * t + 4))) (xs (9 * t + 5)) hst hlk hR
  refine gSH (As := [.ref ob, .long (lJ (xs (9 * t + 1)) (xs (9 * t + 2))), .long (lJ (xs (9 * t + 3)) (xs (9 * t + 4))), .int (xs (9 * t + 5)), .ref out]) (rest := []) ⟨hx, hb, hml, hown, htl⟩ hH (vx_cwSW 5 htl gL_law_L_step rfl rfl rfl (by decide +kernel) ⟨Nat.le_of_ble_eq_true rfl, Nat.le_of_ble_eq_true rfl⟩) hP hD hA hS hK hT hnc rfl rfl hl.1 (Nat.le_of_ble_eq_true rfl) dL_law_1444 ⟨(show KC + t + 1 ≤ 601024 by omega), (show KS + 6 * t + 6 ≤ 7293034 by omega)⟩ (fun r B2 H locs hq hP hD hS => ?_)
  obtain ⟨rfl, f1, c1, hps, rfl⟩ := hq
  refine lv_istore (lv' := [(5, .int (nI k)), (0, .ref b), (1, .ref ob), (2, .ref om), (3, .ref out), (4, .int (nI (9 * t)))]) hx hb dL_law_1447 hl (by decide) rfl (fun ls hl => ?_)
  refine lv_aload_n hx hb dL_law_1449 rfl (lv_at hl 3 rfl) ?_
  refine lv_aload_n hx hb dL_law_1450 rfl (lv_at hl 1 rfl) ?_
  refine lv_iload hx hb dL_law_1451 (lv_at hl 5 rfl) ?_
  refine lv_iconst (v := (nI 1)) hx hb dL_law_1453 (by decide) ?_
  refine lv_iadd hx hb dL_law_1454 ?_
  rw [show nI (9 * t) + nI 1 = nI (9 * t + 1) from nI_add _ _]
  refine va_sld hx hb hX hbl hbA hS (vp_in_nI (show 9 * t + 1 < L by omega) (by omega)) dL_law_1455 ?_
  rw [show (nI (9 * t + 1)).toNatClampNeg = 9 * t + 1 from nI_clamp (show 9 * t + 1 < 2 ^ 31 by omega)]
  refine lv_i2l (v := (xs (9 * t + 1)).toInt64) hx hb dL_law_1456 rfl ?_
  refine lv_bipush (v := (nI 32)) hx hb dL_law_1457 (by decide) ?_
  refine lv_lshl (v := ((xs (9 * t + 1)).toInt64 <<< ((nI 32).toInt64 &&& 63))) hx hb dL_law_1459 rfl ?_
  refine lv_aload_n hx hb dL_law_1460 rfl (lv_at hl 1 rfl) ?_
  refine lv_iload hx hb dL_law_1461 (lv_at hl 5 rfl) ?_
  refine lv_iconst (v := (nI 2)) hx hb dL_law_1463 (by decide) ?_
  refine lv_iadd hx hb dL_law_1464 ?_
  rw [show nI (9 * t) + nI 2 = nI (9 * t + 2) from nI_add _ _]
  refine va_sld hx hb hX hbl hbA hS (vp_in_nI (show 9 * t + 2 < L by omega) (by omega)) dL_law_1465 ?_
  rw [show (nI (9 * t + 2)).toNatClampNeg = 9 * t + 2 from nI_clamp (show 9 * t + 2 < 2 ^ 31 by omega)]
  refine lv_i2l (v := (xs (9 * t + 2)).toInt64) hx hb dL_law_1466 rfl ?_
  refine lv_ldc2 hx hb hown (hts (.constantLong RL 81 (4294967295)) (by decide +kernel)) dL_law_1467 ?_
  refine lv_land hx hb dL_law_1470 ?_
  refine lv_lor hx hb dL_law_1471 ?_
  refine lv_aload_n hx hb dL_law_1472 rfl (lv_at hl 1 rfl) ?_
  refine lv_iload hx hb dL_law_1473 (lv_at hl 5 rfl) ?_
  refine lv_iconst (v := (nI 3)) hx hb dL_law_1475 (by decide) ?_
  refine lv_iadd hx hb dL_law_1476 ?_
  rw [show nI (9 * t) + nI 3 = nI (9 * t + 3) from nI_add _ _]
  refine va_sld hx hb hX hbl hbA hS (vp_in_nI (show 9 * t + 3 < L by omega) (by omega)) dL_law_1477 ?_
  rw [show (nI (9 * t + 3)).toNatClampNeg = 9 * t + 3 from nI_clamp (show 9 * t + 3 < 2 ^ 31 by omega)]
  refine lv_i2l (v := (xs (9 * t + 3)).toInt64) hx hb dL_law_1478 rfl ?_
  refine lv_bipush (v := (nI 32)) hx hb dL_law_1479 (by decide) ?_
  refine lv_lshl (v := ((xs (9 * t + 3)).toInt64 <<< ((nI 32).toInt64 &&& 63))) hx hb dL_law_1481 rfl ?_
  refine lv_aload_n hx hb dL_law_1482 rfl (lv_at hl 1 rfl) ?_
  refine lv_iload hx hb dL_law_1483 (lv_at hl 5 rfl) ?_
  refine lv_iconst (v := (nI 4)) hx hb dL_law_1485 (by decide) ?_
  refine lv_iadd hx hb dL_law_1486 ?_
  rw [show nI (9 * t) + nI 4 = nI (9 * t + 4) from nI_add _ _]
  refine va_sld hx hb hX hbl hbA hS (vp_in_nI (show 9 * t + 4 < L by omega) (by omega)) dL_law_1487 ?_
  rw [show (nI (9 * t + 4)).toNatClampNeg = 9 * t + 4 from nI_clamp (show 9 * t + 4 < 2 ^ 31 by omega)]
  refine lv_i2l (v := (xs (9 * t + 4)).toInt64) hx hb dL_law_1488 rfl ?_
  refine lv_ldc2 hx hb hown (hts (.constantLong RL 81 (4294967295)) (by decide +kernel)) dL_law_1489 ?_
  refine lv_land hx hb dL_law_1492 ?_
  refine lv_lor hx hb dL_law_1493 ?_
  refine lv_aload_n hx hb dL_law_1494 rfl (lv_at hl 1 rfl) ?_
  refine lv_iload hx hb dL_law_1495 (lv_at hl 5 rfl) ?_
  refine lv_iconst (v := (nI 5)) hx hb dL_law_1497 (by decide) ?_
  refine lv_iadd hx hb dL_law_1498 ?_
  rw [show nI (9 * t) + nI 5 = nI (9 * t + 5) from nI_add _ _]
  refine va_sld hx hb hX hbl hbA hS (vp_in_nI (show 9 * t + 5 < L by omega) (by omega)) dL_law_1499 ?_
  rw [show (nI (9 * t + 5)).toNatClampNeg = 9 * t + 5 from nI_clamp (show 9 * t + 5 < 2 ^ 31 by omega)]
  refine gVi (ci := 5) (q0 := 2) (As := [.long (lJ (xs (9 * t + 1)) (xs (9 * t + 2))), .long (lJ (xs (9 * t + 3)) (xs (9 * t + 4))), .int (xs (9 * t + 5))]) (rest := []) ⟨hx, hb, hml, hown, htl⟩ (hM f1 c1 hps) (cwV 3 htl gL_law_X5_step rfl rfl rfl (by decide +kernel) ⟨Nat.le_of_ble_eq_true rfl, Nat.le_of_ble_eq_true rfl⟩) hP hD hA hS hK rfl rfl rfl rfl hl.1 (Nat.le_of_ble_eq_true rfl) dL_law_1500 ⟨(show KC + t + 1 + 0 ≤ 601024 by omega), (show KS + 6 * t + 6 + 0 ≤ 7293034 by omega)⟩ (fun rb B2 H locs hq hP hD hS => ?_)
  obtain ⟨e1, z1, rfl, hz, hR1⟩ := hq
  refine lv_istore (lv' := [(6, .int rb), (5, .int (nI k)), (0, .ref b), (1, .ref ob), (2, .ref om), (3, .ref out), (4, .int (nI (9 * t)))]) hx hb dL_law_1503 hl (by decide) rfl (fun ls hl => ?_)
  refine lv_aload_n hx hb dL_law_1505 rfl (lv_at hl 4 rfl) ?_
  refine gVi (ci := 5) (q0 := 2) (As := []) (rest := []) ⟨hx, hb, hml, hown, htl⟩ (thrownG l dC dI cJ cI cZ cH cB cT out ob om ahl abl asr pb atr tb mt fhl fbl ftr hA_ bA_ tA_ apx apy act asd amv asl apl asw aor aon atw aup alw f1 c1 k e1 z1) (cwV 0 htl gL_law_X5_thrown rfl rfl rfl (by decide +kernel) ⟨Nat.le_of_ble_eq_true rfl, Nat.le_of_ble_eq_true rfl⟩) hP hD hA hS hK rfl rfl rfl rfl hl.1 (Nat.le_of_ble_eq_true rfl) dL_law_1506 ⟨(show KC + t + 1 + 0 ≤ 601024 by omega), (show KS + 6 * t + 6 + 0 ≤ 7293034 by omega)⟩ (fun rt B2 H locs hq hP hD hS => ?_)
  obtain ⟨rfl, rfl⟩ := hq
  refine lv_iload hx hb dL_law_1509 (lv_at hl 1 rfl) ?_
  refine lv_icmp_eq (tgt := 1516) hx hb dL_law_1511 (by decide) (fun _ => ?_) (fun z => absurd rfl z)
  refine lv_iload hx hb dL_law_1516 (lv_at hl 1 rfl) ?_
  refine lv_if_ne (tgt := 1533) hx hb dL_law_1518 (by decide) (fun _ => ?_) (fun z => ?_)
  · refine lv_goto (tgt := 1669) hx hb dL_law_1533 (by decide) ?_
    exact (W.eqC (show KC + t + 1 = KC + (t + 1) by omega) (show KS + 6 * t + 6 = KS + 6 * (t + 1) by omega) (kk f1 c1 k e1 z1 _ _ _ hR1 hP hD hS (lv_sub hl [2, 3, 4, 5, 6] rfl)))
  · have hk0 : k = 0 := nI_z hk4 z
    have hz := hz hk0
    refine lv_aload_n hx hb dL_law_1521 rfl (lv_at hl 5 rfl) ?_
    refine lv_iconst (v := (nI 0)) hx hb dL_law_1522 (by decide) ?_
    refine va_lald hx hb hK hP 0 0 rfl rfl (vp_in_nI (show 0 < 1 by omega) (by omega)) dL_law_1523 ?_
    rw [show (nI 0).toNatClampNeg = 0 from nI_clamp (show 0 < 2 ^ 31 by omega)]
    refine lv_iload hx hb dL_law_1524 (lv_at hl 0 rfl) ?_
    refine lv_i2l (v := rb.toInt64) hx hb dL_law_1526 rfl ?_
    refine W.lcmp hx hb dL_law_1527 ?_
    refine lv_if_eq (tgt := 1533) hx hb dL_law_1528 (by decide) (fun cq => ?_) (fun cq => ?_)
    · refine lv_goto (tgt := 1669) hx hb dL_law_1533 (by decide) ?_
      exact (W.eqC (show KC + t + 1 = KC + (t + 1) by omega) (show KS + 6 * t + 6 = KS + 6 * (t + 1) by omega) (kk f1 c1 k e1 z1 _ _ _ hR1 hP hD hS (lv_sub hl [2, 3, 4, 5, 6] rfl)))
    · rw [lg_cmp_eq] at cq; exact absurd hz cq
set_option maxHeartbeats 4000000 in
set_option maxRecDepth 100000 in
theorem law_at {p : Program} {l : Launch} {e : Env} {s : State} {m : MethodId} {below : List Frame} {meth : Method} {c : Code} {b L : Nat} {xs : Nat → Int32} (dC : Nat → ClassId) (dI : Nat → Nat → Nat) (cJ cI cZ cH cB cT : ClassId) (out ob om ahl abl asr pb atr tb mt : Nat) (fhl fbl ftr : Nat → Option Nat) (hA_ : Nat → Nat × Nat × Nat × Nat × Nat) (bA_ tA_ : Nat → Nat) (apx apy act asd amv asl apl asw aor aon atw aup alw : Nat) (KC KS : Nat) (hKC : KC + 600 ≤ 601024) (hKS : KS + 3600 ≤ 7293034) (hL : L ≤ 4608) (C0 : lw_At p s m meth c b L xs) (hst : l.stackTraces = false) (hT : tS (fun q : Nat => s.heap.size ≤ q) s) (hnc : ncS s) (hlk : (∀ j, j < 16 → fhl j = some (hA_ j).1) ∧ (∀ j, j < 16 → fbl j = some (bA_ j)) ∧ (∀ j, j < 8 → ftr j = some (tA_ j))) (hK : va_K (dC, dI) vwCl (tysL cJ cI cZ cH cB cT) s) (t : Nat) (ht : 9 * t + 9 ≤ L) (fo : Nat → Int64) (cc_ : CD) (cd : Nat) (ee : ED) (zz : ZD) (hR : RC cc_ ee) (H : Heap) (locs : List Loc) (ls : Array Slot) (hP : va_P (dC, dI) vwCl (LWd cJ cI cZ cH cB cT out ob om ahl abl asr pb atr tb mt fhl fbl ftr hA_ bA_ tA_ apx apy act asd amv asl apl asw aor aon atw aup alw fo cc_ cd ee zz) H) (hD : va_D (fun q : Nat => s.heap.size ≤ q) (LWd cJ cI cZ cH cB cT out ob om ahl abl asr pb atr tb mt fhl fbl ftr hA_ bA_ tA_ apx apy act asd amv asl apl asw aor aon atw aup alw fo cc_ cd ee zz)) (hS : va_S (fun q : Nat => s.heap.size ≤ q) s.heap H locs) (hl : lv_has ls 8 [(0, .ref b), (1, .ref ob), (2, .ref om), (3, .ref out), (4, .int (nI (9 * t)))]) (kk : ∀ (f1 : Nat → Int64) (c1 : CD) (cd1 : Nat) (e1 : ED) (z1 : ZD) (H : Heap) (locs : List Loc) (ls : Array Slot), RC c1 e1 → va_P (dC, dI) vwCl (LWd cJ cI cZ cH cB cT out ob om ahl abl asr pb atr tb mt fhl fbl ftr hA_ bA_ tA_ apx apy act asd amv asl apl asw aor aon atw aup alw f1 c1 cd1 e1 z1) H → va_D (fun q : Nat => s.heap.size ≤ q) (LWd cJ cI cZ cH cB cT out ob om ahl abl asr pb atr tb mt fhl fbl ftr hA_ bA_ tA_ apx apy act asd amv asl apl asw aor aon atw aup alw f1 c1 cd1 e1 z1) → va_S (fun q : Nat => s.heap.size ≤ q) s.heap H locs → lv_has ls 8 [(0, .ref b), (1, .ref ob), (2, .ref om), (3, .ref out), (4, .int (nI (9 * t)))] → W p l e room_1 s m #[Value.ref b] below meth c H locs (KC + (t + 1)) (KS + 6 * (t + 1)) (lw_Z below #[Value.ref b] s) (F0 m 1669 ls [])) : W p l e room_1 s m #[Value.ref b] below meth c H locs (KC + t) (KS + 6 * t) (lw_Z below #[Value.ref b] s) (F0 m 1536 ls []) := by
  obtain ⟨hx, hb, hr, hml, hown, hts, hX, hbl, hlocks, hgv⟩ := C0
  have hA : ∀ q : Nat, s.heap.size ≤ q → (fun q : Nat => s.heap.size ≤ q) q := fun _ h => h
  have hbA : ¬ (fun q : Nat => s.heap.size ≤ q) b := Nat.not_le.mpr hbl
  have htl : ∀ w ∈ wsL_law, w.before #[Value.ref b] s = true := fun w h => hts w (wsL_law_in w h)
  have htt : t ≤ 512 := by omega
  obtain ⟨nh, kb, nt, hd, hf, bd, fsr, ⟨px0, py0, px1, py1, pdx, pdy⟩, ⟨tx0, ty0, tx1, ty1, tdx, tdy⟩, ⟨mu, ml, meu, mel, mbar⟩, ft⟩ := cc_
  obtain ⟨ns, fpx, fpy, ct, nb, fsd, fmv, fsl, fpl, fsw, nw⟩ := ee
  obtain ⟨nc, od, fon, ftw, mx, my, fup, flw, nm, up, lo, rx, ry⟩ := zz
  refine lv_aload_n hx hb dL_law_1536 rfl (lv_at hl 1 rfl) ?_
  refine lv_aload_n hx hb dL_law_1537 rfl (lv_at hl 0 rfl) ?_
  refine lv_iload hx hb dL_law_1538 (lv_at hl 4 rfl) ?_
  refine lv_iconst (v := (nI 1)) hx hb dL_law_1540 (by decide) ?_
  refine lv_iadd hx hb dL_law_1541 ?_
  rw [show nI (9 * t) + nI 1 = nI (9 * t + 1) from nI_add _ _]
  refine va_sld hx hb hX hbl hbA hS (vp_in_nI (show 9 * t + 1 < L by omega) (by omega)) dL_law_1542 ?_
  rw [show (nI (9 * t + 1)).toNatClampNeg = 9 * t + 1 from nI_clamp (show 9 * t + 1 < 2 ^ 31 by omega)]
  refine lv_aload_n hx hb dL_law_1543 rfl (lv_at hl 3 rfl) ?_
  obtain ⟨k, Ps, hk4, hH, hM⟩ := J_at l dC dI cJ cI cZ cH cB cT out ob om ahl abl asr pb atr tb mt fhl fbl ftr hA_ bA_ tA_ apx apy act asd amv asl apl asw aor aon atw aup alw fo nh kb nt hd hf bd fsr px0 py0 px1 py1 pdx pdy tx0 ty0 tx1 ty1 tdx tdy mu ml meu mel mbar ft cd ns fpx fpy ct nb fsd fmv fsl fpl fsw nw nc od fon ftw mx my fup flw nm up lo rx ry (xs (9 * t + 1)) hst hlk hR
  refine gSH (As := [.ref ob, .int (xs (9 * t + 1)), .ref out]) (rest := []) ⟨hx, hb, hml, hown, htl⟩ hH (vx_cwSW 3 htl gL_law_L_at rfl rfl rfl (by decide +kernel) ⟨Nat.le_of_ble_eq_true rfl, Nat.le_of_ble_eq_true rfl⟩) hP hD hA hS hK hT hnc rfl rfl hl.1 (Nat.le_of_ble_eq_true rfl) dL_law_1544 ⟨(show KC + t + 1 ≤ 601024 by omega), (show KS + 6 * t + 6 ≤ 7293034 by omega)⟩ (fun r B2 H locs hq hP hD hS => ?_)
  obtain ⟨rfl, f1, c1, hps, rfl⟩ := hq
  refine lv_istore (lv' := [(5, .int (nI k)), (0, .ref b), (1, .ref ob), (2, .ref om), (3, .ref out), (4, .int (nI (9 * t)))]) hx hb dL_law_1547 hl (by decide) rfl (fun ls hl => ?_)
  refine lv_aload_n hx hb dL_law_1549 rfl (lv_at hl 3 rfl) ?_
  refine lv_aload_n hx hb dL_law_1550 rfl (lv_at hl 1 rfl) ?_
  refine lv_iload hx hb dL_law_1551 (lv_at hl 5 rfl) ?_
  refine lv_iconst (v := (nI 1)) hx hb dL_law_1553 (by decide) ?_
  refine lv_iadd hx hb dL_law_1554 ?_
  rw [show nI (9 * t) + nI 1 = nI (9 * t + 1) from nI_add _ _]
  refine va_sld hx hb hX hbl hbA hS (vp_in_nI (show 9 * t + 1 < L by omega) (by omega)) dL_law_1555 ?_
  rw [show (nI (9 * t + 1)).toNatClampNeg = 9 * t + 1 from nI_clamp (show 9 * t + 1 < 2 ^ 31 by omega)]
  refine gVl (ci := 5) (q0 := 2) (As := [.int (xs (9 * t + 1))]) (rest := []) ⟨hx, hb, hml, hown, htl⟩ (hM f1 c1 hps) (cwV 1 htl gL_law_X5_at rfl rfl rfl (by decide +kernel) ⟨Nat.le_of_ble_eq_true rfl, Nat.le_of_ble_eq_true rfl⟩) hP hD hA hS hK rfl rfl rfl rfl hl.1 (Nat.le_of_ble_eq_true rfl) dL_law_1556 ⟨(show KC + t + 1 + 0 ≤ 601024 by omega), (show KS + 6 * t + 6 + 0 ≤ 7293034 by omega)⟩ (fun rb B2 H locs hq hP hD hS => ?_)
  obtain ⟨e1, z1, rfl, hz, hR1⟩ := hq
  refine lv_lstore (lv' := [(6, .long rb), (5, .int (nI k)), (0, .ref b), (1, .ref ob), (2, .ref om), (3, .ref out), (4, .int (nI (9 * t)))]) hx hb dL_law_1559 hl (by decide) rfl (fun ls hl => ?_)
  refine lv_aload_n hx hb dL_law_1561 rfl (lv_at hl 4 rfl) ?_
  refine gVi (ci := 5) (q0 := 2) (As := []) (rest := []) ⟨hx, hb, hml, hown, htl⟩ (thrownG l dC dI cJ cI cZ cH cB cT out ob om ahl abl asr pb atr tb mt fhl fbl ftr hA_ bA_ tA_ apx apy act asd amv asl apl asw aor aon atw aup alw f1 c1 k e1 z1) (cwV 0 htl gL_law_X5_thrown rfl rfl rfl (by decide +kernel) ⟨Nat.le_of_ble_eq_true rfl, Nat.le_of_ble_eq_true rfl⟩) hP hD hA hS hK rfl rfl rfl rfl hl.1 (Nat.le_of_ble_eq_true rfl) dL_law_1562 ⟨(show KC + t + 1 + 0 ≤ 601024 by omega), (show KS + 6 * t + 6 + 0 ≤ 7293034 by omega)⟩ (fun rt B2 H locs hq hP hD hS => ?_)
  obtain ⟨rfl, rfl⟩ := hq
  refine lv_iload hx hb dL_law_1565 (lv_at hl 1 rfl) ?_
  refine lv_icmp_eq (tgt := 1572) hx hb dL_law_1567 (by decide) (fun _ => ?_) (fun z => absurd rfl z)
  refine lv_iload hx hb dL_law_1572 (lv_at hl 1 rfl) ?_
  refine lv_if_ne (tgt := 1588) hx hb dL_law_1574 (by decide) (fun _ => ?_) (fun z => ?_)
  · refine lv_goto (tgt := 1669) hx hb dL_law_1588 (by decide) ?_
    exact (W.eqC (show KC + t + 1 = KC + (t + 1) by omega) (show KS + 6 * t + 6 = KS + 6 * (t + 1) by omega) (kk f1 c1 k e1 z1 _ _ _ hR1 hP hD hS (lv_sub hl [2, 3, 4, 5, 6] rfl)))
  · have hk0 : k = 0 := nI_z hk4 z
    have hz := hz hk0
    refine lv_aload_n hx hb dL_law_1577 rfl (lv_at hl 5 rfl) ?_
    refine lv_iconst (v := (nI 0)) hx hb dL_law_1578 (by decide) ?_
    refine va_lald hx hb hK hP 0 0 rfl rfl (vp_in_nI (show 0 < 1 by omega) (by omega)) dL_law_1579 ?_
    rw [show (nI 0).toNatClampNeg = 0 from nI_clamp (show 0 < 2 ^ 31 by omega)]
    refine lv_lload hx hb dL_law_1580 (lv_at hl 0 rfl) ?_
    refine W.lcmp hx hb dL_law_1582 ?_
    refine lv_if_eq (tgt := 1588) hx hb dL_law_1583 (by decide) (fun cq => ?_) (fun cq => ?_)
    · refine lv_goto (tgt := 1669) hx hb dL_law_1588 (by decide) ?_
      exact (W.eqC (show KC + t + 1 = KC + (t + 1) by omega) (show KS + 6 * t + 6 = KS + 6 * (t + 1) by omega) (kk f1 c1 k e1 z1 _ _ _ hR1 hP hD hS (lv_sub hl [2, 3, 4, 5, 6] rfl)))
    · rw [lg_cmp_eq] at cq; exact absurd hz cq
set_option maxHeartbeats 4000000 in
set_option maxRecDepth 100000 in
theorem law_sweep {p : Program} {l : Launch} {e : Env} {s : State} {m : MethodId} {below : List Frame} {meth : Method} {c : Code} {b L : Nat} {xs : Nat → Int32} (dC : Nat → ClassId) (dI : Nat → Nat → Nat) (cJ cI cZ cH cB cT : ClassId) (out ob om ahl abl asr pb atr tb mt : Nat) (fhl fbl ftr : Nat → Option Nat) (hA_ : Nat → Nat × Nat × Nat × Nat × Nat) (bA_ tA_ : Nat → Nat) (apx apy act asd amv asl apl asw aor aon atw aup alw : Nat) (KC KS : Nat) (hKC : KC + 600 ≤ 601024) (hKS : KS + 3600 ≤ 7293034) (hL : L ≤ 4608) (C0 : lw_At p s m meth c b L xs) (hst : l.stackTraces = false) (hT : tS (fun q : Nat => s.heap.size ≤ q) s) (hnc : ncS s) (hlk : (∀ j, j < 16 → fhl j = some (hA_ j).1) ∧ (∀ j, j < 16 → fbl j = some (bA_ j)) ∧ (∀ j, j < 8 → ftr j = some (tA_ j))) (hK : va_K (dC, dI) vwCl (tysL cJ cI cZ cH cB cT) s) (t : Nat) (ht : 9 * t + 9 ≤ L) (fo : Nat → Int64) (cc_ : CD) (cd : Nat) (ee : ED) (zz : ZD) (hR : RC cc_ ee) (H : Heap) (locs : List Loc) (ls : Array Slot) (hP : va_P (dC, dI) vwCl (LWd cJ cI cZ cH cB cT out ob om ahl abl asr pb atr tb mt fhl fbl ftr hA_ bA_ tA_ apx apy act asd amv asl apl asw aor aon atw aup alw fo cc_ cd ee zz) H) (hD : va_D (fun q : Nat => s.heap.size ≤ q) (LWd cJ cI cZ cH cB cT out ob om ahl abl asr pb atr tb mt fhl fbl ftr hA_ bA_ tA_ apx apy act asd amv asl apl asw aor aon atw aup alw fo cc_ cd ee zz)) (hS : va_S (fun q : Nat => s.heap.size ≤ q) s.heap H locs) (hl : lv_has ls 8 [(0, .ref b), (1, .ref ob), (2, .ref om), (3, .ref out), (4, .int (nI (9 * t)))]) (kk : ∀ (f1 : Nat → Int64) (c1 : CD) (cd1 : Nat) (e1 : ED) (z1 : ZD) (H : Heap) (locs : List Loc) (ls : Array Slot), RC c1 e1 → va_P (dC, dI) vwCl (LWd cJ cI cZ cH cB cT out ob om ahl abl asr pb atr tb mt fhl fbl ftr hA_ bA_ tA_ apx apy act asd amv asl apl asw aor aon atw aup alw f1 c1 cd1 e1 z1) H → va_D (fun q : Nat => s.heap.size ≤ q) (LWd cJ cI cZ cH cB cT out ob om ahl abl asr pb atr tb mt fhl fbl ftr hA_ bA_ tA_ apx apy act asd amv asl apl asw aor aon atw aup alw f1 c1 cd1 e1 z1) → va_S (fun q : Nat => s.heap.size ≤ q) s.heap H locs → lv_has ls 8 [(0, .ref b), (1, .ref ob), (2, .ref om), (3, .ref out), (4, .int (nI (9 * t)))] → W p l e room_1 s m #[Value.ref b] below meth c H locs (KC + (t + 1)) (KS + 6 * (t + 1)) (lw_Z below #[Value.ref b] s) (F0 m 1669 ls [])) : W p l e room_1 s m #[Value.ref b] below meth c H locs (KC + t) (KS + 6 * t) (lw_Z below #[Value.ref b] s) (F0 m 1591 ls []) := by
  obtain ⟨hx, hb, hr, hml, hown, hts, hX, hbl, hlocks, hgv⟩ := C0
  have hA : ∀ q : Nat, s.heap.size ≤ q → (fun q : Nat => s.heap.size ≤ q) q := fun _ h => h
  have hbA : ¬ (fun q : Nat => s.heap.size ≤ q) b := Nat.not_le.mpr hbl
  have htl : ∀ w ∈ wsL_law, w.before #[Value.ref b] s = true := fun w h => hts w (wsL_law_in w h)
  have htt : t ≤ 512 := by omega
  obtain ⟨nh, kb, nt, hd, hf, bd, fsr, ⟨px0, py0, px1, py1, pdx, pdy⟩, ⟨tx0, ty0, tx1, ty1, tdx, tdy⟩, ⟨mu, ml, meu, mel, mbar⟩, ft⟩ := cc_
  obtain ⟨ns, fpx, fpy, ct, nb, fsd, fmv, fsl, fpl, fsw, nw⟩ := ee
  obtain ⟨nc, od, fon, ftw, mx, my, fup, flw, nm, up, lo, rx, ry⟩ := zz
  refine lv_aload_n hx hb dL_law_1591 rfl (lv_at hl 1 rfl) ?_
  refine lv_aload_n hx hb dL_law_1592 rfl (lv_at hl 0 rfl) ?_
  refine lv_iload hx hb dL_law_1593 (lv_at hl 4 rfl) ?_
  refine lv_iconst (v := (nI 1)) hx hb dL_law_1595 (by decide) ?_
  refine lv_iadd hx hb dL_law_1596 ?_
  rw [show nI (9 * t) + nI 1 = nI (9 * t + 1) from nI_add _ _]
  refine va_sld hx hb hX hbl hbA hS (vp_in_nI (show 9 * t + 1 < L by omega) (by omega)) dL_law_1597 ?_
  rw [show (nI (9 * t + 1)).toNatClampNeg = 9 * t + 1 from nI_clamp (show 9 * t + 1 < 2 ^ 31 by omega)]
  refine lv_aload_n hx hb dL_law_1598 rfl (lv_at hl 0 rfl) ?_
  refine lv_iload hx hb dL_law_1599 (lv_at hl 4 rfl) ?_
  refine lv_iconst (v := (nI 2)) hx hb dL_law_1601 (by decide) ?_
  refine lv_iadd hx hb dL_law_1602 ?_
  rw [show nI (9 * t) + nI 2 = nI (9 * t + 2) from nI_add _ _]
  refine va_sld hx hb hX hbl hbA hS (vp_in_nI (show 9 * t + 2 < L by omega) (by omega)) dL_law_1603 ?_
  rw [show (nI (9 * t + 2)).toNatClampNeg = 9 * t + 2 from nI_clamp (show 9 * t + 2 < 2 ^ 31 by omega)]
  refine lv_aload_n hx hb dL_law_1604 rfl (lv_at hl 3 rfl) ?_
  obtain ⟨k, Ps, hk4, hH, hM⟩ := J_sweep l dC dI cJ cI cZ cH cB cT out ob om ahl abl asr pb atr tb mt fhl fbl ftr hA_ bA_ tA_ apx apy act asd amv asl apl asw aor aon atw aup alw fo nh kb nt hd hf bd fsr px0 py0 px1 py1 pdx pdy tx0 ty0 tx1 ty1 tdx tdy mu ml meu mel mbar ft cd ns fpx fpy ct nb fsd fmv fsl fpl fsw nw nc od fon ftw mx my fup flw nm up lo rx ry (xs (9 * t + 1)) (xs (9 * t + 2)) hst hlk hR
  refine gSH (As := [.ref ob, .int (xs (9 * t + 1)), .int (xs (9 * t + 2)), .ref out]) (rest := []) ⟨hx, hb, hml, hown, htl⟩ hH (vx_cwSW 4 htl gL_law_L_sweep rfl rfl rfl (by decide +kernel) ⟨Nat.le_of_ble_eq_true rfl, Nat.le_of_ble_eq_true rfl⟩) hP hD hA hS hK hT hnc rfl rfl hl.1 (Nat.le_of_ble_eq_true rfl) dL_law_1605 ⟨(show KC + t + 1 ≤ 601024 by omega), (show KS + 6 * t + 6 ≤ 7293034 by omega)⟩ (fun r B2 H locs hq hP hD hS => ?_)
  obtain ⟨rfl, f1, c1, hps, rfl⟩ := hq
  refine lv_istore (lv' := [(5, .int (nI k)), (0, .ref b), (1, .ref ob), (2, .ref om), (3, .ref out), (4, .int (nI (9 * t)))]) hx hb dL_law_1608 hl (by decide) rfl (fun ls hl => ?_)
  refine lv_aload_n hx hb dL_law_1610 rfl (lv_at hl 3 rfl) ?_
  refine lv_aload_n hx hb dL_law_1611 rfl (lv_at hl 1 rfl) ?_
  refine lv_iload hx hb dL_law_1612 (lv_at hl 5 rfl) ?_
  refine lv_iconst (v := (nI 1)) hx hb dL_law_1614 (by decide) ?_
  refine lv_iadd hx hb dL_law_1615 ?_
  rw [show nI (9 * t) + nI 1 = nI (9 * t + 1) from nI_add _ _]
  refine va_sld hx hb hX hbl hbA hS (vp_in_nI (show 9 * t + 1 < L by omega) (by omega)) dL_law_1616 ?_
  rw [show (nI (9 * t + 1)).toNatClampNeg = 9 * t + 1 from nI_clamp (show 9 * t + 1 < 2 ^ 31 by omega)]
  refine lv_aload_n hx hb dL_law_1617 rfl (lv_at hl 1 rfl) ?_
  refine lv_iload hx hb dL_law_1618 (lv_at hl 5 rfl) ?_
  refine lv_iconst (v := (nI 2)) hx hb dL_law_1620 (by decide) ?_
  refine lv_iadd hx hb dL_law_1621 ?_
  rw [show nI (9 * t) + nI 2 = nI (9 * t + 2) from nI_add _ _]
  refine va_sld hx hb hX hbl hbA hS (vp_in_nI (show 9 * t + 2 < L by omega) (by omega)) dL_law_1622 ?_
  rw [show (nI (9 * t + 2)).toNatClampNeg = 9 * t + 2 from nI_clamp (show 9 * t + 2 < 2 ^ 31 by omega)]
  refine gVl (ci := 5) (q0 := 2) (As := [.int (xs (9 * t + 1)), .int (xs (9 * t + 2))]) (rest := []) ⟨hx, hb, hml, hown, htl⟩ (hM f1 c1 hps) (cwV 2 htl gL_law_X5_sweep rfl rfl rfl (by decide +kernel) ⟨Nat.le_of_ble_eq_true rfl, Nat.le_of_ble_eq_true rfl⟩) hP hD hA hS hK rfl rfl rfl rfl hl.1 (Nat.le_of_ble_eq_true rfl) dL_law_1623 ⟨(show KC + t + 1 + 0 ≤ 601024 by omega), (show KS + 6 * t + 6 + 0 ≤ 7293034 by omega)⟩ (fun rb B2 H locs hq hP hD hS => ?_)
  obtain ⟨e1, z1, rfl, hz, hR1⟩ := hq
  refine lv_lstore (lv' := [(6, .long rb), (5, .int (nI k)), (0, .ref b), (1, .ref ob), (2, .ref om), (3, .ref out), (4, .int (nI (9 * t)))]) hx hb dL_law_1626 hl (by decide) rfl (fun ls hl => ?_)
  refine lv_aload_n hx hb dL_law_1628 rfl (lv_at hl 4 rfl) ?_
  refine gVi (ci := 5) (q0 := 2) (As := []) (rest := []) ⟨hx, hb, hml, hown, htl⟩ (thrownG l dC dI cJ cI cZ cH cB cT out ob om ahl abl asr pb atr tb mt fhl fbl ftr hA_ bA_ tA_ apx apy act asd amv asl apl asw aor aon atw aup alw f1 c1 k e1 z1) (cwV 0 htl gL_law_X5_thrown rfl rfl rfl (by decide +kernel) ⟨Nat.le_of_ble_eq_true rfl, Nat.le_of_ble_eq_true rfl⟩) hP hD hA hS hK rfl rfl rfl rfl hl.1 (Nat.le_of_ble_eq_true rfl) dL_law_1629 ⟨(show KC + t + 1 + 0 ≤ 601024 by omega), (show KS + 6 * t + 6 + 0 ≤ 7293034 by omega)⟩ (fun rt B2 H locs hq hP hD hS => ?_)
  obtain ⟨rfl, rfl⟩ := hq
  refine lv_iload hx hb dL_law_1632 (lv_at hl 1 rfl) ?_
  refine lv_icmp_eq (tgt := 1639) hx hb dL_law_1634 (by decide) (fun _ => ?_) (fun z => absurd rfl z)
  refine lv_iload hx hb dL_law_1639 (lv_at hl 1 rfl) ?_
  refine lv_if_ne (tgt := 1655) hx hb dL_law_1641 (by decide) (fun _ => ?_) (fun z => ?_)
  · refine lv_goto (tgt := 1669) hx hb dL_law_1655 (by decide) ?_
    exact (W.eqC (show KC + t + 1 = KC + (t + 1) by omega) (show KS + 6 * t + 6 = KS + 6 * (t + 1) by omega) (kk f1 c1 k e1 z1 _ _ _ hR1 hP hD hS (lv_sub hl [2, 3, 4, 5, 6] rfl)))
  · have hk0 : k = 0 := nI_z hk4 z
    have hz := hz hk0
    refine lv_aload_n hx hb dL_law_1644 rfl (lv_at hl 5 rfl) ?_
    refine lv_iconst (v := (nI 0)) hx hb dL_law_1645 (by decide) ?_
    refine va_lald hx hb hK hP 0 0 rfl rfl (vp_in_nI (show 0 < 1 by omega) (by omega)) dL_law_1646 ?_
    rw [show (nI 0).toNatClampNeg = 0 from nI_clamp (show 0 < 2 ^ 31 by omega)]
    refine lv_lload hx hb dL_law_1647 (lv_at hl 0 rfl) ?_
    refine W.lcmp hx hb dL_law_1649 ?_
    refine lv_if_eq (tgt := 1655) hx hb dL_law_1650 (by decide) (fun cq => ?_) (fun cq => ?_)
    · refine lv_goto (tgt := 1669) hx hb dL_law_1655 (by decide) ?_
      exact (W.eqC (show KC + t + 1 = KC + (t + 1) by omega) (show KS + 6 * t + 6 = KS + 6 * (t + 1) by omega) (kk f1 c1 k e1 z1 _ _ _ hR1 hP hD hS (lv_sub hl [2, 3, 4, 5, 6] rfl)))
    · rw [lg_cmp_eq] at cq; exact absurd hz cq
