set_option maxHeartbeats 4000000 in
set_option maxRecDepth 100000 in
theorem law_shape {p : Program} {l : Launch} {e : Env} {s : State} {m : MethodId} {below : List Frame} {meth : Method} {c : Code} {b L : Nat} {xs : Nat → Int32} (dC : Nat → ClassId) (dI : Nat → Nat → Nat) (cJ cI cZ cH cB cT : ClassId) (out ob om ahl abl asr pb atr tb mt : Nat) (fhl fbl ftr : Nat → Option Nat) (hA_ : Nat → Nat × Nat × Nat × Nat × Nat) (bA_ tA_ : Nat → Nat) (apx apy act asd amv asl apl asw aor aon atw aup alw : Nat) (KC KS : Nat) (hKC : KC + 600 ≤ 601024) (hKS : KS + 3600 ≤ 7293034) (hL : L ≤ 4608) (C0 : lw_At p s m meth c b L xs) (hst : l.stackTraces = false) (hT : tS (fun q : Nat => s.heap.size ≤ q) s) (hnc : ncS s) (hlk : (∀ j, j < 16 → fhl j = some (hA_ j).1) ∧ (∀ j, j < 16 → fbl j = some (bA_ j)) ∧ (∀ j, j < 8 → ftr j = some (tA_ j))) (hK : va_K (dC, dI) vwCl (tysL cJ cI cZ cH cB cT) s) (t : Nat) (ht : 9 * t + 9 ≤ L) (fo : Nat → Int64) (cc_ : CD) (cd : Nat) (ee : ED) (zz : ZD) (hR : RC cc_ ee) (H : Heap) (locs : List Loc) (ls : Array Slot) (hP : va_P (dC, dI) vwCl (LWd cJ cI cZ cH cB cT out ob om ahl abl asr pb atr tb mt fhl fbl ftr hA_ bA_ tA_ apx apy act asd amv asl apl asw aor aon atw aup alw fo cc_ cd ee zz) H) (hD : va_D (fun q : Nat => s.heap.size ≤ q) (LWd cJ cI cZ cH cB cT out ob om ahl abl asr pb atr tb mt fhl fbl ftr hA_ bA_ tA_ apx apy act asd amv asl apl asw aor aon atw aup alw fo cc_ cd ee zz)) (hS : va_S (fun q : Nat => s.heap.size ≤ q) s.heap H locs) (hl : lv_has ls 8 [(0, .ref b), (1, .ref ob), (2, .ref om), (3, .ref out), (4, .int (nI (9 * t)))]) (kk : ∀ (f1 : Nat → Int64) (c1 : CD) (cd1 : Nat) (e1 : ED) (z1 : ZD) (H : Heap) (locs : List Loc) (ls : Array Slot), RC c1 e1 → va_P (dC, dI) vwCl (LWd cJ cI cZ cH cB cT out ob om ahl abl asr pb atr tb mt fhl fbl ftr hA_ bA_ tA_ apx apy act asd amv asl apl asw aor aon atw aup alw f1 c1 cd1 e1 z1) H → va_D (fun q : Nat => s.heap.size ≤ q) (LWd cJ cI cZ cH cB cT out ob om ahl abl asr pb atr tb mt fhl fbl ftr hA_ bA_ tA_ apx apy act asd amv asl apl asw aor aon atw aup alw f1 c1 cd1 e1 z1) → va_S (fun q : Nat => s.heap.size ≤ q) s.heap H locs → lv_has ls 8 [(0, .ref b), (1, .ref ob), (2, .ref om), (3, .ref out), (4, .int (nI (9 * t)))] → W p l e room_1 s m #[Value.ref b] below meth c H locs (KC + (t + 1)) (KS + 6 * (t + 1)) (lw_Z below #[Value.ref b] s) (F0 m 1669 ls [])) : W p l e room_1 s m #[Value.ref b] below meth c H locs (KC + t) (KS + 6 * t) (lw_Z below #[Value.ref b] s) (F0 m 116 ls []) := by
  obtain ⟨hx, hb, hr, hml, hown, hts, hX, hbl, hlocks, hgv⟩ := C0
  have hA : ∀ q : Nat, s.heap.size ≤ q → (fun q : Nat => s.heap.size ≤ q) q := fun _ h => h
  have hbA : ¬ (fun q : Nat => s.heap.size ≤ q) b := Nat.not_le.mpr hbl
  have htl : ∀ w ∈ wsL_law, w.before #[Value.ref b] s = true := fun w h => hts w (wsL_law_in w h)
  have htt : t ≤ 512 := by omega
  obtain ⟨nh, kb, nt, hd, hf, bd, fsr, ⟨px0, py0, px1, py1, pdx, pdy⟩, ⟨tx0, ty0, tx1, ty1, tdx, tdy⟩, ⟨mu, ml, meu, mel, mbar⟩, ft⟩ := cc_
  obtain ⟨ns, fpx, fpy, ct, nb, fsd, fmv, fsl, fpl, fsw, nw⟩ := ee
  obtain ⟨nc, od, fon, ftw, mx, my, fup, flw, nm, up, lo, rx, ry⟩ := zz
  refine lv_aload_n hx hb dL_law_116 rfl (lv_at hl 1 rfl) ?_
  refine lv_aload_n hx hb dL_law_117 rfl (lv_at hl 3 rfl) ?_
  obtain ⟨k, Ps, hk4, hH, hM⟩ := J_shape l dC dI cJ cI cZ cH cB cT out ob om ahl abl asr pb atr tb mt fhl fbl ftr hA_ bA_ tA_ apx apy act asd amv asl apl asw aor aon atw aup alw fo nh kb nt hd hf bd fsr px0 py0 px1 py1 pdx pdy tx0 ty0 tx1 ty1 tdx tdy mu ml meu mel mbar ft cd ns fpx fpy ct nb fsd fmv fsl fpl fsw nw nc od fon ftw mx my fup flw nm up lo rx ry  hst hlk hR
  refine gSH (As := [.ref ob, .ref out]) (rest := []) ⟨hx, hb, hml, hown, htl⟩ hH (vx_cwSW 2 htl gL_law_L_shape rfl rfl rfl (by decide +kernel) ⟨Nat.le_of_ble_eq_true rfl, Nat.le_of_ble_eq_true rfl⟩) hP hD hA hS hK hT hnc rfl rfl hl.1 (Nat.le_of_ble_eq_true rfl) dL_law_118 ⟨(show KC + t + 1 ≤ 601024 by omega), (show KS + 6 * t + 6 ≤ 7293034 by omega)⟩ (fun r B2 H locs hq hP hD hS => ?_)
  obtain ⟨rfl, f1, c1, hps, rfl⟩ := hq
  refine lv_istore (lv' := [(5, .int (nI k)), (0, .ref b), (1, .ref ob), (2, .ref om), (3, .ref out), (4, .int (nI (9 * t)))]) hx hb dL_law_121 hl (by decide) rfl (fun ls hl => ?_)
  refine lv_aload_n hx hb dL_law_123 rfl (lv_at hl 3 rfl) ?_
  refine gVi (ci := 5) (q0 := 2) (As := []) (rest := []) ⟨hx, hb, hml, hown, htl⟩ (hM f1 c1 hps) (cwV 0 htl gL_law_X5_shape rfl rfl rfl (by decide +kernel) ⟨Nat.le_of_ble_eq_true rfl, Nat.le_of_ble_eq_true rfl⟩) hP hD hA hS hK rfl rfl rfl rfl hl.1 (Nat.le_of_ble_eq_true rfl) dL_law_124 ⟨(show KC + t + 1 + 0 ≤ 601024 by omega), (show KS + 6 * t + 6 + 0 ≤ 7293034 by omega)⟩ (fun rb B2 H locs hq hP hD hS => ?_)
  obtain ⟨e1, z1, rfl, hz, hR1⟩ := hq
  refine lv_istore (lv' := [(6, .int rb), (5, .int (nI k)), (0, .ref b), (1, .ref ob), (2, .ref om), (3, .ref out), (4, .int (nI (9 * t)))]) hx hb dL_law_127 hl (by decide) rfl (fun ls hl => ?_)
  refine lv_aload_n hx hb dL_law_129 rfl (lv_at hl 4 rfl) ?_
  refine gVi (ci := 5) (q0 := 2) (As := []) (rest := []) ⟨hx, hb, hml, hown, htl⟩ (thrownG l dC dI cJ cI cZ cH cB cT out ob om ahl abl asr pb atr tb mt fhl fbl ftr hA_ bA_ tA_ apx apy act asd amv asl apl asw aor aon atw aup alw f1 c1 k e1 z1) (cwV 0 htl gL_law_X5_thrown rfl rfl rfl (by decide +kernel) ⟨Nat.le_of_ble_eq_true rfl, Nat.le_of_ble_eq_true rfl⟩) hP hD hA hS hK rfl rfl rfl rfl hl.1 (Nat.le_of_ble_eq_true rfl) dL_law_130 ⟨(show KC + t + 1 + 0 ≤ 601024 by omega), (show KS + 6 * t + 6 + 0 ≤ 7293034 by omega)⟩ (fun rt B2 H locs hq hP hD hS => ?_)
  obtain ⟨rfl, rfl⟩ := hq
  refine lv_iload hx hb dL_law_133 (lv_at hl 1 rfl) ?_
  refine lv_icmp_eq (tgt := 140) hx hb dL_law_135 (by decide) (fun _ => ?_) (fun z => absurd rfl z)
  refine lv_iload hx hb dL_law_140 (lv_at hl 1 rfl) ?_
  refine lv_if_ne (tgt := 157) hx hb dL_law_142 (by decide) (fun _ => ?_) (fun z => ?_)
  · refine lv_goto (tgt := 1669) hx hb dL_law_157 (by decide) ?_
    exact (W.eqC (show KC + t + 1 = KC + (t + 1) by omega) (show KS + 6 * t + 6 = KS + 6 * (t + 1) by omega) (kk f1 c1 k e1 z1 _ _ _ hR1 hP hD hS (lv_sub hl [2, 3, 4, 5, 6] rfl)))
  · have hk0 : k = 0 := nI_z hk4 z
    have hz := hz hk0
    refine lv_aload_n hx hb dL_law_145 rfl (lv_at hl 5 rfl) ?_
    refine lv_iconst (v := (nI 0)) hx hb dL_law_146 (by decide) ?_
    refine va_lald hx hb hK hP 0 0 rfl rfl (vp_in_nI (show 0 < 1 by omega) (by omega)) dL_law_147 ?_
    rw [show (nI 0).toNatClampNeg = 0 from nI_clamp (show 0 < 2 ^ 31 by omega)]
    refine lv_iload hx hb dL_law_148 (lv_at hl 0 rfl) ?_
    refine lv_i2l (v := rb.toInt64) hx hb dL_law_150 rfl ?_
    refine W.lcmp hx hb dL_law_151 ?_
    refine lv_if_eq (tgt := 157) hx hb dL_law_152 (by decide) (fun cq => ?_) (fun cq => ?_)
    · refine lv_goto (tgt := 1669) hx hb dL_law_157 (by decide) ?_
      exact (W.eqC (show KC + t + 1 = KC + (t + 1) by omega) (show KS + 6 * t + 6 = KS + 6 * (t + 1) by omega) (kk f1 c1 k e1 z1 _ _ _ hR1 hP hD hS (lv_sub hl [2, 3, 4, 5, 6] rfl)))
    · rw [lg_cmp_eq] at cq; exact absurd hz cq
set_option maxHeartbeats 4000000 in
set_option maxRecDepth 100000 in
theorem law_point {p : Program} {l : Launch} {e : Env} {s : State} {m : MethodId} {below : List Frame} {meth : Method} {c : Code} {b L : Nat} {xs : Nat → Int32} (dC : Nat → ClassId) (dI : Nat → Nat → Nat) (cJ cI cZ cH cB cT : ClassId) (out ob om ahl abl asr pb atr tb mt : Nat) (fhl fbl ftr : Nat → Option Nat) (hA_ : Nat → Nat × Nat × Nat × Nat × Nat) (bA_ tA_ : Nat → Nat) (apx apy act asd amv asl apl asw aor aon atw aup alw : Nat) (KC KS : Nat) (hKC : KC + 600 ≤ 601024) (hKS : KS + 3600 ≤ 7293034) (hL : L ≤ 4608) (C0 : lw_At p s m meth c b L xs) (hst : l.stackTraces = false) (hT : tS (fun q : Nat => s.heap.size ≤ q) s) (hnc : ncS s) (hlk : (∀ j, j < 16 → fhl j = some (hA_ j).1) ∧ (∀ j, j < 16 → fbl j = some (bA_ j)) ∧ (∀ j, j < 8 → ftr j = some (tA_ j))) (hK : va_K (dC, dI) vwCl (tysL cJ cI cZ cH cB cT) s) (t : Nat) (ht : 9 * t + 9 ≤ L) (fo : Nat → Int64) (cc_ : CD) (cd : Nat) (ee : ED) (zz : ZD) (hR : RC cc_ ee) (H : Heap) (locs : List Loc) (ls : Array Slot) (hP : va_P (dC, dI) vwCl (LWd cJ cI cZ cH cB cT out ob om ahl abl asr pb atr tb mt fhl fbl ftr hA_ bA_ tA_ apx apy act asd amv asl apl asw aor aon atw aup alw fo cc_ cd ee zz) H) (hD : va_D (fun q : Nat => s.heap.size ≤ q) (LWd cJ cI cZ cH cB cT out ob om ahl abl asr pb atr tb mt fhl fbl ftr hA_ bA_ tA_ apx apy act asd amv asl apl asw aor aon atw aup alw fo cc_ cd ee zz)) (hS : va_S (fun q : Nat => s.heap.size ≤ q) s.heap H locs) (hl : lv_has ls 8 [(0, .ref b), (1, .ref ob), (2, .ref om), (3, .ref out), (4, .int (nI (9 * t)))]) (kk : ∀ (f1 : Nat → Int64) (c1 : CD) (cd1 : Nat) (e1 : ED) (z1 : ZD) (H : Heap) (locs : List Loc) (ls : Array Slot), RC c1 e1 → va_P (dC, dI) vwCl (LWd cJ cI cZ cH cB cT out ob om ahl abl asr pb atr tb mt fhl fbl ftr hA_ bA_ tA_ apx apy act asd amv asl apl asw aor aon atw aup alw f1 c1 cd1 e1 z1) H → va_D (fun q : Nat => s.heap.size ≤ q) (LWd cJ cI cZ cH cB cT out ob om ahl abl asr pb atr tb mt fhl fbl ftr hA_ bA_ tA_ apx apy act asd amv asl apl asw aor aon atw aup alw f1 c1 cd1 e1 z1) → va_S (fun q : Nat => s.heap.size ≤ q) s.heap H locs → lv_has ls 8 [(0, .ref b), (1, .ref ob), (2, .ref om), (3, .ref out), (4, .int (nI (9 * t)))] → W p l e room_1 s m #[Value.ref b] below meth c H locs (KC + (t + 1)) (KS + 6 * (t + 1)) (lw_Z below #[Value.ref b] s) (F0 m 1669 ls [])) : W p l e room_1 s m #[Value.ref b] below meth c H locs (KC + t) (KS + 6 * t) (lw_Z below #[Value.ref b] s) (F0 m 160 ls []) := by
  obtain ⟨hx, hb, hr, hml, hown, hts, hX, hbl, hlocks, hgv⟩ := C0
  have hA : ∀ q : Nat, s.heap.size ≤ q → (fun q : Nat => s.heap.size ≤ q) q := fun _ h => h
  have hbA : ¬ (fun q : Nat => s.heap.size ≤ q) b := Nat.not_le.mpr hbl
  have htl : ∀ w ∈ wsL_law, w.before #[Value.ref b] s = true := fun w h => hts w (wsL_law_in w h)
  have htt : t ≤ 512 := by omega
  obtain ⟨nh, kb, nt, hd, hf, bd, fsr, ⟨px0, py0, px1, py1, pdx, pdy⟩, ⟨tx0, ty0, tx1, ty1, tdx, tdy⟩, ⟨mu, ml, meu, mel, mbar⟩, ft⟩ := cc_
  obtain ⟨ns, fpx, fpy, ct, nb, fsd, fmv, fsl, fpl, fsw, nw⟩ := ee
  obtain ⟨nc, od, fon, ftw, mx, my, fup, flw, nm, up, lo, rx, ry⟩ := zz
  refine lv_aload_n hx hb dL_law_160 rfl (lv_at hl 1 rfl) ?_
  refine lv_aload_n hx hb dL_law_161 rfl (lv_at hl 0 rfl) ?_
  refine lv_iload hx hb dL_law_162 (lv_at hl 4 rfl) ?_
  refine lv_iconst (v := (nI 1)) hx hb dL_law_164 (by decide) ?_
  refine lv_iadd hx hb dL_law_165 ?_
  rw [show nI (9 * t) + nI 1 = nI (9 * t + 1) from nI_add _ _]
  refine va_sld hx hb hX hbl hbA hS (vp_in_nI (show 9 * t + 1 < L by omega) (by omega)) dL_law_166 ?_
  rw [show (nI (9 * t + 1)).toNatClampNeg = 9 * t + 1 from nI_clamp (show 9 * t + 1 < 2 ^ 31 by omega)]
  refine lv_aload_n hx hb dL_law_167 rfl (lv_at hl 0 rfl) ?_
  refine lv_iload hx hb dL_law_168 (lv_at hl 4 rfl) ?_
  refine lv_iconst (v := (nI 2)) hx hb dL_law_170 (by decide) ?_
  refine lv_iadd hx hb dL_law_171 ?_
  rw [show nI (9 * t) + nI 2 = nI (9 * t + 2) from nI_add _ _]
  refine va_sld hx hb hX hbl hbA hS (vp_in_nI (show 9 * t + 2 < L by omega) (by omega)) dL_law_172 ?_
  rw [show (nI (9 * t + 2)).toNatClampNeg = 9 * t + 2 from nI_clamp (show 9 * t + 2 < 2 ^ 31 by omega)]
  refine lv_i2l (v := (xs (9 * t + 2)).toInt64) hx hb dL_law_173 rfl ?_
  refine lv_bipush (v := (nI 32)) hx hb dL_law_174 (by decide) ?_
  refine lv_lshl (v := ((xs (9 * t + 2)).toInt64 <<< ((nI 32).toInt64 &&& 63))) hx hb dL_law_176 rfl ?_
  refine lv_aload_n hx hb dL_law_177 rfl (lv_at hl 0 rfl) ?_
  refine lv_iload hx hb dL_law_178 (lv_at hl 4 rfl) ?_
  refine lv_iconst (v := (nI 3)) hx hb dL_law_180 (by decide) ?_
  refine lv_iadd hx hb dL_law_181 ?_
  rw [show nI (9 * t) + nI 3 = nI (9 * t + 3) from nI_add _ _]
  refine va_sld hx hb hX hbl hbA hS (vp_in_nI (show 9 * t + 3 < L by omega) (by omega)) dL_law_182 ?_
  rw [show (nI (9 * t + 3)).toNatClampNeg = 9 * t + 3 from nI_clamp (show 9 * t + 3 < 2 ^ 31 by omega)]
  refine lv_i2l (v := (xs (9 * t + 3)).toInt64) hx hb dL_law_183 rfl ?_
  refine lv_ldc2 hx hb hown (hts (.constantLong RL 81 (4294967295)) (by decide +kernel)) dL_law_184 ?_
  refine lv_land hx hb dL_law_187 ?_
  refine lv_lor hx hb dL_law_188 ?_
  refine lv_aload_n hx hb dL_law_189 rfl (lv_at hl 0 rfl) ?_
  refine lv_iload hx hb dL_law_190 (lv_at hl 4 rfl) ?_
  refine lv_iconst (v := (nI 4)) hx hb dL_law_192 (by decide) ?_
  refine lv_iadd hx hb dL_law_193 ?_
  rw [show nI (9 * t) + nI 4 = nI (9 * t + 4) from nI_add _ _]
  refine va_sld hx hb hX hbl hbA hS (vp_in_nI (show 9 * t + 4 < L by omega) (by omega)) dL_law_194 ?_
  rw [show (nI (9 * t + 4)).toNatClampNeg = 9 * t + 4 from nI_clamp (show 9 * t + 4 < 2 ^ 31 by omega)]
  refine lv_i2l (v := (xs (9 * t + 4)).toInt64) hx hb dL_law_195 rfl ?_
  refine lv_bipush (v := (nI 32)) hx hb dL_law_196 (by decide) ?_
  refine lv_lshl (v := ((xs (9 * t + 4)).toInt64 <<< ((nI 32).toInt64 &&& 63))) hx hb dL_law_198 rfl ?_
  refine lv_aload_n hx hb dL_law_199 rfl (lv_at hl 0 rfl) ?_
  refine lv_iload hx hb dL_law_200 (lv_at hl 4 rfl) ?_
  refine lv_iconst (v := (nI 5)) hx hb dL_law_202 (by decide) ?_
  refine lv_iadd hx hb dL_law_203 ?_
  rw [show nI (9 * t) + nI 5 = nI (9 * t + 5) from nI_add _ _]
  refine va_sld hx hb hX hbl hbA hS (vp_in_nI (show 9 * t + 5 < L by omega) (by omega)) dL_law_204 ?_
  rw [show (nI (9 * t + 5)).toNatClampNeg = 9 * t + 5 from nI_clamp (show 9 * t + 5 < 2 ^ 31 by omega)]
  refine lv_i2l (v := (xs (9 * t + 5)).toInt64) hx hb dL_law_205 rfl ?_
  refine lv_ldc2 hx hb hown (hts (.constantLong RL 81 (4294967295)) (by decide +kernel)) dL_law_206 ?_
  refine lv_land hx hb dL_law_209 ?_
  refine lv_lor hx hb dL_law_210 ?_
  refine lv_aload_n hx hb dL_law_211 rfl (lv_at hl 3 rfl) ?_
  obtain ⟨k, Ps, hk4, hH, hM⟩ := J_point l dC dI cJ cI cZ cH cB cT out ob om ahl abl asr pb atr tb mt fhl fbl ftr hA_ bA_ tA_ apx apy act asd amv asl apl asw aor aon atw aup alw fo nh kb nt hd hf bd fsr px0 py0 px1 py1 pdx pdy tx0 ty0 tx1 ty1 tdx tdy mu ml meu mel mbar ft cd ns fpx fpy ct nb fsd fmv fsl fpl fsw nw nc od fon ftw mx my fup flw nm up lo rx ry (xs (9 * t + 1)) (lJ (xs (9 * t + 2)) (xs (9 * t + 3))) (lJ (xs (9 * t + 4)) (xs (9 * t + 5))) hst hlk hR
  refine gSH (As := [.ref ob, .int (xs (9 * t + 1)), .long (lJ (xs (9 * t + 2)) (xs (9 * t + 3))), .long (lJ (xs (9 * t + 4)) (xs (9 * t + 5))), .ref out]) (rest := []) ⟨hx, hb, hml, hown, htl⟩ hH (vx_cwSW 5 htl gL_law_L_point rfl rfl rfl (by decide +kernel) ⟨Nat.le_of_ble_eq_true rfl, Nat.le_of_ble_eq_true rfl⟩) hP hD hA hS hK hT hnc rfl rfl hl.1 (Nat.le_of_ble_eq_true rfl) dL_law_212 ⟨(show KC + t + 1 ≤ 601024 by omega), (show KS + 6 * t + 6 ≤ 7293034 by omega)⟩ (fun r B2 H locs hq hP hD hS => ?_)
  obtain ⟨rfl, f1, c1, hps, rfl⟩ := hq
  refine lv_istore (lv' := [(5, .int (nI k)), (0, .ref b), (1, .ref ob), (2, .ref om), (3, .ref out), (4, .int (nI (9 * t)))]) hx hb dL_law_215 hl (by decide) rfl (fun ls hl => ?_)
  refine lv_aload_n hx hb dL_law_217 rfl (lv_at hl 3 rfl) ?_
  refine lv_aload_n hx hb dL_law_218 rfl (lv_at hl 1 rfl) ?_
  refine lv_iload hx hb dL_law_219 (lv_at hl 5 rfl) ?_
  refine lv_iconst (v := (nI 1)) hx hb dL_law_221 (by decide) ?_
  refine lv_iadd hx hb dL_law_222 ?_
  rw [show nI (9 * t) + nI 1 = nI (9 * t + 1) from nI_add _ _]
  refine va_sld hx hb hX hbl hbA hS (vp_in_nI (show 9 * t + 1 < L by omega) (by omega)) dL_law_223 ?_
  rw [show (nI (9 * t + 1)).toNatClampNeg = 9 * t + 1 from nI_clamp (show 9 * t + 1 < 2 ^ 31 by omega)]
  refine lv_aload_n hx hb dL_law_224 rfl (lv_at hl 1 rfl) ?_
  refine lv_iload hx hb dL_law_225 (lv_at hl 5 rfl) ?_
  refine lv_iconst (v := (nI 2)) hx hb dL_law_227 (by decide) ?_
  refine lv_iadd hx hb dL_law_228 ?_
  rw [show nI (9 * t) + nI 2 = nI (9 * t + 2) from nI_add _ _]
  refine va_sld hx hb hX hbl hbA hS (vp_in_nI (show 9 * t + 2 < L by omega) (by omega)) dL_law_229 ?_
  rw [show (nI (9 * t + 2)).toNatClampNeg = 9 * t + 2 from nI_clamp (show 9 * t + 2 < 2 ^ 31 by omega)]
  refine lv_i2l (v := (xs (9 * t + 2)).toInt64) hx hb dL_law_230 rfl ?_
  refine lv_bipush (v := (nI 32)) hx hb dL_law_231 (by decide) ?_
  refine lv_lshl (v := ((xs (9 * t + 2)).toInt64 <<< ((nI 32).toInt64 &&& 63))) hx hb dL_law_233 rfl ?_
  refine lv_aload_n hx hb dL_law_234 rfl (lv_at hl 1 rfl) ?_
  refine lv_iload hx hb dL_law_235 (lv_at hl 5 rfl) ?_
  refine lv_iconst (v := (nI 3)) hx hb dL_law_237 (by decide) ?_
  refine lv_iadd hx hb dL_law_238 ?_
  rw [show nI (9 * t) + nI 3 = nI (9 * t + 3) from nI_add _ _]
  refine va_sld hx hb hX hbl hbA hS (vp_in_nI (show 9 * t + 3 < L by omega) (by omega)) dL_law_239 ?_
  rw [show (nI (9 * t + 3)).toNatClampNeg = 9 * t + 3 from nI_clamp (show 9 * t + 3 < 2 ^ 31 by omega)]
  refine lv_i2l (v := (xs (9 * t + 3)).toInt64) hx hb dL_law_240 rfl ?_
  refine lv_ldc2 hx hb hown (hts (.constantLong RL 81 (4294967295)) (by decide +kernel)) dL_law_241 ?_
  refine lv_land hx hb dL_law_244 ?_
  refine lv_lor hx hb dL_law_245 ?_
  refine lv_aload_n hx hb dL_law_246 rfl (lv_at hl 1 rfl) ?_
  refine lv_iload hx hb dL_law_247 (lv_at hl 5 rfl) ?_
  refine lv_iconst (v := (nI 4)) hx hb dL_law_249 (by decide) ?_
  refine lv_iadd hx hb dL_law_250 ?_
  rw [show nI (9 * t) + nI 4 = nI (9 * t + 4) from nI_add _ _]
  refine va_sld hx hb hX hbl hbA hS (vp_in_nI (show 9 * t + 4 < L by omega) (by omega)) dL_law_251 ?_
  rw [show (nI (9 * t + 4)).toNatClampNeg = 9 * t + 4 from nI_clamp (show 9 * t + 4 < 2 ^ 31 by omega)]
  refine lv_i2l (v := (xs (9 * t + 4)).toInt64) hx hb dL_law_252 rfl ?_
  refine lv_bipush (v := (nI 32)) hx hb dL_law_253 (by decide) ?_
  refine lv_lshl (v := ((xs (9 * t + 4)).toInt64 <<< ((nI 32).toInt64 &&& 63))) hx hb dL_law_255 rfl ?_
  refine lv_aload_n hx hb dL_law_256 rfl (lv_at hl 1 rfl) ?_
  refine lv_iload hx hb dL_law_257 (lv_at hl 5 rfl) ?_
  refine lv_iconst (v := (nI 5)) hx hb dL_law_259 (by decide) ?_
  refine lv_iadd hx hb dL_law_260 ?_
  rw [show nI (9 * t) + nI 5 = nI (9 * t + 5) from nI_add _ _]
  refine va_sld hx hb hX hbl hbA hS (vp_in_nI (show 9 * t + 5 < L by omega) (by omega)) dL_law_261 ?_
  rw [show (nI (9 * t + 5)).toNatClampNeg = 9 * t + 5 from nI_clamp (show 9 * t + 5 < 2 ^ 31 by omega)]
  refine lv_i2l (v := (xs (9 * t + 5)).toInt64) hx hb dL_law_262 rfl ?_
  refine lv_ldc2 hx hb hown (hts (.constantLong RL 81 (4294967295)) (by decide +kernel)) dL_law_263 ?_
  refine lv_land hx hb dL_law_266 ?_
  refine lv_lor hx hb dL_law_267 ?_
  refine gVi (ci := 5) (q0 := 2) (As := [.int (xs (9 * t + 1)), .long (lJ (xs (9 * t + 2)) (xs (9 * t + 3))), .long (lJ (xs (9 * t + 4)) (xs (9 * t + 5)))]) (rest := []) ⟨hx, hb, hml, hown, htl⟩ (hM f1 c1 hps) (cwV 3 htl gL_law_X5_point rfl rfl rfl (by decide +kernel) ⟨Nat.le_of_ble_eq_true rfl, Nat.le_of_ble_eq_true rfl⟩) hP hD hA hS hK rfl rfl rfl rfl hl.1 (Nat.le_of_ble_eq_true rfl) dL_law_268 ⟨(show KC + t + 1 + 0 ≤ 601024 by omega), (show KS + 6 * t + 6 + 0 ≤ 7293034 by omega)⟩ (fun rb B2 H locs hq hP hD hS => ?_)
  obtain ⟨bb, rfl, e1, z1, rfl, hz, hR1⟩ := hq
  refine lv_istore (lv' := [(6, .int (bI bb)), (5, .int (nI k)), (0, .ref b), (1, .ref ob), (2, .ref om), (3, .ref out), (4, .int (nI (9 * t)))]) hx hb dL_law_271 hl (by decide) rfl (fun ls hl => ?_)
  refine lv_aload_n hx hb dL_law_273 rfl (lv_at hl 4 rfl) ?_
  refine gVi (ci := 5) (q0 := 2) (As := []) (rest := []) ⟨hx, hb, hml, hown, htl⟩ (thrownG l dC dI cJ cI cZ cH cB cT out ob om ahl abl asr pb atr tb mt fhl fbl ftr hA_ bA_ tA_ apx apy act asd amv asl apl asw aor aon atw aup alw f1 c1 k e1 z1) (cwV 0 htl gL_law_X5_thrown rfl rfl rfl (by decide +kernel) ⟨Nat.le_of_ble_eq_true rfl, Nat.le_of_ble_eq_true rfl⟩) hP hD hA hS hK rfl rfl rfl rfl hl.1 (Nat.le_of_ble_eq_true rfl) dL_law_274 ⟨(show KC + t + 1 + 0 ≤ 601024 by omega), (show KS + 6 * t + 6 + 0 ≤ 7293034 by omega)⟩ (fun rt B2 H locs hq hP hD hS => ?_)
  obtain ⟨rfl, rfl⟩ := hq
  refine lv_iload hx hb dL_law_277 (lv_at hl 1 rfl) ?_
  refine lv_icmp_eq (tgt := 284) hx hb dL_law_279 (by decide) (fun _ => ?_) (fun z => absurd rfl z)
  refine lv_iload hx hb dL_law_284 (lv_at hl 1 rfl) ?_
  refine lv_if_ne (tgt := 308) hx hb dL_law_286 (by decide) (fun _ => ?_) (fun z => ?_)
  · refine lv_goto (tgt := 1669) hx hb dL_law_308 (by decide) ?_
    exact (W.eqC (show KC + t + 1 = KC + (t + 1) by omega) (show KS + 6 * t + 6 = KS + 6 * (t + 1) by omega) (kk f1 c1 k e1 z1 _ _ _ hR1 hP hD hS (lv_sub hl [2, 3, 4, 5, 6] rfl)))
  · have hk0 : k = 0 := nI_z hk4 z
    have hz := hz hk0
    refine lv_aload_n hx hb dL_law_289 rfl (lv_at hl 5 rfl) ?_
    refine lv_iconst (v := (nI 0)) hx hb dL_law_290 (by decide) ?_
    refine va_lald hx hb hK hP 0 0 rfl rfl (vp_in_nI (show 0 < 1 by omega) (by omega)) dL_law_291 ?_
    rw [show (nI 0).toNatClampNeg = 0 from nI_clamp (show 0 < 2 ^ 31 by omega)]
    refine lv_iload hx hb dL_law_292 (lv_at hl 0 rfl) ?_
    refine lv_if_eq (tgt := 301) hx hb dL_law_294 (by decide) (fun cz => ?_) (fun cz => ?_)
    · have hbb : bb = false := bI_0 cz
      subst hbb
      refine lv_lconst (v := 0) hx hb dL_law_301 (by decide) ?_
      refine W.lcmp hx hb dL_law_302 ?_
      refine lv_if_eq (tgt := 308) hx hb dL_law_303 (by decide) (fun cq => ?_) (fun cq => ?_)
      · refine lv_goto (tgt := 1669) hx hb dL_law_308 (by decide) ?_
        exact (W.eqC (show KC + t + 1 = KC + (t + 1) by omega) (show KS + 6 * t + 6 = KS + 6 * (t + 1) by omega) (kk f1 c1 k e1 z1 _ _ _ hR1 hP hD hS (lv_sub hl [2, 3, 4, 5, 6] rfl)))
      · rw [lg_cmp_eq] at cq; exact absurd hz cq
    · have hbb : bb = true := bI_n cz
      subst hbb
      refine lv_lconst (v := 1) hx hb dL_law_297 (by decide) ?_
      refine lv_goto (tgt := 302) hx hb dL_law_298 (by decide) ?_
      refine W.lcmp hx hb dL_law_302 ?_
      refine lv_if_eq (tgt := 308) hx hb dL_law_303 (by decide) (fun cq => ?_) (fun cq => ?_)
      · refine lv_goto (tgt := 1669) hx hb dL_law_308 (by decide) ?_
        exact (W.eqC (show KC + t + 1 = KC + (t + 1) by omega) (show KS + 6 * t + 6 = KS + 6 * (t + 1) by omega) (kk f1 c1 k e1 z1 _ _ _ hR1 hP hD hS (lv_sub hl [2, 3, 4, 5, 6] rfl)))
      · rw [lg_cmp_eq] at cq; exact absurd hz cq
set_option maxHeartbeats 4000000 in
set_option maxRecDepth 100000 in
theorem law_corners {p : Program} {l : Launch} {e : Env} {s : State} {m : MethodId} {below : List Frame} {meth : Method} {c : Code} {b L : Nat} {xs : Nat → Int32} (dC : Nat → ClassId) (dI : Nat → Nat → Nat) (cJ cI cZ cH cB cT : ClassId) (out ob om ahl abl asr pb atr tb mt : Nat) (fhl fbl ftr : Nat → Option Nat) (hA_ : Nat → Nat × Nat × Nat × Nat × Nat) (bA_ tA_ : Nat → Nat) (apx apy act asd amv asl apl asw aor aon atw aup alw : Nat) (KC KS : Nat) (hKC : KC + 600 ≤ 601024) (hKS : KS + 3600 ≤ 7293034) (hL : L ≤ 4608) (C0 : lw_At p s m meth c b L xs) (hst : l.stackTraces = false) (hT : tS (fun q : Nat => s.heap.size ≤ q) s) (hnc : ncS s) (hlk : (∀ j, j < 16 → fhl j = some (hA_ j).1) ∧ (∀ j, j < 16 → fbl j = some (bA_ j)) ∧ (∀ j, j < 8 → ftr j = some (tA_ j))) (hK : va_K (dC, dI) vwCl (tysL cJ cI cZ cH cB cT) s) (t : Nat) (ht : 9 * t + 9 ≤ L) (fo : Nat → Int64) (cc_ : CD) (cd : Nat) (ee : ED) (zz : ZD) (hR : RC cc_ ee) (H : Heap) (locs : List Loc) (ls : Array Slot) (hP : va_P (dC, dI) vwCl (LWd cJ cI cZ cH cB cT out ob om ahl abl asr pb atr tb mt fhl fbl ftr hA_ bA_ tA_ apx apy act asd amv asl apl asw aor aon atw aup alw fo cc_ cd ee zz) H) (hD : va_D (fun q : Nat => s.heap.size ≤ q) (LWd cJ cI cZ cH cB cT out ob om ahl abl asr pb atr tb mt fhl fbl ftr hA_ bA_ tA_ apx apy act asd amv asl apl asw aor aon atw aup alw fo cc_ cd ee zz)) (hS : va_S (fun q : Nat => s.heap.size ≤ q) s.heap H locs) (hl : lv_has ls 8 [(0, .ref b), (1, .ref ob), (2, .ref om), (3, .ref out), (4, .int (nI (9 * t)))]) (kk : ∀ (f1 : Nat → Int64) (c1 : CD) (cd1 : Nat) (e1 : ED) (z1 : ZD) (H : Heap) (locs : List Loc) (ls : Array Slot), RC c1 e1 → va_P (dC, dI) vwCl (LWd cJ cI cZ cH cB cT out ob om ahl abl asr pb atr tb mt fhl fbl ftr hA_ bA_ tA_ apx apy act asd amv asl apl asw aor aon atw aup alw f1 c1 cd1 e1 z1) H → va_D (fun q : Nat => s.heap.size ≤ q) (LWd cJ cI cZ cH cB cT out ob om ahl abl asr pb atr tb mt fhl fbl ftr hA_ bA_ tA_ apx apy act asd amv asl apl asw aor aon atw aup alw f1 c1 cd1 e1 z1) → va_S (fun q : Nat => s.heap.size ≤ q) s.heap H locs → lv_has ls 8 [(0, .ref b), (1, .ref ob), (2, .ref om), (3, .ref out), (4, .int (nI (9 * t)))] → W p l e room_1 s m #[Value.ref b] below meth c H locs (KC + (t + 1)) (KS + 6 * (t + 1)) (lw_Z below #[Value.ref b] s) (F0 m 1669 ls [])) : W p l e room_1 s m #[Value.ref b] below meth c H locs (KC + t) (KS + 6 * t) (lw_Z below #[Value.ref b] s) (F0 m 311 ls []) := by
  obtain ⟨hx, hb, hr, hml, hown, hts, hX, hbl, hlocks, hgv⟩ := C0
  have hA : ∀ q : Nat, s.heap.size ≤ q → (fun q : Nat => s.heap.size ≤ q) q := fun _ h => h
  have hbA : ¬ (fun q : Nat => s.heap.size ≤ q) b := Nat.not_le.mpr hbl
  have htl : ∀ w ∈ wsL_law, w.before #[Value.ref b] s = true := fun w h => hts w (wsL_law_in w h)
  have htt : t ≤ 512 := by omega
  obtain ⟨nh, kb, nt, hd, hf, bd, fsr, ⟨px0, py0, px1, py1, pdx, pdy⟩, ⟨tx0, ty0, tx1, ty1, tdx, tdy⟩, ⟨mu, ml, meu, mel, mbar⟩, ft⟩ := cc_
  obtain ⟨ns, fpx, fpy, ct, nb, fsd, fmv, fsl, fpl, fsw, nw⟩ := ee
  obtain ⟨nc, od, fon, ftw, mx, my, fup, flw, nm, up, lo, rx, ry⟩ := zz
  refine lv_aload_n hx hb dL_law_311 rfl (lv_at hl 1 rfl) ?_
  refine lv_aload_n hx hb dL_law_312 rfl (lv_at hl 0 rfl) ?_
  refine lv_iload hx hb dL_law_313 (lv_at hl 4 rfl) ?_
  refine lv_iconst (v := (nI 1)) hx hb dL_law_315 (by decide) ?_
  refine lv_iadd hx hb dL_law_316 ?_
  rw [show nI (9 * t) + nI 1 = nI (9 * t + 1) from nI_add _ _]
  refine va_sld hx hb hX hbl hbA hS (vp_in_nI (show 9 * t + 1 < L by omega) (by omega)) dL_law_317 ?_
  rw [show (nI (9 * t + 1)).toNatClampNeg = 9 * t + 1 from nI_clamp (show 9 * t + 1 < 2 ^ 31 by omega)]
  refine lv_aload_n hx hb dL_law_318 rfl (lv_at hl 3 rfl) ?_
  obtain ⟨k, Ps, hk4, hH, hM⟩ := J_corners l dC dI cJ cI cZ cH cB cT out ob om ahl abl asr pb atr tb mt fhl fbl ftr hA_ bA_ tA_ apx apy act asd amv asl apl asw aor aon atw aup alw fo nh kb nt hd hf bd fsr px0 py0 px1 py1 pdx pdy tx0 ty0 tx1 ty1 tdx tdy mu ml meu mel mbar ft cd ns fpx fpy ct nb fsd fmv fsl fpl fsw nw nc od fon ftw mx my fup flw nm up lo rx ry (xs (9 * t + 1)) hst hlk hR
  refine gSH (As := [.ref ob, .int (xs (9 * t + 1)), .ref out]) (rest := []) ⟨hx, hb, hml, hown, htl⟩ hH (vx_cwSW 3 htl gL_law_L_corners rfl rfl rfl (by decide +kernel) ⟨Nat.le_of_ble_eq_true rfl, Nat.le_of_ble_eq_true rfl⟩) hP hD hA hS hK hT hnc rfl rfl hl.1 (Nat.le_of_ble_eq_true rfl) dL_law_319 ⟨(show KC + t + 1 ≤ 601024 by omega), (show KS + 6 * t + 6 ≤ 7293034 by omega)⟩ (fun r B2 H locs hq hP hD hS => ?_)
  obtain ⟨rfl, f1, c1, hps, rfl⟩ := hq
  refine lv_istore (lv' := [(5, .int (nI k)), (0, .ref b), (1, .ref ob), (2, .ref om), (3, .ref out), (4, .int (nI (9 * t)))]) hx hb dL_law_322 hl (by decide) rfl (fun ls hl => ?_)
  refine lv_aload_n hx hb dL_law_324 rfl (lv_at hl 3 rfl) ?_
  refine lv_aload_n hx hb dL_law_325 rfl (lv_at hl 1 rfl) ?_
  refine lv_iload hx hb dL_law_326 (lv_at hl 5 rfl) ?_
  refine lv_iconst (v := (nI 1)) hx hb dL_law_328 (by decide) ?_
  refine lv_iadd hx hb dL_law_329 ?_
  rw [show nI (9 * t) + nI 1 = nI (9 * t + 1) from nI_add _ _]
  refine va_sld hx hb hX hbl hbA hS (vp_in_nI (show 9 * t + 1 < L by omega) (by omega)) dL_law_330 ?_
  rw [show (nI (9 * t + 1)).toNatClampNeg = 9 * t + 1 from nI_clamp (show 9 * t + 1 < 2 ^ 31 by omega)]
  refine gVi (ci := 5) (q0 := 2) (As := [.int (xs (9 * t + 1))]) (rest := []) ⟨hx, hb, hml, hown, htl⟩ (hM f1 c1 hps) (cwV 1 htl gL_law_X5_corners rfl rfl rfl (by decide +kernel) ⟨Nat.le_of_ble_eq_true rfl, Nat.le_of_ble_eq_true rfl⟩) hP hD hA hS hK rfl rfl rfl rfl hl.1 (Nat.le_of_ble_eq_true rfl) dL_law_331 ⟨(show KC + t + 1 + 0 ≤ 601024 by omega), (show KS + 6 * t + 6 + 0 ≤ 7293034 by omega)⟩ (fun rb B2 H locs hq hP hD hS => ?_)
  obtain ⟨e1, z1, rfl, hz, hR1⟩ := hq
  refine lv_istore (lv' := [(6, .int rb), (5, .int (nI k)), (0, .ref b), (1, .ref ob), (2, .ref om), (3, .ref out), (4, .int (nI (9 * t)))]) hx hb dL_law_334 hl (by decide) rfl (fun ls hl => ?_)
  refine lv_aload_n hx hb dL_law_336 rfl (lv_at hl 4 rfl) ?_
  refine gVi (ci := 5) (q0 := 2) (As := []) (rest := []) ⟨hx, hb, hml, hown, htl⟩ (thrownG l dC dI cJ cI cZ cH cB cT out ob om ahl abl asr pb atr tb mt fhl fbl ftr hA_ bA_ tA_ apx apy act asd amv asl apl asw aor aon atw aup alw f1 c1 k e1 z1) (cwV 0 htl gL_law_X5_thrown rfl rfl rfl (by decide +kernel) ⟨Nat.le_of_ble_eq_true rfl, Nat.le_of_ble_eq_true rfl⟩) hP hD hA hS hK rfl rfl rfl rfl hl.1 (Nat.le_of_ble_eq_true rfl) dL_law_337 ⟨(show KC + t + 1 + 0 ≤ 601024 by omega), (show KS + 6 * t + 6 + 0 ≤ 7293034 by omega)⟩ (fun rt B2 H locs hq hP hD hS => ?_)
  obtain ⟨rfl, rfl⟩ := hq
  refine lv_iload hx hb dL_law_340 (lv_at hl 1 rfl) ?_
  refine lv_icmp_eq (tgt := 347) hx hb dL_law_342 (by decide) (fun _ => ?_) (fun z => absurd rfl z)
  refine lv_iload hx hb dL_law_347 (lv_at hl 1 rfl) ?_
  refine lv_if_ne (tgt := 364) hx hb dL_law_349 (by decide) (fun _ => ?_) (fun z => ?_)
  · refine lv_goto (tgt := 1669) hx hb dL_law_364 (by decide) ?_
    exact (W.eqC (show KC + t + 1 = KC + (t + 1) by omega) (show KS + 6 * t + 6 = KS + 6 * (t + 1) by omega) (kk f1 c1 k e1 z1 _ _ _ hR1 hP hD hS (lv_sub hl [2, 3, 4, 5, 6] rfl)))
  · have hk0 : k = 0 := nI_z hk4 z
    have hz := hz hk0
    refine lv_aload_n hx hb dL_law_352 rfl (lv_at hl 5 rfl) ?_
    refine lv_iconst (v := (nI 0)) hx hb dL_law_353 (by decide) ?_
    refine va_lald hx hb hK hP 0 0 rfl rfl (vp_in_nI (show 0 < 1 by omega) (by omega)) dL_law_354 ?_
    rw [show (nI 0).toNatClampNeg = 0 from nI_clamp (show 0 < 2 ^ 31 by omega)]
    refine lv_iload hx hb dL_law_355 (lv_at hl 0 rfl) ?_
    refine lv_i2l (v := rb.toInt64) hx hb dL_law_357 rfl ?_
    refine W.lcmp hx hb dL_law_358 ?_
    refine lv_if_eq (tgt := 364) hx hb dL_law_359 (by decide) (fun cq => ?_) (fun cq => ?_)
    · refine lv_goto (tgt := 1669) hx hb dL_law_364 (by decide) ?_
      exact (W.eqC (show KC + t + 1 = KC + (t + 1) by omega) (show KS + 6 * t + 6 = KS + 6 * (t + 1) by omega) (kk f1 c1 k e1 z1 _ _ _ hR1 hP hD hS (lv_sub hl [2, 3, 4, 5, 6] rfl)))
    · rw [lg_cmp_eq] at cq; exact absurd hz cq
set_option maxHeartbeats 4000000 in
set_option maxRecDepth 100000 in
theorem law_corner {p : Program} {l : Launch} {e : Env} {s : State} {m : MethodId} {below : List Frame} {meth : Method} {c : Code} {b L : Nat} {xs : Nat → Int32} (dC : Nat → ClassId) (dI : Nat → Nat → Nat) (cJ cI cZ cH cB cT : ClassId) (out ob om ahl abl asr pb atr tb mt : Nat) (fhl fbl ftr : Nat → Option Nat) (hA_ : Nat → Nat × Nat × Nat × Nat × Nat) (bA_ tA_ : Nat → Nat) (apx apy act asd amv asl apl asw aor aon atw aup alw : Nat) (KC KS : Nat) (hKC : KC + 600 ≤ 601024) (hKS : KS + 3600 ≤ 7293034) (hL : L ≤ 4608) (C0 : lw_At p s m meth c b L xs) (hst : l.stackTraces = false) (hT : tS (fun q : Nat => s.heap.size ≤ q) s) (hnc : ncS s) (hlk : (∀ j, j < 16 → fhl j = some (hA_ j).1) ∧ (∀ j, j < 16 → fbl j = some (bA_ j)) ∧ (∀ j, j < 8 → ftr j = some (tA_ j))) (hK : va_K (dC, dI) vwCl (tysL cJ cI cZ cH cB cT) s) (t : Nat) (ht : 9 * t + 9 ≤ L) (fo : Nat → Int64) (cc_ : CD) (cd : Nat) (ee : ED) (zz : ZD) (hR : RC cc_ ee) (H : Heap) (locs : List Loc) (ls : Array Slot) (hP : va_P (dC, dI) vwCl (LWd cJ cI cZ cH cB cT out ob om ahl abl asr pb atr tb mt fhl fbl ftr hA_ bA_ tA_ apx apy act asd amv asl apl asw aor aon atw aup alw fo cc_ cd ee zz) H) (hD : va_D (fun q : Nat => s.heap.size ≤ q) (LWd cJ cI cZ cH cB cT out ob om ahl abl asr pb atr tb mt fhl fbl ftr hA_ bA_ tA_ apx apy act asd amv asl apl asw aor aon atw aup alw fo cc_ cd ee zz)) (hS : va_S (fun q : Nat => s.heap.size ≤ q) s.heap H locs) (hl : lv_has ls 8 [(0, .ref b), (1, .ref ob), (2, .ref om), (3, .ref out), (4, .int (nI (9 * t)))]) (kk : ∀ (f1 : Nat → Int64) (c1 : CD) (cd1 : Nat) (e1 : ED) (z1 : ZD) (H : Heap) (locs : List Loc) (ls : Array Slot), RC c1 e1 → va_P (dC, dI) vwCl (LWd cJ cI cZ cH cB cT out ob om ahl abl asr pb atr tb mt fhl fbl ftr hA_ bA_ tA_ apx apy act asd amv asl apl asw aor aon atw aup alw f1 c1 cd1 e1 z1) H → va_D (fun q : Nat => s.heap.size ≤ q) (LWd cJ cI cZ cH cB cT out ob om ahl abl asr pb atr tb mt fhl fbl ftr hA_ bA_ tA_ apx apy act asd amv asl apl asw aor aon atw aup alw f1 c1 cd1 e1 z1) → va_S (fun q : Nat => s.heap.size ≤ q) s.heap H locs → lv_has ls 8 [(0, .ref b), (1, .ref ob), (2, .ref om), (3, .ref out), (4, .int (nI (9 * t)))] → W p l e room_1 s m #[Value.ref b] below meth c H locs (KC + (t + 1)) (KS + 6 * (t + 1)) (lw_Z below #[Value.ref b] s) (F0 m 1669 ls [])) : W p l e room_1 s m #[Value.ref b] below meth c H locs (KC + t) (KS + 6 * t) (lw_Z below #[Value.ref b] s) (F0 m 367 ls []) := by
  obtain ⟨hx, hb, hr, hml, hown, hts, hX, hbl, hlocks, hgv⟩ := C0
  have hA : ∀ q : Nat, s.heap.size ≤ q → (fun q : Nat => s.heap.size ≤ q) q := fun _ h => h
  have hbA : ¬ (fun q : Nat => s.heap.size ≤ q) b := Nat.not_le.mpr hbl
  have htl : ∀ w ∈ wsL_law, w.before #[Value.ref b] s = true := fun w h => hts w (wsL_law_in w h)
  have htt : t ≤ 512 := by omega
  obtain ⟨nh, kb, nt, hd, hf, bd, fsr, ⟨px0, py0, px1, py1, pdx, pdy⟩, ⟨tx0, ty0, tx1, ty1, tdx, tdy⟩, ⟨mu, ml, meu, mel, mbar⟩, ft⟩ := cc_
  obtain ⟨ns, fpx, fpy, ct, nb, fsd, fmv, fsl, fpl, fsw, nw⟩ := ee
  obtain ⟨nc, od, fon, ftw, mx, my, fup, flw, nm, up, lo, rx, ry⟩ := zz
  refine lv_aload_n hx hb dL_law_367 rfl (lv_at hl 1 rfl) ?_
  refine lv_aload_n hx hb dL_law_368 rfl (lv_at hl 0 rfl) ?_
  refine lv_iload hx hb dL_law_369 (lv_at hl 4 rfl) ?_
  refine lv_iconst (v := (nI 1)) hx hb dL_law_371 (by decide) ?_
  refine lv_iadd hx hb dL_law_372 ?_
  rw [show nI (9 * t) + nI 1 = nI (9 * t + 1) from nI_add _ _]
  refine va_sld hx hb hX hbl hbA hS (vp_in_nI (show 9 * t + 1 < L by omega) (by omega)) dL_law_373 ?_
  rw [show (nI (9 * t + 1)).toNatClampNeg = 9 * t + 1 from nI_clamp (show 9 * t + 1 < 2 ^ 31 by omega)]
  refine lv_aload_n hx hb dL_law_374 rfl (lv_at hl 0 rfl) ?_
  refine lv_iload hx hb dL_law_375 (lv_at hl 4 rfl) ?_
  refine lv_iconst (v := (nI 2)) hx hb dL_law_377 (by decide) ?_
  refine lv_iadd hx hb dL_law_378 ?_
  rw [show nI (9 * t) + nI 2 = nI (9 * t + 2) from nI_add _ _]
  refine va_sld hx hb hX hbl hbA hS (vp_in_nI (show 9 * t + 2 < L by omega) (by omega)) dL_law_379 ?_
  rw [show (nI (9 * t + 2)).toNatClampNeg = 9 * t + 2 from nI_clamp (show 9 * t + 2 < 2 ^ 31 by omega)]
  refine lv_aload_n hx hb dL_law_380 rfl (lv_at hl 0 rfl) ?_
  refine lv_iload hx hb dL_law_381 (lv_at hl 4 rfl) ?_
  refine lv_iconst (v := (nI 3)) hx hb dL_law_383 (by decide) ?_
  refine lv_iadd hx hb dL_law_384 ?_
  rw [show nI (9 * t) + nI 3 = nI (9 * t + 3) from nI_add _ _]
  refine va_sld hx hb hX hbl hbA hS (vp_in_nI (show 9 * t + 3 < L by omega) (by omega)) dL_law_385 ?_
  rw [show (nI (9 * t + 3)).toNatClampNeg = 9 * t + 3 from nI_clamp (show 9 * t + 3 < 2 ^ 31 by omega)]
  refine lv_aload_n hx hb dL_law_386 rfl (lv_at hl 3 rfl) ?_
  obtain ⟨k, Ps, hk4, hH, hM⟩ := J_corner l dC dI cJ cI cZ cH cB cT out ob om ahl abl asr pb atr tb mt fhl fbl ftr hA_ bA_ tA_ apx apy act asd amv asl apl asw aor aon atw aup alw fo nh kb nt hd hf bd fsr px0 py0 px1 py1 pdx pdy tx0 ty0 tx1 ty1 tdx tdy mu ml meu mel mbar ft cd ns fpx fpy ct nb fsd fmv fsl fpl fsw nw nc od fon ftw mx my fup flw nm up lo rx ry (xs (9 * t + 1)) (xs (9 * t + 2)) (xs (9 * t + 3)) hst hlk hR
  refine gSH (As := [.ref ob, .int (xs (9 * t + 1)), .int (xs (9 * t + 2)), .int (xs (9 * t + 3)), .ref out]) (rest := []) ⟨hx, hb, hml, hown, htl⟩ hH (vx_cwSW 5 htl gL_law_L_corner rfl rfl rfl (by decide +kernel) ⟨Nat.le_of_ble_eq_true rfl, Nat.le_of_ble_eq_true rfl⟩) hP hD hA hS hK hT hnc rfl rfl hl.1 (Nat.le_of_ble_eq_true rfl) dL_law_387 ⟨(show KC + t + 1 ≤ 601024 by omega), (show KS + 6 * t + 6 ≤ 7293034 by omega)⟩ (fun r B2 H locs hq hP hD hS => ?_)
  obtain ⟨rfl, f1, c1, hps, rfl⟩ := hq
  refine lv_istore (lv' := [(5, .int (nI k)), (0, .ref b), (1, .ref ob), (2, .ref om), (3, .ref out), (4, .int (nI (9 * t)))]) hx hb dL_law_390 hl (by decide) rfl (fun ls hl => ?_)
  refine lv_aload_n hx hb dL_law_392 rfl (lv_at hl 3 rfl) ?_
  refine lv_aload_n hx hb dL_law_393 rfl (lv_at hl 1 rfl) ?_
  refine lv_iload hx hb dL_law_394 (lv_at hl 5 rfl) ?_
  refine lv_iconst (v := (nI 1)) hx hb dL_law_396 (by decide) ?_
  refine lv_iadd hx hb dL_law_397 ?_
  rw [show nI (9 * t) + nI 1 = nI (9 * t + 1) from nI_add _ _]
  refine va_sld hx hb hX hbl hbA hS (vp_in_nI (show 9 * t + 1 < L by omega) (by omega)) dL_law_398 ?_
  rw [show (nI (9 * t + 1)).toNatClampNeg = 9 * t + 1 from nI_clamp (show 9 * t + 1 < 2 ^ 31 by omega)]
  refine lv_aload_n hx hb dL_law_399 rfl (lv_at hl 1 rfl) ?_
  refine lv_iload hx hb dL_law_400 (lv_at hl 5 rfl) ?_
  refine lv_iconst (v := (nI 2)) hx hb dL_law_402 (by decide) ?_
  refine lv_iadd hx hb dL_law_403 ?_
  rw [show nI (9 * t) + nI 2 = nI (9 * t + 2) from nI_add _ _]
  refine va_sld hx hb hX hbl hbA hS (vp_in_nI (show 9 * t + 2 < L by omega) (by omega)) dL_law_404 ?_
  rw [show (nI (9 * t + 2)).toNatClampNeg = 9 * t + 2 from nI_clamp (show 9 * t + 2 < 2 ^ 31 by omega)]
  refine lv_aload_n hx hb dL_law_405 rfl (lv_at hl 1 rfl) ?_
  refine lv_iload hx hb dL_law_406 (lv_at hl 5 rfl) ?_
  refine lv_iconst (v := (nI 3)) hx hb dL_law_408 (by decide) ?_
  refine lv_iadd hx hb dL_law_409 ?_
  rw [show nI (9 * t) + nI 3 = nI (9 * t + 3) from nI_add _ _]
  refine va_sld hx hb hX hbl hbA hS (vp_in_nI (show 9 * t + 3 < L by omega) (by omega)) dL_law_410 ?_
  rw [show (nI (9 * t + 3)).toNatClampNeg = 9 * t + 3 from nI_clamp (show 9 * t + 3 < 2 ^ 31 by omega)]
  refine gVl (ci := 5) (q0 := 2) (As := [.int (xs (9 * t + 1)), .int (xs (9 * t + 2)), .int (xs (9 * t + 3))]) (rest := []) ⟨hx, hb, hml, hown, htl⟩ (hM f1 c1 hps) (cwV 3 htl gL_law_X5_corner rfl rfl rfl (by decide +kernel) ⟨Nat.le_of_ble_eq_true rfl, Nat.le_of_ble_eq_true rfl⟩) hP hD hA hS hK rfl rfl rfl rfl hl.1 (Nat.le_of_ble_eq_true rfl) dL_law_411 ⟨(show KC + t + 1 + 0 ≤ 601024 by omega), (show KS + 6 * t + 6 + 0 ≤ 7293034 by omega)⟩ (fun rb B2 H locs hq hP hD hS => ?_)
  obtain ⟨e1, z1, rfl, hz, hR1⟩ := hq
  refine lv_lstore (lv' := [(6, .long rb), (5, .int (nI k)), (0, .ref b), (1, .ref ob), (2, .ref om), (3, .ref out), (4, .int (nI (9 * t)))]) hx hb dL_law_414 hl (by decide) rfl (fun ls hl => ?_)
  refine lv_aload_n hx hb dL_law_416 rfl (lv_at hl 4 rfl) ?_
  refine gVi (ci := 5) (q0 := 2) (As := []) (rest := []) ⟨hx, hb, hml, hown, htl⟩ (thrownG l dC dI cJ cI cZ cH cB cT out ob om ahl abl asr pb atr tb mt fhl fbl ftr hA_ bA_ tA_ apx apy act asd amv asl apl asw aor aon atw aup alw f1 c1 k e1 z1) (cwV 0 htl gL_law_X5_thrown rfl rfl rfl (by decide +kernel) ⟨Nat.le_of_ble_eq_true rfl, Nat.le_of_ble_eq_true rfl⟩) hP hD hA hS hK rfl rfl rfl rfl hl.1 (Nat.le_of_ble_eq_true rfl) dL_law_417 ⟨(show KC + t + 1 + 0 ≤ 601024 by omega), (show KS + 6 * t + 6 + 0 ≤ 7293034 by omega)⟩ (fun rt B2 H locs hq hP hD hS => ?_)
  obtain ⟨rfl, rfl⟩ := hq
  refine lv_iload hx hb dL_law_420 (lv_at hl 1 rfl) ?_
  refine lv_icmp_eq (tgt := 427) hx hb dL_law_422 (by decide) (fun _ => ?_) (fun z => absurd rfl z)
  refine lv_iload hx hb dL_law_427 (lv_at hl 1 rfl) ?_
  refine lv_if_ne (tgt := 443) hx hb dL_law_429 (by decide) (fun _ => ?_) (fun z => ?_)
  · refine lv_goto (tgt := 1669) hx hb dL_law_443 (by decide) ?_
    exact (W.eqC (show KC + t + 1 = KC + (t + 1) by omega) (show KS + 6 * t + 6 = KS + 6 * (t + 1) by omega) (kk f1 c1 k e1 z1 _ _ _ hR1 hP hD hS (lv_sub hl [2, 3, 4, 5, 6] rfl)))
  · have hk0 : k = 0 := nI_z hk4 z
    have hz := hz hk0
    refine lv_aload_n hx hb dL_law_432 rfl (lv_at hl 5 rfl) ?_
    refine lv_iconst (v := (nI 0)) hx hb dL_law_433 (by decide) ?_
    refine va_lald hx hb hK hP 0 0 rfl rfl (vp_in_nI (show 0 < 1 by omega) (by omega)) dL_law_434 ?_
    rw [show (nI 0).toNatClampNeg = 0 from nI_clamp (show 0 < 2 ^ 31 by omega)]
    refine lv_lload hx hb dL_law_435 (lv_at hl 0 rfl) ?_
    refine W.lcmp hx hb dL_law_437 ?_
    refine lv_if_eq (tgt := 443) hx hb dL_law_438 (by decide) (fun cq => ?_) (fun cq => ?_)
    · refine lv_goto (tgt := 1669) hx hb dL_law_443 (by decide) ?_
      exact (W.eqC (show KC + t + 1 = KC + (t + 1) by omega) (show KS + 6 * t + 6 = KS + 6 * (t + 1) by omega) (kk f1 c1 k e1 z1 _ _ _ hR1 hP hD hS (lv_sub hl [2, 3, 4, 5, 6] rfl)))
    · rw [lg_cmp_eq] at cq; exact absurd hz cq
set_option maxHeartbeats 4000000 in
set_option maxRecDepth 100000 in
theorem law_apart {p : Program} {l : Launch} {e : Env} {s : State} {m : MethodId} {below : List Frame} {meth : Method} {c : Code} {b L : Nat} {xs : Nat → Int32} (dC : Nat → ClassId) (dI : Nat → Nat → Nat) (cJ cI cZ cH cB cT : ClassId) (out ob om ahl abl asr pb atr tb mt : Nat) (fhl fbl ftr : Nat → Option Nat) (hA_ : Nat → Nat × Nat × Nat × Nat × Nat) (bA_ tA_ : Nat → Nat) (apx apy act asd amv asl apl asw aor aon atw aup alw : Nat) (KC KS : Nat) (hKC : KC + 600 ≤ 601024) (hKS : KS + 3600 ≤ 7293034) (hL : L ≤ 4608) (C0 : lw_At p s m meth c b L xs) (hst : l.stackTraces = false) (hT : tS (fun q : Nat => s.heap.size ≤ q) s) (hnc : ncS s) (hlk : (∀ j, j < 16 → fhl j = some (hA_ j).1) ∧ (∀ j, j < 16 → fbl j = some (bA_ j)) ∧ (∀ j, j < 8 → ftr j = some (tA_ j))) (hK : va_K (dC, dI) vwCl (tysL cJ cI cZ cH cB cT) s) (t : Nat) (ht : 9 * t + 9 ≤ L) (fo : Nat → Int64) (cc_ : CD) (cd : Nat) (ee : ED) (zz : ZD) (hR : RC cc_ ee) (H : Heap) (locs : List Loc) (ls : Array Slot) (hP : va_P (dC, dI) vwCl (LWd cJ cI cZ cH cB cT out ob om ahl abl asr pb atr tb mt fhl fbl ftr hA_ bA_ tA_ apx apy act asd amv asl apl asw aor aon atw aup alw fo cc_ cd ee zz) H) (hD : va_D (fun q : Nat => s.heap.size ≤ q) (LWd cJ cI cZ cH cB cT out ob om ahl abl asr pb atr tb mt fhl fbl ftr hA_ bA_ tA_ apx apy act asd amv asl apl asw aor aon atw aup alw fo cc_ cd ee zz)) (hS : va_S (fun q : Nat => s.heap.size ≤ q) s.heap H locs) (hl : lv_has ls 8 [(0, .ref b), (1, .ref ob), (2, .ref om), (3, .ref out), (4, .int (nI (9 * t)))]) (kk : ∀ (f1 : Nat → Int64) (c1 : CD) (cd1 : Nat) (e1 : ED) (z1 : ZD) (H : Heap) (locs : List Loc) (ls : Array Slot), RC c1 e1 → va_P (dC, dI) vwCl (LWd cJ cI cZ cH cB cT out ob om ahl abl asr pb atr tb mt fhl fbl ftr hA_ bA_ tA_ apx apy act asd amv asl apl asw aor aon atw aup alw f1 c1 cd1 e1 z1) H → va_D (fun q : Nat => s.heap.size ≤ q) (LWd cJ cI cZ cH cB cT out ob om ahl abl asr pb atr tb mt fhl fbl ftr hA_ bA_ tA_ apx apy act asd amv asl apl asw aor aon atw aup alw f1 c1 cd1 e1 z1) → va_S (fun q : Nat => s.heap.size ≤ q) s.heap H locs → lv_has ls 8 [(0, .ref b), (1, .ref ob), (2, .ref om), (3, .ref out), (4, .int (nI (9 * t)))] → W p l e room_1 s m #[Value.ref b] below meth c H locs (KC + (t + 1)) (KS + 6 * (t + 1)) (lw_Z below #[Value.ref b] s) (F0 m 1669 ls [])) : W p l e room_1 s m #[Value.ref b] below meth c H locs (KC + t) (KS + 6 * t) (lw_Z below #[Value.ref b] s) (F0 m 446 ls []) := by
  obtain ⟨hx, hb, hr, hml, hown, hts, hX, hbl, hlocks, hgv⟩ := C0
  have hA : ∀ q : Nat, s.heap.size ≤ q → (fun q : Nat => s.heap.size ≤ q) q := fun _ h => h
  have hbA : ¬ (fun q : Nat => s.heap.size ≤ q) b := Nat.not_le.mpr hbl
  have htl : ∀ w ∈ wsL_law, w.before #[Value.ref b] s = true := fun w h => hts w (wsL_law_in w h)
  have htt : t ≤ 512 := by omega
  obtain ⟨nh, kb, nt, hd, hf, bd, fsr, ⟨px0, py0, px1, py1, pdx, pdy⟩, ⟨tx0, ty0, tx1, ty1, tdx, tdy⟩, ⟨mu, ml, meu, mel, mbar⟩, ft⟩ := cc_
  obtain ⟨ns, fpx, fpy, ct, nb, fsd, fmv, fsl, fpl, fsw, nw⟩ := ee
  obtain ⟨nc, od, fon, ftw, mx, my, fup, flw, nm, up, lo, rx, ry⟩ := zz
  refine lv_aload_n hx hb dL_law_446 rfl (lv_at hl 1 rfl) ?_
  refine lv_aload_n hx hb dL_law_447 rfl (lv_at hl 0 rfl) ?_
  refine lv_iload hx hb dL_law_448 (lv_at hl 4 rfl) ?_
  refine lv_iconst (v := (nI 1)) hx hb dL_law_450 (by decide) ?_
  refine lv_iadd hx hb dL_law_451 ?_
  rw [show nI (9 * t) + nI 1 = nI (9 * t + 1) from nI_add _ _]
  refine va_sld hx hb hX hbl hbA hS (vp_in_nI (show 9 * t + 1 < L by omega) (by omega)) dL_law_452 ?_
  rw [show (nI (9 * t + 1)).toNatClampNeg = 9 * t + 1 from nI_clamp (show 9 * t + 1 < 2 ^ 31 by omega)]
  refine lv_aload_n hx hb dL_law_453 rfl (lv_at hl 0 rfl) ?_
  refine lv_iload hx hb dL_law_454 (lv_at hl 4 rfl) ?_
  refine lv_iconst (v := (nI 2)) hx hb dL_law_456 (by decide) ?_
  refine lv_iadd hx hb dL_law_457 ?_
  rw [show nI (9 * t) + nI 2 = nI (9 * t + 2) from nI_add _ _]
  refine va_sld hx hb hX hbl hbA hS (vp_in_nI (show 9 * t + 2 < L by omega) (by omega)) dL_law_458 ?_
  rw [show (nI (9 * t + 2)).toNatClampNeg = 9 * t + 2 from nI_clamp (show 9 * t + 2 < 2 ^ 31 by omega)]
  refine lv_aload_n hx hb dL_law_459 rfl (lv_at hl 3 rfl) ?_
  obtain ⟨k, Ps, hk4, hH, hM⟩ := J_apart l dC dI cJ cI cZ cH cB cT out ob om ahl abl asr pb atr tb mt fhl fbl ftr hA_ bA_ tA_ apx apy act asd amv asl apl asw aor aon atw aup alw fo nh kb nt hd hf bd fsr px0 py0 px1 py1 pdx pdy tx0 ty0 tx1 ty1 tdx tdy mu ml meu mel mbar ft cd ns fpx fpy ct nb fsd fmv fsl fpl fsw nw nc od fon ftw mx my fup flw nm up lo rx ry (xs (9 * t + 1)) (xs (9 * t + 2)) hst hlk hR
  refine gSH (As := [.ref ob, .int (xs (9 * t + 1)), .int (xs (9 * t + 2)), .ref out]) (rest := []) ⟨hx, hb, hml, hown, htl⟩ hH (vx_cwSW 4 htl gL_law_L_apart rfl rfl rfl (by decide +kernel) ⟨Nat.le_of_ble_eq_true rfl, Nat.le_of_ble_eq_true rfl⟩) hP hD hA hS hK hT hnc rfl rfl hl.1 (Nat.le_of_ble_eq_true rfl) dL_law_460 ⟨(show KC + t + 1 ≤ 601024 by omega), (show KS + 6 * t + 6 ≤ 7293034 by omega)⟩ (fun r B2 H locs hq hP hD hS => ?_)
  obtain ⟨rfl, f1, c1, hps, rfl⟩ := hq
  refine lv_istore (lv' := [(5, .int (nI k)), (0, .ref b), (1, .ref ob), (2, .ref om), (3, .ref out), (4, .int (nI (9 * t)))]) hx hb dL_law_463 hl (by decide) rfl (fun ls hl => ?_)
  refine lv_aload_n hx hb dL_law_465 rfl (lv_at hl 3 rfl) ?_
  refine lv_aload_n hx hb dL_law_466 rfl (lv_at hl 1 rfl) ?_
  refine lv_iload hx hb dL_law_467 (lv_at hl 5 rfl) ?_
  refine lv_iconst (v := (nI 1)) hx hb dL_law_469 (by decide) ?_
  refine lv_iadd hx hb dL_law_470 ?_
  rw [show nI (9 * t) + nI 1 = nI (9 * t + 1) from nI_add _ _]
  refine va_sld hx hb hX hbl hbA hS (vp_in_nI (show 9 * t + 1 < L by omega) (by omega)) dL_law_471 ?_
  rw [show (nI (9 * t + 1)).toNatClampNeg = 9 * t + 1 from nI_clamp (show 9 * t + 1 < 2 ^ 31 by omega)]
  refine lv_aload_n hx hb dL_law_472 rfl (lv_at hl 1 rfl) ?_
  refine lv_iload hx hb dL_law_473 (lv_at hl 5 rfl) ?_
  refine lv_iconst (v := (nI 2)) hx hb dL_law_475 (by decide) ?_
  refine lv_iadd hx hb dL_law_476 ?_
  rw [show nI (9 * t) + nI 2 = nI (9 * t + 2) from nI_add _ _]
  refine va_sld hx hb hX hbl hbA hS (vp_in_nI (show 9 * t + 2 < L by omega) (by omega)) dL_law_477 ?_
  rw [show (nI (9 * t + 2)).toNatClampNeg = 9 * t + 2 from nI_clamp (show 9 * t + 2 < 2 ^ 31 by omega)]
  refine gVi (ci := 5) (q0 := 2) (As := [.int (xs (9 * t + 1)), .int (xs (9 * t + 2))]) (rest := []) ⟨hx, hb, hml, hown, htl⟩ (hM f1 c1 hps) (cwV 2 htl gL_law_X5_apart rfl rfl rfl (by decide +kernel) ⟨Nat.le_of_ble_eq_true rfl, Nat.le_of_ble_eq_true rfl⟩) hP hD hA hS hK rfl rfl rfl rfl hl.1 (Nat.le_of_ble_eq_true rfl) dL_law_478 ⟨(show KC + t + 1 + 0 ≤ 601024 by omega), (show KS + 6 * t + 6 + 0 ≤ 7293034 by omega)⟩ (fun rb B2 H locs hq hP hD hS => ?_)
  obtain ⟨bb, rfl, e1, z1, rfl, hz, hR1⟩ := hq
  refine lv_istore (lv' := [(6, .int (bI bb)), (5, .int (nI k)), (0, .ref b), (1, .ref ob), (2, .ref om), (3, .ref out), (4, .int (nI (9 * t)))]) hx hb dL_law_481 hl (by decide) rfl (fun ls hl => ?_)
  refine lv_aload_n hx hb dL_law_483 rfl (lv_at hl 4 rfl) ?_
  refine gVi (ci := 5) (q0 := 2) (As := []) (rest := []) ⟨hx, hb, hml, hown, htl⟩ (thrownG l dC dI cJ cI cZ cH cB cT out ob om ahl abl asr pb atr tb mt fhl fbl ftr hA_ bA_ tA_ apx apy act asd amv asl apl asw aor aon atw aup alw f1 c1 k e1 z1) (cwV 0 htl gL_law_X5_thrown rfl rfl rfl (by decide +kernel) ⟨Nat.le_of_ble_eq_true rfl, Nat.le_of_ble_eq_true rfl⟩) hP hD hA hS hK rfl rfl rfl rfl hl.1 (Nat.le_of_ble_eq_true rfl) dL_law_484 ⟨(show KC + t + 1 + 0 ≤ 601024 by omega), (show KS + 6 * t + 6 + 0 ≤ 7293034 by omega)⟩ (fun rt B2 H locs hq hP hD hS => ?_)
  obtain ⟨rfl, rfl⟩ := hq
  refine lv_iload hx hb dL_law_487 (lv_at hl 1 rfl) ?_
  refine lv_icmp_eq (tgt := 494) hx hb dL_law_489 (by decide) (fun _ => ?_) (fun z => absurd rfl z)
  refine lv_iload hx hb dL_law_494 (lv_at hl 1 rfl) ?_
  refine lv_if_ne (tgt := 518) hx hb dL_law_496 (by decide) (fun _ => ?_) (fun z => ?_)
  · refine lv_goto (tgt := 1669) hx hb dL_law_518 (by decide) ?_
    exact (W.eqC (show KC + t + 1 = KC + (t + 1) by omega) (show KS + 6 * t + 6 = KS + 6 * (t + 1) by omega) (kk f1 c1 k e1 z1 _ _ _ hR1 hP hD hS (lv_sub hl [2, 3, 4, 5, 6] rfl)))
  · have hk0 : k = 0 := nI_z hk4 z
    have hz := hz hk0
    refine lv_aload_n hx hb dL_law_499 rfl (lv_at hl 5 rfl) ?_
    refine lv_iconst (v := (nI 0)) hx hb dL_law_500 (by decide) ?_
    refine va_lald hx hb hK hP 0 0 rfl rfl (vp_in_nI (show 0 < 1 by omega) (by omega)) dL_law_501 ?_
    rw [show (nI 0).toNatClampNeg = 0 from nI_clamp (show 0 < 2 ^ 31 by omega)]
    refine lv_iload hx hb dL_law_502 (lv_at hl 0 rfl) ?_
    refine lv_if_eq (tgt := 511) hx hb dL_law_504 (by decide) (fun cz => ?_) (fun cz => ?_)
    · have hbb : bb = false := bI_0 cz
      subst hbb
      refine lv_lconst (v := 0) hx hb dL_law_511 (by decide) ?_
      refine W.lcmp hx hb dL_law_512 ?_
      refine lv_if_eq (tgt := 518) hx hb dL_law_513 (by decide) (fun cq => ?_) (fun cq => ?_)
      · refine lv_goto (tgt := 1669) hx hb dL_law_518 (by decide) ?_
        exact (W.eqC (show KC + t + 1 = KC + (t + 1) by omega) (show KS + 6 * t + 6 = KS + 6 * (t + 1) by omega) (kk f1 c1 k e1 z1 _ _ _ hR1 hP hD hS (lv_sub hl [2, 3, 4, 5, 6] rfl)))
      · rw [lg_cmp_eq] at cq; exact absurd hz cq
    · have hbb : bb = true := bI_n cz
      subst hbb
      refine lv_lconst (v := 1) hx hb dL_law_507 (by decide) ?_
      refine lv_goto (tgt := 512) hx hb dL_law_508 (by decide) ?_
      refine W.lcmp hx hb dL_law_512 ?_
      refine lv_if_eq (tgt := 518) hx hb dL_law_513 (by decide) (fun cq => ?_) (fun cq => ?_)
      · refine lv_goto (tgt := 1669) hx hb dL_law_518 (by decide) ?_
        exact (W.eqC (show KC + t + 1 = KC + (t + 1) by omega) (show KS + 6 * t + 6 = KS + 6 * (t + 1) by omega) (kk f1 c1 k e1 z1 _ _ _ hR1 hP hD hS (lv_sub hl [2, 3, 4, 5, 6] rfl)))
      · rw [lg_cmp_eq] at cq; exact absurd hz cq
