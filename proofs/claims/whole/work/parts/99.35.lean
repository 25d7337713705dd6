/-! the law's loop -/
set_option maxHeartbeats 4000000 in
set_option maxRecDepth 100000 in
theorem law_clear {p : Program} {l : Launch} {e : Env} {s : State} {m : MethodId} {below : List Frame} {meth : Method} {c : Code} {b L : Nat} {xs : Nat → Int32} (dC : Nat → ClassId) (dI : Nat → Nat → Nat) (cJ cI cZ cH cB cT : ClassId) (out ob om ahl abl asr pb atr tb mt : Nat) (fhl fbl ftr : Nat → Option Nat) (hA_ : Nat → Nat × Nat × Nat × Nat × Nat) (bA_ tA_ : Nat → Nat) (apx apy act asd amv asl apl asw aor aon atw aup alw : Nat) (KC KS : Nat) (hKC : KC + 600 ≤ 601024) (hKS : KS + 3600 ≤ 7293034) (hL : L ≤ 4608) (C0 : lw_At p s m meth c b L xs) (hst : l.stackTraces = false) (hT : tS (fun q : Nat => s.heap.size ≤ q) s) (hnc : ncS s) (hlk : (∀ j, j < 16 → fhl j = some (hA_ j).1) ∧ (∀ j, j < 16 → fbl j = some (bA_ j)) ∧ (∀ j, j < 8 → ftr j = some (tA_ j))) (hK : va_K (dC, dI) vwCl (tysL cJ cI cZ cH cB cT) s) (t : Nat) (ht : 9 * t + 9 ≤ L) (fo : Nat → Int64) (cc_ : CD) (cd : Nat) (ee : ED) (zz : ZD) (hR : RC cc_ ee) (H : Heap) (locs : List Loc) (ls : Array Slot) (hP : va_P (dC, dI) vwCl (LWd cJ cI cZ cH cB cT out ob om ahl abl asr pb atr tb mt fhl fbl ftr hA_ bA_ tA_ apx apy act asd amv asl apl asw aor aon atw aup alw fo cc_ cd ee zz) H) (hD : va_D (fun q : Nat => s.heap.size ≤ q) (LWd cJ cI cZ cH cB cT out ob om ahl abl asr pb atr tb mt fhl fbl ftr hA_ bA_ tA_ apx apy act asd amv asl apl asw aor aon atw aup alw fo cc_ cd ee zz)) (hS : va_S (fun q : Nat => s.heap.size ≤ q) s.heap H locs) (hl : lv_has ls 8 [(0, .ref b), (1, .ref ob), (2, .ref om), (3, .ref out), (4, .int (nI (9 * t)))]) (kk : ∀ (f1 : Nat → Int64) (c1 : CD) (cd1 : Nat) (e1 : ED) (z1 : ZD) (H : Heap) (locs : List Loc) (ls : Array Slot), RC c1 e1 → va_P (dC, dI) vwCl (LWd cJ cI cZ cH cB cT out ob om ahl abl asr pb atr tb mt fhl fbl ftr hA_ bA_ tA_ apx apy act asd amv asl apl asw aor aon atw aup alw f1 c1 cd1 e1 z1) H → va_D (fun q : Nat => s.heap.size ≤ q) (LWd cJ cI cZ cH cB cT out ob om ahl abl asr pb atr tb mt fhl fbl ftr hA_ bA_ tA_ apx apy act asd amv asl apl asw aor aon atw aup alw f1 c1 cd1 e1 z1) → va_S (fun q : Nat => s.heap.size ≤ q) s.heap H locs → lv_has ls 8 [(0, .ref b), (1, .ref ob), (2, .ref om), (3, .ref out), (4, .int (nI (9 * t)))] → W p l e room_1 s m #[Value.ref b] below meth c H locs (KC + (t + 1)) (KS + 6 * (t + 1)) (lw_Z below #[Value.ref b] s) (F0 m 1669 ls [])) : W p l e room_1 s m #[Value.ref b] below meth c H locs (KC + t) (KS + 6 * t) (lw_Z below #[Value.ref b] s) (F0 m 1658 ls []) := by
  obtain ⟨hx, hb, hr, hml, hown, hts, hX, hbl, hlocks, hgv⟩ := C0
  have hA : ∀ q : Nat, s.heap.size ≤ q → (fun q : Nat => s.heap.size ≤ q) q := fun _ h => h
  have htl : ∀ w ∈ wsL_law, w.before #[Value.ref b] s = true := fun w h => hts w (wsL_law_in w h)
  have htt : t ≤ 512 := by omega
  obtain ⟨nh, kb, nt, hd, hf, bd, fsr, ⟨px0, py0, px1, py1, pdx, pdy⟩, ⟨tx0, ty0, tx1, ty1, tdx, tdy⟩, ⟨mu, ml, meu, mel, mbar⟩, ft⟩ := cc_
  obtain ⟨ns, fpx, fpy, ct, nb, fsd, fmv, fsl, fpl, fsw, nw⟩ := ee
  obtain ⟨nc, od, fon, ftw, mx, my, fup, flw, nm, up, lo, rx, ry⟩ := zz
  obtain ⟨hC, hM⟩ := J_clear l dC dI cJ cI cZ cH cB cT out ob om ahl abl asr pb atr tb mt fhl fbl ftr hA_ bA_ tA_ apx apy act asd amv asl apl asw aor aon atw aup alw fo nh kb nt hd hf bd fsr px0 py0 px1 py1 pdx pdy tx0 ty0 tx1 ty1 tdx tdy mu ml meu mel mbar ft cd ns fpx fpy ct nb fsd fmv fsl fpl fsw nw nc od fon ftw mx my fup flw nm up lo rx ry hR
  refine lv_aload_n hx hb dL_law_1658 rfl (lv_at hl 1 rfl) ?_
  refine gVv (ci := 4) (q0 := 1) (As := []) (rest := []) ⟨hx, hb, hml, hown, htl⟩ hC (cwV 0 htl gL_law_X4_clear rfl rfl rfl (by decide +kernel) ⟨Nat.le_of_ble_eq_true rfl, Nat.le_of_ble_eq_true rfl⟩) hP hD hA hS hK rfl rfl rfl rfl hl.1 (Nat.le_of_ble_eq_true rfl) dL_law_1659 ⟨(show KC + t + 0 ≤ 601024 by omega), (show KS + 6 * t + 0 ≤ 7293034 by omega)⟩ (fun B2 H locs hq hP hD hS => ?_)
  subst hq
  refine lv_aload_n hx hb dL_law_1662 rfl (lv_at hl 2 rfl) ?_
  refine gVv (ci := 5) (q0 := 2) (As := []) (rest := []) ⟨hx, hb, hml, hown, htl⟩ hM (cwV 0 htl gL_law_X5_clear rfl rfl rfl (by decide +kernel) ⟨Nat.le_of_ble_eq_true rfl, Nat.le_of_ble_eq_true rfl⟩) hP hD hA hS hK rfl rfl rfl rfl hl.1 (Nat.le_of_ble_eq_true rfl) dL_law_1663 ⟨(show KC + t + 0 ≤ 601024 by omega), (show KS + 6 * t + 0 ≤ 7293034 by omega)⟩ (fun B2 H locs hq hP hD hS => ?_)
  obtain ⟨e1, z1, rfl, hR1⟩ := hq
  refine lv_goto (tgt := 1669) hx hb dL_law_1666 (by decide) ?_
  refine W.widen (k := KC + (t + 1)) (n := KS + 6 * (t + 1)) (by omega) (by omega) ?_
  exact kk _ _ _ e1 z1 _ _ _ hR1 hP hD hS hl
theorem and15 (x : Int32) : ∃ k, k < 16 ∧ x &&& nI 15 = nI k := by
  have hb : (x &&& nI 15).toBitVec = x.toBitVec &&& 15#32 := rfl
  have hlt : (x &&& nI 15).toBitVec.toNat < 16 := by
    rw [hb, BitVec.toNat_and]
    have : x.toBitVec.toNat &&& (15#32).toNat ≤ (15#32).toNat := Nat.and_le_right
    have e : (15#32).toNat = 15 := rfl
    omega
  refine ⟨(x &&& nI 15).toBitVec.toNat, hlt, ?_⟩
  apply Int32.toBitVec_inj.mp
  have : ∀ k, k < 16 → (nI k).toBitVec.toNat = k := by
    intro k hk
    have key : ∀ k : Fin 16, (nI k.val).toBitVec.toNat = k.val := by decide +kernel
    exact key ⟨k, hk⟩
  exact BitVec.eq_of_toNat_eq (this _ hlt).symm
theorem gtl {L t : Nat} (hL : L ≤ 4608) (ht : 9 * t ≤ 4617) : Int32.ofNat L - nI 9 < nI (9 * t) ↔ L < 9 * t + 9 := by
  have e1 : (Int32.ofNat L).toInt = (L : Int) := nI_toInt (n := L) (by omega)
  have e9 : (nI 9).toInt = 9 := by decide
  rw [Int32.lt_iff_toInt_lt, Int32.toInt_sub, e1, e9, nI_toInt (by omega), bm32 (by omega) (by omega)]
  omega
set_option maxHeartbeats 4000000 in
set_option maxRecDepth 100000 in
theorem law_body {p : Program} {l : Launch} {e : Env} {s : State} {m : MethodId} {below : List Frame} {meth : Method} {c : Code} {b L : Nat} {xs : Nat → Int32} (dC : Nat → ClassId) (dI : Nat → Nat → Nat) (cJ cI cZ cH cB cT : ClassId) (out ob om ahl abl asr pb atr tb mt : Nat) (fhl fbl ftr : Nat → Option Nat) (hA_ : Nat → Nat × Nat × Nat × Nat × Nat) (bA_ tA_ : Nat → Nat) (apx apy act asd amv asl apl asw aor aon atw aup alw : Nat) (KC KS : Nat) (hKC : KC + 600 ≤ 601024) (hKS : KS + 3600 ≤ 7293034) (hL : L ≤ 4608) (C0 : lw_At p s m meth c b L xs) (hst : l.stackTraces = false) (hT : tS (fun q : Nat => s.heap.size ≤ q) s) (hnc : ncS s) (hlk : (∀ j, j < 16 → fhl j = some (hA_ j).1) ∧ (∀ j, j < 16 → fbl j = some (bA_ j)) ∧ (∀ j, j < 8 → ftr j = some (tA_ j))) (hK : va_K (dC, dI) vwCl (tysL cJ cI cZ cH cB cT) s) (t : Nat) (ht : 9 * t + 9 ≤ L) (fo : Nat → Int64) (cc_ : CD) (cd : Nat) (ee : ED) (zz : ZD) (hR : RC cc_ ee) (H : Heap) (locs : List Loc) (ls : Array Slot) (hP : va_P (dC, dI) vwCl (LWd cJ cI cZ cH cB cT out ob om ahl abl asr pb atr tb mt fhl fbl ftr hA_ bA_ tA_ apx apy act asd amv asl apl asw aor aon atw aup alw fo cc_ cd ee zz) H) (hD : va_D (fun q : Nat => s.heap.size ≤ q) (LWd cJ cI cZ cH cB cT out ob om ahl abl asr pb atr tb mt fhl fbl ftr hA_ bA_ tA_ apx apy act asd amv asl apl asw aor aon atw aup alw fo cc_ cd ee zz)) (hS : va_S (fun q : Nat => s.heap.size ≤ q) s.heap H locs) (hl : lv_has ls 8 [(0, .ref b), (1, .ref ob), (2, .ref om), (3, .ref out), (4, .int (nI (9 * t)))]) (kk : ∀ (f1 : Nat → Int64) (c1 : CD) (cd1 : Nat) (e1 : ED) (z1 : ZD) (H : Heap) (locs : List Loc) (ls : Array Slot), RC c1 e1 → va_P (dC, dI) vwCl (LWd cJ cI cZ cH cB cT out ob om ahl abl asr pb atr tb mt fhl fbl ftr hA_ bA_ tA_ apx apy act asd amv asl apl asw aor aon atw aup alw f1 c1 cd1 e1 z1) H → va_D (fun q : Nat => s.heap.size ≤ q) (LWd cJ cI cZ cH cB cT out ob om ahl abl asr pb atr tb mt fhl fbl ftr hA_ bA_ tA_ apx apy act asd amv asl apl asw aor aon atw aup alw f1 c1 cd1 e1 z1) → va_S (fun q : Nat => s.heap.size ≤ q) s.heap H locs → lv_has ls 8 [(0, .ref b), (1, .ref ob), (2, .ref om), (3, .ref out), (4, .int (nI (9 * t)))] → W p l e room_1 s m #[Value.ref b] below meth c H locs (KC + (t + 1)) (KS + 6 * (t + 1)) (lw_Z below #[Value.ref b] s) (F0 m 1669 ls [])) : W p l e room_1 s m #[Value.ref b] below meth c H locs (KC + t) (KS + 6 * t) (lw_Z below #[Value.ref b] s) (F0 m 33 ls []) := by
  obtain ⟨hx, hb, hr, hml, hown, hts, hX, hbl, hlocks, hgv⟩ := id C0
  have hbA : ¬ (fun q : Nat => s.heap.size ≤ q) b := Nat.not_le.mpr hbl
  refine lv_aload_n hx hb dL_law_33 rfl (lv_at hl 0 rfl) ?_
  refine lv_iload hx hb dL_law_34 (lv_at hl 4 rfl) ?_
  refine va_sld hx hb hX hbl hbA hS (vp_in_nI (show 9 * t < L by omega) (by omega)) dL_law_36 ?_
  rw [show (nI (9 * t)).toNatClampNeg = 9 * t from nI_clamp (show 9 * t < 2 ^ 31 by omega)]
  refine lv_bipush (v := (nI 15)) hx hb dL_law_37 (by decide) ?_
  refine lv_iand hx hb dL_law_39 ?_
  obtain ⟨k, hk, ek⟩ := and15 (xs (9 * t))
  rw [ek]
  match k, hk with
  | 0, _ =>
    refine lv_tableIn (tgt := 116) (off := 76) hx hb dL_law_40 (by decide) (by decide) (by decide) (by decide) ?_
    exact law_shape dC dI cJ cI cZ cH cB cT out ob om ahl abl asr pb atr tb mt fhl fbl ftr hA_ bA_ tA_ apx apy act asd amv asl apl asw aor aon atw aup alw KC KS hKC hKS hL C0 hst hT hnc hlk hK t ht fo cc_ cd ee zz hR H locs ls hP hD hS hl kk
  | 1, _ =>
    refine lv_tableIn (tgt := 160) (off := 120) hx hb dL_law_40 (by decide) (by decide) (by decide) (by decide) ?_
    exact law_point dC dI cJ cI cZ cH cB cT out ob om ahl abl asr pb atr tb mt fhl fbl ftr hA_ bA_ tA_ apx apy act asd amv asl apl asw aor aon atw aup alw KC KS hKC hKS hL C0 hst hT hnc hlk hK t ht fo cc_ cd ee zz hR H locs ls hP hD hS hl kk
  | 2, _ =>
    refine lv_tableIn (tgt := 311) (off := 271) hx hb dL_law_40 (by decide) (by decide) (by decide) (by decide) ?_
    exact law_corners dC dI cJ cI cZ cH cB cT out ob om ahl abl asr pb atr tb mt fhl fbl ftr hA_ bA_ tA_ apx apy act asd amv asl apl asw aor aon atw aup alw KC KS hKC hKS hL C0 hst hT hnc hlk hK t ht fo cc_ cd ee zz hR H locs ls hP hD hS hl kk
  | 3, _ =>
    refine lv_tableIn (tgt := 367) (off := 327) hx hb dL_law_40 (by decide) (by decide) (by decide) (by decide) ?_
    exact law_corner dC dI cJ cI cZ cH cB cT out ob om ahl abl asr pb atr tb mt fhl fbl ftr hA_ bA_ tA_ apx apy act asd amv asl apl asw aor aon atw aup alw KC KS hKC hKS hL C0 hst hT hnc hlk hK t ht fo cc_ cd ee zz hR H locs ls hP hD hS hl kk
  | 4, _ =>
    refine lv_tableIn (tgt := 446) (off := 406) hx hb dL_law_40 (by decide) (by decide) (by decide) (by decide) ?_
    exact law_apart dC dI cJ cI cZ cH cB cT out ob om ahl abl asr pb atr tb mt fhl fbl ftr hA_ bA_ tA_ apx apy act asd amv asl apl asw aor aon atw aup alw KC KS hKC hKS hL C0 hst hT hnc hlk hK t ht fo cc_ cd ee zz hR H locs ls hP hD hS hl kk
  | 5, _ =>
    refine lv_tableIn (tgt := 521) (off := 481) hx hb dL_law_40 (by decide) (by decide) (by decide) (by decide) ?_
    exact law_box dC dI cJ cI cZ cH cB cT out ob om ahl abl asr pb atr tb mt fhl fbl ftr hA_ bA_ tA_ apx apy act asd amv asl apl asw aor aon atw aup alw KC KS hKC hKS hL C0 hst hT hnc hlk hK t ht fo cc_ cd ee zz hR H locs ls hP hD hS hl kk
  | 6, _ =>
    refine lv_tableIn (tgt := 747) (off := 707) hx hb dL_law_40 (by decide) (by decide) (by decide) (by decide) ?_
    exact law_move dC dI cJ cI cZ cH cB cT out ob om ahl abl asr pb atr tb mt fhl fbl ftr hA_ bA_ tA_ apx apy act asd amv asl apl asw aor aon atw aup alw KC KS hKC hKS hL C0 hst hT hnc hlk hK t ht fo cc_ cd ee zz hR H locs ls hP hD hS hl kk
  | 7, _ =>
    refine lv_tableIn (tgt := 898) (off := 858) hx hb dL_law_40 (by decide) (by decide) (by decide) (by decide) ?_
    exact law_touch dC dI cJ cI cZ cH cB cT out ob om ahl abl asr pb atr tb mt fhl fbl ftr hA_ bA_ tA_ apx apy act asd amv asl apl asw aor aon atw aup alw KC KS hKC hKS hL C0 hst hT hnc hlk hK t ht fo cc_ cd ee zz hR H locs ls hP hD hS hl kk
  | 8, _ =>
    refine lv_tableIn (tgt := 977) (off := 937) hx hb dL_law_40 (by decide) (by decide) (by decide) (by decide) ?_
    exact law_overlap dC dI cJ cI cZ cH cB cT out ob om ahl abl asr pb atr tb mt fhl fbl ftr hA_ bA_ tA_ apx apy act asd amv asl apl asw aor aon atw aup alw KC KS hKC hKS hL C0 hst hT hnc hlk hK t ht fo cc_ cd ee zz hR H locs ls hP hD hS hl kk
  | 9, _ =>
    refine lv_tableIn (tgt := 1056) (off := 1016) hx hb dL_law_40 (by decide) (by decide) (by decide) (by decide) ?_
    exact law_tile dC dI cJ cI cZ cH cB cT out ob om ahl abl asr pb atr tb mt fhl fbl ftr hA_ bA_ tA_ apx apy act asd amv asl apl asw aor aon atw aup alw KC KS hKC hKS hL C0 hst hT hnc hlk hK t ht fo cc_ cd ee zz hR H locs ls hP hD hS hl kk
  | 10, _ =>
    refine lv_tableIn (tgt := 1159) (off := 1119) hx hb dL_law_40 (by decide) (by decide) (by decide) (by decide) ?_
    exact law_player dC dI cJ cI cZ cH cB cT out ob om ahl abl asr pb atr tb mt fhl fbl ftr hA_ bA_ tA_ apx apy act asd amv asl apl asw aor aon atw aup alw KC KS hKC hKS hL C0 hst hT hnc hlk hK t ht fo cc_ cd ee zz hR H locs ls hP hD hS hl kk
  | 11, _ =>
    refine lv_tableIn (tgt := 1392) (off := 1352) hx hb dL_law_40 (by decide) (by decide) (by decide) (by decide) ?_
    exact law_step dC dI cJ cI cZ cH cB cT out ob om ahl abl asr pb atr tb mt fhl fbl ftr hA_ bA_ tA_ apx apy act asd amv asl apl asw aor aon atw aup alw KC KS hKC hKS hL C0 hst hT hnc hlk hK t ht fo cc_ cd ee zz hR H locs ls hP hD hS hl kk
  | 12, _ =>
    refine lv_tableIn (tgt := 1536) (off := 1496) hx hb dL_law_40 (by decide) (by decide) (by decide) (by decide) ?_
    exact law_at dC dI cJ cI cZ cH cB cT out ob om ahl abl asr pb atr tb mt fhl fbl ftr hA_ bA_ tA_ apx apy act asd amv asl apl asw aor aon atw aup alw KC KS hKC hKS hL C0 hst hT hnc hlk hK t ht fo cc_ cd ee zz hR H locs ls hP hD hS hl kk
  | 13, _ =>
    refine lv_tableIn (tgt := 1591) (off := 1551) hx hb dL_law_40 (by decide) (by decide) (by decide) (by decide) ?_
    exact law_sweep dC dI cJ cI cZ cH cB cT out ob om ahl abl asr pb atr tb mt fhl fbl ftr hA_ bA_ tA_ apx apy act asd amv asl apl asw aor aon atw aup alw KC KS hKC hKS hL C0 hst hT hnc hlk hK t ht fo cc_ cd ee zz hR H locs ls hP hD hS hl kk
  | 14, _ =>
    refine lv_tableIn (tgt := 1658) (off := 1618) hx hb dL_law_40 (by decide) (by decide) (by decide) (by decide) ?_
    exact law_clear dC dI cJ cI cZ cH cB cT out ob om ahl abl asr pb atr tb mt fhl fbl ftr hA_ bA_ tA_ apx apy act asd amv asl apl asw aor aon atw aup alw KC KS hKC hKS hL C0 hst hT hnc hlk hK t ht fo cc_ cd ee zz hR H locs ls hP hD hS hl kk
  | 15, _ =>
    refine lv_tableOut (tgt := 1669) hx hb dL_law_40 (Or.inr (by decide)) (by decide) ?_
    refine W.widen (k := KC + (t + 1)) (n := KS + 6 * (t + 1)) (by omega) (by omega) ?_
    exact kk fo cc_ cd ee zz H locs ls hR hP hD hS hl
  | k + 16, hk => exact absurd hk (by omega)
set_option maxHeartbeats 4000000 in
set_option maxRecDepth 100000 in
theorem law_loop {p : Program} {l : Launch} {e : Env} {s : State} {m : MethodId} {below : List Frame} {meth : Method} {c : Code} {b L : Nat} {xs : Nat → Int32} (dC : Nat → ClassId) (dI : Nat → Nat → Nat) (cJ cI cZ cH cB cT : ClassId) (out ob om ahl abl asr pb atr tb mt : Nat) (fhl fbl ftr : Nat → Option Nat) (hA_ : Nat → Nat × Nat × Nat × Nat × Nat) (bA_ tA_ : Nat → Nat) (apx apy act asd amv asl apl asw aor aon atw aup alw : Nat) (KC KS : Nat) (hKC : KC + 600 ≤ 601024) (hKS : KS + 3600 ≤ 7293034) (hL : L ≤ 4608) (C0 : lw_At p s m meth c b L xs) (hst : l.stackTraces = false) (hT : tS (fun q : Nat => s.heap.size ≤ q) s) (hnc : ncS s) (hlk : (∀ j, j < 16 → fhl j = some (hA_ j).1) ∧ (∀ j, j < 16 → fbl j = some (bA_ j)) ∧ (∀ j, j < 8 → ftr j = some (tA_ j))) (hK : va_K (dC, dI) vwCl (tysL cJ cI cZ cH cB cT) s) : ∀ (n t : Nat), 9 * t ≤ L → 512 < t + n → ∀ (fo : Nat → Int64) (cc_ : CD) (cd : Nat) (ee : ED) (zz : ZD) (hR : RC cc_ ee) (H : Heap) (locs : List Loc) (ls : Array Slot) (hP : va_P (dC, dI) vwCl (LWd cJ cI cZ cH cB cT out ob om ahl abl asr pb atr tb mt fhl fbl ftr hA_ bA_ tA_ apx apy act asd amv asl apl asw aor aon atw aup alw fo cc_ cd ee zz) H) (hD : va_D (fun q : Nat => s.heap.size ≤ q) (LWd cJ cI cZ cH cB cT out ob om ahl abl asr pb atr tb mt fhl fbl ftr hA_ bA_ tA_ apx apy act asd amv asl apl asw aor aon atw aup alw fo cc_ cd ee zz)) (hS : va_S (fun q : Nat => s.heap.size ≤ q) s.heap H locs) (hl : lv_has ls 8 [(0, .ref b), (1, .ref ob), (2, .ref om), (3, .ref out), (4, .int (nI (9 * t)))]), W p l e room_1 s m #[Value.ref b] below meth c H locs (KC + t) (KS + 6 * t) (lw_Z below #[Value.ref b] s) (F0 m 23 ls []) := by
  intro n
  induction n with
  | zero => intro t h1 h2; exact absurd h2 (by omega)
  | succ n ih =>
    intro t h1 h2 fo cc_ cd ee zz hR H locs ls hP hD hS hl
    obtain ⟨hx, hb, hr, hml, hown, hts, hX, hbl, hlocks, hgv⟩ := id C0
    have hbA : ¬ (fun q : Nat => s.heap.size ≤ q) b := Nat.not_le.mpr hbl
    refine lv_iload hx hb dL_law_23 (lv_at hl 4 rfl) ?_
    refine lv_aload_n hx hb dL_law_25 rfl (lv_at hl 0 rfl) ?_
    refine va_slen hx hb hX hbl hbA hS dL_law_26 ?_
    refine lv_bipush (v := (nI 9)) hx hb dL_law_27 (by decide) ?_
    refine lv_isub hx hb dL_law_29 ?_
    refine lv_icmp_gt (tgt := 1675) hx hb dL_law_30 (by decide) (fun cg => ?_) (fun cg => ?_)
    · refine lv_iconst (v := 1) hx hb dL_law_1675 (by decide) ?_
      refine va_forget (fun q hq => hS.2.2 q hq) ?_
      refine W.widen (k := 601024) (n := 7293034) (by omega) (by omega) ?_
      exact lw_ret hx hb hr hlocks dL_law_1676
    · rw [gtl hL (by omega)] at cg
      refine law_body dC dI cJ cI cZ cH cB cT out ob om ahl abl asr pb atr tb mt fhl fbl ftr hA_ bA_ tA_ apx apy act asd amv asl apl asw aor aon atw aup alw KC KS hKC hKS hL C0 hst hT hnc hlk hK t (by omega) fo cc_ cd ee zz hR H locs ls hP hD hS hl (fun f1 c1 cd1 e1 z1 H locs ls hR hP hD hS hl => ?_)
      refine lv_iinc (v := (nI (9 * (t + 1)))) (lv' := [(4, .int (nI (9 * (t + 1)))), (0, .ref b), (1, .ref ob), (2, .ref om), (3, .ref out)]) hx hb dL_law_1669 hl (k := 4) rfl (show (nI (9 * t)) + Int32.ofInt 9 = nI (9 * (t + 1)) from nI_add (9 * t) 9) (by decide) rfl (fun ls hl => ?_)
      refine lv_goto (tgt := 23) hx hb dL_law_1672 (by decide) ?_
      exact ih (t + 1) (by omega) (by omega) f1 c1 cd1 e1 z1 hR H locs ls hP hD hS (lv_sub hl [1, 2, 3, 4, 0] rfl)
