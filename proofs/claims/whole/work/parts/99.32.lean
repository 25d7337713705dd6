set_option maxHeartbeats 4000000 in
set_option maxRecDepth 100000 in
theorem law_box {p : Program} {l : Launch} {e : Env} {s : State} {m : MethodId} {below : List Frame} {meth : Method} {c : Code} {b L : Nat} {xs : Nat → Int32} (dC : Nat → ClassId) (dI : Nat → Nat → Nat) (cJ cI cZ cH cB cT : ClassId) (out ob om ahl abl asr pb atr tb mt : Nat) (fhl fbl ftr : Nat → Option Nat) (hA_ : Nat → Nat × Nat × Nat × Nat × Nat) (bA_ tA_ : Nat → Nat) (apx apy act asd amv asl apl asw aor aon atw aup alw : Nat) (KC KS : Nat) (hKC : KC + 600 ≤ 601024) (hKS : KS + 3600 ≤ 7293034) (hL : L ≤ 4608) (C0 : lw_At p s m meth c b L xs) (hst : l.stackTraces = false) (hT : tS (fun q : Nat => s.heap.size ≤ q) s) (hnc : ncS s) (hlk : (∀ j, j < 16 → fhl j = some (hA_ j).1) ∧ (∀ j, j < 16 → fbl j = some (bA_ j)) ∧ (∀ j, j < 8 → ftr j = some (tA_ j))) (hK : va_K (dC, dI) vwCl (tysL cJ cI cZ cH cB cT) s) (t : Nat) (ht : 9 * t + 9 ≤ L) (fo : Nat → Int64) (cc_ : CD) (cd : Nat) (ee : ED) (zz : ZD) (hR : RC cc_ ee) (H : Heap) (locs : List Loc) (ls : Array Slot) (hP : va_P (dC, dI) vwCl (LWd cJ cI cZ cH cB cT out ob om ahl abl asr pb atr tb mt fhl fbl ftr hA_ bA_ tA_ apx apy act asd amv asl apl asw aor aon atw aup alw fo cc_ cd ee zz) H) (hD : va_D (fun q : Nat => s.heap.size ≤ q) (LWd cJ cI cZ cH cB cT out ob om ahl abl asr pb atr tb mt fhl fbl ftr hA_ bA_ tA_ apx apy act asd amv asl apl asw aor aon atw aup alw fo cc_ cd ee zz)) (hS : va_S (fun q : Nat => s.heap.size ≤ q) s.heap H locs) (hl : lv_has ls 8 [(0, .ref b), (1, .ref ob), (2, .ref om), (3, .ref out), (4, .int (nI (9 * t)))]) (kk : ∀ (f1 : Nat → Int64) (c1 : CD) (cd1 : Nat) (e1 : ED) (z1 : ZD) (H : Heap) (locs : List Loc) (ls : Array Slot), RC c1 e1 → va_P (dC, dI) vwCl (LWd cJ cI cZ cH cB cT out ob om ahl abl asr pb atr tb mt fhl fbl ftr hA_ bA_ tA_ apx apy act asd amv asl apl asw aor aon atw aup alw f1 c1 cd1 e1 z1) H → va_D (fun q : Nat => s.heap.size ≤ q) (LWd cJ cI cZ cH cB cT out ob om ahl abl asr pb atr tb mt fhl fbl ftr hA_ bA_ tA_ apx apy act asd amv asl apl asw aor aon atw aup alw f1 c1 cd1 e1 z1) → va_S (fun q : Nat => s.heap.size ≤ q) s.heap H locs → lv_has ls 8 [(0, .ref b), (1, .ref ob), (2, .ref om), (3, .ref out), (4, .int (nI (9 * t)))] → W p l e room_1 s m #[Value.ref b] below meth c H locs (KC + (t + 1)) (KS + 6 * (t + 1)) (lw_Z below #[Value.ref b] s) (F0 m 1669 ls [])) : W p l e room_1 s m #[Value.ref b] below meth c H locs (KC + t) (KS + 6 * t) (lw_Z below #[Value.ref b] s) (F0 m 521 ls []) := by
  obtain ⟨hx, hb, hr, hml, hown, hts, hX, hbl, hlocks, hgv⟩ := C0
  have hA : ∀ q : Nat, s.heap.size ≤ q → (fun q : Nat => s.heap.size ≤ q) q := fun _ h => h
  have hbA : ¬ (fun q : Nat => s.heap.size ≤ q) b := Nat.not_le.mpr hbl
  have htl : ∀ w ∈ wsL_law, w.before #[Value.ref b] s = true := fun w h => hts w (wsL_law_in w h)
  have htt : t ≤ 512 := by omega
  obtain ⟨nh, kb, nt, hd, hf, bd, fsr, ⟨px0, py0, px1, py1, pdx, pdy⟩, ⟨tx0, ty0, tx1, ty1, tdx, tdy⟩, ⟨mu, ml, meu, mel, mbar⟩, ft⟩ := cc_
  obtain ⟨ns, fpx, fpy, ct, nb, fsd, fmv, fsl, fpl, fsw, nw⟩ := ee
  obtain ⟨nc, od, fon, ftw, mx, my, fup, flw, nm, up, lo, rx, ry⟩ := zz
  refine lv_aload_n hx hb dL_law_521 rfl (lv_at hl 1 rfl) ?_
  refine lv_aload_n hx hb dL_law_522 rfl (lv_at hl 0 rfl) ?_
  refine lv_iload hx hb dL_law_523 (lv_at hl 4 rfl) ?_
  refine lv_iconst (v := (nI 1)) hx hb dL_law_525 (by decide) ?_
  refine lv_iadd hx hb dL_law_526 ?_
  rw [show nI (9 * t) + nI 1 = nI (9 * t + 1) from nI_add _ _]
  refine va_sld hx hb hX hbl hbA hS (vp_in_nI (show 9 * t + 1 < L by omega) (by omega)) dL_law_527 ?_
  rw [show (nI (9 * t + 1)).toNatClampNeg = 9 * t + 1 from nI_clamp (show 9 * t + 1 < 2 ^ 31 by omega)]
  refine lv_i2l (v := (xs (9 * t + 1)).toInt64) hx hb dL_law_528 rfl ?_
  refine lv_bipush (v := (nI 32)) hx hb dL_law_529 (by decide) ?_
  refine lv_lshl (v := ((xs (9 * t + 1)).toInt64 <<< ((nI 32).toInt64 &&& 63))) hx hb dL_law_531 rfl ?_
  refine lv_aload_n hx hb dL_law_532 rfl (lv_at hl 0 rfl) ?_
  refine lv_iload hx hb dL_law_533 (lv_at hl 4 rfl) ?_
  refine lv_iconst (v := (nI 2)) hx hb dL_law_535 (by decide) ?_
  refine lv_iadd hx hb dL_law_536 ?_
  rw [show nI (9 * t) + nI 2 = nI (9 * t + 2) from nI_add _ _]
  refine va_sld hx hb hX hbl hbA hS (vp_in_nI (show 9 * t + 2 < L by omega) (by omega)) dL_law_537 ?_
  rw [show (nI (9 * t + 2)).toNatClampNeg = 9 * t + 2 from nI_clamp (show 9 * t + 2 < 2 ^ 31 by omega)]
  refine lv_i2l (v := (xs (9 * t + 2)).toInt64) hx hb dL_law_538 rfl ?_
  refine lv_ldc2 hx hb hown (hts (.constantLong RL 81 (4294967295)) (by decide +kernel)) dL_law_539 ?_
  refine lv_land hx hb dL_law_542 ?_
  refine lv_lor hx hb dL_law_543 ?_
  refine lv_aload_n hx hb dL_law_544 rfl (lv_at hl 0 rfl) ?_
  refine lv_iload hx hb dL_law_545 (lv_at hl 4 rfl) ?_
  refine lv_iconst (v := (nI 3)) hx hb dL_law_547 (by decide) ?_
  refine lv_iadd hx hb dL_law_548 ?_
  rw [show nI (9 * t) + nI 3 = nI (9 * t + 3) from nI_add _ _]
  refine va_sld hx hb hX hbl hbA hS (vp_in_nI (show 9 * t + 3 < L by omega) (by omega)) dL_law_549 ?_
  rw [show (nI (9 * t + 3)).toNatClampNeg = 9 * t + 3 from nI_clamp (show 9 * t + 3 < 2 ^ 31 by omega)]
  refine lv_i2l (v := (xs (9 * t + 3)).toInt64) hx hb dL_law_550 rfl ?_
  refine lv_bipush (v := (nI 32)) hx hb dL_law_551 (by decide) ?_
  refine lv_lshl (v := ((xs (9 * t + 3)).toInt64 <<< ((nI 32).toInt64 &&& 63))) hx hb dL_law_553 rfl ?_
  refine lv_aload_n hx hb dL_law_554 rfl (lv_at hl 0 rfl) ?_
  refine lv_iload hx hb dL_law_555 (lv_at hl 4 rfl) ?_
  refine lv_iconst (v := (nI 4)) hx hb dL_law_557 (by decide) ?_
  refine lv_iadd hx hb dL_law_558 ?_
  rw [show nI (9 * t) + nI 4 = nI (9 * t + 4) from nI_add _ _]
  refine va_sld hx hb hX hbl hbA hS (vp_in_nI (show 9 * t + 4 < L by omega) (by omega)) dL_law_559 ?_
  rw [show (nI (9 * t + 4)).toNatClampNeg = 9 * t + 4 from nI_clamp (show 9 * t + 4 < 2 ^ 31 by omega)]
  refine lv_i2l (v := (xs (9 * t + 4)).toInt64) hx hb dL_law_560 rfl ?_
  refine lv_ldc2 hx hb hown (hts (.constantLong RL 81 (4294967295)) (by decide +kernel)) dL_law_561 ?_
  refine lv_land hx hb dL_law_564 ?_
  refine lv_lor hx hb dL_law_565 ?_
  refine lv_aload_n hx hb dL_law_566 rfl (lv_at hl 0 rfl) ?_
  refine lv_iload hx hb dL_law_567 (lv_at hl 4 rfl) ?_
  refine lv_iconst (v := (nI 5)) hx hb dL_law_569 (by decide) ?_
  refine lv_iadd hx hb dL_law_570 ?_
  rw [show nI (9 * t) + nI 5 = nI (9 * t + 5) from nI_add _ _]
  refine va_sld hx hb hX hbl hbA hS (vp_in_nI (show 9 * t + 5 < L by omega) (by omega)) dL_law_571 ?_
  rw [show (nI (9 * t + 5)).toNatClampNeg = 9 * t + 5 from nI_clamp (show 9 * t + 5 < 2 ^ 31 by omega)]
  refine lv_i2l (v := (xs (9 * t + 5)).toInt64) hx hb dL_law_572 rfl ?_
  refine lv_bipush (v := (nI 32)) hx hb dL_law_573 (by decide) ?_
  refine lv_lshl (v := ((xs (9 * t + 5)).toInt64 <<< ((nI 32).toInt64 &&& 63))) hx hb dL_law_575 rfl ?_
  refine lv_aload_n hx hb dL_law_576 rfl (lv_at hl 0 rfl) ?_
  refine lv_iload hx hb dL_law_577 (lv_at hl 4 rfl) ?_
  refine lv_bipush (v := (nI 6)) hx hb dL_law_579 (by decide) ?_
  refine lv_iadd hx hb dL_law_581 ?_
  rw [show nI (9 * t) + nI 6 = nI (9 * t + 6) from nI_add _ _]
  refine va_sld hx hb hX hbl hbA hS (vp_in_nI (show 9 * t + 6 < L by omega) (by omega)) dL_law_582 ?_
  rw [show (nI (9 * t + 6)).toNatClampNeg = 9 * t + 6 from nI_clamp (show 9 * t + 6 < 2 ^ 31 by omega)]
  refine lv_i2l (v := (xs (9 * t + 6)).toInt64) hx hb dL_law_583 rfl ?_
  refine lv_ldc2 hx hb hown (hts (.constantLong RL 81 (4294967295)) (by decide +kernel)) dL_law_584 ?_
  refine lv_land hx hb dL_law_587 ?_
  refine lv_lor hx hb dL_law_588 ?_
  refine lv_aload_n hx hb dL_law_589 rfl (lv_at hl 0 rfl) ?_
  refine lv_iload hx hb dL_law_590 (lv_at hl 4 rfl) ?_
  refine lv_bipush (v := (nI 7)) hx hb dL_law_592 (by decide) ?_
  refine lv_iadd hx hb dL_law_594 ?_
  rw [show nI (9 * t) + nI 7 = nI (9 * t + 7) from nI_add _ _]
  refine va_sld hx hb hX hbl hbA hS (vp_in_nI (show 9 * t + 7 < L by omega) (by omega)) dL_law_595 ?_
  rw [show (nI (9 * t + 7)).toNatClampNeg = 9 * t + 7 from nI_clamp (show 9 * t + 7 < 2 ^ 31 by omega)]
  refine lv_i2l (v := (xs (9 * t + 7)).toInt64) hx hb dL_law_596 rfl ?_
  refine lv_bipush (v := (nI 32)) hx hb dL_law_597 (by decide) ?_
  refine lv_lshl (v := ((xs (9 * t + 7)).toInt64 <<< ((nI 32).toInt64 &&& 63))) hx hb dL_law_599 rfl ?_
  refine lv_aload_n hx hb dL_law_600 rfl (lv_at hl 0 rfl) ?_
  refine lv_iload hx hb dL_law_601 (lv_at hl 4 rfl) ?_
  refine lv_bipush (v := (nI 8)) hx hb dL_law_603 (by decide) ?_
  refine lv_iadd hx hb dL_law_605 ?_
  rw [show nI (9 * t) + nI 8 = nI (9 * t + 8) from nI_add _ _]
  refine va_sld hx hb hX hbl hbA hS (vp_in_nI (show 9 * t + 8 < L by omega) (by omega)) dL_law_606 ?_
  rw [show (nI (9 * t + 8)).toNatClampNeg = 9 * t + 8 from nI_clamp (show 9 * t + 8 < 2 ^ 31 by omega)]
  refine lv_i2l (v := (xs (9 * t + 8)).toInt64) hx hb dL_law_607 rfl ?_
  refine lv_ldc2 hx hb hown (hts (.constantLong RL 81 (4294967295)) (by decide +kernel)) dL_law_608 ?_
  refine lv_land hx hb dL_law_611 ?_
  refine lv_lor hx hb dL_law_612 ?_
  refine lv_aload_n hx hb dL_law_613 rfl (lv_at hl 3 rfl) ?_
  obtain ⟨k, Ps, hk4, hH, hM⟩ := J_box l dC dI cJ cI cZ cH cB cT out ob om ahl abl asr pb atr tb mt fhl fbl ftr hA_ bA_ tA_ apx apy act asd amv asl apl asw aor aon atw aup alw fo nh kb nt hd hf bd fsr px0 py0 px1 py1 pdx pdy tx0 ty0 tx1 ty1 tdx tdy mu ml meu mel mbar ft cd ns fpx fpy ct nb fsd fmv fsl fpl fsw nw nc od fon ftw mx my fup flw nm up lo rx ry (lJ (xs (9 * t + 1)) (xs (9 * t + 2))) (lJ (xs (9 * t + 3)) (xs (9 * t + 4))) (lJ (xs (9 * t + 5)) (xs (9 * t + 6))) (lJ (xs (9 * t + 7)) (xs (9 * t + 8))) hst hlk hR
  refine gSH (As := [.ref ob, .long (lJ (xs (9 * t + 1)) (xs (9 * t + 2))), .long (lJ (xs (9 * t + 3)) (xs (9 * t + 4))), .long (lJ (xs (9 * t + 5)) (xs (9 * t + 6))), .long (lJ (xs (9 * t + 7)) (xs (9 * t + 8))), .ref out]) (rest := []) ⟨hx, hb, hml, hown, htl⟩ hH (vx_cwSW 6 htl gL_law_L_box rfl rfl rfl (by decide +kernel) ⟨Nat.le_of_ble_eq_true rfl, Nat.le_of_ble_eq_true rfl⟩) hP hD hA hS hK hT hnc rfl rfl hl.1 (Nat.le_of_ble_eq_true rfl) dL_law_614 ⟨(show KC + t + 1 ≤ 601024 by omega), (show KS + 6 * t + 6 ≤ 7293034 by omega)⟩ (fun r B2 H locs hq hP hD hS => ?_)
  obtain ⟨rfl, f1, c1, hps, rfl⟩ := hq
  refine lv_istore (lv' := [(5, .int (nI k)), (0, .ref b), (1, .ref ob), (2, .ref om), (3, .ref out), (4, .int (nI (9 * t)))]) hx hb dL_law_617 hl (by decide) rfl (fun ls hl => ?_)
  refine lv_aload_n hx hb dL_law_619 rfl (lv_at hl 3 rfl) ?_
  refine lv_aload_n hx hb dL_law_620 rfl (lv_at hl 1 rfl) ?_
  refine lv_iload hx hb dL_law_621 (lv_at hl 5 rfl) ?_
  refine lv_iconst (v := (nI 1)) hx hb dL_law_623 (by decide) ?_
  refine lv_iadd hx hb dL_law_624 ?_
  rw [show nI (9 * t) + nI 1 = nI (9 * t + 1) from nI_add _ _]
  refine va_sld hx hb hX hbl hbA hS (vp_in_nI (show 9 * t + 1 < L by omega) (by omega)) dL_law_625 ?_
  rw [show (nI (9 * t + 1)).toNatClampNeg = 9 * t + 1 from nI_clamp (show 9 * t + 1 < 2 ^ 31 by omega)]
  refine lv_i2l (v := (xs (9 * t + 1)).toInt64) hx hb dL_law_626 rfl ?_
  refine lv_bipush (v := (nI 32)) hx hb dL_law_627 (by decide) ?_
  refine lv_lshl (v := ((xs (9 * t + 1)).toInt64 <<< ((nI 32).toInt64 &&& 63))) hx hb dL_law_629 rfl ?_
  refine lv_aload_n hx hb dL_law_630 rfl (lv_at hl 1 rfl) ?_
  refine lv_iload hx hb dL_law_631 (lv_at hl 5 rfl) ?_
  refine lv_iconst (v := (nI 2)) hx hb dL_law_633 (by decide) ?_
  refine lv_iadd hx hb dL_law_634 ?_
  rw [show nI (9 * t) + nI 2 = nI (9 * t + 2) from nI_add _ _]
  refine va_sld hx hb hX hbl hbA hS (vp_in_nI (show 9 * t + 2 < L by omega) (by omega)) dL_law_635 ?_
  rw [show (nI (9 * t + 2)).toNatClampNeg = 9 * t + 2 from nI_clamp (show 9 * t + 2 < 2 ^ 31 by omega)]
  refine lv_i2l (v := (xs (9 * t + 2)).toInt64) hx hb dL_law_636 rfl ?_
  refine lv_ldc2 hx hb hown (hts (.constantLong RL 81 (4294967295)) (by decide +kernel)) dL_law_637 ?_
  refine lv_land hx hb dL_law_640 ?_
  refine lv_lor hx hb dL_law_641 ?_
  refine lv_aload_n hx hb dL_law_642 rfl (lv_at hl 1 rfl) ?_
  refine lv_iload hx hb dL_law_643 (lv_at hl 5 rfl) ?_
  refine lv_iconst (v := (nI 3)) hx hb dL_law_645 (by decide) ?_
  refine lv_iadd hx hb dL_law_646 ?_
  rw [show nI (9 * t) + nI 3 = nI (9 * t + 3) from nI_add _ _]
  refine va_sld hx hb hX hbl hbA hS (vp_in_nI (show 9 * t + 3 < L by omega) (by omega)) dL_law_647 ?_
  rw [show (nI (9 * t + 3)).toNatClampNeg = 9 * t + 3 from nI_clamp (show 9 * t + 3 < 2 ^ 31 by omega)]
  refine lv_i2l (v := (xs (9 * t + 3)).toInt64) hx hb dL_law_648 rfl ?_
  refine lv_bipush (v := (nI 32)) hx hb dL_law_649 (by decide) ?_
  refine lv_lshl (v := ((xs (9 * t + 3)).toInt64 <<< ((nI 32).toInt64 &&& 63))) hx hb dL_law_651 rfl ?_
  refine lv_aload_n hx hb dL_law_652 rfl (lv_at hl 1 rfl) ?_
  refine lv_iload hx hb dL_law_653 (lv_at hl 5 rfl) ?_
  refine lv_iconst (v := (nI 4)) hx hb dL_law_655 (by decide) ?_
  refine lv_iadd hx hb dL_law_656 ?_
  rw [show nI (9 * t) + nI 4 = nI (9 * t + 4) from nI_add _ _]
  refine va_sld hx hb hX hbl hbA hS (vp_in_nI (show 9 * t + 4 < L by omega) (by omega)) dL_law_657 ?_
  rw [show (nI (9 * t + 4)).toNatClampNeg = 9 * t + 4 from nI_clamp (show 9 * t + 4 < 2 ^ 31 by omega)]
  refine lv_i2l (v := (xs (9 * t + 4)).toInt64) hx hb dL_law_658 rfl ?_
  refine lv_ldc2 hx hb hown (hts (.constantLong RL 81 (4294967295)) (by decide +kernel)) dL_law_659 ?_
  refine lv_land hx hb dL_law_662 ?_
  refine lv_lor hx hb dL_law_663 ?_
  refine lv_aload_n hx hb dL_law_664 rfl (lv_at hl 1 rfl) ?_
  refine lv_iload hx hb dL_law_665 (lv_at hl 5 rfl) ?_
  refine lv_iconst (v := (nI 5)) hx hb dL_law_667 (by decide) ?_
  refine lv_iadd hx hb dL_law_668 ?_
  rw [show nI (9 * t) + nI 5 = nI (9 * t + 5) from nI_add _ _]
  refine va_sld hx hb hX hbl hbA hS (vp_in_nI (show 9 * t + 5 < L by omega) (by omega)) dL_law_669 ?_
  rw [show (nI (9 * t + 5)).toNatClampNeg = 9 * t + 5 from nI_clamp (show 9 * t + 5 < 2 ^ 31 by omega)]
  refine lv_i2l (v := (xs (9 * t + 5)).toInt64) hx hb dL_law_670 rfl ?_
  refine lv_bipush (v := (nI 32)) hx hb dL_law_671 (by decide) ?_
  refine lv_lshl (v := ((xs (9 * t + 5)).toInt64 <<< ((nI 32).toInt64 &&& 63))) hx hb dL_law_673 rfl ?_
  refine lv_aload_n hx hb dL_law_674 rfl (lv_at hl 1 rfl) ?_
  refine lv_iload hx hb dL_law_675 (lv_at hl 5 rfl) ?_
  refine lv_bipush (v := (nI 6)) hx hb dL_law_677 (by decide) ?_
  refine lv_iadd hx hb dL_law_679 ?_
  rw [show nI (9 * t) + nI 6 = nI (9 * t + 6) from nI_add _ _]
  refine va_sld hx hb hX hbl hbA hS (vp_in_nI (show 9 * t + 6 < L by omega) (by omega)) dL_law_680 ?_
  rw [show (nI (9 * t + 6)).toNatClampNeg = 9 * t + 6 from nI_clamp (show 9 * t + 6 < 2 ^ 31 by omega)]
  refine lv_i2l (v := (xs (9 * t + 6)).toInt64) hx hb dL_law_681 rfl ?_
  refine lv_ldc2 hx hb hown (hts (.constantLong RL 81 (4294967295)) (by decide +kernel)) dL_law_682 ?_
  refine lv_land hx hb dL_law_685 ?_
  refine lv_lor hx hb dL_law_686 ?_
  refine lv_aload_n hx hb dL_law_687 rfl (lv_at hl 1 rfl) ?_
  refine lv_iload hx hb dL_law_688 (lv_at hl 5 rfl) ?_
  refine lv_bipush (v := (nI 7)) hx hb dL_law_690 (by decide) ?_
  refine lv_iadd hx hb dL_law_692 ?_
  rw [show nI (9 * t) + nI 7 = nI (9 * t + 7) from nI_add _ _]
  refine va_sld hx hb hX hbl hbA hS (vp_in_nI (show 9 * t + 7 < L by omega) (by omega)) dL_law_693 ?_
  rw [show (nI (9 * t + 7)).toNatClampNeg = 9 * t + 7 from nI_clamp (show 9 * t + 7 < 2 ^ 31 by omega)]
  refine lv_i2l (v := (xs (9 * t + 7)).toInt64) hx hb dL_law_694 rfl ?_
  refine lv_bipush (v := (nI 32)) hx hb dL_law_695 (by decide) ?_
  refine lv_lshl (v := ((xs (9 * t + 7)).toInt64 <<< ((nI 32).toInt64 &&& 63))) hx hb dL_law_697 rfl ?_
  refine lv_aload_n hx hb dL_law_698 rfl (lv_at hl 1 rfl) ?_
  refine lv_iload hx hb dL_law_699 (lv_at hl 5 rfl) ?_
  refine lv_bipush (v := (nI 8)) hx hb dL_law_701 (by decide) ?_
  refine lv_iadd hx hb dL_law_703 ?_
  rw [show nI (9 * t) + nI 8 = nI (9 * t + 8) from nI_add _ _]
  refine va_sld hx hb hX hbl hbA hS (vp_in_nI (show 9 * t + 8 < L by omega) (by omega)) dL_law_704 ?_
  rw [show (nI (9 * t + 8)).toNatClampNeg = 9 * t + 8 from nI_clamp (show 9 * t + 8 < 2 ^ 31 by omega)]
  refine lv_i2l (v := (xs (9 * t + 8)).toInt64) hx hb dL_law_705 rfl ?_
  refine lv_ldc2 hx hb hown (hts (.constantLong RL 81 (4294967295)) (by decide +kernel)) dL_law_706 ?_
  refine lv_land hx hb dL_law_709 ?_
  refine lv_lor hx hb dL_law_710 ?_
  refine gVi (ci := 5) (q0 := 2) (As := [.long (lJ (xs (9 * t + 1)) (xs (9 * t + 2))), .long (lJ (xs (9 * t + 3)) (xs (9 * t + 4))), .long (lJ (xs (9 * t + 5)) (xs (9 * t + 6))), .long (lJ (xs (9 * t + 7)) (xs (9 * t + 8)))]) (rest := []) ⟨hx, hb, hml, hown, htl⟩ (hM f1 c1 hps) (cwV 4 htl gL_law_X5_box rfl rfl rfl (by decide +kernel) ⟨Nat.le_of_ble_eq_true rfl, Nat.le_of_ble_eq_true rfl⟩) hP hD hA hS hK rfl rfl rfl rfl hl.1 (Nat.le_of_ble_eq_true rfl) dL_law_711 ⟨(show KC + t + 1 + 0 ≤ 601024 by omega), (show KS + 6 * t + 6 + 0 ≤ 7293034 by omega)⟩ (fun rb B2 H locs hq hP hD hS => ?_)
  obtain ⟨e1, z1, rfl, hz, hR1⟩ := hq
  refine lv_istore (lv' := [(6, .int rb), (5, .int (nI k)), (0, .ref b), (1, .ref ob), (2, .ref om), (3, .ref out), (4, .int (nI (9 * t)))]) hx hb dL_law_714 hl (by decide) rfl (fun ls hl => ?_)
  refine lv_aload_n hx hb dL_law_716 rfl (lv_at hl 4 rfl) ?_
  refine gVi (ci := 5) (q0 := 2) (As := []) (rest := []) ⟨hx, hb, hml, hown, htl⟩ (thrownG l dC dI cJ cI cZ cH cB cT out ob om ahl abl asr pb atr tb mt fhl fbl ftr hA_ bA_ tA_ apx apy act asd amv asl apl asw aor aon atw aup alw f1 c1 k e1 z1) (cwV 0 htl gL_law_X5_thrown rfl rfl rfl (by decide +kernel) ⟨Nat.le_of_ble_eq_true rfl, Nat.le_of_ble_eq_true rfl⟩) hP hD hA hS hK rfl rfl rfl rfl hl.1 (Nat.le_of_ble_eq_true rfl) dL_law_717 ⟨(show KC + t + 1 + 0 ≤ 601024 by omega), (show KS + 6 * t + 6 + 0 ≤ 7293034 by omega)⟩ (fun rt B2 H locs hq hP hD hS => ?_)
  obtain ⟨rfl, rfl⟩ := hq
  refine lv_iload hx hb dL_law_720 (lv_at hl 1 rfl) ?_
  refine lv_icmp_eq (tgt := 727) hx hb dL_law_722 (by decide) (fun _ => ?_) (fun z => absurd rfl z)
  refine lv_iload hx hb dL_law_727 (lv_at hl 1 rfl) ?_
  refine lv_if_ne (tgt := 744) hx hb dL_law_729 (by decide) (fun _ => ?_) (fun z => ?_)
  · refine lv_goto (tgt := 1669) hx hb dL_law_744 (by decide) ?_
    exact (W.eqC (show KC + t + 1 = KC + (t + 1) by omega) (show KS + 6 * t + 6 = KS + 6 * (t + 1) by omega) (kk f1 c1 k e1 z1 _ _ _ hR1 hP hD hS (lv_sub hl [2, 3, 4, 5, 6] rfl)))
  · have hk0 : k = 0 := nI_z hk4 z
    have hz := hz hk0
    refine lv_aload_n hx hb dL_law_732 rfl (lv_at hl 5 rfl) ?_
    refine lv_iconst (v := (nI 0)) hx hb dL_law_733 (by decide) ?_
    refine va_lald hx hb hK hP 0 0 rfl rfl (vp_in_nI (show 0 < 1 by omega) (by omega)) dL_law_734 ?_
    rw [show (nI 0).toNatClampNeg = 0 from nI_clamp (show 0 < 2 ^ 31 by omega)]
    refine lv_iload hx hb dL_law_735 (lv_at hl 0 rfl) ?_
    refine lv_i2l (v := rb.toInt64) hx hb dL_law_737 rfl ?_
    refine W.lcmp hx hb dL_law_738 ?_
    refine lv_if_eq (tgt := 744) hx hb dL_law_739 (by decide) (fun cq => ?_) (fun cq => ?_)
    · refine lv_goto (tgt := 1669) hx hb dL_law_744 (by decide) ?_
      exact (W.eqC (show KC + t + 1 = KC + (t + 1) by omega) (show KS + 6 * t + 6 = KS + 6 * (t + 1) by omega) (kk f1 c1 k e1 z1 _ _ _ hR1 hP hD hS (lv_sub hl [2, 3, 4, 5, 6] rfl)))
    · rw [lg_cmp_eq] at cq; exact absurd hz cq
set_option maxHeartbeats 4000000 in
set_option maxRecDepth 100000 in
theorem law_move {p : Program} {l : Launch} {e : Env} {s : State} {m : MethodId} {below : List Frame} {meth : Method} {c : Code} {b L : Nat} {xs : Nat → Int32} (dC : Nat → ClassId) (dI : Nat → Nat → Nat) (cJ cI cZ cH cB cT : ClassId) (out ob om ahl abl asr pb atr tb mt : Nat) (fhl fbl ftr : Nat → Option Nat) (hA_ : Nat → Nat × Nat × Nat × Nat × Nat) (bA_ tA_ : Nat → Nat) (apx apy act asd amv asl apl asw aor aon atw aup alw : Nat) (KC KS : Nat) (hKC : KC + 600 ≤ 601024) (hKS : KS + 3600 ≤ 7293034) (hL : L ≤ 4608) (C0 : lw_At p s m meth c b L xs) (hst : l.stackTraces = false) (hT : tS (fun q : Nat => s.heap.size ≤ q) s) (hnc : ncS s) (hlk : (∀ j, j < 16 → fhl j = some (hA_ j).1) ∧ (∀ j, j < 16 → fbl j = some (bA_ j)) ∧ (∀ j, j < 8 → ftr j = some (tA_ j))) (hK : va_K (dC, dI) vwCl (tysL cJ cI cZ cH cB cT) s) (t : Nat) (ht : 9 * t + 9 ≤ L) (fo : Nat → Int64) (cc_ : CD) (cd : Nat) (ee : ED) (zz : ZD) (hR : RC cc_ ee) (H : Heap) (locs : List Loc) (ls : Array Slot) (hP : va_P (dC, dI) vwCl (LWd cJ cI cZ cH cB cT out ob om ahl abl asr pb atr tb mt fhl fbl ftr hA_ bA_ tA_ apx apy act asd amv asl apl asw aor aon atw aup alw fo cc_ cd ee zz) H) (hD : va_D (fun q : Nat => s.heap.size ≤ q) (LWd cJ cI cZ cH cB cT out ob om ahl abl asr pb atr tb mt fhl fbl ftr hA_ bA_ tA_ apx apy act asd amv asl apl asw aor aon atw aup alw fo cc_ cd ee zz)) (hS : va_S (fun q : Nat => s.heap.size ≤ q) s.heap H locs) (hl : lv_has ls 8 [(0, .ref b), (1, .ref ob), (2, .ref om), (3, .ref out), (4, .int (nI (9 * t)))]) (kk : ∀ (f1 : Nat → Int64) (c1 : CD) (cd1 : Nat) (e1 : ED) (z1 : ZD) (H : Heap) (locs : List Loc) (ls : Array Slot), RC c1 e1 → va_P (dC, dI) vwCl (LWd cJ cI cZ cH cB cT out ob om ahl abl asr pb atr tb mt fhl fbl ftr hA_ bA_ tA_ apx apy act asd amv asl apl asw aor aon atw aup alw f1 c1 cd1 e1 z1) H → va_D (fun q : Nat => s.heap.size ≤ q) (LWd cJ cI cZ cH cB cT out ob om ahl abl asr pb atr tb mt fhl fbl ftr hA_ bA_ tA_ apx apy act asd amv asl apl asw aor aon atw aup alw f1 c1 cd1 e1 z1) → va_S (fun q : Nat => s.heap.size ≤ q) s.heap H locs → lv_has ls 8 [(0, .ref b), (1, .ref ob), (2, .ref om), (3, .ref out), (4, .int (nI (9 * t)))] → W p l e room_1 s m #[Value.ref b] below meth c H locs (KC + (t + 1)) (KS + 6 * (t + 1)) (lw_Z below #[Value.ref b] s) (F0 m 1669 ls [])) : W p l e room_1 s m #[Value.ref b] below meth c H locs (KC + t) (KS + 6 * t) (lw_Z below #[Value.ref b] s) (F0 m 747 ls []) := by
  obtain ⟨hx, hb, hr, hml, hown, hts, hX, hbl, hlocks, hgv⟩ := C0
  have hA : ∀ q : Nat, s.heap.size ≤ q → (fun q : Nat => s.heap.size ≤ q) q := fun _ h => h
  have hbA : ¬ (fun q : Nat => s.heap.size ≤ q) b := Nat.not_le.mpr hbl
  have htl : ∀ w ∈ wsL_law, w.before #[Value.ref b] s = true := fun w h => hts w (wsL_law_in w h)
  have htt : t ≤ 512 := by omega
  obtain ⟨nh, kb, nt, hd, hf, bd, fsr, ⟨px0, py0, px1, py1, pdx, pdy⟩, ⟨tx0, ty0, tx1, ty1, tdx, tdy⟩, ⟨mu, ml, meu, mel, mbar⟩, ft⟩ := cc_
  obtain ⟨ns, fpx, fpy, ct, nb, fsd, fmv, fsl, fpl, fsw, nw⟩ := ee
  obtain ⟨nc, od, fon, ftw, mx, my, fup, flw, nm, up, lo, rx, ry⟩ := zz
  refine lv_aload_n hx hb dL_law_747 rfl (lv_at hl 1 rfl) ?_
  refine lv_aload_n hx hb dL_law_748 rfl (lv_at hl 0 rfl) ?_
  refine lv_iload hx hb dL_law_749 (lv_at hl 4 rfl) ?_
  refine lv_iconst (v := (nI 1)) hx hb dL_law_751 (by decide) ?_
  refine lv_iadd hx hb dL_law_752 ?_
  rw [show nI (9 * t) + nI 1 = nI (9 * t + 1) from nI_add _ _]
  refine va_sld hx hb hX hbl hbA hS (vp_in_nI (show 9 * t + 1 < L by omega) (by omega)) dL_law_753 ?_
  rw [show (nI (9 * t + 1)).toNatClampNeg = 9 * t + 1 from nI_clamp (show 9 * t + 1 < 2 ^ 31 by omega)]
  refine lv_aload_n hx hb dL_law_754 rfl (lv_at hl 0 rfl) ?_
  refine lv_iload hx hb dL_law_755 (lv_at hl 4 rfl) ?_
  refine lv_iconst (v := (nI 2)) hx hb dL_law_757 (by decide) ?_
  refine lv_iadd hx hb dL_law_758 ?_
  rw [show nI (9 * t) + nI 2 = nI (9 * t + 2) from nI_add _ _]
  refine va_sld hx hb hX hbl hbA hS (vp_in_nI (show 9 * t + 2 < L by omega) (by omega)) dL_law_759 ?_
  rw [show (nI (9 * t + 2)).toNatClampNeg = 9 * t + 2 from nI_clamp (show 9 * t + 2 < 2 ^ 31 by omega)]
  refine lv_i2l (v := (xs (9 * t + 2)).toInt64) hx hb dL_law_760 rfl ?_
  refine lv_bipush (v := (nI 32)) hx hb dL_law_761 (by decide) ?_
  refine lv_lshl (v := ((xs (9 * t + 2)).toInt64 <<< ((nI 32).toInt64 &&& 63))) hx hb dL_law_763 rfl ?_
  refine lv_aload_n hx hb dL_law_764 rfl (lv_at hl 0 rfl) ?_
  refine lv_iload hx hb dL_law_765 (lv_at hl 4 rfl) ?_
  refine lv_iconst (v := (nI 3)) hx hb dL_law_767 (by decide) ?_
  refine lv_iadd hx hb dL_law_768 ?_
  rw [show nI (9 * t) + nI 3 = nI (9 * t + 3) from nI_add _ _]
  refine va_sld hx hb hX hbl hbA hS (vp_in_nI (show 9 * t + 3 < L by omega) (by omega)) dL_law_769 ?_
  rw [show (nI (9 * t + 3)).toNatClampNeg = 9 * t + 3 from nI_clamp (show 9 * t + 3 < 2 ^ 31 by omega)]
  refine lv_i2l (v := (xs (9 * t + 3)).toInt64) hx hb dL_law_770 rfl ?_
  refine lv_ldc2 hx hb hown (hts (.constantLong RL 81 (4294967295)) (by decide +kernel)) dL_law_771 ?_
  refine lv_land hx hb dL_law_774 ?_
  refine lv_lor hx hb dL_law_775 ?_
  refine lv_aload_n hx hb dL_law_776 rfl (lv_at hl 0 rfl) ?_
  refine lv_iload hx hb dL_law_777 (lv_at hl 4 rfl) ?_
  refine lv_iconst (v := (nI 4)) hx hb dL_law_779 (by decide) ?_
  refine lv_iadd hx hb dL_law_780 ?_
  rw [show nI (9 * t) + nI 4 = nI (9 * t + 4) from nI_add _ _]
  refine va_sld hx hb hX hbl hbA hS (vp_in_nI (show 9 * t + 4 < L by omega) (by omega)) dL_law_781 ?_
  rw [show (nI (9 * t + 4)).toNatClampNeg = 9 * t + 4 from nI_clamp (show 9 * t + 4 < 2 ^ 31 by omega)]
  refine lv_i2l (v := (xs (9 * t + 4)).toInt64) hx hb dL_law_782 rfl ?_
  refine lv_bipush (v := (nI 32)) hx hb dL_law_783 (by decide) ?_
  refine lv_lshl (v := ((xs (9 * t + 4)).toInt64 <<< ((nI 32).toInt64 &&& 63))) hx hb dL_law_785 rfl ?_
  refine lv_aload_n hx hb dL_law_786 rfl (lv_at hl 0 rfl) ?_
  refine lv_iload hx hb dL_law_787 (lv_at hl 4 rfl) ?_
  refine lv_iconst (v := (nI 5)) hx hb dL_law_789 (by decide) ?_
  refine lv_iadd hx hb dL_law_790 ?_
  rw [show nI (9 * t) + nI 5 = nI (9 * t + 5) from nI_add _ _]
  refine va_sld hx hb hX hbl hbA hS (vp_in_nI (show 9 * t + 5 < L by omega) (by omega)) dL_law_791 ?_
  rw [show (nI (9 * t + 5)).toNatClampNeg = 9 * t + 5 from nI_clamp (show 9 * t + 5 < 2 ^ 31 by omega)]
  refine lv_i2l (v := (xs (9 * t + 5)).toInt64) hx hb dL_law_792 rfl ?_
  refine lv_ldc2 hx hb hown (hts (.constantLong RL 81 (4294967295)) (by decide +kernel)) dL_law_793 ?_
  refine lv_land hx hb dL_law_796 ?_
  refine lv_lor hx hb dL_law_797 ?_
  refine lv_aload_n hx hb dL_law_798 rfl (lv_at hl 3 rfl) ?_
  obtain ⟨k, Ps, hk4, hH, hM⟩ := J_move l dC dI cJ cI cZ cH cB cT out ob om ahl abl asr pb atr tb mt fhl fbl ftr hA_ bA_ tA_ apx apy act asd amv asl apl asw aor aon atw aup alw fo nh kb nt hd hf bd fsr px0 py0 px1 py1 pdx pdy tx0 ty0 tx1 ty1 tdx tdy mu ml meu mel mbar ft cd ns fpx fpy ct nb fsd fmv fsl fpl fsw nw nc od fon ftw mx my fup flw nm up lo rx ry (xs (9 * t + 1)) (lJ (xs (9 * t + 2)) (xs (9 * t + 3))) (lJ (xs (9 * t + 4)) (xs (9 * t + 5))) hst hlk hR
  refine gSH (As := [.ref ob, .int (xs (9 * t + 1)), .long (lJ (xs (9 * t + 2)) (xs (9 * t + 3))), .long (lJ (xs (9 * t + 4)) (xs (9 * t + 5))), .ref out]) (rest := []) ⟨hx, hb, hml, hown, htl⟩ hH (vx_cwSW 5 htl gL_law_L_move rfl rfl rfl (by decide +kernel) ⟨Nat.le_of_ble_eq_true rfl, Nat.le_of_ble_eq_true rfl⟩) hP hD hA hS hK hT hnc rfl rfl hl.1 (Nat.le_of_ble_eq_true rfl) dL_law_799 ⟨(show KC + t + 1 ≤ 601024 by omega), (show KS + 6 * t + 6 ≤ 7293034 by omega)⟩ (fun r B2 H locs hq hP hD hS => ?_)
  obtain ⟨rfl, f1, c1, hps, rfl⟩ := hq
  refine lv_istore (lv' := [(5, .int (nI k)), (0, .ref b), (1, .ref ob), (2, .ref om), (3, .ref out), (4, .int (nI (9 * t)))]) hx hb dL_law_802 hl (by decide) rfl (fun ls hl => ?_)
  refine lv_aload_n hx hb dL_law_804 rfl (lv_at hl 3 rfl) ?_
  refine lv_aload_n hx hb dL_law_805 rfl (lv_at hl 1 rfl) ?_
  refine lv_iload hx hb dL_law_806 (lv_at hl 5 rfl) ?_
  refine lv_iconst (v := (nI 1)) hx hb dL_law_808 (by decide) ?_
  refine lv_iadd hx hb dL_law_809 ?_
  rw [show nI (9 * t) + nI 1 = nI (9 * t + 1) from nI_add _ _]
  refine va_sld hx hb hX hbl hbA hS (vp_in_nI (show 9 * t + 1 < L by omega) (by omega)) dL_law_810 ?_
  rw [show (nI (9 * t + 1)).toNatClampNeg = 9 * t + 1 from nI_clamp (show 9 * t + 1 < 2 ^ 31 by omega)]
  refine lv_aload_n hx hb dL_law_811 rfl (lv_at hl 1 rfl) ?_
  refine lv_iload hx hb dL_law_812 (lv_at hl 5 rfl) ?_
  refine lv_iconst (v := (nI 2)) hx hb dL_law_814 (by decide) ?_
  refine lv_iadd hx hb dL_law_815 ?_
  rw [show nI (9 * t) + nI 2 = nI (9 * t + 2) from nI_add _ _]
  refine va_sld hx hb hX hbl hbA hS (vp_in_nI (show 9 * t + 2 < L by omega) (by omega)) dL_law_816 ?_
  rw [show (nI (9 * t + 2)).toNatClampNeg = 9 * t + 2 from nI_clamp (show 9 * t + 2 < 2 ^ 31 by omega)]
  refine lv_i2l (v := (xs (9 * t + 2)).toInt64) hx hb dL_law_817 rfl ?_
  refine lv_bipush (v := (nI 32)) hx hb dL_law_818 (by decide) ?_
  refine lv_lshl (v := ((xs (9 * t + 2)).toInt64 <<< ((nI 32).toInt64 &&& 63))) hx hb dL_law_820 rfl ?_
  refine lv_aload_n hx hb dL_law_821 rfl (lv_at hl 1 rfl) ?_
  refine lv_iload hx hb dL_law_822 (lv_at hl 5 rfl) ?_
  refine lv_iconst (v := (nI 3)) hx hb dL_law_824 (by decide) ?_
  refine lv_iadd hx hb dL_law_825 ?_
  rw [show nI (9 * t) + nI 3 = nI (9 * t + 3) from nI_add _ _]
  refine va_sld hx hb hX hbl hbA hS (vp_in_nI (show 9 * t + 3 < L by omega) (by omega)) dL_law_826 ?_
  rw [show (nI (9 * t + 3)).toNatClampNeg = 9 * t + 3 from nI_clamp (show 9 * t + 3 < 2 ^ 31 by omega)]
  refine lv_i2l (v := (xs (9 * t + 3)).toInt64) hx hb dL_law_827 rfl ?_
  refine lv_ldc2 hx hb hown (hts (.constantLong RL 81 (4294967295)) (by decide +kernel)) dL_law_828 ?_
  refine lv_land hx hb dL_law_831 ?_
  refine lv_lor hx hb dL_law_832 ?_
  refine lv_aload_n hx hb dL_law_833 rfl (lv_at hl 1 rfl) ?_
  refine lv_iload hx hb dL_law_834 (lv_at hl 5 rfl) ?_
  refine lv_iconst (v := (nI 4)) hx hb dL_law_836 (by decide) ?_
  refine lv_iadd hx hb dL_law_837 ?_
  rw [show nI (9 * t) + nI 4 = nI (9 * t + 4) from nI_add _ _]
  refine va_sld hx hb hX hbl hbA hS (vp_in_nI (show 9 * t + 4 < L by omega) (by omega)) dL_law_838 ?_
  rw [show (nI (9 * t + 4)).toNatClampNeg = 9 * t + 4 from nI_clamp (show 9 * t + 4 < 2 ^ 31 by omega)]
  refine lv_i2l (v := (xs (9 * t + 4)).toInt64) hx hb dL_law_839 rfl ?_
  refine lv_bipush (v := (nI 32)) hx hb dL_law_840 (by decide) ?_
  refine lv_lshl (v := ((xs (9 * t + 4)).toInt64 <<< ((nI 32).toInt64 &&& 63))) hx hb dL_law_842 rfl ?_
  refine lv_aload_n hx hb dL_law_843 rfl (lv_at hl 1 rfl) ?_
  refine lv_iload hx hb dL_law_844 (lv_at hl 5 rfl) ?_
  refine lv_iconst (v := (nI 5)) hx hb dL_law_846 (by decide) ?_
  refine lv_iadd hx hb dL_law_847 ?_
  rw [show nI (9 * t) + nI 5 = nI (9 * t + 5) from nI_add _ _]
  refine va_sld hx hb hX hbl hbA hS (vp_in_nI (show 9 * t + 5 < L by omega) (by omega)) dL_law_848 ?_
  rw [show (nI (9 * t + 5)).toNatClampNeg = 9 * t + 5 from nI_clamp (show 9 * t + 5 < 2 ^ 31 by omega)]
  refine lv_i2l (v := (xs (9 * t + 5)).toInt64) hx hb dL_law_849 rfl ?_
  refine lv_ldc2 hx hb hown (hts (.constantLong RL 81 (4294967295)) (by decide +kernel)) dL_law_850 ?_
  refine lv_land hx hb dL_law_853 ?_
  refine lv_lor hx hb dL_law_854 ?_
  refine gVi (ci := 5) (q0 := 2) (As := [.int (xs (9 * t + 1)), .long (lJ (xs (9 * t + 2)) (xs (9 * t + 3))), .long (lJ (xs (9 * t + 4)) (xs (9 * t + 5)))]) (rest := []) ⟨hx, hb, hml, hown, htl⟩ (hM f1 c1 hps) (cwV 3 htl gL_law_X5_move rfl rfl rfl (by decide +kernel) ⟨Nat.le_of_ble_eq_true rfl, Nat.le_of_ble_eq_true rfl⟩) hP hD hA hS hK rfl rfl rfl rfl hl.1 (Nat.le_of_ble_eq_true rfl) dL_law_855 ⟨(show KC + t + 1 + 0 ≤ 601024 by omega), (show KS + 6 * t + 6 + 0 ≤ 7293034 by omega)⟩ (fun rb B2 H locs hq hP hD hS => ?_)
  obtain ⟨bb, rfl, e1, z1, rfl, hz, hR1⟩ := hq
  refine lv_istore (lv' := [(6, .int (bI bb)), (5, .int (nI k)), (0, .ref b), (1, .ref ob), (2, .ref om), (3, .ref out), (4, .int (nI (9 * t)))]) hx hb dL_law_858 hl (by decide) rfl (fun ls hl => ?_)
  refine lv_aload_n hx hb dL_law_860 rfl (lv_at hl 4 rfl) ?_
  refine gVi (ci := 5) (q0 := 2) (As := []) (rest := []) ⟨hx, hb, hml, hown, htl⟩ (thrownG l dC dI cJ cI cZ cH cB cT out ob om ahl abl asr pb atr tb mt fhl fbl ftr hA_ bA_ tA_ apx apy act asd amv asl apl asw aor aon atw aup alw f1 c1 k e1 z1) (cwV 0 htl gL_law_X5_thrown rfl rfl rfl (by decide +kernel) ⟨Nat.le_of_ble_eq_true rfl, Nat.le_of_ble_eq_true rfl⟩) hP hD hA hS hK rfl rfl rfl rfl hl.1 (Nat.le_of_ble_eq_true rfl) dL_law_861 ⟨(show KC + t + 1 + 0 ≤ 601024 by omega), (show KS + 6 * t + 6 + 0 ≤ 7293034 by omega)⟩ (fun rt B2 H locs hq hP hD hS => ?_)
  obtain ⟨rfl, rfl⟩ := hq
  refine lv_iload hx hb dL_law_864 (lv_at hl 1 rfl) ?_
  refine lv_icmp_eq (tgt := 871) hx hb dL_law_866 (by decide) (fun _ => ?_) (fun z => absurd rfl z)
  refine lv_iload hx hb dL_law_871 (lv_at hl 1 rfl) ?_
  refine lv_if_ne (tgt := 895) hx hb dL_law_873 (by decide) (fun _ => ?_) (fun z => ?_)
  · refine lv_goto (tgt := 1669) hx hb dL_law_895 (by decide) ?_
    exact (W.eqC (show KC + t + 1 = KC + (t + 1) by omega) (show KS + 6 * t + 6 = KS + 6 * (t + 1) by omega) (kk f1 c1 k e1 z1 _ _ _ hR1 hP hD hS (lv_sub hl [2, 3, 4, 5, 6] rfl)))
  · have hk0 : k = 0 := nI_z hk4 z
    have hz := hz hk0
    refine lv_aload_n hx hb dL_law_876 rfl (lv_at hl 5 rfl) ?_
    refine lv_iconst (v := (nI 0)) hx hb dL_law_877 (by decide) ?_
    refine va_lald hx hb hK hP 0 0 rfl rfl (vp_in_nI (show 0 < 1 by omega) (by omega)) dL_law_878 ?_
    rw [show (nI 0).toNatClampNeg = 0 from nI_clamp (show 0 < 2 ^ 31 by omega)]
    refine lv_iload hx hb dL_law_879 (lv_at hl 0 rfl) ?_
    refine lv_if_eq (tgt := 888) hx hb dL_law_881 (by decide) (fun cz => ?_) (fun cz => ?_)
    · have hbb : bb = false := bI_0 cz
      subst hbb
      refine lv_lconst (v := 0) hx hb dL_law_888 (by decide) ?_
      refine W.lcmp hx hb dL_law_889 ?_
      refine lv_if_eq (tgt := 895) hx hb dL_law_890 (by decide) (fun cq => ?_) (fun cq => ?_)
      · refine lv_goto (tgt := 1669) hx hb dL_law_895 (by decide) ?_
        exact (W.eqC (show KC + t + 1 = KC + (t + 1) by omega) (show KS + 6 * t + 6 = KS + 6 * (t + 1) by omega) (kk f1 c1 k e1 z1 _ _ _ hR1 hP hD hS (lv_sub hl [2, 3, 4, 5, 6] rfl)))
      · rw [lg_cmp_eq] at cq; exact absurd hz cq
    · have hbb : bb = true := bI_n cz
      subst hbb
      refine lv_lconst (v := 1) hx hb dL_law_884 (by decide) ?_
      refine lv_goto (tgt := 889) hx hb dL_law_885 (by decide) ?_
      refine W.lcmp hx hb dL_law_889 ?_
      refine lv_if_eq (tgt := 895) hx hb dL_law_890 (by decide) (fun cq => ?_) (fun cq => ?_)
      · refine lv_goto (tgt := 1669) hx hb dL_law_895 (by decide) ?_
        exact (W.eqC (show KC + t + 1 = KC + (t + 1) by omega) (show KS + 6 * t + 6 = KS + 6 * (t + 1) by omega) (kk f1 c1 k e1 z1 _ _ _ hR1 hP hD hS (lv_sub hl [2, 3, 4, 5, 6] rfl)))
      · rw [lg_cmp_eq] at cq; exact absurd hz cq
set_option maxHeartbeats 4000000 in
set_option maxRecDepth 100000 in
theorem law_touch {p : Program} {l : Launch} {e : Env} {s : State} {m : MethodId} {below : List Frame} {meth : Method} {c : Code} {b L : Nat} {xs : Nat → Int32} (dC : Nat → ClassId) (dI : Nat → Nat → Nat) (cJ cI cZ cH cB cT : ClassId) (out ob om ahl abl asr pb atr tb mt : Nat) (fhl fbl ftr : Nat → Option Nat) (hA_ : Nat → Nat × Nat × Nat × Nat × Nat) (bA_ tA_ : Nat → Nat) (apx apy act asd amv asl apl asw aor aon atw aup alw : Nat) (KC KS : Nat) (hKC : KC + 600 ≤ 601024) (hKS : KS + 3600 ≤ 7293034) (hL : L ≤ 4608) (C0 : lw_At p s m meth c b L xs) (hst : l.stackTraces = false) (hT : tS (fun q : Nat => s.heap.size ≤ q) s) (hnc : ncS s) (hlk : (∀ j, j < 16 → fhl j = some (hA_ j).1) ∧ (∀ j, j < 16 → fbl j = some (bA_ j)) ∧ (∀ j, j < 8 → ftr j = some (tA_ j))) (hK : va_K (dC, dI) vwCl (tysL cJ cI cZ cH cB cT) s) (t : Nat) (ht : 9 * t + 9 ≤ L) (fo : Nat → Int64) (cc_ : CD) (cd : Nat) (ee : ED) (zz : ZD) (hR : RC cc_ ee) (H : Heap) (locs : List Loc) (ls : Array Slot) (hP : va_P (dC, dI) vwCl (LWd cJ cI cZ cH cB cT out ob om ahl abl asr pb atr tb mt fhl fbl ftr hA_ bA_ tA_ apx apy act asd amv asl apl asw aor aon atw aup alw fo cc_ cd ee zz) H) (hD : va_D (fun q : Nat => s.heap.size ≤ q) (LWd cJ cI cZ cH cB cT out ob om ahl abl asr pb atr tb mt fhl fbl ftr hA_ bA_ tA_ apx apy act asd amv asl apl asw aor aon atw aup alw fo cc_ cd ee zz)) (hS : va_S (fun q : Nat => s.heap.size ≤ q) s.heap H locs) (hl : lv_has ls 8 [(0, .ref b), (1, .ref ob), (2, .ref om), (3, .ref out), (4, .int (nI (9 * t)))]) (kk : ∀ (f1 : Nat → Int64) (c1 : CD) (cd1 : Nat) (e1 : ED) (z1 : ZD) (H : Heap) (locs : List Loc) (ls : Array Slot), RC c1 e1 → va_P (dC, dI) vwCl (LWd cJ cI cZ cH cB cT out ob om ahl abl asr pb atr tb mt fhl fbl ftr hA_ bA_ tA_ apx apy act asd amv asl apl asw aor aon atw aup alw f1 c1 cd1 e1 z1) H → va_D (fun q : Nat => s.heap.size ≤ q) (LWd cJ cI cZ cH cB cT out ob om ahl abl asr pb atr tb mt fhl fbl ftr hA_ bA_ tA_ apx apy act asd amv asl apl asw aor aon atw aup alw f1 c1 cd1 e1 z1) → va_S (fun q : Nat => s.heap.size ≤ q) s.heap H locs → lv_has ls 8 [(0, .ref b), (1, .ref ob), (2, .ref om), (3, .ref out), (4, .int (nI (9 * t)))] → W p l e room_1 s m #[Value.ref b] below meth c H locs (KC + (t + 1)) (KS + 6 * (t + 1)) (lw_Z below #[Value.ref b] s) (F0 m 1669 ls [])) : W p l e room_1 s m #[Value.ref b] below meth c H locs (KC + t) (KS + 6 * t) (lw_Z below #[Value.ref b] s) (F0 m 898 ls []) := by
  obtain ⟨hx, hb, hr, hml, hown, hts, hX, hbl, hlocks, hgv⟩ := C0
  have hA : ∀ q : Nat, s.heap.size ≤ q → (fun q : Nat => s.heap.size ≤ q) q := fun _ h => h
  have hbA : ¬ (fun q : Nat => s.heap.size ≤ q) b := Nat.not_le.mpr hbl
  have htl : ∀ w ∈ wsL_law, w.before #[Value.ref b] s = true := fun w h => hts w (wsL_law_in w h)
  have htt : t ≤ 512 := by omega
  obtain ⟨nh, kb, nt, hd, hf, bd, fsr, ⟨px0, py0, px1, py1, pdx, pdy⟩, ⟨tx0, ty0, tx1, ty1, tdx, tdy⟩, ⟨mu, ml, meu, mel, mbar⟩, ft⟩ := cc_
  obtain ⟨ns, fpx, fpy, ct, nb, fsd, fmv, fsl, fpl, fsw, nw⟩ := ee
  obtain ⟨nc, od, fon, ftw, mx, my, fup, flw, nm, up, lo, rx, ry⟩ := zz
  refine lv_aload_n hx hb dL_law_898 rfl (lv_at hl 1 rfl) ?_
  refine lv_aload_n hx hb dL_law_899 rfl (lv_at hl 0 rfl) ?_
  refine lv_iload hx hb dL_law_900 (lv_at hl 4 rfl) ?_
  refine lv_iconst (v := (nI 1)) hx hb dL_law_902 (by decide) ?_
  refine lv_iadd hx hb dL_law_903 ?_
  rw [show nI (9 * t) + nI 1 = nI (9 * t + 1) from nI_add _ _]
  refine va_sld hx hb hX hbl hbA hS (vp_in_nI (show 9 * t + 1 < L by omega) (by omega)) dL_law_904 ?_
  rw [show (nI (9 * t + 1)).toNatClampNeg = 9 * t + 1 from nI_clamp (show 9 * t + 1 < 2 ^ 31 by omega)]
  refine lv_aload_n hx hb dL_law_905 rfl (lv_at hl 0 rfl) ?_
  refine lv_iload hx hb dL_law_906 (lv_at hl 4 rfl) ?_
  refine lv_iconst (v := (nI 2)) hx hb dL_law_908 (by decide) ?_
  refine lv_iadd hx hb dL_law_909 ?_
  rw [show nI (9 * t) + nI 2 = nI (9 * t + 2) from nI_add _ _]
  refine va_sld hx hb hX hbl hbA hS (vp_in_nI (show 9 * t + 2 < L by omega) (by omega)) dL_law_910 ?_
  rw [show (nI (9 * t + 2)).toNatClampNeg = 9 * t + 2 from nI_clamp (show 9 * t + 2 < 2 ^ 31 by omega)]
  refine lv_aload_n hx hb dL_law_911 rfl (lv_at hl 0 rfl) ?_
  refine lv_iload hx hb dL_law_912 (lv_at hl 4 rfl) ?_
  refine lv_iconst (v := (nI 3)) hx hb dL_law_914 (by decide) ?_
  refine lv_iadd hx hb dL_law_915 ?_
  rw [show nI (9 * t) + nI 3 = nI (9 * t + 3) from nI_add _ _]
  refine va_sld hx hb hX hbl hbA hS (vp_in_nI (show 9 * t + 3 < L by omega) (by omega)) dL_law_916 ?_
  rw [show (nI (9 * t + 3)).toNatClampNeg = 9 * t + 3 from nI_clamp (show 9 * t + 3 < 2 ^ 31 by omega)]
  refine lv_aload_n hx hb dL_law_917 rfl (lv_at hl 3 rfl) ?_
  obtain ⟨k, Ps, hk4, hH, hM⟩ := J_touch l dC dI cJ cI cZ cH cB cT out ob om ahl abl asr pb atr tb mt fhl fbl ftr hA_ bA_ tA_ apx apy act asd amv asl apl asw aor aon atw aup alw fo nh kb nt hd hf bd fsr px0 py0 px1 py1 pdx pdy tx0 ty0 tx1 ty1 tdx tdy mu ml meu mel mbar ft cd ns fpx fpy ct nb fsd fmv fsl fpl fsw nw nc od fon ftw mx my fup flw nm up lo rx ry (xs (9 * t + 1)) (xs (9 * t + 2)) (xs (9 * t + 3)) hst hlk hR
  refine gSH (As := [.ref ob, .int (xs (9 * t + 1)), .int (xs (9 * t + 2)), .int (xs (9 * t + 3)), .ref out]) (rest := []) ⟨hx, hb, hml, hown, htl⟩ hH (vx_cwSW 5 htl gL_law_L_touch rfl rfl rfl (by decide +kernel) ⟨Nat.le_of_ble_eq_true rfl, Nat.le_of_ble_eq_true rfl⟩) hP hD hA hS hK hT hnc rfl rfl hl.1 (Nat.le_of_ble_eq_true rfl) dL_law_918 ⟨(show KC + t + 1 ≤ 601024 by omega), (show KS + 6 * t + 6 ≤ 7293034 by omega)⟩ (fun r B2 H locs hq hP hD hS => ?_)
  obtain ⟨rfl, f1, c1, hps, rfl⟩ := hq
  refine lv_istore (lv' := [(5, .int (nI k)), (0, .ref b), (1, .ref ob), (2, .ref om), (3, .ref out), (4, .int (nI (9 * t)))]) hx hb dL_law_921 hl (by decide) rfl (fun ls hl => ?_)
  refine lv_aload_n hx hb dL_law_923 rfl (lv_at hl 3 rfl) ?_
  refine lv_aload_n hx hb dL_law_924 rfl (lv_at hl 1 rfl) ?_
  refine lv_iload hx hb dL_law_925 (lv_at hl 5 rfl) ?_
  refine lv_iconst (v := (nI 1)) hx hb dL_law_927 (by decide) ?_
  refine lv_iadd hx hb dL_law_928 ?_
  rw [show nI (9 * t) + nI 1 = nI (9 * t + 1) from nI_add _ _]
  refine va_sld hx hb hX hbl hbA hS (vp_in_nI (show 9 * t + 1 < L by omega) (by omega)) dL_law_929 ?_
  rw [show (nI (9 * t + 1)).toNatClampNeg = 9 * t + 1 from nI_clamp (show 9 * t + 1 < 2 ^ 31 by omega)]
  refine lv_aload_n hx hb dL_law_930 rfl (lv_at hl 1 rfl) ?_
  refine lv_iload hx hb dL_law_931 (lv_at hl 5 rfl) ?_
  refine lv_iconst (v := (nI 2)) hx hb dL_law_933 (by decide) ?_
  refine lv_iadd hx hb dL_law_934 ?_
  rw [show nI (9 * t) + nI 2 = nI (9 * t + 2) from nI_add _ _]
  refine va_sld hx hb hX hbl hbA hS (vp_in_nI (show 9 * t + 2 < L by omega) (by omega)) dL_law_935 ?_
  rw [show (nI (9 * t + 2)).toNatClampNeg = 9 * t + 2 from nI_clamp (show 9 * t + 2 < 2 ^ 31 by omega)]
  refine lv_aload_n hx hb dL_law_936 rfl (lv_at hl 1 rfl) ?_
  refine lv_iload hx hb dL_law_937 (lv_at hl 5 rfl) ?_
  refine lv_iconst (v := (nI 3)) hx hb dL_law_939 (by decide) ?_
  refine lv_iadd hx hb dL_law_940 ?_
  rw [show nI (9 * t) + nI 3 = nI (9 * t + 3) from nI_add _ _]
  refine va_sld hx hb hX hbl hbA hS (vp_in_nI (show 9 * t + 3 < L by omega) (by omega)) dL_law_941 ?_
  rw [show (nI (9 * t + 3)).toNatClampNeg = 9 * t + 3 from nI_clamp (show 9 * t + 3 < 2 ^ 31 by omega)]
  refine gVl (ci := 5) (q0 := 2) (As := [.int (xs (9 * t + 1)), .int (xs (9 * t + 2)), .int (xs (9 * t + 3))]) (rest := []) ⟨hx, hb, hml, hown, htl⟩ (hM f1 c1 hps) (cwV 3 htl gL_law_X5_touch rfl rfl rfl (by decide +kernel) ⟨Nat.le_of_ble_eq_true rfl, Nat.le_of_ble_eq_true rfl⟩) hP hD hA hS hK rfl rfl rfl rfl hl.1 (Nat.le_of_ble_eq_true rfl) dL_law_942 ⟨(show KC + t + 1 + 0 ≤ 601024 by omega), (show KS + 6 * t + 6 + 0 ≤ 7293034 by omega)⟩ (fun rb B2 H locs hq hP hD hS => ?_)
  obtain ⟨e1, z1, rfl, hz, hR1⟩ := hq
  refine lv_lstore (lv' := [(6, .long rb), (5, .int (nI k)), (0, .ref b), (1, .ref ob), (2, .ref om), (3, .ref out), (4, .int (nI (9 * t)))]) hx hb dL_law_945 hl (by decide) rfl (fun ls hl => ?_)
  refine lv_aload_n hx hb dL_law_947 rfl (lv_at hl 4 rfl) ?_
  refine gVi (ci := 5) (q0 := 2) (As := []) (rest := []) ⟨hx, hb, hml, hown, htl⟩ (thrownG l dC dI cJ cI cZ cH cB cT out ob om ahl abl asr pb atr tb mt fhl fbl ftr hA_ bA_ tA_ apx apy act asd amv asl apl asw aor aon atw aup alw f1 c1 k e1 z1) (cwV 0 htl gL_law_X5_thrown rfl rfl rfl (by decide +kernel) ⟨Nat.le_of_ble_eq_true rfl, Nat.le_of_ble_eq_true rfl⟩) hP hD hA hS hK rfl rfl rfl rfl hl.1 (Nat.le_of_ble_eq_true rfl) dL_law_948 ⟨(show KC + t + 1 + 0 ≤ 601024 by omega), (show KS + 6 * t + 6 + 0 ≤ 7293034 by omega)⟩ (fun rt B2 H locs hq hP hD hS => ?_)
  obtain ⟨rfl, rfl⟩ := hq
  refine lv_iload hx hb dL_law_951 (lv_at hl 1 rfl) ?_
  refine lv_icmp_eq (tgt := 958) hx hb dL_law_953 (by decide) (fun _ => ?_) (fun z => absurd rfl z)
  refine lv_iload hx hb dL_law_958 (lv_at hl 1 rfl) ?_
  refine lv_if_ne (tgt := 974) hx hb dL_law_960 (by decide) (fun _ => ?_) (fun z => ?_)
  · refine lv_goto (tgt := 1669) hx hb dL_law_974 (by decide) ?_
    exact (W.eqC (show KC + t + 1 = KC + (t + 1) by omega) (show KS + 6 * t + 6 = KS + 6 * (t + 1) by omega) (kk f1 c1 k e1 z1 _ _ _ hR1 hP hD hS (lv_sub hl [2, 3, 4, 5, 6] rfl)))
  · have hk0 : k = 0 := nI_z hk4 z
    have hz := hz hk0
    refine lv_aload_n hx hb dL_law_963 rfl (lv_at hl 5 rfl) ?_
    refine lv_iconst (v := (nI 0)) hx hb dL_law_964 (by decide) ?_
    refine va_lald hx hb hK hP 0 0 rfl rfl (vp_in_nI (show 0 < 1 by omega) (by omega)) dL_law_965 ?_
    rw [show (nI 0).toNatClampNeg = 0 from nI_clamp (show 0 < 2 ^ 31 by omega)]
    refine lv_lload hx hb dL_law_966 (lv_at hl 0 rfl) ?_
    refine W.lcmp hx hb dL_law_968 ?_
    refine lv_if_eq (tgt := 974) hx hb dL_law_969 (by decide) (fun cq => ?_) (fun cq => ?_)
    · refine lv_goto (tgt := 1669) hx hb dL_law_974 (by decide) ?_
      exact (W.eqC (show KC + t + 1 = KC + (t + 1) by omega) (show KS + 6 * t + 6 = KS + 6 * (t + 1) by omega) (kk f1 c1 k e1 z1 _ _ _ hR1 hP hD hS (lv_sub hl [2, 3, 4, 5, 6] rfl)))
    · rw [lg_cmp_eq] at cq; exact absurd hz cq
set_option maxHeartbeats 4000000 in
set_option maxRecDepth 100000 in
theorem law_overlap {p : Program} {l : Launch} {e : Env} {s : State} {m : MethodId} {below : List Frame} {meth : Method} {c : Code} {b L : Nat} {xs : Nat → Int32} (dC : Nat → ClassId) (dI : Nat → Nat → Nat) (cJ cI cZ cH cB cT : ClassId) (out ob om ahl abl asr pb atr tb mt : Nat) (fhl fbl ftr : Nat → Option Nat) (hA_ : Nat → Nat × Nat × Nat × Nat × Nat) (bA_ tA_ : Nat → Nat) (apx apy act asd amv asl apl asw aor aon atw aup alw : Nat) (KC KS : Nat) (hKC : KC + 600 ≤ 601024) (hKS : KS + 3600 ≤ 7293034) (hL : L ≤ 4608) (C0 : lw_At p s m meth c b L xs) (hst : l.stackTraces = false) (hT : tS (fun q : Nat => s.heap.size ≤ q) s) (hnc : ncS s) (hlk : (∀ j, j < 16 → fhl j = some (hA_ j).1) ∧ (∀ j, j < 16 → fbl j = some (bA_ j)) ∧ (∀ j, j < 8 → ftr j = some (tA_ j))) (hK : va_K (dC, dI) vwCl (tysL cJ cI cZ cH cB cT) s) (t : Nat) (ht : 9 * t + 9 ≤ L) (fo : Nat → Int64) (cc_ : CD) (cd : Nat) (ee : ED) (zz : ZD) (hR : RC cc_ ee) (H : Heap) (locs : List Loc) (ls : Array Slot) (hP : va_P (dC, dI) vwCl (LWd cJ cI cZ cH cB cT out ob om ahl abl asr pb atr tb mt fhl fbl ftr hA_ bA_ tA_ apx apy act asd amv asl apl asw aor aon atw aup alw fo cc_ cd ee zz) H) (hD : va_D (fun q : Nat => s.heap.size ≤ q) (LWd cJ cI cZ cH cB cT out ob om ahl abl asr pb atr tb mt fhl fbl ftr hA_ bA_ tA_ apx apy act asd amv asl apl asw aor aon atw aup alw fo cc_ cd ee zz)) (hS : va_S (fun q : Nat => s.heap.size ≤ q) s.heap H locs) (hl : lv_has ls 8 [(0, .ref b), (1, .ref ob), (2, .ref om), (3, .ref out), (4, .int (nI (9 * t)))]) (kk : ∀ (f1 : Nat → Int64) (c1 : CD) (cd1 : Nat) (e1 : ED) (z1 : ZD) (H : Heap) (locs : List Loc) (ls : Array Slot), RC c1 e1 → va_P (dC, dI) vwCl (LWd cJ cI cZ cH cB cT out ob om ahl abl asr pb atr tb mt fhl fbl ftr hA_ bA_ tA_ apx apy act asd amv asl apl asw aor aon atw aup alw f1 c1 cd1 e1 z1) H → va_D (fun q : Nat => s.heap.size ≤ q) (LWd cJ cI cZ cH cB cT out ob om ahl abl asr pb atr tb mt fhl fbl ftr hA_ bA_ tA_ apx apy act asd amv asl apl asw aor aon atw aup alw f1 c1 cd1 e1 z1) → va_S (fun q : Nat => s.heap.size ≤ q) s.heap H locs → lv_has ls 8 [(0, .ref b), (1, .ref ob), (2, .ref om), (3, .ref out), (4, .int (nI (9 * t)))] → W p l e room_1 s m #[Value.ref b] below meth c H locs (KC + (t + 1)) (KS + 6 * (t + 1)) (lw_Z below #[Value.ref b] s) (F0 m 1669 ls [])) : W p l e room_1 s m #[Value.ref b] below meth c H locs (KC + t) (KS + 6 * t) (lw_Z below #[Value.ref b] s) (F0 m 977 ls []) := by
  obtain ⟨hx, hb, hr, hml, hown, hts, hX, hbl, hlocks, hgv⟩ := C0
  have hA : ∀ q : Nat, s.heap.size ≤ q → (fun q : Nat => s.heap.size ≤ q) q := fun _ h => h
  have hbA : ¬ (fun q : Nat => s.heap.size ≤ q) b := Nat.not_le.mpr hbl
  have htl : ∀ w ∈ wsL_law, w.before #[Value.ref b] s = true := fun w h => hts w (wsL_law_in w h)
  have htt : t ≤ 512 := by omega
  obtain ⟨nh, kb, nt, hd, hf, bd, fsr, ⟨px0, py0, px1, py1, pdx, pdy⟩, ⟨tx0, ty0, tx1, ty1, tdx, tdy⟩, ⟨mu, ml, meu, mel, mbar⟩, ft⟩ := cc_
  obtain ⟨ns, fpx, fpy, ct, nb, fsd, fmv, fsl, fpl, fsw, nw⟩ := ee
  obtain ⟨nc, od, fon, ftw, mx, my, fup, flw, nm, up, lo, rx, ry⟩ := zz
  refine lv_aload_n hx hb dL_law_977 rfl (lv_at hl 1 rfl) ?_
  refine lv_aload_n hx hb dL_law_978 rfl (lv_at hl 0 rfl) ?_
  refine lv_iload hx hb dL_law_979 (lv_at hl 4 rfl) ?_
  refine lv_iconst (v := (nI 1)) hx hb dL_law_981 (by decide) ?_
  refine lv_iadd hx hb dL_law_982 ?_
  rw [show nI (9 * t) + nI 1 = nI (9 * t + 1) from nI_add _ _]
  refine va_sld hx hb hX hbl hbA hS (vp_in_nI (show 9 * t + 1 < L by omega) (by omega)) dL_law_983 ?_
  rw [show (nI (9 * t + 1)).toNatClampNeg = 9 * t + 1 from nI_clamp (show 9 * t + 1 < 2 ^ 31 by omega)]
  refine lv_aload_n hx hb dL_law_984 rfl (lv_at hl 0 rfl) ?_
  refine lv_iload hx hb dL_law_985 (lv_at hl 4 rfl) ?_
  refine lv_iconst (v := (nI 2)) hx hb dL_law_987 (by decide) ?_
  refine lv_iadd hx hb dL_law_988 ?_
  rw [show nI (9 * t) + nI 2 = nI (9 * t + 2) from nI_add _ _]
  refine va_sld hx hb hX hbl hbA hS (vp_in_nI (show 9 * t + 2 < L by omega) (by omega)) dL_law_989 ?_
  rw [show (nI (9 * t + 2)).toNatClampNeg = 9 * t + 2 from nI_clamp (show 9 * t + 2 < 2 ^ 31 by omega)]
  refine lv_aload_n hx hb dL_law_990 rfl (lv_at hl 0 rfl) ?_
  refine lv_iload hx hb dL_law_991 (lv_at hl 4 rfl) ?_
  refine lv_iconst (v := (nI 3)) hx hb dL_law_993 (by decide) ?_
  refine lv_iadd hx hb dL_law_994 ?_
  rw [show nI (9 * t) + nI 3 = nI (9 * t + 3) from nI_add _ _]
  refine va_sld hx hb hX hbl hbA hS (vp_in_nI (show 9 * t + 3 < L by omega) (by omega)) dL_law_995 ?_
  rw [show (nI (9 * t + 3)).toNatClampNeg = 9 * t + 3 from nI_clamp (show 9 * t + 3 < 2 ^ 31 by omega)]
  refine lv_aload_n hx hb dL_law_996 rfl (lv_at hl 3 rfl) ?_
  obtain ⟨k, Ps, hk4, hH, hM⟩ := J_overlap l dC dI cJ cI cZ cH cB cT out ob om ahl abl asr pb atr tb mt fhl fbl ftr hA_ bA_ tA_ apx apy act asd amv asl apl asw aor aon atw aup alw fo nh kb nt hd hf bd fsr px0 py0 px1 py1 pdx pdy tx0 ty0 tx1 ty1 tdx tdy mu ml meu mel mbar ft cd ns fpx fpy ct nb fsd fmv fsl fpl fsw nw nc od fon ftw mx my fup flw nm up lo rx ry (xs (9 * t + 1)) (xs (9 * t + 2)) (xs (9 * t + 3)) hst hlk hR
  refine gSH (As := [.ref ob, .int (xs (9 * t + 1)), .int (xs (9 * t + 2)), .int (xs (9 * t + 3)), .ref out]) (rest := []) ⟨hx, hb, hml, hown, htl⟩ hH (vx_cwSW 5 htl gL_law_L_overlap rfl rfl rfl (by decide +kernel) ⟨Nat.le_of_ble_eq_true rfl, Nat.le_of_ble_eq_true rfl⟩) hP hD hA hS hK hT hnc rfl rfl hl.1 (Nat.le_of_ble_eq_true rfl) dL_law_997 ⟨(show KC + t + 1 ≤ 601024 by omega), (show KS + 6 * t + 6 ≤ 7293034 by omega)⟩ (fun r B2 H locs hq hP hD hS => ?_)
  obtain ⟨rfl, f1, c1, hps, rfl⟩ := hq
  refine lv_istore (lv' := [(5, .int (nI k)), (0, .ref b), (1, .ref ob), (2, .ref om), (3, .ref out), (4, .int (nI (9 * t)))]) hx hb dL_law_1000 hl (by decide) rfl (fun ls hl => ?_)
  refine lv_aload_n hx hb dL_law_1002 rfl (lv_at hl 3 rfl) ?_
  refine lv_aload_n hx hb dL_law_1003 rfl (lv_at hl 1 rfl) ?_
  refine lv_iload hx hb dL_law_1004 (lv_at hl 5 rfl) ?_
  refine lv_iconst (v := (nI 1)) hx hb dL_law_1006 (by decide) ?_
  refine lv_iadd hx hb dL_law_1007 ?_
  rw [show nI (9 * t) + nI 1 = nI (9 * t + 1) from nI_add _ _]
  refine va_sld hx hb hX hbl hbA hS (vp_in_nI (show 9 * t + 1 < L by omega) (by omega)) dL_law_1008 ?_
  rw [show (nI (9 * t + 1)).toNatClampNeg = 9 * t + 1 from nI_clamp (show 9 * t + 1 < 2 ^ 31 by omega)]
  refine lv_aload_n hx hb dL_law_1009 rfl (lv_at hl 1 rfl) ?_
  refine lv_iload hx hb dL_law_1010 (lv_at hl 5 rfl) ?_
  refine lv_iconst (v := (nI 2)) hx hb dL_law_1012 (by decide) ?_
  refine lv_iadd hx hb dL_law_1013 ?_
  rw [show nI (9 * t) + nI 2 = nI (9 * t + 2) from nI_add _ _]
  refine va_sld hx hb hX hbl hbA hS (vp_in_nI (show 9 * t + 2 < L by omega) (by omega)) dL_law_1014 ?_
  rw [show (nI (9 * t + 2)).toNatClampNeg = 9 * t + 2 from nI_clamp (show 9 * t + 2 < 2 ^ 31 by omega)]
  refine lv_aload_n hx hb dL_law_1015 rfl (lv_at hl 1 rfl) ?_
  refine lv_iload hx hb dL_law_1016 (lv_at hl 5 rfl) ?_
  refine lv_iconst (v := (nI 3)) hx hb dL_law_1018 (by decide) ?_
  refine lv_iadd hx hb dL_law_1019 ?_
  rw [show nI (9 * t) + nI 3 = nI (9 * t + 3) from nI_add _ _]
  refine va_sld hx hb hX hbl hbA hS (vp_in_nI (show 9 * t + 3 < L by omega) (by omega)) dL_law_1020 ?_
  rw [show (nI (9 * t + 3)).toNatClampNeg = 9 * t + 3 from nI_clamp (show 9 * t + 3 < 2 ^ 31 by omega)]
  refine gVl (ci := 5) (q0 := 2) (As := [.int (xs (9 * t + 1)), .int (xs (9 * t + 2)), .int (xs (9 * t + 3))]) (rest := []) ⟨hx, hb, hml, hown, htl⟩ (hM f1 c1 hps) (cwV 3 htl gL_law_X5_overlap rfl rfl rfl (by decide +kernel) ⟨Nat.le_of_ble_eq_true rfl, Nat.le_of_ble_eq_true rfl⟩) hP hD hA hS hK rfl rfl rfl rfl hl.1 (Nat.le_of_ble_eq_true rfl) dL_law_1021 ⟨(show KC + t + 1 + 0 ≤ 601024 by omega), (show KS + 6 * t + 6 + 0 ≤ 7293034 by omega)⟩ (fun rb B2 H locs hq hP hD hS => ?_)
  obtain ⟨e1, z1, rfl, hz, hR1⟩ := hq
  refine lv_lstore (lv' := [(6, .long rb), (5, .int (nI k)), (0, .ref b), (1, .ref ob), (2, .ref om), (3, .ref out), (4, .int (nI (9 * t)))]) hx hb dL_law_1024 hl (by decide) rfl (fun ls hl => ?_)
  refine lv_aload_n hx hb dL_law_1026 rfl (lv_at hl 4 rfl) ?_
  refine gVi (ci := 5) (q0 := 2) (As := []) (rest := []) ⟨hx, hb, hml, hown, htl⟩ (thrownG l dC dI cJ cI cZ cH cB cT out ob om ahl abl asr pb atr tb mt fhl fbl ftr hA_ bA_ tA_ apx apy act asd amv asl apl asw aor aon atw aup alw f1 c1 k e1 z1) (cwV 0 htl gL_law_X5_thrown rfl rfl rfl (by decide +kernel) ⟨Nat.le_of_ble_eq_true rfl, Nat.le_of_ble_eq_true rfl⟩) hP hD hA hS hK rfl rfl rfl rfl hl.1 (Nat.le_of_ble_eq_true rfl) dL_law_1027 ⟨(show KC + t + 1 + 0 ≤ 601024 by omega), (show KS + 6 * t + 6 + 0 ≤ 7293034 by omega)⟩ (fun rt B2 H locs hq hP hD hS => ?_)
  obtain ⟨rfl, rfl⟩ := hq
  refine lv_iload hx hb dL_law_1030 (lv_at hl 1 rfl) ?_
  refine lv_icmp_eq (tgt := 1037) hx hb dL_law_1032 (by decide) (fun _ => ?_) (fun z => absurd rfl z)
  refine lv_iload hx hb dL_law_1037 (lv_at hl 1 rfl) ?_
  refine lv_if_ne (tgt := 1053) hx hb dL_law_1039 (by decide) (fun _ => ?_) (fun z => ?_)
  · refine lv_goto (tgt := 1669) hx hb dL_law_1053 (by decide) ?_
    exact (W.eqC (show KC + t + 1 = KC + (t + 1) by omega) (show KS + 6 * t + 6 = KS + 6 * (t + 1) by omega) (kk f1 c1 k e1 z1 _ _ _ hR1 hP hD hS (lv_sub hl [2, 3, 4, 5, 6] rfl)))
  · have hk0 : k = 0 := nI_z hk4 z
    have hz := hz hk0
    refine lv_aload_n hx hb dL_law_1042 rfl (lv_at hl 5 rfl) ?_
    refine lv_iconst (v := (nI 0)) hx hb dL_law_1043 (by decide) ?_
    refine va_lald hx hb hK hP 0 0 rfl rfl (vp_in_nI (show 0 < 1 by omega) (by omega)) dL_law_1044 ?_
    rw [show (nI 0).toNatClampNeg = 0 from nI_clamp (show 0 < 2 ^ 31 by omega)]
    refine lv_lload hx hb dL_law_1045 (lv_at hl 0 rfl) ?_
    refine W.lcmp hx hb dL_law_1047 ?_
    refine lv_if_eq (tgt := 1053) hx hb dL_law_1048 (by decide) (fun cq => ?_) (fun cq => ?_)
    · refine lv_goto (tgt := 1669) hx hb dL_law_1053 (by decide) ?_
      exact (W.eqC (show KC + t + 1 = KC + (t + 1) by omega) (show KS + 6 * t + 6 = KS + 6 * (t + 1) by omega) (kk f1 c1 k e1 z1 _ _ _ hR1 hP hD hS (lv_sub hl [2, 3, 4, 5, 6] rfl)))
    · rw [lg_cmp_eq] at cq; exact absurd hz cq
set_option maxHeartbeats 4000000 in
set_option maxRecDepth 100000 in
theorem law_tile {p : Program} {l : Launch} {e : Env} {s : State} {m : MethodId} {below : List Frame} {meth : Method} {c : Code} {b L : Nat} {xs : Nat → Int32} (dC : Nat → ClassId) (dI : Nat → Nat → Nat) (cJ cI cZ cH cB cT : ClassId) (out ob om ahl abl asr pb atr tb mt : Nat) (fhl fbl ftr : Nat → Option Nat) (hA_ : Nat → Nat × Nat × Nat × Nat × Nat) (bA_ tA_ : Nat → Nat) (apx apy act asd amv asl apl asw aor aon atw aup alw : Nat) (KC KS : Nat) (hKC : KC + 600 ≤ 601024) (hKS : KS + 3600 ≤ 7293034) (hL : L ≤ 4608) (C0 : lw_At p s m meth c b L xs) (hst : l.stackTraces = false) (hT : tS (fun q : Nat => s.heap.size ≤ q) s) (hnc : ncS s) (hlk : (∀ j, j < 16 → fhl j = some (hA_ j).1) ∧ (∀ j, j < 16 → fbl j = some (bA_ j)) ∧ (∀ j, j < 8 → ftr j = some (tA_ j))) (hK : va_K (dC, dI) vwCl (tysL cJ cI cZ cH cB cT) s) (t : Nat) (ht : 9 * t + 9 ≤ L) (fo : Nat → Int64) (cc_ : CD) (cd : Nat) (ee : ED) (zz : ZD) (hR : RC cc_ ee) (H : Heap) (locs : List Loc) (ls : Array Slot) (hP : va_P (dC, dI) vwCl (LWd cJ cI cZ cH cB cT out ob om ahl abl asr pb atr tb mt fhl fbl ftr hA_ bA_ tA_ apx apy act asd amv asl apl asw aor aon atw aup alw fo cc_ cd ee zz) H) (hD : va_D (fun q : Nat => s.heap.size ≤ q) (LWd cJ cI cZ cH cB cT out ob om ahl abl asr pb atr tb mt fhl fbl ftr hA_ bA_ tA_ apx apy act asd amv asl apl asw aor aon atw aup alw fo cc_ cd ee zz)) (hS : va_S (fun q : Nat => s.heap.size ≤ q) s.heap H locs) (hl : lv_has ls 8 [(0, .ref b), (1, .ref ob), (2, .ref om), (3, .ref out), (4, .int (nI (9 * t)))]) (kk : ∀ (f1 : Nat → Int64) (c1 : CD) (cd1 : Nat) (e1 : ED) (z1 : ZD) (H : Heap) (locs : List Loc) (ls : Array Slot), RC c1 e1 → va_P (dC, dI) vwCl (LWd cJ cI cZ cH cB cT out ob om ahl abl asr pb atr tb mt fhl fbl ftr hA_ bA_ tA_ apx apy act asd amv asl apl asw aor aon atw aup alw f1 c1 cd1 e1 z1) H → va_D (fun q : Nat => s.heap.size ≤ q) (LWd cJ cI cZ cH cB cT out ob om ahl abl asr pb atr tb mt fhl fbl ftr hA_ bA_ tA_ apx apy act asd amv asl apl asw aor aon atw aup alw f1 c1 cd1 e1 z1) → va_S (fun q : Nat => s.heap.size ≤ q) s.heap H locs → lv_has ls 8 [(0, .ref b), (1, .ref ob), (2, .ref om), (3, .ref out), (4, .int (nI (9 * t)))] → W p l e room_1 s m #[Value.ref b] below meth c H locs (KC + (t + 1)) (KS + 6 * (t + 1)) (lw_Z below #[Value.ref b] s) (F0 m 1669 ls [])) : W p l e room_1 s m #[Value.ref b] below meth c H locs (KC + t) (KS + 6 * t) (lw_Z below #[Value.ref b] s) (F0 m 1056 ls []) := by
  obtain ⟨hx, hb, hr, hml, hown, hts, hX, hbl, hlocks, hgv⟩ := C0
  have hA : ∀ q : Nat, s.heap.size ≤ q → (fun q : Nat => s.heap.size ≤ q) q := fun _ h => h
  have hbA : ¬ (fun q : Nat => s.heap.size ≤ q) b := Nat.not_le.mpr hbl
  have htl : ∀ w ∈ wsL_law, w.before #[Value.ref b] s = true := fun w h => hts w (wsL_law_in w h)
  have htt : t ≤ 512 := by omega
  obtain ⟨nh, kb, nt, hd, hf, bd, fsr, ⟨px0, py0, px1, py1, pdx, pdy⟩, ⟨tx0, ty0, tx1, ty1, tdx, tdy⟩, ⟨mu, ml, meu, mel, mbar⟩, ft⟩ := cc_
  obtain ⟨ns, fpx, fpy, ct, nb, fsd, fmv, fsl, fpl, fsw, nw⟩ := ee
  obtain ⟨nc, od, fon, ftw, mx, my, fup, flw, nm, up, lo, rx, ry⟩ := zz
  refine lv_aload_n hx hb dL_law_1056 rfl (lv_at hl 1 rfl) ?_
  refine lv_aload_n hx hb dL_law_1057 rfl (lv_at hl 0 rfl) ?_
  refine lv_iload hx hb dL_law_1058 (lv_at hl 4 rfl) ?_
  refine lv_iconst (v := (nI 1)) hx hb dL_law_1060 (by decide) ?_
  refine lv_iadd hx hb dL_law_1061 ?_
  rw [show nI (9 * t) + nI 1 = nI (9 * t + 1) from nI_add _ _]
  refine va_sld hx hb hX hbl hbA hS (vp_in_nI (show 9 * t + 1 < L by omega) (by omega)) dL_law_1062 ?_
  rw [show (nI (9 * t + 1)).toNatClampNeg = 9 * t + 1 from nI_clamp (show 9 * t + 1 < 2 ^ 31 by omega)]
  refine lv_aload_n hx hb dL_law_1063 rfl (lv_at hl 0 rfl) ?_
  refine lv_iload hx hb dL_law_1064 (lv_at hl 4 rfl) ?_
  refine lv_iconst (v := (nI 2)) hx hb dL_law_1066 (by decide) ?_
  refine lv_iadd hx hb dL_law_1067 ?_
  rw [show nI (9 * t) + nI 2 = nI (9 * t + 2) from nI_add _ _]
  refine va_sld hx hb hX hbl hbA hS (vp_in_nI (show 9 * t + 2 < L by omega) (by omega)) dL_law_1068 ?_
  rw [show (nI (9 * t + 2)).toNatClampNeg = 9 * t + 2 from nI_clamp (show 9 * t + 2 < 2 ^ 31 by omega)]
  refine lv_aload_n hx hb dL_law_1069 rfl (lv_at hl 0 rfl) ?_
  refine lv_iload hx hb dL_law_1070 (lv_at hl 4 rfl) ?_
  refine lv_iconst (v := (nI 3)) hx hb dL_law_1072 (by decide) ?_
  refine lv_iadd hx hb dL_law_1073 ?_
  rw [show nI (9 * t) + nI 3 = nI (9 * t + 3) from nI_add _ _]
  refine va_sld hx hb hX hbl hbA hS (vp_in_nI (show 9 * t + 3 < L by omega) (by omega)) dL_law_1074 ?_
  rw [show (nI (9 * t + 3)).toNatClampNeg = 9 * t + 3 from nI_clamp (show 9 * t + 3 < 2 ^ 31 by omega)]
  obtain ⟨bf, hbf⟩ : ∃ bf : Bool, bf = !decide (xs (9 * t + 3) = 0) := ⟨_, rfl⟩
  have key : W p l e room_1 s m #[Value.ref b] below meth c H locs (KC + t) (KS + 6 * t) (lw_Z below #[Value.ref b] s) (F0 m 1083 ls (.int (bI bf) :: .int (xs (9 * t + 2)) :: .int (xs (9 * t + 1)) :: .ref ob :: [])) := ?_
  · refine lv_if_eq (tgt := 1082) hx hb dL_law_1075 (by decide) (fun cz => ?_) (fun cz => ?_)
    · have : bf = false := by rw [hbf, decide_eq_true cz]; rfl
      subst this
      refine lv_iconst (v := (bI false)) hx hb dL_law_1082 (by decide) ?_
      exact key
    · have : bf = true := by rw [hbf, decide_eq_false cz]; rfl
      subst this
      refine lv_iconst (v := (bI true)) hx hb dL_law_1078 (by decide) ?_
      refine lv_goto (tgt := 1083) hx hb dL_law_1079 (by decide) ?_
      exact key
  refine lv_aload_n hx hb dL_law_1083 rfl (lv_at hl 3 rfl) ?_
  obtain ⟨k, Ps, hk4, hH, hM⟩ := J_tile l dC dI cJ cI cZ cH cB cT out ob om ahl abl asr pb atr tb mt fhl fbl ftr hA_ bA_ tA_ apx apy act asd amv asl apl asw aor aon atw aup alw fo nh kb nt hd hf bd fsr px0 py0 px1 py1 pdx pdy tx0 ty0 tx1 ty1 tdx tdy mu ml meu mel mbar ft cd ns fpx fpy ct nb fsd fmv fsl fpl fsw nw nc od fon ftw mx my fup flw nm up lo rx ry (xs (9 * t + 1)) (xs (9 * t + 2)) bf hst hlk hR
  refine gSH (As := [.ref ob, .int (xs (9 * t + 1)), .int (xs (9 * t + 2)), .int (bI bf), .ref out]) (rest := []) ⟨hx, hb, hml, hown, htl⟩ hH (vx_cwSW 5 htl gL_law_L_tile rfl rfl rfl (by decide +kernel) ⟨Nat.le_of_ble_eq_true rfl, Nat.le_of_ble_eq_true rfl⟩) hP hD hA hS hK hT hnc rfl rfl hl.1 (Nat.le_of_ble_eq_true rfl) dL_law_1084 ⟨(show KC + t + 1 ≤ 601024 by omega), (show KS + 6 * t + 6 ≤ 7293034 by omega)⟩ (fun r B2 H locs hq hP hD hS => ?_)
  obtain ⟨rfl, f1, c1, hps, rfl⟩ := hq
  refine lv_istore (lv' := [(5, .int (nI k)), (0, .ref b), (1, .ref ob), (2, .ref om), (3, .ref out), (4, .int (nI (9 * t)))]) hx hb dL_law_1087 hl (by decide) rfl (fun ls hl => ?_)
  refine lv_aload_n hx hb dL_law_1089 rfl (lv_at hl 3 rfl) ?_
  refine lv_aload_n hx hb dL_law_1090 rfl (lv_at hl 1 rfl) ?_
  refine lv_iload hx hb dL_law_1091 (lv_at hl 5 rfl) ?_
  refine lv_iconst (v := (nI 1)) hx hb dL_law_1093 (by decide) ?_
  refine lv_iadd hx hb dL_law_1094 ?_
  rw [show nI (9 * t) + nI 1 = nI (9 * t + 1) from nI_add _ _]
  refine va_sld hx hb hX hbl hbA hS (vp_in_nI (show 9 * t + 1 < L by omega) (by omega)) dL_law_1095 ?_
  rw [show (nI (9 * t + 1)).toNatClampNeg = 9 * t + 1 from nI_clamp (show 9 * t + 1 < 2 ^ 31 by omega)]
  refine lv_aload_n hx hb dL_law_1096 rfl (lv_at hl 1 rfl) ?_
  refine lv_iload hx hb dL_law_1097 (lv_at hl 5 rfl) ?_
  refine lv_iconst (v := (nI 2)) hx hb dL_law_1099 (by decide) ?_
  refine lv_iadd hx hb dL_law_1100 ?_
  rw [show nI (9 * t) + nI 2 = nI (9 * t + 2) from nI_add _ _]
  refine va_sld hx hb hX hbl hbA hS (vp_in_nI (show 9 * t + 2 < L by omega) (by omega)) dL_law_1101 ?_
  rw [show (nI (9 * t + 2)).toNatClampNeg = 9 * t + 2 from nI_clamp (show 9 * t + 2 < 2 ^ 31 by omega)]
  refine lv_aload_n hx hb dL_law_1102 rfl (lv_at hl 1 rfl) ?_
  refine lv_iload hx hb dL_law_1103 (lv_at hl 5 rfl) ?_
  refine lv_iconst (v := (nI 3)) hx hb dL_law_1105 (by decide) ?_
  refine lv_iadd hx hb dL_law_1106 ?_
  rw [show nI (9 * t) + nI 3 = nI (9 * t + 3) from nI_add _ _]
  refine va_sld hx hb hX hbl hbA hS (vp_in_nI (show 9 * t + 3 < L by omega) (by omega)) dL_law_1107 ?_
  rw [show (nI (9 * t + 3)).toNatClampNeg = 9 * t + 3 from nI_clamp (show 9 * t + 3 < 2 ^ 31 by omega)]
  have key2 : W p l e room_1 s m #[Value.ref b] below meth c H locs (KC + t + 1) (KS + 6 * t + 6) (lw_Z below #[Value.ref b] s) (F0 m 1116 ls (.int (bI bf) :: .int (xs (9 * t + 2)) :: .int (xs (9 * t + 1)) :: .ref om :: [])) := ?_
  · refine lv_if_eq (tgt := 1115) hx hb dL_law_1108 (by decide) (fun cz => ?_) (fun cz => ?_)
    · have : bf = false := by rw [hbf, decide_eq_true cz]; rfl
      subst this
      refine lv_iconst (v := (bI false)) hx hb dL_law_1115 (by decide) ?_
      exact key2
    · have : bf = true := by rw [hbf, decide_eq_false cz]; rfl
      subst this
      refine lv_iconst (v := (bI true)) hx hb dL_law_1111 (by decide) ?_
      refine lv_goto (tgt := 1116) hx hb dL_law_1112 (by decide) ?_
      exact key2
  refine gVi (ci := 5) (q0 := 2) (As := [.int (xs (9 * t + 1)), .int (xs (9 * t + 2)), .int (bI bf)]) (rest := []) ⟨hx, hb, hml, hown, htl⟩ (hM f1 c1 hps) (cwV 3 htl gL_law_X5_tile rfl rfl rfl (by decide +kernel) ⟨Nat.le_of_ble_eq_true rfl, Nat.le_of_ble_eq_true rfl⟩) hP hD hA hS hK rfl rfl rfl rfl hl.1 (Nat.le_of_ble_eq_true rfl) dL_law_1116 ⟨(show KC + t + 1 + 0 ≤ 601024 by omega), (show KS + 6 * t + 6 + 0 ≤ 7293034 by omega)⟩ (fun rb B2 H locs hq hP hD hS => ?_)
  obtain ⟨bb, rfl, e1, z1, rfl, hz, hR1⟩ := hq
  refine lv_istore (lv' := [(6, .int (bI bb)), (5, .int (nI k)), (0, .ref b), (1, .ref ob), (2, .ref om), (3, .ref out), (4, .int (nI (9 * t)))]) hx hb dL_law_1119 hl (by decide) rfl (fun ls hl => ?_)
  refine lv_aload_n hx hb dL_law_1121 rfl (lv_at hl 4 rfl) ?_
  refine gVi (ci := 5) (q0 := 2) (As := []) (rest := []) ⟨hx, hb, hml, hown, htl⟩ (thrownG l dC dI cJ cI cZ cH cB cT out ob om ahl abl asr pb atr tb mt fhl fbl ftr hA_ bA_ tA_ apx apy act asd amv asl apl asw aor aon atw aup alw f1 c1 k e1 z1) (cwV 0 htl gL_law_X5_thrown rfl rfl rfl (by decide +kernel) ⟨Nat.le_of_ble_eq_true rfl, Nat.le_of_ble_eq_true rfl⟩) hP hD hA hS hK rfl rfl rfl rfl hl.1 (Nat.le_of_ble_eq_true rfl) dL_law_1122 ⟨(show KC + t + 1 + 0 ≤ 601024 by omega), (show KS + 6 * t + 6 + 0 ≤ 7293034 by omega)⟩ (fun rt B2 H locs hq hP hD hS => ?_)
  obtain ⟨rfl, rfl⟩ := hq
  refine lv_iload hx hb dL_law_1125 (lv_at hl 1 rfl) ?_
  refine lv_icmp_eq (tgt := 1132) hx hb dL_law_1127 (by decide) (fun _ => ?_) (fun z => absurd rfl z)
  refine lv_iload hx hb dL_law_1132 (lv_at hl 1 rfl) ?_
  refine lv_if_ne (tgt := 1156) hx hb dL_law_1134 (by decide) (fun _ => ?_) (fun z => ?_)
  · refine lv_goto (tgt := 1669) hx hb dL_law_1156 (by decide) ?_
    exact (W.eqC (show KC + t + 1 = KC + (t + 1) by omega) (show KS + 6 * t + 6 = KS + 6 * (t + 1) by omega) (kk f1 c1 k e1 z1 _ _ _ hR1 hP hD hS (lv_sub hl [2, 3, 4, 5, 6] rfl)))
  · have hk0 : k = 0 := nI_z hk4 z
    have hz := hz hk0
    refine lv_aload_n hx hb dL_law_1137 rfl (lv_at hl 5 rfl) ?_
    refine lv_iconst (v := (nI 0)) hx hb dL_law_1138 (by decide) ?_
    refine va_lald hx hb hK hP 0 0 rfl rfl (vp_in_nI (show 0 < 1 by omega) (by omega)) dL_law_1139 ?_
    rw [show (nI 0).toNatClampNeg = 0 from nI_clamp (show 0 < 2 ^ 31 by omega)]
    refine lv_iload hx hb dL_law_1140 (lv_at hl 0 rfl) ?_
    refine lv_if_eq (tgt := 1149) hx hb dL_law_1142 (by decide) (fun cz => ?_) (fun cz => ?_)
    · have hbb : bb = false := bI_0 cz
      subst hbb
      refine lv_lconst (v := 0) hx hb dL_law_1149 (by decide) ?_
      refine W.lcmp hx hb dL_law_1150 ?_
      refine lv_if_eq (tgt := 1156) hx hb dL_law_1151 (by decide) (fun cq => ?_) (fun cq => ?_)
      · refine lv_goto (tgt := 1669) hx hb dL_law_1156 (by decide) ?_
        exact (W.eqC (show KC + t + 1 = KC + (t + 1) by omega) (show KS + 6 * t + 6 = KS + 6 * (t + 1) by omega) (kk f1 c1 k e1 z1 _ _ _ hR1 hP hD hS (lv_sub hl [2, 3, 4, 5, 6] rfl)))
      · rw [lg_cmp_eq] at cq; exact absurd hz cq
    · have hbb : bb = true := bI_n cz
      subst hbb
      refine lv_lconst (v := 1) hx hb dL_law_1145 (by decide) ?_
      refine lv_goto (tgt := 1150) hx hb dL_law_1146 (by decide) ?_
      refine W.lcmp hx hb dL_law_1150 ?_
      refine lv_if_eq (tgt := 1156) hx hb dL_law_1151 (by decide) (fun cq => ?_) (fun cq => ?_)
      · refine lv_goto (tgt := 1669) hx hb dL_law_1156 (by decide) ?_
        exact (W.eqC (show KC + t + 1 = KC + (t + 1) by omega) (show KS + 6 * t + 6 = KS + 6 * (t + 1) by omega) (kk f1 c1 k e1 z1 _ _ _ hR1 hP hD hS (lv_sub hl [2, 3, 4, 5, 6] rfl)))
      · rw [lg_cmp_eq] at cq; exact absurd hz cq
